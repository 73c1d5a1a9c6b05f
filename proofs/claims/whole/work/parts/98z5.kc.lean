/-! COMPILING: the state of class and reference side by side; characters, numbers -/
def kcP (A KC KS q : Nat) (M : zM) (a b : Nat) : Prop := ∃ a0 b0, iPool M A a0 b0 ∧ a ≤ a0 ∧ b ≤ b0 ∧ zsz M + (150 - a0) + (150 - b0) + q ≤ KC ∧ zsl M + 12 * (150 - a0) + 6 * (150 - b0) + 6 * q ≤ KS ∧ A + 73 ≤ zsz M ∧ ∀ x s, zsh M x = some s → x < zsz M
def kcX (A n : Nat) (M : zM) (J : zJ) : Prop := zi M (A + 2) 6 = nI n ∧ J 0 2 = nI n ∧ ∀ k, k < n → zi M (A + 1) k = J 1 k ∧ ∃ ch, ch < 65536 ∧ J 1 k = nI ch
/-- text of n characters, at place p, a types, b members, c nodes taken, no fault -/
def kcS (A KC KS q : Nat) (M : zM) (J : zJ) (n p a b c : Nat) : Prop := iLay M A ∧ kcP A KC KS q M a b ∧ n ≤ 150 ∧ kcX A n M J ∧ (zi M (A + 2) 7 = nI p ∧ J 0 3 = nI p ∧ p ≤ n) ∧ (zi M (A + 2) 8 = 0 ∧ J 0 4 = 0) ∧ (zi M (A + 2) 4 = nI a ∧ zi M (A + 2) 5 = nI b ∧ J 0 10 = nI c ∧ a ≤ p ∧ b ≤ p ∧ c ≤ p)
/-- what compiling leaves alone in any case -/
def wMf (A : Nat) (M M' : zM) : Prop := (∀ x s, zsh M x = some s → zsh M' x = some s) ∧ (∀ c, c ≤ 72 → c ≠ 2 → zi M' (A + c) = zi M (A + c)) ∧ (∀ c, c ≤ 72 → c ≠ 3 → c ≠ 4 → c ≠ 5 → zr M' (A + c) = zr M (A + c)) ∧ (∀ c, c ≤ 72 → zl M' (A + c) = zl M (A + c)) ∧ zi M' (A + 2) 6 = zi M (A + 2) 6
def kJ (J J' : zJ) : Prop := ∀ c k, ¬ (2 ≤ c ∧ c ≤ 17) → ¬ (c = 0 ∧ (k = 3 ∨ k = 4 ∨ k = 5 ∨ k = 6 ∨ k = 10 ∨ k = 23 ∨ k = 24)) → J' c k = J c k
def kcBad (A KC KS q : Nat) (M : zM) (J : zJ) (M' : zM) (J' : zJ) : Prop := wMf A M M' ∧ kJ J J' ∧ kcP A KC KS q M' 0 0 ∧ ∃ f, 1 ≤ f ∧ f < 4096 ∧ zi M' (A + 2) 8 = nI f ∧ J' 0 4 = nI f
theorem wMf_refl (A : Nat) (M : zM) : wMf A M M := ⟨fun _ _ h => h, fun _ _ _ => rfl, fun _ _ _ _ _ => rfl, fun _ _ => rfl, rfl⟩
theorem wMf_trans {A : Nat} {M M1 M2 : zM} (h1 : wMf A M M1) (h2 : wMf A M1 M2) : wMf A M M2 := ⟨fun x s h => h2.1 x s (h1.1 x s h), fun c a b => (h2.2.1 c a b).trans (h1.2.1 c a b), fun c a b d e => (h2.2.2.1 c a b d e).trans (h1.2.2.1 c a b d e), fun c a => (h2.2.2.2.1 c a).trans (h1.2.2.2.1 c a), h2.2.2.2.2.trans h1.2.2.2.2⟩
theorem kJ_refl (J : zJ) : kJ J J := fun _ _ _ _ => rfl
theorem kJ_trans {J J1 J2 : zJ} (h1 : kJ J J1) (h2 : kJ J1 J2) : kJ J J2 := fun c k a b => (h2 c k a b).trans (h1 c k a b)
theorem kcBad_l {A KC KS q : Nat} {M M1 M2 : zM} {J J1 J2 : zJ} (h1 : wMf A M M1) (h2 : kJ J J1) (h : kcBad A KC KS q M1 J1 M2 J2) : kcBad A KC KS q M J M2 J2 := ⟨wMf_trans h1 h.1, kJ_trans h2 h.2.1, h.2.2⟩
theorem wMf_lay {A : Nat} {M M' : zM} (h : wMf A M M') (hL : iLay M A) : iLay M' A := by
  obtain ⟨⟨l1, l2⟩, ⟨l3, l4⟩, l5⟩ := hL
  have hd : ∀ q ∈ dRf, q.1 ≤ 72 ∧ q.1 ≠ 3 ∧ q.1 ≠ 4 ∧ q.1 ≠ 5 := by decide
  have hm : ∀ q ∈ mRf, q.1 = 0 := by decide
  refine ⟨⟨fun q hq => h.1 _ _ (l1 q hq), fun q hq => ?_⟩, ⟨fun q hq => h.1 _ _ (l3 q hq), fun q hq => ?_⟩, h.1 _ _ l5⟩
  · obtain ⟨g1, g2, g3, g4⟩ := hd q hq
    rw [h.2.2.1 q.1 g1 g2 g3 g4]
    exact l2 q hq
  · have e : A + 32 + q.1 = A + (32 + q.1) := by omega
    have := hm q hq
    rw [e, h.2.2.1 (32 + q.1) (by omega) (by omega) (by omega) (by omega), ← e]
    exact l4 q hq
/-- only ints of the compiler and of object x have changed -/
def oF (A x : Nat) (M M' : zM) : Prop := zsh M' = zsh M ∧ zsz M' = zsz M ∧ zsl M' = zsl M ∧ zl M' = zl M ∧ (∀ y, y ≠ x → y ≠ A + 2 → zi M' y = zi M y) ∧ (∀ y, y ≠ x → zr M' y = zr M y)
theorem oF_refl (A x : Nat) (M : zM) : oF A x M M := ⟨rfl, rfl, rfl, rfl, fun _ _ _ => rfl, fun _ _ => rfl⟩
theorem oF_trans {A x : Nat} {M M1 M2 : zM} (h1 : oF A x M M1) (h2 : oF A x M1 M2) : oF A x M M2 := ⟨h2.1.trans h1.1, h2.2.1.trans h1.2.1, h2.2.2.1.trans h1.2.2.1, h2.2.2.2.1.trans h1.2.2.2.1, fun y a b => (h2.2.2.2.2.1 y a b).trans (h1.2.2.2.2.1 y a b), fun y a => (h2.2.2.2.2.2 y a).trans (h1.2.2.2.2.2 y a)⟩
theorem oF_c (A x : Nat) (M : zM) (k : Nat) (v : Int32) : oF A x M (zpi M (A + 2) k v) := ⟨rfl, rfl, rfl, rfl, fun y _ hy => by funext j; rw [zi_pi, if_neg (fun z => hy z.1)], fun _ _ => rfl⟩
theorem oF_x (A x : Nat) (M : zM) (k : Nat) (v : Int32) : oF A x M (zpi M x k v) := ⟨rfl, rfl, rfl, rfl, fun y hy _ => by funext j; rw [zi_pi, if_neg (fun z => hy z.1)], fun _ _ => rfl⟩
theorem oF_r (A x : Nat) (M : zM) (k : Nat) (v : Option Nat) : oF A x M (zpr M x k v) := ⟨rfl, rfl, rfl, rfl, fun y _ _ => rfl, fun y hy => by funext j; rw [zr_pr, if_neg (fun z => hy z.1)]⟩
theorem oF_wMf {A x : Nat} {M M' : zM} (hx : ∀ c, c ≤ 72 → x ≠ A + c) (h : oF A x M M') (h6 : zi M' (A + 2) 6 = zi M (A + 2) 6) : wMf A M M' := by
  obtain ⟨h1, h2, h3, h4, h5, h6'⟩ := h
  exact ⟨fun y s hs => by rw [h1]; exact hs, fun c hc h2c => h5 _ (Ne.symm (hx c hc)) (by omega), fun c hc _ _ _ => h6' _ (Ne.symm (hx c hc)), fun c _ => by rw [h4], h6⟩
theorem kcP_o {A KC KS q x a b : Nat} {M M' : zM} (hx : ∀ c, c ≤ 72 → x ≠ A + c) (h : oF A x M M') (hp : kcP A KC KS q M a b) : kcP A KC KS q M' a b := by
  obtain ⟨a0, b0, p1, p2, p3, p4, p5, p6, p7⟩ := hp
  obtain ⟨h1, h2, h3, h4, h5, h6⟩ := h
  refine ⟨a0, b0, ?_, p2, p3, by omega, by omega, by omega, fun y s hs => by rw [h2]; exact p7 y s (by rw [← h1]; exact hs)⟩
  unfold iPool
  rw [h1, h6 _ (Ne.symm (hx 4 (by omega))), h6 _ (Ne.symm (hx 5 (by omega)))]
  exact p1
theorem kcP_0 {A KC KS q a b : Nat} {M : zM} (h : kcP A KC KS q M a b) : kcP A KC KS q M 0 0 := by
  obtain ⟨a0, b0, p1, p2, p3, p4⟩ := h
  exact ⟨a0, b0, p1, by omega, by omega, p4⟩
/-- the state behind a change of the compiler's ints and of one object -/
theorem kcS_o {A KC KS q n p a b c p' c' x : Nat} {M M' : zM} {J J' : zJ} (h : kcS A KC KS q M J n p a b c) (hx : ∀ c, c ≤ 72 → x ≠ A + c) (ho : oF A x M M') (h6 : zi M' (A + 2) 6 = zi M (A + 2) 6) (h7 : zi M' (A + 2) 7 = nI p') (h8 : zi M' (A + 2) 8 = 0) (h4 : zi M' (A + 2) 4 = zi M (A + 2) 4) (h5 : zi M' (A + 2) 5 = zi M (A + 2) 5) (hj : kJ J J') (j3 : J' 0 3 = nI p') (j4 : J' 0 4 = 0) (j10 : J' 0 10 = nI c') (hp : p ≤ p') (hpn : p' ≤ n) (hc : c' ≤ p') : kcS A KC KS q M' J' n p' a b c' := by
  obtain ⟨s1, s2, s3, ⟨x1, x2, x3⟩, ⟨s5, s6, s7⟩, ⟨s8, s9⟩, s10, s11, s12, s13, s14, s15⟩ := h
  have j1 : J' 1 = J 1 := funext (fun k => hj 1 k (by omega) (by omega))
  refine ⟨wMf_lay (oF_wMf hx ho h6) s1, kcP_o hx ho s2, s3, ⟨by rw [h6]; exact x1, by rw [hj 0 2 (by omega) (by omega)]; exact x2, fun k hk => ?_⟩, ⟨h7, j3, hpn⟩, ⟨h8, j4⟩, by rw [h4]; exact s10, by rw [h5]; exact s11, j10, by omega, by omega, hc⟩
  rw [j1, ho.2.2.2.2.1 (A + 1) (Ne.symm (hx 1 (by omega))) (by omega)]
  exact x3 k hk
/-- no object at all -/
def kNo (A : Nat) : Nat := A + 73
theorem kNo_x (A : Nat) : ∀ c, c ≤ 72 → kNo A ≠ A + c := fun c hc => by unfold kNo; omega
/-- the character at place p -/
def cx (J : zJ) (n p : Nat) : Int32 := if p < n then J 1 p else -1
theorem kc_look {A KC KS q n p a b c : Nat} {M : zM} {J : zJ} (h : kcS A KC KS q M J n p a b c) (N : Nat) : FC_nextCharacter N KC KS (A + 2) M = some (cx J n p, M) ∧ FM_look N J = some (cx J n p, J) := by
  obtain ⟨s1, s2, s3, ⟨x1, x2, x3⟩, ⟨s5, s6, s7⟩, -⟩ := h
  have hL := s1.1
  unfold FC_nextCharacter FM_look cx
  rw [x1, x2, s5, s6]
  by_cases hp : p < n
  · have hc : ¬ nI n ≤ nI p := by rw [nI_leI (by omega) (by omega)]; omega
    rw [if_neg hc, if_neg hc, if_pos hp, qa_s (zLr hL 38 rfl) (zLs hL 1 rfl) (qi_nI (by omega) (by omega)), qk_t (qi_nI (by omega) (by omega)), nI_clamp (by omega), (x3 p hp).1]
    exact ⟨rfl, rfl⟩
  · have hc : nI n ≤ nI p := by rw [nI_leI (by omega) (by omega)]; omega
    rw [if_pos hc, if_pos hc, if_neg hp]
    exact ⟨rfl, rfl⟩
theorem cx_lt {J : zJ} {n p : Nat} {v : Int32} (h : cx J n p = v) (hv : v ≠ -1) : p < n := by
  unfold cx at h
  by_cases c : p < n
  · exact c
  · rw [if_neg c] at h
    exact absurd h.symm hv
theorem zpi_id {M : zM} {x k : Nat} {v : Int32} (h : zi M x k = v) : zpi M x k v = M := by
  obtain ⟨m1, m2, m3⟩ := M
  unfold zpi
  have : zu m2 x k v = m2 := by
    funext a j
    rw [zu_at]
    by_cases c : a = x ∧ j = k
    · rw [if_pos c, c.1, c.2]
      exact h.symm
    · rw [if_neg c]
  show (m1, zu m2 x k v, m3) = _
  rw [this]
theorem zpi_same (M : zM) (x k : Nat) (v w : Int32) : zpi (zpi M x k v) x k w = zpi M x k w := by
  show (M.1, zu (zu M.2.1 x k v) x k w, M.2.2) = (M.1, zu M.2.1 x k w, M.2.2)
  have : zu (zu M.2.1 x k v) x k w = zu M.2.1 x k w := by
    funext a j
    rw [zu_at, zu_at, zu_at]
    by_cases c : a = x ∧ j = k
    · rw [if_pos c, if_pos c]
    · rw [if_neg c, if_neg c, if_neg c]
  rw [this]
/-- the place goes on -/
def mP (M : zM) (A p : Nat) : zM := zpi M (A + 2) 7 (nI p)
def jP (J : zJ) (p : Nat) : zJ := zu J 0 3 (nI p)
theorem kc_go {A KC KS q n p a b c p' : Nat} {M : zM} {J : zJ} (h : kcS A KC KS q M J n p a b c) (hp : p ≤ p') (hpn : p' ≤ n) : kcS A KC KS q (mP M A p') (jP J p') n p' a b c := by
  have h' := h
  obtain ⟨s1, s2, s3, s4, ⟨s5, s6, s7⟩, ⟨s8, s9⟩, s10, s11, s12, s13, s14, s15⟩ := h
  unfold mP jP
  refine kcS_o (x := kNo A) h' (kNo_x A) (oF_c _ _ _ _ _) (by rw [zi_pi, if_neg (by omega)]) (by rw [zi_pi, if_pos ⟨rfl, rfl⟩]) (by rw [zi_pi, if_neg (by omega)]; exact s8) (by rw [zi_pi, if_neg (by omega)]) (by rw [zi_pi, if_neg (by omega)]) (fun c k _ h2 => by rw [zu_at, if_neg (by omega)]) (zu_self _ _ _ _) (by rw [zu_at, if_neg (by omega)]; exact s9) (by rw [zu_at, if_neg (by omega)]; exact s12) hp hpn (by omega)
theorem kc_7 {A KC KS q n p a b c : Nat} {M : zM} {J : zJ} (h : kcS A KC KS q M J n p a b c) : zi M (A + 2) 7 = nI p ∧ J 0 3 = nI p ∧ zsh M (A + 2) = some (.inl 0) ∧ p ≤ n ∧ n ≤ 150 ∧ J 0 4 = 0 := ⟨h.2.2.2.2.1.1, h.2.2.2.2.1.2.1, zLs h.1.1 2 rfl, h.2.2.2.2.1.2.2, h.2.2.1, h.2.2.2.2.2.1.2⟩
theorem kc_self {A KC KS q n p a b c : Nat} {M : zM} {J : zJ} (h : kcS A KC KS q M J n p a b c) : mP M A p = M ∧ jP J p = J := ⟨zpi_id (kc_7 h).1, zu_id J 0 3 _ (kc_7 h).2.1⟩
/-- a fault -/
def mFt (M : zM) (A f : Nat) : zM := zpi M (A + 2) 8 (nI f)
def jF (J : zJ) (f : Nat) : zJ := zu J 0 4 (nI f)
theorem kc_bad {A KC KS q n p a b c f : Nat} {M M' : zM} {J J' : zJ} (h : kcS A KC KS q M J n p a b c) (ho : oF A (kNo A) M M') (h6 : zi M' (A + 2) 6 = zi M (A + 2) 6) (hf : 1 ≤ f) (hf2 : f < 4096) (h8 : zi M' (A + 2) 8 = nI f) (hj : kJ J J') (j4 : J' 0 4 = nI f) : kcBad A KC KS q M J M' J' :=
  ⟨oF_wMf (kNo_x A) ho h6, hj, kcP_0 (kcP_o (kNo_x A) ho h.2.1), f, hf, hf2, h8, j4⟩
theorem kc_bad0 {A KC KS q n p a b c f : Nat} {M : zM} {J : zJ} (h : kcS A KC KS q M J n p a b c) (hf : 1 ≤ f) (hf2 : f < 4096) : kcBad A KC KS q M J (mFt M A f) (jF J f) := by
  unfold mFt jF
  exact kc_bad h (oF_c _ _ _ _ _) (by rw [zi_pi, if_neg (by omega)]) hf hf2 (by rw [zi_pi, if_pos ⟨rfl, rfl⟩]) (fun c k _ h2 => by rw [zu_at, if_neg (by omega)]) (zu_self _ _ _ _)
theorem eC_refuse {KC KS A k p : Nat} (M : zM) (N : Nat) : FC_refuse N KC KS (A + 2) (nI k) (nI p) M = some ((), mFt M A (k + 16 * p)) := by
  unfold FC_refuse mFt
  rw [show (16 : Int32) = nI 16 from rfl, nI_mul, nI_add]
theorem eM_stop {k p : Nat} {J : zJ} (h : J 0 4 = 0) (N : Nat) : FM_stop N (nI k) (nI p) J = some (-1, jF J (k + 16 * p)) := by
  unfold FM_stop jF
  rw [if_pos h, show (16 : Int32) = nI 16 from rfl, nI_mul, nI_add]
theorem eM_stop2 {J : zJ} {f : Nat} (h : J 0 4 = nI f) (hf : 1 ≤ f) (hf2 : f < 4096) (N : Nat) (x y : Int32) : FM_stop N x y J = some (-1, J) := by
  unfold FM_stop
  rw [h, if_neg (by rw [show (0 : Int32) = nI 0 from rfl, nI_eq (by omega) (by omega)]; omega)]
theorem kc_pass {A KC KS q n p a b c : Nat} {M : zM} {J : zJ} (h : kcS A KC KS q M J n p a b c) (ch : Nat) (hch : ch < 65536) (N : Nat) : (cx J n p = nI ch → FC_pass N KC KS (A + 2) (nI ch) M = some (true, mP M A (p + 1)) ∧ FM_need N (nI ch) J = some (true, jP J (p + 1)) ∧ p < n) ∧ (cx J n p ≠ nI ch → FC_pass N KC KS (A + 2) (nI ch) M = some (false, mFt M A (1 + 16 * p)) ∧ FM_need N (nI ch) J = some (false, jF J (1 + 16 * p))) := by
  obtain ⟨l1, l2⟩ := kc_look h N
  obtain ⟨k1, k2, k3, k4, k5, k6⟩ := kc_7 h
  unfold FC_pass FM_need
  rw [l1, l2, qb_some, qb_some]
  refine ⟨fun e => ?_, fun e => ?_⟩
  · rw [if_pos e, if_pos e, qk_d k3]
    simp only
    rw [k1, k2, nI_add1]
    refine ⟨rfl, ?_, cx_lt e (nI_n1 (by omega))⟩
    unfold FM_need_31
    rw [if_pos (by rw [zu_at, if_neg (by omega)]; exact k6)]
    rfl
  · rw [if_neg e, if_neg e, qk_d k3, k1, k2, show (1 : Int32) = nI 1 from rfl, eC_refuse, qb_some, eM_stop k6, qb_some]
    refine ⟨rfl, ?_⟩
    unfold FM_need_31
    rw [if_neg]
    unfold jF
    rw [zu_self, show (0 : Int32) = nI 0 from rfl, nI_eq (by omega) (by omega)]
    omega
/-! numbers -/
def isDg (v : Int32) : Bool := decide (48 ≤ v.toInt ∧ v.toInt ≤ 57)
theorem eC_dig (N : Nat) (v : Int32) : FC_isDigit N v = some (isDg v) := by
  unfold FC_isDigit isDg
  simp only [Int32.lt_iff_toInt_lt, i_lit 48 (by omega), i_lit 57 (by omega)]
  by_cases c1 : v.toInt < ((48 : Nat) : Int)
  · rw [if_pos c1, decide_eq_false (by omega)]
  · rw [if_neg c1]
    by_cases c2 : ((57 : Nat) : Int) < v.toInt
    · rw [if_pos c2, decide_eq_false (by omega)]
    · rw [if_neg c2, decide_eq_true (by omega)]
theorem eM_dig (N : Nat) (v : Int32) : FM_in N v 48 57 = some (isDg v) := by
  rw [FM_in_eq, i_lit 48 (by omega), i_lit 57 (by omega)]
  unfold isDg
  congr 1
  by_cases c : 48 ≤ v.toInt ∧ v.toInt ≤ 57
  · rw [decide_eq_true c]
    simp
    omega
  · rw [decide_eq_false c]
    simp
    omega
theorem isDg_v {v : Int32} (h : isDg v = true) : ∃ g, g ≤ 9 ∧ v = nI (48 + g) := by
  unfold isDg at h
  have h := of_decide_eq_true h
  obtain ⟨j, j1, j2, j3⟩ := nI_ex (x := v) (by omega)
  exact ⟨j - 48, by omega, by rw [j2]; congr 1; omega⟩
theorem isDg_m : isDg (-1) = false := by decide
theorem mP_P (M : zM) (A p p' : Nat) : mP (mP M A p) A p' = mP M A p' := zpi_same _ _ _ _ _
theorem jP_P (J : zJ) (p p' : Nat) : jP (jP J p) p' = jP J p' := zu_same _ _ _ _ _
theorem kc_look0 {A KC KS q n p a b c : Nat} {M : zM} {J : zJ} (h : kcS A KC KS q M J n p a b c) (J0 : zJ) (p' : Nat) (hk : kJ J J0) (hp' : p' ≤ n) (N : Nat) : FM_look N (jP J0 p') = some (cx J n p', jP J0 p') := by
  obtain ⟨s1, s2, s3, ⟨x1, x2, x3⟩, -⟩ := h
  have e2 : jP J0 p' 0 2 = nI n := by unfold jP; rw [zu_at, if_neg (by omega), hk 0 2 (by omega) (by omega)]; exact x2
  have e3 : jP J0 p' 0 3 = nI p' := zu_self _ _ _ _
  have e1 : jP J0 p' 1 = J 1 := by unfold jP; rw [zu_ne _ _ _ (by omega)]; exact funext (fun k => hk 1 k (by omega) (by omega))
  unfold FM_look cx
  rw [e2, e3]
  by_cases hc : p' < n
  · rw [if_neg (by rw [nI_leI (by omega) (by omega)]; omega), if_pos hc, qk_t (qi_nI (by omega) (by omega)), nI_clamp (by omega), e1]
  · rw [if_pos (by rw [nI_leI (by omega) (by omega)]; omega), if_neg hc]
theorem cx_P (J : zJ) (s n r : Nat) : cx (jP J s) n r = cx J n r := by unfold cx jP; rw [zu_ne _ _ _ (by omega)]
/-- digits from k to at most 5 of them; w: the number so far -/
theorem kc_digits {A KC KS q n p a b c : Nat} {M : zM} {J : zJ} (h : kcS A KC KS q M J n p a b c) (neg : Int32) : ∀ m k w, k + m = 5 → p + k ≤ n → w < 10 ^ k → ∃ k' w', k ≤ k' ∧ k' ≤ 5 ∧ p + k' ≤ n ∧ w' < 10 ^ k' ∧ (k' = 5 ∨ isDg (cx J n (p + k')) = false) ∧ (isDg (cx J n (p + k)) = false → k' = k ∧ w' = w) ∧ (k < 5 → isDg (cx J n (p + k)) = true → k < k') ∧ (∀ N F, m + 1 ≤ F → qfix (FC_readNumber_33 N KC KS (A + 2) neg) F (nI k, nI w, mP M A (p + k)) = FC_readNumber_77 N KC KS (A + 2) neg (nI k') (nI w') (mP M A (p + k'))) ∧ (∀ N F (J0 : zJ), kJ J J0 → m + 1 ≤ F → qfix (FM_numeral_66 N neg (nI (p + 5))) F (nI w, jP J0 (p + k)) = FM_numeral_114 N neg (nI w') (jP J0 (p + k'))) := by
  obtain ⟨-, -, -, -, n150, -⟩ := kc_7 h
  intro m
  induction m with
  | zero =>
    intro k w hk hp hw
    have hk5 : k = 5 := by omega
    subst hk5
    refine ⟨5, w, by omega, by omega, hp, hw, Or.inl rfl, fun _ => ⟨rfl, rfl⟩, fun h => by omega, fun N F hF => ?_, fun N F J0 hJ0 hF => ?_⟩
    · obtain ⟨F, rfl⟩ : ∃ g, F = g + 1 := ⟨F - 1, by omega⟩
      rw [qfix_s]
      simp only [FC_readNumber_33]
      rw [if_pos (by decide)]
    · obtain ⟨F, rfl⟩ : ∃ g, F = g + 1 := ⟨F - 1, by omega⟩
      rw [qfix_s]
      simp only [FM_numeral_66]
      rw [kc_look0 h J0 _ hJ0 hp, qb_some, eM_dig, qc_some]
      by_cases hd : (bI (isDg (cx J n (p + 5)))) = 0
      · rw [if_pos hd]
      · rw [if_neg hd, if_pos (by show nI (p + 5) ≤ zu _ _ _ _ _ _; rw [zu_self]; exact Int32.le_refl _)]
  | succ m ih =>
    intro k w hk hp hw
    have hl1 : ∀ N, FC_nextCharacter N KC KS (A + 2) (mP M A (p + k)) = some (cx J n (p + k), mP M A (p + k)) := by
      intro N
      have := (kc_look (kc_go (p' := p + k) h (by omega) hp) N).1
      rw [this, cx_P]
    have k3 := (kc_7 (kc_go (p' := p + k) h (by omega) hp)).2.2.1
    have k1 := (kc_7 (kc_go (p' := p + k) h (by omega) hp)).1
    have k5 : ¬ (5 : Int32) ≤ nI k := by rw [show (5 : Int32) = nI 5 from rfl, nI_leI (by omega) (by omega)]; omega
    cases hd : isDg (cx J n (p + k)) with
    | false =>
      refine ⟨k, w, by omega, by omega, hp, hw, Or.inr hd, fun _ => ⟨rfl, rfl⟩, fun _ h => (by cases h), fun N F hF => ?_, fun N F J0 hJ0 hF => ?_⟩
      · obtain ⟨F, rfl⟩ : ∃ g, F = g + 1 := ⟨F - 1, by omega⟩
        rw [qfix_s]
        simp only [FC_readNumber_33]
        rw [if_neg k5, qk_d k3, hl1, qb_some, eC_dig, qc_some, hd, if_pos (by decide)]
      · obtain ⟨F, rfl⟩ : ∃ g, F = g + 1 := ⟨F - 1, by omega⟩
        rw [qfix_s]
        simp only [FM_numeral_66]
        rw [kc_look0 h J0 _ hJ0 hp, qb_some, eM_dig, qc_some, hd, if_pos (by decide)]
    | true =>
      obtain ⟨g, g1, g2⟩ := isDg_v hd
      have hpn : p + k < n := cx_lt g2 (nI_n1 (by omega))
      have hpw : 10 ^ (k + 1) = 10 * 10 ^ k := by rw [Nat.pow_succ, Nat.mul_comm]
      have hp5 : 10 ^ k ≤ 10 ^ 4 := Nat.pow_le_pow_right (by omega) (by omega)
      obtain ⟨k', w', i1, i2, i3, i4, i5, i6, i6', i7, i8⟩ := ih (k + 1) (10 * w + g) (by omega) (by omega) (by omega)
      have ev : (10 : Int32) * nI w + nI (48 + g) - 48 = nI (10 * w + g) := by
        rw [show (10 : Int32) = nI 10 from rfl, nI_mul, nI_add, show (48 : Int32) = nI 48 from rfl, nI_subs (by omega)]
        congr 1
        omega
      refine ⟨k', w', by omega, i2, i3, i4, i5, fun h => (by cases h), fun _ _ => by omega, fun N F hF => ?_, fun N F J0 hJ0 hF => ?_⟩
      · obtain ⟨F, rfl⟩ : ∃ g, F = g + 1 := ⟨F - 1, by omega⟩
        rw [qfix_s]
        simp only [FC_readNumber_33]
        rw [if_neg k5, qk_d k3, hl1, qb_some, eC_dig, qc_some, hd, if_neg (by decide), qk_d k3, hl1, qb_some, qk_d k3, k1, nI_add1, nI_add1, g2, ev]
        show qfix _ F (nI (k + 1), nI (10 * w + g), mP (mP M A (p + k)) A (p + k + 1)) = _
        rw [mP_P]
        exact i7 N F (by omega)
      · obtain ⟨F, rfl⟩ : ∃ g, F = g + 1 := ⟨F - 1, by omega⟩
        rw [qfix_s]
        simp only [FM_numeral_66]
        rw [kc_look0 h J0 _ hJ0 hp, qb_some, eM_dig, qc_some, hd, if_neg (by decide), show jP J0 (p + k) 0 3 = nI (p + k) from zu_self _ _ _ _, if_neg (by rw [nI_leI (by omega) (by omega)]; omega), kc_look0 h J0 _ hJ0 hp, qb_some, show jP J0 (p + k) 0 3 = nI (p + k) from zu_self _ _ _ _, nI_add1, g2, ev]
        show qfix _ F (nI (10 * w + g), jP (jP J0 (p + k)) (p + k + 1)) = _
        rw [jP_P]
        exact i8 N F J0 hJ0 (by omega)
/-- a number is read -/
def mN (M : zM) (A p : Nat) (v : Int32) : zM := zpi (mP M A p) (A + 2) 9 v
def jN (J : zJ) (p : Nat) (v : Int32) : zJ := zu (jP J p) 0 6 v
def sgn (ng w : Nat) : Int32 := if ng = 0 then nI w else -nI w
theorem sgn_b {ng w : Nat} (hw : w < 100000) : -99999 ≤ (sgn ng w).toInt ∧ (sgn ng w).toInt ≤ 99999 := by
  unfold sgn
  by_cases c : ng = 0
  · rw [if_pos c, nI_toInt (by omega)]
    omega
  · rw [if_neg c, Int32.toInt_neg, nI_toInt (by omega)]
    have : (-(w : Int)).bmod (2 ^ 32) = -(w : Int) := by
      rw [Int.bmod_eq_of_le] <;> omega
    rw [this]
    omega
theorem eM_138 (N : Nat) {ng : Nat} (hng : ng = 0 ∨ ng = 1) (w : Nat) (J : zJ) : FM_numeral_138 N (nI ng) (nI w) J = FM_numeral_149 N (sgn ng w) J := by
  unfold FM_numeral_138 sgn
  rcases hng with rfl | rfl
  · rw [if_pos (by decide), if_pos rfl]
  · rw [if_neg (by decide), if_neg (by omega)]
theorem kc_num {A KC KS q n p a b c : Nat} {M : zM} {J : zJ} (h : kcS A KC KS q M J n p a b c) : (∃ p' v, p < p' ∧ p' ≤ n ∧ -99999 ≤ v.toInt ∧ v.toInt ≤ 99999 ∧ Ev (fun N => FC_readNumber N KC KS (A + 2) M = some (true, mN M A p' v)) ∧ Ev (fun N => FM_numeral N J = some (true, jN J p' v))) ∨ (∃ M' J', kcBad A KC KS q M J M' J' ∧ Ev (fun N => FC_readNumber N KC KS (A + 2) M = some (false, M')) ∧ Ev (fun N => FM_numeral N J = some (false, J'))) := by
  obtain ⟨k1, k2, k3, k4, k5, k6⟩ := kc_7 h
  -- behind the sign
  have main : ∀ s ng, (ng = 0 ∨ ng = 1) → p ≤ s → s ≤ n → (∀ N, FC_readNumber N KC KS (A + 2) M = qfix (FC_readNumber_33 N KC KS (A + 2) (nI ng)) N (0, 0, mP M A s)) → (∀ N, FM_numeral N J = qb (FM_look N (jP J s)) fun v2 J3 => qc (FM_in N v2 48 57) fun v4 => if (bI v4) = 0 then qb (FM_stop N 1 (J3 0 3) J3) fun v5 J6 => FM_numeral_57 N (nI ng) J6 else FM_numeral_57 N (nI ng) J3) → (∃ p' v, p < p' ∧ p' ≤ n ∧ -99999 ≤ v.toInt ∧ v.toInt ≤ 99999 ∧ Ev (fun N => FC_readNumber N KC KS (A + 2) M = some (true, mN M A p' v)) ∧ Ev (fun N => FM_numeral N J = some (true, jN J p' v))) ∨ (∃ M' J', kcBad A KC KS q M J M' J' ∧ Ev (fun N => FC_readNumber N KC KS (A + 2) M = some (false, M')) ∧ Ev (fun N => FM_numeral N J = some (false, J'))) := by
    intro s ng hng hps hsn hC hM
    have h1 := kc_go h hps hsn
    obtain ⟨kk, w, d1, d2, d3, d4, d5, d6, d6', d7, d8⟩ := kc_digits h1 (nI ng) 5 0 0 (by omega) (by omega) (by omega)
    have hw5 : 10 ^ kk ≤ 10 ^ 5 := Nat.pow_le_pow_right (by omega) d2
    simp only [cx_P, Nat.add_zero] at d5 d6 d6'
    have d7 : ∀ N F, 6 ≤ F → qfix (FC_readNumber_33 N KC KS (A + 2) (nI ng)) F (0, 0, mP M A s) = FC_readNumber_77 N KC KS (A + 2) (nI ng) (nI kk) (nI w) (mP M A (s + kk)) := by
      intro N F hF
      have := d7 N F hF
      rw [Nat.add_zero, mP_P, mP_P] at this
      exact this
    have hlk : ∀ r, p ≤ r → r ≤ n → ∀ N, FC_nextCharacter N KC KS (A + 2) (mP M A r) = some (cx J n r, mP M A r) ∧ FM_look N (jP J r) = some (cx J n r, jP J r) := by
      intro r h1 h2 N
      have := kc_look (kc_go (p' := r) h (by omega) h2) N
      rw [cx_P] at this
      exact this
    have g3 : ∀ r, zsh (mP M A r) (A + 2) = some (.inl 0) := fun r => k3
    have g7 : ∀ r, zi (mP M A r) (A + 2) 7 = nI r := fun r => by unfold mP; rw [zi_pi, if_pos ⟨rfl, rfl⟩]
    have j3 : ∀ r, jP J r 0 3 = nI r := fun r => zu_self _ _ _ _
    have j4 : ∀ r, jP J r 0 4 = 0 := fun r => by unfold jP; rw [zu_at, if_neg (by omega)]; exact k6
    have bad : ∀ r x, r ≤ n → kcBad A KC KS q M J (mFt (mP M A r) A (1 + 16 * r)) (zu (jF (jP J r) (1 + 16 * r)) 0 6 x) := by
      intro r x hr
      refine kc_bad h (oF_trans (oF_c _ _ _ _ _) (oF_c _ _ _ _ _)) ?_ (f := 1 + 16 * r) (by omega) (by omega) ?_ ?_ ?_
      · unfold mFt mP; rw [zi_pi, if_neg (by omega), zi_pi, if_neg (by omega)]
      · unfold mFt; rw [zi_pi, if_pos ⟨rfl, rfl⟩]
      · intro c k _ h2; unfold jF jP; rw [zu_at, if_neg (by omega), zu_at, if_neg (by omega), zu_at, if_neg (by omega)]
      · unfold jF; rw [zu_at, if_neg (by omega), zu_self]
    have c91 : ∀ N r, FC_readNumber_91 N KC KS (A + 2) (mP M A r) = some (false, mFt (mP M A r) A (1 + 16 * r)) := by
      intro N r
      unfold FC_readNumber_91
      rw [qk_d (g3 r), g7, show (1 : Int32) = nI 1 from rfl, eC_refuse, qb_some]
    have m149 : ∀ N r x, r ≤ n → FM_numeral_149 N x (jF (jP J r) (1 + 16 * r)) = some (false, zu (jF (jP J r) (1 + 16 * r)) 0 6 x) := by
      intro N r x hr
      unfold FM_numeral_149
      simp only
      rw [if_neg]
      unfold jF
      rw [zu_at, if_neg (by omega), zu_self, show (0 : Int32) = nI 0 from rfl, nI_eq (by omega) (by omega)]
      omega
    cases hd : isDg (cx J n s) with
    | false =>
      obtain ⟨rfl, rfl⟩ := d6 hd
      right
      refine ⟨mFt (mP M A s) A (1 + 16 * s), zu (jF (jP J s) (1 + 16 * s)) 0 6 (sgn ng 0), bad s _ hsn, ⟨6, fun N hN => ?_⟩, ⟨6, fun N hN => ?_⟩⟩
      · dsimp only
        rw [hC, d7 N N hN]
        unfold FC_readNumber_77
        rw [if_pos (by decide), c91]
        rfl
      · dsimp only
        rw [hM, (hlk s hps hsn N).2, qb_some, eM_dig, qc_some, hd, if_pos (by decide), j3, show (1 : Int32) = nI 1 from rfl, eM_stop (j4 s), qb_some]
        unfold FM_numeral_57
        have e6 : jP (jF (jP J s) (1 + 16 * s)) s = jF (jP J s) (1 + 16 * s) := zu_id _ 0 3 _ (by unfold jF; rw [zu_at, if_neg (by omega), j3])
        have e3 : jF (jP J s) (1 + 16 * s) 0 3 = nI s := by unfold jF; rw [zu_at, if_neg (by omega), j3]
        have kj : kJ (jP J s) (jF (jP J s) (1 + 16 * s)) := fun c k _ h2 => by unfold jF; rw [zu_at, if_neg (by omega)]
        have := d8 N N (jF (jP J s) (1 + 16 * s)) kj hN
        rw [show s + 0 = s from rfl, e6] at this
        simp only
        rw [e3, nI_p5]
        rw [show ((0 : Int32), jF (jP J s) (1 + 16 * s)) = (nI 0, jF (jP J s) (1 + 16 * s)) from rfl, this]
        unfold FM_numeral_114
        have hl := kc_look0 h (jF (jP J s) (1 + 16 * s)) s (fun c k h1 h2 => by unfold jF jP; rw [zu_at, if_neg (by omega), zu_at, if_neg (by omega)]) hsn N
        rw [e6] at hl
        rw [hl, qb_some, eM_dig, qc_some, hd, if_pos (by decide), eM_138 N hng, m149 N s _ hsn]
    | true =>
      have hkk : 0 < kk := d6' (by omega) hd
      have hkn : ¬ nI kk = 0 := by rw [show (0 : Int32) = nI 0 from rfl, nI_eq (by omega) (by omega)]; omega
      have hM2 : ∀ N, 6 ≤ N → FM_numeral N J = FM_numeral_114 N (nI ng) (nI w) (jP J (s + kk)) := by
        intro N hN
        rw [hM, (hlk s hps hsn N).2, qb_some, eM_dig, qc_some, hd, if_neg (by decide)]
        unfold FM_numeral_57
        have := d8 N N (jP J s) (kJ_refl _) hN
        rw [Nat.add_zero, jP_P, jP_P] at this
        simp only
        rw [j3, nI_p5]
        exact this
      have hl := hlk (s + kk) (by omega) d3
      cases he : isDg (cx J n (s + kk)) with
      | false =>
        left
        refine ⟨s + kk, sgn ng w, by omega, d3, (sgn_b (by omega)).1, (sgn_b (by omega)).2, ⟨6, fun N hN => ?_⟩, ⟨6, fun N hN => ?_⟩⟩
        · dsimp only
          rw [hC, d7 N N hN]
          unfold FC_readNumber_77
          rw [if_neg hkn, qk_d (g3 _), (hl N).1, qb_some, eC_dig, qc_some, he, if_pos (by decide)]
          rcases hng with rfl | rfl
          · rw [if_pos (by decide), qk_d (g3 _)]
            rfl
          · rw [if_neg (by decide), qk_d (g3 _)]
            rfl
        · dsimp only
          rw [hM2 N hN]
          unfold FM_numeral_114
          rw [(hl N).2, qb_some, eM_dig, qc_some, he, if_pos (by decide), eM_138 N hng]
          unfold FM_numeral_149
          simp only
          rw [if_pos (by rw [zu_at, if_neg (by omega)]; exact j4 _)]
          rfl
      | true =>
        right
        refine ⟨mFt (mP M A (s + kk)) A (1 + 16 * (s + kk)), zu (jF (jP J (s + kk)) (1 + 16 * (s + kk))) 0 6 (sgn ng w), bad _ _ d3, ⟨6, fun N hN => ?_⟩, ⟨6, fun N hN => ?_⟩⟩
        · dsimp only
          rw [hC, d7 N N hN]
          unfold FC_readNumber_77
          rw [if_neg hkn, qk_d (g3 _), (hl N).1, qb_some, eC_dig, qc_some, he, if_neg (by decide), c91]
        · dsimp only
          rw [hM2 N hN]
          unfold FM_numeral_114
          rw [(hl N).2, qb_some, eM_dig, qc_some, he, if_neg (by decide), j3, show (1 : Int32) = nI 1 from rfl, eM_stop (j4 _), qb_some, eM_138 N hng, m149 N _ _ d3]
  have hself := kc_self h
  by_cases c45 : cx J n p = 45
  · have hp : p < n := cx_lt c45 (by decide)
    refine main (p + 1) 1 (Or.inr rfl) (by omega) (by omega) (fun N => ?_) (fun N => ?_)
    · unfold FC_readNumber
      rw [(kc_look h N).1, qb_some, if_pos c45]
      unfold FC_readNumber_14
      rw [if_neg (by decide), qk_d k3, k1, nI_add1]
      rfl
    · unfold FM_numeral
      rw [(kc_look h N).2, qb_some, if_pos c45]
      unfold FM_numeral_14
      rw [if_neg (by decide)]
      unfold FM_numeral_29
      rw [k2, nI_add1]
      rfl
  · refine main p 0 (Or.inl rfl) (Nat.le_refl _) k4 (fun N => ?_) (fun N => ?_)
    · unfold FC_readNumber
      rw [(kc_look h N).1, qb_some, if_neg c45]
      unfold FC_readNumber_14
      rw [if_pos (by decide), hself.1]
      rfl
    · unfold FM_numeral
      rw [(kc_look h N).2, qb_some, if_neg c45]
      unfold FM_numeral_14
      rw [if_pos (by decide)]
      unfold FM_numeral_29
      rw [k2, show nI p + 0 = nI p from by rw [Int32.add_zero]]
      rfl
