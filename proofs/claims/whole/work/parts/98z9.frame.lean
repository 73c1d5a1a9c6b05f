/-! COMPILING: frames and results; named types, plain types -/
def low (c : Nat) : Nat → Bool := fun t => decide (t < c)
theorem low_t {c t : Nat} : low c t = true ↔ t < c := by unfold low; exact decide_eq_true_iff
/-- objects but x are as before -/
def zF (A x : Nat) (M M' : zM) : Prop := (∀ y, y ≠ x → (∀ c, c ≤ 72 → y ≠ A + c) → zi M' y = zi M y ∧ zr M' y = zr M y) ∧ zr M' (A + 3) = zr M (A + 3) ∧ (∀ e j y, (e = 4 ∨ e = 5) → zr M (A + e) j = some y → zr M' (A + e) j = some y)
theorem zF_trans {A x : Nat} {M M1 M2 : zM} (h1 : zF A x M M1) (h2 : zF A x M1 M2) : zF A x M M2 := ⟨fun y a b => ⟨((h2.1 y a b).1).trans (h1.1 y a b).1, ((h2.1 y a b).2).trans (h1.1 y a b).2⟩, h2.2.1.trans h1.2.1, fun e j y he hj => h2.2.2 e j y he (h1.2.2 e j y he hj)⟩
theorem zF_o {A x : Nat} {M M' : zM} (hx : ∀ c, c ≤ 72 → x ≠ A + c) (h : oF A x M M') : zF A x M M' := by
  obtain ⟨h1, h2, h3, h4, h5, h6⟩ := h
  refine ⟨fun y a b => ⟨h5 y a (b 2 (by omega)), h6 y a⟩, h6 _ (Ne.symm (hx 3 (by omega))), fun e j y he hj => ?_⟩
  rw [h6 _ (Ne.symm (hx e (by omega)))]
  exact hj
theorem zF_g {A x e : Nat} {M M' : zM} (hx : ∀ c, c ≤ 72 → x ≠ A + c) (he : e = 4 ∨ e = 5) (h : gN A M M' x e) : zF A x M M' := by
  obtain ⟨h1, h2, h3, h4, h5, h6⟩ := h
  refine ⟨fun y a b => ⟨h2 y a (b 2 (by omega)), h4 y a (b e (by omega))⟩, h4 _ (Ne.symm (hx 3 (by omega))) (by omega), fun e' j y he' hj => ?_⟩
  by_cases hee : e' = e
  · subst hee
    exact h5 j y hj
  · rw [h4 _ (Ne.symm (hx e' (by omega))) (by omega)]
    exact hj
theorem kU_x {A KC KS q a b x : Nat} {M : zM} (hL : iLay M A) (hP : kcP A KC KS q M a b) (h : kU A M a b x) : (∀ c, c ≤ 72 → x ≠ A + c) ∧ (zsh M x = some (.inl 6) ∨ zsh M x = some (.inl 1)) := by
  obtain ⟨a0, b0, ⟨q1, q2, q3, q4, q5, q6, q7, q8⟩, p2, p3, -⟩ := hP
  rcases h with ⟨j, j1, j2⟩ | ⟨j, j1, j2⟩
  · obtain ⟨y, y1, y2⟩ := q3 j (by omega)
    rw [j2] at y1
    injection y1 with y1
    subst y1
    exact ⟨iLay_out2 hL (Or.inl rfl) y2, Or.inl y2⟩
  · obtain ⟨y, y1, y2⟩ := q6 j (by omega)
    rw [j2] at y1
    injection y1 with y1
    subst y1
    exact ⟨iLay_out2 hL (Or.inr rfl) y2, Or.inr y2⟩
def kF (A a b c d : Nat) (M : zM) (J : zJ) (M' : zM) (J' : zJ) : Prop := wMf A M M' ∧ kJ J J' ∧ (∀ x, kU A M a b x → zi M' x = zi M x ∧ zr M' x = zr M x) ∧ tAg (low c) J J' ∧ (∀ k, k < d → J' 2 k = J 2 k) ∧ J' 3 = J 3 ∧ zr M' (A + 3) = zr M (A + 3) ∧ (∀ e j y, (e = 4 ∨ e = 5) → zr M (A + e) j = some y → zr M' (A + e) j = some y)
theorem kU_up {A a b a' b' x : Nat} {M M' : zM} (hp : ∀ e j y, (e = 4 ∨ e = 5) → zr M (A + e) j = some y → zr M' (A + e) j = some y) (ha : a ≤ a') (hb : b ≤ b') (h : kU A M a b x) : kU A M' a' b' x := by
  rcases h with ⟨j, j1, j2⟩ | ⟨j, j1, j2⟩
  · exact Or.inl ⟨j, by omega, hp 4 j x (Or.inl rfl) j2⟩
  · exact Or.inr ⟨j, by omega, hp 5 j x (Or.inr rfl) j2⟩
theorem kF_trans {A a b c d a1 b1 c1 d1 : Nat} {M M1 M2 : zM} {J J1 J2 : zJ} (h1 : kF A a b c d M J M1 J1) (h2 : kF A a1 b1 c1 d1 M1 J1 M2 J2) (ha : a ≤ a1) (hb : b ≤ b1) (hc : c ≤ c1) (hd : d ≤ d1) : kF A a b c d M J M2 J2 := by
  obtain ⟨e1, e2, e3, e4, e5, e6, e7, e8⟩ := h1
  obtain ⟨f1, f2, f3, f4, f5, f6, f7, f8⟩ := h2
  refine ⟨wMf_trans e1 f1, kJ_trans e2 f2, fun x hx => ?_, tAg_trans (fun t ht => low_t.mpr (Nat.lt_of_lt_of_le (low_t.mp ht) hc)) e4 f4, fun k hk => (f5 k (by omega)).trans (e5 k hk), f6.trans e6, f7.trans e7, fun e j y he hj => f8 e j y he (e8 e j y he hj)⟩
  have g1 := e3 x hx
  have g2 := f3 x (kU_up e8 ha hb hx)
  exact ⟨g2.1.trans g1.1, g2.2.trans g1.2⟩
theorem kF_mk {A KC KS q n p a b c d x0 : Nat} {M M' : zM} {J J' : zJ} (h : kcS A KC KS q M J n p a b c) (hx0 : ¬ kU A M a b x0) (hk : wMf A M M') (hj : kJ J J') (hz : zF A x0 M M') (ht : tAg (low c) J J') (h2 : ∀ k, k < d → J' 2 k = J 2 k) (h3 : J' 3 = J 3) : kF A a b c d M J M' J' := by
  refine ⟨hk, hj, fun x hx => hz.1 x (fun e => hx0 (by rw [← e]; exact hx)) (kU_x h.1 h.2.1 hx).1, ht, h2, h3, hz.2.1, hz.2.2⟩
theorem kNo_U {A KC KS q n p a b c : Nat} {M : zM} {J : zJ} (h : kcS A KC KS q M J n p a b c) : ∀ x, (∀ s, zsh M x ≠ some s) → ¬ kU A M a b x := by
  intro x hx hu
  rcases (kU_x h.1 h.2.1 hu).2 with e | e
  · exact hx _ e
  · exact hx _ e
/-- no object but the compiler has changed -/
theorem kF_c {A KC KS q n p a b c d : Nat} {M M' : zM} {J J' : zJ} (h : kcS A KC KS q M J n p a b c) (hk : wMf A M M') (hj : kJ J J') (hi : ∀ y, y ≠ A + 2 → zi M' y = zi M y) (hr : zr M' = zr M) (ht : tAg (low c) J J') (h2 : ∀ k, k < d → J' 2 k = J 2 k) (h3 : J' 3 = J 3) : kF A a b c d M J M' J' :=
  ⟨hk, hj, fun x hx => ⟨hi x ((kU_x h.1 h.2.1 hx).1 2 (by omega)), by rw [hr]⟩, ht, h2, h3, by rw [hr], fun e j y _ hj => by rw [hr]; exact hj⟩
theorem kF_P {A KC KS q n p a b c d p' : Nat} {M : zM} {J : zJ} (h : kcS A KC KS q M J n p a b c) : kF A a b c d M J (mP M A p') (jP J p') :=
  kF_c h (wMf_P A M p') (kJ_P J p') (fun y hy => funext (fun j => mP_x hy)) rfl (fun t ht => ⟨fun k a b => jP_o (by omega), fun j hj k a b => jP_o (by omega)⟩) (fun k hk => jP_o (by omega)) (funext (fun k => jP_o (by omega)))
def kcN (A : Nat) (M : zM) (J : zJ) (S R : Nat → Bool) (a b c : Nat) : Prop := (∀ x, S x = true → kU A M a b x) ∧ (∀ t, R t = true → t < c) ∧ ∀ i, i < 26 → (zr M (A + 3) i = none ∧ J 3 i = -1) ∨ ∃ x t ht, zr M (A + 3) i = some x ∧ J 3 i = nI t ∧ dT M J S R x t ht ∧ ht < 6
/-- finished types stay finished -/
theorem dT_F {A a b c d x t ht : Nat} {M M' : zM} {J J' : zJ} {S R S' R' : Nat → Bool} (hF : kF A a b c d M J M' J') (hS : ∀ x, S x = true → kU A M a b x) (hR : ∀ t, R t = true → t < c) (hSS : ∀ x, S x = true → S' x = true) (hRR : ∀ t, R t = true → R' t = true) (h : dT M J S R x t ht) : dT M' J' S' R' x t ht := by
  obtain ⟨e1, e2, e3, e4, -⟩ := hF
  refine dT_up hRR (fun t ht => e4 t (low_t.mpr (hR t ht))) (fun y hy => ?_) h
  have := e3 y (hS y hy)
  exact ⟨hSS y hy, this.1, this.2, fun s hs => e1.1 y s hs⟩
theorem kcN_F {A a b c d a' b' c' : Nat} {M M' : zM} {J J' : zJ} {S R S' R' : Nat → Bool} (hF : kF A a b c d M J M' J') (h : kcN A M J S R a b c) (hS' : ∀ x, S' x = true → kU A M' a' b' x) (hR' : ∀ t, R' t = true → t < c') (hSS : ∀ x, S x = true → S' x = true) (hRR : ∀ t, R t = true → R' t = true) : kcN A M' J' S' R' a' b' c' := by
  obtain ⟨h1, h2, h3⟩ := h
  refine ⟨hS', hR', fun i hi => ?_⟩
  rw [hF.2.2.2.2.2.2.1, hF.2.2.2.2.2.1]
  rcases h3 i hi with g | ⟨x, t, ht, g1, g2, g3, g4⟩
  · exact Or.inl g
  · exact Or.inr ⟨x, t, ht, g1, g2, dT_F hF h1 h2 hSS hRR g3, g4⟩
theorem kcN_same {A a b c d a' b' c' : Nat} {M M' : zM} {J J' : zJ} {S R : Nat → Bool} (hF : kF A a b c d M J M' J') (h : kcN A M J S R a b c) (ha : a ≤ a') (hb : b ≤ b') (hc : c ≤ c') : kcN A M' J' S R a' b' c' :=
  kcN_F hF h (fun x hx => kU_up hF.2.2.2.2.2.2.2 ha hb (h.1 x hx)) (fun t ht => Nat.lt_of_lt_of_le (h.2.1 t ht) hc) (fun _ h => h) (fun _ h => h)
def kGood (A KC KS q n d : Nat) (M : zM) (J : zJ) (p a b c : Nat) (S R : Nat → Bool) (M' : zM) (J' : zJ) (x t : Nat) : Prop := ∃ p' a' b' c' S' R' ht, kcS A KC KS q M' J' n p' a' b' c' ∧ kF A a b c d M J M' J' ∧ (a ≤ a' ∧ b ≤ b' ∧ c ≤ c' ∧ p < p' ∧ b' < p') ∧ (∀ x, S x = true → S' x = true) ∧ (∀ t, R t = true → R' t = true) ∧ (∀ x, S' x = true → kU A M' a' b' x ∧ (S x = true ∨ ¬ kU A M a b x)) ∧ (∀ t, R' t = true → t < c' ∧ (R t = true ∨ c ≤ t)) ∧ dT M' J' S' R' x t ht ∧ d + ht < 6 ∧ J' 0 5 = nI d
def kRes (A KC KS q n d : Nat) (M : zM) (J : zJ) (p a b c : Nat) (S R : Nat → Bool) (F : Nat → Option (Option Nat × zM)) : Prop := (∃ M' J' x t, Ev (fun N => F N = some (some x, M')) ∧ goW (-1, J) (nI t, J') ∧ kGood A KC KS q n d M J p a b c S R M' J' x t) ∨ (∃ M' J', Ev (fun N => F N = some (none, M')) ∧ goW (-1, J) (-1, J') ∧ kcBad A KC KS q M J M' J')
def kTy (A KC KS q : Nat) (F : Nat → zM → Option (Option Nat × zM)) (d : Nat) : Prop := ∀ M J n p a b c S R, kcS A KC KS q M J n p a b c → J 0 5 = nI d → kcN A M J S R a b c → kRes A KC KS q n d M J p a b c S R (fun N => F N M)
/-- sets with one more -/
def ins (S : Nat → Bool) (x : Nat) : Nat → Bool := fun y => S y || decide (y = x)
theorem ins_l {S : Nat → Bool} {x y : Nat} (h : S y = true) : ins S x y = true := by unfold ins; rw [h, Bool.true_or]
theorem ins_r (S : Nat → Bool) (x : Nat) : ins S x x = true := by unfold ins; simp
theorem ins_o {S : Nat → Bool} {x y : Nat} (h : ins S x y = true) : S y = true ∨ y = x := by
  unfold ins at h
  simpa using h
/-- a named type -/
theorem kc_named {A KC KS q n p a b c d ch : Nat} {M : zM} {J : zJ} {S R : Nat → Bool} (h : kcS A KC KS q M J n p a b c) (h5 : J 0 5 = nI d) (hd : d < 1000) (hN : kcN A M J S R a b c) (hch : 65 ≤ ch ∧ ch ≤ 90) (hcx : cx J n p = nI ch) : kRes A KC KS q n d M J p a b c S R (fun N => FC_readReference N KC KS (A + 2) (nI ch) (nI d) M) := by
  obtain ⟨k1, k2, k3, k4, k5, k6⟩ := kc_7 h
  have hpn : p < n := cx_lt hcx (nI_n1 (by omega))
  have hL := h.1.1
  have r1 : zr M (A + 2) 1 = some (A + 3) := zLr hL 37 rfl
  have s3 : zsh M (A + 3) = some (.inr (4, 26)) := zLs hL 3 rfl
  have e65 : nI ch - 65 = nI (ch - 65) := nI_subs (b := 65) (by omega)
  have q26 : qi (nI (ch - 65)) 26 = true := qi_nI (by omega) (by omega)
  have cl : (nI (ch - 65)).toNatClampNeg = ch - 65 := nI_clamp (by omega)
  have hb : ∀ N s', FM_named N (nI (ch - 65)) J = some s' → FM_begin N J = some s' := by
    intro N s' hs
    unfold FM_begin
    rw [(kc_look h N).2, qb_some, hcx, if_neg (by rw [show (91 : Int32) = nI 91 from rfl, nI_eq (by omega) (by omega)]; omega), FM_in_eq, qc_some, nI_toInt (by omega), i_lit 65 (by omega), i_lit 90 (by omega), if_neg (by simp only [bI_eq0]; simp; omega), e65, hs]
    rfl
  have bad : ∀ f, 1 ≤ f → f < 4096 → (∀ N, FC_readReference N KC KS (A + 2) (nI ch) (nI d) M = some (none, mFt M A f)) → (∀ N, FM_named N (nI (ch - 65)) J = some (-1, jF J f)) → kRes A KC KS q n d M J p a b c S R (fun N => FC_readReference N KC KS (A + 2) (nI ch) (nI d) M) := by
    intro f f1 f2 h1 h2
    exact Or.inr ⟨mFt M A f, jF J f, ev_of h1, goW_b k6 (ev_of (fun N => hb N _ (h2 N))), kc_bad0 h f1 f2⟩
  rcases hN.2.2 (ch - 65) (by omega) with ⟨g1, g2⟩ | ⟨x, t, ht, g1, g2, g3, g4⟩
  · refine bad (3 + 16 * p) (by omega) (by omega) (fun N => ?_) (fun N => ?_)
    · unfold FC_readReference
      rw [e65, qa_s r1 s3 q26, cl]
      simp only
      rw [g1, if_pos rfl, k1, show (3 : Int32) = nI 3 from rfl, eC_refuse, qb_some]
    · unfold FM_named
      rw [qk_t q26, cl, g2, if_neg (by decide), k2, show (3 : Int32) = nI 3 from rfl, eM_stop k6, qb_some]
  · have hx6 := (dT_in g3).2
    have hxh := g3.2.2.2
    have hjh := g3.2.2.1
    have ht160 : t < 160 := by
      have := hN.2.1 t (dT_lt g3)
      have := h.2.2.2.2.2.2.2.2.2.2
      omega
    have hC : ∀ N, FC_readReference N KC KS (A + 2) (nI ch) (nI d) M = if nI (d + ht) < 6 then some (some x, mP M A (p + 1)) else some (none, mFt M A (5 + 16 * p)) := by
      intro N
      unfold FC_readReference
      rw [e65, qa_s r1 s3 q26, cl]
      simp only
      rw [g1, if_neg (by simp), qo_s rfl hx6, hxh, nI_add, k1, nI_add1, show (5 : Int32) = nI 5 from rfl, eC_refuse, qb_some]
      rfl
    have hM : ∀ N, FM_named N (nI (ch - 65)) J = if nI (d + ht) < 6 then some (nI t, jP J (p + 1)) else some (-1, jF J (5 + 16 * p)) := by
      intro N
      unfold FM_named
      rw [qk_t q26, cl, g2, if_pos (by rw [show (0 : Int32) = nI 0 from rfl, nI_leI (by omega) (by omega)]; omega), qk_t q26, qk_t (qi_nI ht160 (by omega)), nI_clamp (by omega), h5, hjh, nI_add, k2, nI_add1, show (5 : Int32) = nI 5 from rfl, eM_stop k6, qb_some]
      simp only
      rw [qk_t q26, show zu J 0 3 (nI (p + 1)) 3 (ch - 65) = nI t from by rw [zu_ne _ _ _ (by omega)]; exact g2]
      rfl
    by_cases c6 : d + ht < 6
    · have c6' : nI (d + ht) < 6 := by rw [show (6 : Int32) = nI 6 from rfl, nI_ltI (by omega) (by omega)]; exact c6
      have hF : kF A a b c d M J (mP M A (p + 1)) (jP J (p + 1)) := kF_P h
      have hb' : b ≤ p := h.2.2.2.2.2.2.2.2.2.2.1
      refine Or.inl ⟨mP M A (p + 1), jP J (p + 1), x, t, ev_of (fun N => by dsimp only; rw [hC, if_pos c6']), goW_b k6 (ev_of (fun N => hb N _ (by rw [hM, if_pos c6']))), p + 1, a, b, c, S, R, ht, kc_go h (by omega) (by omega), hF, ⟨by omega, by omega, by omega, by omega, by omega⟩, fun _ h => h, fun _ h => h, fun y hy => ⟨kU_up hF.2.2.2.2.2.2.2 (Nat.le_refl _) (Nat.le_refl _) (hN.1 y hy), Or.inl hy⟩, fun u hu => ⟨hN.2.1 u hu, Or.inl hu⟩, dT_F hF hN.1 hN.2.1 (fun _ h => h) (fun _ h => h) g3, c6, ?_⟩
      rw [jP_o (by omega)]
      exact h5
    · have c6' : ¬ nI (d + ht) < 6 := by rw [show (6 : Int32) = nI 6 from rfl, nI_ltI (by omega) (by omega)]; exact c6
      exact bad (5 + 16 * p) (by omega) (by omega) (fun N => by rw [hC, if_neg c6']) (fun N => by rw [hM, if_neg c6'])
/-- a new node -/
def aJ (J : zJ) (c k : Nat) : zJ := zu (zu (zu (zu (zu (zu J 0 10 (nI (c + 1))) 4 c (nI k)) 8 c 0) 10 c 0) 11 c 0) 9 c (tgK k)
theorem eM_add {J : zJ} {c k : Nat} (hc : J 0 10 = nI c) (h160 : c < 160) (hk : isK k) (N : Nat) : FM_add N (nI k) J = some (nI c, aJ J c k) := by
  have qc160 : qi (nI c) 160 = true := qi_nI h160 (by omega)
  have cc : (nI c).toNatClampNeg = c := nI_clamp (by omega)
  unfold FM_add FM_add_97
  simp only [hc, qk_t qc160, cc, nI_add1]
  rcases hk with rfl | rfl | rfl | rfl | rfl | rfl | rfl | rfl <;> rfl
theorem aJ_o {J : zJ} {c k cc j : Nat} (h1 : ¬ ((cc = 4 ∨ cc = 8 ∨ cc = 9 ∨ cc = 10 ∨ cc = 11) ∧ j = c)) (h2 : ¬ (cc = 0 ∧ j = 10)) : aJ J c k cc j = J cc j := by
  unfold aJ
  rw [zu_at, if_neg (by omega), zu_at, if_neg (by omega), zu_at, if_neg (by omega), zu_at, if_neg (by omega), zu_at, if_neg (by omega), zu_at, if_neg h2]
theorem aJ_v {J : zJ} {c k : Nat} : aJ J c k 0 10 = nI (c + 1) ∧ aJ J c k 4 c = nI k ∧ aJ J c k 8 c = 0 ∧ aJ J c k 10 c = 0 ∧ aJ J c k 11 c = 0 ∧ aJ J c k 9 c = tgK k := by
  unfold aJ
  refine ⟨?_, ?_, ?_, ?_, ?_, zu_self _ _ _ _⟩
  · rw [zu_at, if_neg (by omega), zu_at, if_neg (by omega), zu_at, if_neg (by omega), zu_at, if_neg (by omega), zu_at, if_neg (by omega), zu_self]
  · rw [zu_at, if_neg (by omega), zu_at, if_neg (by omega), zu_at, if_neg (by omega), zu_at, if_neg (by omega), zu_self]
  · rw [zu_at, if_neg (by omega), zu_at, if_neg (by omega), zu_at, if_neg (by omega), zu_self]
  · rw [zu_at, if_neg (by omega), zu_at, if_neg (by omega), zu_self]
  · rw [zu_at, if_neg (by omega), zu_self]
theorem kJ_a (J : zJ) (c k : Nat) : kJ J (aJ J c k) := fun cc j h1 h2 => aJ_o (by omega) (by omega)
/-- both make a new type of kind k -/
theorem kc_make {A KC KS q n p a b c k d : Nat} {M : zM} {J : zJ} (h : kcS A KC KS q M J n p a b c) (ha : a < p) (hc : c < p) (hk : isK k) : ∃ x M', (∀ N, FC_newType N KC KS (A + 2) (nI k) M = some (some x, M')) ∧ (∀ N, FM_add N (nI k) J = some (nI c, aJ J c k)) ∧ kcS A KC KS q M' (aJ J c k) n p (a + 1) b (c + 1) ∧ (∀ c, c ≤ 72 → x ≠ A + c) ∧ ¬ kU A M a b x ∧ kU A M' (a + 1) b x ∧ tNew M' x (nI k) (tgK k) ∧ zF A x M M' ∧ wMf A M M' ∧ kF A a b c d M J M' (aJ J c k) := by
  obtain ⟨x, M', g1, g2, g3, g4, g5, g6, g7, g8⟩ := kc_newT h ha hk
  obtain ⟨k1, k2, k3, k4, k5, k6⟩ := kc_7 h
  have hkM := gN_wMf g2 (Or.inl rfl) g6
  have hzF := zF_g g2 (Or.inl rfl) g6
  obtain ⟨t4, t5, t10, tb⟩ := h.2.2.2.2.2.2
  refine ⟨x, M', g1, fun N => eM_add t10 (by omega) hk N, ?_, g2, g3, Or.inl ⟨a, by omega, g4⟩, g5, hzF, hkM, kF_mk h g3 hkM (kJ_a J c k) hzF (fun t ht => ?_) (fun j _ => aJ_o (by omega) (by omega)) (funext (fun j => aJ_o (by omega) (by omega)))⟩
  · exact kcS_k h hkM g7 (by rw [g6.2.2.1 7 (by omega)]; exact k1) (by rw [g6.2.2.1 8 (by omega)]; exact h.2.2.2.2.2.1.1) g8 (by rw [g6.2.2.1 5 (by omega)]; exact t5) (kJ_a J c k) (by rw [aJ_o (by omega) (by omega)]; exact k2) (by rw [aJ_o (by omega) (by omega)]; exact k6) aJ_v.1 k4 (by omega) (by omega) (by omega)
  · have := low_t.mp ht
    exact ⟨fun j h1 h2 => aJ_o (by omega) (by omega), fun i hi j h1 h2 => aJ_o (by omega) (by omega)⟩
