/-! VALUES below their tags; THE REFERENCE: what is left out, bytes from the end -/
def wrapL : List Nat → List Nat → List Nat
  | [], c => c
  | tg :: l, c => elem tg (wrapL l c)
def WB (T : zJ) (m b t0 : Nat) (par : Int32) (wh i o : Nat) (blk : List Pt) (os c : List Nat) (pk : PK) : Prop :=
  (T 4 b = 9 ∧ ∃ k b1 k1, k < cnt T b ∧ blk = mkP t0 b (nI k) wh par o 0 (b1.length + 1) :: b1 ∧ WV T m (chd T (6 * b + k)) (chd T (6 * b + k)) none (nI i) 0 (i + 1) o b1 os c k1 ∧ pk = pcat (pnum (nI (jRank T b k (cnt T b))) (cnt T b - 1)) k1) ∨
  (T 4 b = 6 ∧ ∃ num sh ma b1 k1, blk = mkP t0 b (nI num) wh par o sh (b1.length + 1) :: b1 ∧ WVC T (WV T m) b (nI i) (cnt T b) 0 (i + 1) o b1 os c ma k1 num sh ∧ pk = pcat (fun _ => ma) k1) ∨
  (T 4 b = 7 ∧ ∃ q b1 k1, q ≤ 127 ∧ blk = mkP t0 b (nI q) wh par o 0 (b1.length + 1) :: b1 ∧ WVL (WV T m) (chd T (6 * b)) (nI i) q 0 (i + 1) o b1 os c k1 ∧ pk = pcat (pcount T b (nI q)) k1) ∨
  (∃ v, blk = [mkP t0 b v wh par o 0 1] ∧ ((T 4 b = 1 ∧ (v = 0 ∨ v = 1) ∧ os = [] ∧ c = [if v = 0 then 0 else 255] ∧ pk = pbits v 1) ∨ (T 4 b = 2 ∧ os = [] ∧ c = intB v (byC v) ∧ pk = pint T b v) ∨ (T 4 b = 4 ∧ v = nI os.length ∧ os.length ≤ 120 ∧ (∀ x, x ∈ os → x < 256) ∧ c = os ∧ pk = pocts T b os) ∨ (T 4 b = 5 ∧ v = 0 ∧ os = [] ∧ c = [] ∧ pk = pnil)))
theorem wv_base {T : zJ} : ∀ n t t0 dg par wh i o blk os e pk, wfT T n t → WV T n t t0 dg par wh i o blk os e pk → ∃ m c, m + 1 ≤ n ∧ wfT T (m + 1) (bas T n t) ∧ e = wrapL (tls T n t dg) c ∧ WB T m (bas T n t) t0 par wh i o blk os c pk := by
  intro n
  induction n with
  | zero => intro t t0 dg par wh i o blk os e pk h; exact h.elim
  | succ n ih =>
    intro t t0 dg par wh i o blk os e pk hw h
    unfold WV WVb at h
    by_cases k10 : T 4 t = 10
    · have hb : bas T (n + 1) t = bas T n (chd T (6 * t)) := by
        show (if T 4 t = 10 then _ else _) = _
        rw [if_pos k10]
      rw [hb, tls_tag k10]
      have hw5 := (hw.2.2.2.2.2.2.2.1 k10).2.2.2.2
      rcases h with ⟨_, x, e1, h, he⟩ | ⟨_, x, h⟩ | ⟨q, _⟩ | ⟨q, _⟩ | ⟨q, _⟩ | ⟨v, _, h⟩
      · obtain ⟨m, c, q1, q2, q3, q4⟩ := ih _ _ _ _ _ _ _ _ _ _ _ hw5 h
        exact ⟨m, c, by omega, q2, by rw [if_pos x, he, q3]; rfl, q4⟩
      · obtain ⟨m, c, q1, q2, q3, q4⟩ := ih _ _ _ _ _ _ _ _ _ _ _ hw5 h
        exact ⟨m, c, by omega, q2, by rw [if_neg x, q3], q4⟩
      · rw [k10] at q; exact absurd q (by decide)
      · rw [k10] at q; exact absurd q (by decide)
      · rw [k10] at q; exact absurd q (by decide)
      · rcases h with ⟨q, _⟩ | ⟨q, _⟩ | ⟨q, _⟩ | ⟨q, _⟩ <;> (rw [k10] at q; exact absurd q (by decide))
    · rw [bas_self k10]
      rcases h with ⟨q, _⟩ | ⟨q, _⟩ | ⟨k9, k, b1, k1, h1, h2, h3, h4⟩ | ⟨k6, num, sh, ma, b1, c, k1, h1, h2, h3, h4⟩ | ⟨k7, q, b1, c, k1, h0, h1, h2, h3, h4⟩ | ⟨v, hb, h⟩
      · exact absurd q k10
      · exact absurd q k10
      · refine ⟨n, e, Nat.le_refl _, hw, ?_, Or.inl ⟨k9, k, b1, k1, h1, h2, h3, h4⟩⟩
        rw [(tls_ne (n + 1) t dg hw).mpr k9]
        rfl
      · refine ⟨n, c, Nat.le_refl _, hw, ?_, Or.inr (Or.inl ⟨k6, num, sh, ma, b1, k1, h1, h2, h4⟩)⟩
        rw [tls_bas k10 (by rw [k6]; decide), h3]
        rfl
      · refine ⟨n, c, Nat.le_refl _, hw, ?_, Or.inr (Or.inr (Or.inl ⟨k7, q, b1, k1, h0, h1, h2, h4⟩))⟩
        rw [tls_bas k10 (by rw [k7]; decide), h3]
        rfl
      · rcases h with ⟨k, h1, h2, h3, h4⟩ | ⟨k, h1, h2, h3⟩ | ⟨k, h1, h2, h3, h4, h5⟩ | ⟨k, h1, h2, h3, h4⟩
        · refine ⟨n, _, Nat.le_refl _, hw, ?_, Or.inr (Or.inr (Or.inr ⟨v, hb, Or.inl ⟨k, h1, h2, rfl, h4⟩⟩))⟩
          rw [tls_bas k10 (by rw [k]; decide), h3]
          rfl
        · refine ⟨n, _, Nat.le_refl _, hw, ?_, Or.inr (Or.inr (Or.inr ⟨v, hb, Or.inr (Or.inl ⟨k, h1, rfl, h3⟩)⟩))⟩
          rw [tls_bas k10 (by rw [k]; decide), h2]
          rfl
        · refine ⟨n, _, Nat.le_refl _, hw, ?_, Or.inr (Or.inr (Or.inr ⟨v, hb, Or.inr (Or.inr (Or.inl ⟨k, h1, h2, h3, rfl, h5⟩))⟩))⟩
          rw [tls_bas k10 (by rw [k]; decide), h4]
          rfl
        · refine ⟨n, _, Nat.le_refl _, hw, ?_, Or.inr (Or.inr (Or.inr ⟨v, hb, Or.inr (Or.inr (Or.inr ⟨k, h1, h2, rfl, h4⟩))⟩))⟩
          rw [tls_bas k10 (by rw [k]; decide), h3]
          rfl
/-- how long the strict bytes may be -/
theorem elem_len (tg : Nat) (c : List Nat) : (elem tg c).length ≤ c.length + 4 := by
  unfold elem lenB
  split
  · simp
  · split <;> simp
theorem wvc_len {T : zJ} {n t : Nat} {par : Int32} (hn : n ≤ 6) (ih : ∀ t t0 dg par wh i o blk os e pk, WV T n t t0 dg par wh i o blk os e pk → e.length + 4 * (6 - n) ≤ 28 * blk.length + os.length) : ∀ m j i o b os c ma pk num sh, WVC T (WV T n) t par m j i o b os c ma pk num sh → c.length ≤ 28 * b.length + os.length := by
  intro m
  induction m with
  | zero =>
    intro j i o b os c ma pk num sh h
    obtain ⟨rfl, rfl, rfl, _⟩ := h
    simp
  | succ m ihm =>
    intro j i o b os c ma pk num sh h
    unfold WVC at h
    rcases h with ⟨_, ma', _, h⟩ | ⟨_, b', ma', num', hb, _, _, h⟩ | ⟨b1, os1, e1', k1, b', os', c', ma', pk', num', sh', hv, _, hb, ho, hc, _, _, _, _, h⟩
    · exact ihm _ _ _ _ _ _ _ _ _ _ h
    · have := ihm _ _ _ _ _ _ _ _ _ _ h
      rw [hb, List.length_cons]
      omega
    · have h1 := ihm _ _ _ _ _ _ _ _ _ _ h
      have h2 := ih _ _ _ _ _ _ _ _ _ _ _ hv
      rw [hb, ho, hc, List.length_append, List.length_append, List.length_append]
      omega
theorem wvl_len {T : zJ} {n u : Nat} {par : Int32} (hn : n ≤ 6) (ih : ∀ t t0 dg par wh i o blk os e pk, WV T n t t0 dg par wh i o blk os e pk → e.length + 4 * (6 - n) ≤ 28 * blk.length + os.length) : ∀ m k i o b os c pk, WVL (WV T n) u par m k i o b os c pk → c.length ≤ 28 * b.length + os.length := by
  intro m
  induction m with
  | zero =>
    intro k i o b os c pk h
    obtain ⟨rfl, rfl, rfl, _⟩ := h
    simp
  | succ m ihm =>
    intro k i o b os c pk h
    obtain ⟨b1, os1, e1, k1, b', os', c', pk', hv, hb, ho, hc, _, h⟩ := h
    have h1 := ihm _ _ _ _ _ _ _ h
    have h2 := ih _ _ _ _ _ _ _ _ _ _ _ hv
    rw [hb, ho, hc, List.length_append, List.length_append, List.length_append]
    omega
theorem intB_len (v : Int32) (c : Nat) : (intB v c).length = c := by simp [intB]
theorem wv_len {T : zJ} : ∀ n t t0 dg par wh i o blk os e pk, n ≤ 6 → WV T n t t0 dg par wh i o blk os e pk → e.length + 4 * (6 - n) ≤ 28 * blk.length + os.length := by
  intro n
  induction n with
  | zero => intro t t0 dg par wh i o blk os e pk _ h; exact h.elim
  | succ n ih =>
    intro t t0 dg par wh i o blk os e pk hn h
    have ih' : ∀ t t0 dg par wh i o blk os e pk, WV T n t t0 dg par wh i o blk os e pk → e.length + 4 * (6 - n) ≤ 28 * blk.length + os.length := fun t t0 dg par wh i o blk os e pk => ih t t0 dg par wh i o blk os e pk (by omega)
    unfold WV WVb at h
    rcases h with ⟨_, x, e1, h, he⟩ | ⟨_, x, h⟩ | ⟨k9, k, b1, k1, h1, h2, h3, h4⟩ | ⟨k6, num, sh, ma, b1, c, k1, h1, h2, h3, h4⟩ | ⟨k7, q, b1, c, k1, h0, h1, h2, h3, h4⟩ | ⟨v, hb, h⟩
    · have h1 := ih' _ _ _ _ _ _ _ _ _ _ _ h
      have h2 := elem_len (tgB T t dg) e1
      rw [he]
      omega
    · have h1 := ih' _ _ _ _ _ _ _ _ _ _ _ h
      omega
    · have h5 := ih' _ _ _ _ _ _ _ _ _ _ _ h3
      rw [h2, List.length_cons]
      omega
    · have h5 := wvc_len (by omega) ih' _ _ _ _ _ _ _ _ _ _ _ h2
      have h6 := elem_len (tgB T t dg) c
      rw [h1, h3, List.length_cons]
      omega
    · have h5 := wvl_len (by omega) ih' _ _ _ _ _ _ _ _ h2
      have h6 := elem_len (tgB T t dg) c
      rw [h1, h3, List.length_cons]
      omega
    · rw [hb]
      rcases h with ⟨k, h1, h2, h3, h4⟩ | ⟨k, h1, h2, h3⟩ | ⟨k, h1, h2, h3, h4, h5⟩ | ⟨k, h1, h2, h3, h4⟩
      · have h6 := elem_len (tgB T t dg) [if v = 0 then 0 else 255]
        rw [h3]; simp at h6 ⊢; omega
      · have h6 := elem_len (tgB T t dg) (intB v (byC v))
        have := byC_le v
        rw [intB_len] at h6
        rw [h2]; simp; omega
      · have h6 := elem_len (tgB T t dg) os
        rw [h4]; simp; omega
      · have h6 := elem_len (tgB T t dg) []
        rw [h3]; simp at h6 ⊢; omega
/-- isLeft() -/
theorem m_left0 {J : zJ} {i : Nat} (hi : i < 100) (h : J 24 i = -1) (N : Nat) : FM_isLeft N (nI i) J = some (false, J) := by
  unfold FM_isLeft
  rw [qk_t (qi_nI hi (by omega)), nI_clamp (by omega), h, if_neg (by decide)]
theorem bas_lt {T : zJ} : ∀ m v, wfT T m v → bas T m v < 160 := by
  intro m
  induction m with
  | zero => intro v hv; exact hv.elim
  | succ m ih =>
    intro v hv
    unfold bas
    split
    · rename_i k; exact ih _ (hv.2.2.2.2.2.2.2.1 k).2.2.2.2
    · exact hv.1
theorem m_left {T J : zJ} {i h t0 n0 wh b : Nat} (hT : tyEq T J) (hi : i < 100) (hh : h < 100) (h24 : J 24 i = nI h) (h21 : J 21 h = nI t0) (hw : wfT T n0 t0) (hn : n0 ≤ 6) (hb : bas T 6 t0 = b) (h23 : J 23 i = nI wh) (hwh : T 4 b = 6 → wh < 6) :
    ∃ J2, Ev (fun N => FM_isLeft N (nI i) J = some (decide (T 4 b = 6 ∧ T 14 (6 * b + wh) = 2 ∧ T 15 (6 * b + wh) = J 22 i), J2)) ∧ uKp J J2 0 := by
  obtain ⟨J2, u1, u2, u3, u4⟩ := m_unw hw hn hT
  rw [← (bas_wf n0 6 t0 hw hn).1, hb] at u2
  have b160 : b < 160 := by rw [← hb, (bas_wf n0 6 t0 hw hn).1]; exact bas_lt n0 t0 hw
  have hT2 : tyEq T J2 := fun c k c1 c2 => by rw [u4 c k (by omega) (by omega) (by omega)]; exact hT c k c1 c2
  refine ⟨J2, ev_mono u1 (fun N hN => ?_), u4⟩
  unfold FM_isLeft FM_baseOf
  rw [qk_t (qi_nI hi (by omega)), nI_clamp (by omega), h24, if_pos (by rw [show (0 : Int32) = nI 0 from rfl, nI_leI (by omega) (by omega)]; omega), qk_t (qi_nI hi (by omega)), qk_t (qi_nI hh (by omega)), nI_clamp (by omega), h21, hN, qb_some, qb_some, u2, qk_t (qi_nI hi (by omega)), qk_t (qi_nI b160 (by omega)), nI_clamp (by omega), hT2 4 b (by omega) (by omega), u4 23 i (by omega) (by omega) (by omega), h23]
  by_cases k6 : T 4 b = 6
  · have := hwh k6
    have e6 : (6 : Int32) * nI b + nI wh = nI (6 * b + wh) := by rw [show (6 : Int32) = nI 6 from rfl, nI_mul, nI_add]
    rw [if_pos k6, e6, qk_t (qi_nI (by omega) (by omega)), nI_clamp (by omega), hT2 14 _ (by omega) (by omega)]
    by_cases k2 : T 14 (6 * b + wh) = 2
    · rw [if_pos k2, qk_t (qi_nI (by omega) (by omega)), qk_t (qi_nI hi (by omega)), hT2 15 _ (by omega) (by omega), u4 22 i (by omega) (by omega) (by omega)]
      by_cases k3 : T 15 (6 * b + wh) = J 22 i
      · rw [if_pos k3, decide_eq_true ⟨k6, k2, k3⟩]
      · rw [if_neg k3, decide_eq_false (fun q => k3 q.2.2)]
    · rw [if_neg k2, decide_eq_false (fun q => k2 q.2.1)]
  · rw [if_neg k6, decide_eq_false (fun q => k6 q.1)]
/-- bytes put in front of w -/
def eK (J J' : zJ) : Prop := ∀ c k, c ≠ 16 → c ≠ 17 → c ≠ 20 → c ≠ 27 → ¬ (c = 0 ∧ (k = 23 ∨ k = 24 ∨ k = 29)) → J' c k = J c k
def eP (J J' : zJ) (w : Nat) (c : List Nat) : Prop := c.length ≤ w ∧ J' 0 29 = nI (w - c.length) ∧ (∀ k b, c[k]? = some b → J' 20 (w - c.length + k) = nI b) ∧ (∀ k, w ≤ k → J' 20 k = J 20 k)
theorem eK_refl (J : zJ) : eK J J := fun _ _ _ _ _ _ _ => rfl
theorem eK_trans {J J1 J2 : zJ} (h1 : eK J J1) (h2 : eK J1 J2) : eK J J2 := fun c k a b d e f => (h2 c k a b d e f).trans (h1 c k a b d e f)
theorem eP_trans {J J1 J2 : zJ} {w : Nat} {c1 c2 : List Nat} (h1 : eP J J1 w c1) (h2 : eP J1 J2 (w - c1.length) c2) : eP J J2 w (c2 ++ c1) := by
  obtain ⟨a1, a2, a3, a4⟩ := h1
  obtain ⟨b1, b2, b3, b4⟩ := h2
  have hl : w - (c2 ++ c1).length = w - c1.length - c2.length := by rw [List.length_append]; omega
  refine ⟨by rw [List.length_append]; omega, by rw [hl]; exact b2, fun k b hk => ?_, fun k hk => (b4 k (by omega)).trans (a4 k hk)⟩
  rw [hl]
  by_cases c : k < c2.length
  · rw [List.getElem?_append_left c] at hk; exact b3 k b hk
  · rw [List.getElem?_append_right (by omega)] at hk
    rw [b4 _ (by omega)]
    have := a3 _ b hk
    rw [show w - c1.length + (k - c2.length) = w - c1.length - c2.length + k by omega] at this
    exact this
theorem eP_nil {J : zJ} {w : Nat} (h : J 0 29 = nI w) : eP J J w [] := ⟨Nat.zero_le _, h, fun k b hk => by simp at hk, fun _ _ => rfl⟩
theorem m_make {J : zJ} {w : Nat} (h : J 0 29 = nI (w + 1)) (hw : w < 4000) (b : Nat) (N : Nat) : FM_make N (nI b) J = some ((), zu (zu J 0 29 (nI w)) 20 w (nI b)) ∧ eP J (zu (zu J 0 29 (nI w)) 20 w (nI b)) (w + 1) [b] ∧ (∀ c k, c ≠ 20 → ¬ (c = 0 ∧ k = 29) → zu (zu J 0 29 (nI w)) 20 w (nI b) c k = J c k) := by
  refine ⟨?_, ⟨by simp, ?_, fun k x hk => ?_, fun k hk => ?_⟩, fun c k h1 h2 => ?_⟩
  · unfold FM_make
    rw [h, show nI (w + 1) - 1 = nI w from nI_subs (a := w + 1) (b := 1) (by omega)]
    simp only [zu_self]
    rw [qk_t (qi_nI hw (by omega)), nI_clamp (by omega)]
  · rw [zu_at, if_neg (by omega), zu_self]
    rfl
  · cases k with
    | zero =>
      simp at hk
      subst hk
      simp
      rw [zu_self]
    | succ k => simp at hk
  · rw [zu_at, if_neg (by omega), zu_at, if_neg (by omega)]
  · rw [zu_at, if_neg (by omega), zu_at, if_neg (by omega)]
theorem nI_div {a b : Nat} (ha : a < 2 ^ 31) (hb : b < 2 ^ 31) : nI a / nI b = nI (a / b) := by
  apply Int32.toBitVec_inj.mp
  have m1 : (BitVec.ofNat 32 a).msb = false := by rw [BitVec.msb_eq_false_iff_two_mul_lt, BitVec.toNat_ofNat]; omega
  have m2 : (BitVec.ofNat 32 b).msb = false := by rw [BitVec.msb_eq_false_iff_two_mul_lt, BitVec.toNat_ofNat]; omega
  rw [Int32.toBitVec_div, nI_bv, nI_bv, nI_bv, BitVec.sdiv_eq, m1, m2]
  apply BitVec.eq_of_toNat_eq
  have h1 : a / b ≤ a := Nat.div_le_self _ _
  simp only [BitVec.udiv_eq, BitVec.toNat_udiv, BitVec.toNat_ofNat]
  rw [Nat.mod_eq_of_lt (by omega), Nat.mod_eq_of_lt (by omega), Nat.mod_eq_of_lt (by omega)]
