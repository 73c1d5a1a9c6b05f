/-! THE CLASS reads by the open rules: parts and plain contents -/
def cR (T : zJ) (src : Nat → Nat) (st L : Nat) (s : Bool) (D : zJ) (i o p : Nat) (res : Option (Nat × Rs)) (out : Nat → Option (Bool × zJ)) : Prop :=
  (res = none → ∃ D', Ev (fun N => out N = some (false, D')) ∧ cK D D') ∧ (∀ q, res = some q → ∃ D', Ev (fun N => out N = some (true, D')) ∧ cG D D' i o ∧ cS D' src st L s (i + q.2.1.length) (o + q.2.2.1.length) q.1 ∧ p ≤ q.1 ∧ cH T D' i q.2.1 ∧ cO D' o q.2.2.1)
def cA (D : zJ) (i : Nat) (kd par : Int32) (wh o : Nat) : Prop := D 17 i = kd ∧ D 18 i = 0 ∧ D 19 i = nI wh ∧ D 20 i = par ∧ D 21 i = nI o ∧ D 22 i = 0
theorem cG_zu {D : zJ} {c k i o : Nat} {x : Int32} (h : (c = 16) ∨ (c = 24) ∨ (17 ≤ c ∧ c ≤ 22 ∧ i ≤ k) ∨ (c = 23 ∧ o ≤ k)) : cG D (zu D c k x) i o := by
  refine ⟨cK_zu (by omega), fun c' k' c1 c2 hk => ?_, fun k' hk => ?_⟩
  · rw [zu_at, if_neg (by omega)]
  · rw [zu_at, if_neg (by omega)]
theorem c_add {D : zJ} {src : Nat → Nat} {st L : Nat} {s : Bool} {i o p : Nat} (h : cS D src st L s i o p) (hi : i < 100) (kd par : Int32) (wh : Nat) : ∃ D1, (∀ N M, FV_addPart N M 16 kd par (nI wh) D = some (nI i, D1)) ∧ cG D D1 i o ∧ cS D1 src st L s (i + 1) o p ∧ cA D1 i kd par wh o := by
  obtain ⟨a1, a2, a3, a4, a5, a6, a7, a8, a9⟩ := h
  refine ⟨zu (zu (zu (zu (zu (zu (zu D 16 0 (nI (i + 1))) 17 i kd) 18 i 0) 19 i (nI wh)) 20 i par) 21 i (nI o)) 22 i 0, fun N M => ?_, ?_, ?_, ?_⟩
  · unfold FV_addPart
    rw [a3, if_pos (by rw [show (100 : Int32) = nI 100 from rfl, nI_ltI (by omega) (by omega)]; exact hi)]
    simp only [qk_t (qi_nI hi (show 100 < 2 ^ 31 by omega)), nI_clamp (show i < 2 ^ 31 by omega), nI_p1]
    simp [zu_at, a4]
  · refine cG_trans (cG_trans (cG_trans (cG_trans (cG_trans (cG_trans (cG_zu (by omega)) (cG_zu (i := i) (o := o) (by omega)) (by omega) (by omega)) (cG_zu (i := i) (o := o) (by omega)) (by omega) (by omega)) (cG_zu (i := i) (o := o) (by omega)) (by omega) (by omega)) (cG_zu (i := i) (o := o) (by omega)) (by omega) (by omega)) (cG_zu (i := i) (o := o) (by omega)) (by omega) (by omega)) (cG_zu (i := i) (o := o) (by omega)) (by omega) (by omega)
  · refine ⟨?_, ?_, ?_, ?_, fun k hk => ?_, by omega, a7, a8, a9⟩ <;> simp [zu_at, a1, a2, a4]
    exact a5 k hk
  · simp [cA, zu_at]
theorem c_add0 {D : zJ} {src : Nat → Nat} {st L : Nat} {s : Bool} {i o p : Nat} (h : cS D src st L s i o p) (hi : ¬ i < 100) (kd par w : Int32) (N : Nat) (M : zM) : FV_addPart N M 16 kd par w D = some (-1, D) := by
  unfold FV_addPart
  have := h.2.2.2.2.2.1
  rw [h.2.2.1, if_neg (by rw [show (100 : Int32) = nI 100 from rfl, nI_ltI (by omega) (by omega)]; exact hi)]
theorem cH_one {T D : zJ} {i t0 t wh o m : Nat} {v par : Int32} {sh : Nat} (h1 : D 17 i = T 4 t) (h2 : D 18 i = v) (h3 : D 19 i = nI wh) (h4 : D 20 i = par) (h5 : D 21 i = nI o) (h6 : D 22 i = nI sh) : cH T D i [mkP t0 t v wh par o sh m] := by
  intro k P hk
  cases k with
  | zero =>
    simp at hk
    subst hk
    exact ⟨h1, h2, h3, h4, h5, h6⟩
  | succ k => simp at hk
theorem iv_0 (src : Nat → Nat) (p : Nat) : (ivF src p 0).toInt = if src p < 128 then 0 else -1 := by
  unfold ivF
  by_cases h : src p < 128
  · rw [if_pos h, if_pos h]; decide
  · rw [if_neg h, if_neg h]; decide
theorem iv_1 {src : Nat → Nat} (hs : sOK src) (p : Nat) : (ivF src p 1).toInt = if src p < 128 then (src p : Int) else src p - 256 := by
  have h0 := iv_0 src p
  show ((ivF src p 0 <<< (8 : Int32)) ||| nI (src (p + 0))).toInt = _
  by_cases h : src p < 128
  · rw [if_pos h] at h0 ⊢
    rw [sh8 (by omega) (by omega) (hs _), h0, Nat.add_zero]
    omega
  · rw [if_neg h] at h0 ⊢
    rw [sh8 (by omega) (by omega) (hs _), h0, Nat.add_zero]
    omega
theorem iv_2 {src : Nat → Nat} (hs : sOK src) (p : Nat) : (ivF src p 2).toInt = 256 * (ivF src p 1).toInt + src (p + 1) := by
  show ((ivF src p 1 <<< (8 : Int32)) ||| nI (src (p + 1))).toInt = _
  have h := iv_1 hs p
  have := hs p
  refine sh8 ?_ ?_ (hs _)
  · rw [h]; split <;> omega
  · rw [h]; split <;> omega
theorem iv_3 {src : Nat → Nat} (hs : sOK src) (p : Nat) : (ivF src p 3).toInt = 256 * (ivF src p 2).toInt + src (p + 2) := by
  show ((ivF src p 2 <<< (8 : Int32)) ||| nI (src (p + 2))).toInt = _
  have h := iv_1 hs p
  have h2 := iv_2 hs p
  have := hs p
  have := hs (p + 1)
  refine sh8 ?_ ?_ (hs _)
  · rw [h2, h]; split <;> omega
  · rw [h2, h]; split <;> omega
theorem iv_4 {src : Nat → Nat} (hs : sOK src) (p : Nat) : (ivF src p 4).toInt = 256 * (ivF src p 3).toInt + src (p + 3) := by
  show ((ivF src p 3 <<< (8 : Int32)) ||| nI (src (p + 3))).toInt = _
  have h := iv_1 hs p
  have h2 := iv_2 hs p
  have h3 := iv_3 hs p
  have := hs p
  have := hs (p + 1)
  have := hs (p + 2)
  refine sh8 ?_ ?_ (hs _)
  · rw [h3, h2, h]; split <;> omega
  · rw [h3, h2, h]; split <;> omega
theorem byC_1' (v : Int32) : byC v = 1 ↔ (-128 ≤ v.toInt ∧ v.toInt ≤ 127) := by
  unfold byC
  generalize v.toInt = x
  (repeat' split) <;> omega
theorem byC_2' (v : Int32) : byC v = 2 ↔ (¬ (-128 ≤ v.toInt ∧ v.toInt ≤ 127) ∧ -32768 ≤ v.toInt ∧ v.toInt ≤ 32767) := by
  unfold byC
  generalize v.toInt = x
  (repeat' split) <;> omega
theorem byC_3' (v : Int32) : byC v = 3 ↔ (¬ (-32768 ≤ v.toInt ∧ v.toInt ≤ 32767) ∧ -8388608 ≤ v.toInt ∧ v.toInt ≤ 8388607) := by
  unfold byC
  generalize v.toInt = x
  (repeat' split) <;> omega
theorem byC_4' (v : Int32) : byC v = 4 ↔ ¬ (-8388608 ≤ v.toInt ∧ v.toInt ≤ 8388607) := by
  unfold byC
  generalize v.toInt = x
  (repeat' split) <;> omega
theorem byC_iff {src : Nat → Nat} (hs : sOK src) (p : Nat) {c : Nat} (h2 : 2 ≤ c) (h4 : c ≤ 4) : byC (ivF src p c) = c ↔ ¬ (src p = 0 ∧ src (p + 1) < 128) ∧ ¬ (src p = 255 ∧ 128 ≤ src (p + 1)) := by
  have e1 := iv_1 hs p
  have e2 := iv_2 hs p
  have e3 := iv_3 hs p
  have e4 := iv_4 hs p
  have := hs p
  have := hs (p + 1)
  have := hs (p + 2)
  have := hs (p + 3)
  have hc : c = 2 ∨ c = 3 ∨ c = 4 := by omega
  by_cases h : src p < 128
  · rw [if_pos h] at e1
    rcases hc with rfl | rfl | rfl
    · rw [byC_2']; omega
    · rw [byC_3']; omega
    · rw [byC_4']; omega
  · rw [if_neg h] at e1
    rcases hc with rfl | rfl | rfl
    · rw [byC_2']; omega
    · rw [byC_3']; omega
    · rw [byC_4']; omega
theorem byC_1 {src : Nat → Nat} (hs : sOK src) (p : Nat) : byC (ivF src p 1) = 1 := by
  have e1 := iv_1 hs p
  have := hs p
  rw [byC_1']
  by_cases h : src p < 128
  · rw [if_pos h] at e1; omega
  · rw [if_neg h] at e1; omega
theorem c_abo {D : zJ} {src : Nat → Nat} {st L p c : Nat} (hs : sOK src) (hb : ∀ k, k < L → D 6 (st + k) = nI (src k)) (hL : st + L ≤ 120) (hc : p + c ≤ L) (N : Nat) : FI_areBytesOfOne N (nI (st + p)) (nI c) D = some (decide (1 ≤ c ∧ c ≤ 4 ∧ byC (ivF src p c) = c), D) := by
  unfold FI_areBytesOfOne
  rw [nI_add, nI_p1, show (1 : Int32) = nI 1 from rfl, show (4 : Int32) = nI 4 from rfl, show (0 : Int32) = nI 0 from rfl]
  simp (disch := omega) only [nI_ltI, nI_leI, nI_eq]
  by_cases c1 : c < 1
  · rw [if_pos c1, decide_eq_false (by omega)]
  rw [if_neg c1]
  by_cases c2 : 4 < c
  · rw [if_pos c2, decide_eq_false (by omega)]
  rw [if_neg c2, if_neg (by omega), if_pos (by omega)]
  by_cases c3 : c = 1
  · subst c3
    rw [if_pos rfl, decide_eq_true ⟨by omega, by omega, byC_1 hs p⟩]
  rw [if_neg c3, qk_t (qi_nI (by omega) (by omega)), qk_t (qi_nI (by omega) (by omega)), nI_clamp (by omega), nI_clamp (by omega), hb p (by omega), Nat.add_assoc, hb (p + 1) (by omega)]
  have h1 := hs p
  have h2 := hs (p + 1)
  rw [show (nI 1 &&& 31 : Int32) = nI 1 from by decide, show (7 &&& 31 : Int32) = nI 7 from by decide, nI_shl (by omega), nI_shr (by omega) (by omega), nI_or (by omega) (by omega), n_or (by omega), show (511 : Int32) = nI 511 from rfl]
  simp (disch := omega) only [nI_eq]
  have hk := byC_iff hs p (show 2 ≤ c by omega) (show c ≤ 4 by omega)
  by_cases c4 : src p * 2 ^ 1 + src (p + 1) / 2 ^ 7 = 0
  · rw [if_pos c4, decide_eq_false]
    rintro ⟨_, _, q⟩
    have := hk.mp q
    omega
  rw [if_neg c4]
  by_cases c5 : src p * 2 ^ 1 + src (p + 1) / 2 ^ 7 = 511
  · rw [if_pos c5, decide_eq_false]
    rintro ⟨_, _, q⟩
    have := hk.mp q
    omega
  rw [if_neg c5, decide_eq_true ⟨by omega, by omega, hk.mpr ⟨by omega, by omega⟩⟩]
theorem c_from {D : zJ} {src : Nat → Nat} {st L p c : Nat} (hs : sOK src) (hb : ∀ k, k < L → D 6 (st + k) = nI (src k)) (hL : st + L ≤ 120) (hc : p + c ≤ L) (h1 : 1 ≤ c) : Ev (fun N => FI_fromBytes N (nI (st + p)) (nI c) D = some (ivF src p c, D)) := by
  have hl := ev_loop (B := fun N => FI_fromBytes_18 N (nI (st + p)) (nI c)) (r := some (ivF src p c, D)) (fun k => (ivF src p k, nI (st + p + k), D)) c (ev_of (fun N k hk K => ?_)) (ev_of (fun N K => ?_))
  · refine ev_mono hl (fun N h => ?_)
    unfold FI_fromBytes
    have := hs p
    rw [qk_t (qi_nI (by omega) (by omega)), nI_clamp (by omega), hb p (by omega), show (128 : Int32) = nI 128 from rfl]
    simp (disch := omega) only [nI_leI]
    simp only [ivF, Nat.add_zero] at h
    by_cases c0 : src p < 128
    · rw [if_pos c0] at h
      rw [if_neg (by omega)]
      exact h
    · rw [if_neg c0] at h
      rw [if_pos (by omega)]
      exact h
  · simp only [FI_fromBytes_18]
    rw [nI_add, if_neg (by rw [nI_leI (by omega) (by omega)]; omega), qk_t (qi_nI (by omega) (by omega)), nI_clamp (by omega), nI_p1, sh831, Nat.add_assoc st p k, hb (p + k) (by omega), show st + (p + k) + 1 = st + p + (k + 1) by omega]
    rfl
  · simp only [FI_fromBytes_18]
    rw [nI_add, if_pos (by rw [nI_leI (by omega) (by omega)]; omega)]
theorem c_alw {M : zM} {T : zJ} {n a t : Nat} (hw : wfT T n t) (hr : rep M T n a t) (v : Int32) (N : Nat) : FT_allows N M a v = some (alw T t v) := by
  cases n with
  | zero => exact hw.elim
  | succ n =>
    unfold wfT at hw
    unfold rep at hr
    obtain ⟨_, r1, r2, r3, _⟩ := hr
    obtain ⟨_, _, w3, w4, _⟩ := hw
    unfold FT_allows alw
    rw [r2]
    rcases w3 with w3 | w3
    · rw [w3, if_pos rfl, decide_eq_true (Or.inl rfl)]
    · rw [w3, if_neg (by decide), (r3 w3).1, (r3 w3).2]
      simp only [Int32.lt_iff_toInt_lt]
      by_cases c1 : v.toInt < (T 5 t).toInt
      · rw [if_pos c1, decide_eq_false]
        rintro (q | q)
        · exact absurd q (by decide)
        · omega
      · rw [if_neg c1]
        by_cases c2 : (T 6 t).toInt < v.toInt
        · rw [if_pos c2, decide_eq_false]
          rintro (q | q)
          · exact absurd q (by decide)
          · omega
        · rw [if_neg c2, decide_eq_true]
          exact Or.inr ⟨by omega, by omega⟩
def oD (D : zJ) (src : Nat → Nat) (st p i o : Nat) : Nat → zJ
  | 0 => D
  | k + 1 => zu (zu (zu (zu (oD D src st p i o k) 23 (o + k) (nI (src (p + k)))) 16 8 (nI (o + k + 1))) 18 i (nI (k + 1))) 24 3 (nI (st + (p + k + 1)))
theorem oD_cell (D : zJ) (src : Nat → Nat) (st p i o : Nat) (c x : Nat) (h : c ≠ 23 ∧ ¬ (c = 16 ∧ x = 8) ∧ ¬ (c = 18 ∧ x = i) ∧ ¬ (c = 24 ∧ x = 3)) : ∀ k, oD D src st p i o k c x = D c x := by
  intro k
  induction k with
  | zero => rfl
  | succ k ih =>
    unfold oD
    rw [zu_at, if_neg (by omega), zu_at, if_neg (by omega), zu_at, if_neg (by omega), zu_at, if_neg (by omega), ih]
theorem oD_23 (D : zJ) (src : Nat → Nat) (st p i o : Nat) : ∀ k x, oD D src st p i o k 23 x = if o ≤ x ∧ x < o + k then nI (src (p + (x - o))) else D 23 x := by
  intro k
  induction k with
  | zero => intro x; rw [if_neg (by omega)]; rfl
  | succ k ih =>
    intro x
    unfold oD
    rw [zu_at, if_neg (by omega), zu_at, if_neg (by omega), zu_at, if_neg (by omega), zu_at]
    by_cases h : x = o + k
    · rw [if_pos ⟨rfl, h⟩, if_pos (by omega), show p + (x - o) = p + k by omega]
    · rw [if_neg (by omega), ih]
      by_cases h2 : o ≤ x ∧ x < o + k
      · rw [if_pos h2, if_pos (by omega)]
      · rw [if_neg h2, if_neg (by omega)]
theorem oD_state (D : zJ) (src : Nat → Nat) (st p i o : Nat) (h3 : D 24 3 = nI (st + p)) (h8 : D 16 8 = nI o) (hn : D 18 i = 0) (k : Nat) : oD D src st p i o k 24 3 = nI (st + (p + k)) ∧ oD D src st p i o k 16 8 = nI (o + k) ∧ oD D src st p i o k 18 i = nI k := by
  cases k with
  | zero => exact ⟨h3, h8, hn⟩
  | succ k =>
    unfold oD
    refine ⟨zu_self _ _ _ _, ?_, ?_⟩
    · rw [zu_at, if_neg (by omega), zu_at, if_neg (by omega), zu_self]
      rfl
    · rw [zu_at, if_neg (by omega), zu_self]
theorem c_octs {D : zJ} {src : Nat → Nat} {st L : Nat} {s : Bool} {i o p c : Nat} (h : cS D src st L s (i + 1) o p) (hc : p + c ≤ L) (hn : D 18 i = 0) (M : zM) : Ev (fun N => FO_readOctets N M (nI i) (nI c) D = some (true, oD D src st p i o c)) := by
  obtain ⟨a1, a2, a3, a4, a5, a6, a7, a8, a9⟩ := h
  refine ev_loop (B := fun N => FO_readOctets_2 N M (nI i) (nI c)) (fun k => (nI k, oD D src st p i o k)) c (ev_of (fun N k hk K => ?_)) (ev_of (fun N K => ?_))
  · obtain ⟨q1, q2, q3⟩ := oD_state D src st p i o a2 a4 hn k
    simp only [FO_readOctets_2]
    rw [if_neg (by rw [nI_leI (by omega) (by omega)]; omega), q1, qk_t (qi_nI (by omega) (by omega)), nI_clamp (by omega), oD_cell D src st p i o 6 _ (by omega), a5 (p + k) (by omega)]
    unfold FV_addOctet
    rw [q2, if_pos (by rw [nI_ltI (by omega) (by omega)]; omega), qk_t (qi_nI (by omega) (by omega)), nI_clamp (by omega)]
    simp only [qk_t (qi_nI (show i < 100 by omega) (show 100 < 2 ^ 31 by omega)), nI_clamp (show i < 2 ^ 31 by omega), qb_some, bI_t, if_neg (show ¬ (1 : Int32) = 0 by decide), nI_p1]
    rw [show zu (oD D src st p i o k) 23 (o + k) (nI (src (p + k))) 16 8 = nI (o + k) from by rw [zu_at, if_neg (by omega), q2]]
    rw [nI_p1, show zu (zu (oD D src st p i o k) 23 (o + k) (nI (src (p + k)))) 16 8 (nI (o + k + 1)) 18 i = nI k from by rw [zu_at, if_neg (by omega), zu_at, if_neg (by omega), q3]]
    rw [nI_p1, show zu (zu (zu (oD D src st p i o k) 23 (o + k) (nI (src (p + k)))) 16 8 (nI (o + k + 1))) 18 i (nI (k + 1)) 24 3 = nI (st + (p + k)) from by rw [zu_at, if_neg (by omega), zu_at, if_neg (by omega), zu_at, if_neg (by omega), q1]]
    rw [nI_p1]
    rfl
  · simp only [FO_readOctets_2]
    rw [if_pos (by rw [nI_leI (by omega) (by omega)]; omega)]
theorem seg_len (src : Nat → Nat) (p n : Nat) : (seg src p n).length = n := by simp [seg]
theorem seg_get {src : Nat → Nat} {p n k b : Nat} (h : (seg src p n)[k]? = some b) : k < n ∧ b = src (p + k) := by
  have hk : k < n := by
    have := (List.getElem?_eq_some_iff.mp h).1
    rw [seg_len] at this
    exact this
  refine ⟨hk, ?_⟩
  simp [seg, hk] at h
  exact h.symm
theorem c_plain {M : zM} {T D : zJ} {src : Nat → Nat} {st L : Nat} {s : Bool} {n a t t0 tg i o p c wh : Nat} {par : Int32} (hs : sOK src) (hw : wfT T n t) (hr : rep M T n a t) (hk : T 4 t ≠ 6 ∧ T 4 t ≠ 7 ∧ T 4 t ≠ 9 ∧ T 4 t ≠ 10) (h : cS D src st L s (i + 1) o p) (ha : cA D i (T 4 t) par wh o) (hp : p ≤ c) (hc : c ≤ L) :
    cR T src st L s D i o p (rdPl T src s t t0 tg par wh o p c) (fun N => FO_readPlain N M (some a) (nI i) (nI (st + c)) D) := by
  have h' := h
  obtain ⟨a1, a2, a3, a4, a5, a6, a7, a8, a9⟩ := h
  obtain ⟨b1, b2, b3, b4, b5, b6⟩ := ha
  obtain ⟨hsh, hkd⟩ : zsh M a = some (.inl 6) ∧ zi M a 0 = T 4 t := by
    cases n with
    | zero => exact hw.elim
    | succ n => unfold rep at hr; exact ⟨hr.1, hr.2.1⟩
  have hal := fun v N => c_alw hw hr v N
  unfold FO_readPlain rdPl
  rw [a2, nI_subs (by omega), show st + c - (st + p) = c - p by omega]
  simp only [qo_s rfl hsh, hkd]
  by_cases k1 : T 4 t = 1
  · simp only [if_pos k1]
    by_cases c1 : c = p + 1
    · subst c1
      have hsp := hs p
      have e1 : nI (p + 1 - p) = 1 := by rw [show p + 1 - p = 1 by omega]; rfl
      simp only [e1, if_true]
      have hb : ∀ N, FO_readBoolean N M (nI i) D = some (!(s && decide (src p ≠ 0) && decide (src p ≠ 255)), zu (zu D 24 3 (nI (st + (p + 1)))) 18 i (if src p = 0 then 0 else 1)) := by
        intro N
        have hD2 : ∀ x, zu (zu D 24 3 (nI (st + (p + 1)))) 18 i x 24 2 = bI s := fun x => by rw [zu_at, if_neg (by omega), zu_at, if_neg (by omega), a1]
        unfold FO_readBoolean FO_readBoolean_37
        rw [a2, qk_t (qi_nI (by omega) (by omega)), nI_clamp (by omega), a5 p (by omega), nI_p1, Nat.add_assoc, show (0 : Int32) = nI 0 from rfl, show (255 : Int32) = nI 255 from rfl]
        simp (disch := omega) only [nI_eq, qk_t (qi_nI (show i < 100 by omega) (show 100 < 2 ^ 31 by omega)), nI_clamp (show i < 2 ^ 31 by omega), hD2]
        by_cases c2 : src p = 0
        · simp only [if_pos c2]
          cases s <;> simp [c2, bI, nI]
        · simp only [if_neg c2]
          by_cases c3 : src p = 255
          · cases s <;> simp [c3, bI, nI]
          · cases s <;> simp [c2, c3, bI, nI]
      simp only [hb, qb_some, bI_eq0]
      by_cases c4 : s = true ∧ src p ≠ 0 ∧ src p ≠ 255
      · have e2 : (!(s && decide (src p ≠ 0) && decide (src p ≠ 255))) = false := by simp [c4]
        simp only [e2, if_true]
        refine ⟨fun _ => ⟨_, ev_of (fun N => rfl), cK_trans (cK_zu (by omega)) (cK_zu (by omega))⟩, fun q hq => ?_⟩
        rw [if_neg (by rintro ⟨_, q⟩; exact q c4)] at hq
        cases hq
      · have e2 : (!(s && decide (src p ≠ 0) && decide (src p ≠ 255))) = true := by
          cases s
          · rfl
          · simp at c4 ⊢
            omega
        simp only [e2]
        rw [if_pos ⟨trivial, c4⟩]
        refine ⟨fun hq => by simp at hq, fun q hq => ?_⟩
        injection hq with hq
        subst hq
        refine ⟨_, ev_of (fun N => rfl), cG_trans (cG_pos D _ i o) (cG_zu (by omega)) (Nat.le_refl _) (Nat.le_refl _), ?_, by simp, ?_, cO_nil _ _⟩
        · obtain ⟨g1, g2, g3, g4, g5, g6, g7, g8, g9⟩ := cS_pos h' (show p ≤ p + 1 by omega) hc
          refine ⟨?_, ?_, ?_, ?_, fun k hk => ?_, g6, g7, g8, g9⟩
          · rw [zu_at, if_neg (by omega)]; exact g1
          · rw [zu_at, if_neg (by omega)]; exact g2
          · rw [zu_at, if_neg (by omega)]; exact g3
          · rw [zu_at, if_neg (by omega)]; exact g4
          · rw [zu_at, if_neg (by omega)]; exact g5 k hk
        · refine cH_one ?_ ?_ ?_ ?_ ?_ ?_
          · rw [zu_at, if_neg (by omega), zu_at, if_neg (by omega)]; exact b1
          · rw [zu_self]
          · rw [zu_at, if_neg (by omega), zu_at, if_neg (by omega)]; exact b3
          · rw [zu_at, if_neg (by omega), zu_at, if_neg (by omega)]; exact b4
          · rw [zu_at, if_neg (by omega), zu_at, if_neg (by omega)]; exact b5
          · rw [zu_at, if_neg (by omega), zu_at, if_neg (by omega)]; exact b6
    · have e1 : ¬ nI (c - p) = 1 := by
        rw [show (1 : Int32) = nI 1 from rfl, nI_eq (by omega) (by omega)]
        omega
      simp only [if_neg e1]
      refine ⟨fun _ => ⟨D, ev_of (fun N => rfl), cK_refl D⟩, fun q hq => ?_⟩
      rw [if_neg (by rintro ⟨q, _⟩; exact c1 q)] at hq
      cases hq
  simp only [if_neg k1]
  by_cases k2 : T 4 t = 2
  · simp only [if_pos k2]
    have hab := c_abo (c := c - p) hs a5 a9 (show p + (c - p) ≤ L by omega)
    unfold FO_readInteger
    simp only [a2, hab, qb_some, bI_eq0, decide_eq_false_iff_not]
    by_cases c1 : 1 ≤ c - p ∧ c - p ≤ 4 ∧ byC (ivF src p (c - p)) = c - p
    · have c1' : ¬ ¬ (1 ≤ c - p ∧ c - p ≤ 4 ∧ byC (ivF src p (c - p)) = c - p) := fun h => h c1
      simp only [if_neg c1']
      have hf := c_from (c := c - p) hs a5 a9 (show p + (c - p) ≤ L by omega) c1.1
      have hall : Ev (fun N => qb (qb (FI_fromBytes N (nI (st + p)) (nI (c - p)) D) fun v3 J4 => let J5 := zu J4 24 3 (J4 24 3 + nI (c - p)); qk (qi (nI i) 100) <| let J7 := zu J5 18 (nI i).toNatClampNeg v3; qo (some a) M 6 fun o8 => qc (FT_allows N M o8 v3) fun v9 => some (v9, J7)) (fun v5 J6 => some (v5, J6)) = some (alw T t (ivF src p (c - p)), zu (zu D 24 3 (nI (st + c))) 18 i (ivF src p (c - p)))) := by
        refine ev_mono hf (fun N hN => ?_)
        rw [hN, qb_some]
        simp only [a2, nI_add, qk_t (qi_nI (show i < 100 by omega) (show 100 < 2 ^ 31 by omega)), nI_clamp (show i < 2 ^ 31 by omega), qo_s rfl hsh, hal, qc_some, qb_some]
        rw [show st + p + (c - p) = st + c by omega]
      by_cases c2 : alw T t (ivF src p (c - p)) = true
      · rw [if_pos ⟨c1.1, c1.2.1, c1.2.2, c2⟩]
        rw [c2] at hall
        refine ⟨fun hq => by simp at hq, fun q hq => ?_⟩
        injection hq with hq
        subst hq
        refine ⟨_, hall, cG_trans (cG_pos D _ i o) (cG_zu (by omega)) (Nat.le_refl _) (Nat.le_refl _), ?_, hp, ?_, cO_nil _ _⟩
        · obtain ⟨g1, g2, g3, g4, g5, g6, g7, g8, g9⟩ := cS_pos h' hp hc
          refine ⟨?_, ?_, ?_, ?_, fun k hk => ?_, g6, g7, g8, g9⟩
          · rw [zu_at, if_neg (by omega)]; exact g1
          · rw [zu_at, if_neg (by omega)]; exact g2
          · rw [zu_at, if_neg (by omega)]; exact g3
          · rw [zu_at, if_neg (by omega)]; exact g4
          · rw [zu_at, if_neg (by omega)]; exact g5 k hk
        · refine cH_one ?_ ?_ ?_ ?_ ?_ ?_
          · rw [zu_at, if_neg (by omega), zu_at, if_neg (by omega)]; exact b1
          · rw [zu_self]
          · rw [zu_at, if_neg (by omega), zu_at, if_neg (by omega)]; exact b3
          · rw [zu_at, if_neg (by omega), zu_at, if_neg (by omega)]; exact b4
          · rw [zu_at, if_neg (by omega), zu_at, if_neg (by omega)]; exact b5
          · rw [zu_at, if_neg (by omega), zu_at, if_neg (by omega)]; exact b6
      · have c2' : alw T t (ivF src p (c - p)) = false := by simpa using c2
        rw [if_neg (by rintro ⟨_, _, _, q⟩; exact c2 q)]
        rw [c2'] at hall
        exact ⟨fun _ => ⟨_, hall, cK_trans (cK_zu (by omega)) (cK_zu (by omega))⟩, fun q hq => by cases hq⟩
    · simp only [if_pos c1]
      rw [if_neg (by rintro ⟨q1, q2, q3, _⟩; exact c1 ⟨q1, q2, q3⟩)]
      exact ⟨fun _ => ⟨D, ev_of (fun N => rfl), cK_refl D⟩, fun q hq => by cases hq⟩
  simp only [if_neg k2]
  by_cases k4 : T 4 t = 4
  · simp only [if_pos k4, hal, qc_some, bI_eq0]
    by_cases c2 : alw T t (nI (c - p)) = true
    · have c2' : ¬ alw T t (nI (c - p)) = false := by simp [c2]
      simp only [if_neg c2']
      rw [if_pos c2]
      have ho := c_octs h' (c := c - p) (by omega) b2 M
      have hall : Ev (fun N => qb (FO_readOctets N M (nI i) (nI (c - p)) D) (fun v9 J10 => if v9 = false then some (false, J10) else some (true, J10)) = some (true, oD D src st p i o (c - p))) := by
        refine ev_mono ho (fun N hN => ?_)
        rw [hN, qb_some]
        rfl
      refine ⟨fun hq => by simp at hq, fun q hq => ?_⟩
      injection hq with hq
      subst hq
      obtain ⟨s1, s2, s3⟩ := oD_state D src st p i o a2 a4 b2 (c - p)
      have cc := oD_cell D src st p i o
      refine ⟨_, hall, ⟨fun c' hc' => ?_, fun c' k' c1 c2 hk' => ?_, fun k' hk' => ?_⟩, ⟨?_, ?_, ?_, ?_, fun k' hk' => ?_, a6, ?_, hc, a9⟩, hp, cH_one ?_ ?_ ?_ ?_ ?_ ?_, fun k' b hk' => ?_⟩
      · funext x
        exact cc c' x (by omega) _
      · exact cc c' k' (by omega) _
      · rw [oD_23, if_neg (by omega)]
      · rw [cc 24 2 (by omega)]; exact a1
      · rw [s1, show p + (c - p) = c by omega]
      · rw [cc 16 0 (by omega)]; exact a3
      · show _ = nI (o + (seg src p (c - p)).length)
        rw [s2, seg_len]
      · rw [cc 6 _ (by omega)]; exact a5 k' hk'
      · show o + (seg src p (c - p)).length ≤ c
        rw [seg_len]
        omega
      · rw [cc 17 _ (by omega)]; exact b1
      · exact s3
      · rw [cc 19 _ (by omega)]; exact b3
      · rw [cc 20 _ (by omega)]; exact b4
      · rw [cc 21 _ (by omega)]; exact b5
      · rw [cc 22 _ (by omega)]; exact b6
      · obtain ⟨g1, g2⟩ := seg_get hk'
        rw [oD_23, if_pos (by omega), g2, show o + k' - o = k' by omega]
    · have c2' : alw T t (nI (c - p)) = false := by simpa using c2
      simp only [c2', if_true]
      rw [if_neg (by simp)]
      exact ⟨fun _ => ⟨D, ev_of (fun N => rfl), cK_refl D⟩, fun q hq => by cases hq⟩
  simp only [if_neg k4]
  rw [show (0 : Int32) = nI 0 from rfl]
  simp (disch := omega) only [nI_eq]
  by_cases c1 : c = p
  · subst c1
    simp only [Nat.sub_self, if_true]
    refine ⟨fun hq => by simp at hq, fun q hq => ?_⟩
    injection hq with hq
    subst hq
    exact ⟨D, ev_of (fun N => rfl), cG_refl D i o, h', hp, cH_one b1 b2 b3 b4 b5 b6, cO_nil _ _⟩
  · have c2 : ¬ c - p = 0 := by omega
    simp only [if_neg c2, if_neg c1]
    exact ⟨fun _ => ⟨D, ev_of (fun N => rfl), cK_refl D⟩, fun q hq => by cases hq⟩
