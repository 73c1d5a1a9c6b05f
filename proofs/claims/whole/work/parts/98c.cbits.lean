/-! THE CLASS reads packed bits: bits, numbers, counts -/
theorem n_mod8 (a : Nat) : a &&& 7 = a % 8 := Nat.and_two_pow_sub_one_eq_mod a 3
theorem bvs_lt (src : Nat → Nat) (p : Nat) : ∀ n, bvs src p n < 2 ^ n := by
  intro n
  induction n with
  | zero => simp [bvs]
  | succ n ih =>
    unfold bvs
    have : sbit src (p + n) < 2 := Nat.mod_lt _ (by omega)
    rw [Nat.pow_succ]
    omega
theorem bvs_byte (src : Nat → Nat) (p : Nat) : ∀ n, n ≤ 8 - p % 8 → bvs src p n = src (p / 8) / 2 ^ (8 - p % 8 - n) % 2 ^ n := by
  intro n
  induction n with
  | zero => intro _; simp [bvs]; omega
  | succ n ih =>
    intro hn
    unfold bvs
    rw [ih (by omega)]
    have e1 : (p + n) / 8 = p / 8 := by omega
    have e2 : (p + n) % 8 = p % 8 + n := by omega
    have e3 : 7 - (p % 8 + n) = 8 - p % 8 - (n + 1) := by omega
    unfold sbit
    rw [e1, e2, e3]
    have e4 : src (p / 8) / 2 ^ (8 - p % 8 - n) = src (p / 8) / 2 ^ (8 - p % 8 - (n + 1)) / 2 := by
      rw [Nat.div_div_eq_div_mul, ← Nat.pow_succ, show Nat.succ (8 - p % 8 - (n + 1)) = 8 - p % 8 - n by omega]
    rw [e4, Nat.pow_succ, Nat.mul_comm (2 ^ n) 2, Nat.mod_mul]
    omega
theorem bvs_8 {src : Nat → Nat} (hs : sOK src) {p : Nat} (hp : p % 8 = 0) : bvs src p 8 = src (p / 8) := by
  rw [bvs_byte src p 8 (by omega), hp]
  have := hs (p / 8)
  simp
  omega
theorem kp_bit {D : zJ} {src : Nat → Nat} {st L p : Nat} (hs : sOK src) (hb : ∀ k, k < L → D 6 (st + k) = nI (src k)) (hL : st + L ≤ 120) (hp : p < 8 * L) : nI (8 * st + p) >>> (3 &&& 31) = nI (st + p / 8) ∧ nI (8 * st + p) &&& 7 = nI (p % 8) ∧ ((D 6 (st + p / 8)) >>> ((7 - nI (p % 8)) &&& 31)) &&& 1 = nI (sbit src p) := by
  refine ⟨?_, ?_, ?_⟩
  · rw [show (3 &&& 31 : Int32) = nI 3 from by decide, nI_shr (by omega) (by omega)]
    congr 1
    omega
  · rw [show (7 : Int32) = nI 7 from rfl, nI_and (by omega) (by omega), n_mod8]
    congr 1
    omega
  · have h1 := hs (p / 8)
    rw [hb (p / 8) (by omega), show (7 : Int32) - nI (p % 8) = nI (7 - p % 8) from nI_subs (a := 7) (by omega), nI_and31 (by omega), nI_shr (by omega) (by omega), show (1 : Int32) = nI 1 from rfl, nI_and (by have := Nat.div_le_self (src (p / 8)) (2 ^ (7 - p % 8)); omega) (by omega), Nat.and_one_is_mod]
    rfl
theorem kpG_pos (D : zJ) (x : Int32) (i o : Nat) : kpG D (zu D 25 2 x) i o := kpG_zu (by omega)
theorem kpS_pos {D : zJ} {src : Nat → Nat} {st L i o p p1 : Nat} (h : kpS D src st L i o p) (h1 : p ≤ p1) (h2 : p1 ≤ 8 * L) : kpS (zu D 25 2 (nI (8 * st + p1))) src st L i o p1 := by
  obtain ⟨a1, a2, a3, a4, a5, a6, a7, a8, a9⟩ := h
  refine ⟨?_, zu_self _ _ _ _, ?_, ?_, fun k hk => ?_, a6, by omega, h2, a9⟩
  · rw [zu_at, if_neg (by omega)]; exact a1
  · rw [zu_at, if_neg (by omega)]; exact a3
  · rw [zu_at, if_neg (by omega)]; exact a4
  · rw [zu_at, if_neg (by omega)]; exact a5 k hk
theorem kp_bits {D : zJ} {src : Nat → Nat} {st L i o p : Nat} (hs : sOK src) (h : kpS D src st L i o p) (n : Nat) (hn : n ≤ 16) (M : zM) : Ev (fun N => FP_takeBits N M (nI n) D = if p + n ≤ 8 * L then some (nI (bvs src p n), zu D 25 2 (nI (8 * st + (p + n)))) else some (-1, D)) := by
  obtain ⟨a1, a2, a3, a4, a5, a6, a7, a8, a9⟩ := h
  unfold FP_takeBits
  rw [a1, a2, nI_add]
  simp (disch := omega) only [nI_leI]
  by_cases c : p + n ≤ 8 * L
  · have c' : 8 * st + p + n ≤ 8 * (st + L) := by omega
    simp only [if_pos c, if_pos c']
    have hz : zu D 25 2 (nI (8 * st + (p + 0))) = D := zu_id _ _ _ _ (by rw [a2]; rfl)
    have := ev_loop (B := fun N => FP_takeBits_19 N M (nI n)) (r := some (nI (bvs src p n), zu D 25 2 (nI (8 * st + (p + n))))) (fun k => (nI (bvs src p k), nI k, zu D 25 2 (nI (8 * st + (p + k))))) n (ev_of (fun N k hk K => ?_)) (ev_of (fun N K => ?_))
    · rw [hz] at this
      exact this
    · have hb : ∀ k', k' < L → zu D 25 2 (nI (8 * st + (p + k))) 6 (st + k') = nI (src k') := fun k' hk' => by rw [zu_at, if_neg (by omega)]; exact a5 k' hk'
      obtain ⟨q1, q2, q3⟩ := kp_bit (p := p + k) hs hb a9 (by omega)
      have hlt := bvs_lt src p k
      have hpw : 2 ^ k ≤ 2 ^ 15 := Nat.pow_le_pow_right (by omega) (by omega)
      have hsb : sbit src (p + k) < 2 := Nat.mod_lt _ (by omega)
      simp only [FP_takeBits_19]
      rw [if_neg (by rw [nI_leI (by omega) (by omega)]; omega), zu_self, q1, q2, qk_t (qi_nI (by omega) (by omega)), nI_clamp (by omega), q3, nI_p1, nI_p1, show (1 &&& 31 : Int32) = nI 1 from by decide, nI_shl (by omega), nI_or (by omega) (by omega), n_or (by omega), zu_same]
      rw [show bvs src p k * 2 ^ 1 + sbit src (p + k) = bvs src p (k + 1) from by show _ = 2 * bvs src p k + sbit src (p + k); omega, show 8 * st + (p + k) + 1 = 8 * st + (p + (k + 1)) by omega]
    · simp only [FP_takeBits_19]
      rw [if_pos (by rw [nI_leI (by omega) (by omega)]; omega)]
  · have c' : ¬ 8 * st + p + n ≤ 8 * (st + L) := by omega
    simp only [if_neg c, if_neg c']
    exact ev_of (fun _ => trivial)
theorem alU_ge (p : Nat) : p ≤ alU p ∧ alU p < p + 8 ∧ alU p % 8 = 0 ∧ (p % 8 = 0 → alU p = p) ∧ (p % 8 ≠ 0 → alU p = p + (8 - p % 8)) := by
  unfold alU
  refine ⟨by omega, by omega, by omega, by omega, by omega⟩
theorem kp_align {D : zJ} {src : Nat → Nat} {st L i o p : Nat} (hs : sOK src) (h : kpS D src st L i o p) (M : zM) (N : Nat) : (alP true src p = none → FP_align N M D = some (false, D)) ∧ (∀ p1, alP true src p = some p1 → FP_align N M D = some (true, zu D 25 2 (nI (8 * st + p1))) ∧ p ≤ p1 ∧ p1 ≤ 8 * L ∧ p1 % 8 = 0) := by
  obtain ⟨a1, a2, a3, a4, a5, a6, a7, a8, a9⟩ := h
  obtain ⟨u1, u2, u3, u4, u5⟩ := alU_ge p
  have e7 : nI (8 * st + p) &&& 7 = nI (p % 8) := by
    rw [show (7 : Int32) = nI 7 from rfl, nI_and (by omega) (by omega), n_mod8]
    congr 1
    omega
  unfold FP_align alP
  rw [a2, e7, show (0 : Int32) = nI 0 from rfl]
  simp (disch := omega) only [nI_eq]
  by_cases c : p % 8 = 0
  · have hb : bvs src p (alU p - p) = 0 := by rw [u4 c, Nat.sub_self]; rfl
    rw [if_pos c, if_pos (Or.inr hb), u4 c]
    refine ⟨fun h => (by cases h), fun p1 h => ?_⟩
    injection h with h
    subst h
    rw [zu_id _ _ _ _ a2]
    exact ⟨rfl, Nat.le_refl _, a8, c⟩
  · obtain ⟨q1, q2, q3⟩ := kp_bit hs a5 a9 (show p < 8 * L by omega)
    have hsb := hs (p / 8)
    have hbv : bvs src p (alU p - p) = src (p / 8) % 2 ^ (8 - p % 8) := by
      rw [u5 c, Nat.add_sub_cancel_left, bvs_byte src p _ (Nat.le_refl _), Nat.sub_self, Nat.pow_zero, Nat.div_one]
    have hm : nI (src (p / 8)) &&& (255 >>> (nI (p % 8) &&& 31)) = nI (src (p / 8) % 2 ^ (8 - p % 8)) := by
      rw [nI_and31 (by omega), show (255 : Int32) = nI 255 from rfl, nI_shr (by omega) (by omega), nI_and (by omega) (by have := Nat.div_le_self 255 (2 ^ (p % 8)); omega)]
      have hk : ∀ u : Fin 8, 255 / 2 ^ (u : Nat) = 2 ^ (8 - (u : Nat)) - 1 := by decide
      rw [hk ⟨p % 8, by omega⟩, Nat.and_two_pow_sub_one_eq_mod]
    rw [if_neg c, a1, if_neg (show ¬ nI (8 * (st + L)) ≤ nI (8 * st + p) by rw [nI_leI (by omega) (by omega)]; omega), q1, qk_t (qi_nI (by omega) (by omega)), nI_clamp (by omega), a5 (p / 8) (by omega), hm, hbv]
    have hle : src (p / 8) % 2 ^ (8 - p % 8) ≤ src (p / 8) := Nat.mod_le _ _
    simp (disch := omega) only [nI_eq]
    by_cases z : src (p / 8) % 2 ^ (8 - p % 8) = 0
    · rw [if_pos z, if_pos (Or.inr z)]
      refine ⟨fun h => (by cases h), fun p1 h => ?_⟩
      injection h with h
      subst h
      refine ⟨?_, u1, by omega, u3⟩
      rw [show (8 : Int32) - nI (p % 8) = nI (8 - p % 8) from nI_subs (a := 8) (by omega), nI_add, show 8 * st + p + (8 - p % 8) = 8 * st + alU p by rw [u5 c]; omega]
    · rw [if_neg z, if_neg (show ¬ (true = false ∨ src (p / 8) % 2 ^ (8 - p % 8) = 0) from fun y => y.elim (fun h => (by cases h)) z)]
      exact ⟨fun _ => rfl, fun p1 h => by cases h⟩
theorem c_wid {h : Nat} (hh : h < 65536) : Ev (fun N => FI_bitsOfNumbersTo N (nI h) = some (nI (wid h))) := by
  unfold FI_bitsOfNumbersTo
  rw [show (255 : Int32) = nI 255 from rfl]
  simp (disch := omega) only [nI_leI]
  by_cases c : h ≤ 255
  · simp only [if_pos c]
    have h1 : ∀ h : Fin 256, ∀ k : Fin 9, (k : Nat) < wid h → 0 < (h : Nat) / 2 ^ (k : Nat) := by decide +kernel
    have h2 : ∀ h : Fin 256, wid h = 8 ∨ (wid h < 8 ∧ (h : Nat) / 2 ^ wid h = 0) := by decide +kernel
    have hw8 : wid h ≤ 8 := by rcases h2 ⟨h, by omega⟩ with z | z <;> simp at z <;> omega
    refine ev_loop (B := fun N => FI_bitsOfNumbersTo_12 N (nI h)) (fun k => nI k) (wid h) (ev_of (fun N k hk K => ?_)) (ev_of (fun N K => ?_))
    · have this : 0 < h / 2 ^ k := h1 ⟨h, by omega⟩ ⟨k, by omega⟩ hk
      simp only [FI_bitsOfNumbersTo_12]
      have hd : h / 2 ^ k ≤ h := Nat.div_le_self _ _
      rw [show (8 : Int32) = nI 8 from rfl, if_neg (by rw [nI_leI (by omega) (by omega)]; omega), nI_and31 (by omega), nI_shr (by omega) (by omega), show (0 : Int32) = nI 0 from rfl, if_neg (by rw [nI_leI (by omega) (by omega)]; exact Nat.not_le.mpr this), nI_p1]
    · simp only [FI_bitsOfNumbersTo_12]
      rcases h2 ⟨h, by omega⟩ with z | ⟨z1, z2⟩
      · simp at z
        rw [z, if_pos (by decide)]
      · have z1 : wid h < 8 := z1
        have z2 : h / 2 ^ wid h = 0 := z2
        rw [show (8 : Int32) = nI 8 from rfl, if_neg (by rw [nI_leI (by omega) (by omega)]; omega), nI_and31 (by omega), nI_shr (by omega) (by omega), z2, if_pos (by decide)]
  · simp only [if_neg c]
    have : wid h = 16 := by unfold wid; (repeat' split) <;> omega
    rw [this]
    exact ev_of (fun N => rfl)
theorem wid_le (h : Nat) : wid h ≤ 16 := by unfold wid; (repeat' split) <;> omega
/-- what a failing step leaves: only where the reader stands has changed -/
def kpF (D D' : zJ) : Prop := ∀ c, c ≠ 25 → D' c = D c
theorem kpF_zu {D : zJ} {x : Int32} : kpF D (zu D 25 2 x) := fun c hc => zu_ne _ _ _ hc
theorem kpF_K {D D' : zJ} (h : kpF D D') : kpK D D' := fun c hc => h c (by omega)
theorem kp_num {D : zJ} {src : Nat → Nat} {st L i o p h : Nat} (hs : sOK src) (hS : kpS D src st L i o p) (hh : h < 65536) (M : zM) :
    (numP true src (8 * L) h p = none → ∃ D', Ev (fun N => FP_takeNumber N M (nI h) D = some (-1, D')) ∧ kpF D D') ∧ (∀ q, numP true src (8 * L) h p = some q → Ev (fun N => FP_takeNumber N M (nI h) D = some (nI q.2, zu D 25 2 (nI (8 * st + q.1)))) ∧ p ≤ q.1 ∧ q.1 ≤ 8 * L ∧ q.2 ≤ h) := by
  have hw := wid_le h
  have h22 : ∀ p1 D1, kpS D1 src st L i o p1 → (¬ (p1 + wid h ≤ 8 * L ∧ bvs src p1 (wid h) ≤ h) → ∃ D', Ev (fun N => FP_takeNumber_22 N M (nI h) D1 = some (-1, D')) ∧ kpF D1 D') ∧ (p1 + wid h ≤ 8 * L ∧ bvs src p1 (wid h) ≤ h → Ev (fun N => FP_takeNumber_22 N M (nI h) D1 = some (nI (bvs src p1 (wid h)), zu D1 25 2 (nI (8 * st + (p1 + wid h)))))) := by
    intro p1 D1 hS1
    have hb := kp_bits hs hS1 (wid h) hw M
    have hlt := bvs_lt src p1 (wid h)
    have hpw : 2 ^ wid h ≤ 2 ^ 16 := Nat.pow_le_pow_right (by omega) hw
    constructor
    · intro c
      by_cases c1 : p1 + wid h ≤ 8 * L
      · have c2 : ¬ bvs src p1 (wid h) ≤ h := fun z => c ⟨c1, z⟩
        refine ⟨zu D1 25 2 (nI (8 * st + (p1 + wid h))), ev_mono (ev_and (c_wid hh) hb) (fun N hN => ?_), kpF_zu⟩
        unfold FP_takeNumber_22
        rw [hN.1, qc_some, hN.2, if_pos c1, qb_some, if_neg (by rw [nI_leI (by omega) (by omega)]; exact c2)]
      · refine ⟨D1, ev_mono (ev_and (c_wid hh) hb) (fun N hN => ?_), fun _ _ => rfl⟩
        unfold FP_takeNumber_22
        rw [hN.1, qc_some, hN.2, if_neg c1, qb_some, if_pos (by rw [Int32.le_iff_toInt_le, i_neg1, nI_toInt (by omega)]; omega)]
    · rintro ⟨c1, c2⟩
      refine ev_mono (ev_and (c_wid hh) hb) (fun N hN => ?_)
      unfold FP_takeNumber_22
      rw [hN.1, qc_some, hN.2, if_pos c1, qb_some, if_pos (by rw [nI_leI (by omega) (by omega)]; exact c2)]
  unfold FP_takeNumber numP
  rw [show (0 : Int32) = nI 0 from rfl, show (255 : Int32) = nI 255 from rfl]
  simp (disch := omega) only [nI_ltI]
  by_cases c0 : 0 < h
  · simp only [if_pos c0]
    by_cases c1 : h < 255
    · have c2 : ¬ 255 ≤ h := by omega
      simp only [if_pos c1, if_neg c2, Option.bind_some]
      obtain ⟨g1, g2⟩ := h22 p D hS
      by_cases c3 : p + wid h ≤ 8 * L ∧ bvs src p (wid h) ≤ h
      · rw [if_pos c3]
        refine ⟨fun z => (by cases z), fun q hq => ?_⟩
        injection hq with hq
        subst hq
        exact ⟨g2 c3, by simp, c3.1, c3.2⟩
      · rw [if_neg c3]
        exact ⟨fun _ => g1 c3, fun q hq => (by cases hq)⟩
    · have c2 : 255 ≤ h := by omega
      simp only [if_neg c1, if_pos c2]
      have ha := kp_align hs hS M
      cases hal : alP true src p with
      | none =>
        refine ⟨fun _ => ⟨D, ev_of (fun N => ?_), fun _ _ => rfl⟩, fun q hq => (by cases hq)⟩
        rw [(ha N).1 hal, qb_some]
        rfl
      | some p1 =>
        obtain ⟨_, z1, z2, z3⟩ := (ha 0).2 p1 hal
        have hS1 := kpS_pos hS z1 z2
        obtain ⟨g1, g2⟩ := h22 p1 _ hS1
        simp only [Option.bind_some]
        by_cases c3 : p1 + wid h ≤ 8 * L ∧ bvs src p1 (wid h) ≤ h
        · rw [if_pos c3]
          refine ⟨fun z => (by cases z), fun q hq => ?_⟩
          injection hq with hq
          subst hq
          refine ⟨ev_mono (g2 c3) (fun N hN => ?_), by simp; omega, c3.1, c3.2⟩
          rw [((ha N).2 p1 hal).1, qb_some, bI_t, if_neg (by decide), hN, zu_same]
        · rw [if_neg c3]
          refine ⟨fun _ => ?_, fun q hq => (by cases hq)⟩
          obtain ⟨D', g3, g4⟩ := g1 c3
          refine ⟨D', ev_mono g3 (fun N hN => ?_), fun c hc => (g4 c hc).trans (zu_ne _ _ _ hc)⟩
          rw [((ha N).2 p1 hal).1, qb_some, bI_t, if_neg (by decide), hN]
  · have h0 : h = 0 := by omega
    subst h0
    have c2 : ¬ 255 ≤ 0 := by omega
    simp only [if_neg c0, if_neg c2, Option.bind_some]
    have c3 : p + wid 0 ≤ 8 * L ∧ bvs src p (wid 0) ≤ 0 := ⟨hS.2.2.2.2.2.2.2.1, Nat.le_refl _⟩
    rw [if_pos c3]
    refine ⟨fun z => (by cases z), fun q hq => ?_⟩
    injection hq with hq
    subst hq
    refine ⟨ev_of (fun N => ?_), by simp, c3.1, c3.2⟩
    rw [zu_id _ _ _ _ (by rw [hS.2.1]; rfl)]
    rfl
theorem kp_byte {D : zJ} {src : Nat → Nat} {st L i o p : Nat} (hs : sOK src) (hS : kpS D src st L i o p) (M : zM) :
    (∀ p1, alP true src p = some p1 → Ev (fun N => FP_takeByte N M D = if p1 + 8 ≤ 8 * L then some (nI (bvs src p1 8), zu D 25 2 (nI (8 * st + (p1 + 8)))) else some (-1, zu D 25 2 (nI (8 * st + p1)))) ∧ p ≤ p1 ∧ p1 ≤ 8 * L ∧ p1 % 8 = 0) ∧ (alP true src p = none → ∀ N, FP_takeByte N M D = some (-1, D)) := by
  have ha := kp_align hs hS M
  refine ⟨fun p1 hal => ?_, fun hal N => ?_⟩
  · obtain ⟨_, z1, z2, z3⟩ := (ha 0).2 p1 hal
    refine ⟨ev_mono (kp_bits hs (kpS_pos hS z1 z2) 8 (by omega) M) (fun N hN => ?_), z1, z2, z3⟩
    unfold FP_takeByte
    rw [((ha N).2 p1 hal).1, qb_some, bI_t, if_neg (by decide), show (8 : Int32) = nI 8 from rfl, hN, zu_same]
    split <;> rfl
  · unfold FP_takeByte
    rw [(ha N).1 hal, qb_some]
    rfl
theorem rng_I {T : zJ} {n t : Nat} (hw : wfT T n t) (h : T 11 t = 1) : T 6 t - T 5 t = nI (rngT T t) ∧ rngT T t < 65536 := by
  cases n with
  | zero => exact hw.elim
  | succ n =>
    obtain ⟨_, w1, w2, w3⟩ := hw.2.2.2.1 h
    have hr : rngT T t < 65536 := by unfold rngT; omega
    refine ⟨?_, hr⟩
    apply Int32.toInt_inj.mp
    rw [nI_toInt (by omega)]
    have h1 : (T 6 t - T 5 t).toInt = ((T 6 t).toInt - (T 5 t).toInt).bmod (2 ^ 32) := Int32.toInt_sub _ _
    rw [h1]
    unfold rngT
    rw [Int.bmod_eq_of_le (by omega) (by omega)]
    omega
theorem lo_I {T : zJ} {n t : Nat} (hw : wfT T n t) (h : T 11 t = 1) (hk : T 4 t ≠ 2) : T 5 t = nI (loT T t) ∧ loT T t + rngT T t ≤ 20 := by
  cases n with
  | zero => exact hw.elim
  | succ n =>
    obtain ⟨_, w1, w2, w3⟩ := hw.2.2.2.1 h
    obtain ⟨w4, w5⟩ := w3 hk
    obtain ⟨j, j1, j2, j3⟩ := nI_ex w4
    have : loT T t = j := by unfold loT; rw [j2, nI_clamp j1]
    refine ⟨by rw [this]; exact j2, ?_⟩
    unfold rngT
    omega
theorem kp_count {M : zM} {T D : zJ} {src : Nat → Nat} {st L n a t i o p : Nat} (hs : sOK src) (hw : wfT T n t) (hr : rep M T n a t) (hk : T 4 t ≠ 2) (hS : kpS D src st L i o p) :
    (cntP T true src (8 * L) t p = none → ∃ D', Ev (fun N => FP_takeCount N M (some a) D = some (-1, D')) ∧ kpF D D') ∧ (∀ q, cntP T true src (8 * L) t p = some q → Ev (fun N => FP_takeCount N M (some a) D = some (nI q.2, zu D 25 2 (nI (8 * st + q.1)))) ∧ p ≤ q.1 ∧ q.1 ≤ 8 * L ∧ q.2 ≤ 127) := by
  obtain ⟨e1, _⟩ := rep_sh hr
  have hr1 : zi M a 1 = T 11 t := by cases n with
    | zero => exact hw.elim
    | succ n => exact hr.2.2.1
  have hr2 : T 11 t = 1 → zi M a 2 = T 5 t ∧ zi M a 3 = T 6 t := by cases n with
    | zero => exact hw.elim
    | succ n => exact hr.2.2.2.1
  have h01 : T 11 t = 0 ∨ T 11 t = 1 := by cases n with
    | zero => exact hw.elim
    | succ n => exact hw.2.2.1
  unfold FP_takeCount cntP
  simp only [qo_s rfl e1, hr1]
  rcases h01 with h0 | h1
  · have n1 : ¬ T 11 t = 1 := by rw [h0]; decide
    simp only [if_pos h0, if_neg n1]
    obtain ⟨g1, g2⟩ := kp_byte hs hS M
    cases hal : alP true src p with
    | none =>
      refine ⟨fun _ => ⟨D, ev_of (fun N => ?_), fun _ _ => rfl⟩, fun q hq => (by cases hq)⟩
      rw [g2 hal, qb_some]
      rfl
    | some p1 =>
      obtain ⟨z1, z2, z3, z4⟩ := g1 p1 hal
      have hlt := bvs_lt src p1 8
      simp only [Option.bind_some]
      by_cases c1 : p1 + 8 ≤ 8 * L
      · simp only [if_pos c1] at z1
        by_cases c2 : bvs src p1 8 ≤ 127
        · rw [if_pos ⟨c1, c2⟩]
          refine ⟨fun z => (by cases z), fun q hq => ?_⟩
          injection hq with hq
          subst hq
          refine ⟨ev_mono z1 (fun N hN => ?_), by simp; omega, c1, c2⟩
          rw [hN, qb_some, show (127 : Int32) = nI 127 from rfl, if_pos (by rw [nI_leI (by omega) (by omega)]; exact c2)]
        · rw [if_neg (fun z => c2 z.2)]
          refine ⟨fun _ => ⟨zu D 25 2 (nI (8 * st + (p1 + 8))), ev_mono z1 (fun N hN => ?_), kpF_zu⟩, fun q hq => (by cases hq)⟩
          rw [hN, qb_some, show (127 : Int32) = nI 127 from rfl, if_neg (by rw [nI_leI (by omega) (by omega)]; exact c2)]
      · simp only [if_neg c1] at z1
        rw [if_neg (fun z => c1 z.1)]
        refine ⟨fun _ => ⟨zu D 25 2 (nI (8 * st + p1)), ev_mono z1 (fun N hN => ?_), kpF_zu⟩, fun q hq => (by cases hq)⟩
        rw [hN, qb_some, if_pos (by decide)]
  · have n0 : ¬ T 11 t = 0 := by rw [h1]; decide
    simp only [if_neg n0, if_pos h1]
    obtain ⟨r1, r2⟩ := rng_I hw h1
    obtain ⟨l1, l2⟩ := lo_I hw h1 hk
    obtain ⟨y1, y2⟩ := hr2 h1
    rw [y1, y2, r1]
    obtain ⟨g1, g2⟩ := kp_num hs hS r2 M
    cases hnum : numP true src (8 * L) (rngT T t) p with
    | none =>
      obtain ⟨D', g3, g4⟩ := g1 hnum
      refine ⟨fun _ => ⟨D', ev_mono g3 (fun N hN => ?_), g4⟩, fun q hq => (by cases hq)⟩
      rw [hN, qb_some, if_pos rfl]
    | some x =>
      obtain ⟨g3, g4, g5, g6⟩ := g2 x hnum
      simp only [Option.bind_some]
      refine ⟨fun z => (by cases z), fun q hq => ?_⟩
      injection hq with hq
      subst hq
      refine ⟨ev_mono g3 (fun N hN => ?_), g4, g5, by simp; omega⟩
      rw [hN, qb_some, if_neg (nI_n1 (by omega)), l1, nI_add]
