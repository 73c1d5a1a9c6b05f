/-! THE REFERENCE reads packed bits: bits, numbers, counts, ranks -/
def hS (T J : zJ) (src : Nat → Nat) (L i o p fr : Nat) : Prop := J 0 49 = 1 ∧ J 0 47 = nI p ∧ J 0 34 = nI i ∧ J 0 35 = nI o ∧ J 0 48 = nI fr ∧ J 0 28 = nI L ∧ (∀ k, k < L → J 19 k = nI (src k)) ∧ tyEq T J ∧ i ≤ 100 ∧ 8 * o ≤ p ∧ p ≤ 8 * L ∧ L ≤ 120 ∧ fr ≤ 100
theorem hS_c {T J J' : zJ} {src : Nat → Nat} {L i o p fr : Nat} (h : hS T J src L i o p fr) (hk : mK J J') (h49 : J' 0 49 = J 0 49) (h47 : J' 0 47 = J 0 47) (h34 : J' 0 34 = J 0 34) (h35 : J' 0 35 = J 0 35) (h48 : J' 0 48 = J 0 48) : hS T J' src L i o p fr := by
  obtain ⟨a1, a2, a3, a4, a5, a6, a7, a8, a9⟩ := h
  refine ⟨by rw [h49]; exact a1, by rw [h47]; exact a2, by rw [h34]; exact a3, by rw [h35]; exact a4, by rw [h48]; exact a5, by rw [hk 0 28 (by unfold mW; omega)]; exact a6, fun k hk' => by rw [hk 19 k (by unfold mW; omega)]; exact a7 k hk', mK_ty hk a8, a9⟩
theorem hS_pos {T J : zJ} {src : Nat → Nat} {L i o p p1 fr : Nat} (h : hS T J src L i o p fr) (h1 : p ≤ p1) (h2 : p1 ≤ 8 * L) : hS T (zu J 0 47 (nI p1)) src L i o p1 fr := by
  obtain ⟨a1, a2, a3, a4, a5, a6, a7, a8, a9, a10, a11, a12, a13⟩ := h
  refine ⟨?_, zu_self _ _ _ _, ?_, ?_, ?_, ?_, fun k hk => ?_, mK_ty (mK_zu (mW_f (by omega))) a8, a9, by omega, h2, a12, a13⟩
  · rw [zu_at, if_neg (by omega)]; exact a1
  · rw [zu_at, if_neg (by omega)]; exact a3
  · rw [zu_at, if_neg (by omega)]; exact a4
  · rw [zu_at, if_neg (by omega)]; exact a5
  · rw [zu_at, if_neg (by omega)]; exact a6
  · rw [zu_at, if_neg (by omega)]; exact a7 k hk
/-- what a step leaves that fails: a bad state -/
def hBad (J J' : zJ) (fr : Nat) : Prop := J' 0 49 = 0 ∧ J' 0 48 = nI fr ∧ mK J J' ∧ (∀ c k, c ≠ 0 → J' c k = J c k) ∧ J' 0 23 = J 0 23 ∧ J' 0 34 = J 0 34 ∧ J' 0 35 = J 0 35
theorem q_bit {T J : zJ} {src : Nat → Nat} {L i o p fr : Nat} (hs : sOK src) (h : hS T J src L i o p fr) (N : Nat) : (p < 8 * L → FM_bit N J = some (nI (sbit src p), zu J 0 47 (nI (p + 1)))) ∧ (¬ p < 8 * L → FM_bit N J = some (0, zu (zu J 0 49 0) 0 47 (nI (p + 1))) ∧ hBad J (zu (zu J 0 49 0) 0 47 (nI (p + 1))) fr) := by
  obtain ⟨a1, a2, a3, a4, a5, a6, a7, a8, a9, a10, a11, a12, a13⟩ := h
  unfold FM_bit
  rw [a2, a6, show (8 : Int32) * nI L = nI (8 * L) from nI_mul 8 L]
  simp (disch := omega) only [nI_ltI]
  constructor
  · intro c
    have e1 : nI (p + 1) - 1 = nI p := nI_subs (a := p + 1) (b := 1) (by omega)
    have e2 : nI p / 8 = nI (p / 8) := by rw [show (8 : Int32) = nI 8 from rfl, nI_div (by omega) (by omega)]
    have e3 : nI p - nI (p / 8) * 8 = nI (p % 8) := by
      rw [show (8 : Int32) = nI 8 from rfl, nI_mul, nI_subs (by omega)]
      congr 1
      omega
    have h1 := hs (p / 8)
    rw [if_pos c]
    unfold FM_bit_19
    rw [a2, nI_p1]
    simp only
    rw [show zu J 0 47 (nI (p + 1)) 0 49 = 1 from by rw [zu_at, if_neg (by omega), a1], if_neg (by decide), zu_self, e1, e2, e3, qk_t (qi_nI (by omega) (by omega)), nI_clamp (by omega), zu_at, if_neg (by omega), a7 (p / 8) (by omega), show (7 : Int32) - nI (p % 8) = nI (7 - p % 8) from nI_subs (a := 7) (by omega), nI_and31 (by omega), nI_shr (by omega) (by omega), show (1 : Int32) = nI 1 from rfl, nI_and (by have := Nat.div_le_self (src (p / 8)) (2 ^ (7 - p % 8)); omega) (by omega), Nat.and_one_is_mod]
    rfl
  · intro c
    rw [if_neg c]
    unfold FM_bit_19
    simp only
    refine ⟨?_, ?_, ?_, mK_trans (mK_zu (mW_f (by omega))) (mK_zu (mW_f (by omega))), fun c k hc => ?_, ?_, ?_, ?_⟩
    · rw [show zu J 0 49 0 0 47 = nI p from by rw [zu_at, if_neg (by omega), a2], nI_p1, show zu (zu J 0 49 0) 0 47 (nI (p + 1)) 0 49 = 0 from by rw [zu_at, if_neg (by omega), zu_self], if_pos rfl]
    · rw [zu_at, if_neg (by omega), zu_self]
    · rw [zu_at, if_neg (by omega), zu_at, if_neg (by omega)]; exact a5
    · rw [zu_at, if_neg (by omega), zu_at, if_neg (by omega)]
    · rw [zu_at, if_neg (by omega), zu_at, if_neg (by omega)]
    · rw [zu_at, if_neg (by omega), zu_at, if_neg (by omega)]
    · rw [zu_at, if_neg (by omega), zu_at, if_neg (by omega)]
theorem hBad_tr {J J1 J2 : zJ} {fr : Nat} (h1 : mK J J1) (h2 : ∀ c k, c ≠ 0 → J1 c k = J c k) (h3 : J1 0 23 = J 0 23) (h4 : J1 0 34 = J 0 34) (h5 : J1 0 35 = J 0 35) (h : hBad J1 J2 fr) : hBad J J2 fr := by
  obtain ⟨a1, a2, a3, a4, a5, a6, a7⟩ := h
  exact ⟨a1, a2, mK_trans h1 a3, fun c k hc => (a4 c k hc).trans (h2 c k hc), a5.trans h3, a6.trans h4, a7.trans h5⟩
theorem hBad_pos {J J2 : zJ} {x : Int32} {fr : Nat} (h : hBad (zu J 0 47 x) J2 fr) : hBad J J2 fr := hBad_tr (mK_zu (mW_f (by omega))) (fun c k hc => by rw [zu_at, if_neg (by omega)]) (by rw [zu_at, if_neg (by omega)]) (by rw [zu_at, if_neg (by omega)]) (by rw [zu_at, if_neg (by omega)]) h
theorem hBad_0 {T J : zJ} {src : Nat → Nat} {L i o p fr : Nat} (h : hS T J src L i o p fr) : hBad J (zu J 0 49 0) fr := by
  refine ⟨zu_self _ _ _ _, by rw [zu_at, if_neg (by omega)]; exact h.2.2.2.2.1, mK_zu (mW_f (by omega)), fun c k hc => by rw [zu_at, if_neg (by omega)], ?_, ?_, ?_⟩ <;> rw [zu_at, if_neg (by omega)]
theorem q_some {T : zJ} {src : Nat → Nat} {L i o fr n : Nat} (hs : sOK src) (hn : n ≤ 32) : ∀ r k p J v, k + r = n → hS T J src L i o p fr → v < 2 ^ k →
    (p + r ≤ 8 * L → ∃ w, w < 2 ^ n ∧ w = v * 2 ^ r + bvs src p r ∧ ∀ N F, r + 1 ≤ F → qfix (FM_some_4 N (nI n)) F (nI v, nI k, J) = some (nI w, zu J 0 47 (nI (p + r)))) ∧
    (¬ p + r ≤ 8 * L → ∃ w J', (∀ N F, r + 1 ≤ F → qfix (FM_some_4 N (nI n)) F (nI v, nI k, J) = some (w, J')) ∧ hBad J J' fr) := by
  intro r
  induction r with
  | zero =>
    intro k p J v hk h hv
    have : k = n := by omega
    subst this
    refine ⟨fun _ => ⟨v, hv, by simp [bvs], fun N F hF => ?_⟩, fun c => absurd h.2.2.2.2.2.2.2.2.2.2.1 c⟩
    obtain ⟨F, rfl⟩ : ∃ g, F = g + 1 := ⟨F - 1, by omega⟩
    rw [qfix_s, Nat.add_zero, zu_id _ _ _ _ h.2.1]
    simp only [FM_some_4]
    rw [if_pos (by rw [nI_leI (by omega) (by omega)]; omega)]
  | succ r ih =>
    intro k p J v hk h hv
    have hsb : sbit src p < 2 := Nat.mod_lt _ (by omega)
    have hpw : 2 ^ (k + 1) = 2 * 2 ^ k := by rw [Nat.pow_succ]; omega
    have hbv : ∀ r, bvs src p (r + 1) = sbit src p * 2 ^ r + bvs src (p + 1) r := by
      intro r
      induction r with
      | zero => simp [bvs]
      | succ r ihr =>
        show 2 * bvs src p (r + 1) + sbit src (p + (r + 1)) = _
        rw [ihr]
        show _ = sbit src p * 2 ^ (r + 1) + (2 * bvs src (p + 1) r + sbit src (p + 1 + r))
        rw [Nat.pow_succ, show p + (r + 1) = p + 1 + r by omega]
        have : 2 * (sbit src p * 2 ^ r + bvs src (p + 1) r) = sbit src p * (2 ^ r * 2) + 2 * bvs src (p + 1) r := by
          rw [Nat.mul_add, Nat.mul_comm 2 (sbit src p * 2 ^ r), Nat.mul_assoc]
        omega
    by_cases c0 : p < 8 * L
    · have hstep : ∀ N F, qfix (FM_some_4 N (nI n)) (F + 1) (nI v, nI k, J) = qfix (FM_some_4 N (nI n)) F (nI (2 * v + sbit src p), nI (k + 1), zu J 0 47 (nI (p + 1))) := by
        intro N F
        rw [qfix_s]
        simp only [FM_some_4]
        rw [if_neg (by rw [nI_leI (by omega) (by omega)]; omega), if_neg (by rw [h.1]; decide), (q_bit hs h N).1 c0, qb_some, show (2 : Int32) * nI v = nI (2 * v) from nI_mul 2 v, nI_add, nI_p1]
      obtain ⟨i1, i2⟩ := ih (k + 1) (p + 1) (zu J 0 47 (nI (p + 1))) (2 * v + sbit src p) (by omega) (hS_pos h (by omega) (by omega)) (by omega)
      refine ⟨fun hle => ?_, fun hle => ?_⟩
      · obtain ⟨w, w1, w2, w3⟩ := i1 (by omega)
        refine ⟨w, w1, ?_, fun N F hF => ?_⟩
        · rw [w2, hbv r, Nat.pow_succ]
          have : (2 * v + sbit src p) * 2 ^ r = v * (2 ^ r * 2) + sbit src p * 2 ^ r := by
            rw [Nat.add_mul, Nat.mul_comm 2 v, Nat.mul_assoc, Nat.mul_comm 2 (2 ^ r)]
          omega
        · obtain ⟨F, rfl⟩ : ∃ g, F = g + 1 := ⟨F - 1, by omega⟩
          rw [hstep, w3 N F (by omega), zu_same, show p + 1 + r = p + (r + 1) by omega]
      · obtain ⟨w, J', w1, w2⟩ := i2 (by omega)
        refine ⟨w, J', fun N F hF => ?_, hBad_pos w2⟩
        obtain ⟨F, rfl⟩ : ∃ g, F = g + 1 := ⟨F - 1, by omega⟩
        rw [hstep, w1 N F (by omega)]
    · refine ⟨fun hle => absurd hle (by omega), fun _ => ?_⟩
      have hb := (q_bit hs h 0).2 c0
      have hstep : ∀ N F, r + 1 ≤ F → qfix (FM_some_4 N (nI n)) (F + 1) (nI v, nI k, J) = some (nI (2 * v), zu (zu J 0 49 0) 0 47 (nI (p + 1))) := by
        intro N F hF
        rw [qfix_s]
        simp only [FM_some_4]
        rw [if_neg (by rw [nI_leI (by omega) (by omega)]; omega), if_neg (by rw [h.1]; decide), ((q_bit hs h N).2 c0).1, qb_some, show (2 : Int32) * nI v = nI (2 * v) from nI_mul 2 v, Int32.add_zero]
        obtain ⟨F, rfl⟩ : ∃ g, F = g + 1 := ⟨F - 1, by omega⟩
        rw [qfix_s]
        simp only [FM_some_4]
        rw [hb.2.1]
        split
        · rfl
        · rw [if_pos rfl]
      refine ⟨nI (2 * v), _, fun N F hF => ?_, hb.2⟩
      obtain ⟨F, rfl⟩ : ∃ g, F = g + 1 := ⟨F - 1, by omega⟩
      exact hstep N F (by omega)
theorem q_take {T J : zJ} {src : Nat → Nat} {L i o p fr : Nat} (hs : sOK src) (h : hS T J src L i o p fr) (n : Nat) (hn : n ≤ 32) :
    (p + n ≤ 8 * L → Ev (fun N => FM_some N (nI n) J = some (nI (bvs src p n), zu J 0 47 (nI (p + n))))) ∧ (¬ p + n ≤ 8 * L → ∃ w J', Ev (fun N => FM_some N (nI n) J = some (w, J')) ∧ hBad J J' fr) := by
  obtain ⟨g1, g2⟩ := q_some hs hn n 0 p J 0 (by omega) h (by omega)
  refine ⟨fun c => ?_, fun c => ?_⟩
  · obtain ⟨w, w1, w2, w3⟩ := g1 c
    rw [Nat.zero_mul, Nat.zero_add] at w2
    subst w2
    exact ⟨n + 1, fun N hN => w3 N N hN⟩
  · obtain ⟨w, J', w1, w2⟩ := g2 c
    exact ⟨w, J', ⟨n + 1, fun N hN => w1 N N hN⟩, w2⟩
theorem q_align {T J : zJ} {src : Nat → Nat} {L i o p fr : Nat} (h : hS T J src L i o p fr) (N : Nat) : FM_align N J = some ((), zu J 0 47 (nI (alU p))) ∧ hS T (zu J 0 47 (nI (alU p))) src L i o (alU p) fr := by
  obtain ⟨u1, u2, u3, u4, u5⟩ := alU_ge p
  have hp := h.2.2.2.2.2.2.2.2.2.2.1
  have hL := h.2.2.2.2.2.2.2.2.2.2.2.1
  refine ⟨?_, hS_pos h u1 (by omega)⟩
  unfold FM_align
  rw [h.2.1, show (7 : Int32) = nI 7 from rfl, nI_add, show (8 : Int32) = nI 8 from rfl, nI_div (by omega) (by omega), nI_mul]
  rfl
theorem q_width {h : Nat} (hh : h < 255) : Ev (fun N => FM_width N (nI h) = some (nI (wid h))) := by
  have h1 : ∀ h : Fin 256, ∀ k : Fin 9, (k : Nat) < wid h → 0 < (h : Nat) / 2 ^ (k : Nat) := by decide +kernel
  have h2 : ∀ h : Fin 255, wid h ≤ 8 ∧ (h : Nat) / 2 ^ wid h = 0 := by decide +kernel
  obtain ⟨hw8, hz⟩ := h2 ⟨h, hh⟩
  have hw8 : wid h ≤ 8 := hw8
  have hz : h / 2 ^ wid h = 0 := hz
  unfold FM_width
  refine ev_loop (B := fun N => FM_width_2 N (nI h)) (fun k => nI k) (wid h) (ev_of (fun N k hk K => ?_)) (ev_of (fun N K => ?_))
  · have this : 0 < h / 2 ^ k := h1 ⟨h, by omega⟩ ⟨k, by omega⟩ hk
    have hd : h / 2 ^ k ≤ h := Nat.div_le_self _ _
    simp only [FM_width_2]
    rw [nI_and31 (by omega), nI_shr (by omega) (by omega), show (0 : Int32) = nI 0 from rfl, if_neg (by rw [nI_leI (by omega) (by omega)]; exact Nat.not_le.mpr this), nI_p1]
  · simp only [FM_width_2]
    rw [nI_and31 (by omega), nI_shr (by omega) (by omega), hz, if_pos (by decide)]
/-- ranging(): lo is what is added -/
theorem q_rng {T J : zJ} {src : Nat → Nat} {L i o p fr h : Nat} {lo hi : Int32} (hs : sOK src) (hS0 : hS T J src L i o p fr) (hh : h < 65536) (hd : hi - lo = nI h) :
    (numP false src (8 * L) h p = none → ∃ w J', Ev (fun N => FM_ranging N lo hi J = some (w, J')) ∧ hBad J J' fr) ∧ (∀ q, numP false src (8 * L) h p = some q → Ev (fun N => FM_ranging N lo hi J = some (lo + nI q.2, zu J 0 47 (nI q.1))) ∧ p ≤ q.1 ∧ q.1 ≤ 8 * L ∧ q.2 ≤ h) := by
  have hw := wid_le h
  have h15 : ∀ N J, FM_width N (nI h) = some (nI (wid h)) ∨ ¬ h < 255 → FM_ranging_15 N lo (nI h) J = FM_ranging_44 N lo (nI h) (nI (wid h)) J := by
    intro N J hwd
    unfold FM_ranging_15
    rw [show (255 : Int32) = nI 255 from rfl]
    simp (disch := omega) only [nI_leI, nI_eq]
    by_cases c : 255 ≤ h
    · rw [if_pos c]
      by_cases c2 : h = 255
      · rw [if_pos c2, c2]; rfl
      · rw [if_neg c2]
        have : wid h = 16 := by unfold wid; (repeat' split) <;> omega
        rw [this]; rfl
    · rw [if_neg c]
      rcases hwd with z | z
      · rw [z, qc_some]
      · exact absurd (by omega) z
  have h44 : ∀ p1 J1, hS T J1 src L i o p1 fr → (¬ (p1 + wid h ≤ 8 * L ∧ bvs src p1 (wid h) ≤ h) → ∃ w J', Ev (fun N => FM_ranging_44 N lo (nI h) (nI (wid h)) J1 = some (w, J')) ∧ hBad J1 J' fr) ∧ (p1 + wid h ≤ 8 * L ∧ bvs src p1 (wid h) ≤ h → Ev (fun N => FM_ranging_44 N lo (nI h) (nI (wid h)) J1 = some (lo + nI (bvs src p1 (wid h)), zu J1 0 47 (nI (p1 + wid h))))) := by
    intro p1 J1 hS1
    obtain ⟨g1, g2⟩ := q_take hs hS1 (wid h) (by omega)
    have hlt := bvs_lt src p1 (wid h)
    have hpw : 2 ^ wid h ≤ 2 ^ 16 := Nat.pow_le_pow_right (by omega) hw
    constructor
    · intro c
      by_cases c1 : p1 + wid h ≤ 8 * L
      · have c2 : ¬ bvs src p1 (wid h) ≤ h := fun z => c ⟨c1, z⟩
        refine ⟨lo + nI (bvs src p1 (wid h)), zu (zu J1 0 47 (nI (p1 + wid h))) 0 49 0, ev_mono (g1 c1) (fun N hN => ?_), hBad_pos (hBad_0 (hS_pos hS1 (show p1 ≤ p1 + wid h by omega) c1))⟩
        unfold FM_ranging_44
        rw [hN, qb_some, if_neg (by rw [nI_leI (by omega) (by omega)]; exact c2)]
      · obtain ⟨w, J', z1, z2⟩ := g2 c1
        by_cases c2 : w ≤ nI h
        · refine ⟨lo + w, J', ev_mono z1 (fun N hN => ?_), z2⟩
          unfold FM_ranging_44
          rw [hN, qb_some, if_pos c2]
        · refine ⟨lo + w, zu J' 0 49 0, ev_mono z1 (fun N hN => ?_), ?_⟩
          · unfold FM_ranging_44
            rw [hN, qb_some, if_neg c2]
          · rw [zu_id _ _ _ _ z2.1]; exact z2
    · rintro ⟨c1, c2⟩
      refine ev_mono (g1 c1) (fun N hN => ?_)
      unfold FM_ranging_44
      rw [hN, qb_some, if_pos (by rw [nI_leI (by omega) (by omega)]; exact c2)]
  have hwE : Ev (fun N => FM_width N (nI h) = some (nI (wid h)) ∨ ¬ h < 255) := by
    by_cases c : h < 255
    · exact ev_mono (q_width c) (fun N hN => Or.inl hN)
    · exact ev_of (fun N => Or.inr c)
  unfold FM_ranging numP
  simp only [hd]
  rw [show (254 : Int32) = nI 254 from rfl]
  simp (disch := omega) only [nI_leI]
  by_cases c1 : h ≤ 254
  · have c2 : ¬ 255 ≤ h := by omega
    simp only [if_pos c1, if_neg c2, Option.bind_some]
    obtain ⟨g1, g2⟩ := h44 p J hS0
    by_cases c3 : p + wid h ≤ 8 * L ∧ bvs src p (wid h) ≤ h
    · rw [if_pos c3]
      refine ⟨fun z => (by cases z), fun q hq => ?_⟩
      injection hq with hq
      subst hq
      refine ⟨ev_mono (ev_and hwE (g2 c3)) (fun N hN => ?_), by simp, c3.1, c3.2⟩
      rw [h15 N J hN.1, hN.2]
    · rw [if_neg c3]
      refine ⟨fun _ => ?_, fun q hq => (by cases hq)⟩
      obtain ⟨w, J', z1, z2⟩ := g1 c3
      exact ⟨w, J', ev_mono (ev_and hwE z1) (fun N hN => by rw [h15 N J hN.1, hN.2]), z2⟩
  · have c2 : 255 ≤ h := by omega
    simp only [if_neg c1, if_pos c2]
    have hal : alP false src p = some (alU p) := by unfold alP; rw [if_pos (Or.inl rfl)]
    rw [hal, Option.bind_some]
    obtain ⟨u1, u2⟩ := q_align hS0 0
    have hp := alU_ge p
    obtain ⟨g1, g2⟩ := h44 (alU p) _ u2
    by_cases c3 : alU p + wid h ≤ 8 * L ∧ bvs src (alU p) (wid h) ≤ h
    · rw [if_pos c3]
      refine ⟨fun z => (by cases z), fun q hq => ?_⟩
      injection hq with hq
      subst hq
      refine ⟨ev_mono (ev_and hwE (g2 c3)) (fun N hN => ?_), by simp; omega, c3.1, c3.2⟩
      rw [(q_align hS0 N).1, qb_some, h15 N _ hN.1, hN.2, zu_same]
    · rw [if_neg c3]
      refine ⟨fun _ => ?_, fun q hq => (by cases hq)⟩
      obtain ⟨w, J', z1, z2⟩ := g1 c3
      refine ⟨w, J', ev_mono (ev_and hwE z1) (fun N hN => ?_), hBad_pos z2⟩
      rw [(q_align hS0 N).1, qb_some, h15 N _ hN.1, hN.2]
theorem q_cnt {T J : zJ} {src : Nat → Nat} {L n t i o p fr : Nat} (hs : sOK src) (hw : wfT T n t) (hk : T 4 t ≠ 2) (hS0 : hS T J src L i o p fr) :
    (cntP T false src (8 * L) t p = none → ∃ w J', Ev (fun N => FM_counted N (nI t) J = some (w, J')) ∧ hBad J J' fr) ∧ (∀ q, cntP T false src (8 * L) t p = some q → Ev (fun N => FM_counted N (nI t) J = some (nI q.2, zu J 0 47 (nI q.1))) ∧ p ≤ q.1 ∧ q.1 ≤ 8 * L ∧ q.2 ≤ 127) := by
  have h01 : T 11 t = 0 ∨ T 11 t = 1 := by cases n with
    | zero => exact hw.elim
    | succ n => exact hw.2.2.1
  have t160 : t < 160 := by cases n with
    | zero => exact hw.elim
    | succ n => exact hw.1
  have hT := hS0.2.2.2.2.2.2.2.1
  unfold FM_counted cntP
  simp only [qk_t (qi_nI t160 (show 160 < 2 ^ 31 by omega)), nI_clamp (show t < 2 ^ 31 by omega), hT 11 t (by omega) (by omega), hT 5 t (by omega) (by omega), hT 6 t (by omega) (by omega)]
  rcases h01 with h0 | h1
  · have n1 : ¬ T 11 t = 1 := by rw [h0]; decide
    simp only [if_pos h0, if_neg n1]
    have hal : alP false src p = some (alU p) := by unfold alP; rw [if_pos (Or.inl rfl)]
    rw [hal, Option.bind_some]
    obtain ⟨u1, u2⟩ := q_align hS0 0
    have hp := alU_ge p
    obtain ⟨g1, g2⟩ := q_take hs u2 8 (by omega)
    have hlt := bvs_lt src (alU p) 8
    by_cases c1 : alU p + 8 ≤ 8 * L
    · have g1 : Ev (fun N => FM_some N 8 (zu J 0 47 (nI (alU p))) = _) := g1 c1
      by_cases c2 : bvs src (alU p) 8 ≤ 127
      · rw [if_pos ⟨c1, c2⟩]
        refine ⟨fun z => (by cases z), fun q hq => ?_⟩
        injection hq with hq
        subst hq
        refine ⟨ev_mono g1 (fun N hN => ?_), by simp; omega, c1, c2⟩
        rw [(q_align hS0 N).1, qb_some, hN, qb_some, show (127 : Int32) = nI 127 from rfl, if_pos (by rw [nI_leI (by omega) (by omega)]; exact c2), zu_same]
      · rw [if_neg (fun z => c2 z.2)]
        refine ⟨fun _ => ⟨nI (bvs src (alU p) 8), _, ev_mono g1 (fun N hN => ?_), hBad_pos (hBad_pos (hBad_0 (hS_pos u2 (show alU p ≤ alU p + 8 by omega) c1)))⟩, fun q hq => (by cases hq)⟩
        rw [(q_align hS0 N).1, qb_some, hN, qb_some, show (127 : Int32) = nI 127 from rfl, if_neg (by rw [nI_leI (by omega) (by omega)]; exact c2)]
    · rw [if_neg (fun z => c1 z.1)]
      refine ⟨fun _ => ?_, fun q hq => (by cases hq)⟩
      obtain ⟨w, J', z1, z2⟩ := g2 c1
      have z1 : Ev (fun N => FM_some N 8 (zu J 0 47 (nI (alU p))) = some (w, J')) := z1
      by_cases c2 : w ≤ 127
      · refine ⟨w, J', ev_mono z1 (fun N hN => ?_), hBad_pos z2⟩
        rw [(q_align hS0 N).1, qb_some, hN, qb_some, if_pos c2]
      · refine ⟨w, J', ev_mono z1 (fun N hN => ?_), hBad_pos z2⟩
        rw [(q_align hS0 N).1, qb_some, hN, qb_some, if_neg c2, zu_id _ _ _ _ z2.1]
  · have n0 : ¬ T 11 t = 0 := by rw [h1]; decide
    simp only [if_neg n0, if_pos h1]
    obtain ⟨r1, r2⟩ := rng_I hw h1
    obtain ⟨l1, l2⟩ := lo_I hw h1 hk
    obtain ⟨g1, g2⟩ := q_rng hs hS0 r2 r1
    simp only [qb_id]
    cases hnum : numP false src (8 * L) (rngT T t) p with
    | none => exact ⟨fun _ => g1 hnum, fun q hq => (by cases hq)⟩
    | some x =>
      obtain ⟨g3, g4, g5, g6⟩ := g2 x hnum
      simp only [Option.bind_some]
      refine ⟨fun z => (by cases z), fun q hq => ?_⟩
      injection hq with hq
      subst hq
      refine ⟨ev_mono g3 (fun N hN => ?_), g4, g5, by simp; omega⟩
      rw [hN, l1, nI_add]
