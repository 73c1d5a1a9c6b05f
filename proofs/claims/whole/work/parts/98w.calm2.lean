/-! SIMPLE TURNS: parts, part, octet, put, wipe; forgetting a module; type, clear -/
theorem INV_dj {M : zM} {A KC KS q q' : Nat} {D J : zJ} (h : INV M A KC KS q) (hq : q' ≤ q) (hT : iTxt D J) (hB : iBuf D J) (hV : iVal D J) (h3 : D 0 3 = zJo M A 0 3) (h29 : D 29 = zJo M A 29) (h30 : D 30 = zJo M A 30) (j1 : J 0 1 = zJo M (A + 32) 0 1) (j3 : J 3 = zJo M (A + 32) 3) (jt : ∀ c k, 4 ≤ c → c ≤ 15 → J c k = zJo M (A + 32) c k) (j36 : J 36 = zJo M (A + 32) 36) (j37 : J 37 = zJo M (A + 32) 37) (j38 : J 38 = zJo M (A + 32) 38) (j39 : J 39 = zJo M (A + 32) 39) : INV (zmm (zmm M A 32 D) (A + 32) 40 J) A KC KS q' :=
  INV_go (M' := zmm (zmm M A 32 D) (A + 32) 40 J) h rfl rfl rfl (Nat.le_refl _) (by show zsz M + q' ≤ _; omega) (by show zsl M + _ ≤ _; omega) (iLay_zag h.1 D J) (fun c hc => by rw [zJo_mmo (by omega), zJo_mm hc]) (fun c hc => zJo_mm hc) hT hB hV h3 h29 h30 j1 j3 jt j36 j37 j38 j39
theorem t_parts {KC KS A sn q i : Nat} {sx : Nat → Int32} {M : zM} (h : INV M A KC KS (q + 1)) (hi : i + 5 ≤ sn) (hn : sn ≤ 2560) (hc : sx i &&& 15 = 7) : lTurn KC KS A sn sx q i M := by
  obtain ⟨n, n1, n2, n3, n4⟩ := h.2.2.2.2.1
  refine tn_7 hi hn hc (w := nI n) (D := zJo M A) (J := zu (zJo M (A + 32)) 0 0 0) h.1.1 h.1.2.1 (ev_of (fun N => ?_)) (ev_of (fun N => ?_)) ?_
  · unfold FD_parts
    rw [n2]
  · unfold FM_parts
    simp only
    rw [jcode (by omega), n3]
  · rw [zmm_J]
    exact INV_code (M5 := M) h rfl rfl rfl rfl (Nat.le_refl _) (by omega) (by omega) 0
theorem t_wipe {KC KS A sn q i : Nat} {sx : Nat → Int32} {M : zM} (h : INV M A KC KS (q + 1)) (hi : i + 5 ≤ sn) (hn : sn ≤ 2560) (hc : sx i &&& 15 = 4) : lTurn KC KS A sn sx q i M := by
  obtain ⟨n, n1, n2, n3, n4⟩ := h.2.2.2.1
  refine tn_4 hi hn hc (w := nI n) (D := zu (zJo M A) 0 5 0) (J := zu (zu (zJo M (A + 32)) 0 0 0) 0 27 0) h.1.1 h.1.2.1 (ev_of (fun N => ?_)) (ev_of (fun N => ?_)) ?_
  · unfold FD_wipe
    simp only
    rw [n2]
  · unfold FM_wipe
    simp only
    rw [jcode (by omega), n3]
  · have e : ∀ c k, ¬ (c = 0 ∧ (k = 0 ∨ k = 27)) → zu (zu (zJo M (A + 32)) 0 0 0) 0 27 0 c k = zJo M (A + 32) c k := by
      intro c k hk
      rw [zu_at, if_neg (by omega), zu_at, if_neg (by omega)]
    have e2 : ∀ c, c ≠ 0 → zu (zu (zJo M (A + 32)) 0 0 0) 0 27 0 c = zJo M (A + 32) c := fun c hc => funext (fun k => e c k (by omega))
    have d : ∀ c k, ¬ (c = 0 ∧ k = 5) → zu (zJo M A) 0 5 0 c k = zJo M A c k := by
      intro c k hk
      rw [zu_at, if_neg hk]
    have d2 : ∀ c, c ≠ 0 → zu (zJo M A) 0 5 0 c = zJo M A c := fun c hc => funext (fun k => d c k (by omega))
    refine INV_dj h (by omega) ?_ ⟨0, by omega, by rw [zu_self]; rfl, by rw [zu_self]; rfl, fun k hk => absurd hk (by omega)⟩ ?_ (d _ _ (by omega)) (d2 _ (by omega)) (d2 _ (by omega)) (e _ _ (by omega)) (e2 _ (by omega)) (fun c k c1 c2 => e _ _ (by omega)) (e2 _ (by omega)) (e2 _ (by omega)) (e2 _ (by omega)) (e2 _ (by omega))
    · exact iTxt_c (d _ _ (by omega)) (d2 _ (by omega)) (e _ _ (by omega)) (e2 _ (by omega)) h.2.2.1
    · exact iVal_c (d _ _ (by omega)) (d2 _ (by omega)) (d2 _ (by omega)) (d2 _ (by omega)) (d2 _ (by omega)) (d2 _ (by omega)) (d2 _ (by omega)) (e _ _ (by omega)) (e2 _ (by omega)) (e2 _ (by omega)) h.2.2.2.2.1
theorem eM_part {J : zJ} {n : Nat} (h44 : J 0 44 = nI n) (hn : n ≤ 100) (N : Nat) (l1 l2 : Int32) : FM_part N l1 l2 J = if 0 ≤ l2.toInt ∧ l2.toInt ≤ 3 then (if 0 ≤ l1.toInt ∧ l1.toInt < n then some (J 29 (5 * l1.toNatClampNeg + l2.toNatClampNeg), zu J 0 0 0) else some (0, zu J 0 0 2)) else some (0, zu J 0 0 1) := by
  unfold FM_part
  rw [FM_in_eq, FM_in_eq, h44, nI_m1 (by omega)]
  simp only [qc, bI_eq0, i_0, i_lit 3 (by omega)]
  by_cases c1 : 0 ≤ l2.toInt ∧ l2.toInt ≤ 3
  · rw [if_pos c1, if_neg (by simp; omega)]
    by_cases c2 : 0 ≤ l1.toInt ∧ l1.toInt < n
    · rw [if_pos c2, if_neg (by simp; omega)]
      obtain ⟨j, hj, rfl, ej⟩ := nI_ex c2.1
      obtain ⟨m, hm, rfl, em⟩ := nI_ex c1.1
      have e5 : (5 : Int32) * nI j + nI m = nI (5 * j + m) := by rw [show (5 : Int32) = nI 5 from rfl, nI_mul, nI_add]
      unfold FM_part_33
      simp only [zu_self]
      rw [if_pos (by decide), e5, qk_t (qi_nI (by omega) (by omega)), nI_clamp (by omega), nI_clamp hj, nI_clamp hm, jcodef (by omega)]
    · rw [if_neg c2, if_pos (by simp; omega)]
      unfold FM_part_33
      simp only [zu_self]
      rw [if_neg (by decide)]
  · rw [if_neg c1, if_pos (by simp; omega)]
    unfold FM_part_33
    simp only [zu_self]
    rw [if_neg (by decide)]
theorem FD_part_eq {M : zM} {A KC KS n : Nat} (hL : zLy M A dShL dRf) (hr : zsz M + 1 ≤ KC ∧ zsl M + 6 ≤ KS) (h8 : zJo M A 8 0 = nI n) (hn : n ≤ 100) (N : Nat) (l1 l2 : Int32) : FD_part N KC KS A l1 l2 M = if 0 ≤ l2.toInt ∧ l2.toInt ≤ 3 then (if 0 ≤ l1.toInt ∧ l1.toInt < n then some (.inl (zJo M A (9 + l2.toNatClampNeg) l1.toNatClampNeg), M) else some (.inr "java/util/NoSuchElementException", zgap M 6)) else some (.inr "java/lang/IllegalArgumentException", zgap M 6) := by
  have e8 : zi M (A + 8) 0 = nI n := h8
  unfold FD_part FD_part_9 FD_part_34
  have hrm : (decide (zsz M + 1 ≤ KC) && decide (zsl M + 6 ≤ KS)) = true := by simp; exact hr
  simp only [qk_t hrm, Int32.lt_iff_toInt_lt, Int32.le_iff_toInt_le, i_0, i_lit 3 (by omega)]
  by_cases c1 : 0 ≤ l2.toInt ∧ l2.toInt ≤ 3
  · rw [if_pos c1, if_neg (by omega), if_pos (by omega)]
    by_cases c2 : 0 ≤ l1.toInt ∧ l1.toInt < n
    · rw [if_pos c2, if_neg (by omega), qo_s (zLr0 hL 24 rfl) (zLs hL 8 rfl), e8, nI_toInt (by omega), if_pos c2.2]
      obtain ⟨j, hj, rfl, ej⟩ := nI_ex c2.1
      obtain ⟨m, hm, rfl, em⟩ := nI_ex c1.1
      have hq : qi (nI j) 100 = true := qi_nI (by omega) (by omega)
      have hm4 : m = 0 ∨ m = 1 ∨ m = 2 ∨ m = 3 := by omega
      rw [nI_clamp hm]
      rcases hm4 with rfl | rfl | rfl | rfl
      · rw [if_pos (by decide), qo_s (zLr0 hL 24 rfl) (zLs hL 8 rfl), qa_s (zLr hL 31 rfl) (zLs hL 9 rfl) hq]
        rfl
      · rw [if_neg (by decide), if_pos (by decide), qo_s (zLr0 hL 24 rfl) (zLs hL 8 rfl), qa_s (zLr hL 30 rfl) (zLs hL 10 rfl) hq]
        rfl
      · rw [if_neg (by decide), if_neg (by decide), if_pos (by decide), qo_s (zLr0 hL 24 rfl) (zLs hL 8 rfl), qa_s (zLr hL 29 rfl) (zLs hL 11 rfl) hq]
        rfl
      · rw [if_neg (by decide), if_neg (by decide), if_neg (by decide), qo_s (zLr0 hL 24 rfl) (zLs hL 8 rfl), qa_s (zLr hL 28 rfl) (zLs hL 12 rfl) hq]
        rfl
    · rw [if_neg c2]
      by_cases c3 : l1.toInt < 0
      · rw [if_pos c3]
      · rw [if_neg c3, qo_s (zLr0 hL 24 rfl) (zLs hL 8 rfl), e8, nI_toInt (by omega), if_neg (by omega)]
  · rw [if_neg c1]
    by_cases c3 : l2.toInt < 0
    · rw [if_pos c3]
    · rw [if_neg c3, if_neg (by omega)]
theorem t_part {KC KS A sn q i : Nat} {sx : Nat → Int32} {M : zM} (h : INV M A KC KS (q + 1)) (hi : i + 5 ≤ sn) (hn : sn ≤ 2560) (hc : sx i &&& 15 = 8) : lTurn KC KS A sn sx q i M := by
  obtain ⟨n, n1, n2, n3, n4⟩ := h.2.2.2.2.1
  obtain ⟨a, b, p1, p2, p3, p4, p5⟩ := h.2.1
  have hL := h.1.1
  have hLm := h.1.2.1
  have ho := h.1.2.2
  have room : zsz M + 1 ≤ KC ∧ zsl M + 6 ≤ KS := ⟨by omega, by omega⟩
  have e0 : zsh M A = some (.inl 8) := zLs0 hL 0 rfl
  have gap : ∀ v : Int32, INV (zmm (zgap M 6) (A + 32) 40 (zu (zJo (zgap M 6) (A + 32)) 0 0 v)) A KC KS q := fun v => INV_code (M5 := zgap M 6) h rfl rfl rfl rfl (by show zsz M ≤ zsz M + 1; omega) (by show zsz M + 1 + q ≤ _; omega) (by show zsl M + 6 + _ ≤ _; omega) v
  by_cases c1 : 0 ≤ (sx (i + 2)).toInt ∧ (sx (i + 2)).toInt ≤ 3
  · by_cases c2 : 0 ≤ (sx (i + 1)).toInt ∧ (sx (i + 1)).toInt < n
    · have ej : zJo M A (9 + (sx (i + 2)).toNatClampNeg) (sx (i + 1)).toNatClampNeg = zJo M (A + 32) 29 (5 * (sx (i + 1)).toNatClampNeg + (sx (i + 2)).toNatClampNeg) := by
        obtain ⟨j, hj, e1, ej⟩ := nI_ex c2.1
        obtain ⟨m, hm, e2, em⟩ := nI_ex c1.1
        rw [e1, e2, nI_clamp hj, nI_clamp hm]
        have hm4 : m = 0 ∨ m = 1 ∨ m = 2 ∨ m = 3 := by omega
        obtain ⟨k1, k2, k3, k4, -⟩ := n4 j (by omega)
        rcases hm4 with rfl | rfl | rfl | rfl
        · exact k1
        · exact k2
        · exact k3
        · exact k4
      refine tn_8 hi hn hc (M5 := zpl M (A + 72) 0 (zJo M A (9 + (sx (i + 2)).toNatClampNeg) (sx (i + 1)).toNatClampNeg).toInt64) (c := 0) (w := zJo M A (9 + (sx (i + 2)).toNatClampNeg) (sx (i + 1)).toNatClampNeg) (ev_of (fun N => ?_)) (ev_of (fun N => ?_)) hLm ho (zu_self _ _ _ _) (fun _ => zl_outs M A _) (INV_code (M5 := zpl M (A + 72) 0 _) h rfl rfl rfl (zl_out M A _) (Nat.le_refl _) (by show zsz M + q ≤ _; omega) (by show zsl M + _ ≤ _; omega) 0)
      · unfold FL_part
        rw [qk_d e0, FD_part_eq hL room n2 n1, if_pos c1, if_pos c2, qb_some, qtI_v ho]
      · rw [eM_part (J := zJo (zpl M (A + 72) 0 _) (A + 32)) n3 n1, if_pos c1, if_pos c2, ej]
        rfl
    · refine tn_8 hi hn hc (M5 := zgap M 6) (c := 2) (w := 0) (ev_of (fun N => ?_)) (ev_of (fun N => ?_)) hLm ho (zu_self _ _ _ _) (fun h => absurd h (by decide)) (gap 2)
      · unfold FL_part
        rw [qk_d e0, FD_part_eq hL room n2 n1, if_pos c1, if_neg c2, qb_some]
        simp [qtI, qix]
      · rw [eM_part (J := zJo (zgap M 6) (A + 32)) n3 n1, if_pos c1, if_neg c2]
  · refine tn_8 hi hn hc (M5 := zgap M 6) (c := 1) (w := 0) (ev_of (fun N => ?_)) (ev_of (fun N => ?_)) hLm ho (zu_self _ _ _ _) (fun h => absurd h (by decide)) (gap 1)
    · unfold FL_part
      rw [qk_d e0, FD_part_eq hL room n2 n1, if_neg c1, qb_some]
      simp [qtI, qix]
    · rw [eM_part (J := zJo (zgap M 6) (A + 32)) n3 n1, if_neg c1]
/-- which octet of which part it is, if it is one -/
def oAt (J : zJ) (n : Nat) (l1 l2 : Int32) : Option Int32 :=
  if 0 ≤ l1.toInt ∧ l1.toInt < n then (if J 29 (5 * l1.toNatClampNeg) = 4 then (if 0 ≤ l2.toInt ∧ l2.toInt < (J 29 (5 * l1.toNatClampNeg + 1)).toInt then some (J 30 ((J 29 (5 * l1.toNatClampNeg + 4)).toNatClampNeg + l2.toNatClampNeg)) else none) else none) else none
theorem eM_octet {D J : zJ} {n : Nat} (h44 : J 0 44 = nI n) (hn : n ≤ 100) (hp : ∀ k, k < n → J 29 (5 * k) = 4 → ∃ f m, f + m ≤ 120 ∧ D 13 k = nI f ∧ J 29 (5 * k + 4) = nI f ∧ J 29 (5 * k + 1) = nI m ∧ ∀ i, i < m → D 15 (f + i) = J 30 (f + i) ∧ ∃ b, b < 256 ∧ J 30 (f + i) = nI b) (N : Nat) (l1 l2 : Int32) : FM_octet N l1 l2 J = match oAt J n l1 l2 with | none => some (0, zu J 0 0 1) | some v => some (v, zu J 0 0 0) := by
  unfold FM_octet oAt
  rw [FM_in_eq, h44, nI_m1 (by omega)]
  simp only [qc_some, bI_eq0, i_0]
  have bad : FM_octet_52 N l1 l2 1 J = some (0, zu J 0 0 1) := by
    unfold FM_octet_52
    simp only [zu_self]
    rw [if_neg (by decide)]
  by_cases c2 : 0 ≤ l1.toInt ∧ l1.toInt < n
  · rw [if_pos c2, if_neg (by simp; omega)]
    obtain ⟨j, hj, rfl, ej⟩ := nI_ex c2.1
    have e0 : (5 : Int32) * nI j = nI (5 * j) := by rw [show (5 : Int32) = nI 5 from rfl, nI_mul]
    rw [e0, nI_add1, qk_t (qi_nI (k := 5 * j) (by omega) (by omega)), nI_clamp (show 5 * j < 2 ^ 31 by omega), nI_clamp (show j < 2 ^ 31 by omega)]
    by_cases c3 : J 29 (5 * j) = 4
    · rw [if_pos c3, if_pos c3, qk_t (qi_nI (by omega) (by omega)), nI_clamp (show 5 * j + 1 < 2 ^ 31 by omega), FM_in_eq, qc_some]
      obtain ⟨f, m, k1, k2, k3, k4, k5⟩ := hp j (by omega) c3
      rw [k4, k3, nI_m1 (by omega), nI_toInt (by omega), nI_clamp (show f < 2 ^ 31 by omega)]
      by_cases c4 : 0 ≤ l2.toInt ∧ l2.toInt < m
      · rw [if_pos c4, if_neg (by simp [bI_eq0]; omega)]
        obtain ⟨i, hi, rfl, ei⟩ := nI_ex c4.1
        unfold FM_octet_52
        simp only [zu_self]
        rw [if_pos (by decide), e0, nI_p4, qk_t (qi_nI (by omega) (by omega)), nI_clamp (show 5 * j + 4 < 2 ^ 31 by omega), jcodef (by omega), k3, nI_add, qk_t (qi_nI (by omega) (by omega)), nI_clamp (show f + i < 2 ^ 31 by omega), nI_clamp hi, jcodef (by omega)]
      · rw [if_neg c4, if_pos (by simp [bI_eq0]; omega), bad]
    · rw [if_neg c3, if_neg c3, bad]
  · rw [if_neg c2, if_pos (by simp; omega), bad]
theorem eV_octet {D J : zJ} {n : Nat} (h0 : D 8 0 = nI n) (hn : n ≤ 100) (hp : ∀ k, k < n → D 9 k = J 29 (5 * k) ∧ D 10 k = J 29 (5 * k + 1) ∧ D 11 k = J 29 (5 * k + 2) ∧ D 12 k = J 29 (5 * k + 3) ∧ (J 29 (5 * k) = 4 → ∃ f m, f + m ≤ 120 ∧ D 13 k = nI f ∧ J 29 (5 * k + 4) = nI f ∧ J 29 (5 * k + 1) = nI m ∧ ∀ i, i < m → D 15 (f + i) = J 30 (f + i) ∧ ∃ b, b < 256 ∧ J 30 (f + i) = nI b)) (N : Nat) (M : zM) (l1 l2 : Int32) : (FV_octetAt N M 8 l1 l2 D = match oAt J n l1 l2 with | none => some (-1, D) | some v => some (v, D)) ∧ ∀ v, oAt J n l1 l2 = some v → v ≠ -1 := by
  unfold FV_octetAt oAt
  simp only [Int32.lt_iff_toInt_lt, Int32.le_iff_toInt_le, i_0, h0, nI_toInt (show n < 2 ^ 31 by omega)]
  by_cases c2 : 0 ≤ l1.toInt ∧ l1.toInt < n
  · rw [if_pos c2, if_neg (by omega), if_neg (by omega)]
    obtain ⟨j, hj, rfl, ej⟩ := nI_ex c2.1
    obtain ⟨k1, k2, -, -, k5⟩ := hp j (by omega)
    rw [qk_t (qi_nI (by omega) (by omega)), nI_clamp (show j < 2 ^ 31 by omega), show (8 + 1 : Nat) = 9 from rfl, show (8 + 2 : Nat) = 10 from rfl, show (8 + 5 : Nat) = 13 from rfl, show (8 + 7 : Nat) = 15 from rfl, k1, k2]
    by_cases c3 : J 29 (5 * j) = 4
    · rw [if_pos c3, if_pos c3]
      obtain ⟨f, m, g1, g2, g3, g4, g5⟩ := k5 c3
      rw [g4, g2, g3, nI_toInt (show m < 2 ^ 31 by omega), nI_clamp (show f < 2 ^ 31 by omega)]
      by_cases c4 : 0 ≤ l2.toInt ∧ l2.toInt < m
      · rw [if_pos c4, if_neg (by omega), qk_t (qi_nI (by omega) (by omega)), if_pos c4.2, qk_t (qi_nI (by omega) (by omega))]
        obtain ⟨i, hi, rfl, ei⟩ := nI_ex c4.1
        obtain ⟨e1, b, e2, e3⟩ := g5 i (by omega)
        rw [nI_add, qk_t (qi_nI (by omega) (by omega)), nI_clamp (show f + i < 2 ^ 31 by omega), nI_clamp hi, e1]
        refine ⟨rfl, fun v hv => ?_⟩
        rw [← Option.some.inj hv, e3]
        exact nI_n1 (by omega)
      · rw [if_neg c4]
        refine ⟨?_, fun v hv => (by cases hv)⟩
        by_cases c5 : l2.toInt < 0
        · rw [if_pos c5]
        · rw [if_neg c5, qk_t (qi_nI (by omega) (by omega)), if_neg (by omega)]
    · rw [if_neg c3, if_neg c3]
      exact ⟨rfl, fun v hv => (by cases hv)⟩
  · rw [if_neg c2]
    refine ⟨?_, fun v hv => (by cases hv)⟩
    by_cases c3 : l1.toInt < 0
    · rw [if_pos c3]
    · rw [if_neg c3, if_pos (by omega)]
theorem t_octet {KC KS A sn q i : Nat} {sx : Nat → Int32} {M : zM} (h : INV M A KC KS (q + 1)) (hi : i + 5 ≤ sn) (hn : sn ≤ 2560) (hc : sx i &&& 15 = 9) : lTurn KC KS A sn sx q i M := by
  obtain ⟨n, n1, n2, n3, n4⟩ := h.2.2.2.2.1
  obtain ⟨a, b, p1, p2, p3, p4, p5⟩ := h.2.1
  have hL := h.1.1
  have hLm := h.1.2.1
  have ho := h.1.2.2
  have e0 : zsh M A = some (.inl 8) := zLs0 hL 0 rfl
  have gap : ∀ v : Int32, INV (zmm (zgap M 6) (A + 32) 40 (zu (zJo (zgap M 6) (A + 32)) 0 0 v)) A KC KS q := fun v => INV_code (M5 := zgap M 6) h rfl rfl rfl rfl (by show zsz M ≤ zsz M + 1; omega) (by show zsz M + 1 + q ≤ _; omega) (by show zsl M + 6 + _ ≤ _; omega) v
  obtain ⟨v1, v2⟩ := eV_octet n2 n1 n4 0 M (sx (i + 1)) (sx (i + 2))
  cases hv : oAt (zJo M (A + 32)) n (sx (i + 1)) (sx (i + 2)) with
  | none =>
    refine tn_9 hi hn hc (M5 := zgap M 6) (c := 1) (w := 0) (ev_of (fun N => ?_)) (ev_of (fun N => ?_)) hLm ho (zu_self _ _ _ _) (fun h => absurd h (by decide)) (gap 1)
    · unfold FL_octet FD_octet
      rw [qk_d e0, qk_t (dLyB_of hL), (eV_octet n2 n1 n4 N M (sx (i + 1)) (sx (i + 2))).1, hv]
      simp only [qb_some, zmm_J]
      rw [if_pos trivial, qk_t (by simp; omega), qb_some]
      simp [qtI, qix]
    · rw [eM_octet (J := zJo (zgap M 6) (A + 32)) (D := zJo M A) n3 n1 (fun k hk => (n4 k hk).2.2.2.2)]
      show (match oAt (zJo M (A + 32)) n (sx (i + 1)) (sx (i + 2)) with | none => _ | some v => _) = _
      rw [hv]
  | some v =>
    refine tn_9 hi hn hc (M5 := zpl M (A + 72) 0 v.toInt64) (c := 0) (w := v) (ev_of (fun N => ?_)) (ev_of (fun N => ?_)) hLm ho (zu_self _ _ _ _) (fun _ => zl_outs M A _) (INV_code (M5 := zpl M (A + 72) 0 _) h rfl rfl rfl (zl_out M A _) (Nat.le_refl _) (by show zsz M + q ≤ _; omega) (by show zsl M + _ ≤ _; omega) 0)
    · unfold FL_octet FD_octet
      rw [qk_d e0, qk_t (dLyB_of hL), (eV_octet n2 n1 n4 N M (sx (i + 1)) (sx (i + 2))).1, hv]
      simp only [qb_some, zmm_J]
      rw [if_neg (v2 v hv), qb_some, qtI_v ho]
    · rw [eM_octet (J := zJo (zpl M (A + 72) 0 v.toInt64) (A + 32)) (D := zJo M A) n3 n1 (fun k hk => (n4 k hk).2.2.2.2)]
      show (match oAt (zJo M (A + 32)) n (sx (i + 1)) (sx (i + 2)) with | none => _ | some v => _) = _
      rw [hv]
