/-! OPERATION and SERVE: the turns -/
theorem qtU_3 {M : zM} {C : String} {k : Int32} (h : (C = "java/lang/IllegalArgumentException" ∧ k = 1) ∨ (C = "java/lang/IllegalStateException" ∧ k = 2) ∨ (C = "java/util/NoSuchElementException" ∧ k = 3)) : qtU ["java/lang/IllegalArgumentException", "java/lang/IllegalStateException", "java/util/NoSuchElementException"] (.inr C) M = some (k, M) := by
  rcases h with ⟨rfl, rfl⟩ | ⟨rfl, rfl⟩ | ⟨rfl, rfl⟩ <;> simp [qtU, qix] <;> decide
theorem t_operation {KC KS A sn q i : Nat} {sx : Nat → Int32} {M : zM} (h : INV M A KC KS (q + 1)) (hi : i + 5 ≤ sn) (hn : sn ≤ 2560) (hc : sx i &&& 15 = 10) : lTurn KC KS A sn sx q i M := by
  obtain ⟨pa, pb, p1, p2, p3, p4, p5⟩ := h.2.1
  have hL := h.1.1
  have hLm := h.1.2.1
  have room : zsz M + 1 ≤ KC ∧ zsl M + 6 ≤ KS := ⟨by omega, by omega⟩
  have e0 : zsh M A = some (.inl 8) := zLs0 hL 0 rfl
  have gap : ∀ v : Int32, INV (zmm (zgap M 6) (A + 32) 40 (zu (zJo (zgap M 6) (A + 32)) 0 0 v)) A KC KS q := fun v => INV_code (M5 := zgap M 6) h rfl rfl rfl rfl (by show zsz M ≤ zsz M + 1; omega) (by show zsz M + 1 + q ≤ _; omega) (by show zsl M + 6 + _ ≤ _; omega) v
  have bad : ∀ N (k l2 l3 l4 : Int32) (J : zJ), FM_operation_36 N k l2 l3 l4 0 J = some ((), zu J 0 0 1) := by
    intro N k l2 l3 l4 J
    unfold FM_operation_36 FM_asked
    rw [if_pos rfl, qb_some]
    simp only [zu_self]
    rw [if_neg (by decide)]
  generalize hl2 : (((sx (i + 2)).toUInt32 % 65536).toInt32) = l2
  by_cases c : (0 ≤ (sx (i + 1)).toInt ∧ (sx (i + 1)).toInt ≤ 7) ∧ (0 ≤ (sx (i + 3)).toInt ∧ (sx (i + 3)).toInt ≤ 2) ∧ (1 ≤ (sx (i + 4)).toInt ∧ (sx (i + 4)).toInt ≤ 2)
  · obtain ⟨c1, c2, c3⟩ := c
    obtain ⟨k, k1, k2, k3⟩ := nI_ex c1.1
    obtain ⟨m3, a1, a2, a3⟩ := nI_ex c2.1
    obtain ⟨m4, b1, b2, b3⟩ := nI_ex (x := sx (i + 4)) (by omega)
    have hk8 : k < 8 := by omega
    have hrf : ∀ N (J : zJ), FM_operation N (sx (i + 1)) l2 (sx (i + 3)) (sx (i + 4)) J = FM_operation_36 N (sx (i + 1)) l2 (sx (i + 3)) (sx (i + 4)) 1 J := by
      intro N J
      unfold FM_operation
      rw [FM_in_eq, FM_in_eq, FM_in_eq, qc_some, qc_some, qc_some, i_0, i_1, i_lit 2 (by omega), i_lit 7 (by omega), if_neg (by simp only [bI_eq0]; simp; omega), if_neg (by simp only [bI_eq0]; simp; omega), if_neg (by simp only [bI_eq0]; simp; omega)]
    have hcl : ∀ N, FD_operation N KC KS A (sx (i + 1)) l2 (sx (i + 3)) (sx (i + 4)) M = if (zi M A 3) = 0 then some (.inr "java/lang/IllegalStateException", zgap M 6) else qb (FC_typeNamed N KC KS (A + 2) l2 M) fun v3 M4 => if v3 = none then qk (decide (zsz M4 + 1 ≤ KC) && decide (zsl M4 + 6 ≤ KS)) <| some (.inr "java/util/NoSuchElementException", zgap M4 6) else qk (decide (zsh M4 A = some (.inl 8))) <| qa (zr M4 A 13) M4 4 (sx (i + 1)) fun a6 => qo v3 M4 6 fun o8 => let M7 := zpr M4 a6 (sx (i + 1)).toNatClampNeg (some o8); qa (zr M7 A 14) M7 0 (sx (i + 1)) fun a9 => let M10 := zpi M7 a9 (sx (i + 1)).toNatClampNeg (sx (i + 3)); qa (zr M10 A 15) M10 0 (sx (i + 1)) fun a11 => let M12 := zpi M10 a11 (sx (i + 1)).toNatClampNeg (sx (i + 4)); some (.inl (), M12) := by
      intro N
      unfold FD_operation
      rw [areRules_eq, decide_eq_true ⟨c2, c3⟩, qc_some, if_neg (by rw [Int32.lt_iff_toInt_lt, i_0]; omega), if_neg (by rw [Int32.le_iff_toInt_le, i_lit 8 (by omega)]; omega), if_neg (by decide), qo_s (zLr0 hL 34 rfl) (zLs hL 2 rfl), qk_t (by simp; exact room)]
    obtain ⟨o1, o2⟩ := h.2.2.2.2.2.1
    rcases o2 with o2 | ⟨o2, o3⟩
    · refine tn_10 hi hn hc (M5 := zgap M 6) (c := 2) (ev_of (fun N => ?_)) (ev_of (fun N => ?_)) hLm (zu_self _ _ _ _) (gap 2)
      · unfold FL_operation
        rw [hl2, qk_d e0, hcl, if_pos (show zi M A 3 = 0 from o1.trans o2), qb_some]
        exact qtU_3 (by simp)
      · rw [hl2, hrf]
        unfold FM_operation_36 FM_asked
        rw [if_neg (by decide), if_pos (show zJo (zgap M 6) (A + 32) 0 1 = 0 from o2), qb_some]
        simp only [zu_self]
        rw [if_neg (by decide)]
    · have hmod : ¬ zi M A 3 = 0 := by
        intro e
        have : zJo M A 0 3 = 0 := e
        rw [o1, o2] at this
        exact absurd this (by decide)
      rcases named_ok hL o3 l2 with hno | ⟨a, t, hw, hr, hyes⟩
      · refine tn_10 hi hn hc (M5 := zgap M 6) (c := 3) (ev_of (fun N => ?_)) (ev_of (fun N => ?_)) hLm (zu_self _ _ _ _) (gap 3)
        · unfold FL_operation
          rw [hl2, qk_d e0, hcl, if_neg hmod, (hno N KC KS (zJo M (A + 32)) rfl).1, qb_some, if_pos rfl, qk_t (by simp; exact room), qb_some]
          exact qtU_3 (by simp)
        · rw [hl2, hrf]
          unfold FM_operation_36 FM_asked
          rw [if_neg (by decide), if_neg (show ¬ zJo (zgap M 6) (A + 32) 0 1 = 0 from fun e => absurd (o2.symm.trans e) (by decide)), (hno N KC KS (zJo (zgap M 6) (A + 32)) rfl).2, qb_some, if_neg (by decide), qb_some]
          simp only [zu_self]
          rw [if_neg (by decide)]
      · have ht160 : t < 160 := hw.1
        have ha6 : zsh M a = some (.inl 6) := hr.1
        let M5 : zM := zpi (zpi (zpr M (A + 28) k (some a)) (A + 29) k (nI m3)) (A + 30) k (nI m4)
        let J5 : zJ := zu (zu (zu (zu (zJo M (A + 32)) 0 0 0) 36 k (nI t)) 37 k (nI m3)) 38 k (nI m4)
        have hi5 : ∀ x j, ¬ (x = A + 29 ∧ j = k) → ¬ (x = A + 30 ∧ j = k) → zi M5 x j = zi M x j := by
          intro x j g1 g2
          show zi (zpi (zpi (zpr M (A + 28) k (some a)) (A + 29) k (nI m3)) (A + 30) k (nI m4)) x j = _
          rw [zi_pi, if_neg g2, zi_pi, if_neg g1]
          rfl
        have hr5 : ∀ x j, zr M5 x j = if x = A + 28 ∧ j = k then some a else zr M x j := fun x j => zr_pr M (A + 28) k x j (some a)
        have hJM : zJo M5 (A + 32) = zJo M (A + 32) := by
          funext c j
          exact hi5 _ _ (by omega) (by omega)
        have j5 : ∀ c j, ¬ (c = 0 ∧ j = 0) → ¬ (36 ≤ c ∧ c ≤ 38 ∧ j = k) → J5 c j = zJo M (A + 32) c j := by
          intro c j g1 g2
          show zu _ _ _ _ _ _ = _
          rw [zu_at, if_neg (by omega), zu_at, if_neg (by omega), zu_at, if_neg (by omega), zu_at, if_neg g1]
        refine tn_10 hi hn hc (M5 := M5) (c := 0) (J := J5) (ev_of (fun N => ?_)) (ev_of (fun N => ?_)) ?_ ?_ ?_
        · unfold FL_operation
          rw [hl2, qk_d e0, hcl, if_neg hmod, (hyes N KC KS (zJo M (A + 32)) rfl).1, qb_some, if_neg (by simp), qk_d e0, k2, a2, b2, qa_s (zLr0 hL 3 rfl) (zLs hL 28 rfl) (qi_nI hk8 (by omega)), qo_s rfl ha6]
          simp only [nI_clamp (show k < 2 ^ 31 by omega)]
          have r14 : zr (zpr M (A + 28) k (some a)) A 14 = some (A + 29) := by rw [zr_pr, if_neg (by omega)]; exact zLr0 hL 2 rfl
          have r15 : zr (zpi (zpr M (A + 28) k (some a)) (A + 29) k (nI m3)) A 15 = some (A + 30) := by rw [zr_pi, zr_pr, if_neg (by omega)]; exact zLr0 hL 1 rfl
          rw [qa_s (M := zpr M (A + 28) k (some a)) r14 (zLs hL 29 rfl) (qi_nI hk8 (by omega)), qa_s (M := zpi (zpr M (A + 28) k (some a)) (A + 29) k (nI m3)) r15 (zLs hL 30 rfl) (qi_nI hk8 (by omega)), qb_some]
          rfl
        · rw [hl2, hrf, hJM]
          unfold FM_operation_36 FM_asked
          rw [if_neg (by decide), if_neg (show ¬ zJo M (A + 32) 0 1 = 0 from fun e => absurd (o2.symm.trans e) (by decide)), (hyes N KC KS (zJo M (A + 32)) rfl).2, qb_some, if_pos (by rw [show (0 : Int32) = nI 0 from rfl, nI_leI (by omega) (by omega)]; omega), qb_some]
          simp only [zu_self]
          rw [if_pos (by decide), (hyes N KC KS (zu (zJo M (A + 32)) 0 0 0) (jcodef (by omega))).2, qb_some, k2, a2, b2, qk_t (qi_nI hk8 (by omega)), qk_t (qi_nI hk8 (by omega)), qk_t (qi_nI hk8 (by omega)), nI_clamp (by omega)]
        · refine ⟨fun q hq => hLm.1 q hq, fun q hq => ?_⟩
          have hk : ∀ q ∈ mRf, q.1 = 0 := by decide
          have := hk q hq
          rw [hr5, if_neg (by omega)]
          exact hLm.2 q hq
        · show zu _ _ _ _ _ _ = _
          rw [zu_at, if_neg (by omega), zu_at, if_neg (by omega), zu_at, if_neg (by omega), zu_self]
        · have hzr : ∀ x, x ≠ A + 28 → zr (zmm M5 (A + 32) 40 J5) x = zr M x := fun x hx => funext (fun j => by rw [zmm_r, hr5, if_neg (by omega)])
          have hD : ∀ c j, c < 32 → ¬ (29 ≤ c ∧ c ≤ 30 ∧ j = k) → zJo (zmm M5 (A + 32) 40 J5) A c j = zJo M A c j := by
            intro c j hc g
            rw [zJo_mmo (by omega)]
            exact hi5 _ _ (by omega) (by omega)
          have hDc : ∀ c, c < 29 → zJo (zmm M5 (A + 32) 40 J5) A c = zJo M A c := fun c hc => funext (fun j => hD c j (by omega) (by omega))
          have hJ : ∀ c, c < 40 → zJo (zmm M5 (A + 32) 40 J5) (A + 32) c = J5 c := fun c hc => zJo_mm hc
          have hJc : ∀ c, c < 40 → c ≠ 0 → ¬ (36 ≤ c ∧ c ≤ 38) → zJo (zmm M5 (A + 32) 40 J5) (A + 32) c = zJo M (A + 32) c := fun c h1 h2 h3 => by rw [hJ c h1]; exact funext (fun j => j5 c j (by omega) (by omega))
          have hJ0 : ∀ j, j ≠ 0 → zJo (zmm M5 (A + 32) 40 J5) (A + 32) 0 j = zJo M (A + 32) 0 j := fun j hj => by rw [hJ 0 (by omega)]; exact j5 0 j (by omega) (by omega)
          have hag : zag M (zmm M5 (A + 32) 40 J5) := by
            intro b ci hci hs
            have hb := iLay_out h.1 hci hs
            refine ⟨hs, ?_, hzr b (by omega)⟩
            rw [zmm_o _ _ _ _ (by omega)]
            exact funext (fun j => hi5 b j (by omega) (by omega))
          have hTy : ∀ c j, 4 ≤ c → c ≤ 15 → zJo (zmm M5 (A + 32) 40 J5) (A + 32) c j = zJo M (A + 32) c j := fun c j c1 c2 => by rw [hJc c (by omega) (by omega) (by omega)]
          obtain ⟨⟨l1, l2, l3⟩, -, i3, i4, i5, i6, i7, i8⟩ := h
          refine ⟨⟨⟨fun q hq => l1.1 q hq, fun q hq => ?_⟩, ⟨fun q hq => l2.1 q hq, fun q hq => ?_⟩, l3⟩, ⟨pa, pb, ?_, by show zsz M + _ + _ + _ ≤ _; omega, by show zsl M + _ + _ + _ ≤ _; omega, p4, p5⟩, ?_, ?_, ?_, ?_, fun j hj => ?_, ?_⟩
          · have hk : ∀ q ∈ dRf, q.1 ≠ 28 := by decide
            have := hk q hq
            rw [hzr _ (by omega)]
            exact l1.2 q hq
          · have hk : ∀ q ∈ mRf, q.1 = 0 := by decide
            have := hk q hq
            rw [hzr _ (by omega)]
            exact l2.2 q hq
          · unfold iPool
            rw [hzr _ (by omega), hzr _ (by omega)]
            exact p1
          · exact iTxt_c (by rw [hDc 0 (by omega)]) (hDc 1 (by omega)) (hJ0 2 (by omega)) (hJc 1 (by omega) (by omega) (by omega)) i3
          · exact iBuf_c (by rw [hDc 0 (by omega)]) (hDc 6 (by omega)) (hJ0 27 (by omega)) (hJc 18 (by omega) (by omega) (by omega)) i4
          · exact iVal_c (by rw [hDc 8 (by omega)]) (hDc 9 (by omega)) (hDc 10 (by omega)) (hDc 11 (by omega)) (hDc 12 (by omega)) (hDc 13 (by omega)) (hDc 15 (by omega)) (hJ0 44 (by omega)) (hJc 29 (by omega) (by omega) (by omega)) (hJc 30 (by omega) (by omega) (by omega)) i5
          · exact iMod_c hag (hzr _ (by omega)) (by rw [hDc 0 (by omega)]) (hJ0 1 (by omega)) (hJc 3 (by omega) (by omega) (by omega)) hTy i6
          · by_cases hjk : j = k
            · subst hjk
              right
              refine ⟨a, t, ?_, ?_, wfT_c hTy 6 t hw, rep_mono hag hTy 6 a t hr, ?_, ?_, ?_, ?_⟩
              · rw [zmm_r, hr5, if_pos ⟨rfl, rfl⟩]
              · rw [hJ 36 (by omega)]
                show zu _ _ _ _ _ _ = _
                rw [zu_at, if_neg (by omega), zu_at, if_neg (by omega), zu_self]
              · rw [zJo_mmo (by omega), hJ 37 (by omega)]
                show zi (zpi (zpi (zpr M (A + 28) j (some a)) (A + 29) j (nI m3)) (A + 30) j (nI m4)) (A + 29) j = zu _ _ _ _ _ _
                rw [zi_pi, if_neg (by omega), zi_pi, if_pos ⟨rfl, rfl⟩, zu_at, if_neg (by omega), zu_self]
              · rw [zJo_mmo (by omega), hJ 38 (by omega)]
                show zi (zpi (zpi (zpr M (A + 28) j (some a)) (A + 29) j (nI m3)) (A + 30) j (nI m4)) (A + 30) j = zu _ _ _ _ _ _
                rw [zi_pi, if_pos ⟨rfl, rfl⟩, zu_self]
              · rw [hJ 37 (by omega)]
                show zu _ _ _ _ _ _ = 0 ∨ zu _ _ _ _ _ _ = 1 ∨ zu _ _ _ _ _ _ = 2
                rw [zu_at, if_neg (by omega), zu_self]
                have : m3 = 0 ∨ m3 = 1 ∨ m3 = 2 := by omega
                rcases this with rfl | rfl | rfl
                · exact Or.inl rfl
                · exact Or.inr (Or.inl rfl)
                · exact Or.inr (Or.inr rfl)
              · rw [hJ 38 (by omega)]
                show zu _ _ _ _ _ _ = 1 ∨ zu _ _ _ _ _ _ = 2
                rw [zu_self]
                have : m4 = 1 ∨ m4 = 2 := by omega
                rcases this with rfl | rfl
                · exact Or.inl rfl
                · exact Or.inr rfl
            · have g28 : zr (zmm M5 (A + 32) 40 J5) (A + 28) j = zr M (A + 28) j := by rw [zmm_r, hr5, if_neg (by omega)]
              have g36 : ∀ c, 36 ≤ c → c ≤ 38 → zJo (zmm M5 (A + 32) 40 J5) (A + 32) c j = zJo M (A + 32) c j := fun c c1 c2 => by rw [hJ c (by omega)]; exact j5 c j (by omega) (by omega)
              rw [g28, g36 36 (by omega) (by omega), g36 37 (by omega) (by omega), g36 38 (by omega) (by omega), hD 29 j (by omega) (by omega), hD 30 j (by omega) (by omega)]
              rcases i7 j hj with g | ⟨a', t', g1, g2, g3, g4, g5⟩
              · exact Or.inl g
              · exact Or.inr ⟨a', t', g1, g2, wfT_c hTy 6 t' g3, rep_mono hag hTy 6 a' t' g4, g5⟩
          · exact iSrv_c rfl (hJc 39 (by omega) (by omega) (by omega)) i8
  · refine tn_10 hi hn hc (M5 := zgap M 6) (c := 1) (ev_of (fun N => ?_)) (ev_of (fun N => ?_)) hLm (zu_self _ _ _ _) (gap 1)
    · unfold FL_operation FD_operation FD_operation_19
      rw [hl2, qk_d e0, areRules_eq, qc_some, qk_t (by simp; exact room)]
      by_cases c1 : sx (i + 1) < 0
      · rw [if_pos c1, qb_some]
        exact qtU_3 (by simp)
      · rw [if_neg c1]
        by_cases c2 : 8 ≤ sx (i + 1)
        · rw [if_pos c2, qb_some]
          exact qtU_3 (by simp)
        · rw [if_neg c2]
          rw [Int32.lt_iff_toInt_lt, i_0] at c1
          rw [Int32.le_iff_toInt_le, i_lit 8 (by omega)] at c2
          rw [decide_eq_false (fun z => c ⟨by omega, z⟩), if_pos (by decide), qb_some]
          exact qtU_3 (by simp)
    · rw [hl2]
      unfold FM_operation
      rw [FM_in_eq, FM_in_eq, FM_in_eq, qc_some, qc_some, qc_some, i_0, i_1, i_lit 2 (by omega), i_lit 7 (by omega), bad]
      by_cases c1 : 0 ≤ (sx (i + 1)).toInt ∧ (sx (i + 1)).toInt ≤ 7
      · rw [if_neg (by simp only [bI_eq0]; simp; omega)]
        by_cases c2 : 0 ≤ (sx (i + 3)).toInt ∧ (sx (i + 3)).toInt ≤ 2
        · rw [if_neg (by simp only [bI_eq0]; simp; omega), if_pos (by simp only [bI_eq0]; simp; omega)]
        · rw [if_pos (by simp only [bI_eq0]; simp; omega)]
      · rw [if_pos (by simp only [bI_eq0]; simp; omega)]
theorem sv_ix : ∀ m : Fin 256, (nI (m : Nat) >>> ((6 : Int32) &&& 31)) &&& 3 = nI ((m : Nat) / 64) := by decide +kernel
theorem sv_tw : ∀ m : Fin 256, ((1 : Int64) <<< ((nI (m : Nat) &&& 63).toInt64 &&& 63)).toBitVec = BitVec.twoPow 64 ((m : Nat) % 64) := by decide +kernel
theorem lg_cmp_0 {x y : Int64} (h : lg_cmp x y = 0) : x = y := by
  unfold lg_cmp at h
  by_cases c1 : x > y
  · rw [if_pos c1] at h
    exact absurd h (by decide)
  · rw [if_neg c1] at h
    by_cases c2 : x = y
    · exact c2
    · rw [if_neg c2] at h
      exact absurd h (by decide)
theorem sv_bit (x : Int64) {m : Nat} (hm : m < 256) : lg_cmp (x &&& ((1 : Int64) <<< ((nI m &&& 63).toInt64 &&& 63))) 0 = 0 ↔ x.toBitVec.getLsbD (m % 64) = false := by
  have ht := sv_tw ⟨m, hm⟩
  simp only at ht
  have e : (x &&& ((1 : Int64) <<< ((nI m &&& 63).toInt64 &&& 63))) = 0 ↔ x.toBitVec.getLsbD (m % 64) = false := by
    rw [← Int64.toBitVec_inj, Int64.toBitVec_and, ht, BitVec.and_twoPow]
    cases hb : x.toBitVec.getLsbD (m % 64) with
    | false => simp
    | true =>
      simp only [if_true]
      constructor
      · intro hz
        have := congrArg (fun z => BitVec.getLsbD z (m % 64)) hz
        simp only [BitVec.getLsbD_twoPow] at this
        have h64 : m % 64 < 64 := Nat.mod_lt _ (by omega)
        simp [h64] at this
      · intro hz
        cases hz
  constructor
  · intro h
    exact e.mp (lg_cmp_0 h)
  · intro h
    exact lg_cmp0 (e.mpr h)
/-- the mark behind serving an ID -/
def svL (M : zM) (A m : Nat) : zM := zpl M (A + 31) (m / 64) (zl M (A + 31) (m / 64) ||| ((1 : Int64) <<< ((nI m &&& 63).toInt64 &&& 63)))
theorem eD_mark {M : zM} {A KC KS m : Nat} (hL : zLy M A dShL dRf) (hm : m < 256) (N : Nat) : FD_markServed N KC KS A (nI m) M = some ((), svL M A m) := by
  unfold FD_markServed
  have h1 := sv_ix ⟨m, hm⟩
  simp only at h1
  rw [h1, qa_s (zLr0 hL 0 rfl) (zLs hL 31 rfl) (qi_nI (by omega) (by omega)), qa_s (zLr0 hL 0 rfl) (zLs hL 31 rfl) (qi_nI (by omega) (by omega)), nI_clamp (by omega)]
  rfl
theorem eD_was {M : zM} {A KC KS m : Nat} (hL : zLy M A dShL dRf) (hm : m < 256) (N : Nat) : FD_wasServed N KC KS A (nI m) M = some (sBit (zl M (A + 31)) m, M) := by
  unfold FD_wasServed
  have h1 := sv_ix ⟨m, hm⟩
  simp only at h1
  rw [h1, qa_s (zLr0 hL 0 rfl) (zLs hL 31 rfl) (qi_nI (by omega) (by omega)), nI_clamp (by omega)]
  by_cases c : lg_cmp (zl M (A + 31) (m / 64) &&& ((1 : Int64) <<< ((nI m &&& 63).toInt64 &&& 63))) 0 = 0
  · rw [if_pos c]
    have := (sv_bit _ hm).mp c
    unfold sBit
    rw [this]
  · rw [if_neg c]
    have : ¬ (zl M (A + 31) (m / 64)).toBitVec.getLsbD (m % 64) = false := fun z => c ((sv_bit _ hm).mpr z)
    unfold sBit
    simp at this
    rw [this]
theorem svL_S {M M5 : zM} {A m : Nat} {J J' : zJ} (hm : m < 256) (h : iSrv M A J) (hl : zl M5 (A + 31) = zl (svL M A m) (A + 31)) (h39 : ∀ k, k ≠ m → J' 39 k = J 39 k) (hm39 : J' 39 m = 1) : iSrv M5 A J' := by
  have ht := sv_tw ⟨m, hm⟩
  simp only at ht
  intro id hid
  unfold sBit
  rw [hl]
  unfold svL
  rw [zl_pl]
  by_cases c : id / 64 = m / 64
  · rw [if_pos ⟨rfl, c⟩, Int64.toBitVec_or, BitVec.getLsbD_or, ht, BitVec.getLsbD_twoPow]
    by_cases c2 : id = m
    · subst c2
      have h64 : id % 64 < 64 := Nat.mod_lt _ (by omega)
      rw [hm39]
      simp [h64, bI]
    · have h64 : ¬ m % 64 = id % 64 := by omega
      rw [h39 id c2, h id hid]
      unfold sBit
      rw [c]
      simp [h64]
  · rw [if_neg (by omega), h39 id (by intro e; subst e; exact c rfl), h id hid]
    rfl
/-- what a refusal leaves in the buffer -/
def rfD (D : zJ) (t0 x : Int32) : zJ := zu (zu (zu (zu D 6 0 4) 6 1 t0) 6 2 x) 0 5 3
def rfJ (J : zJ) (t0 x : Int32) : zJ := zu (zu (zu (zu J 18 0 4) 18 1 t0) 18 2 x) 0 27 3
theorem eD_refuse (N : Nat) (M : zM) (t0 x : Int32) (D : zJ) : FD_refuseMessage N M t0 x D = some (4, rfD D t0 x) := by
  unfold FD_refuseMessage
  rw [qk_t (by decide), qk_t (by decide), qk_t (by decide)]
  rfl
theorem zmm_pl (M : zM) (A n x k : Nat) (v : Int64) (J1 J2 : zJ) : zmm (zpl (zmm M A n J1) x k v) A n J2 = zpl (zmm M A n J2) x k v := by
  show zpl (zmm (zmm M A n J1) A n J2) x k v = _
  rw [zmm_mm]
theorem rf_INV {M : zM} {A KC KS q m x : Nat} {D J : zJ} (h : INV M A KC KS (q + 1)) (hm : m < 256) (hx : x < 256) (hd : dY (zJo M A) D) (hj : jY (zu (zJo M (A + 32)) 0 0 0) J) : INV (zmm (zpl (zmm M A 32 (rfD D (nI m) (nI x))) (A + 72) 0 (4 : Int32).toInt64) (A + 32) 40 (rfJ J (nI m) (nI x))) A KC KS q := by
  have jX0 : jX (zJo M (A + 32)) (zu (zJo M (A + 32)) 0 0 0) := fun c k hc => jcode (by unfold jx at hc; omega)
  have d : ∀ c k, c ≠ 6 → ¬ (c = 0 ∧ k = 5) → rfD D (nI m) (nI x) c k = D c k := by
    intro c k h1 h2
    unfold rfD
    rw [zu_at, if_neg h2, zu_ne _ _ _ h1, zu_ne _ _ _ h1, zu_ne _ _ _ h1]
  have j : ∀ c k, c ≠ 18 → ¬ (c = 0 ∧ k = 27) → rfJ J (nI m) (nI x) c k = J c k := by
    intro c k h1 h2
    unfold rfJ
    rw [zu_at, if_neg h2, zu_ne _ _ _ h1, zu_ne _ _ _ h1, zu_ne _ _ _ h1]
  have d2 : ∀ c, c ≠ 6 → c ≠ 0 → rfD D (nI m) (nI x) c = D c := fun c h1 h2 => funext (fun k => d c k h1 (by omega))
  have j2 : ∀ c, c ≠ 18 → c ≠ 0 → rfJ J (nI m) (nI x) c = J c := fun c h1 h2 => funext (fun k => j c k h1 (by omega))
  have hV0 : iVal (zJo M A) (zu (zJo M (A + 32)) 0 0 0) := iVal_c rfl rfl rfl rfl rfl rfl rfl (jcode (by omega)) (jcodef (by omega)) (jcodef (by omega)) h.2.2.2.2.1
  refine INV_v (D := rfD D (nI m) (nI x)) h rfl rfl rfl (Nat.le_refl _) (by show zsz M + q ≤ _; omega) (by show zsl M + _ ≤ _; omega) ⟨3, by omega, zu_self _ _ _ _, zu_self _ _ _ _, fun k hk => ?_⟩ ?_ (dX_trans hd.1 ⟨fun c hc => d2 c (by omega) (by omega), fun k hk => d 0 k (by omega) (by omega)⟩) (jX_trans jX0 (jX_trans hj.1 (fun c k hc => j c k (by unfold jx at hc; omega) (by unfold jx at hc; omega)))) (iSrv_c (zl_out (zmm M A 32 (rfD D (nI m) (nI x))) A _) (by rw [j2 39 (by omega) (by omega), hj.2.2.2.2.2.2.2, jcodef (by omega)]) h.2.2.2.2.2.2.2)
  · unfold rfD rfJ
    have h3 : k = 0 ∨ k = 1 ∨ k = 2 := by omega
    rcases h3 with rfl | rfl | rfl
    · rw [zu_ne _ _ _ (by omega), zu_at, if_neg (by omega), zu_at, if_neg (by omega), zu_self, zu_ne _ _ _ (by omega), zu_at, if_neg (by omega), zu_at, if_neg (by omega), zu_self]
      exact ⟨rfl, 4, by omega, rfl⟩
    · rw [zu_ne _ _ _ (by omega), zu_at, if_neg (by omega), zu_self, zu_ne _ _ _ (by omega), zu_at, if_neg (by omega), zu_self]
      exact ⟨rfl, m, hm, rfl⟩
    · rw [zu_ne _ _ _ (by omega), zu_self, zu_ne _ _ _ (by omega), zu_self]
      exact ⟨rfl, x, hx, rfl⟩
  · exact iVal_c (by rw [d2 8 (by omega) (by omega)]) (d2 9 (by omega) (by omega)) (d2 10 (by omega) (by omega)) (d2 11 (by omega) (by omega)) (d2 12 (by omega) (by omega)) (d2 13 (by omega) (by omega)) (d2 15 (by omega) (by omega)) (j 0 44 (by omega) (by omega)) (j2 29 (by omega) (by omega)) (j2 30 (by omega) (by omega)) (iVal_Y hd hj hV0)
theorem jY_refl (J : zJ) : jY J J := jY_of (fun _ _ _ => rfl)
theorem dY_refl (J : zJ) : dY J J := ⟨⟨fun _ _ => rfl, fun _ _ => rfl⟩, rfl, rfl, fun _ _ _ => rfl⟩
