/-! CALLS that change little -/
theorem t_at {KC KS A sn q i : Nat} {sx : Nat → Int32} {M : zM} (h : INV M A KC KS (q + 1)) (hi : i + 5 ≤ sn) (hn : sn ≤ 2560) (hc : sx i &&& 15 = 5) : lTurn KC KS A sn sx q i M := by
  obtain ⟨n, n1, n2, n3, n4⟩ := h.2.2.2.1
  obtain ⟨a, b, p1, p2, p3, p4, p5⟩ := h.2.1
  have hL := h.1.1
  have hLm := h.1.2.1
  have ho := h.1.2.2
  have room : zsz M + 1 ≤ KC ∧ zsl M + 6 ≤ KS := ⟨by omega, by omega⟩
  have e0 : zsh M A = some (.inl 8) := zLs0 hL 0 rfl
  by_cases c1 : (sx (i + 1)).toInt = -1
  · refine tn_5 hi hn hc (M5 := zpl M (A + 72) 0 (nI n).toInt64) (c := 0) (w := nI n) (ev_of (fun N => ?_)) (ev_of (fun N => ?_)) hLm ho (zu_self _ _ _ _) (fun _ => zl_outs M A _) (INV_code (M5 := zpl M (A + 72) 0 _) h rfl rfl rfl (zl_out M A _) (Nat.le_refl _) (by show zsz M + q ≤ _; omega) (by show zsl M + _ ≤ _; omega) 0)
    · unfold FL_at
      rw [qk_d e0, FD_at_eq hL room n2 n1, if_pos c1, qb_some, qtI_v ho]
    · rw [eM_at (J := zJo (zpl M (A + 72) 0 (nI n).toInt64) (A + 32)) n3 n1, if_pos c1]
  · by_cases c2 : 0 ≤ (sx (i + 1)).toInt ∧ (sx (i + 1)).toInt < n
    · obtain ⟨j, j1, j2, j3⟩ := nI_ex c2.1
      have ej : zJo M A 6 (sx (i + 1)).toNatClampNeg = zJo M (A + 32) 18 (sx (i + 1)).toNatClampNeg := by
        rw [j2, nI_clamp j1]
        exact (n4 j (by omega)).1
      refine tn_5 hi hn hc (M5 := zpl M (A + 72) 0 (zJo M A 6 (sx (i + 1)).toNatClampNeg).toInt64) (c := 0) (w := zJo M A 6 (sx (i + 1)).toNatClampNeg) (ev_of (fun N => ?_)) (ev_of (fun N => ?_)) hLm ho (zu_self _ _ _ _) (fun _ => zl_outs M A _) (INV_code (M5 := zpl M (A + 72) 0 _) h rfl rfl rfl (zl_out M A _) (Nat.le_refl _) (by show zsz M + q ≤ _; omega) (by show zsl M + _ ≤ _; omega) 0)
      · unfold FL_at
        rw [qk_d e0, FD_at_eq hL room n2 n1, if_neg c1, if_pos c2, qb_some, qtI_v ho]
      · rw [eM_at (J := zJo (zpl M (A + 72) 0 _) (A + 32)) n3 n1, if_neg c1, if_pos c2, ej]
        rfl
    · refine tn_5 hi hn hc (M5 := zgap M 6) (c := 1) (w := 0) (ev_of (fun N => ?_)) (ev_of (fun N => ?_)) hLm ho (zu_self _ _ _ _) (fun h => absurd h (by decide)) (INV_code (M5 := zgap M 6) h rfl rfl rfl rfl (by show zsz M ≤ zsz M + 1; omega) (by show zsz M + 1 + q ≤ _; omega) (by show zsl M + 6 + _ ≤ _; omega) 1)
      · unfold FL_at
        rw [qk_d e0, FD_at_eq hL room n2 n1, if_neg c1, if_neg c2, qb_some]
        simp only [qtI, qix]
        rw [if_pos trivial]
      · rw [eM_at (J := zJo (zgap M 6) (A + 32)) n3 n1, if_neg c1, if_neg c2]
