/-! THE DESK'S CONSTRUCTOR -/
def dSh : List (Nat ⊕ Nat × Nat) := [.inl 8, .inr (1, 150), .inl 0, .inr (4, 26), .inr (4, 150), .inr (5, 150), .inr (0, 120), .inr (0, 120), .inl 7, .inr (0, 100), .inr (0, 100), .inr (0, 100), .inr (0, 100), .inr (0, 100), .inr (0, 100), .inr (0, 120), .inl 7, .inr (0, 100), .inr (0, 100), .inr (0, 100), .inr (0, 100), .inr (0, 100), .inr (0, 100), .inr (0, 120), .inl 2, .inl 3, .inl 5, .inl 4, .inr (4, 8), .inr (0, 8), .inr (0, 8), .inr (2, 4)]
def dRf : List (Nat × Nat × Nat) := [(0, 16, 31), (0, 15, 30), (0, 14, 29), (0, 13, 28), (0, 12, 27), (27, 1, 16), (27, 0, 7), (0, 11, 26), (26, 1, 16), (26, 0, 7), (0, 10, 25), (25, 1, 16), (25, 0, 6), (0, 9, 24), (24, 1, 16), (24, 0, 6), (0, 8, 16), (16, 7, 23), (16, 6, 22), (16, 5, 21), (16, 4, 20), (16, 3, 19), (16, 2, 18), (16, 1, 17), (0, 7, 8), (8, 7, 15), (8, 6, 14), (8, 5, 13), (8, 4, 12), (8, 3, 11), (8, 2, 10), (8, 1, 9), (0, 6, 7), (0, 4, 6), (0, 2, 2), (2, 3, 5), (2, 2, 4), (2, 1, 3), (2, 0, 1), (0, 0, 1)]
theorem D_init {g : zg} {d : Nat} {M M0 : zM} {A : Nat} (L : Lay M M0 A [.inl 8] []) (hr : A + 32 ≤ g.KC ∧ zsl M0 + 2247 ≤ g.KS) : zEv g (d + 2) mD_init [va_rf (some A)] M (fun M1 => Lay M1 M0 A dSh dRf) := by
  refine zEv_of (lv := [(0, va_rf (some A))]) ⟨by decide +kernel, by decide, by decide +kernel⟩ (by simp [z_cr, z_ci]) (Nat.le_of_ble_eq_true rfl) rfl ?_
  obtain ⟨hr1, hr2⟩ := hr
  refine zi_aload_n 0 (dq dD_init 0 rfl) rfl ?_
  refine zi_objInit aD_1 i_obj w_obj (by omega) (Nat.le_of_ble_eq_true rfl) (dq dD_init 1 rfl) ?_
  refine zi_aload_n 0 (dq dD_init 2 rfl) rfl ?_
  refine zi_sipush (v := 150) (dq dD_init 3 rfl) (by decide) ?_
  refine zi_newa (t := 1) (N := 150) r_char rfl rfl (by simp) (by first | rfl | decide) (by decide) ⟨by rw [L.1.1]; show A + 1 + 1 ≤ g.KC; omega, by rw [L.1.2.1]; show zsl M0 + 17 + 150 ≤ g.KS; omega⟩ (dq dD_init 4 rfl) ?_
  have LN1 : Lay (znew M (.inr (1, 150)) 150) M0 A _ _ := lay_new L (.inr (1, 150)) (n := 150) rfl
  rw [show zsz M = A + 1 from L.1.1]
  generalize znew M (.inr (1, 150)) 150 = N1 at LN1 ⊢
  refine zi_putr (LN1.2.2 0 _ rfl).1 fD_9 (fun _ => ⟨rfl, _, _, rfl⟩) (z_nar_a _ _) (dq dD_init 5 rfl) ?_
  have LN2 : Lay (zpr N1 A 0 (some (A + 1))) M0 A _ _ := lay_pr LN1 (k := 0) (j := 0) (x := 1) (by decide)
  generalize zpr N1 A 0 (some (A + 1)) = N2 at LN2 ⊢
  refine zi_aload_n 0 (dq dD_init 6 rfl) rfl ?_
  refine zi_new kC vC bD_13 nC gC ⟨by rw [LN2.1.1]; show A + 2 + 1 ≤ g.KC; omega, by rw [LN2.1.2.1]; show zsl M0 + 167 + 10 ≤ g.KS; omega⟩ (dq dD_init 7 rfl) ?_
  have LN3 : Lay (znew N2 (.inl 0) 10) M0 A _ _ := lay_new LN2 (.inl 0) (n := 10) rfl
  rw [show zsz N2 = A + 2 from LN2.1.1]
  generalize znew N2 (.inl 0) 10 = N3 at LN3 ⊢
  refine zi_dup (dq dD_init 8 rfl) (by first | rfl | exact z_cr _) ?_
  refine zi_aload_n 0 (dq dD_init 9 rfl) rfl ?_
  refine zi_getR (LN3.2.2 0 _ rfl).1 fD_9 ((LN3.2.2 0 _ rfl).2.2.2 0) (dq dD_init 10 rfl) ?_
  refine zi_cI1 rfl (C_init (d := d) (M := N3) (v := A + 2) (x := some (A + 1)) (LN3.2.2 2 _ rfl).1 (by rw [LN3.1.1]; show A + 2 < A + 3; omega) ⟨by rw [LN3.1.1]; show A + 3 + 3 ≤ g.KC; omega, by rw [LN3.1.2.1]; show zsl M0 + 177 + 326 ≤ g.KS; omega⟩) wC_init aD_15 iC_init rfl (by omega) (Nat.le_of_ble_eq_true rfl) (dq dD_init 11 rfl) (fun M22 h22 => ?_)
  subst h22
  obtain ⟨RN4, LN4, eN4⟩ := lay_nf (lay_pr LN3 (k := 2) (j := 0) (x := 1) (by decide)) (k := 2) (by decide) lC
  subst eN4
  generalize znf (zpr N3 (A + 2) 0 (some (A + 1))) (A + 2) lC = N4 at LN4 ⊢
  refine zi_putr (LN4.2.2 0 _ rfl).1 fD_18 (fun _ => ⟨rfl, _, _, rfl⟩) (z_nar_r _ _) (dq dD_init 12 rfl) ?_
  have LN5 : Lay (zpr N4 A 2 (some (A + 2))) M0 A _ _ := lay_pr LN4 (k := 0) (j := 2) (x := 2) (by decide)
  generalize zpr N4 A 2 (some (A + 2)) = N5 at LN5 ⊢
  refine zi_aload_n 0 (dq dD_init 13 rfl) rfl ?_
  refine zi_bipush (v := 120) (dq dD_init 14 rfl) (by decide) ?_
  refine zi_newa (t := 0) (N := 120) r_int rfl rfl (by simp) (by first | rfl | decide) (by decide) ⟨by rw [LN5.1.1]; show A + 6 + 1 ≤ g.KC; omega, by rw [LN5.1.2.1]; show zsl M0 + 503 + 120 ≤ g.KS; omega⟩ (dq dD_init 15 rfl) ?_
  have LN6 : Lay (znew N5 (.inr (0, 120)) 120) M0 A _ _ := lay_new LN5 (.inr (0, 120)) (n := 120) rfl
  rw [show zsz N5 = A + 6 from LN5.1.1]
  generalize znew N5 (.inr (0, 120)) 120 = N6 at LN6 ⊢
  refine zi_putr (LN6.2.2 0 _ rfl).1 fD_22 (fun _ => ⟨rfl, _, _, rfl⟩) (z_nar_a _ _) (dq dD_init 16 rfl) ?_
  have LN7 : Lay (zpr N6 A 4 (some (A + 6))) M0 A _ _ := lay_pr LN6 (k := 0) (j := 4) (x := 6) (by decide)
  generalize zpr N6 A 4 (some (A + 6)) = N7 at LN7 ⊢
  refine zi_aload_n 0 (dq dD_init 17 rfl) rfl ?_
  refine zi_bipush (v := 120) (dq dD_init 18 rfl) (by decide) ?_
  refine zi_newa (t := 0) (N := 120) r_int rfl rfl (by simp) (by first | rfl | decide) (by decide) ⟨by rw [LN7.1.1]; show A + 7 + 1 ≤ g.KC; omega, by rw [LN7.1.2.1]; show zsl M0 + 623 + 120 ≤ g.KS; omega⟩ (dq dD_init 19 rfl) ?_
  have LN8 : Lay (znew N7 (.inr (0, 120)) 120) M0 A _ _ := lay_new LN7 (.inr (0, 120)) (n := 120) rfl
  rw [show zsz N7 = A + 7 from LN7.1.1]
  generalize znew N7 (.inr (0, 120)) 120 = N8 at LN8 ⊢
  refine zi_putr (LN8.2.2 0 _ rfl).1 fD_26 (fun _ => ⟨rfl, _, _, rfl⟩) (z_nar_a _ _) (dq dD_init 20 rfl) ?_
  have LN9 : Lay (zpr N8 A 6 (some (A + 7))) M0 A _ _ := lay_pr LN8 (k := 0) (j := 6) (x := 7) (by decide)
  generalize zpr N8 A 6 (some (A + 7)) = N9 at LN9 ⊢
  refine zi_aload_n 0 (dq dD_init 21 rfl) rfl ?_
  refine zi_new kV vV bD_29 nV gV ⟨by rw [LN9.1.1]; show A + 8 + 1 ≤ g.KC; omega, by rw [LN9.1.2.1]; show zsl M0 + 743 + 9 ≤ g.KS; omega⟩ (dq dD_init 22 rfl) ?_
  have LN10 : Lay (znew N9 (.inl 7) 9) M0 A _ _ := lay_new LN9 (.inl 7) (n := 9) rfl
  rw [show zsz N9 = A + 8 from LN9.1.1]
  generalize znew N9 (.inl 7) 9 = N10 at LN10 ⊢
  refine zi_dup (dq dD_init 23 rfl) (by first | rfl | exact z_cr _) ?_
  refine zi_cI0 rfl (V_init (d := d) (M := N10) (v := A + 8) (LN10.2.2 8 _ rfl).1 (by rw [LN10.1.1]; show A + 8 < A + 9; omega) ⟨by rw [LN10.1.1]; show A + 9 + 7 ≤ g.KC; omega, by rw [LN10.1.2.1]; show zsl M0 + 752 + 720 ≤ g.KS; omega⟩) wV_init aD_31 iV_init rfl (by omega) (Nat.le_of_ble_eq_true rfl) (dq dD_init 24 rfl) (fun M49 h49 => ?_)
  subst h49
  obtain ⟨RN11, LN11, eN11⟩ := lay_nf LN10 (k := 8) (by decide) lV
  subst eN11
  generalize znf N10 (A + 8) lV = N11 at LN11 ⊢
  refine zi_putr (LN11.2.2 0 _ rfl).1 fD_32 (fun _ => ⟨rfl, _, _, rfl⟩) (z_nar_r _ _) (dq dD_init 25 rfl) ?_
  have LN12 : Lay (zpr N11 A 7 (some (A + 8))) M0 A _ _ := lay_pr LN11 (k := 0) (j := 7) (x := 8) (by decide)
  generalize zpr N11 A 7 (some (A + 8)) = N12 at LN12 ⊢
  refine zi_aload_n 0 (dq dD_init 26 rfl) rfl ?_
  refine zi_new kV vV bD_29 nV gV ⟨by rw [LN12.1.1]; show A + 16 + 1 ≤ g.KC; omega, by rw [LN12.1.2.1]; show zsl M0 + 1472 + 9 ≤ g.KS; omega⟩ (dq dD_init 27 rfl) ?_
  have LN13 : Lay (znew N12 (.inl 7) 9) M0 A _ _ := lay_new LN12 (.inl 7) (n := 9) rfl
  rw [show zsz N12 = A + 16 from LN12.1.1]
  generalize znew N12 (.inl 7) 9 = N13 at LN13 ⊢
  refine zi_dup (dq dD_init 28 rfl) (by first | rfl | exact z_cr _) ?_
  refine zi_cI0 rfl (V_init (d := d) (M := N13) (v := A + 16) (LN13.2.2 16 _ rfl).1 (by rw [LN13.1.1]; show A + 16 < A + 17; omega) ⟨by rw [LN13.1.1]; show A + 17 + 7 ≤ g.KC; omega, by rw [LN13.1.2.1]; show zsl M0 + 1481 + 720 ≤ g.KS; omega⟩) wV_init aD_31 iV_init rfl (by omega) (Nat.le_of_ble_eq_true rfl) (dq dD_init 29 rfl) (fun M60 h60 => ?_)
  subst h60
  obtain ⟨RN14, LN14, eN14⟩ := lay_nf LN13 (k := 16) (by decide) lV
  subst eN14
  generalize znf N13 (A + 16) lV = N14 at LN14 ⊢
  refine zi_putr (LN14.2.2 0 _ rfl).1 fD_36 (fun _ => ⟨rfl, _, _, rfl⟩) (z_nar_r _ _) (dq dD_init 30 rfl) ?_
  have LN15 : Lay (zpr N14 A 8 (some (A + 16))) M0 A _ _ := lay_pr LN14 (k := 0) (j := 8) (x := 16) (by decide)
  generalize zpr N14 A 8 (some (A + 16)) = N15 at LN15 ⊢
  refine zi_aload_n 0 (dq dD_init 31 rfl) rfl ?_
  refine zi_new kO vO bD_39 nO gO ⟨by rw [LN15.1.1]; show A + 24 + 1 ≤ g.KC; omega, by rw [LN15.1.2.1]; show zsl M0 + 2201 + 4 ≤ g.KS; omega⟩ (dq dD_init 32 rfl) ?_
  have LN16 : Lay (znew N15 (.inl 2) 4) M0 A _ _ := lay_new LN15 (.inl 2) (n := 4) rfl
  rw [show zsz N15 = A + 24 from LN15.1.1]
  generalize znew N15 (.inl 2) 4 = N16 at LN16 ⊢
  refine zi_dup (dq dD_init 33 rfl) (by first | rfl | exact z_cr _) ?_
  refine zi_aload_n 0 (dq dD_init 34 rfl) rfl ?_
  refine zi_getR (LN16.2.2 0 _ rfl).1 fD_22 ((LN16.2.2 0 _ rfl).2.2.2 4) (dq dD_init 35 rfl) ?_
  refine zi_aload_n 0 (dq dD_init 36 rfl) rfl ?_
  refine zi_getR (LN16.2.2 0 _ rfl).1 fD_36 ((LN16.2.2 0 _ rfl).2.2.2 8) (dq dD_init 37 rfl) ?_
  refine zi_cI2 rfl (O_init (d := d) (M := N16) (v := A + 24) (x := some (A + 6)) (z := some (A + 16)) (LN16.2.2 24 _ rfl).1) wO_init aD_41 iO_init rfl (by omega) (Nat.le_of_ble_eq_true rfl) (dq dD_init 38 rfl) (fun M79 h79 => ?_)
  subst h79
  have LN17 : Lay (zpr (zpr N16 (A + 24) 0 (some (A + 6))) (A + 24) 1 (some (A + 16))) M0 A _ _ := lay_pr (lay_pr LN16 (k := 24) (j := 0) (x := 6) (by decide)) (k := 24) (j := 1) (x := 16) (by decide)
  generalize zpr (zpr N16 (A + 24) 0 (some (A + 6))) (A + 24) 1 (some (A + 16)) = N17 at LN17 ⊢
  refine zi_putr (LN17.2.2 0 _ rfl).1 fD_44 (fun _ => ⟨rfl, _, _, rfl⟩) (z_nar_r _ _) (dq dD_init 39 rfl) ?_
  have LN18 : Lay (zpr N17 A 9 (some (A + 24))) M0 A _ _ := lay_pr LN17 (k := 0) (j := 9) (x := 24) (by decide)
  generalize zpr N17 A 9 (some (A + 24)) = N18 at LN18 ⊢
  refine zi_aload_n 0 (dq dD_init 40 rfl) rfl ?_
  refine zi_new kP vP bD_48 nP gP ⟨by rw [LN18.1.1]; show A + 25 + 1 ≤ g.KC; omega, by rw [LN18.1.2.1]; show zsl M0 + 2205 + 4 ≤ g.KS; omega⟩ (dq dD_init 41 rfl) ?_
  have LN19 : Lay (znew N18 (.inl 3) 4) M0 A _ _ := lay_new LN18 (.inl 3) (n := 4) rfl
  rw [show zsz N18 = A + 25 from LN18.1.1]
  generalize znew N18 (.inl 3) 4 = N19 at LN19 ⊢
  refine zi_dup (dq dD_init 42 rfl) (by first | rfl | exact z_cr _) ?_
  refine zi_aload_n 0 (dq dD_init 43 rfl) rfl ?_
  refine zi_getR (LN19.2.2 0 _ rfl).1 fD_22 ((LN19.2.2 0 _ rfl).2.2.2 4) (dq dD_init 44 rfl) ?_
  refine zi_aload_n 0 (dq dD_init 45 rfl) rfl ?_
  refine zi_getR (LN19.2.2 0 _ rfl).1 fD_36 ((LN19.2.2 0 _ rfl).2.2.2 8) (dq dD_init 46 rfl) ?_
  refine zi_cI2 rfl (P_init (d := d) (M := N19) (v := A + 25) (x := some (A + 6)) (z := some (A + 16)) (LN19.2.2 25 _ rfl).1) wP_init aD_50 iP_init rfl (by omega) (Nat.le_of_ble_eq_true rfl) (dq dD_init 47 rfl) (fun M98 h98 => ?_)
  subst h98
  have LN20 : Lay (zpr (zpr N19 (A + 25) 0 (some (A + 6))) (A + 25) 1 (some (A + 16))) M0 A _ _ := lay_pr (lay_pr LN19 (k := 25) (j := 0) (x := 6) (by decide)) (k := 25) (j := 1) (x := 16) (by decide)
  generalize zpr (zpr N19 (A + 25) 0 (some (A + 6))) (A + 25) 1 (some (A + 16)) = N20 at LN20 ⊢
  refine zi_putr (LN20.2.2 0 _ rfl).1 fD_51 (fun _ => ⟨rfl, _, _, rfl⟩) (z_nar_r _ _) (dq dD_init 48 rfl) ?_
  have LN21 : Lay (zpr N20 A 10 (some (A + 25))) M0 A _ _ := lay_pr LN20 (k := 0) (j := 10) (x := 25) (by decide)
  generalize zpr N20 A 10 (some (A + 25)) = N21 at LN21 ⊢
  refine zi_aload_n 0 (dq dD_init 49 rfl) rfl ?_
  refine zi_new kS vS bD_55 nS gS ⟨by rw [LN21.1.1]; show A + 26 + 1 ≤ g.KC; omega, by rw [LN21.1.2.1]; show zsl M0 + 2209 + 5 ≤ g.KS; omega⟩ (dq dD_init 50 rfl) ?_
  have LN22 : Lay (znew N21 (.inl 5) 5) M0 A _ _ := lay_new LN21 (.inl 5) (n := 5) rfl
  rw [show zsz N21 = A + 26 from LN21.1.1]
  generalize znew N21 (.inl 5) 5 = N22 at LN22 ⊢
  refine zi_dup (dq dD_init 51 rfl) (by first | rfl | exact z_cr _) ?_
  refine zi_aload_n 0 (dq dD_init 52 rfl) rfl ?_
  refine zi_getR (LN22.2.2 0 _ rfl).1 fD_26 ((LN22.2.2 0 _ rfl).2.2.2 6) (dq dD_init 53 rfl) ?_
  refine zi_aload_n 0 (dq dD_init 54 rfl) rfl ?_
  refine zi_getR (LN22.2.2 0 _ rfl).1 fD_36 ((LN22.2.2 0 _ rfl).2.2.2 8) (dq dD_init 55 rfl) ?_
  refine zi_cI2 rfl (S_init (d := d) (M := N22) (v := A + 26) (x := some (A + 7)) (z := some (A + 16)) (LN22.2.2 26 _ rfl).1) wS_init aD_57 iS_init rfl (by omega) (Nat.le_of_ble_eq_true rfl) (dq dD_init 56 rfl) (fun M117 h117 => ?_)
  subst h117
  have LN23 : Lay (zpr (zpr N22 (A + 26) 0 (some (A + 7))) (A + 26) 1 (some (A + 16))) M0 A _ _ := lay_pr (lay_pr LN22 (k := 26) (j := 0) (x := 7) (by decide)) (k := 26) (j := 1) (x := 16) (by decide)
  generalize zpr (zpr N22 (A + 26) 0 (some (A + 7))) (A + 26) 1 (some (A + 16)) = N23 at LN23 ⊢
  refine zi_putr (LN23.2.2 0 _ rfl).1 fD_58 (fun _ => ⟨rfl, _, _, rfl⟩) (z_nar_r _ _) (dq dD_init 57 rfl) ?_
  have LN24 : Lay (zpr N23 A 11 (some (A + 26))) M0 A _ _ := lay_pr LN23 (k := 0) (j := 11) (x := 26) (by decide)
  generalize zpr N23 A 11 (some (A + 26)) = N24 at LN24 ⊢
  refine zi_aload_n 0 (dq dD_init 58 rfl) rfl ?_
  refine zi_new kQ vQ bD_62 nQ gQ ⟨by rw [LN24.1.1]; show A + 27 + 1 ≤ g.KC; omega, by rw [LN24.1.2.1]; show zsl M0 + 2214 + 5 ≤ g.KS; omega⟩ (dq dD_init 59 rfl) ?_
  have LN25 : Lay (znew N24 (.inl 4) 5) M0 A _ _ := lay_new LN24 (.inl 4) (n := 5) rfl
  rw [show zsz N24 = A + 27 from LN24.1.1]
  generalize znew N24 (.inl 4) 5 = N25 at LN25 ⊢
  refine zi_dup (dq dD_init 60 rfl) (by first | rfl | exact z_cr _) ?_
  refine zi_aload_n 0 (dq dD_init 61 rfl) rfl ?_
  refine zi_getR (LN25.2.2 0 _ rfl).1 fD_26 ((LN25.2.2 0 _ rfl).2.2.2 6) (dq dD_init 62 rfl) ?_
  refine zi_aload_n 0 (dq dD_init 63 rfl) rfl ?_
  refine zi_getR (LN25.2.2 0 _ rfl).1 fD_36 ((LN25.2.2 0 _ rfl).2.2.2 8) (dq dD_init 64 rfl) ?_
  refine zi_cI2 rfl (Q_init (d := d) (M := N25) (v := A + 27) (x := some (A + 7)) (z := some (A + 16)) (LN25.2.2 27 _ rfl).1) wQ_init aD_64 iQ_init rfl (by omega) (Nat.le_of_ble_eq_true rfl) (dq dD_init 65 rfl) (fun M136 h136 => ?_)
  subst h136
  have LN26 : Lay (zpr (zpr N25 (A + 27) 0 (some (A + 7))) (A + 27) 1 (some (A + 16))) M0 A _ _ := lay_pr (lay_pr LN25 (k := 27) (j := 0) (x := 7) (by decide)) (k := 27) (j := 1) (x := 16) (by decide)
  generalize zpr (zpr N25 (A + 27) 0 (some (A + 7))) (A + 27) 1 (some (A + 16)) = N26 at LN26 ⊢
  refine zi_putr (LN26.2.2 0 _ rfl).1 fD_65 (fun _ => ⟨rfl, _, _, rfl⟩) (z_nar_r _ _) (dq dD_init 66 rfl) ?_
  have LN27 : Lay (zpr N26 A 12 (some (A + 27))) M0 A _ _ := lay_pr LN26 (k := 0) (j := 12) (x := 27) (by decide)
  generalize zpr N26 A 12 (some (A + 27)) = N27 at LN27 ⊢
  refine zi_aload_n 0 (dq dD_init 67 rfl) rfl ?_
  refine zi_bipush (v := 8) (dq dD_init 68 rfl) (by decide) ?_
  refine zi_newq (t := 4) (N := 8) bD_69 (by decide) rfl (by first | rfl | decide) (by decide) ⟨by rw [LN27.1.1]; show A + 28 + 1 ≤ g.KC; omega, by rw [LN27.1.2.1]; show zsl M0 + 2219 + 8 ≤ g.KS; omega⟩ (dq dD_init 69 rfl) ?_
  have LN28 : Lay (znew N27 (.inr (4, 8)) 8) M0 A _ _ := lay_new LN27 (.inr (4, 8)) (n := 8) rfl
  rw [show zsz N27 = A + 28 from LN27.1.1]
  generalize znew N27 (.inr (4, 8)) 8 = N28 at LN28 ⊢
  refine zi_putr (LN28.2.2 0 _ rfl).1 fD_71 (fun _ => ⟨rfl, _, _, rfl⟩) (z_nar_a _ _) (dq dD_init 70 rfl) ?_
  have LN29 : Lay (zpr N28 A 13 (some (A + 28))) M0 A _ _ := lay_pr LN28 (k := 0) (j := 13) (x := 28) (by decide)
  generalize zpr N28 A 13 (some (A + 28)) = N29 at LN29 ⊢
  refine zi_aload_n 0 (dq dD_init 71 rfl) rfl ?_
  refine zi_bipush (v := 8) (dq dD_init 72 rfl) (by decide) ?_
  refine zi_newa (t := 0) (N := 8) r_int rfl rfl (by simp) (by first | rfl | decide) (by decide) ⟨by rw [LN29.1.1]; show A + 29 + 1 ≤ g.KC; omega, by rw [LN29.1.2.1]; show zsl M0 + 2227 + 8 ≤ g.KS; omega⟩ (dq dD_init 73 rfl) ?_
  have LN30 : Lay (znew N29 (.inr (0, 8)) 8) M0 A _ _ := lay_new LN29 (.inr (0, 8)) (n := 8) rfl
  rw [show zsz N29 = A + 29 from LN29.1.1]
  generalize znew N29 (.inr (0, 8)) 8 = N30 at LN30 ⊢
  refine zi_putr (LN30.2.2 0 _ rfl).1 fD_75 (fun _ => ⟨rfl, _, _, rfl⟩) (z_nar_a _ _) (dq dD_init 74 rfl) ?_
  have LN31 : Lay (zpr N30 A 14 (some (A + 29))) M0 A _ _ := lay_pr LN30 (k := 0) (j := 14) (x := 29) (by decide)
  generalize zpr N30 A 14 (some (A + 29)) = N31 at LN31 ⊢
  refine zi_aload_n 0 (dq dD_init 75 rfl) rfl ?_
  refine zi_bipush (v := 8) (dq dD_init 76 rfl) (by decide) ?_
  refine zi_newa (t := 0) (N := 8) r_int rfl rfl (by simp) (by first | rfl | decide) (by decide) ⟨by rw [LN31.1.1]; show A + 30 + 1 ≤ g.KC; omega, by rw [LN31.1.2.1]; show zsl M0 + 2235 + 8 ≤ g.KS; omega⟩ (dq dD_init 77 rfl) ?_
  have LN32 : Lay (znew N31 (.inr (0, 8)) 8) M0 A _ _ := lay_new LN31 (.inr (0, 8)) (n := 8) rfl
  rw [show zsz N31 = A + 30 from LN31.1.1]
  generalize znew N31 (.inr (0, 8)) 8 = N32 at LN32 ⊢
  refine zi_putr (LN32.2.2 0 _ rfl).1 fD_78 (fun _ => ⟨rfl, _, _, rfl⟩) (z_nar_a _ _) (dq dD_init 78 rfl) ?_
  have LN33 : Lay (zpr N32 A 15 (some (A + 30))) M0 A _ _ := lay_pr LN32 (k := 0) (j := 15) (x := 30) (by decide)
  generalize zpr N32 A 15 (some (A + 30)) = N33 at LN33 ⊢
  refine zi_aload_n 0 (dq dD_init 79 rfl) rfl ?_
  refine zi_iconst (v := 4) (dq dD_init 80 rfl) (by decide) ?_
  refine zi_newa (t := 2) (N := 4) r_long rfl rfl (by simp) (by first | rfl | decide) (by decide) ⟨by rw [LN33.1.1]; show A + 31 + 1 ≤ g.KC; omega, by rw [LN33.1.2.1]; show zsl M0 + 2243 + 4 ≤ g.KS; omega⟩ (dq dD_init 81 rfl) ?_
  have LN34 : Lay (znew N33 (.inr (2, 4)) 4) M0 A _ _ := lay_new LN33 (.inr (2, 4)) (n := 4) rfl
  rw [show zsz N33 = A + 31 from LN33.1.1]
  generalize znew N33 (.inr (2, 4)) 4 = N34 at LN34 ⊢
  refine zi_putr (LN34.2.2 0 _ rfl).1 fD_81 (fun _ => ⟨rfl, _, _, rfl⟩) (z_nar_a _ _) (dq dD_init 82 rfl) ?_
  have LN35 : Lay (zpr N34 A 16 (some (A + 31))) M0 A _ _ := lay_pr LN34 (k := 0) (j := 16) (x := 31) (by decide)
  generalize zpr N34 A 16 (some (A + 31)) = N35 at LN35 ⊢
  exact zi_return rfl (dq dD_init 83 rfl) ⟨rfl, LN35⟩
