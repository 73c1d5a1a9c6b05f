/-! CONSTRUCTORS -/
theorem znf_snoc (M : zM) (v k t n : Nat) (L : List (Nat × Nat × Nat)) : zpr (znew (znf M v L) (.inr (t, n)) n) v k (some (zsz (znf M v L))) = znf M v (L ++ [(k, t, n)]) := by
  rw [znf_app]
  rfl
theorem znf_sh {M : zM} {v : Nat} {x : Nat ⊕ Nat × Nat} (s0 : zsh M v = some x) (hne : v < zsz M) {sh : Nat ⊕ Nat × Nat} {n : Nat} {L : List (Nat × Nat × Nat)} : zsh (znew (znf M v L) sh n) v = some x := by
  have := znf_sz M v L
  rw [zsh_nw, if_neg (by omega), (znf_old M v L hne).1]
  exact s0
theorem znf_room {g : zg} {M : zM} {v n m t : Nat} {L : List (Nat × Nat × Nat)} (hr : zsz M + n ≤ g.KC ∧ zsl M + m ≤ g.KS) (h : L.length + 1 ≤ n ∧ (L.map (fun q => q.2.2)).sum + t ≤ m) : zsz (znf M v L) + 1 ≤ g.KC ∧ zsl (znf M v L) + t ≤ g.KS := by
  have h1 := znf_sz M v L
  have h2 := znf_sl M v L
  obtain ⟨a, b⟩ := hr
  obtain ⟨c, e⟩ := h
  exact ⟨by omega, by omega⟩
theorem K_init {g : zg} {d : Nat} {M : zM} {v : Nat} : zEv g (d + 1) mK_init [va_rf (some v)] M (fun M1 => M1 = M) := by
  refine zEv_of (lv := [(0, va_rf (some v))]) ⟨by decide +kernel, by decide, by decide +kernel⟩ (by simp [z_cr, z_ci]) (Nat.le_of_ble_eq_true rfl) rfl ?_
  refine zi_aload_n 0 (dq dK_init 0 rfl) rfl ?_
  refine zi_objInit aK_3 i_obj w_obj (by omega) (Nat.le_of_ble_eq_true rfl) (dq dK_init 1 rfl) ?_
  exact zi_return rfl (dq dK_init 2 rfl) ⟨rfl, rfl⟩
theorem T_init {g : zg} {d : Nat} {M : zM} {v : Nat} : zEv g (d + 1) mT_init [va_rf (some v)] M (fun M1 => M1 = M) := by
  refine zEv_of (lv := [(0, va_rf (some v))]) ⟨by decide +kernel, by decide, by decide +kernel⟩ (by simp [z_cr, z_ci]) (Nat.le_of_ble_eq_true rfl) rfl ?_
  refine zi_aload_n 0 (dq dT_init 0 rfl) rfl ?_
  refine zi_objInit aT_3 i_obj w_obj (by omega) (Nat.le_of_ble_eq_true rfl) (dq dT_init 1 rfl) ?_
  exact zi_return rfl (dq dT_init 2 rfl) ⟨rfl, rfl⟩
def lV : List (Nat × Nat × Nat) := [(1, 0, 100), (2, 0, 100), (3, 0, 100), (4, 0, 100), (5, 0, 100), (6, 0, 100), (7, 0, 120)]
theorem V_init {g : zg} {d : Nat} {M : zM} {v : Nat} (s0 : zsh M v = some (.inl 7)) (hne : v < zsz M) (hr : zsz M + 7 ≤ g.KC ∧ zsl M + 720 ≤ g.KS) : zEv g (d + 1) mV_init [va_rf (some v)] M (fun M1 => M1 = znf M v lV) := by
  refine zEv_of (lv := [(0, va_rf (some v))]) ⟨by decide +kernel, by decide, by decide +kernel⟩ (by simp [z_cr, z_ci]) (Nat.le_of_ble_eq_true rfl) rfl ?_
  refine zi_aload_n 0 (dq dV_init 0 rfl) rfl ?_
  refine zi_objInit aV_3 i_obj w_obj (by omega) (Nat.le_of_ble_eq_true rfl) (dq dV_init 1 rfl) ?_
  show zG g (d + 1) mV_init _ (znf M v []) _ _ _
  refine zi_aload_n 0 (dq dV_init 2 rfl) rfl ?_
  refine zi_bipush (v := 100) (dq dV_init 3 rfl) (by decide) ?_
  refine zi_newa (t := 0) (N := 100) r_int rfl rfl (by simp) (by first | rfl | decide) (by decide) (znf_room hr (by decide)) (dq dV_init 4 rfl) ?_
  refine zi_putr (znf_sh s0 hne) fV_9 (fun _ => ⟨rfl, _, _, rfl⟩) (z_nar_a _ _) (dq dV_init 5 rfl) ?_
  rw [znf_snoc]
  refine zi_aload_n 0 (dq dV_init 6 rfl) rfl ?_
  refine zi_bipush (v := 100) (dq dV_init 7 rfl) (by decide) ?_
  refine zi_newa (t := 0) (N := 100) r_int rfl rfl (by simp) (by first | rfl | decide) (by decide) (znf_room hr (by decide)) (dq dV_init 8 rfl) ?_
  refine zi_putr (znf_sh s0 hne) fV_15 (fun _ => ⟨rfl, _, _, rfl⟩) (z_nar_a _ _) (dq dV_init 9 rfl) ?_
  rw [znf_snoc]
  refine zi_aload_n 0 (dq dV_init 10 rfl) rfl ?_
  refine zi_bipush (v := 100) (dq dV_init 11 rfl) (by decide) ?_
  refine zi_newa (t := 0) (N := 100) r_int rfl rfl (by simp) (by first | rfl | decide) (by decide) (znf_room hr (by decide)) (dq dV_init 12 rfl) ?_
  refine zi_putr (znf_sh s0 hne) fV_18 (fun _ => ⟨rfl, _, _, rfl⟩) (z_nar_a _ _) (dq dV_init 13 rfl) ?_
  rw [znf_snoc]
  refine zi_aload_n 0 (dq dV_init 14 rfl) rfl ?_
  refine zi_bipush (v := 100) (dq dV_init 15 rfl) (by decide) ?_
  refine zi_newa (t := 0) (N := 100) r_int rfl rfl (by simp) (by first | rfl | decide) (by decide) (znf_room hr (by decide)) (dq dV_init 16 rfl) ?_
  refine zi_putr (znf_sh s0 hne) fV_21 (fun _ => ⟨rfl, _, _, rfl⟩) (z_nar_a _ _) (dq dV_init 17 rfl) ?_
  rw [znf_snoc]
  refine zi_aload_n 0 (dq dV_init 18 rfl) rfl ?_
  refine zi_bipush (v := 100) (dq dV_init 19 rfl) (by decide) ?_
  refine zi_newa (t := 0) (N := 100) r_int rfl rfl (by simp) (by first | rfl | decide) (by decide) (znf_room hr (by decide)) (dq dV_init 20 rfl) ?_
  refine zi_putr (znf_sh s0 hne) fV_24 (fun _ => ⟨rfl, _, _, rfl⟩) (z_nar_a _ _) (dq dV_init 21 rfl) ?_
  rw [znf_snoc]
  refine zi_aload_n 0 (dq dV_init 22 rfl) rfl ?_
  refine zi_bipush (v := 100) (dq dV_init 23 rfl) (by decide) ?_
  refine zi_newa (t := 0) (N := 100) r_int rfl rfl (by simp) (by first | rfl | decide) (by decide) (znf_room hr (by decide)) (dq dV_init 24 rfl) ?_
  refine zi_putr (znf_sh s0 hne) fV_27 (fun _ => ⟨rfl, _, _, rfl⟩) (z_nar_a _ _) (dq dV_init 25 rfl) ?_
  rw [znf_snoc]
  refine zi_aload_n 0 (dq dV_init 26 rfl) rfl ?_
  refine zi_bipush (v := 120) (dq dV_init 27 rfl) (by decide) ?_
  refine zi_newa (t := 0) (N := 120) r_int rfl rfl (by simp) (by first | rfl | decide) (by decide) (znf_room hr (by decide)) (dq dV_init 28 rfl) ?_
  refine zi_putr (znf_sh s0 hne) fV_30 (fun _ => ⟨rfl, _, _, rfl⟩) (z_nar_a _ _) (dq dV_init 29 rfl) ?_
  rw [znf_snoc]
  exact zi_return rfl (dq dV_init 30 rfl) ⟨rfl, rfl⟩
theorem O_init {g : zg} {d : Nat} {M : zM} {v : Nat} {x z : Option Nat} (s0 : zsh M v = some (.inl 2)) : zEv g (d + 1) mO_init [va_rf (some v), va_rf x, va_rf z] M (fun M1 => M1 = zpr (zpr M v 0 x) v 1 z) := by
  refine zEv_of (lv := [(0, va_rf (some v)), (1, va_rf x), (2, va_rf z)]) ⟨by decide +kernel, by decide, by decide +kernel⟩ (by simp [z_cr, z_ci]) (Nat.le_of_ble_eq_true rfl) rfl ?_
  refine zi_aload_n 0 (dq dO_init 0 rfl) rfl ?_
  refine zi_objInit aO_3 i_obj w_obj (by omega) (Nat.le_of_ble_eq_true rfl) (dq dO_init 1 rfl) ?_
  refine zi_aload_n 0 (dq dO_init 2 rfl) rfl ?_
  refine zi_aload_n 1 (dq dO_init 3 rfl) rfl ?_
  refine zi_putr (by first | exact s0) fO_9 (fun _ => ⟨rfl, _, _, rfl⟩) (z_nar_a _ _) (dq dO_init 4 rfl) ?_
  refine zi_aload_n 0 (dq dO_init 5 rfl) rfl ?_
  refine zi_aload_n 2 (dq dO_init 6 rfl) rfl ?_
  refine zi_putr (by first | exact s0) fO_15 (fun _ => ⟨rfl, _, _, rfl⟩) (z_nar_r _ _) (dq dO_init 7 rfl) ?_
  exact zi_return rfl (dq dO_init 8 rfl) ⟨rfl, rfl⟩
theorem P_init {g : zg} {d : Nat} {M : zM} {v : Nat} {x z : Option Nat} (s0 : zsh M v = some (.inl 3)) : zEv g (d + 1) mP_init [va_rf (some v), va_rf x, va_rf z] M (fun M1 => M1 = zpr (zpr M v 0 x) v 1 z) := by
  refine zEv_of (lv := [(0, va_rf (some v)), (1, va_rf x), (2, va_rf z)]) ⟨by decide +kernel, by decide, by decide +kernel⟩ (by simp [z_cr, z_ci]) (Nat.le_of_ble_eq_true rfl) rfl ?_
  refine zi_aload_n 0 (dq dP_init 0 rfl) rfl ?_
  refine zi_objInit aP_3 i_obj w_obj (by omega) (Nat.le_of_ble_eq_true rfl) (dq dP_init 1 rfl) ?_
  refine zi_aload_n 0 (dq dP_init 2 rfl) rfl ?_
  refine zi_aload_n 1 (dq dP_init 3 rfl) rfl ?_
  refine zi_putr (by first | exact s0) fP_9 (fun _ => ⟨rfl, _, _, rfl⟩) (z_nar_a _ _) (dq dP_init 4 rfl) ?_
  refine zi_aload_n 0 (dq dP_init 5 rfl) rfl ?_
  refine zi_aload_n 2 (dq dP_init 6 rfl) rfl ?_
  refine zi_putr (by first | exact s0) fP_15 (fun _ => ⟨rfl, _, _, rfl⟩) (z_nar_r _ _) (dq dP_init 7 rfl) ?_
  exact zi_return rfl (dq dP_init 8 rfl) ⟨rfl, rfl⟩
theorem Q_init {g : zg} {d : Nat} {M : zM} {v : Nat} {x z : Option Nat} (s0 : zsh M v = some (.inl 4)) : zEv g (d + 1) mQ_init [va_rf (some v), va_rf x, va_rf z] M (fun M1 => M1 = zpr (zpr M v 0 x) v 1 z) := by
  refine zEv_of (lv := [(0, va_rf (some v)), (1, va_rf x), (2, va_rf z)]) ⟨by decide +kernel, by decide, by decide +kernel⟩ (by simp [z_cr, z_ci]) (Nat.le_of_ble_eq_true rfl) rfl ?_
  refine zi_aload_n 0 (dq dQ_init 0 rfl) rfl ?_
  refine zi_objInit aQ_3 i_obj w_obj (by omega) (Nat.le_of_ble_eq_true rfl) (dq dQ_init 1 rfl) ?_
  refine zi_aload_n 0 (dq dQ_init 2 rfl) rfl ?_
  refine zi_aload_n 1 (dq dQ_init 3 rfl) rfl ?_
  refine zi_putr (by first | exact s0) fQ_9 (fun _ => ⟨rfl, _, _, rfl⟩) (z_nar_a _ _) (dq dQ_init 4 rfl) ?_
  refine zi_aload_n 0 (dq dQ_init 5 rfl) rfl ?_
  refine zi_aload_n 2 (dq dQ_init 6 rfl) rfl ?_
  refine zi_putr (by first | exact s0) fQ_15 (fun _ => ⟨rfl, _, _, rfl⟩) (z_nar_r _ _) (dq dQ_init 7 rfl) ?_
  exact zi_return rfl (dq dQ_init 8 rfl) ⟨rfl, rfl⟩
theorem S_init {g : zg} {d : Nat} {M : zM} {v : Nat} {x z : Option Nat} (s0 : zsh M v = some (.inl 5)) : zEv g (d + 1) mS_init [va_rf (some v), va_rf x, va_rf z] M (fun M1 => M1 = zpr (zpr M v 0 x) v 1 z) := by
  refine zEv_of (lv := [(0, va_rf (some v)), (1, va_rf x), (2, va_rf z)]) ⟨by decide +kernel, by decide, by decide +kernel⟩ (by simp [z_cr, z_ci]) (Nat.le_of_ble_eq_true rfl) rfl ?_
  refine zi_aload_n 0 (dq dS_init 0 rfl) rfl ?_
  refine zi_objInit aS_3 i_obj w_obj (by omega) (Nat.le_of_ble_eq_true rfl) (dq dS_init 1 rfl) ?_
  refine zi_aload_n 0 (dq dS_init 2 rfl) rfl ?_
  refine zi_aload_n 1 (dq dS_init 3 rfl) rfl ?_
  refine zi_putr (by first | exact s0) fS_9 (fun _ => ⟨rfl, _, _, rfl⟩) (z_nar_a _ _) (dq dS_init 4 rfl) ?_
  refine zi_aload_n 0 (dq dS_init 5 rfl) rfl ?_
  refine zi_aload_n 2 (dq dS_init 6 rfl) rfl ?_
  refine zi_putr (by first | exact s0) fS_15 (fun _ => ⟨rfl, _, _, rfl⟩) (z_nar_r _ _) (dq dS_init 7 rfl) ?_
  exact zi_return rfl (dq dS_init 8 rfl) ⟨rfl, rfl⟩
def lC : List (Nat × Nat × Nat) := [(1, 4, 26), (2, 4, 150), (3, 5, 150)]
theorem C_init {g : zg} {d : Nat} {M : zM} {v : Nat} {x : Option Nat} (s0 : zsh M v = some (.inl 0)) (hne : v < zsz M) (hr : zsz M + 3 ≤ g.KC ∧ zsl M + 326 ≤ g.KS) : zEv g (d + 1) mC_init [va_rf (some v), va_rf x] M (fun M1 => M1 = znf (zpr M v 0 x) v lC) := by
  refine zEv_of (lv := [(0, va_rf (some v)), (1, va_rf x)]) ⟨by decide +kernel, by decide, by decide +kernel⟩ (by simp [z_cr, z_ci]) (Nat.le_of_ble_eq_true rfl) rfl ?_
  refine zi_aload_n 0 (dq dC_init 0 rfl) rfl ?_
  refine zi_objInit aC_3 i_obj w_obj (by omega) (Nat.le_of_ble_eq_true rfl) (dq dC_init 1 rfl) ?_
  refine zi_aload_n 0 (dq dC_init 2 rfl) rfl ?_
  refine zi_aload_n 1 (dq dC_init 3 rfl) rfl ?_
  refine zi_putr (by first | exact s0) fC_9 (fun _ => ⟨rfl, _, _, rfl⟩) (z_nar_a _ _) (dq dC_init 4 rfl) ?_
  show zG g (d + 1) mC_init _ (znf (zpr M v 0 x) v []) _ _ _
  refine zi_aload_n 0 (dq dC_init 5 rfl) rfl ?_
  refine zi_bipush (v := 26) (dq dC_init 6 rfl) (by decide) ?_
  refine zi_newq (t := 4) (N := 26) bC_15 (by decide) rfl (by first | rfl | decide) (by decide) (znf_room (M := zpr M v 0 x) hr (by decide)) (dq dC_init 7 rfl) ?_
  refine zi_putr (znf_sh (M := zpr M v 0 x) s0 hne) fC_17 (fun _ => ⟨rfl, _, _, rfl⟩) (z_nar_a _ _) (dq dC_init 8 rfl) ?_
  rw [znf_snoc]
  refine zi_aload_n 0 (dq dC_init 9 rfl) rfl ?_
  refine zi_sipush (v := 150) (dq dC_init 10 rfl) (by decide) ?_
  refine zi_newq (t := 4) (N := 150) bC_15 (by decide) rfl (by first | rfl | decide) (by decide) (znf_room (M := zpr M v 0 x) hr (by decide)) (dq dC_init 11 rfl) ?_
  refine zi_putr (znf_sh (M := zpr M v 0 x) s0 hne) fC_21 (fun _ => ⟨rfl, _, _, rfl⟩) (z_nar_a _ _) (dq dC_init 12 rfl) ?_
  rw [znf_snoc]
  refine zi_aload_n 0 (dq dC_init 13 rfl) rfl ?_
  refine zi_sipush (v := 150) (dq dC_init 14 rfl) (by decide) ?_
  refine zi_newq (t := 5) (N := 150) bC_24 (by decide) rfl (by first | rfl | decide) (by decide) (znf_room (M := zpr M v 0 x) hr (by decide)) (dq dC_init 15 rfl) ?_
  refine zi_putr (znf_sh (M := zpr M v 0 x) s0 hne) fC_26 (fun _ => ⟨rfl, _, _, rfl⟩) (z_nar_a _ _) (dq dC_init 16 rfl) ?_
  rw [znf_snoc]
  exact zi_return rfl (dq dC_init 17 rfl) ⟨rfl, rfl⟩
def lM : List (Nat × Nat × Nat) := [(7, 1, 150), (8, 0, 150), (9, 0, 26), (11, 0, 160), (12, 0, 160), (13, 0, 160), (14, 0, 160), (15, 0, 160), (16, 0, 160), (17, 0, 160), (18, 3, 160), (19, 3, 160), (20, 0, 960), (21, 0, 960), (22, 0, 960), (25, 0, 16), (26, 0, 150), (31, 0, 120), (32, 0, 120), (33, 0, 4000), (36, 0, 100), (37, 0, 100), (38, 0, 100), (39, 0, 100), (40, 0, 100), (41, 0, 100), (42, 0, 101), (43, 0, 240), (45, 0, 500), (46, 0, 240), (50, 0, 160), (51, 0, 160), (52, 0, 160), (53, 0, 160), (54, 3, 160), (55, 0, 8), (56, 0, 8), (57, 0, 8), (58, 3, 256)]
theorem lM_nd : (lM.map (fun q => q.1)).Nodup := by decide
theorem M_init {g : zg} {d : Nat} {M : zM} {v : Nat} (s0 : zsh M v = some (.inl 9)) (hne : v < zsz M) (hr : zsz M + 39 ≤ g.KC ∧ zsl M + 11813 ≤ g.KS) : zEv g (d + 2) mM_init [va_rf (some v)] M (fun M1 => M1 = mLv (znf M v lM) v (zsz M + 35) (zsz M + 38)) := by
  refine zEv_of (lv := [(0, va_rf (some v))]) ⟨by decide +kernel, by decide, by decide +kernel⟩ (by simp [z_cr, z_ci]) (Nat.le_of_ble_eq_true rfl) rfl ?_
  refine zi_aload_n 0 (dq dM_init 0 rfl) rfl ?_
  refine zi_objInit aM_1 i_obj w_obj (by omega) (Nat.le_of_ble_eq_true rfl) (dq dM_init 1 rfl) ?_
  show zG g (d + 2) mM_init _ (znf M v []) _ _ _
  refine zi_aload_n 0 (dq dM_init 2 rfl) rfl ?_
  refine zi_sipush (v := 150) (dq dM_init 3 rfl) (by decide) ?_
  refine zi_newa (t := 1) (N := 150) r_char rfl rfl (by simp) (by first | rfl | decide) (by decide) (znf_room hr (by decide)) (dq dM_init 4 rfl) ?_
  refine zi_putr (znf_sh s0 hne) fM_7 (fun _ => ⟨rfl, _, _, rfl⟩) (z_nar_a _ _) (dq dM_init 5 rfl) ?_
  rw [znf_snoc]
  refine zi_aload_n 0 (dq dM_init 6 rfl) rfl ?_
  refine zi_sipush (v := 150) (dq dM_init 7 rfl) (by decide) ?_
  refine zi_newa (t := 0) (N := 150) r_int rfl rfl (by simp) (by first | rfl | decide) (by decide) (znf_room hr (by decide)) (dq dM_init 8 rfl) ?_
  refine zi_putr (znf_sh s0 hne) fM_13 (fun _ => ⟨rfl, _, _, rfl⟩) (z_nar_a _ _) (dq dM_init 9 rfl) ?_
  rw [znf_snoc]
  refine zi_aload_n 0 (dq dM_init 10 rfl) rfl ?_
  refine zi_bipush (v := 26) (dq dM_init 11 rfl) (by decide) ?_
  refine zi_newa (t := 0) (N := 26) r_int rfl rfl (by simp) (by first | rfl | decide) (by decide) (znf_room hr (by decide)) (dq dM_init 12 rfl) ?_
  refine zi_putr (znf_sh s0 hne) fM_17 (fun _ => ⟨rfl, _, _, rfl⟩) (z_nar_a _ _) (dq dM_init 13 rfl) ?_
  rw [znf_snoc]
  refine zi_aload_n 0 (dq dM_init 14 rfl) rfl ?_
  refine zi_sipush (v := 160) (dq dM_init 15 rfl) (by decide) ?_
  refine zi_newa (t := 0) (N := 160) r_int rfl rfl (by simp) (by first | rfl | decide) (by decide) (znf_room hr (by decide)) (dq dM_init 16 rfl) ?_
  refine zi_putr (znf_sh s0 hne) fM_20 (fun _ => ⟨rfl, _, _, rfl⟩) (z_nar_a _ _) (dq dM_init 17 rfl) ?_
  rw [znf_snoc]
  refine zi_aload_n 0 (dq dM_init 18 rfl) rfl ?_
  refine zi_sipush (v := 160) (dq dM_init 19 rfl) (by decide) ?_
  refine zi_newa (t := 0) (N := 160) r_int rfl rfl (by simp) (by first | rfl | decide) (by decide) (znf_room hr (by decide)) (dq dM_init 20 rfl) ?_
  refine zi_putr (znf_sh s0 hne) fM_23 (fun _ => ⟨rfl, _, _, rfl⟩) (z_nar_a _ _) (dq dM_init 21 rfl) ?_
  rw [znf_snoc]
  refine zi_aload_n 0 (dq dM_init 22 rfl) rfl ?_
  refine zi_sipush (v := 160) (dq dM_init 23 rfl) (by decide) ?_
  refine zi_newa (t := 0) (N := 160) r_int rfl rfl (by simp) (by first | rfl | decide) (by decide) (znf_room hr (by decide)) (dq dM_init 24 rfl) ?_
  refine zi_putr (znf_sh s0 hne) fM_26 (fun _ => ⟨rfl, _, _, rfl⟩) (z_nar_a _ _) (dq dM_init 25 rfl) ?_
  rw [znf_snoc]
  refine zi_aload_n 0 (dq dM_init 26 rfl) rfl ?_
  refine zi_sipush (v := 160) (dq dM_init 27 rfl) (by decide) ?_
  refine zi_newa (t := 0) (N := 160) r_int rfl rfl (by simp) (by first | rfl | decide) (by decide) (znf_room hr (by decide)) (dq dM_init 28 rfl) ?_
  refine zi_putr (znf_sh s0 hne) fM_29 (fun _ => ⟨rfl, _, _, rfl⟩) (z_nar_a _ _) (dq dM_init 29 rfl) ?_
  rw [znf_snoc]
  refine zi_aload_n 0 (dq dM_init 30 rfl) rfl ?_
  refine zi_sipush (v := 160) (dq dM_init 31 rfl) (by decide) ?_
  refine zi_newa (t := 0) (N := 160) r_int rfl rfl (by simp) (by first | rfl | decide) (by decide) (znf_room hr (by decide)) (dq dM_init 32 rfl) ?_
  refine zi_putr (znf_sh s0 hne) fM_32 (fun _ => ⟨rfl, _, _, rfl⟩) (z_nar_a _ _) (dq dM_init 33 rfl) ?_
  rw [znf_snoc]
  refine zi_aload_n 0 (dq dM_init 34 rfl) rfl ?_
  refine zi_sipush (v := 160) (dq dM_init 35 rfl) (by decide) ?_
  refine zi_newa (t := 0) (N := 160) r_int rfl rfl (by simp) (by first | rfl | decide) (by decide) (znf_room hr (by decide)) (dq dM_init 36 rfl) ?_
  refine zi_putr (znf_sh s0 hne) fM_35 (fun _ => ⟨rfl, _, _, rfl⟩) (z_nar_a _ _) (dq dM_init 37 rfl) ?_
  rw [znf_snoc]
  refine zi_aload_n 0 (dq dM_init 38 rfl) rfl ?_
  refine zi_sipush (v := 160) (dq dM_init 39 rfl) (by decide) ?_
  refine zi_newa (t := 0) (N := 160) r_int rfl rfl (by simp) (by first | rfl | decide) (by decide) (znf_room hr (by decide)) (dq dM_init 40 rfl) ?_
  refine zi_putr (znf_sh s0 hne) fM_38 (fun _ => ⟨rfl, _, _, rfl⟩) (z_nar_a _ _) (dq dM_init 41 rfl) ?_
  rw [znf_snoc]
  refine zi_aload_n 0 (dq dM_init 42 rfl) rfl ?_
  refine zi_sipush (v := 160) (dq dM_init 43 rfl) (by decide) ?_
  refine zi_newa (t := 3) (N := 160) r_boolean rfl rfl (by simp) (by first | rfl | decide) (by decide) (znf_room hr (by decide)) (dq dM_init 44 rfl) ?_
  refine zi_putr (znf_sh s0 hne) fM_41 (fun _ => ⟨rfl, _, _, rfl⟩) (z_nar_a _ _) (dq dM_init 45 rfl) ?_
  rw [znf_snoc]
  refine zi_aload_n 0 (dq dM_init 46 rfl) rfl ?_
  refine zi_sipush (v := 160) (dq dM_init 47 rfl) (by decide) ?_
  refine zi_newa (t := 3) (N := 160) r_boolean rfl rfl (by simp) (by first | rfl | decide) (by decide) (znf_room hr (by decide)) (dq dM_init 48 rfl) ?_
  refine zi_putr (znf_sh s0 hne) fM_45 (fun _ => ⟨rfl, _, _, rfl⟩) (z_nar_a _ _) (dq dM_init 49 rfl) ?_
  rw [znf_snoc]
  refine zi_aload_n 0 (dq dM_init 50 rfl) rfl ?_
  refine zi_sipush (v := 960) (dq dM_init 51 rfl) (by decide) ?_
  refine zi_newa (t := 0) (N := 960) r_int rfl rfl (by simp) (by first | rfl | decide) (by decide) (znf_room hr (by decide)) (dq dM_init 52 rfl) ?_
  refine zi_putr (znf_sh s0 hne) fM_48 (fun _ => ⟨rfl, _, _, rfl⟩) (z_nar_a _ _) (dq dM_init 53 rfl) ?_
  rw [znf_snoc]
  refine zi_aload_n 0 (dq dM_init 54 rfl) rfl ?_
  refine zi_sipush (v := 960) (dq dM_init 55 rfl) (by decide) ?_
  refine zi_newa (t := 0) (N := 960) r_int rfl rfl (by simp) (by first | rfl | decide) (by decide) (znf_room hr (by decide)) (dq dM_init 56 rfl) ?_
  refine zi_putr (znf_sh s0 hne) fM_51 (fun _ => ⟨rfl, _, _, rfl⟩) (z_nar_a _ _) (dq dM_init 57 rfl) ?_
  rw [znf_snoc]
  refine zi_aload_n 0 (dq dM_init 58 rfl) rfl ?_
  refine zi_sipush (v := 960) (dq dM_init 59 rfl) (by decide) ?_
  refine zi_newa (t := 0) (N := 960) r_int rfl rfl (by simp) (by first | rfl | decide) (by decide) (znf_room hr (by decide)) (dq dM_init 60 rfl) ?_
  refine zi_putr (znf_sh s0 hne) fM_54 (fun _ => ⟨rfl, _, _, rfl⟩) (z_nar_a _ _) (dq dM_init 61 rfl) ?_
  rw [znf_snoc]
  refine zi_aload_n 0 (dq dM_init 62 rfl) rfl ?_
  refine zi_bipush (v := 16) (dq dM_init 63 rfl) (by decide) ?_
  refine zi_newa (t := 0) (N := 16) r_int rfl rfl (by simp) (by first | rfl | decide) (by decide) (znf_room hr (by decide)) (dq dM_init 64 rfl) ?_
  refine zi_putr (znf_sh s0 hne) fM_57 (fun _ => ⟨rfl, _, _, rfl⟩) (z_nar_a _ _) (dq dM_init 65 rfl) ?_
  rw [znf_snoc]
  refine zi_aload_n 0 (dq dM_init 66 rfl) rfl ?_
  refine zi_sipush (v := 150) (dq dM_init 67 rfl) (by decide) ?_
  refine zi_newa (t := 0) (N := 150) r_int rfl rfl (by simp) (by first | rfl | decide) (by decide) (znf_room hr (by decide)) (dq dM_init 68 rfl) ?_
  refine zi_putr (znf_sh s0 hne) fM_60 (fun _ => ⟨rfl, _, _, rfl⟩) (z_nar_a _ _) (dq dM_init 69 rfl) ?_
  rw [znf_snoc]
  refine zi_aload_n 0 (dq dM_init 70 rfl) rfl ?_
  refine zi_bipush (v := 120) (dq dM_init 71 rfl) (by decide) ?_
  refine zi_newa (t := 0) (N := 120) r_int rfl rfl (by simp) (by first | rfl | decide) (by decide) (znf_room hr (by decide)) (dq dM_init 72 rfl) ?_
  refine zi_putr (znf_sh s0 hne) fM_63 (fun _ => ⟨rfl, _, _, rfl⟩) (z_nar_a _ _) (dq dM_init 73 rfl) ?_
  rw [znf_snoc]
  refine zi_aload_n 0 (dq dM_init 74 rfl) rfl ?_
  refine zi_bipush (v := 120) (dq dM_init 75 rfl) (by decide) ?_
  refine zi_newa (t := 0) (N := 120) r_int rfl rfl (by simp) (by first | rfl | decide) (by decide) (znf_room hr (by decide)) (dq dM_init 76 rfl) ?_
  refine zi_putr (znf_sh s0 hne) fM_66 (fun _ => ⟨rfl, _, _, rfl⟩) (z_nar_a _ _) (dq dM_init 77 rfl) ?_
  rw [znf_snoc]
  refine zi_aload_n 0 (dq dM_init 78 rfl) rfl ?_
  refine zi_sipush (v := 4000) (dq dM_init 79 rfl) (by decide) ?_
  refine zi_newa (t := 0) (N := 4000) r_int rfl rfl (by simp) (by first | rfl | decide) (by decide) (znf_room hr (by decide)) (dq dM_init 80 rfl) ?_
  refine zi_putr (znf_sh s0 hne) fM_69 (fun _ => ⟨rfl, _, _, rfl⟩) (z_nar_a _ _) (dq dM_init 81 rfl) ?_
  rw [znf_snoc]
  refine zi_aload_n 0 (dq dM_init 82 rfl) rfl ?_
  refine zi_bipush (v := 100) (dq dM_init 83 rfl) (by decide) ?_
  refine zi_newa (t := 0) (N := 100) r_int rfl rfl (by simp) (by first | rfl | decide) (by decide) (znf_room hr (by decide)) (dq dM_init 84 rfl) ?_
  refine zi_putr (znf_sh s0 hne) fM_72 (fun _ => ⟨rfl, _, _, rfl⟩) (z_nar_a _ _) (dq dM_init 85 rfl) ?_
  rw [znf_snoc]
  refine zi_aload_n 0 (dq dM_init 86 rfl) rfl ?_
  refine zi_bipush (v := 100) (dq dM_init 87 rfl) (by decide) ?_
  refine zi_newa (t := 0) (N := 100) r_int rfl rfl (by simp) (by first | rfl | decide) (by decide) (znf_room hr (by decide)) (dq dM_init 88 rfl) ?_
  refine zi_putr (znf_sh s0 hne) fM_75 (fun _ => ⟨rfl, _, _, rfl⟩) (z_nar_a _ _) (dq dM_init 89 rfl) ?_
  rw [znf_snoc]
  refine zi_aload_n 0 (dq dM_init 90 rfl) rfl ?_
  refine zi_bipush (v := 100) (dq dM_init 91 rfl) (by decide) ?_
  refine zi_newa (t := 0) (N := 100) r_int rfl rfl (by simp) (by first | rfl | decide) (by decide) (znf_room hr (by decide)) (dq dM_init 92 rfl) ?_
  refine zi_putr (znf_sh s0 hne) fM_78 (fun _ => ⟨rfl, _, _, rfl⟩) (z_nar_a _ _) (dq dM_init 93 rfl) ?_
  rw [znf_snoc]
  refine zi_aload_n 0 (dq dM_init 94 rfl) rfl ?_
  refine zi_bipush (v := 100) (dq dM_init 95 rfl) (by decide) ?_
  refine zi_newa (t := 0) (N := 100) r_int rfl rfl (by simp) (by first | rfl | decide) (by decide) (znf_room hr (by decide)) (dq dM_init 96 rfl) ?_
  refine zi_putr (znf_sh s0 hne) fM_81 (fun _ => ⟨rfl, _, _, rfl⟩) (z_nar_a _ _) (dq dM_init 97 rfl) ?_
  rw [znf_snoc]
  refine zi_aload_n 0 (dq dM_init 98 rfl) rfl ?_
  refine zi_bipush (v := 100) (dq dM_init 99 rfl) (by decide) ?_
  refine zi_newa (t := 0) (N := 100) r_int rfl rfl (by simp) (by first | rfl | decide) (by decide) (znf_room hr (by decide)) (dq dM_init 100 rfl) ?_
  refine zi_putr (znf_sh s0 hne) fM_84 (fun _ => ⟨rfl, _, _, rfl⟩) (z_nar_a _ _) (dq dM_init 101 rfl) ?_
  rw [znf_snoc]
  refine zi_aload_n 0 (dq dM_init 102 rfl) rfl ?_
  refine zi_bipush (v := 100) (dq dM_init 103 rfl) (by decide) ?_
  refine zi_newa (t := 0) (N := 100) r_int rfl rfl (by simp) (by first | rfl | decide) (by decide) (znf_room hr (by decide)) (dq dM_init 104 rfl) ?_
  refine zi_putr (znf_sh s0 hne) fM_87 (fun _ => ⟨rfl, _, _, rfl⟩) (z_nar_a _ _) (dq dM_init 105 rfl) ?_
  rw [znf_snoc]
  refine zi_aload_n 0 (dq dM_init 106 rfl) rfl ?_
  refine zi_bipush (v := 101) (dq dM_init 107 rfl) (by decide) ?_
  refine zi_newa (t := 0) (N := 101) r_int rfl rfl (by simp) (by first | rfl | decide) (by decide) (znf_room hr (by decide)) (dq dM_init 108 rfl) ?_
  refine zi_putr (znf_sh s0 hne) fM_90 (fun _ => ⟨rfl, _, _, rfl⟩) (z_nar_a _ _) (dq dM_init 109 rfl) ?_
  rw [znf_snoc]
  refine zi_aload_n 0 (dq dM_init 110 rfl) rfl ?_
  refine zi_sipush (v := 240) (dq dM_init 111 rfl) (by decide) ?_
  refine zi_newa (t := 0) (N := 240) r_int rfl rfl (by simp) (by first | rfl | decide) (by decide) (znf_room hr (by decide)) (dq dM_init 112 rfl) ?_
  refine zi_putr (znf_sh s0 hne) fM_93 (fun _ => ⟨rfl, _, _, rfl⟩) (z_nar_a _ _) (dq dM_init 113 rfl) ?_
  rw [znf_snoc]
  refine zi_aload_n 0 (dq dM_init 114 rfl) rfl ?_
  refine zi_sipush (v := 500) (dq dM_init 115 rfl) (by decide) ?_
  refine zi_newa (t := 0) (N := 500) r_int rfl rfl (by simp) (by first | rfl | decide) (by decide) (znf_room hr (by decide)) (dq dM_init 116 rfl) ?_
  refine zi_putr (znf_sh s0 hne) fM_96 (fun _ => ⟨rfl, _, _, rfl⟩) (z_nar_a _ _) (dq dM_init 117 rfl) ?_
  rw [znf_snoc]
  refine zi_aload_n 0 (dq dM_init 118 rfl) rfl ?_
  refine zi_sipush (v := 240) (dq dM_init 119 rfl) (by decide) ?_
  refine zi_newa (t := 0) (N := 240) r_int rfl rfl (by simp) (by first | rfl | decide) (by decide) (znf_room hr (by decide)) (dq dM_init 120 rfl) ?_
  refine zi_putr (znf_sh s0 hne) fM_99 (fun _ => ⟨rfl, _, _, rfl⟩) (z_nar_a _ _) (dq dM_init 121 rfl) ?_
  rw [znf_snoc]
  refine zi_aload_n 0 (dq dM_init 122 rfl) rfl ?_
  refine zi_sipush (v := 160) (dq dM_init 123 rfl) (by decide) ?_
  refine zi_newa (t := 0) (N := 160) r_int rfl rfl (by simp) (by first | rfl | decide) (by decide) (znf_room hr (by decide)) (dq dM_init 124 rfl) ?_
  refine zi_putr (znf_sh s0 hne) fM_102 (fun _ => ⟨rfl, _, _, rfl⟩) (z_nar_a _ _) (dq dM_init 125 rfl) ?_
  rw [znf_snoc]
  refine zi_aload_n 0 (dq dM_init 126 rfl) rfl ?_
  refine zi_sipush (v := 160) (dq dM_init 127 rfl) (by decide) ?_
  refine zi_newa (t := 0) (N := 160) r_int rfl rfl (by simp) (by first | rfl | decide) (by decide) (znf_room hr (by decide)) (dq dM_init 128 rfl) ?_
  refine zi_putr (znf_sh s0 hne) fM_105 (fun _ => ⟨rfl, _, _, rfl⟩) (z_nar_a _ _) (dq dM_init 129 rfl) ?_
  rw [znf_snoc]
  refine zi_aload_n 0 (dq dM_init 130 rfl) rfl ?_
  refine zi_sipush (v := 160) (dq dM_init 131 rfl) (by decide) ?_
  refine zi_newa (t := 0) (N := 160) r_int rfl rfl (by simp) (by first | rfl | decide) (by decide) (znf_room hr (by decide)) (dq dM_init 132 rfl) ?_
  refine zi_putr (znf_sh s0 hne) fM_108 (fun _ => ⟨rfl, _, _, rfl⟩) (z_nar_a _ _) (dq dM_init 133 rfl) ?_
  rw [znf_snoc]
  refine zi_aload_n 0 (dq dM_init 134 rfl) rfl ?_
  refine zi_sipush (v := 160) (dq dM_init 135 rfl) (by decide) ?_
  refine zi_newa (t := 0) (N := 160) r_int rfl rfl (by simp) (by first | rfl | decide) (by decide) (znf_room hr (by decide)) (dq dM_init 136 rfl) ?_
  refine zi_putr (znf_sh s0 hne) fM_111 (fun _ => ⟨rfl, _, _, rfl⟩) (z_nar_a _ _) (dq dM_init 137 rfl) ?_
  rw [znf_snoc]
  refine zi_aload_n 0 (dq dM_init 138 rfl) rfl ?_
  refine zi_sipush (v := 160) (dq dM_init 139 rfl) (by decide) ?_
  refine zi_newa (t := 3) (N := 160) r_boolean rfl rfl (by simp) (by first | rfl | decide) (by decide) (znf_room hr (by decide)) (dq dM_init 140 rfl) ?_
  refine zi_putr (znf_sh s0 hne) fM_114 (fun _ => ⟨rfl, _, _, rfl⟩) (z_nar_a _ _) (dq dM_init 141 rfl) ?_
  rw [znf_snoc]
  refine zi_aload_n 0 (dq dM_init 142 rfl) rfl ?_
  refine zi_bipush (v := 8) (dq dM_init 143 rfl) (by decide) ?_
  refine zi_newa (t := 0) (N := 8) r_int rfl rfl (by simp) (by first | rfl | decide) (by decide) (znf_room hr (by decide)) (dq dM_init 144 rfl) ?_
  refine zi_putr (znf_sh s0 hne) fM_117 (fun _ => ⟨rfl, _, _, rfl⟩) (z_nar_a _ _) (dq dM_init 145 rfl) ?_
  rw [znf_snoc]
  refine zi_aload_n 0 (dq dM_init 146 rfl) rfl ?_
  refine zi_bipush (v := 8) (dq dM_init 147 rfl) (by decide) ?_
  refine zi_newa (t := 0) (N := 8) r_int rfl rfl (by simp) (by first | rfl | decide) (by decide) (znf_room hr (by decide)) (dq dM_init 148 rfl) ?_
  refine zi_putr (znf_sh s0 hne) fM_120 (fun _ => ⟨rfl, _, _, rfl⟩) (z_nar_a _ _) (dq dM_init 149 rfl) ?_
  rw [znf_snoc]
  refine zi_aload_n 0 (dq dM_init 150 rfl) rfl ?_
  refine zi_bipush (v := 8) (dq dM_init 151 rfl) (by decide) ?_
  refine zi_newa (t := 0) (N := 8) r_int rfl rfl (by simp) (by first | rfl | decide) (by decide) (znf_room hr (by decide)) (dq dM_init 152 rfl) ?_
  refine zi_putr (znf_sh s0 hne) fM_123 (fun _ => ⟨rfl, _, _, rfl⟩) (z_nar_a _ _) (dq dM_init 153 rfl) ?_
  rw [znf_snoc]
  refine zi_aload_n 0 (dq dM_init 154 rfl) rfl ?_
  refine zi_sipush (v := 256) (dq dM_init 155 rfl) (by decide) ?_
  refine zi_newa (t := 3) (N := 256) r_boolean rfl rfl (by simp) (by first | rfl | decide) (by decide) (znf_room hr (by decide)) (dq dM_init 156 rfl) ?_
  refine zi_putr (znf_sh s0 hne) fM_126 (fun _ => ⟨rfl, _, _, rfl⟩) (z_nar_a _ _) (dq dM_init 157 rfl) ?_
  rw [znf_snoc]
  show zG g (d + 2) mM_init _ (znf M v lM) _ _ _
  refine zi_aload_n 0 (dq dM_init 158 rfl) rfl ?_
  refine zi_cVv0 (M_leave (d := d) (M := znf M v lM) (m := v) (ot := zsz M + 35) (sv := zsz M + 38) ((znf_old M v lM hne).1.trans s0) (znf_new M v lM hne lM_nd (i := 35) rfl).1 (znf_new M v lM hne lM_nd (i := 38) rfl).1 (znf_new M v lM hne lM_nd (i := 35) rfl).2.1 (znf_new M v lM hne lM_nd (i := 38) rfl).2.1) wM_leave aM_129 iM_leave sM_leave (by omega) ((znf_old M v lM hne).1.trans s0) rfl (Nat.le_of_ble_eq_true rfl) (dq dM_init 159 rfl) (fun M342 h342 => ?_)
  subst h342
  exact zi_return rfl (dq dM_init 160 rfl) ⟨rfl, rfl⟩
