/-! THE CLASS AS FUNCTIONS, 6 (tools/genZ.py) -/
def FT_init (N : Nat) (KC : Nat) (KS : Nat) (o : Nat) (M : zM) : Option (Unit × zM) :=
  some ((), M)
theorem ST_init {g : zg} {d N : Nat} {KC KS : Nat} {r : Unit} {M1 : zM} {M : zM} {o : Nat} (hz : zZ g KC KS) (hs0 : zsh M o = some (.inl 6)) (h : FT_init N KC KS o M = some (r, M1)) (hd : 1 ≤ d) : zEv g d mT_init [va_rf (some o)] (M) (fun Mq => Mq = M1) := by
  unfold FT_init at h
  refine zEu_q (r := r) (lv := [(0, va_rf (some o))]) ⟨by decide +kernel, by decide, by decide +kernel⟩ (by simp [z_cr, z_ci]) (Nat.le_of_ble_eq_true rfl) rfl ?_
  refine zi_aload_n 0 (dq dT_init 0 rfl) rfl ?_
  refine zi_objInit aT_3 i_obj w_obj (by omega) (Nat.le_of_ble_eq_true rfl) (dq dT_init 1 rfl) ?_
  exact zi_return rfl (dq dT_init 2 rfl) (q_ruZ h)
def FK_init (N : Nat) (KC : Nat) (KS : Nat) (o : Nat) (M : zM) : Option (Unit × zM) :=
  some ((), M)
theorem SK_init {g : zg} {d N : Nat} {KC KS : Nat} {r : Unit} {M1 : zM} {M : zM} {o : Nat} (hz : zZ g KC KS) (hs0 : zsh M o = some (.inl 1)) (h : FK_init N KC KS o M = some (r, M1)) (hd : 1 ≤ d) : zEv g d mK_init [va_rf (some o)] (M) (fun Mq => Mq = M1) := by
  unfold FK_init at h
  refine zEu_q (r := r) (lv := [(0, va_rf (some o))]) ⟨by decide +kernel, by decide, by decide +kernel⟩ (by simp [z_cr, z_ci]) (Nat.le_of_ble_eq_true rfl) rfl ?_
  refine zi_aload_n 0 (dq dK_init 0 rfl) rfl ?_
  refine zi_objInit aK_3 i_obj w_obj (by omega) (Nat.le_of_ble_eq_true rfl) (dq dK_init 1 rfl) ?_
  exact zi_return rfl (dq dK_init 2 rfl) (q_ruZ h)
def FK_begin (N : Nat) (KC : Nat) (KS : Nat) (o : Nat) (l1 : Option Nat) (M : zM) : Option (Unit × zM) :=
  let M1 := zpr M o 0 l1
  let M2 := zpi M1 o 1 0
  let M3 := zpi M2 o 2 0
  let M4 := zpi M3 o 3 0
  let M5 := zpi M4 o 4 0
  let M6 := zpr M5 o 5 none
  some ((), M6)
theorem SK_begin {g : zg} {d N : Nat} {KC KS : Nat} {r : Unit} {M1 : zM} {M : zM} {o : Nat} {l1 : Option Nat} (hz : zZ g KC KS) (hs0 : zsh M o = some (.inl 1)) (h : FK_begin N KC KS o l1 M = some (r, M1)) (hd : 0 ≤ d) : zEv g d mK_begin [va_rf (some o), va_rf l1] (M) (fun Mq => Mq = M1) := by
  unfold FK_begin at h
  refine zEu_q (r := r) (lv := [(0, va_rf (some o)), (1, va_rf l1)]) ⟨by decide +kernel, by decide, by decide +kernel⟩ (by simp [z_cr, z_ci]) (Nat.le_of_ble_eq_true rfl) rfl ?_
  refine zi_aload_n 0 (dq dK_begin 0 rfl) rfl ?_
  refine zi_aload_n 1 (dq dK_begin 1 rfl) rfl ?_
  refine zi_putr hs0 fK_9 (fun h => by cases h) (z_nar_r _ _) (dq dK_begin 2 rfl) ?_
  refine zi_aload_n 0 (dq dK_begin 3 rfl) rfl ?_
  refine zi_iconst (v := 0) (dq dK_begin 4 rfl) (by decide) ?_
  refine zi_puti hs0 fK_15 (fun h => by cases h) rfl rfl (dq dK_begin 5 rfl) ?_
  refine zi_aload_n 0 (dq dK_begin 6 rfl) rfl ?_
  refine zi_iconst (v := 0) (dq dK_begin 7 rfl) (by decide) ?_
  refine zi_puti hs0 fK_19 (fun h => by cases h) rfl rfl (dq dK_begin 8 rfl) ?_
  refine zi_aload_n 0 (dq dK_begin 9 rfl) rfl ?_
  refine zi_iconst (v := 0) (dq dK_begin 10 rfl) (by decide) ?_
  refine zi_puti hs0 fK_22 (fun h => by cases h) rfl rfl (dq dK_begin 11 rfl) ?_
  refine zi_aload_n 0 (dq dK_begin 12 rfl) rfl ?_
  refine zi_iconst (v := 0) (dq dK_begin 13 rfl) (by decide) ?_
  refine zi_puti hs0 fK_25 (fun h => by cases h) rfl rfl (dq dK_begin 14 rfl) ?_
  refine zi_aload_n 0 (dq dK_begin 15 rfl) rfl ?_
  refine zi_null (dq dK_begin 16 rfl) ?_
  refine zi_putr hs0 fK_28 (fun h => by cases h) (z_nar_r _ _) (dq dK_begin 17 rfl) ?_
  exact zi_return rfl (dq dK_begin 18 rfl) (q_ruZ h)
def FT_begin (N : Nat) (KC : Nat) (KS : Nat) (o : Nat) (l1 : Int32) (M : zM) : Option (Unit × zM) :=
  let M1 := zpi M o 0 l1
  let M2 := zpi M1 o 1 0
  let M3 := zpi M2 o 2 0
  let M4 := zpi M3 o 3 0
  let M5 := zpi M4 o 4 0
  let M6 := zpi M5 o 5 0
  qc (FT_tagsOf N l1) fun v7 =>
  let M8 := zpi M6 o 6 v7
  let M9 := zpi M8 o 7 0
  let M10 := zpi M9 o 8 0
  let M11 := zpr M10 o 9 none
  let M12 := zpr M11 o 10 none
  let M13 := zpr M12 o 11 none
  some ((), M13)
theorem ST_begin {g : zg} {d N : Nat} {KC KS : Nat} {r : Unit} {M1 : zM} {M : zM} {o : Nat} {l1 : Int32} (hz : zZ g KC KS) (hs0 : zsh M o = some (.inl 6)) (h : FT_begin N KC KS o l1 M = some (r, M1)) (hd : 1 ≤ d) : zEv g d mT_begin [va_rf (some o), .int l1] (M) (fun Mq => Mq = M1) := by
  unfold FT_begin at h
  refine zEu_q (r := r) (lv := [(0, va_rf (some o)), (1, .int l1)]) ⟨by decide +kernel, by decide, by decide +kernel⟩ (by simp [z_cr, z_ci]) (Nat.le_of_ble_eq_true rfl) rfl ?_
  refine zi_aload_n 0 (dq dT_begin 0 rfl) rfl ?_
  refine zi_iload_n 1 (dq dT_begin 1 rfl) rfl ?_
  refine zi_puti hs0 fT_9 (fun h => by cases h) rfl rfl (dq dT_begin 2 rfl) ?_
  refine zi_aload_n 0 (dq dT_begin 3 rfl) rfl ?_
  refine zi_iconst (v := 0) (dq dT_begin 4 rfl) (by decide) ?_
  refine zi_puti hs0 fT_15 (fun h => by cases h) (by decide) (by decide) (dq dT_begin 5 rfl) ?_
  refine zi_aload_n 0 (dq dT_begin 6 rfl) rfl ?_
  refine zi_iconst (v := 0) (dq dT_begin 7 rfl) (by decide) ?_
  refine zi_puti hs0 fT_19 (fun h => by cases h) rfl rfl (dq dT_begin 8 rfl) ?_
  refine zi_aload_n 0 (dq dT_begin 9 rfl) rfl ?_
  refine zi_iconst (v := 0) (dq dT_begin 10 rfl) (by decide) ?_
  refine zi_puti hs0 fT_22 (fun h => by cases h) rfl rfl (dq dT_begin 11 rfl) ?_
  refine zi_aload_n 0 (dq dT_begin 12 rfl) rfl ?_
  refine zi_iconst (v := 0) (dq dT_begin 13 rfl) (by decide) ?_
  refine zi_puti hs0 fT_25 (fun h => by cases h) rfl rfl (dq dT_begin 14 rfl) ?_
  refine zi_aload_n 0 (dq dT_begin 15 rfl) rfl ?_
  refine zi_iconst (v := 0) (dq dT_begin 16 rfl) (by decide) ?_
  refine zi_puti hs0 fT_28 (fun h => by cases h) (by decide) (by decide) (dq dT_begin 17 rfl) ?_
  refine zi_aload_n 0 (dq dT_begin 18 rfl) rfl ?_
  refine zi_iload_n 1 (dq dT_begin 19 rfl) rfl ?_
  obtain ⟨v7, hv7, h⟩ := q_c h
  refine zi_cSi1 (ST_tagsOf  hv7 (d := d - 1) (by omega)) wT_tagsOf aT_31 tT_tagsOf (by omega) (Nat.le_of_ble_eq_true rfl) (dq dT_begin 20 rfl) (fun _ _ hh => ?_)
  obtain ⟨rfl, rfl⟩ := hh
  refine zi_puti hs0 fT_35 (fun h => by cases h) rfl rfl (dq dT_begin 21 rfl) ?_
  refine zi_aload_n 0 (dq dT_begin 22 rfl) rfl ?_
  refine zi_iconst (v := 0) (dq dT_begin 23 rfl) (by decide) ?_
  refine zi_puti hs0 fT_38 (fun h => by cases h) rfl rfl (dq dT_begin 24 rfl) ?_
  refine zi_aload_n 0 (dq dT_begin 25 rfl) rfl ?_
  refine zi_iconst (v := 0) (dq dT_begin 26 rfl) (by decide) ?_
  refine zi_puti hs0 fT_41 (fun h => by cases h) rfl rfl (dq dT_begin 27 rfl) ?_
  refine zi_aload_n 0 (dq dT_begin 28 rfl) rfl ?_
  refine zi_null (dq dT_begin 29 rfl) ?_
  refine zi_putr hs0 fT_44 (fun h => by cases h) (z_nar_r _ _) (dq dT_begin 30 rfl) ?_
  refine zi_aload_n 0 (dq dT_begin 31 rfl) rfl ?_
  refine zi_null (dq dT_begin 32 rfl) ?_
  refine zi_putr hs0 fT_48 (fun h => by cases h) (z_nar_r _ _) (dq dT_begin 33 rfl) ?_
  refine zi_aload_n 0 (dq dT_begin 34 rfl) rfl ?_
  refine zi_null (dq dT_begin 35 rfl) ?_
  refine zi_putr hs0 fT_52 (fun h => by cases h) (z_nar_r _ _) (dq dT_begin 36 rfl) ?_
  exact zi_return rfl (dq dT_begin 37 rfl) (q_ruZ h)
def FT_beginTag (N : Nat) (KC : Nat) (KS : Nat) (o : Nat) (l1 : Int32) (l2 : Int32) (M : zM) : Option (Unit × zM) :=
  qb (FT_begin N KC KS o 10 M) fun v1 M2 =>
  qk (decide (zsh M2 o = some (.inl 6))) <|
  let M4 := zpi M2 o 4 l1
  qz l2 fun b5 =>
  let M6 := zpi M4 o 5 (bI b5)
  let M7 := zpi M6 o 6 (1 <<< ((17 + l1) &&& 31))
  some ((), M7)
theorem ST_beginTag {g : zg} {d N : Nat} {KC KS : Nat} {r : Unit} {M1 : zM} {M : zM} {o : Nat} {l1 : Int32} {l2 : Int32} (hz : zZ g KC KS) (hs0 : zsh M o = some (.inl 6)) (h : FT_beginTag N KC KS o l1 l2 M = some (r, M1)) (hd : 2 ≤ d) : zEv g d mT_beginTag [va_rf (some o), .int l1, .int l2] (M) (fun Mq => Mq = M1) := by
  unfold FT_beginTag at h
  refine zEu_q (r := r) (lv := [(0, va_rf (some o)), (1, .int l1), (2, .int l2)]) ⟨by decide +kernel, by decide, by decide +kernel⟩ (by simp [z_cr, z_ci]) (Nat.le_of_ble_eq_true rfl) rfl ?_
  refine zi_aload_n 0 (dq dT_beginTag 0 rfl) rfl ?_
  refine zi_bipush (v := 10) (dq dT_beginTag 1 rfl) (by decide) ?_
  obtain ⟨v1, M2, hv1, h⟩ := q_b h
  refine zi_cVv1 (ST_begin hz  hs0 hv1 (d := d - 1) (by omega)) wT_begin aT_56 iT_begin sT_begin (by omega) hs0 rfl (Nat.le_of_ble_eq_true rfl) (dq dT_beginTag 2 rfl) (fun _ hh => ?_)
  subst hh
  refine zi_aload_n 0 (dq dT_beginTag 3 rfl) rfl ?_
  refine zi_iload_n 1 (dq dT_beginTag 4 rfl) rfl ?_
  obtain ⟨c3, h⟩ := q_k h
  replace c3 := of_decide_eq_true c3
  refine zi_puti c3 fT_25 (fun h => by cases h) rfl rfl (dq dT_beginTag 5 rfl) ?_
  refine zi_aload_n 0 (dq dT_beginTag 6 rfl) rfl ?_
  refine zi_iload_n 2 (dq dT_beginTag 7 rfl) rfl ?_
  obtain ⟨b5, eb5, h⟩ := q_z h
  refine zi_top eb5 ?_
  refine zi_puti c3 fT_28 (fun h => by cases h) (bI_nar _) (bI_fit _) (dq dT_beginTag 8 rfl) ?_
  refine zi_aload_n 0 (dq dT_beginTag 9 rfl) rfl ?_
  refine zi_iconst (v := 1) (dq dT_beginTag 10 rfl) (by decide) ?_
  refine zi_bipush (v := 17) (dq dT_beginTag 11 rfl) (by decide) ?_
  refine zi_iload_n 1 (dq dT_beginTag 12 rfl) rfl ?_
  refine zi_iadd (dq dT_beginTag 13 rfl) ?_
  refine zi_ishl (dq dT_beginTag 14 rfl) ?_
  refine zi_puti c3 fT_35 (fun h => by cases h) rfl rfl (dq dT_beginTag 15 rfl) ?_
  exact zi_return rfl (dq dT_beginTag 16 rfl) (q_ruZ h)
def FT_addMember (N : Nat) (KC : Nat) (KS : Nat) (o : Nat) (l1 : Option Nat) (M : zM) : Option (Unit × zM) :=
  qo l1 M 1 fun o1 =>
  let M2 := zpi M o1 1 (zi M o 8)
  let M3 := zpi M2 o 8 ((zi M2 o 8) + 1)
  if (zr M3 o 11) = none then
    let M7 := zpr M3 o 10 l1
    let M8 := zpr M7 o 11 l1
    some ((), M8)
  else
    qo (zr M3 o 11) M3 1 fun o4 =>
    let M5 := zpr M3 o4 5 l1
    let M6 := zpr M5 o 11 l1
    some ((), M6)
theorem ST_addMember {g : zg} {d N : Nat} {KC KS : Nat} {r : Unit} {M1 : zM} {M : zM} {o : Nat} {l1 : Option Nat} (hz : zZ g KC KS) (hs0 : zsh M o = some (.inl 6)) (h : FT_addMember N KC KS o l1 M = some (r, M1)) (hd : 0 ≤ d) : zEv g d mT_addMember [va_rf (some o), va_rf l1] (M) (fun Mq => Mq = M1) := by
  unfold FT_addMember at h
  refine zEu_q (r := r) (lv := [(0, va_rf (some o)), (1, va_rf l1)]) ⟨by decide +kernel, by decide, by decide +kernel⟩ (by simp [z_cr, z_ci]) (Nat.le_of_ble_eq_true rfl) rfl ?_
  refine zi_aload_n 1 (dq dT_addMember 0 rfl) rfl ?_
  refine zi_aload_n 0 (dq dT_addMember 1 rfl) rfl ?_
  refine zi_geti hs0 fT_41 (dq dT_addMember 2 rfl) ?_
  obtain ⟨o1, eo1, ho1, h⟩ := q_o h
  refine zi_rc1 eo1 ?_
  refine zi_puti ho1 fT_60 (fun h => by cases h) rfl rfl (dq dT_addMember 3 rfl) ?_
  refine zi_aload_n 0 (dq dT_addMember 4 rfl) rfl ?_
  refine zi_dup (dq dT_addMember 5 rfl) (by first | rfl | exact z_cr _) ?_
  refine zi_geti hs0 fT_41 (dq dT_addMember 6 rfl) ?_
  refine zi_iconst (v := 1) (dq dT_addMember 7 rfl) (by decide) ?_
  refine zi_iadd (dq dT_addMember 8 rfl) ?_
  refine zi_puti hs0 fT_41 (fun h => by cases h) rfl rfl (dq dT_addMember 9 rfl) ?_
  refine zi_aload_n 0 (dq dT_addMember 10 rfl) rfl ?_
  refine zi_getr hs0 fT_52 (dq dT_addMember 11 rfl) ?_
  refine zi_ifnonnull (tgt := 33) (dq dT_addMember 12 rfl) (by decide) (fun _ c => ?_) (fun c => ?_)
  · have h := q_f (by rw [c]; exact nofun) h
    refine zi_aload_n 0 (dq dT_addMember 17 rfl) rfl ?_
    refine zi_getr hs0 fT_52 (dq dT_addMember 18 rfl) ?_
    refine zi_aload_n 1 (dq dT_addMember 19 rfl) rfl ?_
    obtain ⟨o4, eo4, ho4, h⟩ := q_o h
    refine zi_rc1 eo4 ?_
    refine zi_putr ho4 fT_65 (fun h => by cases h) (z_nar_r _ _) (dq dT_addMember 20 rfl) ?_
    refine zi_aload_n 0 (dq dT_addMember 21 rfl) rfl ?_
    refine zi_aload_n 1 (dq dT_addMember 22 rfl) rfl ?_
    refine zi_putr hs0 fT_52 (fun h => by cases h) (z_nar_r _ _) (dq dT_addMember 23 rfl) ?_
    exact zi_return rfl (dq dT_addMember 24 rfl) (q_ruZ h)
  · have h := q_t c h
    refine zi_aload_n 0 (dq dT_addMember 13 rfl) rfl ?_
    refine zi_aload_n 1 (dq dT_addMember 14 rfl) rfl ?_
    refine zi_putr hs0 fT_48 (fun h => by cases h) (z_nar_r _ _) (dq dT_addMember 15 rfl) ?_
    refine zi_goto (tgt := 41) (dq dT_addMember 16 rfl) (by decide) ?_
    refine zi_aload_n 0 (dq dT_addMember 21 rfl) rfl ?_
    refine zi_aload_n 1 (dq dT_addMember 22 rfl) rfl ?_
    refine zi_putr hs0 fT_52 (fun h => by cases h) (z_nar_r _ _) (dq dT_addMember 23 rfl) ?_
    exact zi_return rfl (dq dT_addMember 24 rfl) (q_ruZ h)
