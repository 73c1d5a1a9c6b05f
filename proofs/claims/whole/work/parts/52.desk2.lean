/-! THE CLASS AS FUNCTIONS, 8 (tools/genZ.py) -/
def FD_forgetModule_35 (N : Nat) (KC : Nat) (KS : Nat) (o : Nat) (K35 : (Int32 × zM) → Option (Unit × zM)) (s : Int32 × zM) : Option (Unit × zM) :=
  let l1 := s.1
  let M := s.2
  qk (decide (zsh M o = some (.inl 8))) <|
  ql (zr M o 16) M 2 fun a2 na2 =>
  if (nI na2) ≤ l1 then
    some ((), M)
  else
    qa (zr M o 16) M 2 l1 fun a3 =>
    let M4 := zpl M a3 l1.toNatClampNeg 0
    let y5 := l1 + (1)
    K35 (y5, M4)
theorem SD_forgetModule_35 {g : zg} {d N : Nat} {KC KS : Nat} {r : Unit} {M1 : zM}  {o : Nat} (hz : zZ g KC KS) (hd : 1 ≤ d)  : ∀ n s, qfix (FD_forgetModule_35 N KC KS o) n s = some (r, M1) → zG g d mD_forgetModule (zPq (rU r) (M1)) (s.2) 35 [(0, va_rf (some o)), (1, .int s.1)] [] := by
  refine qfix_sound (fun K35 hK35 s h => ?_)
  unfold FD_forgetModule_35 at h
  refine zi_iload_n 1 (dq dD_forgetModule 20 rfl) rfl ?_
  refine zi_aload_n 0 (dq dD_forgetModule 21 rfl) rfl ?_
  obtain ⟨c1, h⟩ := q_k h
  replace c1 := of_decide_eq_true c1
  refine zi_getr c1 fD_81 (dq dD_forgetModule 22 rfl) ?_
  obtain ⟨a2, na2, ea2, ha2, h⟩ := q_l h
  refine zi_rc0 ea2 ?_
  refine zi_alen ha2 rfl (dq dD_forgetModule 23 rfl) ?_
  refine zi_icmp_ge (tgt := 57) (dq dD_forgetModule 24 rfl) (by decide) (fun c => ?_) (fun c => ?_)
  · have h := q_t c h
    exact zi_return rfl (dq dD_forgetModule 32 rfl) (q_ruZ h)
  · have h := q_f c h
    refine zi_aload_n 0 (dq dD_forgetModule 25 rfl) rfl ?_
    refine zi_getr c1 fD_81 (dq dD_forgetModule 26 rfl) ?_
    refine zi_iload_n 1 (dq dD_forgetModule 27 rfl) rfl ?_
    refine zi_lconst (v := 0) (dq dD_forgetModule 28 rfl) (by decide) ?_
    obtain ⟨a3, na3, ea3, ha3, ia3, h⟩ := q_a h
    refine zi_rc2 ea3 ?_
    refine zi_last ha3 rfl ia3 (dq dD_forgetModule 29 rfl) ?_
    refine zi_iincC (v := _ + (1)) (lv' := [(1, _), (0, _)]) 1 (dq dD_forgetModule 30 rfl) rfl rfl (by decide) (by simp [z_cr, z_ci]) rfl ?_
    refine zi_goto (tgt := 35) (dq dD_forgetModule 31 rfl) (by decide) ?_
    exact zG_lv (zs_c 1 rfl (zs_c 0 rfl zs_n)) (hK35 _ h)
def FD_forgetModule_14 (N : Nat) (KC : Nat) (KS : Nat) (o : Nat) (K14 : (Int32 × zM) → Option (Unit × zM)) (s : Int32 × zM) : Option (Unit × zM) :=
  let l1 := s.1
  let M := s.2
  if 8 ≤ l1 then
    qfix (FD_forgetModule_35 N KC KS o) N (0, M)
  else
    qk (decide (zsh M o = some (.inl 8))) <|
    qa (zr M o 13) M 4 l1 fun a2 =>
    let M3 := zpr M a2 l1.toNatClampNeg none
    let y4 := l1 + (1)
    K14 (y4, M3)
theorem SD_forgetModule_14 {g : zg} {d N : Nat} {KC KS : Nat} {r : Unit} {M1 : zM}  {o : Nat} (hz : zZ g KC KS) (hd : 1 ≤ d)  : ∀ n s, qfix (FD_forgetModule_14 N KC KS o) n s = some (r, M1) → zG g d mD_forgetModule (zPq (rU r) (M1)) (s.2) 14 [(0, va_rf (some o)), (1, .int s.1)] [] := by
  refine qfix_sound (fun K14 hK14 s h => ?_)
  unfold FD_forgetModule_14 at h
  refine zi_iload_n 1 (dq dD_forgetModule 8 rfl) rfl ?_
  refine zi_bipush (v := 8) (dq dD_forgetModule 9 rfl) (by decide) ?_
  refine zi_icmp_ge (tgt := 33) (dq dD_forgetModule 10 rfl) (by decide) (fun c => ?_) (fun c => ?_)
  · have h := q_t c h
    refine zi_iconst (v := 0) (dq dD_forgetModule 18 rfl) (by decide) ?_
    refine zi_istC_n (lv' := [(1, _), (0, _)]) (dq dD_forgetModule 19 rfl) (by decide) (by simp [z_cr, z_ci]) rfl ?_
    exact zG_lv (zs_c 1 rfl (zs_c 0 rfl zs_n)) (SD_forgetModule_35 hz hd  _ _ h)
  · have h := q_f c h
    refine zi_aload_n 0 (dq dD_forgetModule 11 rfl) rfl ?_
    obtain ⟨c1, h⟩ := q_k h
    replace c1 := of_decide_eq_true c1
    refine zi_getr c1 fD_71 (dq dD_forgetModule 12 rfl) ?_
    refine zi_iload_n 1 (dq dD_forgetModule 13 rfl) rfl ?_
    refine zi_null (dq dD_forgetModule 14 rfl) ?_
    obtain ⟨a2, na2, ea2, ha2, ia2, h⟩ := q_a h
    refine zi_rc2 ea2 ?_
    refine zi_aastN ha2 rfl ia2 (dq dD_forgetModule 15 rfl) ?_
    refine zi_iincC (v := _ + (1)) (lv' := [(1, _), (0, _)]) 1 (dq dD_forgetModule 16 rfl) rfl rfl (by decide) (by simp [z_cr, z_ci]) rfl ?_
    refine zi_goto (tgt := 14) (dq dD_forgetModule 17 rfl) (by decide) ?_
    exact zG_lv (zs_c 1 rfl (zs_c 0 rfl zs_n)) (hK14 _ h)
def FD_forgetModule (N : Nat) (KC : Nat) (KS : Nat) (o : Nat) (M : zM) : Option (Unit × zM) :=
  let M1 := zpi M o 3 0
  qk (dLyB M1 o) <|
  qb (FV_empty N M1 8 (zJo M1 o)) fun v3 J4 =>
  let M5 := zmm M1 o 32 J4
  qfix (FD_forgetModule_14 N KC KS o) N (0, M5)
theorem SD_forgetModule {g : zg} {d N : Nat} {KC KS : Nat} {r : Unit} {M1 : zM} {M : zM} {o : Nat} (hz : zZ g KC KS) (hs0 : zsh M o = some (.inl 8)) (h : FD_forgetModule N KC KS o M = some (r, M1)) (hd : 1 ≤ d) : zEv g d mD_forgetModule [va_rf (some o)] (M) (fun Mq => Mq = M1) := by
  unfold FD_forgetModule at h
  refine zEu_q (r := r) (lv := [(0, va_rf (some o))]) ⟨by decide +kernel, by decide, by decide +kernel⟩ (by simp [z_cr, z_ci]) (Nat.le_of_ble_eq_true rfl) rfl ?_
  refine zi_aload_n 0 (dq dD_forgetModule 0 rfl) rfl ?_
  refine zi_iconst (v := 0) (dq dD_forgetModule 1 rfl) (by decide) ?_
  refine zi_puti hs0 fD_96 (fun h => by cases h) (by decide) (by decide) (dq dD_forgetModule 2 rfl) ?_
  refine zi_aload_n 0 (dq dD_forgetModule 3 rfl) rfl ?_
  refine zi_getr hs0 fD_32 (dq dD_forgetModule 4 rfl) ?_
  obtain ⟨c2, h⟩ := q_k h
  replace c2 := dLyB_ok c2
  refine zi_rc0 (zLr c2 24 rfl : zr _ (_ + 0) _ = _) ?_
  obtain ⟨v3, J4, hv3, h⟩ := q_b h
  have qv3 := SV_empty (g := g) (dLy_v (Or.inl rfl) c2) (by decide) (zag_d c2) hv3 (d := d - 1) (by omega)
  rw [zmm_J] at qv3
  refine zi_cVv0 qv3 wV_empty aD_192 iV_empty sV_empty (by omega) (zLs c2 8 rfl) rfl (Nat.le_of_ble_eq_true rfl) (dq dD_forgetModule 5 rfl) (fun _ hh => ?_)
  subst hh
  refine zi_iconst (v := 0) (dq dD_forgetModule 6 rfl) (by decide) ?_
  refine zi_istC_n (lv' := [(1, _), (0, _)]) (dq dD_forgetModule 7 rfl) (by decide) (by simp [z_cr, z_ci]) rfl ?_
  exact zG_lv (zs_c 1 rfl (zs_c 0 rfl zs_n)) (SD_forgetModule_14 hz hd  _ _ h)
def FD_type (N : Nat) (KC : Nat) (KS : Nat) (o : Nat) (l1 : Int32) (M : zM) : Option (Bool × zM) :=
  if (zi M o 1) < 150 then
    qk (decide (0 ≤ l1) && decide (l1 ≤ 65535)) <|
    qa (zr M o 0) M 1 (zi M o 1) fun a2 =>
    let M3 := zpi M a2 (zi M o 1).toNatClampNeg l1
    let M4 := zpi M3 o 1 ((zi M3 o 1) + 1)
    qb (FD_forgetModule N KC KS o M4) fun v5 M6 =>
    some (true, M6)
  else
    some (false, M)
theorem SD_type {g : zg} {d N : Nat} {KC KS : Nat} {r : Bool} {M1 : zM} {M : zM} {o : Nat} {l1 : Int32} (hz : zZ g KC KS) (hs0 : zsh M o = some (.inl 8)) (h : FD_type N KC KS o l1 M = some (r, M1)) (hd : 2 ≤ d) : zEi g d mD_type [va_rf (some o), .int l1] (M) (fun v Mq => v = bI r ∧ Mq = M1) := by
  unfold FD_type at h
  refine zEb_q (r := r) (lv := [(0, va_rf (some o)), (1, .int l1)]) ⟨by decide +kernel, by decide, by decide +kernel⟩ (by simp [z_cr, z_ci]) (Nat.le_of_ble_eq_true rfl) rfl ?_
  refine zi_aload_n 0 (dq dD_type 0 rfl) rfl ?_
  refine zi_geti hs0 fD_85 (dq dD_type 1 rfl) ?_
  refine zi_sipush (v := 150) (dq dD_type 2 rfl) (by decide) ?_
  refine zi_icmp_lt (tgt := 12) (dq dD_type 3 rfl) (by decide) (fun c => ?_) (fun c => ?_)
  · have h := q_t c h
    refine zi_aload_n 0 (dq dD_type 6 rfl) rfl ?_
    refine zi_getr hs0 fD_9 (dq dD_type 7 rfl) ?_
    refine zi_aload_n 0 (dq dD_type 8 rfl) rfl ?_
    refine zi_geti hs0 fD_85 (dq dD_type 9 rfl) ?_
    refine zi_iload_n 1 (dq dD_type 10 rfl) rfl ?_
    obtain ⟨c1, h⟩ := q_k h
    obtain ⟨a2, na2, ea2, ha2, ia2, h⟩ := q_a h
    refine zi_rc2 ea2 ?_
    refine zi_cast ha2 rfl ia2 (q_char c1) (dq dD_type 11 rfl) ?_
    refine zi_aload_n 0 (dq dD_type 12 rfl) rfl ?_
    refine zi_dup (dq dD_type 13 rfl) (by first | rfl | exact z_cr _) ?_
    refine zi_geti hs0 fD_85 (dq dD_type 14 rfl) ?_
    refine zi_iconst (v := 1) (dq dD_type 15 rfl) (by decide) ?_
    refine zi_iadd (dq dD_type 16 rfl) ?_
    refine zi_puti hs0 fD_85 (fun h => by cases h) rfl rfl (dq dD_type 17 rfl) ?_
    refine zi_aload_n 0 (dq dD_type 18 rfl) rfl ?_
    obtain ⟨v5, M6, hv5, h⟩ := q_b h
    refine zi_cVv0 (SD_forgetModule hz  hs0 hv5 (d := d - 1) (by omega)) wD_forgetModule aD_89 iD_forgetModule sD_forgetModule (by omega) hs0 rfl (Nat.le_of_ble_eq_true rfl) (dq dD_type 19 rfl) (fun _ hh => ?_)
    subst hh
    refine zi_iconst (v := 1) (dq dD_type 20 rfl) (by decide) ?_
    exact zi_ireturn rfl (by decide) (dq dD_type 21 rfl) (q_rbZ (b := true) h)
  · have h := q_f c h
    refine zi_iconst (v := 0) (dq dD_type 4 rfl) (by decide) ?_
    exact zi_ireturn rfl (by decide) (dq dD_type 5 rfl) (q_rbZ (b := false) h)
def FD_clear (N : Nat) (KC : Nat) (KS : Nat) (o : Nat) (M : zM) : Option (Int32 × zM) :=
  let y1 := zi M o 1
  let M2 := zpi M o 1 0
  qb (FD_forgetModule N KC KS o M2) fun v3 M4 =>
  some (y1, M4)
theorem SD_clear {g : zg} {d N : Nat} {KC KS : Nat} {r : Int32} {M1 : zM} {M : zM} {o : Nat} (hz : zZ g KC KS) (hs0 : zsh M o = some (.inl 8)) (h : FD_clear N KC KS o M = some (r, M1)) (hd : 2 ≤ d) : zEi g d mD_clear [va_rf (some o)] (M) (fun v Mq => v = r ∧ Mq = M1) := by
  unfold FD_clear at h
  refine zEi_q (r := r) (lv := [(0, va_rf (some o))]) ⟨by decide +kernel, by decide, by decide +kernel⟩ (by simp [z_cr, z_ci]) (Nat.le_of_ble_eq_true rfl) rfl ?_
  refine zi_aload_n 0 (dq dD_clear 0 rfl) rfl ?_
  refine zi_geti hs0 fD_85 (dq dD_clear 1 rfl) ?_
  refine zi_istC_n (lv' := [(1, _), (0, _)]) (dq dD_clear 2 rfl) (by decide) (by simp [z_cr, z_ci]) rfl ?_
  refine zi_aload_n 1 (dq dD_clear 3 rfl) rfl ?_
  refine zi_iconst (v := 0) (dq dD_clear 4 rfl) (by decide) ?_
  refine zi_puti hs0 fD_85 (fun h => by cases h) rfl rfl (dq dD_clear 5 rfl) ?_
  refine zi_aload_n 1 (dq dD_clear 6 rfl) rfl ?_
  obtain ⟨v3, M4, hv3, h⟩ := q_b h
  refine zi_cVv0 (SD_forgetModule hz  hs0 hv3 (d := d - 1) (by omega)) wD_forgetModule aD_89 iD_forgetModule sD_forgetModule (by omega) hs0 rfl (Nat.le_of_ble_eq_true rfl) (dq dD_clear 7 rfl) (fun _ hh => ?_)
  subst hh
  refine zi_iload_n 0 (dq dD_clear 8 rfl) rfl ?_
  exact zi_ireturn rfl rfl (dq dD_clear 9 rfl) (q_riZ h)
def FD_compile (N : Nat) (KC : Nat) (KS : Nat) (o : Nat) (M : zM) : Option (Int32 × zM) :=
  qb (FD_forgetModule N KC KS o M) fun v1 M2 =>
  qk (decide (zsh M2 o = some (.inl 8))) <|
  qo (zr M2 o 2) M2 0 fun o4 =>
  qb (FC_translate N KC KS o4 (zi M2 o 1) M2) fun v5 M6 =>
  if v5 = 0 then
    qk (decide (zsh M6 o = some (.inl 8))) <|
    let M10 := zpi M6 o 3 1
    some (v5, M10)
  else
    qk (decide (zsh M6 o = some (.inl 8))) <|
    let M8 := zpi M6 o 3 0
    some (v5, M8)
theorem SD_compile {g : zg} {d N : Nat} {KC KS : Nat} {r : Int32} {M1 : zM} {M : zM} {o : Nat} (hz : zZ g KC KS) (hs0 : zsh M o = some (.inl 8)) (h : FD_compile N KC KS o M = some (r, M1)) (hd : 51 ≤ d) : zEi g d mD_compile [va_rf (some o)] (M) (fun v Mq => v = r ∧ Mq = M1) := by
  unfold FD_compile at h
  refine zEi_q (r := r) (lv := [(0, va_rf (some o))]) ⟨by decide +kernel, by decide, by decide +kernel⟩ (by simp [z_cr, z_ci]) (Nat.le_of_ble_eq_true rfl) rfl ?_
  refine zi_aload_n 0 (dq dD_compile 0 rfl) rfl ?_
  obtain ⟨v1, M2, hv1, h⟩ := q_b h
  refine zi_cVv0 (SD_forgetModule hz  hs0 hv1 (d := d - 1) (by omega)) wD_forgetModule aD_89 iD_forgetModule sD_forgetModule (by omega) hs0 rfl (Nat.le_of_ble_eq_true rfl) (dq dD_compile 1 rfl) (fun _ hh => ?_)
  subst hh
  refine zi_aload_n 0 (dq dD_compile 2 rfl) rfl ?_
  obtain ⟨c3, h⟩ := q_k h
  replace c3 := of_decide_eq_true c3
  refine zi_getr c3 fD_18 (dq dD_compile 3 rfl) ?_
  refine zi_aload_n 0 (dq dD_compile 4 rfl) rfl ?_
  refine zi_geti c3 fD_85 (dq dD_compile 5 rfl) ?_
  obtain ⟨o4, eo4, ho4, h⟩ := q_o h
  refine zi_rc1 eo4 ?_
  obtain ⟨v5, M6, hv5, h⟩ := q_b h
  refine zi_cVi1 (SC_translate hz  ho4 hv5 (d := d - 1) (by omega)) wC_translate aD_92 iC_translate sC_translate (by omega) ho4 rfl (Nat.le_of_ble_eq_true rfl) (dq dD_compile 6 rfl) (fun _ _ hh => ?_)
  obtain ⟨rfl, rfl⟩ := hh
  refine zi_istC_n (lv' := [(1, _), (0, _)]) (dq dD_compile 7 rfl) (by decide) (by simp [z_cr, z_ci]) rfl ?_
  refine zi_aload_n 1 (dq dD_compile 8 rfl) rfl ?_
  refine zi_iload_n 0 (dq dD_compile 9 rfl) rfl ?_
  refine zi_if_ne (tgt := 25) (dq dD_compile 10 rfl) (by decide) (fun c => ?_) (fun c => ?_)
  · have h := q_f c h
    refine zi_iconst (v := 0) (dq dD_compile 13 rfl) (by decide) ?_
    obtain ⟨c7, h⟩ := q_k h
    replace c7 := of_decide_eq_true c7
    refine zi_puti c7 fD_96 (fun h => by cases h) (by decide) (by decide) (dq dD_compile 14 rfl) ?_
    refine zi_iload_n 0 (dq dD_compile 15 rfl) rfl ?_
    exact zi_ireturn rfl rfl (dq dD_compile 16 rfl) (q_riZ h)
  · have h := q_t c h
    refine zi_iconst (v := 1) (dq dD_compile 11 rfl) (by decide) ?_
    refine zi_goto (tgt := 26) (dq dD_compile 12 rfl) (by decide) ?_
    obtain ⟨c9, h⟩ := q_k h
    replace c9 := of_decide_eq_true c9
    refine zi_puti c9 fD_96 (fun h => by cases h) (by decide) (by decide) (dq dD_compile 14 rfl) ?_
    refine zi_iload_n 0 (dq dD_compile 15 rfl) rfl ?_
    exact zi_ireturn rfl rfl (dq dD_compile 16 rfl) (q_riZ h)
def FD_put_32 (N : Nat) (M0 : zM) (l1 : Int64) (K32 : (Int32 × zJ) → Option (Bool × zJ)) (s : Int32 × zJ) : Option (Bool × zJ) :=
  let l4 := s.1
  let J := s.2
  if l4 < 0 then
    some (true, J)
  else
    qk (qi (J 0 5) 120) <|
    let J2 := zu J 6 (J 0 5).toNatClampNeg ((((l1.toUInt64 >>> (l4.toInt64.toUInt64 &&& Int64.toUInt64 63)).toInt64).toInt32) &&& 255)
    let J3 := zu J2 0 5 ((J2 0 5) + 1)
    let y4 := l4 + (-8)
    K32 (y4, J3)
theorem SD_put_32 {g : zg} {d N : Nat} {M0 : zM} {A : Nat} {r : Bool} {J1 : zJ}  {l1 : Int64} (hL : zLy M0 A dShL dRf) (hd : 0 ≤ d)  : ∀ n s, qfix (FD_put_32 N M0 l1) n s = some (r, J1) → zG g d mD_put (zPq (rB r) (zmm M0 A 32 J1)) (zmm M0 A 32 s.2) 32 [(0, va_rf (some (A + 0))), (1, .long l1), (4, .int s.1)] [] := by
  refine qfix_sound (fun K32 hK32 s h => ?_)
  unfold FD_put_32 at h
  refine zi_iload 2 (dq dD_put 20 rfl) rfl ?_
  refine zi_if_lt (tgt := 71) (dq dD_put 21 rfl) (by decide) (fun c => ?_) (fun c => ?_)
  · have h := q_t c h
    refine zi_iconst (v := 1) (dq dD_put 41 rfl) (by decide) ?_
    exact zi_ireturn rfl (by decide) (dq dD_put 42 rfl) (q_rb (b := true) h)
  · have h := q_f c h
    refine zi_aload_n 0 (dq dD_put 22 rfl) rfl ?_
    refine ri_getr (zLs hL 0 rfl) (zLr hL 33 rfl) fD_22 (dq dD_put 23 rfl) ?_
    refine zi_aload_n 0 (dq dD_put 24 rfl) rfl ?_
    refine ri_geti (zLs hL 0 rfl) (by decide) fD_100 (dq dD_put 25 rfl) ?_
    refine zi_lload_n 1 (dq dD_put 26 rfl) rfl ?_
    refine zi_iload 2 (dq dD_put 27 rfl) rfl ?_
    refine zi_lushr (dq dD_put 28 rfl) ?_
    refine zi_l2i (dq dD_put 29 rfl) ?_
    refine zi_sipush (v := 255) (dq dD_put 30 rfl) (by decide) ?_
    refine zi_iand (dq dD_put 31 rfl) ?_
    obtain ⟨c1, h⟩ := q_k h
    refine ri_iast (zLs hL 6 rfl) (by decide) rfl c1 (dq dD_put 32 rfl) ?_
    refine zi_aload_n 0 (dq dD_put 33 rfl) rfl ?_
    refine zi_dup (dq dD_put 34 rfl) (by first | rfl | exact z_cr _) ?_
    refine ri_geti (zLs hL 0 rfl) (by decide) fD_100 (dq dD_put 35 rfl) ?_
    refine zi_iconst (v := 1) (dq dD_put 36 rfl) (by decide) ?_
    refine zi_iadd (dq dD_put 37 rfl) ?_
    refine ri_puti (zLs hL 0 rfl) (by decide) fD_100 (fun h => by cases h) rfl rfl (dq dD_put 38 rfl) ?_
    refine zi_iincC (v := _ + (-8)) (lv' := [(4, _), (0, _), (1, _)]) 2 (dq dD_put 39 rfl) rfl rfl (by decide) (by simp [z_cr, z_ci]) rfl ?_
    refine zi_goto (tgt := 32) (dq dD_put 40 rfl) (by decide) ?_
    exact zG_lv (zs_c 1 rfl (zs_c 2 rfl (zs_c 0 rfl zs_n))) (hK32 _ h)
def FD_put (N : Nat) (M0 : zM) (l1 : Int64) (l3 : Int32) (J : zJ) : Option (Bool × zJ) :=
  if l3 < 1 then
    some (false, J)
  else
    if 8 < l3 then
      some (false, J)
    else
      if ((J 0 5) + l3) ≤ 120 then
        let y1 := 8 * (l3 - 1)
        qfix (FD_put_32 N M0 l1) N (y1, J)
      else
        some (false, J)
theorem SD_put {g : zg} {d N : Nat} {M0 : zM} {A : Nat} {r : Bool} {J1 : zJ} {J : zJ} {l1 : Int64} {l3 : Int32} (hL : zLy M0 A dShL dRf) (h : FD_put N M0 l1 l3 J = some (r, J1)) (hd : 0 ≤ d) : zEi g d mD_put [va_rf (some (A + 0)), .long l1, .int l3] (zmm M0 A 32 J) (fun v Mq => v = bI r ∧ Mq = zmm M0 A 32 J1) := by
  unfold FD_put at h
  refine zEb_qL (r := r) (lv := [(0, va_rf (some (A + 0))), (1, .long l1), (3, .int l3)]) ⟨by decide +kernel, by decide, by decide +kernel⟩ (Nat.le_of_ble_eq_true rfl) rfl ?_
  refine zi_iload_n 2 (dq dD_put 0 rfl) rfl ?_
  refine zi_iconst (v := 1) (dq dD_put 1 rfl) (by decide) ?_
  refine zi_icmp_lt (tgt := 22) (dq dD_put 2 rfl) (by decide) (fun c => ?_) (fun c => ?_)
  · have h := q_t c h
    refine zi_iconst (v := 0) (dq dD_put 12 rfl) (by decide) ?_
    exact zi_ireturn rfl (by decide) (dq dD_put 13 rfl) (q_rb (b := false) h)
  · have h := q_f c h
    refine zi_iload_n 2 (dq dD_put 3 rfl) rfl ?_
    refine zi_bipush (v := 8) (dq dD_put 4 rfl) (by decide) ?_
    refine zi_icmp_gt (tgt := 22) (dq dD_put 5 rfl) (by decide) (fun c => ?_) (fun c => ?_)
    · have h := q_t c h
      refine zi_iconst (v := 0) (dq dD_put 12 rfl) (by decide) ?_
      exact zi_ireturn rfl (by decide) (dq dD_put 13 rfl) (q_rb (b := false) h)
    · have h := q_f c h
      refine zi_aload_n 0 (dq dD_put 6 rfl) rfl ?_
      refine ri_geti (zLs hL 0 rfl) (by decide) fD_100 (dq dD_put 7 rfl) ?_
      refine zi_iload_n 2 (dq dD_put 8 rfl) rfl ?_
      refine zi_iadd (dq dD_put 9 rfl) ?_
      refine zi_bipush (v := 120) (dq dD_put 10 rfl) (by decide) ?_
      refine zi_icmp_le (tgt := 24) (dq dD_put 11 rfl) (by decide) (fun c => ?_) (fun c => ?_)
      · have h := q_t c h
        refine zi_bipush (v := 8) (dq dD_put 14 rfl) (by decide) ?_
        refine zi_iload_n 2 (dq dD_put 15 rfl) rfl ?_
        refine zi_iconst (v := 1) (dq dD_put 16 rfl) (by decide) ?_
        refine zi_isub (dq dD_put 17 rfl) ?_
        refine zi_imul (dq dD_put 18 rfl) ?_
        refine zi_istC (lv' := [(4, _), (0, _), (1, _), (3, _)]) (dq dD_put 19 rfl) (by decide) (by simp [z_cr, z_ci]) rfl ?_
        exact zG_lv (zs_c 1 rfl (zs_c 2 rfl (zs_c 0 rfl zs_n))) (SD_put_32 hL hd  _ _ h)
      · have h := q_f c h
        refine zi_iconst (v := 0) (dq dD_put 12 rfl) (by decide) ?_
        exact zi_ireturn rfl (by decide) (dq dD_put 13 rfl) (q_rb (b := false) h)
def FD_wipe (N : Nat) (M0 : zM) (J : zJ) : Option (Int32 × zJ) :=
  let y1 := J 0 5
  let J2 := zu J 0 5 0
  some (y1, J2)
theorem SD_wipe {g : zg} {d N : Nat} {M0 : zM} {A : Nat} {r : Int32} {J1 : zJ} {J : zJ}  (hL : zLy M0 A dShL dRf) (h : FD_wipe N M0 J = some (r, J1)) (hd : 0 ≤ d) : zEi g d mD_wipe [va_rf (some (A + 0))] (zmm M0 A 32 J) (fun v Mq => v = r ∧ Mq = zmm M0 A 32 J1) := by
  unfold FD_wipe at h
  refine zEi_q (r := r) (lv := [(0, va_rf (some (A + 0)))]) ⟨by decide +kernel, by decide, by decide +kernel⟩ (by simp [z_cr, z_ci]) (Nat.le_of_ble_eq_true rfl) rfl ?_
  refine zi_aload_n 0 (dq dD_wipe 0 rfl) rfl ?_
  refine ri_geti (zLs hL 0 rfl) (by decide) fD_100 (dq dD_wipe 1 rfl) ?_
  refine zi_istC_n (lv' := [(1, _), (0, _)]) (dq dD_wipe 2 rfl) (by decide) (by simp [z_cr, z_ci]) rfl ?_
  refine zi_aload_n 1 (dq dD_wipe 3 rfl) rfl ?_
  refine zi_iconst (v := 0) (dq dD_wipe 4 rfl) (by decide) ?_
  refine ri_puti (zLs hL 0 rfl) (by decide) fD_100 (fun h => by cases h) rfl rfl (dq dD_wipe 5 rfl) ?_
  refine zi_iload_n 0 (dq dD_wipe 6 rfl) rfl ?_
  exact zi_ireturn rfl rfl (dq dD_wipe 7 rfl) (q_ri h)
def FD_at_22 (N : Nat) (KC : Nat) (KS : Nat) (M : zM) : Option ((Int32 ⊕ String) × zM) :=
  qk (decide (zsz M + 1 ≤ KC) && decide (zsl M + 6 ≤ KS)) <|
  some (.inr "java/lang/IndexOutOfBoundsException", zgap M 6)
theorem SD_at_22 {g : zg} {d N : Nat} {KC KS : Nat} {r : (Int32 ⊕ String)} {M1 : zM} {M : zM}   (hz : zZ g KC KS) (h : FD_at_22 N KC KS M = some (r, M1)) (hd : 6 ≤ d)  : zG g d mD_at (zPq (rX r) (M1)) (M) 22 [] [] := by
  unfold FD_at_22 at h
  obtain ⟨c1, h⟩ := q_k h
  exact zi_throw hz.2.2 (by simp [zXN]) x_ioobe (j := 105) (by simp [zXS]; try rfl) rfl rfl bD_103 (q_room hz.1 hz.2.1 c1) (by omega) (Nat.le_of_ble_eq_true rfl) (dq dD_at 12 rfl) (dq dD_at 13 rfl) (dq dD_at 14 rfl) (dq dD_at 15 rfl) (dq dD_at 16 rfl) (q_thX h)
def FD_at (N : Nat) (KC : Nat) (KS : Nat) (o : Nat) (l1 : Int32) (M : zM) : Option ((Int32 ⊕ String) × zM) :=
  if l1 = ((-1)) then
    some (.inl (zi M o 5), M)
  else
    if l1 < 0 then
      FD_at_22 N KC KS M
    else
      if l1 < (zi M o 5) then
        qa (zr M o 4) M 0 l1 fun a1 =>
        some (.inl (zi M a1 l1.toNatClampNeg), M)
      else
        FD_at_22 N KC KS M
theorem SD_at {g : zg} {d N : Nat} {KC KS : Nat} {r : (Int32 ⊕ String)} {M1 : zM} {M : zM} {o : Nat} {l1 : Int32} (hz : zZ g KC KS) (hs0 : zsh M o = some (.inl 8)) (h : FD_at N KC KS o l1 M = some (r, M1)) (hd : 6 ≤ d) : zG g d mD_at (zPq (rX r) (M1)) M 0 [(0, va_rf (some o)), (1, .int l1)] [] := by
  unfold FD_at at h
  refine zi_iload_n 1 (dq dD_at 0 rfl) rfl ?_
  refine zi_iconst (v := (-1)) (dq dD_at 1 rfl) (by decide) ?_
  refine zi_icmp_ne (tgt := 10) (dq dD_at 2 rfl) (by decide) (fun c => ?_) (fun c => ?_)
  · have h := q_f c h
    refine zi_iload_n 1 (dq dD_at 6 rfl) rfl ?_
    refine zi_if_lt (tgt := 22) (dq dD_at 7 rfl) (by decide) (fun c => ?_) (fun c => ?_)
    · have h := q_t c h
      exact zG_lv zs_n (SD_at_22 hz h hd )
    · have h := q_f c h
      refine zi_iload_n 1 (dq dD_at 8 rfl) rfl ?_
      refine zi_aload_n 0 (dq dD_at 9 rfl) rfl ?_
      refine zi_geti hs0 fD_100 (dq dD_at 10 rfl) ?_
      refine zi_icmp_lt (tgt := 32) (dq dD_at 11 rfl) (by decide) (fun c => ?_) (fun c => ?_)
      · have h := q_t c h
        refine zi_aload_n 0 (dq dD_at 17 rfl) rfl ?_
        refine zi_getr hs0 fD_22 (dq dD_at 18 rfl) ?_
        refine zi_iload_n 1 (dq dD_at 19 rfl) rfl ?_
        obtain ⟨a1, na1, ea1, ha1, ia1, h⟩ := q_a h
        refine zi_rc1 ea1 ?_
        refine zi_iald ha1 rfl ia1 (dq dD_at 20 rfl) ?_
        exact zi_ireturn rfl rfl (dq dD_at 21 rfl) (q_rx h)
      · have h := q_f c h
        exact zG_lv zs_n (SD_at_22 hz h hd )
  · have h := q_t c h
    refine zi_aload_n 0 (dq dD_at 3 rfl) rfl ?_
    refine zi_geti hs0 fD_100 (dq dD_at 4 rfl) ?_
    exact zi_ireturn rfl rfl (dq dD_at 5 rfl) (q_rx h)
def FD_keepWritten (N : Nat) (M0 : zM) (l1 : Int32) (J : zJ) : Option (Unit × zJ) :=
  qk (qcp 0 0 l1 120 120) <|
  let J2 := zcpJ J 7 6 (0 : Int32).toNatClampNeg (0 : Int32).toNatClampNeg l1.toNatClampNeg
  let J3 := zu J2 0 5 l1
  some ((), J3)
theorem SD_keepWritten {g : zg} {d N : Nat} {M0 : zM} {A : Nat} {r : Unit} {J1 : zJ} {J : zJ} {l1 : Int32} (hL : zLy M0 A dShL dRf) (h : FD_keepWritten N M0 l1 J = some (r, J1)) (hd : 1 ≤ d) : zEv g d mD_keepWritten [va_rf (some (A + 0)), .int l1] (zmm M0 A 32 J) (fun Mq => Mq = zmm M0 A 32 J1) := by
  unfold FD_keepWritten at h
  refine zEu_q (r := r) (lv := [(0, va_rf (some (A + 0))), (1, .int l1)]) ⟨by decide +kernel, by decide, by decide +kernel⟩ (by simp [z_cr, z_ci]) (Nat.le_of_ble_eq_true rfl) rfl ?_
  refine zi_aload_n 0 (dq dD_keepWritten 0 rfl) rfl ?_
  refine ri_getr (zLs hL 0 rfl) (zLr hL 32 rfl) fD_26 (dq dD_keepWritten 1 rfl) ?_
  refine zi_iconst (v := 0) (dq dD_keepWritten 2 rfl) (by decide) ?_
  refine zi_aload_n 0 (dq dD_keepWritten 3 rfl) rfl ?_
  refine ri_getr (zLs hL 0 rfl) (zLr hL 33 rfl) fD_22 (dq dD_keepWritten 4 rfl) ?_
  refine zi_iconst (v := 0) (dq dD_keepWritten 5 rfl) (by decide) ?_
  refine zi_iload_n 1 (dq dD_keepWritten 6 rfl) rfl ?_
  obtain ⟨c1, h⟩ := q_k h
  refine ri_copy aD_206 (zLs hL 7 rfl) (zLs hL 6 rfl) (by decide) (by decide) c1 (by omega) (Nat.le_of_ble_eq_true rfl) (dq dD_keepWritten 7 rfl) ?_
  refine zi_aload_n 0 (dq dD_keepWritten 8 rfl) rfl ?_
  refine zi_iload_n 1 (dq dD_keepWritten 9 rfl) rfl ?_
  refine ri_puti (zLs hL 0 rfl) (by decide) fD_100 (fun h => by cases h) rfl rfl (dq dD_keepWritten 10 rfl) ?_
  exact zi_return rfl (dq dD_keepWritten 11 rfl) (q_ru h)
def FD_readBuffer_46 (N : Nat) (M0 : zM) (t1 : Option Nat) (t2 : Int32) (t3 : Int32) (t4 : Int32) (J : zJ) : Option (Bool × zJ) :=
  qb (FO_readAll N M0 t1 t2 t3 t4 J) fun v1 J2 =>
  some (v1, J2)
theorem SD_readBuffer_46 {g : zg} {d N : Nat} {M0 : zM} {A : Nat} {r : Bool} {J1 : zJ} {J : zJ}  {t1 : Option Nat} {t2 : Int32} {t3 : Int32} {t4 : Int32} (hL : zLy M0 A dShL dRf) (h : FD_readBuffer_46 N M0 t1 t2 t3 t4 J = some (r, J1)) (hd : 34 ≤ d)  : zG g d mD_readBuffer (zPq (rB r) (zmm M0 A 32 J1)) (zmm M0 A 32 J) 46 [] [.int t4, .int t3, .int t2, va_rf t1, va_rf (some (A + 24))] := by
  unfold FD_readBuffer_46 at h
  obtain ⟨v1, J2, hv1, h⟩ := q_b h
  refine zi_cVi4 (SO_readAll hL hv1 (d := d - 1) (by omega)) wO_readAll aD_198 iO_readAll sO_readAll (by omega) (zLs hL 24 rfl) rfl (Nat.le_of_ble_eq_true rfl) (dq dD_readBuffer 26 rfl) (fun _ _ hh => ?_)
  obtain ⟨rfl, rfl⟩ := hh
  exact zi_ireturn rfl (bI_nar _) (dq dD_readBuffer 27 rfl) (q_rb h)
def FD_readBuffer (N : Nat) (M0 : zM) (l1 : Option Nat) (l2 : Int32) (l3 : Int32) (J : zJ) : Option (Bool × zJ) :=
  qb (FV_empty N M0 16 J) fun v1 J2 =>
  if l2 = 2 then
    qb (FP_readAll N M0 l1 l3 (J2 0 5) J2) fun v3 J4 =>
    some (v3, J4)
  else
    if l2 = 1 then
      FD_readBuffer_46 N M0 l1 l3 (J2 0 5) 1 J2
    else
      FD_readBuffer_46 N M0 l1 l3 (J2 0 5) 0 J2
theorem SD_readBuffer {g : zg} {d N : Nat} {M0 : zM} {A : Nat} {r : Bool} {J1 : zJ} {J : zJ} {l1 : Option Nat} {l2 : Int32} {l3 : Int32} (hL : zLy M0 A dShL dRf) (h : FD_readBuffer N M0 l1 l2 l3 J = some (r, J1)) (hd : 34 ≤ d) : zEi g d mD_readBuffer [va_rf (some (A + 0)), va_rf l1, .int l2, .int l3] (zmm M0 A 32 J) (fun v Mq => v = bI r ∧ Mq = zmm M0 A 32 J1) := by
  unfold FD_readBuffer at h
  refine zEb_q (r := r) (lv := [(0, va_rf (some (A + 0))), (1, va_rf l1), (2, .int l2), (3, .int l3)]) ⟨by decide +kernel, by decide, by decide +kernel⟩ (by simp [z_cr, z_ci]) (Nat.le_of_ble_eq_true rfl) rfl ?_
  refine zi_aload_n 0 (dq dD_readBuffer 0 rfl) rfl ?_
  refine ri_getr (zLs hL 0 rfl) (zLr hL 16 rfl) fD_36 (dq dD_readBuffer 1 rfl) ?_
  obtain ⟨v1, J2, hv1, h⟩ := q_b h
  refine zi_cVv0 (SV_empty (dLy_v (Or.inr rfl) hL) (by decide) (zag_d hL) hv1 (d := d - 1) (by omega)) wV_empty aD_192 iV_empty sV_empty (by omega) (zLs hL 16 rfl) rfl (Nat.le_of_ble_eq_true rfl) (dq dD_readBuffer 2 rfl) (fun _ hh => ?_)
  subst hh
  refine zi_iload_n 2 (dq dD_readBuffer 3 rfl) rfl ?_
  refine zi_iconst (v := 2) (dq dD_readBuffer 4 rfl) (by decide) ?_
  refine zi_icmp_ne (tgt := 26) (dq dD_readBuffer 5 rfl) (by decide) (fun c => ?_) (fun c => ?_)
  · have h := q_f c h
    refine zi_aload_n 0 (dq dD_readBuffer 14 rfl) rfl ?_
    refine ri_getr (zLs hL 0 rfl) (zLr hL 13 rfl) fD_44 (dq dD_readBuffer 15 rfl) ?_
    refine zi_aload_n 1 (dq dD_readBuffer 16 rfl) rfl ?_
    refine zi_iload_n 3 (dq dD_readBuffer 17 rfl) rfl ?_
    refine zi_aload_n 0 (dq dD_readBuffer 18 rfl) rfl ?_
    refine ri_geti (zLs hL 0 rfl) (by decide) fD_100 (dq dD_readBuffer 19 rfl) ?_
    refine zi_iload_n 2 (dq dD_readBuffer 20 rfl) rfl ?_
    refine zi_iconst (v := 1) (dq dD_readBuffer 21 rfl) (by decide) ?_
    refine zi_icmp_ne (tgt := 45) (dq dD_readBuffer 22 rfl) (by decide) (fun c => ?_) (fun c => ?_)
    · have h := q_f c h
      refine zi_iconst (v := 0) (dq dD_readBuffer 25 rfl) (by decide) ?_
      exact zG_lv zs_n (SD_readBuffer_46 hL h hd )
    · have h := q_t c h
      refine zi_iconst (v := 1) (dq dD_readBuffer 23 rfl) (by decide) ?_
      refine zi_goto (tgt := 46) (dq dD_readBuffer 24 rfl) (by decide) ?_
      exact zG_lv zs_n (SD_readBuffer_46 hL h hd )
  · have h := q_t c h
    refine zi_aload_n 0 (dq dD_readBuffer 6 rfl) rfl ?_
    refine ri_getr (zLs hL 0 rfl) (zLr hL 10 rfl) fD_51 (dq dD_readBuffer 7 rfl) ?_
    refine zi_aload_n 1 (dq dD_readBuffer 8 rfl) rfl ?_
    refine zi_iload_n 3 (dq dD_readBuffer 9 rfl) rfl ?_
    refine zi_aload_n 0 (dq dD_readBuffer 10 rfl) rfl ?_
    refine ri_geti (zLs hL 0 rfl) (by decide) fD_100 (dq dD_readBuffer 11 rfl) ?_
    obtain ⟨v3, J4, hv3, h⟩ := q_b h
    refine zi_cVi3 (SP_readAll hL hv3 (d := d - 1) (by omega)) wP_readAll aD_195 iP_readAll sP_readAll (by omega) (zLs hL 25 rfl) rfl (Nat.le_of_ble_eq_true rfl) (dq dD_readBuffer 12 rfl) (fun _ _ hh => ?_)
    obtain ⟨rfl, rfl⟩ := hh
    exact zi_ireturn rfl (bI_nar _) (dq dD_readBuffer 13 rfl) (q_rb h)
def FD_writeFound (N : Nat) (M0 : zM) (l1 : Option Nat) (l2 : Int32) (l3 : Int32) (J : zJ) : Option (Int32 × zJ) :=
  if l2 = 2 then
    qb (FQ_writeAll N M0 l1 l3 J) fun v3 J4 =>
    some (v3, J4)
  else
    qb (FS_writeAll N M0 l1 l3 J) fun v1 J2 =>
    some (v1, J2)
theorem SD_writeFound {g : zg} {d N : Nat} {M0 : zM} {A : Nat} {r : Int32} {J1 : zJ} {J : zJ} {l1 : Option Nat} {l2 : Int32} {l3 : Int32} (hL : zLy M0 A dShL dRf) (h : FD_writeFound N M0 l1 l2 l3 J = some (r, J1)) (hd : 34 ≤ d) : zEi g d mD_writeFound [va_rf (some (A + 0)), va_rf l1, .int l2, .int l3] (zmm M0 A 32 J) (fun v Mq => v = r ∧ Mq = zmm M0 A 32 J1) := by
  unfold FD_writeFound at h
  refine zEi_q (r := r) (lv := [(0, va_rf (some (A + 0))), (1, va_rf l1), (2, .int l2), (3, .int l3)]) ⟨by decide +kernel, by decide, by decide +kernel⟩ (by simp [z_cr, z_ci]) (Nat.le_of_ble_eq_true rfl) rfl ?_
  refine zi_iload_n 2 (dq dD_writeFound 0 rfl) rfl ?_
  refine zi_iconst (v := 2) (dq dD_writeFound 1 rfl) (by decide) ?_
  refine zi_icmp_ne (tgt := 17) (dq dD_writeFound 2 rfl) (by decide) (fun c => ?_) (fun c => ?_)
  · have h := q_f c h
    refine zi_aload_n 0 (dq dD_writeFound 9 rfl) rfl ?_
    refine ri_getr (zLs hL 0 rfl) (zLr hL 7 rfl) fD_58 (dq dD_writeFound 10 rfl) ?_
    refine zi_aload_n 1 (dq dD_writeFound 11 rfl) rfl ?_
    refine zi_iload_n 3 (dq dD_writeFound 12 rfl) rfl ?_
    obtain ⟨v1, J2, hv1, h⟩ := q_b h
    refine zi_cVi2 (SS_writeAll hL hv1 (d := d - 1) (by omega)) wS_writeAll aD_205 iS_writeAll sS_writeAll (by omega) (zLs hL 26 rfl) rfl (Nat.le_of_ble_eq_true rfl) (dq dD_writeFound 13 rfl) (fun _ _ hh => ?_)
    obtain ⟨rfl, rfl⟩ := hh
    exact zi_ireturn rfl rfl (dq dD_writeFound 14 rfl) (q_ri h)
  · have h := q_t c h
    refine zi_aload_n 0 (dq dD_writeFound 3 rfl) rfl ?_
    refine ri_getr (zLs hL 0 rfl) (zLr hL 4 rfl) fD_65 (dq dD_writeFound 4 rfl) ?_
    refine zi_aload_n 1 (dq dD_writeFound 5 rfl) rfl ?_
    refine zi_iload_n 3 (dq dD_writeFound 6 rfl) rfl ?_
    obtain ⟨v3, J4, hv3, h⟩ := q_b h
    refine zi_cVi2 (SQ_writeAll hL hv3 (d := d - 1) (by omega)) wQ_writeAll aD_201 iQ_writeAll sQ_writeAll (by omega) (zLs hL 27 rfl) rfl (Nat.le_of_ble_eq_true rfl) (dq dD_writeFound 7 rfl) (fun _ _ hh => ?_)
    obtain ⟨rfl, rfl⟩ := hh
    refine zi_goto (tgt := 26) (dq dD_writeFound 8 rfl) (by decide) ?_
    exact zi_ireturn rfl rfl (dq dD_writeFound 14 rfl) (q_ri h)
def FD_transcode (N : Nat) (KC : Nat) (KS : Nat) (o : Nat) (l1 : Int32) (l2 : Int32) (l3 : Int32) (M : zM) : Option ((Int32 ⊕ String) × zM) :=
  qc (FD_areRules N l2 l3) fun v1 =>
  if (bI v1) = 0 then
    qk (decide (zsz M + 1 ≤ KC) && decide (zsl M + 6 ≤ KS)) <|
    some (.inr "java/lang/IllegalArgumentException", zgap M 6)
  else
    if (zi M o 3) = 0 then
      qk (decide (zsz M + 1 ≤ KC) && decide (zsl M + 6 ≤ KS)) <|
      some (.inr "java/lang/IllegalStateException", zgap M 6)
    else
      qo (zr M o 2) M 0 fun o2 =>
      qb (FC_typeNamed N KC KS o2 l1 M) fun v3 M4 =>
      if v3 = none then
        qk (decide (zsz M4 + 1 ≤ KC) && decide (zsl M4 + 6 ≤ KS)) <|
        some (.inr "java/util/NoSuchElementException", zgap M4 6)
      else
        qk (dLyB M4 o) <|
        qb (FD_readBuffer N M4 v3 l2 0 (zJo M4 o)) fun v6 J7 =>
        let M8 := zmm M4 o 32 J7
        if (bI v6) = 0 then
          some (.inl ((-1)), M8)
        else
          qk (dLyB M8 o) <|
          qb (FD_writeFound N M8 v3 l3 0 (zJo M8 o)) fun v10 J11 =>
          let M12 := zmm M8 o 32 J11
          if v10 = ((-1)) then
            qk (decide (zsz M12 + 1 ≤ KC) && decide (zsl M12 + 6 ≤ KS)) <|
            some (.inr "java/lang/UnsupportedOperationException", zgap M12 6)
          else
            qk (decide (zsh M12 o = some (.inl 8))) <|
            qk (dLyB M12 o) <|
            qb (FV_copyOf N M12 (zJo M12 o)) fun v15 J16 =>
            let M17 := zmm M12 o 32 J16
            qk (dLyB M17 o) <|
            qb (FD_keepWritten N M17 v10 (zJo M17 o)) fun v19 J20 =>
            let M21 := zmm M17 o 32 J20
            some (.inl v10, M21)
theorem SD_transcode {g : zg} {d N : Nat} {KC KS : Nat} {r : (Int32 ⊕ String)} {M1 : zM} {M : zM} {o : Nat} {l1 : Int32} {l2 : Int32} {l3 : Int32} (hz : zZ g KC KS) (hs0 : zsh M o = some (.inl 8)) (h : FD_transcode N KC KS o l1 l2 l3 M = some (r, M1)) (hd : 35 ≤ d) : zG g d mD_transcode (zPq (rX r) (M1)) M 0 [(0, va_rf (some o)), (1, .int l1), (2, .int l2), (3, .int l3)] [] := by
  unfold FD_transcode at h
  refine zi_iload_n 2 (dq dD_transcode 0 rfl) rfl ?_
  refine zi_iload_n 3 (dq dD_transcode 1 rfl) rfl ?_
  obtain ⟨v1, hv1, h⟩ := q_c h
  refine zi_cSi2 (SD_areRules  hv1 (d := d - 1) (by omega)) wD_areRules aD_110 tD_areRules (by omega) (Nat.le_of_ble_eq_true rfl) (dq dD_transcode 2 rfl) (fun _ _ hh => ?_)
  obtain ⟨rfl, rfl⟩ := hh
  refine zi_if_ne (tgt := 18) (dq dD_transcode 3 rfl) (by decide) (fun c => ?_) (fun c => ?_)
  · have h := q_f c h
    refine zi_aload_n 0 (dq dD_transcode 9 rfl) rfl ?_
    refine zi_geti hs0 fD_96 (dq dD_transcode 10 rfl) ?_
    refine zi_if_ne (tgt := 35) (dq dD_transcode 11 rfl) (by decide) (fun c => ?_) (fun c => ?_)
    · have h := q_f c h
      refine zi_aload_n 0 (dq dD_transcode 17 rfl) rfl ?_
      refine zi_getr hs0 fD_18 (dq dD_transcode 18 rfl) ?_
      refine zi_iload_n 1 (dq dD_transcode 19 rfl) rfl ?_
      obtain ⟨o2, eo2, ho2, h⟩ := q_o h
      refine zi_rc1 eo2 ?_
      obtain ⟨v3, M4, hv3, h⟩ := q_b h
      refine zi_cVr1 (SC_typeNamed hz  ho2 hv3 (d := d - 1) (by omega)) wC_typeNamed aD_124 iC_typeNamed sC_typeNamed (by omega) ho2 rfl (Nat.le_of_ble_eq_true rfl) (dq dD_transcode 20 rfl) (fun _ _ hh => ?_)
      obtain ⟨rfl, rfl⟩ := hh
      refine zi_astC (lv' := [(4, _), (0, _), (1, _), (2, _), (3, _)]) (dq dD_transcode 21 rfl) (by decide) (by simp [z_cr, z_ci]) rfl ?_
      refine zi_aload 0 (dq dD_transcode 22 rfl) rfl ?_
      refine zi_ifnonnull (tgt := 60) (dq dD_transcode 23 rfl) (by decide) (fun _ c => ?_) (fun c => ?_)
      · have h := q_f (by rw [c]; exact nofun) h
        refine zi_aload_n 1 (dq dD_transcode 29 rfl) rfl ?_
        refine zi_aload 0 (dq dD_transcode 30 rfl) rfl ?_
        refine zi_iload_n 3 (dq dD_transcode 31 rfl) rfl ?_
        refine zi_iconst (v := 0) (dq dD_transcode 32 rfl) (by decide) ?_
        obtain ⟨c5, h⟩ := q_k h
        replace c5 := dLyB_ok c5
        obtain ⟨v6, J7, hv6, h⟩ := q_b h
        have qv6 := SD_readBuffer (g := g) c5 hv6 (d := d - 1) (by omega)
        rw [zmm_J] at qv6
        refine zi_cVi3 qv6 wD_readBuffer aD_133 iD_readBuffer sD_readBuffer (by omega) (zLs c5 0 rfl) rfl (Nat.le_of_ble_eq_true rfl) (dq dD_transcode 33 rfl) (fun _ _ hh => ?_)
        obtain ⟨rfl, rfl⟩ := hh
        refine zi_if_ne (tgt := 73) (dq dD_transcode 34 rfl) (by decide) (fun c => ?_) (fun c => ?_)
        · have h := q_f c h
          refine zi_aload_n 1 (dq dD_transcode 37 rfl) rfl ?_
          refine zi_aload 0 (dq dD_transcode 38 rfl) rfl ?_
          refine zi_iload_n 4 (dq dD_transcode 39 rfl) rfl ?_
          refine zi_iconst (v := 0) (dq dD_transcode 40 rfl) (by decide) ?_
          obtain ⟨c9, h⟩ := q_k h
          replace c9 := dLyB_ok c9
          obtain ⟨v10, J11, hv10, h⟩ := q_b h
          have qv10 := SD_writeFound (g := g) c9 hv10 (d := d - 1) (by omega)
          rw [zmm_J] at qv10
          refine zi_cVi3 qv10 wD_writeFound aD_137 iD_writeFound sD_writeFound (by omega) (zLs c9 0 rfl) rfl (Nat.le_of_ble_eq_true rfl) (dq dD_transcode 41 rfl) (fun _ _ hh => ?_)
          obtain ⟨rfl, rfl⟩ := hh
          refine zi_istC (lv' := [(5, _), (4, _), (0, _), (1, _), (2, _), (3, _)]) (dq dD_transcode 42 rfl) (by decide) (by simp [z_cr, z_ci]) rfl ?_
          refine zi_iload 0 (dq dD_transcode 43 rfl) rfl ?_
          refine zi_iconst (v := (-1)) (dq dD_transcode 44 rfl) (by decide) ?_
          refine zi_icmp_ne (tgt := 99) (dq dD_transcode 45 rfl) (by decide) (fun c => ?_) (fun c => ?_)
          · have h := q_f c h
            refine zi_aload_n 2 (dq dD_transcode 51 rfl) rfl ?_
            obtain ⟨c13, h⟩ := q_k h
            replace c13 := of_decide_eq_true c13
            refine zi_getr c13 fD_32 (dq dD_transcode 52 rfl) ?_
            refine zi_aload_n 2 (dq dD_transcode 53 rfl) rfl ?_
            refine zi_getr c13 fD_36 (dq dD_transcode 54 rfl) ?_
            obtain ⟨c14, h⟩ := q_k h
            replace c14 := dLyB_ok c14
            refine zi_rc1 (zLr c14 24 rfl : zr _ (_ + 0) _ = _) ?_
            refine zi_rc0 (zLr c14 16 rfl : zr _ (_ + 0) _ = _) ?_
            obtain ⟨v15, J16, hv15, h⟩ := q_b h
            have qv15 := SV_copyOf (g := g) c14 hv15 (d := d - 1) (by omega)
            rw [zmm_J] at qv15
            refine zi_cVv1 qv15 wV_copyOf aD_146 iV_copyOf sV_copyOf (by omega) (zLs c14 8 rfl) rfl (Nat.le_of_ble_eq_true rfl) (dq dD_transcode 55 rfl) (fun _ hh => ?_)
            subst hh
            refine zi_aload_n 2 (dq dD_transcode 56 rfl) rfl ?_
            refine zi_iload 0 (dq dD_transcode 57 rfl) rfl ?_
            obtain ⟨c18, h⟩ := q_k h
            replace c18 := dLyB_ok c18
            obtain ⟨v19, J20, hv19, h⟩ := q_b h
            have qv19 := SD_keepWritten (g := g) c18 hv19 (d := d - 1) (by omega)
            rw [zmm_J] at qv19
            refine zi_cVv1 qv19 wD_keepWritten aD_150 iD_keepWritten sD_keepWritten (by omega) (zLs c18 0 rfl) rfl (Nat.le_of_ble_eq_true rfl) (dq dD_transcode 58 rfl) (fun _ hh => ?_)
            subst hh
            refine zi_iload 0 (dq dD_transcode 59 rfl) rfl ?_
            exact zi_ireturn rfl rfl (dq dD_transcode 60 rfl) (q_rx h)
          · have h := q_t c h
            obtain ⟨c22, h⟩ := q_k h
            exact zi_throw hz.2.2 (by simp [zXN]) x_uoe (j := 143) (by simp [zXS]; try rfl) rfl rfl bD_141 (q_room hz.1 hz.2.1 c22) (by omega) (Nat.le_of_ble_eq_true rfl) (dq dD_transcode 46 rfl) (dq dD_transcode 47 rfl) (dq dD_transcode 48 rfl) (dq dD_transcode 49 rfl) (dq dD_transcode 50 rfl) (q_thX h)
        · have h := q_t c h
          refine zi_iconst (v := (-1)) (dq dD_transcode 35 rfl) (by decide) ?_
          exact zi_ireturn rfl rfl (dq dD_transcode 36 rfl) (q_rx h)
      · have h := q_t c h
        obtain ⟨c23, h⟩ := q_k h
        exact zi_throw hz.2.2 (by simp [zXN]) x_nse (j := 130) (by simp [zXS]; try rfl) rfl rfl bD_128 (q_room hz.1 hz.2.1 c23) (by omega) (Nat.le_of_ble_eq_true rfl) (dq dD_transcode 24 rfl) (dq dD_transcode 25 rfl) (dq dD_transcode 26 rfl) (dq dD_transcode 27 rfl) (dq dD_transcode 28 rfl) (q_thX h)
    · have h := q_t c h
      obtain ⟨c24, h⟩ := q_k h
      exact zi_throw hz.2.2 (by simp [zXN]) x_ise (j := 121) (by simp [zXS]; try rfl) rfl rfl bD_119 (q_room hz.1 hz.2.1 c24) (by omega) (Nat.le_of_ble_eq_true rfl) (dq dD_transcode 12 rfl) (dq dD_transcode 13 rfl) (dq dD_transcode 14 rfl) (dq dD_transcode 15 rfl) (dq dD_transcode 16 rfl) (q_thX h)
  · have h := q_t c h
    obtain ⟨c25, h⟩ := q_k h
    exact zi_throw hz.2.2 (by simp [zXN]) x_iae (j := 116) (by simp [zXS]; try rfl) rfl rfl bD_114 (q_room hz.1 hz.2.1 c25) (by omega) (Nat.le_of_ble_eq_true rfl) (dq dD_transcode 4 rfl) (dq dD_transcode 5 rfl) (dq dD_transcode 6 rfl) (dq dD_transcode 7 rfl) (dq dD_transcode 8 rfl) (q_thX h)
def FD_parts (N : Nat) (M0 : zM) (J : zJ) : Option (Int32 × zJ) :=
  some ((J 8 0), J)
theorem SD_parts {g : zg} {d N : Nat} {M0 : zM} {A : Nat} {r : Int32} {J1 : zJ} {J : zJ}  (hL : zLy M0 A dShL dRf) (h : FD_parts N M0 J = some (r, J1)) (hd : 0 ≤ d) : zEi g d mD_parts [va_rf (some (A + 0))] (zmm M0 A 32 J) (fun v Mq => v = r ∧ Mq = zmm M0 A 32 J1) := by
  unfold FD_parts at h
  refine zEi_q (r := r) (lv := [(0, va_rf (some (A + 0)))]) ⟨by decide +kernel, by decide, by decide +kernel⟩ (by simp [z_cr, z_ci]) (Nat.le_of_ble_eq_true rfl) rfl ?_
  refine zi_aload_n 0 (dq dD_parts 0 rfl) rfl ?_
  refine ri_getr (zLs hL 0 rfl) (zLr hL 24 rfl) fD_32 (dq dD_parts 1 rfl) ?_
  refine ri_geti (zLs hL 8 rfl) (by decide) fD_154 (dq dD_parts 2 rfl) ?_
  exact zi_ireturn rfl rfl (dq dD_parts 3 rfl) (q_ri h)
def FD_part_9 (N : Nat) (KC : Nat) (KS : Nat) (M : zM) : Option ((Int32 ⊕ String) × zM) :=
  qk (decide (zsz M + 1 ≤ KC) && decide (zsl M + 6 ≤ KS)) <|
  some (.inr "java/lang/IllegalArgumentException", zgap M 6)
theorem SD_part_9 {g : zg} {d N : Nat} {KC KS : Nat} {r : (Int32 ⊕ String)} {M1 : zM} {M : zM}   (hz : zZ g KC KS) (h : FD_part_9 N KC KS M = some (r, M1)) (hd : 6 ≤ d)  : zG g d mD_part (zPq (rX r) (M1)) (M) 9 [] [] := by
  unfold FD_part_9 at h
  obtain ⟨c1, h⟩ := q_k h
  exact zi_throw hz.2.2 (by simp [zXN]) x_iae (j := 157) (by simp [zXS]; try rfl) rfl rfl bD_114 (q_room hz.1 hz.2.1 c1) (by omega) (Nat.le_of_ble_eq_true rfl) (dq dD_part 5 rfl) (dq dD_part 6 rfl) (dq dD_part 7 rfl) (dq dD_part 8 rfl) (dq dD_part 9 rfl) (q_thX h)
def FD_part_34 (N : Nat) (KC : Nat) (KS : Nat) (M : zM) : Option ((Int32 ⊕ String) × zM) :=
  qk (decide (zsz M + 1 ≤ KC) && decide (zsl M + 6 ≤ KS)) <|
  some (.inr "java/util/NoSuchElementException", zgap M 6)
theorem SD_part_34 {g : zg} {d N : Nat} {KC KS : Nat} {r : (Int32 ⊕ String)} {M1 : zM} {M : zM}   (hz : zZ g KC KS) (h : FD_part_34 N KC KS M = some (r, M1)) (hd : 6 ≤ d)  : zG g d mD_part (zPq (rX r) (M1)) (M) 34 [] [] := by
  unfold FD_part_34 at h
  obtain ⟨c1, h⟩ := q_k h
  exact zi_throw hz.2.2 (by simp [zXN]) x_nse (j := 159) (by simp [zXS]; try rfl) rfl rfl bD_128 (q_room hz.1 hz.2.1 c1) (by omega) (Nat.le_of_ble_eq_true rfl) (dq dD_part 17 rfl) (dq dD_part 18 rfl) (dq dD_part 19 rfl) (dq dD_part 20 rfl) (dq dD_part 21 rfl) (q_thX h)
def FD_part (N : Nat) (KC : Nat) (KS : Nat) (o : Nat) (l1 : Int32) (l2 : Int32) (M : zM) : Option ((Int32 ⊕ String) × zM) :=
  if l2 < 0 then
    FD_part_9 N KC KS M
  else
    if l2 ≤ 3 then
      if l1 < 0 then
        FD_part_34 N KC KS M
      else
        qo (zr M o 7) M 7 fun o1 =>
        if l1 < (zi M o1 0) then
          if l2 = 0 then
            qo (zr M o 7) M 7 fun o2 =>
            qa (zr M o2 1) M 0 l1 fun a3 =>
            some (.inl (zi M a3 l1.toNatClampNeg), M)
          else
            if l2 = 1 then
              qo (zr M o 7) M 7 fun o4 =>
              qa (zr M o4 2) M 0 l1 fun a5 =>
              some (.inl (zi M a5 l1.toNatClampNeg), M)
            else
              if l2 = 2 then
                qo (zr M o 7) M 7 fun o6 =>
                qa (zr M o6 3) M 0 l1 fun a7 =>
                some (.inl (zi M a7 l1.toNatClampNeg), M)
              else
                qo (zr M o 7) M 7 fun o8 =>
                qa (zr M o8 4) M 0 l1 fun a9 =>
                some (.inl (zi M a9 l1.toNatClampNeg), M)
        else
          FD_part_34 N KC KS M
    else
      FD_part_9 N KC KS M
theorem SD_part {g : zg} {d N : Nat} {KC KS : Nat} {r : (Int32 ⊕ String)} {M1 : zM} {M : zM} {o : Nat} {l1 : Int32} {l2 : Int32} (hz : zZ g KC KS) (hs0 : zsh M o = some (.inl 8)) (h : FD_part N KC KS o l1 l2 M = some (r, M1)) (hd : 6 ≤ d) : zG g d mD_part (zPq (rX r) (M1)) M 0 [(0, va_rf (some o)), (1, .int l1), (2, .int l2)] [] := by
  unfold FD_part at h
  refine zi_iload_n 2 (dq dD_part 0 rfl) rfl ?_
  refine zi_if_lt (tgt := 9) (dq dD_part 1 rfl) (by decide) (fun c => ?_) (fun c => ?_)
  · have h := q_t c h
    exact zG_lv zs_n (SD_part_9 hz h hd )
  · have h := q_f c h
    refine zi_iload_n 2 (dq dD_part 2 rfl) rfl ?_
    refine zi_iconst (v := 3) (dq dD_part 3 rfl) (by decide) ?_
    refine zi_icmp_le (tgt := 19) (dq dD_part 4 rfl) (by decide) (fun c => ?_) (fun c => ?_)
    · have h := q_t c h
      refine zi_iload_n 1 (dq dD_part 10 rfl) rfl ?_
      refine zi_if_lt (tgt := 34) (dq dD_part 11 rfl) (by decide) (fun c => ?_) (fun c => ?_)
      · have h := q_t c h
        exact zG_lv zs_n (SD_part_34 hz h hd )
      · have h := q_f c h
        refine zi_iload_n 1 (dq dD_part 12 rfl) rfl ?_
        refine zi_aload_n 0 (dq dD_part 13 rfl) rfl ?_
        refine zi_getr hs0 fD_32 (dq dD_part 14 rfl) ?_
        obtain ⟨o1, eo1, ho1, h⟩ := q_o h
        refine zi_rc0 eo1 ?_
        refine zi_geti ho1 fD_154 (dq dD_part 15 rfl) ?_
        refine zi_icmp_lt (tgt := 44) (dq dD_part 16 rfl) (by decide) (fun c => ?_) (fun c => ?_)
        · have h := q_t c h
          refine zi_iload_n 2 (dq dD_part 22 rfl) rfl ?_
          rcases q_w h with ⟨c0, h⟩ | ⟨c0, h⟩
          · refine zi_top c0 ?_
            refine zi_tableIn (tgt := 72) (dq dD_part 23 rfl) (by decide) (by decide) rfl (by decide) ?_
            refine zi_aload_n 0 (dq dD_part 24 rfl) rfl ?_
            refine zi_getr hs0 fD_32 (dq dD_part 25 rfl) ?_
            obtain ⟨o2, eo2, ho2, h⟩ := q_o h
            refine zi_rc0 eo2 ?_
            refine zi_getr ho2 fD_161 (dq dD_part 26 rfl) ?_
            refine zi_iload_n 1 (dq dD_part 27 rfl) rfl ?_
            obtain ⟨a3, na3, ea3, ha3, ia3, h⟩ := q_a h
            refine zi_rc1 ea3 ?_
            refine zi_iald ha3 rfl ia3 (dq dD_part 28 rfl) ?_
            exact zi_ireturn rfl rfl (dq dD_part 29 rfl) (q_rx h)
          rcases q_w h with ⟨c1, h⟩ | ⟨c1, h⟩
          · refine zi_top c1 ?_
            refine zi_tableIn (tgt := 82) (dq dD_part 23 rfl) (by decide) (by decide) rfl (by decide) ?_
            refine zi_aload_n 0 (dq dD_part 30 rfl) rfl ?_
            refine zi_getr hs0 fD_32 (dq dD_part 31 rfl) ?_
            obtain ⟨o4, eo4, ho4, h⟩ := q_o h
            refine zi_rc0 eo4 ?_
            refine zi_getr ho4 fD_164 (dq dD_part 32 rfl) ?_
            refine zi_iload_n 1 (dq dD_part 33 rfl) rfl ?_
            obtain ⟨a5, na5, ea5, ha5, ia5, h⟩ := q_a h
            refine zi_rc1 ea5 ?_
            refine zi_iald ha5 rfl ia5 (dq dD_part 34 rfl) ?_
            exact zi_ireturn rfl rfl (dq dD_part 35 rfl) (q_rx h)
          rcases q_w h with ⟨c2, h⟩ | ⟨c2, h⟩
          · refine zi_top c2 ?_
            refine zi_tableIn (tgt := 92) (dq dD_part 23 rfl) (by decide) (by decide) rfl (by decide) ?_
            refine zi_aload_n 0 (dq dD_part 36 rfl) rfl ?_
            refine zi_getr hs0 fD_32 (dq dD_part 37 rfl) ?_
            obtain ⟨o6, eo6, ho6, h⟩ := q_o h
            refine zi_rc0 eo6 ?_
            refine zi_getr ho6 fD_167 (dq dD_part 38 rfl) ?_
            refine zi_iload_n 1 (dq dD_part 39 rfl) rfl ?_
            obtain ⟨a7, na7, ea7, ha7, ia7, h⟩ := q_a h
            refine zi_rc1 ea7 ?_
            refine zi_iald ha7 rfl ia7 (dq dD_part 40 rfl) ?_
            exact zi_ireturn rfl rfl (dq dD_part 41 rfl) (q_rx h)
          refine zi_tableDef (tgt := 102) (vals := [0, 1, 2]) (dq dD_part 23 rfl) (List.forall_mem_cons.mpr ⟨c0, List.forall_mem_cons.mpr ⟨c1, List.forall_mem_cons.mpr ⟨c2, fun _ h => absurd h List.not_mem_nil⟩⟩⟩) (by decide) (by decide) (by decide) ?_
          refine zi_aload_n 0 (dq dD_part 42 rfl) rfl ?_
          refine zi_getr hs0 fD_32 (dq dD_part 43 rfl) ?_
          obtain ⟨o8, eo8, ho8, h⟩ := q_o h
          refine zi_rc0 eo8 ?_
          refine zi_getr ho8 fD_170 (dq dD_part 44 rfl) ?_
          refine zi_iload_n 1 (dq dD_part 45 rfl) rfl ?_
          obtain ⟨a9, na9, ea9, ha9, ia9, h⟩ := q_a h
          refine zi_rc1 ea9 ?_
          refine zi_iald ha9 rfl ia9 (dq dD_part 46 rfl) ?_
          exact zi_ireturn rfl rfl (dq dD_part 47 rfl) (q_rx h)
        · have h := q_f c h
          exact zG_lv zs_n (SD_part_34 hz h hd )
    · have h := q_f c h
      exact zG_lv zs_n (SD_part_9 hz h hd )
def FD_octet (N : Nat) (KC : Nat) (KS : Nat) (o : Nat) (l1 : Int32) (l2 : Int32) (M : zM) : Option ((Int32 ⊕ String) × zM) :=
  qk (dLyB M o) <|
  qb (FV_octetAt N M 8 l1 l2 (zJo M o)) fun v2 J3 =>
  let M4 := zmm M o 32 J3
  if v2 = ((-1)) then
    qk (decide (zsz M4 + 1 ≤ KC) && decide (zsl M4 + 6 ≤ KS)) <|
    some (.inr "java/util/NoSuchElementException", zgap M4 6)
  else
    some (.inl v2, M4)
theorem SD_octet {g : zg} {d N : Nat} {KC KS : Nat} {r : (Int32 ⊕ String)} {M1 : zM} {M : zM} {o : Nat} {l1 : Int32} {l2 : Int32} (hz : zZ g KC KS) (hs0 : zsh M o = some (.inl 8)) (h : FD_octet N KC KS o l1 l2 M = some (r, M1)) (hd : 6 ≤ d) : zG g d mD_octet (zPq (rX r) (M1)) M 0 [(0, va_rf (some o)), (1, .int l1), (2, .int l2)] [] := by
  unfold FD_octet at h
  refine zi_aload_n 0 (dq dD_octet 0 rfl) rfl ?_
  refine zi_getr hs0 fD_32 (dq dD_octet 1 rfl) ?_
  refine zi_iload_n 1 (dq dD_octet 2 rfl) rfl ?_
  refine zi_iload_n 2 (dq dD_octet 3 rfl) rfl ?_
  obtain ⟨c1, h⟩ := q_k h
  replace c1 := dLyB_ok c1
  refine zi_rc2 (zLr c1 24 rfl : zr _ (_ + 0) _ = _) ?_
  obtain ⟨v2, J3, hv2, h⟩ := q_b h
  have qv2 := SV_octetAt (g := g) (dLy_v (Or.inl rfl) c1) (by decide) (zag_d c1) hv2 (d := d - 1) (by omega)
  rw [zmm_J] at qv2
  refine zi_cVi2 qv2 wV_octetAt aD_173 iV_octetAt sV_octetAt (by omega) (zLs c1 8 rfl) rfl (Nat.le_of_ble_eq_true rfl) (dq dD_octet 4 rfl) (fun _ _ hh => ?_)
  obtain ⟨rfl, rfl⟩ := hh
  refine zi_istC_n (lv' := [(3, _), (0, _), (1, _), (2, _)]) (dq dD_octet 5 rfl) (by decide) (by simp [z_cr, z_ci]) rfl ?_
  refine zi_iload_n 0 (dq dD_octet 6 rfl) rfl ?_
  refine zi_iconst (v := (-1)) (dq dD_octet 7 rfl) (by decide) ?_
  refine zi_icmp_ne (tgt := 25) (dq dD_octet 8 rfl) (by decide) (fun c => ?_) (fun c => ?_)
  · have h := q_f c h
    refine zi_iload_n 0 (dq dD_octet 14 rfl) rfl ?_
    exact zi_ireturn rfl rfl (dq dD_octet 15 rfl) (q_rx h)
  · have h := q_t c h
    obtain ⟨c5, h⟩ := q_k h
    exact zi_throw hz.2.2 (by simp [zXN]) x_nse (j := 105) (by simp [zXS]; try rfl) rfl rfl bD_128 (q_room hz.1 hz.2.1 c5) (by omega) (Nat.le_of_ble_eq_true rfl) (dq dD_octet 9 rfl) (dq dD_octet 10 rfl) (dq dD_octet 11 rfl) (dq dD_octet 12 rfl) (dq dD_octet 13 rfl) (q_thX h)
def FD_operation_19 (N : Nat) (KC : Nat) (KS : Nat) (M : zM) : Option ((Unit ⊕ String) × zM) :=
  qk (decide (zsz M + 1 ≤ KC) && decide (zsl M + 6 ≤ KS)) <|
  some (.inr "java/lang/IllegalArgumentException", zgap M 6)
theorem SD_operation_19 {g : zg} {d N : Nat} {KC KS : Nat} {r : (Unit ⊕ String)} {M1 : zM} {M : zM}   (hz : zZ g KC KS) (h : FD_operation_19 N KC KS M = some (r, M1)) (hd : 6 ≤ d)  : zG g d mD_operation (zPq (rY r) (M1)) (M) 19 [] [] := by
  unfold FD_operation_19 at h
  obtain ⟨c1, h⟩ := q_k h
  exact zi_throw hz.2.2 (by simp [zXN]) x_iae (j := 177) (by simp [zXS]; try rfl) rfl rfl bD_114 (q_room hz.1 hz.2.1 c1) (by omega) (Nat.le_of_ble_eq_true rfl) (dq dD_operation 9 rfl) (dq dD_operation 10 rfl) (dq dD_operation 11 rfl) (dq dD_operation 12 rfl) (dq dD_operation 13 rfl) (q_thY h)
def FD_operation (N : Nat) (KC : Nat) (KS : Nat) (o : Nat) (l1 : Int32) (l2 : Int32) (l3 : Int32) (l4 : Int32) (M : zM) : Option ((Unit ⊕ String) × zM) :=
  if l1 < 0 then
    FD_operation_19 N KC KS M
  else
    if 8 ≤ l1 then
      FD_operation_19 N KC KS M
    else
      qc (FD_areRules N l3 l4) fun v1 =>
      if (bI v1) = 0 then
        FD_operation_19 N KC KS M
      else
        if (zi M o 3) = 0 then
          qk (decide (zsz M + 1 ≤ KC) && decide (zsl M + 6 ≤ KS)) <|
          some (.inr "java/lang/IllegalStateException", zgap M 6)
        else
          qo (zr M o 2) M 0 fun o2 =>
          qb (FC_typeNamed N KC KS o2 l2 M) fun v3 M4 =>
          if v3 = none then
            qk (decide (zsz M4 + 1 ≤ KC) && decide (zsl M4 + 6 ≤ KS)) <|
            some (.inr "java/util/NoSuchElementException", zgap M4 6)
          else
            qk (decide (zsh M4 o = some (.inl 8))) <|
            qa (zr M4 o 13) M4 4 l1 fun a6 =>
            qo v3 M4 6 fun o8 =>
            let M7 := zpr M4 a6 l1.toNatClampNeg (some o8)
            qa (zr M7 o 14) M7 0 l1 fun a9 =>
            let M10 := zpi M7 a9 l1.toNatClampNeg l3
            qa (zr M10 o 15) M10 0 l1 fun a11 =>
            let M12 := zpi M10 a11 l1.toNatClampNeg l4
            some (.inl (), M12)
theorem SD_operation {g : zg} {d N : Nat} {KC KS : Nat} {r : (Unit ⊕ String)} {M1 : zM} {M : zM} {o : Nat} {l1 : Int32} {l2 : Int32} {l3 : Int32} {l4 : Int32} (hz : zZ g KC KS) (hs0 : zsh M o = some (.inl 8)) (h : FD_operation N KC KS o l1 l2 l3 l4 M = some (r, M1)) (hd : 6 ≤ d) : zG g d mD_operation (zPq (rY r) (M1)) M 0 [(0, va_rf (some o)), (1, .int l1), (2, .int l2), (3, .int l3), (4, .int l4)] [] := by
  unfold FD_operation at h
  refine zi_iload_n 1 (dq dD_operation 0 rfl) rfl ?_
  refine zi_if_lt (tgt := 19) (dq dD_operation 1 rfl) (by decide) (fun c => ?_) (fun c => ?_)
  · have h := q_t c h
    exact zG_lv zs_n (SD_operation_19 hz h hd )
  · have h := q_f c h
    refine zi_iload_n 1 (dq dD_operation 2 rfl) rfl ?_
    refine zi_bipush (v := 8) (dq dD_operation 3 rfl) (by decide) ?_
    refine zi_icmp_ge (tgt := 19) (dq dD_operation 4 rfl) (by decide) (fun c => ?_) (fun c => ?_)
    · have h := q_t c h
      exact zG_lv zs_n (SD_operation_19 hz h hd )
    · have h := q_f c h
      refine zi_iload_n 3 (dq dD_operation 5 rfl) rfl ?_
      refine zi_iload 4 (dq dD_operation 6 rfl) rfl ?_
      obtain ⟨v1, hv1, h⟩ := q_c h
      refine zi_cSi2 (SD_areRules  hv1 (d := d - 1) (by omega)) wD_areRules aD_110 tD_areRules (by omega) (Nat.le_of_ble_eq_true rfl) (dq dD_operation 7 rfl) (fun _ _ hh => ?_)
      obtain ⟨rfl, rfl⟩ := hh
      refine zi_if_ne (tgt := 29) (dq dD_operation 8 rfl) (by decide) (fun c => ?_) (fun c => ?_)
      · have h := q_f c h
        refine zi_aload_n 0 (dq dD_operation 14 rfl) rfl ?_
        refine zi_geti hs0 fD_96 (dq dD_operation 15 rfl) ?_
        refine zi_if_ne (tgt := 46) (dq dD_operation 16 rfl) (by decide) (fun c => ?_) (fun c => ?_)
        · have h := q_f c h
          refine zi_aload_n 0 (dq dD_operation 22 rfl) rfl ?_
          refine zi_getr hs0 fD_18 (dq dD_operation 23 rfl) ?_
          refine zi_iload_n 2 (dq dD_operation 24 rfl) rfl ?_
          obtain ⟨o2, eo2, ho2, h⟩ := q_o h
          refine zi_rc1 eo2 ?_
          obtain ⟨v3, M4, hv3, h⟩ := q_b h
          refine zi_cVr1 (SC_typeNamed hz  ho2 hv3 (d := d - 1) (by omega)) wC_typeNamed aD_124 iC_typeNamed sC_typeNamed (by omega) ho2 rfl (Nat.le_of_ble_eq_true rfl) (dq dD_operation 25 rfl) (fun _ _ hh => ?_)
          obtain ⟨rfl, rfl⟩ := hh
          refine zi_astC (lv' := [(5, _), (0, _), (1, _), (2, _), (3, _), (4, _)]) (dq dD_operation 26 rfl) (by decide) (by simp [z_cr, z_ci]) rfl ?_
          refine zi_aload 0 (dq dD_operation 27 rfl) rfl ?_
          refine zi_ifnonnull (tgt := 71) (dq dD_operation 28 rfl) (by decide) (fun _ c => ?_) (fun c => ?_)
          · have h := q_f (by rw [c]; exact nofun) h
            refine zi_aload_n 1 (dq dD_operation 34 rfl) rfl ?_
            obtain ⟨c5, h⟩ := q_k h
            replace c5 := of_decide_eq_true c5
            refine zi_getr c5 fD_71 (dq dD_operation 35 rfl) ?_
            refine zi_iload_n 2 (dq dD_operation 36 rfl) rfl ?_
            refine zi_aload 0 (dq dD_operation 37 rfl) rfl ?_
            obtain ⟨a6, na6, ea6, ha6, ia6, h⟩ := q_a h
            refine zi_rc2 ea6 ?_
            obtain ⟨o8, eo8, ho8, h⟩ := q_o h
            refine zi_rc0 eo8 ?_
            refine zi_aast ha6 rfl ho8 rfl ia6 (dq dD_operation 38 rfl) ?_
            refine zi_aload_n 1 (dq dD_operation 39 rfl) rfl ?_
            refine zi_getr c5 fD_75 (dq dD_operation 40 rfl) ?_
            refine zi_iload_n 2 (dq dD_operation 41 rfl) rfl ?_
            refine zi_iload_n 4 (dq dD_operation 42 rfl) rfl ?_
            obtain ⟨a9, na9, ea9, ha9, ia9, h⟩ := q_a h
            refine zi_rc2 ea9 ?_
            refine zi_iast ha9 rfl ia9 (dq dD_operation 43 rfl) ?_
            refine zi_aload_n 1 (dq dD_operation 44 rfl) rfl ?_
            refine zi_getr c5 fD_78 (dq dD_operation 45 rfl) ?_
            refine zi_iload_n 2 (dq dD_operation 46 rfl) rfl ?_
            refine zi_iload 5 (dq dD_operation 47 rfl) rfl ?_
            obtain ⟨a11, na11, ea11, ha11, ia11, h⟩ := q_a h
            refine zi_rc2 ea11 ?_
            refine zi_iast ha11 rfl ia11 (dq dD_operation 48 rfl) ?_
            exact zi_return rfl (dq dD_operation 49 rfl) (q_ry h)
          · have h := q_t c h
            obtain ⟨c13, h⟩ := q_k h
            exact zi_throw hz.2.2 (by simp [zXN]) x_nse (j := 130) (by simp [zXS]; try rfl) rfl rfl bD_128 (q_room hz.1 hz.2.1 c13) (by omega) (Nat.le_of_ble_eq_true rfl) (dq dD_operation 29 rfl) (dq dD_operation 30 rfl) (dq dD_operation 31 rfl) (dq dD_operation 32 rfl) (dq dD_operation 33 rfl) (q_thY h)
        · have h := q_t c h
          obtain ⟨c14, h⟩ := q_k h
          exact zi_throw hz.2.2 (by simp [zXN]) x_ise (j := 121) (by simp [zXS]; try rfl) rfl rfl bD_119 (q_room hz.1 hz.2.1 c14) (by omega) (Nat.le_of_ble_eq_true rfl) (dq dD_operation 17 rfl) (dq dD_operation 18 rfl) (dq dD_operation 19 rfl) (dq dD_operation 20 rfl) (dq dD_operation 21 rfl) (q_thY h)
      · have h := q_t c h
        exact zG_lv zs_n (SD_operation_19 hz h hd )
def FD_markServed (N : Nat) (KC : Nat) (KS : Nat) (o : Nat) (l1 : Int32) (M : zM) : Option (Unit × zM) :=
  qa (zr M o 16) M 2 ((l1 >>> (6 &&& 31)) &&& 3) fun a1 =>
  qa (zr M o 16) M 2 ((l1 >>> (6 &&& 31)) &&& 3) fun a2 =>
  let M3 := zpl M a2 ((l1 >>> (6 &&& 31)) &&& 3).toNatClampNeg ((zl M a1 ((l1 >>> (6 &&& 31)) &&& 3).toNatClampNeg) ||| ((1 : Int64) <<< ((l1 &&& 63).toInt64 &&& 63)))
  some ((), M3)
theorem SD_markServed {g : zg} {d N : Nat} {KC KS : Nat} {r : Unit} {M1 : zM} {M : zM} {o : Nat} {l1 : Int32} (hz : zZ g KC KS) (hs0 : zsh M o = some (.inl 8)) (h : FD_markServed N KC KS o l1 M = some (r, M1)) (hd : 0 ≤ d) : zEv g d mD_markServed [va_rf (some o), .int l1] (M) (fun Mq => Mq = M1) := by
  unfold FD_markServed at h
  refine zEu_q (r := r) (lv := [(0, va_rf (some o)), (1, .int l1)]) ⟨by decide +kernel, by decide, by decide +kernel⟩ (by simp [z_cr, z_ci]) (Nat.le_of_ble_eq_true rfl) rfl ?_
  refine zi_aload_n 0 (dq dD_markServed 0 rfl) rfl ?_
  refine zi_getr hs0 fD_81 (dq dD_markServed 1 rfl) ?_
  refine zi_iload_n 1 (dq dD_markServed 2 rfl) rfl ?_
  refine zi_bipush (v := 6) (dq dD_markServed 3 rfl) (by decide) ?_
  refine zi_ishr (dq dD_markServed 4 rfl) ?_
  refine zi_iconst (v := 3) (dq dD_markServed 5 rfl) (by decide) ?_
  refine zi_iand (dq dD_markServed 6 rfl) ?_
  refine zi_dup2 (dq dD_markServed 7 rfl) (by first | rfl | exact z_cr _) (by first | rfl | exact z_cr _) ?_
  obtain ⟨a1, na1, ea1, ha1, ia1, h⟩ := q_a h
  refine zi_rc1 ea1 ?_
  refine zi_lald ha1 rfl ia1 (dq dD_markServed 8 rfl) ?_
  refine zi_lconst (v := 1) (dq dD_markServed 9 rfl) (by decide) ?_
  refine zi_iload_n 1 (dq dD_markServed 10 rfl) rfl ?_
  refine zi_bipush (v := 63) (dq dD_markServed 11 rfl) (by decide) ?_
  refine zi_iand (dq dD_markServed 12 rfl) ?_
  refine zi_lshl (dq dD_markServed 13 rfl) ?_
  refine zi_lor (dq dD_markServed 14 rfl) ?_
  obtain ⟨a2, na2, ea2, ha2, ia2, h⟩ := q_a h
  refine zi_rc2 ea2 ?_
  refine zi_last ha2 rfl ia2 (dq dD_markServed 15 rfl) ?_
  exact zi_return rfl (dq dD_markServed 16 rfl) (q_ruZ h)
def FD_refuseMessage (N : Nat) (M0 : zM) (l1 : Int32) (l2 : Int32) (J : zJ) : Option (Int32 × zJ) :=
  qk (qi 0 120) <|
  let J2 := zu J 6 (0 : Int32).toNatClampNeg 4
  qk (qi 1 120) <|
  let J4 := zu J2 6 (1 : Int32).toNatClampNeg l1
  qk (qi 2 120) <|
  let J6 := zu J4 6 (2 : Int32).toNatClampNeg l2
  let J7 := zu J6 0 5 3
  some (4, J7)
theorem SD_refuseMessage {g : zg} {d N : Nat} {M0 : zM} {A : Nat} {r : Int32} {J1 : zJ} {J : zJ} {l1 : Int32} {l2 : Int32} (hL : zLy M0 A dShL dRf) (h : FD_refuseMessage N M0 l1 l2 J = some (r, J1)) (hd : 0 ≤ d) : zEi g d mD_refuseMessage [va_rf (some (A + 0)), .int l1, .int l2] (zmm M0 A 32 J) (fun v Mq => v = r ∧ Mq = zmm M0 A 32 J1) := by
  unfold FD_refuseMessage at h
  refine zEi_q (r := r) (lv := [(0, va_rf (some (A + 0))), (1, .int l1), (2, .int l2)]) ⟨by decide +kernel, by decide, by decide +kernel⟩ (by simp [z_cr, z_ci]) (Nat.le_of_ble_eq_true rfl) rfl ?_
  refine zi_aload_n 0 (dq dD_refuseMessage 0 rfl) rfl ?_
  refine ri_getr (zLs hL 0 rfl) (zLr hL 33 rfl) fD_22 (dq dD_refuseMessage 1 rfl) ?_
  refine zi_iconst (v := 0) (dq dD_refuseMessage 2 rfl) (by decide) ?_
  refine zi_iconst (v := 4) (dq dD_refuseMessage 3 rfl) (by decide) ?_
  obtain ⟨c1, h⟩ := q_k h
  refine ri_iast (zLs hL 6 rfl) (by decide) rfl c1 (dq dD_refuseMessage 4 rfl) ?_
  refine zi_aload_n 0 (dq dD_refuseMessage 5 rfl) rfl ?_
  refine ri_getr (zLs hL 0 rfl) (zLr hL 33 rfl) fD_22 (dq dD_refuseMessage 6 rfl) ?_
  refine zi_iconst (v := 1) (dq dD_refuseMessage 7 rfl) (by decide) ?_
  refine zi_iload_n 1 (dq dD_refuseMessage 8 rfl) rfl ?_
  obtain ⟨c3, h⟩ := q_k h
  refine ri_iast (zLs hL 6 rfl) (by decide) rfl c3 (dq dD_refuseMessage 9 rfl) ?_
  refine zi_aload_n 0 (dq dD_refuseMessage 10 rfl) rfl ?_
  refine ri_getr (zLs hL 0 rfl) (zLr hL 33 rfl) fD_22 (dq dD_refuseMessage 11 rfl) ?_
  refine zi_iconst (v := 2) (dq dD_refuseMessage 12 rfl) (by decide) ?_
  refine zi_iload_n 2 (dq dD_refuseMessage 13 rfl) rfl ?_
  obtain ⟨c5, h⟩ := q_k h
  refine ri_iast (zLs hL 6 rfl) (by decide) rfl c5 (dq dD_refuseMessage 14 rfl) ?_
  refine zi_aload_n 0 (dq dD_refuseMessage 15 rfl) rfl ?_
  refine zi_iconst (v := 3) (dq dD_refuseMessage 16 rfl) (by decide) ?_
  refine ri_puti (zLs hL 0 rfl) (by decide) fD_100 (fun h => by cases h) rfl rfl (dq dD_refuseMessage 17 rfl) ?_
  refine zi_iconst (v := 4) (dq dD_refuseMessage 18 rfl) (by decide) ?_
  exact zi_ireturn rfl rfl (dq dD_refuseMessage 19 rfl) (q_ri h)
def FD_sayNoValue (N : Nat) (M0 : zM) (l1 : Int32) (J : zJ) : Option (Int32 × zJ) :=
  qk (qi 0 120) <|
  let J2 := zu J 6 (0 : Int32).toNatClampNeg 3
  qk (qi 1 120) <|
  let J4 := zu J2 6 (1 : Int32).toNatClampNeg l1
  let J5 := zu J4 0 5 2
  some (3, J5)
theorem SD_sayNoValue {g : zg} {d N : Nat} {M0 : zM} {A : Nat} {r : Int32} {J1 : zJ} {J : zJ} {l1 : Int32} (hL : zLy M0 A dShL dRf) (h : FD_sayNoValue N M0 l1 J = some (r, J1)) (hd : 0 ≤ d) : zEi g d mD_sayNoValue [va_rf (some (A + 0)), .int l1] (zmm M0 A 32 J) (fun v Mq => v = r ∧ Mq = zmm M0 A 32 J1) := by
  unfold FD_sayNoValue at h
  refine zEi_q (r := r) (lv := [(0, va_rf (some (A + 0))), (1, .int l1)]) ⟨by decide +kernel, by decide, by decide +kernel⟩ (by simp [z_cr, z_ci]) (Nat.le_of_ble_eq_true rfl) rfl ?_
  refine zi_aload_n 0 (dq dD_sayNoValue 0 rfl) rfl ?_
  refine ri_getr (zLs hL 0 rfl) (zLr hL 33 rfl) fD_22 (dq dD_sayNoValue 1 rfl) ?_
  refine zi_iconst (v := 0) (dq dD_sayNoValue 2 rfl) (by decide) ?_
  refine zi_iconst (v := 3) (dq dD_sayNoValue 3 rfl) (by decide) ?_
  obtain ⟨c1, h⟩ := q_k h
  refine ri_iast (zLs hL 6 rfl) (by decide) rfl c1 (dq dD_sayNoValue 4 rfl) ?_
  refine zi_aload_n 0 (dq dD_sayNoValue 5 rfl) rfl ?_
  refine ri_getr (zLs hL 0 rfl) (zLr hL 33 rfl) fD_22 (dq dD_sayNoValue 6 rfl) ?_
  refine zi_iconst (v := 1) (dq dD_sayNoValue 7 rfl) (by decide) ?_
  refine zi_iload_n 1 (dq dD_sayNoValue 8 rfl) rfl ?_
  obtain ⟨c3, h⟩ := q_k h
  refine ri_iast (zLs hL 6 rfl) (by decide) rfl c3 (dq dD_sayNoValue 9 rfl) ?_
  refine zi_aload_n 0 (dq dD_sayNoValue 10 rfl) rfl ?_
  refine zi_iconst (v := 2) (dq dD_sayNoValue 11 rfl) (by decide) ?_
  refine ri_puti (zLs hL 0 rfl) (by decide) fD_100 (fun h => by cases h) rfl rfl (dq dD_sayNoValue 12 rfl) ?_
  refine zi_iconst (v := 3) (dq dD_sayNoValue 13 rfl) (by decide) ?_
  exact zi_ireturn rfl rfl (dq dD_sayNoValue 14 rfl) (q_ri h)
def FD_wasServed (N : Nat) (KC : Nat) (KS : Nat) (o : Nat) (l1 : Int32) (M : zM) : Option (Bool × zM) :=
  qa (zr M o 16) M 2 ((l1 >>> (6 &&& 31)) &&& 3) fun a1 =>
  if (lg_cmp ((zl M a1 ((l1 >>> (6 &&& 31)) &&& 3).toNatClampNeg) &&& ((1 : Int64) <<< ((l1 &&& 63).toInt64 &&& 63))) 0) = 0 then
    some (false, M)
  else
    some (true, M)
theorem SD_wasServed {g : zg} {d N : Nat} {KC KS : Nat} {r : Bool} {M1 : zM} {M : zM} {o : Nat} {l1 : Int32} (hz : zZ g KC KS) (hs0 : zsh M o = some (.inl 8)) (h : FD_wasServed N KC KS o l1 M = some (r, M1)) (hd : 0 ≤ d) : zEi g d mD_wasServed [va_rf (some o), .int l1] (M) (fun v Mq => v = bI r ∧ Mq = M1) := by
  unfold FD_wasServed at h
  refine zEb_q (r := r) (lv := [(0, va_rf (some o)), (1, .int l1)]) ⟨by decide +kernel, by decide, by decide +kernel⟩ (by simp [z_cr, z_ci]) (Nat.le_of_ble_eq_true rfl) rfl ?_
  refine zi_aload_n 0 (dq dD_wasServed 0 rfl) rfl ?_
  refine zi_getr hs0 fD_81 (dq dD_wasServed 1 rfl) ?_
  refine zi_iload_n 1 (dq dD_wasServed 2 rfl) rfl ?_
  refine zi_bipush (v := 6) (dq dD_wasServed 3 rfl) (by decide) ?_
  refine zi_ishr (dq dD_wasServed 4 rfl) ?_
  refine zi_iconst (v := 3) (dq dD_wasServed 5 rfl) (by decide) ?_
  refine zi_iand (dq dD_wasServed 6 rfl) ?_
  obtain ⟨a1, na1, ea1, ha1, ia1, h⟩ := q_a h
  refine zi_rc1 ea1 ?_
  refine zi_lald ha1 rfl ia1 (dq dD_wasServed 7 rfl) ?_
  refine zi_lconst (v := 1) (dq dD_wasServed 8 rfl) (by decide) ?_
  refine zi_iload_n 1 (dq dD_wasServed 9 rfl) rfl ?_
  refine zi_bipush (v := 63) (dq dD_wasServed 10 rfl) (by decide) ?_
  refine zi_iand (dq dD_wasServed 11 rfl) ?_
  refine zi_lshl (dq dD_wasServed 12 rfl) ?_
  refine zi_land (dq dD_wasServed 13 rfl) ?_
  refine zi_lconst (v := 0) (dq dD_wasServed 14 rfl) (by decide) ?_
  refine zi_lcmp (dq dD_wasServed 15 rfl) ?_
  refine zi_if_eq (tgt := 27) (dq dD_wasServed 16 rfl) (by decide) (fun c => ?_) (fun c => ?_)
  · have h := q_t c h
    refine zi_iconst (v := 0) (dq dD_wasServed 19 rfl) (by decide) ?_
    exact zi_ireturn rfl (by decide) (dq dD_wasServed 20 rfl) (q_rbZ (b := false) h)
  · have h := q_f c h
    refine zi_iconst (v := 1) (dq dD_wasServed 17 rfl) (by decide) ?_
    refine zi_goto (tgt := 28) (dq dD_wasServed 18 rfl) (by decide) ?_
    exact zi_ireturn rfl (by decide) (dq dD_wasServed 20 rfl) (q_rbZ (b := true) h)
def FD_serve_54 (N : Nat) (KC : Nat) (KS : Nat) (o : Nat) (l1 : Int32) (M : zM) : Option ((Int32 ⊕ String) × zM) :=
  qk (dLyB M o) <|
  qb (FD_refuseMessage N M l1 1 (zJo M o)) fun v2 J3 =>
  let M4 := zmm M o 32 J3
  some (.inl v2, M4)
theorem SD_serve_54 {g : zg} {d N : Nat} {KC KS : Nat} {r : (Int32 ⊕ String)} {M1 : zM} {M : zM}  {o : Nat} {l1 : Int32} (hz : zZ g KC KS) (h : FD_serve_54 N KC KS o l1 M = some (r, M1)) (hd : 35 ≤ d)  : zG g d mD_serve (zPq (rX r) (M1)) (M) 54 [(0, va_rf (some o)), (1, .int l1)] [] := by
  unfold FD_serve_54 at h
  refine zi_aload_n 0 (dq dD_serve 29 rfl) rfl ?_
  refine zi_iload_n 1 (dq dD_serve 30 rfl) rfl ?_
  refine zi_iconst (v := 1) (dq dD_serve 31 rfl) (by decide) ?_
  obtain ⟨c1, h⟩ := q_k h
  replace c1 := dLyB_ok c1
  obtain ⟨v2, J3, hv2, h⟩ := q_b h
  have qv2 := SD_refuseMessage (g := g) c1 hv2 (d := d - 1) (by omega)
  rw [zmm_J] at qv2
  refine zi_cVi2 qv2 wD_refuseMessage aD_179 iD_refuseMessage sD_refuseMessage (by omega) (zLs c1 0 rfl) rfl (Nat.le_of_ble_eq_true rfl) (dq dD_serve 32 rfl) (fun _ _ hh => ?_)
  obtain ⟨rfl, rfl⟩ := hh
  exact zi_ireturn rfl rfl (dq dD_serve 33 rfl) (q_rx h)
def FD_serve_87 (N : Nat) (KC : Nat) (KS : Nat) (o : Nat) (l1 : Int32) (M : zM) : Option ((Int32 ⊕ String) × zM) :=
  qk (dLyB M o) <|
  qb (FD_refuseMessage N M l1 2 (zJo M o)) fun v2 J3 =>
  let M4 := zmm M o 32 J3
  some (.inl v2, M4)
theorem SD_serve_87 {g : zg} {d N : Nat} {KC KS : Nat} {r : (Int32 ⊕ String)} {M1 : zM} {M : zM}  {o : Nat} {l1 : Int32} (hz : zZ g KC KS) (h : FD_serve_87 N KC KS o l1 M = some (r, M1)) (hd : 35 ≤ d)  : zG g d mD_serve (zPq (rX r) (M1)) (M) 87 [(0, va_rf (some o)), (1, .int l1)] [] := by
  unfold FD_serve_87 at h
  refine zi_aload_n 0 (dq dD_serve 49 rfl) rfl ?_
  refine zi_iload_n 1 (dq dD_serve 50 rfl) rfl ?_
  refine zi_iconst (v := 2) (dq dD_serve 51 rfl) (by decide) ?_
  obtain ⟨c1, h⟩ := q_k h
  replace c1 := dLyB_ok c1
  obtain ⟨v2, J3, hv2, h⟩ := q_b h
  have qv2 := SD_refuseMessage (g := g) c1 hv2 (d := d - 1) (by omega)
  rw [zmm_J] at qv2
  refine zi_cVi2 qv2 wD_refuseMessage aD_179 iD_refuseMessage sD_refuseMessage (by omega) (zLs c1 0 rfl) rfl (Nat.le_of_ble_eq_true rfl) (dq dD_serve 52 rfl) (fun _ _ hh => ?_)
  obtain ⟨rfl, rfl⟩ := hh
  exact zi_ireturn rfl rfl (dq dD_serve 53 rfl) (q_rx h)
def FD_serve_35 (N : Nat) (KC : Nat) (KS : Nat) (o : Nat) (t0 : Int32) (M : zM) : Option ((Int32 ⊕ String) × zM) :=
  qk (decide (zsh M o = some (.inl 8))) <|
  if (zi M o 5) < 3 then
    FD_serve_54 N KC KS o t0 M
  else
    qa (zr M o 4) M 0 0 fun a2 =>
    if (zi M a2 (0 : Int32).toNatClampNeg) = 1 then
      qa (zr M o 4) M 0 2 fun a3 =>
      let y4 := zi M a3 (2 : Int32).toNatClampNeg
      if y4 < 0 then
        FD_serve_87 N KC KS o t0 M
      else
        if 8 ≤ y4 then
          FD_serve_87 N KC KS o t0 M
        else
          qa (zr M o 13) M 4 y4 fun a5 =>
          if (zr M a5 y4.toNatClampNeg) = none then
            FD_serve_87 N KC KS o t0 M
          else
            qb (FD_wasServed N KC KS o t0 M) fun v6 M7 =>
            if (bI v6) = 0 then
              qk (decide (zsh M7 o = some (.inl 8))) <|
              qa (zr M7 o 13) M7 4 y4 fun a9 =>
              qa (zr M7 o 14) M7 0 y4 fun a10 =>
              qk (dLyB M7 o) <|
              qb (FD_readBuffer N M7 (zr M7 a9 y4.toNatClampNeg) (zi M7 a10 y4.toNatClampNeg) 3 (zJo M7 o)) fun v12 J13 =>
              let M14 := zmm M7 o 32 J13
              if (bI v12) = 0 then
                qk (decide (zsh M14 o = some (.inl 8))) <|
                qb (FD_markServed N KC KS o t0 M14) fun v46 M47 =>
                qk (dLyB M47 o) <|
                qb (FD_sayNoValue N M47 t0 (zJo M47 o)) fun v49 J50 =>
                let M51 := zmm M47 o 32 J50
                some (.inl v49, M51)
              else
                qk (decide (zsh M14 o = some (.inl 8))) <|
                qa (zr M14 o 13) M14 4 y4 fun a16 =>
                qa (zr M14 o 15) M14 0 y4 fun a17 =>
                qk (dLyB M14 o) <|
                qb (FD_writeFound N M14 (zr M14 a16 y4.toNatClampNeg) (zi M14 a17 y4.toNatClampNeg) 3 (zJo M14 o)) fun v19 J20 =>
                let M21 := zmm M14 o 32 J20
                if v19 = ((-1)) then
                  qk (dLyB M21 o) <|
                  qb (FD_refuseMessage N M21 t0 4 (zJo M21 o)) fun v42 J43 =>
                  let M44 := zmm M21 o 32 J43
                  some (.inl v42, M44)
                else
                  qk (decide (zsh M21 o = some (.inl 8))) <|
                  qb (FD_markServed N KC KS o t0 M21) fun v23 M24 =>
                  qk (decide (zsh M24 o = some (.inl 8))) <|
                  qk (dLyB M24 o) <|
                  qb (FV_copyOf N M24 (zJo M24 o)) fun v27 J28 =>
                  let M29 := zmm M24 o 32 J28
                  qk (decide (zsh M29 o = some (.inl 8))) <|
                  qa (zr M29 o 6) M29 0 0 fun a31 =>
                  let M32 := zpi M29 a31 (0 : Int32).toNatClampNeg 2
                  qa (zr M32 o 6) M32 0 1 fun a33 =>
                  let M34 := zpi M32 a33 (1 : Int32).toNatClampNeg t0
                  qa (zr M34 o 6) M34 0 2 fun a35 =>
                  let M36 := zpi M34 a35 (2 : Int32).toNatClampNeg y4
                  qk (dLyB M36 o) <|
                  qb (FD_keepWritten N M36 v19 (zJo M36 o)) fun v38 J39 =>
                  let M40 := zmm M36 o 32 J39
                  some (.inl 2, M40)
            else
              qk (dLyB M7 o) <|
              qb (FD_refuseMessage N M7 t0 3 (zJo M7 o)) fun v53 J54 =>
              let M55 := zmm M7 o 32 J54
              some (.inl v53, M55)
    else
      FD_serve_54 N KC KS o t0 M
theorem SD_serve_35 {g : zg} {d N : Nat} {KC KS : Nat} {r : (Int32 ⊕ String)} {M1 : zM} {M : zM}  {o : Nat} {t0 : Int32} (hz : zZ g KC KS) (h : FD_serve_35 N KC KS o t0 M = some (r, M1)) (hd : 35 ≤ d)  : zG g d mD_serve (zPq (rX r) (M1)) (M) 35 [(0, va_rf (some o))] [.int t0] := by
  unfold FD_serve_35 at h
  refine zi_istC_n (lv' := [(1, _), (0, _)]) (dq dD_serve 18 rfl) (by decide) (by simp [z_cr, z_ci]) rfl ?_
  refine zi_aload_n 1 (dq dD_serve 19 rfl) rfl ?_
  obtain ⟨c1, h⟩ := q_k h
  replace c1 := of_decide_eq_true c1
  refine zi_geti c1 fD_100 (dq dD_serve 20 rfl) ?_
  refine zi_iconst (v := 3) (dq dD_serve 21 rfl) (by decide) ?_
  refine zi_icmp_lt (tgt := 54) (dq dD_serve 22 rfl) (by decide) (fun c => ?_) (fun c => ?_)
  · have h := q_t c h
    exact zG_lv (zs_c 1 rfl (zs_c 0 rfl zs_n)) (SD_serve_54 hz h hd )
  · have h := q_f c h
    refine zi_aload_n 1 (dq dD_serve 23 rfl) rfl ?_
    refine zi_getr c1 fD_22 (dq dD_serve 24 rfl) ?_
    refine zi_iconst (v := 0) (dq dD_serve 25 rfl) (by decide) ?_
    obtain ⟨a2, na2, ea2, ha2, ia2, h⟩ := q_a h
    refine zi_rc1 ea2 ?_
    refine zi_iald ha2 rfl ia2 (dq dD_serve 26 rfl) ?_
    refine zi_iconst (v := 1) (dq dD_serve 27 rfl) (by decide) ?_
    refine zi_icmp_eq (tgt := 61) (dq dD_serve 28 rfl) (by decide) (fun c => ?_) (fun c => ?_)
    · have h := q_t c h
      refine zi_aload_n 1 (dq dD_serve 34 rfl) rfl ?_
      refine zi_getr c1 fD_22 (dq dD_serve 35 rfl) ?_
      refine zi_iconst (v := 2) (dq dD_serve 36 rfl) (by decide) ?_
      obtain ⟨a3, na3, ea3, ha3, ia3, h⟩ := q_a h
      refine zi_rc1 ea3 ?_
      refine zi_iald ha3 rfl ia3 (dq dD_serve 37 rfl) ?_
      refine zi_istC_n (lv' := [(2, _), (1, _), (0, _)]) (dq dD_serve 38 rfl) (by decide) (by simp [z_cr, z_ci]) rfl ?_
      refine zi_iload_n 0 (dq dD_serve 39 rfl) rfl ?_
      refine zi_if_lt (tgt := 87) (dq dD_serve 40 rfl) (by decide) (fun c => ?_) (fun c => ?_)
      · have h := q_t c h
        exact zG_lv (zs_c 2 rfl (zs_c 1 rfl zs_n)) (SD_serve_87 hz h hd )
      · have h := q_f c h
        refine zi_iload_n 0 (dq dD_serve 41 rfl) rfl ?_
        refine zi_bipush (v := 8) (dq dD_serve 42 rfl) (by decide) ?_
        refine zi_icmp_ge (tgt := 87) (dq dD_serve 43 rfl) (by decide) (fun c => ?_) (fun c => ?_)
        · have h := q_t c h
          exact zG_lv (zs_c 2 rfl (zs_c 1 rfl zs_n)) (SD_serve_87 hz h hd )
        · have h := q_f c h
          refine zi_aload_n 2 (dq dD_serve 44 rfl) rfl ?_
          refine zi_getr c1 fD_71 (dq dD_serve 45 rfl) ?_
          refine zi_iload_n 0 (dq dD_serve 46 rfl) rfl ?_
          obtain ⟨a5, na5, ea5, ha5, ia5, h⟩ := q_a h
          refine zi_rc1 ea5 ?_
          refine zi_aald ha5 rfl ia5 (dq dD_serve 47 rfl) ?_
          refine zi_ifnonnull (tgt := 94) (dq dD_serve 48 rfl) (by decide) (fun _ c => ?_) (fun c => ?_)
          · have h := q_f (by rw [c]; exact nofun) h
            refine zi_aload_n 2 (dq dD_serve 54 rfl) rfl ?_
            refine zi_iload_n 1 (dq dD_serve 55 rfl) rfl ?_
            obtain ⟨v6, M7, hv6, h⟩ := q_b h
            refine zi_cVi1 (SD_wasServed hz  c1 hv6 (d := d - 1) (by omega)) wD_wasServed aD_182 iD_wasServed sD_wasServed (by omega) c1 rfl (Nat.le_of_ble_eq_true rfl) (dq dD_serve 56 rfl) (fun _ _ hh => ?_)
            obtain ⟨rfl, rfl⟩ := hh
            refine zi_if_eq (tgt := 109) (dq dD_serve 57 rfl) (by decide) (fun c => ?_) (fun c => ?_)
            · have h := q_t c h
              refine zi_aload_n 2 (dq dD_serve 63 rfl) rfl ?_
              refine zi_aload_n 2 (dq dD_serve 64 rfl) rfl ?_
              obtain ⟨c8, h⟩ := q_k h
              replace c8 := of_decide_eq_true c8
              refine zi_getr c8 fD_71 (dq dD_serve 65 rfl) ?_
              refine zi_iload_n 0 (dq dD_serve 66 rfl) rfl ?_
              obtain ⟨a9, na9, ea9, ha9, ia9, h⟩ := q_a h
              refine zi_rc1 ea9 ?_
              refine zi_aald ha9 rfl ia9 (dq dD_serve 67 rfl) ?_
              refine zi_aload_n 2 (dq dD_serve 68 rfl) rfl ?_
              refine zi_getr c8 fD_75 (dq dD_serve 69 rfl) ?_
              refine zi_iload_n 0 (dq dD_serve 70 rfl) rfl ?_
              obtain ⟨a10, na10, ea10, ha10, ia10, h⟩ := q_a h
              refine zi_rc1 ea10 ?_
              refine zi_iald ha10 rfl ia10 (dq dD_serve 71 rfl) ?_
              refine zi_iconst (v := 3) (dq dD_serve 72 rfl) (by decide) ?_
              obtain ⟨c11, h⟩ := q_k h
              replace c11 := dLyB_ok c11
              obtain ⟨v12, J13, hv12, h⟩ := q_b h
              have qv12 := SD_readBuffer (g := g) c11 hv12 (d := d - 1) (by omega)
              rw [zmm_J] at qv12
              refine zi_cVi3 qv12 wD_readBuffer aD_133 iD_readBuffer sD_readBuffer (by omega) (zLs c11 0 rfl) rfl (Nat.le_of_ble_eq_true rfl) (dq dD_serve 73 rfl) (fun _ _ hh => ?_)
              obtain ⟨rfl, rfl⟩ := hh
              refine zi_if_ne (tgt := 140) (dq dD_serve 74 rfl) (by decide) (fun c => ?_) (fun c => ?_)
              · have h := q_f c h
                refine zi_aload_n 2 (dq dD_serve 82 rfl) rfl ?_
                refine zi_aload_n 2 (dq dD_serve 83 rfl) rfl ?_
                obtain ⟨c15, h⟩ := q_k h
                replace c15 := of_decide_eq_true c15
                refine zi_getr c15 fD_71 (dq dD_serve 84 rfl) ?_
                refine zi_iload_n 0 (dq dD_serve 85 rfl) rfl ?_
                obtain ⟨a16, na16, ea16, ha16, ia16, h⟩ := q_a h
                refine zi_rc1 ea16 ?_
                refine zi_aald ha16 rfl ia16 (dq dD_serve 86 rfl) ?_
                refine zi_aload_n 2 (dq dD_serve 87 rfl) rfl ?_
                refine zi_getr c15 fD_78 (dq dD_serve 88 rfl) ?_
                refine zi_iload_n 0 (dq dD_serve 89 rfl) rfl ?_
                obtain ⟨a17, na17, ea17, ha17, ia17, h⟩ := q_a h
                refine zi_rc1 ea17 ?_
                refine zi_iald ha17 rfl ia17 (dq dD_serve 90 rfl) ?_
                refine zi_iconst (v := 3) (dq dD_serve 91 rfl) (by decide) ?_
                obtain ⟨c18, h⟩ := q_k h
                replace c18 := dLyB_ok c18
                obtain ⟨v19, J20, hv19, h⟩ := q_b h
                have qv19 := SD_writeFound (g := g) c18 hv19 (d := d - 1) (by omega)
                rw [zmm_J] at qv19
                refine zi_cVi3 qv19 wD_writeFound aD_137 iD_writeFound sD_writeFound (by omega) (zLs c18 0 rfl) rfl (Nat.le_of_ble_eq_true rfl) (dq dD_serve 92 rfl) (fun _ _ hh => ?_)
                obtain ⟨rfl, rfl⟩ := hh
                refine zi_istC_n (lv' := [(3, _), (2, _), (1, _), (0, _)]) (dq dD_serve 93 rfl) (by decide) (by simp [z_cr, z_ci]) rfl ?_
                refine zi_iload_n 0 (dq dD_serve 94 rfl) rfl ?_
                refine zi_iconst (v := (-1)) (dq dD_serve 95 rfl) (by decide) ?_
                refine zi_icmp_ne (tgt := 170) (dq dD_serve 96 rfl) (by decide) (fun c => ?_) (fun c => ?_)
                · have h := q_f c h
                  refine zi_aload_n 3 (dq dD_serve 102 rfl) rfl ?_
                  refine zi_iload_n 2 (dq dD_serve 103 rfl) rfl ?_
                  obtain ⟨c22, h⟩ := q_k h
                  replace c22 := of_decide_eq_true c22
                  obtain ⟨v23, M24, hv23, h⟩ := q_b h
                  refine zi_cVv1 (SD_markServed hz  c22 hv23 (d := d - 1) (by omega)) wD_markServed aD_186 iD_markServed sD_markServed (by omega) c22 rfl (Nat.le_of_ble_eq_true rfl) (dq dD_serve 104 rfl) (fun _ hh => ?_)
                  subst hh
                  refine zi_aload_n 3 (dq dD_serve 105 rfl) rfl ?_
                  obtain ⟨c25, h⟩ := q_k h
                  replace c25 := of_decide_eq_true c25
                  refine zi_getr c25 fD_32 (dq dD_serve 106 rfl) ?_
                  refine zi_aload_n 3 (dq dD_serve 107 rfl) rfl ?_
                  refine zi_getr c25 fD_36 (dq dD_serve 108 rfl) ?_
                  obtain ⟨c26, h⟩ := q_k h
                  replace c26 := dLyB_ok c26
                  refine zi_rc1 (zLr c26 24 rfl : zr _ (_ + 0) _ = _) ?_
                  refine zi_rc0 (zLr c26 16 rfl : zr _ (_ + 0) _ = _) ?_
                  obtain ⟨v27, J28, hv27, h⟩ := q_b h
                  have qv27 := SV_copyOf (g := g) c26 hv27 (d := d - 1) (by omega)
                  rw [zmm_J] at qv27
                  refine zi_cVv1 qv27 wV_copyOf aD_146 iV_copyOf sV_copyOf (by omega) (zLs c26 8 rfl) rfl (Nat.le_of_ble_eq_true rfl) (dq dD_serve 109 rfl) (fun _ hh => ?_)
                  subst hh
                  refine zi_aload_n 3 (dq dD_serve 110 rfl) rfl ?_
                  obtain ⟨c30, h⟩ := q_k h
                  replace c30 := of_decide_eq_true c30
                  refine zi_getr c30 fD_26 (dq dD_serve 111 rfl) ?_
                  refine zi_iconst (v := 0) (dq dD_serve 112 rfl) (by decide) ?_
                  refine zi_iconst (v := 2) (dq dD_serve 113 rfl) (by decide) ?_
                  obtain ⟨a31, na31, ea31, ha31, ia31, h⟩ := q_a h
                  refine zi_rc2 ea31 ?_
                  refine zi_iast ha31 rfl ia31 (dq dD_serve 114 rfl) ?_
                  refine zi_aload_n 3 (dq dD_serve 115 rfl) rfl ?_
                  refine zi_getr c30 fD_26 (dq dD_serve 116 rfl) ?_
                  refine zi_iconst (v := 1) (dq dD_serve 117 rfl) (by decide) ?_
                  refine zi_iload_n 2 (dq dD_serve 118 rfl) rfl ?_
                  obtain ⟨a33, na33, ea33, ha33, ia33, h⟩ := q_a h
                  refine zi_rc2 ea33 ?_
                  refine zi_iast ha33 rfl ia33 (dq dD_serve 119 rfl) ?_
                  refine zi_aload_n 3 (dq dD_serve 120 rfl) rfl ?_
                  refine zi_getr c30 fD_26 (dq dD_serve 121 rfl) ?_
                  refine zi_iconst (v := 2) (dq dD_serve 122 rfl) (by decide) ?_
                  refine zi_iload_n 1 (dq dD_serve 123 rfl) rfl ?_
                  obtain ⟨a35, na35, ea35, ha35, ia35, h⟩ := q_a h
                  refine zi_rc2 ea35 ?_
                  refine zi_iast ha35 rfl ia35 (dq dD_serve 124 rfl) ?_
                  refine zi_aload_n 3 (dq dD_serve 125 rfl) rfl ?_
                  refine zi_iload_n 0 (dq dD_serve 126 rfl) rfl ?_
                  obtain ⟨c37, h⟩ := q_k h
                  replace c37 := dLyB_ok c37
                  obtain ⟨v38, J39, hv38, h⟩ := q_b h
                  have qv38 := SD_keepWritten (g := g) c37 hv38 (d := d - 1) (by omega)
                  rw [zmm_J] at qv38
                  refine zi_cVv1 qv38 wD_keepWritten aD_150 iD_keepWritten sD_keepWritten (by omega) (zLs c37 0 rfl) rfl (Nat.le_of_ble_eq_true rfl) (dq dD_serve 127 rfl) (fun _ hh => ?_)
                  subst hh
                  refine zi_iconst (v := 2) (dq dD_serve 128 rfl) (by decide) ?_
                  exact zi_ireturn rfl rfl (dq dD_serve 129 rfl) (q_rx h)
                · have h := q_t c h
                  refine zi_aload_n 3 (dq dD_serve 97 rfl) rfl ?_
                  refine zi_iload_n 2 (dq dD_serve 98 rfl) rfl ?_
                  refine zi_iconst (v := 4) (dq dD_serve 99 rfl) (by decide) ?_
                  obtain ⟨c41, h⟩ := q_k h
                  replace c41 := dLyB_ok c41
                  obtain ⟨v42, J43, hv42, h⟩ := q_b h
                  have qv42 := SD_refuseMessage (g := g) c41 hv42 (d := d - 1) (by omega)
                  rw [zmm_J] at qv42
                  refine zi_cVi2 qv42 wD_refuseMessage aD_179 iD_refuseMessage sD_refuseMessage (by omega) (zLs c41 0 rfl) rfl (Nat.le_of_ble_eq_true rfl) (dq dD_serve 100 rfl) (fun _ _ hh => ?_)
                  obtain ⟨rfl, rfl⟩ := hh
                  exact zi_ireturn rfl rfl (dq dD_serve 101 rfl) (q_rx h)
              · have h := q_t c h
                refine zi_aload_n 2 (dq dD_serve 75 rfl) rfl ?_
                refine zi_iload_n 1 (dq dD_serve 76 rfl) rfl ?_
                obtain ⟨c45, h⟩ := q_k h
                replace c45 := of_decide_eq_true c45
                obtain ⟨v46, M47, hv46, h⟩ := q_b h
                refine zi_cVv1 (SD_markServed hz  c45 hv46 (d := d - 1) (by omega)) wD_markServed aD_186 iD_markServed sD_markServed (by omega) c45 rfl (Nat.le_of_ble_eq_true rfl) (dq dD_serve 77 rfl) (fun _ hh => ?_)
                subst hh
                refine zi_aload_n 2 (dq dD_serve 78 rfl) rfl ?_
                refine zi_iload_n 1 (dq dD_serve 79 rfl) rfl ?_
                obtain ⟨c48, h⟩ := q_k h
                replace c48 := dLyB_ok c48
                obtain ⟨v49, J50, hv49, h⟩ := q_b h
                have qv49 := SD_sayNoValue (g := g) c48 hv49 (d := d - 1) (by omega)
                rw [zmm_J] at qv49
                refine zi_cVi1 qv49 wD_sayNoValue aD_189 iD_sayNoValue sD_sayNoValue (by omega) (zLs c48 0 rfl) rfl (Nat.le_of_ble_eq_true rfl) (dq dD_serve 80 rfl) (fun _ _ hh => ?_)
                obtain ⟨rfl, rfl⟩ := hh
                exact zi_ireturn rfl rfl (dq dD_serve 81 rfl) (q_rx h)
            · have h := q_f c h
              refine zi_aload_n 2 (dq dD_serve 58 rfl) rfl ?_
              refine zi_iload_n 1 (dq dD_serve 59 rfl) rfl ?_
              refine zi_iconst (v := 3) (dq dD_serve 60 rfl) (by decide) ?_
              obtain ⟨c52, h⟩ := q_k h
              replace c52 := dLyB_ok c52
              obtain ⟨v53, J54, hv53, h⟩ := q_b h
              have qv53 := SD_refuseMessage (g := g) c52 hv53 (d := d - 1) (by omega)
              rw [zmm_J] at qv53
              refine zi_cVi2 qv53 wD_refuseMessage aD_179 iD_refuseMessage sD_refuseMessage (by omega) (zLs c52 0 rfl) rfl (Nat.le_of_ble_eq_true rfl) (dq dD_serve 61 rfl) (fun _ _ hh => ?_)
              obtain ⟨rfl, rfl⟩ := hh
              exact zi_ireturn rfl rfl (dq dD_serve 62 rfl) (q_rx h)
          · have h := q_t c h
            exact zG_lv (zs_c 2 rfl (zs_c 1 rfl zs_n)) (SD_serve_87 hz h hd )
    · have h := q_f c h
      exact zG_lv (zs_c 1 rfl (zs_c 0 rfl zs_n)) (SD_serve_54 hz h hd )
def FD_serve (N : Nat) (KC : Nat) (KS : Nat) (o : Nat) (M : zM) : Option ((Int32 ⊕ String) × zM) :=
  if (zi M o 3) = 0 then
    qk (decide (zsz M + 1 ≤ KC) && decide (zsl M + 6 ≤ KS)) <|
    some (.inr "java/lang/IllegalStateException", zgap M 6)
  else
    if (zi M o 5) ≤ 1 then
      FD_serve_35 N KC KS o 0 M
    else
      qa (zr M o 4) M 0 1 fun a1 =>
      FD_serve_35 N KC KS o (zi M a1 (1 : Int32).toNatClampNeg) M
theorem SD_serve {g : zg} {d N : Nat} {KC KS : Nat} {r : (Int32 ⊕ String)} {M1 : zM} {M : zM} {o : Nat} (hz : zZ g KC KS) (hs0 : zsh M o = some (.inl 8)) (h : FD_serve N KC KS o M = some (r, M1)) (hd : 35 ≤ d) : zG g d mD_serve (zPq (rX r) (M1)) M 0 [(0, va_rf (some o))] [] := by
  unfold FD_serve at h
  refine zi_aload_n 0 (dq dD_serve 0 rfl) rfl ?_
  refine zi_geti hs0 fD_96 (dq dD_serve 1 rfl) ?_
  refine zi_if_ne (tgt := 17) (dq dD_serve 2 rfl) (by decide) (fun c => ?_) (fun c => ?_)
  · have h := q_f c h
    refine zi_aload_n 0 (dq dD_serve 8 rfl) rfl ?_
    refine zi_geti hs0 fD_100 (dq dD_serve 9 rfl) ?_
    refine zi_iconst (v := 1) (dq dD_serve 10 rfl) (by decide) ?_
    refine zi_icmp_le (tgt := 34) (dq dD_serve 11 rfl) (by decide) (fun c => ?_) (fun c => ?_)
    · have h := q_t c h
      refine zi_iconst (v := 0) (dq dD_serve 17 rfl) (by decide) ?_
      exact zG_lv (zs_c 0 rfl zs_n) (SD_serve_35 hz h hd )
    · have h := q_f c h
      refine zi_aload_n 0 (dq dD_serve 12 rfl) rfl ?_
      refine zi_getr hs0 fD_22 (dq dD_serve 13 rfl) ?_
      refine zi_iconst (v := 1) (dq dD_serve 14 rfl) (by decide) ?_
      obtain ⟨a1, na1, ea1, ha1, ia1, h⟩ := q_a h
      refine zi_rc1 ea1 ?_
      refine zi_iald ha1 rfl ia1 (dq dD_serve 15 rfl) ?_
      refine zi_goto (tgt := 35) (dq dD_serve 16 rfl) (by decide) ?_
      exact zG_lv (zs_c 0 rfl zs_n) (SD_serve_35 hz h hd )
  · have h := q_t c h
    obtain ⟨c2, h⟩ := q_k h
    exact zi_throw hz.2.2 (by simp [zXN]) x_ise (j := 121) (by simp [zXS]; try rfl) rfl rfl bD_119 (q_room hz.1 hz.2.1 c2) (by omega) (Nat.le_of_ble_eq_true rfl) (dq dD_serve 3 rfl) (dq dD_serve 4 rfl) (dq dD_serve 5 rfl) (dq dD_serve 6 rfl) (dq dD_serve 7 rfl) (q_thX h)
