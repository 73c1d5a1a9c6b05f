/-! THE CLASS AS FUNCTIONS, 7 (tools/genZ.py) -/
def FC_typeNamed (N : Nat) (KC : Nat) (KS : Nat) (o : Nat) (l1 : Int32) (M : zM) : Option (Option Nat × zM) :=
  qc (FC_isName N l1) fun v1 =>
  if (bI v1) = 0 then
    some (none, M)
  else
    qa (zr M o 1) M 4 (l1 - 65) fun a2 =>
    some ((zr M a2 (l1 - 65).toNatClampNeg), M)
theorem SC_typeNamed {g : zg} {d N : Nat} {KC KS : Nat} {r : Option Nat} {M1 : zM} {M : zM} {o : Nat} {l1 : Int32} (hz : zZ g KC KS) (hs0 : zsh M o = some (.inl 0)) (h : FC_typeNamed N KC KS o l1 M = some (r, M1)) (hd : 1 ≤ d) : zEr g d mC_typeNamed [va_rf (some o), .int l1] (M) (fun v Mq => v = r ∧ Mq = M1) := by
  unfold FC_typeNamed at h
  refine zEr_q (r := r) (lv := [(0, va_rf (some o)), (1, .int l1)]) ⟨by decide +kernel, by decide, by decide +kernel⟩ (by simp [z_cr, z_ci]) (Nat.le_of_ble_eq_true rfl) rfl ?_
  refine zi_iload_n 1 (dq dC_typeNamed 0 rfl) rfl ?_
  obtain ⟨v1, hv1, h⟩ := q_c h
  refine zi_cSi1 (SC_isName  hv1 (d := d - 1) (by omega)) wC_isName aC_30 tC_isName (by omega) (Nat.le_of_ble_eq_true rfl) (dq dC_typeNamed 1 rfl) (fun _ _ hh => ?_)
  obtain ⟨rfl, rfl⟩ := hh
  refine zi_if_eq (tgt := 19) (dq dC_typeNamed 2 rfl) (by decide) (fun c => ?_) (fun c => ?_)
  · have h := q_t c h
    refine zi_null (dq dC_typeNamed 10 rfl) ?_
    exact zi_areturn rfl (dq dC_typeNamed 11 rfl) (q_rrZ h)
  · have h := q_f c h
    refine zi_aload_n 0 (dq dC_typeNamed 3 rfl) rfl ?_
    refine zi_getr hs0 fC_17 (dq dC_typeNamed 4 rfl) ?_
    refine zi_iload_n 1 (dq dC_typeNamed 5 rfl) rfl ?_
    refine zi_bipush (v := 65) (dq dC_typeNamed 6 rfl) (by decide) ?_
    refine zi_isub (dq dC_typeNamed 7 rfl) ?_
    obtain ⟨a2, na2, ea2, ha2, ia2, h⟩ := q_a h
    refine zi_rc1 ea2 ?_
    refine zi_aald ha2 rfl ia2 (dq dC_typeNamed 8 rfl) ?_
    refine zi_goto (tgt := 20) (dq dC_typeNamed 9 rfl) (by decide) ?_
    exact zi_areturn rfl (dq dC_typeNamed 11 rfl) (q_rrZ h)
def FC_nextCharacter (N : Nat) (KC : Nat) (KS : Nat) (o : Nat) (M : zM) : Option (Int32 × zM) :=
  if (zi M o 6) ≤ (zi M o 7) then
    some (((-1)), M)
  else
    qa (zr M o 0) M 1 (zi M o 7) fun a1 =>
    some ((zi M a1 (zi M o 7).toNatClampNeg), M)
theorem SC_nextCharacter {g : zg} {d N : Nat} {KC KS : Nat} {r : Int32} {M1 : zM} {M : zM} {o : Nat} (hz : zZ g KC KS) (hs0 : zsh M o = some (.inl 0)) (h : FC_nextCharacter N KC KS o M = some (r, M1)) (hd : 0 ≤ d) : zEi g d mC_nextCharacter [va_rf (some o)] (M) (fun v Mq => v = r ∧ Mq = M1) := by
  unfold FC_nextCharacter at h
  refine zEi_q (r := r) (lv := [(0, va_rf (some o))]) ⟨by decide +kernel, by decide, by decide +kernel⟩ (by simp [z_cr, z_ci]) (Nat.le_of_ble_eq_true rfl) rfl ?_
  refine zi_aload_n 0 (dq dC_nextCharacter 0 rfl) rfl ?_
  refine zi_geti hs0 fC_44 (dq dC_nextCharacter 1 rfl) ?_
  refine zi_aload_n 0 (dq dC_nextCharacter 2 rfl) rfl ?_
  refine zi_geti hs0 fC_40 (dq dC_nextCharacter 3 rfl) ?_
  refine zi_icmp_ge (tgt := 23) (dq dC_nextCharacter 4 rfl) (by decide) (fun c => ?_) (fun c => ?_)
  · have h := q_t c h
    refine zi_iconst (v := (-1)) (dq dC_nextCharacter 11 rfl) (by decide) ?_
    exact zi_ireturn rfl rfl (dq dC_nextCharacter 12 rfl) (q_riZ h)
  · have h := q_f c h
    refine zi_aload_n 0 (dq dC_nextCharacter 5 rfl) rfl ?_
    refine zi_getr hs0 fC_9 (dq dC_nextCharacter 6 rfl) ?_
    refine zi_aload_n 0 (dq dC_nextCharacter 7 rfl) rfl ?_
    refine zi_geti hs0 fC_44 (dq dC_nextCharacter 8 rfl) ?_
    obtain ⟨a1, na1, ea1, ha1, ia1, h⟩ := q_a h
    refine zi_rc1 ea1 ?_
    refine zi_cald ha1 rfl ia1 (dq dC_nextCharacter 9 rfl) ?_
    refine zi_goto (tgt := 24) (dq dC_nextCharacter 10 rfl) (by decide) ?_
    exact zi_ireturn rfl rfl (dq dC_nextCharacter 12 rfl) (q_riZ h)
def FC_refuse (N : Nat) (KC : Nat) (KS : Nat) (o : Nat) (l1 : Int32) (l2 : Int32) (M : zM) : Option (Unit × zM) :=
  let M1 := zpi M o 8 (l1 + (16 * l2))
  some ((), M1)
theorem SC_refuse {g : zg} {d N : Nat} {KC KS : Nat} {r : Unit} {M1 : zM} {M : zM} {o : Nat} {l1 : Int32} {l2 : Int32} (hz : zZ g KC KS) (hs0 : zsh M o = some (.inl 0)) (h : FC_refuse N KC KS o l1 l2 M = some (r, M1)) (hd : 0 ≤ d) : zEv g d mC_refuse [va_rf (some o), .int l1, .int l2] (M) (fun Mq => Mq = M1) := by
  unfold FC_refuse at h
  refine zEu_q (r := r) (lv := [(0, va_rf (some o)), (1, .int l1), (2, .int l2)]) ⟨by decide +kernel, by decide, by decide +kernel⟩ (by simp [z_cr, z_ci]) (Nat.le_of_ble_eq_true rfl) rfl ?_
  refine zi_aload_n 0 (dq dC_refuse 0 rfl) rfl ?_
  refine zi_iload_n 1 (dq dC_refuse 1 rfl) rfl ?_
  refine zi_bipush (v := 16) (dq dC_refuse 2 rfl) (by decide) ?_
  refine zi_iload_n 2 (dq dC_refuse 3 rfl) rfl ?_
  refine zi_imul (dq dC_refuse 4 rfl) ?_
  refine zi_iadd (dq dC_refuse 5 rfl) ?_
  refine zi_puti hs0 fC_47 (fun h => by cases h) rfl rfl (dq dC_refuse 6 rfl) ?_
  exact zi_return rfl (dq dC_refuse 7 rfl) (q_ruZ h)
def FC_pass (N : Nat) (KC : Nat) (KS : Nat) (o : Nat) (l1 : Int32) (M : zM) : Option (Bool × zM) :=
  qb (FC_nextCharacter N KC KS o M) fun v1 M2 =>
  if v1 = l1 then
    qk (decide (zsh M2 o = some (.inl 0))) <|
    let M4 := zpi M2 o 7 ((zi M2 o 7) + 1)
    some (true, M4)
  else
    qk (decide (zsh M2 o = some (.inl 0))) <|
    qb (FC_refuse N KC KS o 1 (zi M2 o 7) M2) fun v6 M7 =>
    some (false, M7)
theorem SC_pass {g : zg} {d N : Nat} {KC KS : Nat} {r : Bool} {M1 : zM} {M : zM} {o : Nat} {l1 : Int32} (hz : zZ g KC KS) (hs0 : zsh M o = some (.inl 0)) (h : FC_pass N KC KS o l1 M = some (r, M1)) (hd : 1 ≤ d) : zEi g d mC_pass [va_rf (some o), .int l1] (M) (fun v Mq => v = bI r ∧ Mq = M1) := by
  unfold FC_pass at h
  refine zEb_q (r := r) (lv := [(0, va_rf (some o)), (1, .int l1)]) ⟨by decide +kernel, by decide, by decide +kernel⟩ (by simp [z_cr, z_ci]) (Nat.le_of_ble_eq_true rfl) rfl ?_
  refine zi_aload_n 0 (dq dC_pass 0 rfl) rfl ?_
  obtain ⟨v1, M2, hv1, h⟩ := q_b h
  refine zi_cVi0 (SC_nextCharacter hz  hs0 hv1 (d := d - 1) (by omega)) wC_nextCharacter aC_59 iC_nextCharacter sC_nextCharacter (by omega) hs0 rfl (Nat.le_of_ble_eq_true rfl) (dq dC_pass 1 rfl) (fun _ _ hh => ?_)
  obtain ⟨rfl, rfl⟩ := hh
  refine zi_iload_n 1 (dq dC_pass 2 rfl) rfl ?_
  refine zi_icmp_eq (tgt := 19) (dq dC_pass 3 rfl) (by decide) (fun c => ?_) (fun c => ?_)
  · have h := q_t c h
    refine zi_aload_n 0 (dq dC_pass 11 rfl) rfl ?_
    refine zi_dup (dq dC_pass 12 rfl) (by first | rfl | exact z_cr _) ?_
    obtain ⟨c3, h⟩ := q_k h
    replace c3 := of_decide_eq_true c3
    refine zi_geti c3 fC_44 (dq dC_pass 13 rfl) ?_
    refine zi_iconst (v := 1) (dq dC_pass 14 rfl) (by decide) ?_
    refine zi_iadd (dq dC_pass 15 rfl) ?_
    refine zi_puti c3 fC_44 (fun h => by cases h) rfl rfl (dq dC_pass 16 rfl) ?_
    refine zi_iconst (v := 1) (dq dC_pass 17 rfl) (by decide) ?_
    exact zi_ireturn rfl (by decide) (dq dC_pass 18 rfl) (q_rbZ (b := true) h)
  · have h := q_f c h
    refine zi_aload_n 0 (dq dC_pass 4 rfl) rfl ?_
    refine zi_iconst (v := 1) (dq dC_pass 5 rfl) (by decide) ?_
    refine zi_aload_n 0 (dq dC_pass 6 rfl) rfl ?_
    obtain ⟨c5, h⟩ := q_k h
    replace c5 := of_decide_eq_true c5
    refine zi_geti c5 fC_44 (dq dC_pass 7 rfl) ?_
    obtain ⟨v6, M7, hv6, h⟩ := q_b h
    refine zi_cVv2 (SC_refuse hz  c5 hv6 (d := d - 1) (by omega)) wC_refuse aC_63 iC_refuse sC_refuse (by omega) c5 rfl (Nat.le_of_ble_eq_true rfl) (dq dC_pass 8 rfl) (fun _ hh => ?_)
    subst hh
    refine zi_iconst (v := 0) (dq dC_pass 9 rfl) (by decide) ?_
    exact zi_ireturn rfl (by decide) (dq dC_pass 10 rfl) (q_rbZ (b := false) h)
def FC_newType_55 (N : Nat) (KC : Nat) (KS : Nat) (o : Nat) (l1 : Int32) (l2 : Option Nat) (M : zM) : Option (Option Nat × zM) :=
  qo l2 M 6 fun o1 =>
  qb (FT_begin N KC KS o1 l1 M) fun v2 M3 =>
  qk (decide (zsh M3 o = some (.inl 0))) <|
  let M5 := zpi M3 o 4 ((zi M3 o 4) + 1)
  some (l2, M5)
theorem SC_newType_55 {g : zg} {d N : Nat} {KC KS : Nat} {r : Option Nat} {M1 : zM} {M : zM}  {o : Nat} {l1 : Int32} {l2 : Option Nat} (hz : zZ g KC KS) (h : FC_newType_55 N KC KS o l1 l2 M = some (r, M1)) (hd : 2 ≤ d)  : zG g d mC_newType (zPq (rR r) (M1)) (M) 55 [(0, va_rf (some o)), (1, .int l1), (2, va_rf l2)] [] := by
  unfold FC_newType_55 at h
  refine zi_aload_n 2 (dq dC_newType 31 rfl) rfl ?_
  refine zi_iload_n 1 (dq dC_newType 32 rfl) rfl ?_
  obtain ⟨o1, eo1, ho1, h⟩ := q_o h
  refine zi_rc1 eo1 ?_
  obtain ⟨v2, M3, hv2, h⟩ := q_b h
  refine zi_cVv1 (ST_begin hz  ho1 hv2 (d := d - 1) (by omega)) wT_begin aC_212 iT_begin sT_begin (by omega) ho1 rfl (Nat.le_of_ble_eq_true rfl) (dq dC_newType 33 rfl) (fun _ hh => ?_)
  subst hh
  refine zi_aload_n 0 (dq dC_newType 34 rfl) rfl ?_
  refine zi_dup (dq dC_newType 35 rfl) (by first | rfl | exact z_cr _) ?_
  obtain ⟨c4, h⟩ := q_k h
  replace c4 := of_decide_eq_true c4
  refine zi_geti c4 fC_50 (dq dC_newType 36 rfl) ?_
  refine zi_iconst (v := 1) (dq dC_newType 37 rfl) (by decide) ?_
  refine zi_iadd (dq dC_newType 38 rfl) ?_
  refine zi_puti c4 fC_50 (fun h => by cases h) rfl rfl (dq dC_newType 39 rfl) ?_
  refine zi_aload_n 2 (dq dC_newType 40 rfl) rfl ?_
  exact zi_areturn rfl (dq dC_newType 41 rfl) (q_rrZ h)
def FC_newType (N : Nat) (KC : Nat) (KS : Nat) (o : Nat) (l1 : Int32) (M : zM) : Option (Option Nat × zM) :=
  ql (zr M o 2) M 4 fun a1 na1 =>
  if (zi M o 4) < (nI na1) then
    qa (zr M o 2) M 4 (zi M o 4) fun a2 =>
    let y3 := zr M a2 (zi M o 4).toNatClampNeg
    if y3 = none then
      qk (decide (zsz M + 1 ≤ KC) && decide (zsl M + 12 ≤ KS)) <|
      let o6 := zsz M
      let M5 := znew M (.inl 6) 12
      qb (FT_init N KC KS o6 M5) fun v7 M8 =>
      qk (decide (zsh M8 o = some (.inl 0))) <|
      qa (zr M8 o 2) M8 4 (zi M8 o 4) fun a10 =>
      qk (decide (zsh M8 o6 = some (.inl 6))) <|
      let M11 := zpr M8 a10 (zi M8 o 4).toNatClampNeg (some o6)
      FC_newType_55 N KC KS o l1 (some o6) M11
    else
      FC_newType_55 N KC KS o l1 y3 M
  else
    qb (FC_refuse N KC KS o 1 (zi M o 7) M) fun v13 M14 =>
    some (none, M14)
theorem SC_newType {g : zg} {d N : Nat} {KC KS : Nat} {r : Option Nat} {M1 : zM} {M : zM} {o : Nat} {l1 : Int32} (hz : zZ g KC KS) (hs0 : zsh M o = some (.inl 0)) (h : FC_newType N KC KS o l1 M = some (r, M1)) (hd : 2 ≤ d) : zEr g d mC_newType [va_rf (some o), .int l1] (M) (fun v Mq => v = r ∧ Mq = M1) := by
  unfold FC_newType at h
  refine zEr_q (r := r) (lv := [(0, va_rf (some o)), (1, .int l1)]) ⟨by decide +kernel, by decide, by decide +kernel⟩ (by simp [z_cr, z_ci]) (Nat.le_of_ble_eq_true rfl) rfl ?_
  refine zi_aload_n 0 (dq dC_newType 0 rfl) rfl ?_
  refine zi_geti hs0 fC_50 (dq dC_newType 1 rfl) ?_
  refine zi_aload_n 0 (dq dC_newType 2 rfl) rfl ?_
  refine zi_getr hs0 fC_21 (dq dC_newType 3 rfl) ?_
  obtain ⟨a1, na1, ea1, ha1, h⟩ := q_l h
  refine zi_rc0 ea1 ?_
  refine zi_alen ha1 rfl (dq dC_newType 4 rfl) ?_
  refine zi_icmp_lt (tgt := 23) (dq dC_newType 5 rfl) (by decide) (fun c => ?_) (fun c => ?_)
  · have h := q_t c h
    refine zi_aload_n 0 (dq dC_newType 13 rfl) rfl ?_
    refine zi_getr hs0 fC_21 (dq dC_newType 14 rfl) ?_
    refine zi_aload_n 0 (dq dC_newType 15 rfl) rfl ?_
    refine zi_geti hs0 fC_50 (dq dC_newType 16 rfl) ?_
    obtain ⟨a2, na2, ea2, ha2, ia2, h⟩ := q_a h
    refine zi_rc1 ea2 ?_
    refine zi_aald ha2 rfl ia2 (dq dC_newType 17 rfl) ?_
    refine zi_astC_n (lv' := [(2, _), (0, _), (1, _)]) (dq dC_newType 18 rfl) (by decide) (by simp [z_cr, z_ci]) rfl ?_
    refine zi_aload_n 0 (dq dC_newType 19 rfl) rfl ?_
    refine zi_ifnonnull (tgt := 55) (dq dC_newType 20 rfl) (by decide) (fun _ c => ?_) (fun c => ?_)
    · have h := q_f (by rw [c]; exact nofun) h
      exact zG_lv (zs_c 1 rfl (zs_c 2 rfl (zs_c 0 rfl zs_n))) (SC_newType_55 hz h hd )
    · have h := q_t c h
      obtain ⟨c4, h⟩ := q_k h
      refine zi_new kT vT bC_15 nT gT (q_room hz.1 hz.2.1 c4) (dq dC_newType 21 rfl) ?_
      refine zi_dup (dq dC_newType 22 rfl) (by first | rfl | exact z_cr _) ?_
      obtain ⟨v7, M8, hv7, h⟩ := q_b h
      refine zi_cI0 rfl (ST_init hz  (z_nsh _ _ _) hv7 (d := d - 1) (by omega)) wT_init aC_211 iT_init rfl (by omega) (Nat.le_of_ble_eq_true rfl) (dq dC_newType 23 rfl) (fun _ hh => ?_)
      subst hh
      refine zi_astC_n (lv' := [(2, _), (0, _), (1, _)]) (dq dC_newType 24 rfl) (by decide) (by simp [z_cr, z_ci]) rfl ?_
      refine zi_aload_n 1 (dq dC_newType 25 rfl) rfl ?_
      obtain ⟨c9, h⟩ := q_k h
      replace c9 := of_decide_eq_true c9
      refine zi_getr c9 fC_21 (dq dC_newType 26 rfl) ?_
      refine zi_aload_n 1 (dq dC_newType 27 rfl) rfl ?_
      refine zi_geti c9 fC_50 (dq dC_newType 28 rfl) ?_
      refine zi_aload_n 0 (dq dC_newType 29 rfl) rfl ?_
      obtain ⟨a10, na10, ea10, ha10, ia10, h⟩ := q_a h
      refine zi_rc2 ea10 ?_
      obtain ⟨c12, h⟩ := q_k h
      replace c12 := of_decide_eq_true c12
      refine zi_aast ha10 rfl c12 rfl ia10 (dq dC_newType 30 rfl) ?_
      exact zG_lv (zs_c 1 rfl (zs_c 2 rfl (zs_c 0 rfl zs_n))) (SC_newType_55 hz h hd )
  · have h := q_f c h
    refine zi_aload_n 0 (dq dC_newType 6 rfl) rfl ?_
    refine zi_iconst (v := 1) (dq dC_newType 7 rfl) (by decide) ?_
    refine zi_aload_n 0 (dq dC_newType 8 rfl) rfl ?_
    refine zi_geti hs0 fC_44 (dq dC_newType 9 rfl) ?_
    obtain ⟨v13, M14, hv13, h⟩ := q_b h
    refine zi_cVv2 (SC_refuse hz  hs0 hv13 (d := d - 1) (by omega)) wC_refuse aC_63 iC_refuse sC_refuse (by omega) hs0 rfl (Nat.le_of_ble_eq_true rfl) (dq dC_newType 10 rfl) (fun _ hh => ?_)
    subst hh
    refine zi_null (dq dC_newType 11 rfl) ?_
    exact zi_areturn rfl (dq dC_newType 12 rfl) (q_rrZ h)
def FC_readTag_108 (N : Nat) (KC : Nat) (KS : Nat) (l3 : Option Nat) (t0 : Option Nat) (t1 : Int32) (t2 : Int32) (M : zM) : Option (Option Nat × zM) :=
  qo t0 M 6 fun o1 =>
  qb (FT_beginTag N KC KS o1 t1 t2 M) fun v2 M3 =>
  some (l3, M3)
theorem SC_readTag_108 {g : zg} {d N : Nat} {KC KS : Nat} {r : Option Nat} {M1 : zM} {M : zM}  {l3 : Option Nat} {t0 : Option Nat} {t1 : Int32} {t2 : Int32} (hz : zZ g KC KS) (h : FC_readTag_108 N KC KS l3 t0 t1 t2 M = some (r, M1)) (hd : 3 ≤ d)  : zG g d mC_readTag (zPq (rR r) (M1)) (M) 108 [(3, va_rf l3)] [.int t2, .int t1, va_rf t0] := by
  unfold FC_readTag_108 at h
  obtain ⟨o1, eo1, ho1, h⟩ := q_o h
  refine zi_rc2 eo1 ?_
  obtain ⟨v2, M3, hv2, h⟩ := q_b h
  refine zi_cVv2 (ST_beginTag hz  ho1 hv2 (d := d - 1) (by omega)) wT_beginTag aC_106 iT_beginTag sT_beginTag (by omega) ho1 rfl (Nat.le_of_ble_eq_true rfl) (dq dC_readTag 62 rfl) (fun _ hh => ?_)
  subst hh
  refine zi_aload_n 0 (dq dC_readTag 63 rfl) rfl ?_
  exact zi_areturn rfl (dq dC_readTag 64 rfl) (q_rrZ h)
def FC_readTag_72 (N : Nat) (KC : Nat) (KS : Nat) (o : Nat) (l1 : Int32) (l2 : Int32) (M : zM) : Option (Option Nat × zM) :=
  qk (decide (zsh M o = some (.inl 0))) <|
  qb (FC_pass N KC KS o 93 M) fun v2 M3 =>
  if (bI v2) = 0 then
    some (none, M3)
  else
    qk (decide (zsh M3 o = some (.inl 0))) <|
    qb (FC_newType N KC KS o 10 M3) fun v5 M6 =>
    if v5 = none then
      some (v5, M6)
    else
      if l2 = 0 then
        FC_readTag_108 N KC KS v5 v5 (l1 - 48) 1 M6
      else
        FC_readTag_108 N KC KS v5 v5 (l1 - 48) 0 M6
theorem SC_readTag_72 {g : zg} {d N : Nat} {KC KS : Nat} {r : Option Nat} {M1 : zM} {M : zM}  {o : Nat} {l1 : Int32} {l2 : Int32} (hz : zZ g KC KS) (h : FC_readTag_72 N KC KS o l1 l2 M = some (r, M1)) (hd : 3 ≤ d)  : zG g d mC_readTag (zPq (rR r) (M1)) (M) 72 [(0, va_rf (some o)), (1, .int l1), (2, .int l2)] [] := by
  unfold FC_readTag_72 at h
  refine zi_aload_n 0 (dq dC_readTag 41 rfl) rfl ?_
  refine zi_bipush (v := 93) (dq dC_readTag 42 rfl) (by decide) ?_
  obtain ⟨c1, h⟩ := q_k h
  replace c1 := of_decide_eq_true c1
  obtain ⟨v2, M3, hv2, h⟩ := q_b h
  refine zi_cVi1 (SC_pass hz  c1 hv2 (d := d - 1) (by omega)) wC_pass aC_67 iC_pass sC_pass (by omega) c1 rfl (Nat.le_of_ble_eq_true rfl) (dq dC_readTag 43 rfl) (fun _ _ hh => ?_)
  obtain ⟨rfl, rfl⟩ := hh
  refine zi_if_ne (tgt := 83) (dq dC_readTag 44 rfl) (by decide) (fun c => ?_) (fun c => ?_)
  · have h := q_f c h
    refine zi_aload_n 0 (dq dC_readTag 47 rfl) rfl ?_
    refine zi_bipush (v := 10) (dq dC_readTag 48 rfl) (by decide) ?_
    obtain ⟨c4, h⟩ := q_k h
    replace c4 := of_decide_eq_true c4
    obtain ⟨v5, M6, hv5, h⟩ := q_b h
    refine zi_cVr1 (SC_newType hz  c4 hv5 (d := d - 1) (by omega)) wC_newType aC_103 iC_newType sC_newType (by omega) c4 rfl (Nat.le_of_ble_eq_true rfl) (dq dC_readTag 49 rfl) (fun _ _ hh => ?_)
    obtain ⟨rfl, rfl⟩ := hh
    refine zi_astC_n (lv' := [(3, _), (0, _), (1, _), (2, _)]) (dq dC_readTag 50 rfl) (by decide) (by simp [z_cr, z_ci]) rfl ?_
    refine zi_aload_n 0 (dq dC_readTag 51 rfl) rfl ?_
    refine zi_ifnull (tgt := 111) (dq dC_readTag 52 rfl) (by decide) (fun c => ?_) (fun _ c => ?_)
    · have h := q_t c h
      refine zi_aload_n 0 (dq dC_readTag 63 rfl) rfl ?_
      exact zi_areturn rfl (dq dC_readTag 64 rfl) (q_rrZ h)
    · have h := q_f (by rw [c]; exact nofun) h
      refine zi_aload_n 0 (dq dC_readTag 53 rfl) rfl ?_
      refine zi_iload_n 2 (dq dC_readTag 54 rfl) rfl ?_
      refine zi_bipush (v := 48) (dq dC_readTag 55 rfl) (by decide) ?_
      refine zi_isub (dq dC_readTag 56 rfl) ?_
      refine zi_iload_n 3 (dq dC_readTag 57 rfl) rfl ?_
      refine zi_if_ne (tgt := 107) (dq dC_readTag 58 rfl) (by decide) (fun c => ?_) (fun c => ?_)
      · have h := q_f c h
        refine zi_iconst (v := 0) (dq dC_readTag 61 rfl) (by decide) ?_
        exact zG_lv (zs_c 0 rfl zs_n) (SC_readTag_108 hz h hd )
      · have h := q_t c h
        refine zi_iconst (v := 1) (dq dC_readTag 59 rfl) (by decide) ?_
        refine zi_goto (tgt := 108) (dq dC_readTag 60 rfl) (by decide) ?_
        exact zG_lv (zs_c 0 rfl zs_n) (SC_readTag_108 hz h hd )
  · have h := q_t c h
    refine zi_null (dq dC_readTag 45 rfl) ?_
    exact zi_areturn rfl (dq dC_readTag 46 rfl) (q_rrZ h)
def FC_readTag_57 (N : Nat) (KC : Nat) (KS : Nat) (o : Nat) (l1 : Int32) (t0 : Int32) (M : zM) : Option (Option Nat × zM) :=
  if t0 = 0 then
    FC_readTag_72 N KC KS o l1 t0 M
  else
    qk (decide (zsh M o = some (.inl 0))) <|
    let M2 := zpi M o 7 ((zi M o 7) + 1)
    FC_readTag_72 N KC KS o l1 t0 M2
theorem SC_readTag_57 {g : zg} {d N : Nat} {KC KS : Nat} {r : Option Nat} {M1 : zM} {M : zM}  {o : Nat} {l1 : Int32} {t0 : Int32} (hz : zZ g KC KS) (h : FC_readTag_57 N KC KS o l1 t0 M = some (r, M1)) (hd : 3 ≤ d)  : zG g d mC_readTag (zPq (rR r) (M1)) (M) 57 [(0, va_rf (some o)), (1, .int l1)] [.int t0] := by
  unfold FC_readTag_57 at h
  refine zi_istC_n (lv' := [(2, _), (0, _), (1, _)]) (dq dC_readTag 32 rfl) (by decide) (by simp [z_cr, z_ci]) rfl ?_
  refine zi_iload_n 0 (dq dC_readTag 33 rfl) rfl ?_
  refine zi_if_eq (tgt := 72) (dq dC_readTag 34 rfl) (by decide) (fun c => ?_) (fun c => ?_)
  · have h := q_t c h
    exact zG_lv (zs_c 1 rfl (zs_c 2 rfl (zs_c 0 rfl zs_n))) (SC_readTag_72 hz h hd )
  · have h := q_f c h
    refine zi_aload_n 1 (dq dC_readTag 35 rfl) rfl ?_
    refine zi_dup (dq dC_readTag 36 rfl) (by first | rfl | exact z_cr _) ?_
    obtain ⟨c1, h⟩ := q_k h
    replace c1 := of_decide_eq_true c1
    refine zi_geti c1 fC_44 (dq dC_readTag 37 rfl) ?_
    refine zi_iconst (v := 1) (dq dC_readTag 38 rfl) (by decide) ?_
    refine zi_iadd (dq dC_readTag 39 rfl) ?_
    refine zi_puti c1 fC_44 (fun h => by cases h) rfl rfl (dq dC_readTag 40 rfl) ?_
    exact zG_lv (zs_c 1 rfl (zs_c 2 rfl (zs_c 0 rfl zs_n))) (SC_readTag_72 hz h hd )
def FC_readTag (N : Nat) (KC : Nat) (KS : Nat) (o : Nat) (M : zM) : Option (Option Nat × zM) :=
  let M1 := zpi M o 7 ((zi M o 7) + 1)
  qb (FC_nextCharacter N KC KS o M1) fun v2 M3 =>
  qc (FC_isDigit N v2) fun v4 =>
  if (bI v4) = 0 then
    qk (decide (zsh M3 o = some (.inl 0))) <|
    qb (FC_refuse N KC KS o 1 (zi M3 o 7) M3) fun v10 M11 =>
    some (none, M11)
  else
    qk (decide (zsh M3 o = some (.inl 0))) <|
    let M6 := zpi M3 o 7 ((zi M3 o 7) + 1)
    qb (FC_nextCharacter N KC KS o M6) fun v7 M8 =>
    if v7 = 33 then
      FC_readTag_57 N KC KS o v2 1 M8
    else
      FC_readTag_57 N KC KS o v2 0 M8
theorem SC_readTag {g : zg} {d N : Nat} {KC KS : Nat} {r : Option Nat} {M1 : zM} {M : zM} {o : Nat} (hz : zZ g KC KS) (hs0 : zsh M o = some (.inl 0)) (h : FC_readTag N KC KS o M = some (r, M1)) (hd : 3 ≤ d) : zEr g d mC_readTag [va_rf (some o)] (M) (fun v Mq => v = r ∧ Mq = M1) := by
  unfold FC_readTag at h
  refine zEr_q (r := r) (lv := [(0, va_rf (some o))]) ⟨by decide +kernel, by decide, by decide +kernel⟩ (by simp [z_cr, z_ci]) (Nat.le_of_ble_eq_true rfl) rfl ?_
  refine zi_aload_n 0 (dq dC_readTag 0 rfl) rfl ?_
  refine zi_dup (dq dC_readTag 1 rfl) (by first | rfl | exact z_cr _) ?_
  refine zi_geti hs0 fC_44 (dq dC_readTag 2 rfl) ?_
  refine zi_iconst (v := 1) (dq dC_readTag 3 rfl) (by decide) ?_
  refine zi_iadd (dq dC_readTag 4 rfl) ?_
  refine zi_puti hs0 fC_44 (fun h => by cases h) rfl rfl (dq dC_readTag 5 rfl) ?_
  refine zi_aload_n 0 (dq dC_readTag 6 rfl) rfl ?_
  obtain ⟨v2, M3, hv2, h⟩ := q_b h
  refine zi_cVi0 (SC_nextCharacter hz  hs0 hv2 (d := d - 1) (by omega)) wC_nextCharacter aC_59 iC_nextCharacter sC_nextCharacter (by omega) hs0 rfl (Nat.le_of_ble_eq_true rfl) (dq dC_readTag 7 rfl) (fun _ _ hh => ?_)
  obtain ⟨rfl, rfl⟩ := hh
  refine zi_istC_n (lv' := [(1, _), (0, _)]) (dq dC_readTag 8 rfl) (by decide) (by simp [z_cr, z_ci]) rfl ?_
  refine zi_iload_n 0 (dq dC_readTag 9 rfl) rfl ?_
  obtain ⟨v4, hv4, h⟩ := q_c h
  refine zi_cSi1 (SC_isDigit  hv4 (d := d - 1) (by omega)) wC_isDigit aC_100 tC_isDigit (by omega) (Nat.le_of_ble_eq_true rfl) (dq dC_readTag 10 rfl) (fun _ _ hh => ?_)
  obtain ⟨rfl, rfl⟩ := hh
  refine zi_if_ne (tgt := 33) (dq dC_readTag 11 rfl) (by decide) (fun c => ?_) (fun c => ?_)
  · have h := q_f c h
    refine zi_aload_n 1 (dq dC_readTag 19 rfl) rfl ?_
    refine zi_dup (dq dC_readTag 20 rfl) (by first | rfl | exact z_cr _) ?_
    obtain ⟨c5, h⟩ := q_k h
    replace c5 := of_decide_eq_true c5
    refine zi_geti c5 fC_44 (dq dC_readTag 21 rfl) ?_
    refine zi_iconst (v := 1) (dq dC_readTag 22 rfl) (by decide) ?_
    refine zi_iadd (dq dC_readTag 23 rfl) ?_
    refine zi_puti c5 fC_44 (fun h => by cases h) rfl rfl (dq dC_readTag 24 rfl) ?_
    refine zi_aload_n 1 (dq dC_readTag 25 rfl) rfl ?_
    obtain ⟨v7, M8, hv7, h⟩ := q_b h
    refine zi_cVi0 (SC_nextCharacter hz  c5 hv7 (d := d - 1) (by omega)) wC_nextCharacter aC_59 iC_nextCharacter sC_nextCharacter (by omega) c5 rfl (Nat.le_of_ble_eq_true rfl) (dq dC_readTag 26 rfl) (fun _ _ hh => ?_)
    obtain ⟨rfl, rfl⟩ := hh
    refine zi_bipush (v := 33) (dq dC_readTag 27 rfl) (by decide) ?_
    refine zi_icmp_ne (tgt := 56) (dq dC_readTag 28 rfl) (by decide) (fun c => ?_) (fun c => ?_)
    · have h := q_f c h
      refine zi_iconst (v := 0) (dq dC_readTag 31 rfl) (by decide) ?_
      exact zG_lv (zs_c 1 rfl (zs_c 0 rfl zs_n)) (SC_readTag_57 hz h hd )
    · have h := q_t c h
      refine zi_iconst (v := 1) (dq dC_readTag 29 rfl) (by decide) ?_
      refine zi_goto (tgt := 57) (dq dC_readTag 30 rfl) (by decide) ?_
      exact zG_lv (zs_c 1 rfl (zs_c 0 rfl zs_n)) (SC_readTag_57 hz h hd )
  · have h := q_t c h
    refine zi_aload_n 1 (dq dC_readTag 12 rfl) rfl ?_
    refine zi_iconst (v := 1) (dq dC_readTag 13 rfl) (by decide) ?_
    refine zi_aload_n 1 (dq dC_readTag 14 rfl) rfl ?_
    obtain ⟨c9, h⟩ := q_k h
    replace c9 := of_decide_eq_true c9
    refine zi_geti c9 fC_44 (dq dC_readTag 15 rfl) ?_
    obtain ⟨v10, M11, hv10, h⟩ := q_b h
    refine zi_cVv2 (SC_refuse hz  c9 hv10 (d := d - 1) (by omega)) wC_refuse aC_63 iC_refuse sC_refuse (by omega) c9 rfl (Nat.le_of_ble_eq_true rfl) (dq dC_readTag 16 rfl) (fun _ hh => ?_)
    subst hh
    refine zi_null (dq dC_readTag 17 rfl) ?_
    exact zi_areturn rfl (dq dC_readTag 18 rfl) (q_rrZ h)
def FC_readNumber_91 (N : Nat) (KC : Nat) (KS : Nat) (o : Nat) (M : zM) : Option (Bool × zM) :=
  qk (decide (zsh M o = some (.inl 0))) <|
  qb (FC_refuse N KC KS o 1 (zi M o 7) M) fun v2 M3 =>
  some (false, M3)
theorem SC_readNumber_91 {g : zg} {d N : Nat} {KC KS : Nat} {r : Bool} {M1 : zM} {M : zM}  {o : Nat} (hz : zZ g KC KS) (h : FC_readNumber_91 N KC KS o M = some (r, M1)) (hd : 1 ≤ d)  : zG g d mC_readNumber (zPq (rB r) (M1)) (M) 91 [(0, va_rf (some o))] [] := by
  unfold FC_readNumber_91 at h
  refine zi_aload_n 0 (dq dC_readNumber 50 rfl) rfl ?_
  refine zi_iconst (v := 1) (dq dC_readNumber 51 rfl) (by decide) ?_
  refine zi_aload_n 0 (dq dC_readNumber 52 rfl) rfl ?_
  obtain ⟨c1, h⟩ := q_k h
  replace c1 := of_decide_eq_true c1
  refine zi_geti c1 fC_44 (dq dC_readNumber 53 rfl) ?_
  obtain ⟨v2, M3, hv2, h⟩ := q_b h
  refine zi_cVv2 (SC_refuse hz  c1 hv2 (d := d - 1) (by omega)) wC_refuse aC_63 iC_refuse sC_refuse (by omega) c1 rfl (Nat.le_of_ble_eq_true rfl) (dq dC_readNumber 54 rfl) (fun _ hh => ?_)
  subst hh
  refine zi_iconst (v := 0) (dq dC_readNumber 55 rfl) (by decide) ?_
  exact zi_ireturn rfl (by decide) (dq dC_readNumber 56 rfl) (q_rbZ (b := false) h)
def FC_readNumber_77 (N : Nat) (KC : Nat) (KS : Nat) (o : Nat) (l1 : Int32) (l2 : Int32) (l3 : Int32) (M : zM) : Option (Bool × zM) :=
  if l2 = 0 then
    FC_readNumber_91 N KC KS o M
  else
    qk (decide (zsh M o = some (.inl 0))) <|
    qb (FC_nextCharacter N KC KS o M) fun v2 M3 =>
    qc (FC_isDigit N v2) fun v4 =>
    if (bI v4) = 0 then
      if l1 = 0 then
        qk (decide (zsh M3 o = some (.inl 0))) <|
        let M6 := zpi M3 o 9 l3
        some (true, M6)
      else
        qk (decide (zsh M3 o = some (.inl 0))) <|
        let M8 := zpi M3 o 9 (-l3)
        some (true, M8)
    else
      FC_readNumber_91 N KC KS o M3
theorem SC_readNumber_77 {g : zg} {d N : Nat} {KC KS : Nat} {r : Bool} {M1 : zM} {M : zM}  {o : Nat} {l1 : Int32} {l2 : Int32} {l3 : Int32} (hz : zZ g KC KS) (h : FC_readNumber_77 N KC KS o l1 l2 l3 M = some (r, M1)) (hd : 1 ≤ d)  : zG g d mC_readNumber (zPq (rB r) (M1)) (M) 77 [(0, va_rf (some o)), (1, .int l1), (2, .int l2), (3, .int l3)] [] := by
  unfold FC_readNumber_77 at h
  refine zi_iload_n 2 (dq dC_readNumber 44 rfl) rfl ?_
  refine zi_if_eq (tgt := 91) (dq dC_readNumber 45 rfl) (by decide) (fun c => ?_) (fun c => ?_)
  · have h := q_t c h
    exact zG_lv (zs_c 0 rfl zs_n) (SC_readNumber_91 hz h hd )
  · have h := q_f c h
    refine zi_aload_n 0 (dq dC_readNumber 46 rfl) rfl ?_
    obtain ⟨c1, h⟩ := q_k h
    replace c1 := of_decide_eq_true c1
    obtain ⟨v2, M3, hv2, h⟩ := q_b h
    refine zi_cVi0 (SC_nextCharacter hz  c1 hv2 (d := d - 1) (by omega)) wC_nextCharacter aC_59 iC_nextCharacter sC_nextCharacter (by omega) c1 rfl (Nat.le_of_ble_eq_true rfl) (dq dC_readNumber 47 rfl) (fun _ _ hh => ?_)
    obtain ⟨rfl, rfl⟩ := hh
    obtain ⟨v4, hv4, h⟩ := q_c h
    refine zi_cSi1 (SC_isDigit  hv4 (d := d - 1) (by omega)) wC_isDigit aC_100 tC_isDigit (by omega) (Nat.le_of_ble_eq_true rfl) (dq dC_readNumber 48 rfl) (fun _ _ hh => ?_)
    obtain ⟨rfl, rfl⟩ := hh
    refine zi_if_eq (tgt := 102) (dq dC_readNumber 49 rfl) (by decide) (fun c => ?_) (fun c => ?_)
    · have h := q_t c h
      refine zi_aload_n 0 (dq dC_readNumber 57 rfl) rfl ?_
      refine zi_iload_n 1 (dq dC_readNumber 58 rfl) rfl ?_
      refine zi_if_eq (tgt := 112) (dq dC_readNumber 59 rfl) (by decide) (fun c => ?_) (fun c => ?_)
      · have h := q_t c h
        refine zi_iload_n 3 (dq dC_readNumber 63 rfl) rfl ?_
        obtain ⟨c5, h⟩ := q_k h
        replace c5 := of_decide_eq_true c5
        refine zi_puti c5 fC_133 (fun h => by cases h) rfl rfl (dq dC_readNumber 64 rfl) ?_
        refine zi_iconst (v := 1) (dq dC_readNumber 65 rfl) (by decide) ?_
        exact zi_ireturn rfl (by decide) (dq dC_readNumber 66 rfl) (q_rbZ (b := true) h)
      · have h := q_f c h
        refine zi_iload_n 3 (dq dC_readNumber 60 rfl) rfl ?_
        refine zi_ineg (dq dC_readNumber 61 rfl) ?_
        refine zi_goto (tgt := 113) (dq dC_readNumber 62 rfl) (by decide) ?_
        obtain ⟨c7, h⟩ := q_k h
        replace c7 := of_decide_eq_true c7
        refine zi_puti c7 fC_133 (fun h => by cases h) rfl rfl (dq dC_readNumber 64 rfl) ?_
        refine zi_iconst (v := 1) (dq dC_readNumber 65 rfl) (by decide) ?_
        exact zi_ireturn rfl (by decide) (dq dC_readNumber 66 rfl) (q_rbZ (b := true) h)
    · have h := q_f c h
      exact zG_lv (zs_c 0 rfl zs_n) (SC_readNumber_91 hz h hd )
def FC_readNumber_33 (N : Nat) (KC : Nat) (KS : Nat) (o : Nat) (l1 : Int32) (K33 : (Int32 × Int32 × zM) → Option (Bool × zM)) (s : Int32 × Int32 × zM) : Option (Bool × zM) :=
  let l2 := s.1
  let l3 := s.2.1
  let M := s.2.2
  if 5 ≤ l2 then
    FC_readNumber_77 N KC KS o l1 l2 l3 M
  else
    qk (decide (zsh M o = some (.inl 0))) <|
    qb (FC_nextCharacter N KC KS o M) fun v2 M3 =>
    qc (FC_isDigit N v2) fun v4 =>
    if (bI v4) = 0 then
      FC_readNumber_77 N KC KS o l1 l2 l3 M3
    else
      qk (decide (zsh M3 o = some (.inl 0))) <|
      qb (FC_nextCharacter N KC KS o M3) fun v6 M7 =>
      let y8 := ((10 * l3) + v6) - 48
      qk (decide (zsh M7 o = some (.inl 0))) <|
      let M10 := zpi M7 o 7 ((zi M7 o 7) + 1)
      let y11 := l2 + (1)
      K33 (y11, y8, M10)
theorem SC_readNumber_33 {g : zg} {d N : Nat} {KC KS : Nat} {r : Bool} {M1 : zM}  {o : Nat} {l1 : Int32} (hz : zZ g KC KS) (hd : 1 ≤ d)  : ∀ n s, qfix (FC_readNumber_33 N KC KS o l1) n s = some (r, M1) → zG g d mC_readNumber (zPq (rB r) (M1)) (s.2.2) 33 [(0, va_rf (some o)), (1, .int l1), (2, .int s.1), (3, .int s.2.1)] [] := by
  refine qfix_sound (fun K33 hK33 s h => ?_)
  unfold FC_readNumber_33 at h
  refine zi_iload_n 2 (dq dC_readNumber 20 rfl) rfl ?_
  refine zi_iconst (v := 5) (dq dC_readNumber 21 rfl) (by decide) ?_
  refine zi_icmp_ge (tgt := 77) (dq dC_readNumber 22 rfl) (by decide) (fun c => ?_) (fun c => ?_)
  · have h := q_t c h
    exact zG_lv (zs_c 0 rfl (zs_c 1 rfl (zs_c 2 rfl (zs_c 3 rfl zs_n)))) (SC_readNumber_77 hz h hd )
  · have h := q_f c h
    refine zi_aload_n 0 (dq dC_readNumber 23 rfl) rfl ?_
    obtain ⟨c1, h⟩ := q_k h
    replace c1 := of_decide_eq_true c1
    obtain ⟨v2, M3, hv2, h⟩ := q_b h
    refine zi_cVi0 (SC_nextCharacter hz  c1 hv2 (d := d - 1) (by omega)) wC_nextCharacter aC_59 iC_nextCharacter sC_nextCharacter (by omega) c1 rfl (Nat.le_of_ble_eq_true rfl) (dq dC_readNumber 24 rfl) (fun _ _ hh => ?_)
    obtain ⟨rfl, rfl⟩ := hh
    obtain ⟨v4, hv4, h⟩ := q_c h
    refine zi_cSi1 (SC_isDigit  hv4 (d := d - 1) (by omega)) wC_isDigit aC_100 tC_isDigit (by omega) (Nat.le_of_ble_eq_true rfl) (dq dC_readNumber 25 rfl) (fun _ _ hh => ?_)
    obtain ⟨rfl, rfl⟩ := hh
    refine zi_if_eq (tgt := 77) (dq dC_readNumber 26 rfl) (by decide) (fun c => ?_) (fun c => ?_)
    · have h := q_t c h
      exact zG_lv (zs_c 0 rfl (zs_c 1 rfl (zs_c 2 rfl (zs_c 3 rfl zs_n)))) (SC_readNumber_77 hz h hd )
    · have h := q_f c h
      refine zi_bipush (v := 10) (dq dC_readNumber 27 rfl) (by decide) ?_
      refine zi_iload_n 3 (dq dC_readNumber 28 rfl) rfl ?_
      refine zi_imul (dq dC_readNumber 29 rfl) ?_
      refine zi_aload_n 0 (dq dC_readNumber 30 rfl) rfl ?_
      obtain ⟨c5, h⟩ := q_k h
      replace c5 := of_decide_eq_true c5
      obtain ⟨v6, M7, hv6, h⟩ := q_b h
      refine zi_cVi0 (SC_nextCharacter hz  c5 hv6 (d := d - 1) (by omega)) wC_nextCharacter aC_59 iC_nextCharacter sC_nextCharacter (by omega) c5 rfl (Nat.le_of_ble_eq_true rfl) (dq dC_readNumber 31 rfl) (fun _ _ hh => ?_)
      obtain ⟨rfl, rfl⟩ := hh
      refine zi_iadd (dq dC_readNumber 32 rfl) ?_
      refine zi_bipush (v := 48) (dq dC_readNumber 33 rfl) (by decide) ?_
      refine zi_isub (dq dC_readNumber 34 rfl) ?_
      refine zi_istC_n (lv' := [(3, _), (0, _), (1, _), (2, _)]) (dq dC_readNumber 35 rfl) (by decide) (by simp [z_cr, z_ci]) rfl ?_
      refine zi_aload_n 1 (dq dC_readNumber 36 rfl) rfl ?_
      refine zi_dup (dq dC_readNumber 37 rfl) (by first | rfl | exact z_cr _) ?_
      obtain ⟨c9, h⟩ := q_k h
      replace c9 := of_decide_eq_true c9
      refine zi_geti c9 fC_44 (dq dC_readNumber 38 rfl) ?_
      refine zi_iconst (v := 1) (dq dC_readNumber 39 rfl) (by decide) ?_
      refine zi_iadd (dq dC_readNumber 40 rfl) ?_
      refine zi_puti c9 fC_44 (fun h => by cases h) rfl rfl (dq dC_readNumber 41 rfl) ?_
      refine zi_iincC (v := _ + (1)) (lv' := [(2, _), (3, _), (0, _), (1, _)]) 3 (dq dC_readNumber 42 rfl) rfl rfl (by decide) (by simp [z_cr, z_ci]) rfl ?_
      refine zi_goto (tgt := 33) (dq dC_readNumber 43 rfl) (by decide) ?_
      exact zG_lv (zs_c 2 rfl (zs_c 3 rfl (zs_c 0 rfl (zs_c 1 rfl zs_n)))) (hK33 _ h)
def FC_readNumber_14 (N : Nat) (KC : Nat) (KS : Nat) (o : Nat) (t0 : Int32) (M : zM) : Option (Bool × zM) :=
  if t0 = 0 then
    qfix (FC_readNumber_33 N KC KS o t0) N (0, 0, M)
  else
    qk (decide (zsh M o = some (.inl 0))) <|
    let M2 := zpi M o 7 ((zi M o 7) + 1)
    qfix (FC_readNumber_33 N KC KS o t0) N (0, 0, M2)
theorem SC_readNumber_14 {g : zg} {d N : Nat} {KC KS : Nat} {r : Bool} {M1 : zM} {M : zM}  {o : Nat} {t0 : Int32} (hz : zZ g KC KS) (h : FC_readNumber_14 N KC KS o t0 M = some (r, M1)) (hd : 1 ≤ d)  : zG g d mC_readNumber (zPq (rB r) (M1)) (M) 14 [(0, va_rf (some o))] [.int t0] := by
  unfold FC_readNumber_14 at h
  refine zi_istC_n (lv' := [(1, _), (0, _)]) (dq dC_readNumber 7 rfl) (by decide) (by simp [z_cr, z_ci]) rfl ?_
  refine zi_iload_n 0 (dq dC_readNumber 8 rfl) rfl ?_
  refine zi_if_eq (tgt := 29) (dq dC_readNumber 9 rfl) (by decide) (fun c => ?_) (fun c => ?_)
  · have h := q_t c h
    refine zi_iconst (v := 0) (dq dC_readNumber 16 rfl) (by decide) ?_
    refine zi_istC_n (lv' := [(2, _), (1, _), (0, _)]) (dq dC_readNumber 17 rfl) (by decide) (by simp [z_cr, z_ci]) rfl ?_
    refine zi_iconst (v := 0) (dq dC_readNumber 18 rfl) (by decide) ?_
    refine zi_istC_n (lv' := [(3, _), (2, _), (1, _), (0, _)]) (dq dC_readNumber 19 rfl) (by decide) (by simp [z_cr, z_ci]) rfl ?_
    exact zG_lv (zs_c 3 rfl (zs_c 2 rfl (zs_c 1 rfl (zs_c 0 rfl zs_n)))) (SC_readNumber_33 hz hd  _ _ h)
  · have h := q_f c h
    refine zi_aload_n 1 (dq dC_readNumber 10 rfl) rfl ?_
    refine zi_dup (dq dC_readNumber 11 rfl) (by first | rfl | exact z_cr _) ?_
    obtain ⟨c1, h⟩ := q_k h
    replace c1 := of_decide_eq_true c1
    refine zi_geti c1 fC_44 (dq dC_readNumber 12 rfl) ?_
    refine zi_iconst (v := 1) (dq dC_readNumber 13 rfl) (by decide) ?_
    refine zi_iadd (dq dC_readNumber 14 rfl) ?_
    refine zi_puti c1 fC_44 (fun h => by cases h) rfl rfl (dq dC_readNumber 15 rfl) ?_
    refine zi_iconst (v := 0) (dq dC_readNumber 16 rfl) (by decide) ?_
    refine zi_istC_n (lv' := [(2, _), (1, _), (0, _)]) (dq dC_readNumber 17 rfl) (by decide) (by simp [z_cr, z_ci]) rfl ?_
    refine zi_iconst (v := 0) (dq dC_readNumber 18 rfl) (by decide) ?_
    refine zi_istC_n (lv' := [(3, _), (2, _), (1, _), (0, _)]) (dq dC_readNumber 19 rfl) (by decide) (by simp [z_cr, z_ci]) rfl ?_
    exact zG_lv (zs_c 3 rfl (zs_c 2 rfl (zs_c 1 rfl (zs_c 0 rfl zs_n)))) (SC_readNumber_33 hz hd  _ _ h)
def FC_readNumber (N : Nat) (KC : Nat) (KS : Nat) (o : Nat) (M : zM) : Option (Bool × zM) :=
  qb (FC_nextCharacter N KC KS o M) fun v1 M2 =>
  if v1 = 45 then
    FC_readNumber_14 N KC KS o 1 M2
  else
    FC_readNumber_14 N KC KS o 0 M2
theorem SC_readNumber {g : zg} {d N : Nat} {KC KS : Nat} {r : Bool} {M1 : zM} {M : zM} {o : Nat} (hz : zZ g KC KS) (hs0 : zsh M o = some (.inl 0)) (h : FC_readNumber N KC KS o M = some (r, M1)) (hd : 1 ≤ d) : zEi g d mC_readNumber [va_rf (some o)] (M) (fun v Mq => v = bI r ∧ Mq = M1) := by
  unfold FC_readNumber at h
  refine zEb_q (r := r) (lv := [(0, va_rf (some o))]) ⟨by decide +kernel, by decide, by decide +kernel⟩ (by simp [z_cr, z_ci]) (Nat.le_of_ble_eq_true rfl) rfl ?_
  refine zi_aload_n 0 (dq dC_readNumber 0 rfl) rfl ?_
  obtain ⟨v1, M2, hv1, h⟩ := q_b h
  refine zi_cVi0 (SC_nextCharacter hz  hs0 hv1 (d := d - 1) (by omega)) wC_nextCharacter aC_59 iC_nextCharacter sC_nextCharacter (by omega) hs0 rfl (Nat.le_of_ble_eq_true rfl) (dq dC_readNumber 1 rfl) (fun _ _ hh => ?_)
  obtain ⟨rfl, rfl⟩ := hh
  refine zi_bipush (v := 45) (dq dC_readNumber 2 rfl) (by decide) ?_
  refine zi_icmp_ne (tgt := 13) (dq dC_readNumber 3 rfl) (by decide) (fun c => ?_) (fun c => ?_)
  · have h := q_f c h
    refine zi_iconst (v := 0) (dq dC_readNumber 6 rfl) (by decide) ?_
    exact zG_lv (zs_c 0 rfl zs_n) (SC_readNumber_14 hz h hd )
  · have h := q_t c h
    refine zi_iconst (v := 1) (dq dC_readNumber 4 rfl) (by decide) ?_
    refine zi_goto (tgt := 14) (dq dC_readNumber 5 rfl) (by decide) ?_
    exact zG_lv (zs_c 0 rfl zs_n) (SC_readNumber_14 hz h hd )
def FC_readBounds_91 (N : Nat) (KC : Nat) (KS : Nat) (o : Nat) (l1 : Option Nat) (M : zM) : Option (Bool × zM) :=
  qo l1 M 6 fun o1 =>
  let M2 := zpi M o1 1 1
  qk (decide (zsh M2 o = some (.inl 0))) <|
  qb (FC_pass N KC KS o 41 M2) fun v4 M5 =>
  some (v4, M5)
theorem SC_readBounds_91 {g : zg} {d N : Nat} {KC KS : Nat} {r : Bool} {M1 : zM} {M : zM}  {o : Nat} {l1 : Option Nat} (hz : zZ g KC KS) (h : FC_readBounds_91 N KC KS o l1 M = some (r, M1)) (hd : 2 ≤ d)  : zG g d mC_readBounds (zPq (rB r) (M1)) (M) 91 [(0, va_rf (some o)), (1, va_rf l1)] [] := by
  unfold FC_readBounds_91 at h
  refine zi_aload_n 1 (dq dC_readBounds 48 rfl) rfl ?_
  refine zi_iconst (v := 1) (dq dC_readBounds 49 rfl) (by decide) ?_
  obtain ⟨o1, eo1, ho1, h⟩ := q_o h
  refine zi_rc1 eo1 ?_
  refine zi_puti ho1 fC_145 (fun h => by cases h) (by decide) (by decide) (dq dC_readBounds 50 rfl) ?_
  refine zi_aload_n 0 (dq dC_readBounds 51 rfl) rfl ?_
  refine zi_bipush (v := 41) (dq dC_readBounds 52 rfl) (by decide) ?_
  obtain ⟨c3, h⟩ := q_k h
  replace c3 := of_decide_eq_true c3
  obtain ⟨v4, M5, hv4, h⟩ := q_b h
  refine zi_cVi1 (SC_pass hz  c3 hv4 (d := d - 1) (by omega)) wC_pass aC_67 iC_pass sC_pass (by omega) c3 rfl (Nat.le_of_ble_eq_true rfl) (dq dC_readBounds 53 rfl) (fun _ _ hh => ?_)
  obtain ⟨rfl, rfl⟩ := hh
  exact zi_ireturn rfl (bI_nar _) (dq dC_readBounds 54 rfl) (q_rbZ h)
def FC_readBounds (N : Nat) (KC : Nat) (KS : Nat) (o : Nat) (l1 : Option Nat) (M : zM) : Option (Bool × zM) :=
  qb (FC_nextCharacter N KC KS o M) fun v1 M2 =>
  if v1 = 40 then
    qk (decide (zsh M2 o = some (.inl 0))) <|
    let M4 := zpi M2 o 7 ((zi M2 o 7) + 1)
    qb (FC_readNumber N KC KS o M4) fun v5 M6 =>
    if (bI v5) = 0 then
      some (false, M6)
    else
      qk (decide (zsh M6 o = some (.inl 0))) <|
      qo l1 M6 6 fun o8 =>
      let M9 := zpi M6 o8 2 (zi M6 o 9)
      qb (FC_pass N KC KS o 44 M9) fun v10 M11 =>
      if (bI v10) = 0 then
        some (false, M11)
      else
        qk (decide (zsh M11 o = some (.inl 0))) <|
        qb (FC_readNumber N KC KS o M11) fun v13 M14 =>
        if (bI v13) = 0 then
          some (false, M14)
        else
          qk (decide (zsh M14 o = some (.inl 0))) <|
          qo l1 M14 6 fun o16 =>
          let M17 := zpi M14 o16 3 (zi M14 o 9)
          qb (FC_nextCharacter N KC KS o M17) fun v18 M19 =>
          if v18 = 41 then
            qc (FC_areBounds N M19 l1) fun v20 =>
            if (bI v20) = 0 then
              qk (decide (zsh M19 o = some (.inl 0))) <|
              qb (FC_refuse N KC KS o 4 (zi M19 o 7) M19) fun v22 M23 =>
              some (false, M23)
            else
              FC_readBounds_91 N KC KS o l1 M19
          else
            FC_readBounds_91 N KC KS o l1 M19
  else
    some (true, M2)
theorem SC_readBounds {g : zg} {d N : Nat} {KC KS : Nat} {r : Bool} {M1 : zM} {M : zM} {o : Nat} {l1 : Option Nat} (hz : zZ g KC KS) (hs0 : zsh M o = some (.inl 0)) (h : FC_readBounds N KC KS o l1 M = some (r, M1)) (hd : 2 ≤ d) : zEi g d mC_readBounds [va_rf (some o), va_rf l1] (M) (fun v Mq => v = bI r ∧ Mq = M1) := by
  unfold FC_readBounds at h
  refine zEb_q (r := r) (lv := [(0, va_rf (some o)), (1, va_rf l1)]) ⟨by decide +kernel, by decide, by decide +kernel⟩ (by simp [z_cr, z_ci]) (Nat.le_of_ble_eq_true rfl) rfl ?_
  refine zi_aload_n 0 (dq dC_readBounds 0 rfl) rfl ?_
  obtain ⟨v1, M2, hv1, h⟩ := q_b h
  refine zi_cVi0 (SC_nextCharacter hz  hs0 hv1 (d := d - 1) (by omega)) wC_nextCharacter aC_59 iC_nextCharacter sC_nextCharacter (by omega) hs0 rfl (Nat.le_of_ble_eq_true rfl) (dq dC_readBounds 1 rfl) (fun _ _ hh => ?_)
  obtain ⟨rfl, rfl⟩ := hh
  refine zi_bipush (v := 40) (dq dC_readBounds 2 rfl) (by decide) ?_
  refine zi_icmp_eq (tgt := 11) (dq dC_readBounds 3 rfl) (by decide) (fun c => ?_) (fun c => ?_)
  · have h := q_t c h
    refine zi_aload_n 0 (dq dC_readBounds 6 rfl) rfl ?_
    refine zi_dup (dq dC_readBounds 7 rfl) (by first | rfl | exact z_cr _) ?_
    obtain ⟨c3, h⟩ := q_k h
    replace c3 := of_decide_eq_true c3
    refine zi_geti c3 fC_44 (dq dC_readBounds 8 rfl) ?_
    refine zi_iconst (v := 1) (dq dC_readBounds 9 rfl) (by decide) ?_
    refine zi_iadd (dq dC_readBounds 10 rfl) ?_
    refine zi_puti c3 fC_44 (fun h => by cases h) rfl rfl (dq dC_readBounds 11 rfl) ?_
    refine zi_aload_n 0 (dq dC_readBounds 12 rfl) rfl ?_
    obtain ⟨v5, M6, hv5, h⟩ := q_b h
    refine zi_cVi0 (SC_readNumber hz  c3 hv5 (d := d - 1) (by omega)) wC_readNumber aC_129 iC_readNumber sC_readNumber (by omega) c3 rfl (Nat.le_of_ble_eq_true rfl) (dq dC_readBounds 13 rfl) (fun _ _ hh => ?_)
    obtain ⟨rfl, rfl⟩ := hh
    refine zi_if_ne (tgt := 30) (dq dC_readBounds 14 rfl) (by decide) (fun c => ?_) (fun c => ?_)
    · have h := q_f c h
      refine zi_aload_n 1 (dq dC_readBounds 17 rfl) rfl ?_
      refine zi_aload_n 0 (dq dC_readBounds 18 rfl) rfl ?_
      obtain ⟨c7, h⟩ := q_k h
      replace c7 := of_decide_eq_true c7
      refine zi_geti c7 fC_133 (dq dC_readBounds 19 rfl) ?_
      obtain ⟨o8, eo8, ho8, h⟩ := q_o h
      refine zi_rc1 eo8 ?_
      refine zi_puti ho8 fC_136 (fun h => by cases h) rfl rfl (dq dC_readBounds 20 rfl) ?_
      refine zi_aload_n 0 (dq dC_readBounds 21 rfl) rfl ?_
      refine zi_bipush (v := 44) (dq dC_readBounds 22 rfl) (by decide) ?_
      obtain ⟨v10, M11, hv10, h⟩ := q_b h
      refine zi_cVi1 (SC_pass hz  c7 hv10 (d := d - 1) (by omega)) wC_pass aC_67 iC_pass sC_pass (by omega) c7 rfl (Nat.le_of_ble_eq_true rfl) (dq dC_readBounds 23 rfl) (fun _ _ hh => ?_)
      obtain ⟨rfl, rfl⟩ := hh
      refine zi_if_eq (tgt := 54) (dq dC_readBounds 24 rfl) (by decide) (fun c => ?_) (fun c => ?_)
      · have h := q_t c h
        refine zi_iconst (v := 0) (dq dC_readBounds 28 rfl) (by decide) ?_
        exact zi_ireturn rfl (by decide) (dq dC_readBounds 29 rfl) (q_rbZ (b := false) h)
      · have h := q_f c h
        refine zi_aload_n 0 (dq dC_readBounds 25 rfl) rfl ?_
        obtain ⟨c12, h⟩ := q_k h
        replace c12 := of_decide_eq_true c12
        obtain ⟨v13, M14, hv13, h⟩ := q_b h
        refine zi_cVi0 (SC_readNumber hz  c12 hv13 (d := d - 1) (by omega)) wC_readNumber aC_129 iC_readNumber sC_readNumber (by omega) c12 rfl (Nat.le_of_ble_eq_true rfl) (dq dC_readBounds 26 rfl) (fun _ _ hh => ?_)
        obtain ⟨rfl, rfl⟩ := hh
        refine zi_if_ne (tgt := 56) (dq dC_readBounds 27 rfl) (by decide) (fun c => ?_) (fun c => ?_)
        · have h := q_f c h
          refine zi_aload_n 1 (dq dC_readBounds 30 rfl) rfl ?_
          refine zi_aload_n 0 (dq dC_readBounds 31 rfl) rfl ?_
          obtain ⟨c15, h⟩ := q_k h
          replace c15 := of_decide_eq_true c15
          refine zi_geti c15 fC_133 (dq dC_readBounds 32 rfl) ?_
          obtain ⟨o16, eo16, ho16, h⟩ := q_o h
          refine zi_rc1 eo16 ?_
          refine zi_puti ho16 fC_139 (fun h => by cases h) rfl rfl (dq dC_readBounds 33 rfl) ?_
          refine zi_aload_n 0 (dq dC_readBounds 34 rfl) rfl ?_
          obtain ⟨v18, M19, hv18, h⟩ := q_b h
          refine zi_cVi0 (SC_nextCharacter hz  c15 hv18 (d := d - 1) (by omega)) wC_nextCharacter aC_59 iC_nextCharacter sC_nextCharacter (by omega) c15 rfl (Nat.le_of_ble_eq_true rfl) (dq dC_readBounds 35 rfl) (fun _ _ hh => ?_)
          obtain ⟨rfl, rfl⟩ := hh
          refine zi_bipush (v := 41) (dq dC_readBounds 36 rfl) (by decide) ?_
          refine zi_icmp_ne (tgt := 91) (dq dC_readBounds 37 rfl) (by decide) (fun c => ?_) (fun c => ?_)
          · have h := q_f c h
            exact zG_lv (zs_c 0 rfl (zs_c 1 rfl zs_n)) (SC_readBounds_91 hz h hd )
          · have h := q_t c h
            refine zi_aload_n 1 (dq dC_readBounds 38 rfl) rfl ?_
            obtain ⟨v20, hv20, h⟩ := q_c h
            refine zi_cSi1 (SC_areBounds (zag_rf _) hv20 (d := d - 1) (by omega)) wC_areBounds aC_142 tC_areBounds (by omega) (Nat.le_of_ble_eq_true rfl) (dq dC_readBounds 39 rfl) (fun _ _ hh => ?_)
            obtain ⟨rfl, rfl⟩ := hh
            refine zi_if_ne (tgt := 91) (dq dC_readBounds 40 rfl) (by decide) (fun c => ?_) (fun c => ?_)
            · have h := q_f c h
              exact zG_lv (zs_c 0 rfl (zs_c 1 rfl zs_n)) (SC_readBounds_91 hz h hd )
            · have h := q_t c h
              refine zi_aload_n 0 (dq dC_readBounds 41 rfl) rfl ?_
              refine zi_iconst (v := 4) (dq dC_readBounds 42 rfl) (by decide) ?_
              refine zi_aload_n 0 (dq dC_readBounds 43 rfl) rfl ?_
              obtain ⟨c21, h⟩ := q_k h
              replace c21 := of_decide_eq_true c21
              refine zi_geti c21 fC_44 (dq dC_readBounds 44 rfl) ?_
              obtain ⟨v22, M23, hv22, h⟩ := q_b h
              refine zi_cVv2 (SC_refuse hz  c21 hv22 (d := d - 1) (by omega)) wC_refuse aC_63 iC_refuse sC_refuse (by omega) c21 rfl (Nat.le_of_ble_eq_true rfl) (dq dC_readBounds 45 rfl) (fun _ hh => ?_)
              subst hh
              refine zi_iconst (v := 0) (dq dC_readBounds 46 rfl) (by decide) ?_
              exact zi_ireturn rfl (by decide) (dq dC_readBounds 47 rfl) (q_rbZ (b := false) h)
        · have h := q_t c h
          refine zi_iconst (v := 0) (dq dC_readBounds 28 rfl) (by decide) ?_
          exact zi_ireturn rfl (by decide) (dq dC_readBounds 29 rfl) (q_rbZ (b := false) h)
    · have h := q_t c h
      refine zi_iconst (v := 0) (dq dC_readBounds 15 rfl) (by decide) ?_
      exact zi_ireturn rfl (by decide) (dq dC_readBounds 16 rfl) (q_rbZ (b := false) h)
  · have h := q_f c h
    refine zi_iconst (v := 1) (dq dC_readBounds 4 rfl) (by decide) ?_
    exact zi_ireturn rfl (by decide) (dq dC_readBounds 5 rfl) (q_rbZ (b := true) h)
def FC_readItems (N : Nat) (KC : Nat) (KS : Nat) (rec : (Nat × Int32 × zM) → Option (Option Nat × zM)) (o : Nat) (l1 : Option Nat) (l2 : Int32) (M : zM) : Option (Bool × zM) :=
  qb (rec (o, (l2 + 1), M)) fun v1 M2 =>
  if v1 = none then
    some (false, M2)
  else
    qo l1 M2 6 fun o3 =>
    let M4 := zpr M2 o3 9 v1
    qo v1 M4 6 fun o5 =>
    qo l1 M4 6 fun o6 =>
    let M7 := zpi M4 o6 7 ((zi M4 o5 7) + 1)
    some (true, M7)
theorem SC_readItems {g : zg} {d N : Nat} {KC KS : Nat} {rec : (Nat × Int32 × zM) → Option (Option Nat × zM)} {L : Nat} {r : Bool} {M1 : zM} {M : zM} {o : Nat} {l1 : Option Nat} {l2 : Int32} (hz : zZ g KC KS) (hrec : ∀ s r, rec s = some r → zsh s.2.2 s.1 = some (.inl 0) → ∀ d, L ≤ d → zEr g d mC_readType [va_rf (some s.1), .int s.2.1] (s.2.2) (fun v Mq => v = r.1 ∧ Mq = r.2)) (hs0 : zsh M o = some (.inl 0)) (h : FC_readItems N KC KS rec o l1 l2 M = some (r, M1)) (hd : L + 1 ≤ d) : zEi g d mC_readItems [va_rf (some o), va_rf l1, .int l2] (M) (fun v Mq => v = bI r ∧ Mq = M1) := by
  unfold FC_readItems at h
  refine zEb_q (r := r) (lv := [(0, va_rf (some o)), (1, va_rf l1), (2, .int l2)]) ⟨by decide +kernel, by decide, by decide +kernel⟩ (by simp [z_cr, z_ci]) (Nat.le_of_ble_eq_true rfl) rfl ?_
  refine zi_aload_n 0 (dq dC_readItems 0 rfl) rfl ?_
  refine zi_iload_n 2 (dq dC_readItems 1 rfl) rfl ?_
  refine zi_iconst (v := 1) (dq dC_readItems 2 rfl) (by decide) ?_
  refine zi_iadd (dq dC_readItems 3 rfl) ?_
  obtain ⟨v1, M2, hv1, h⟩ := q_b h
  refine zi_cVr1 (hrec _ _ hv1 hs0 (d - 1) (by omega)) wC_readType aC_71 iC_readType sC_readType (by omega) hs0 rfl (Nat.le_of_ble_eq_true rfl) (dq dC_readItems 4 rfl) (fun _ _ hh => ?_)
  obtain ⟨rfl, rfl⟩ := hh
  refine zi_astC_n (lv' := [(3, _), (0, _), (1, _), (2, _)]) (dq dC_readItems 5 rfl) (by decide) (by simp [z_cr, z_ci]) rfl ?_
  refine zi_aload_n 0 (dq dC_readItems 6 rfl) rfl ?_
  refine zi_ifnonnull (tgt := 14) (dq dC_readItems 7 rfl) (by decide) (fun _ c => ?_) (fun c => ?_)
  · have h := q_f (by rw [c]; exact nofun) h
    refine zi_aload_n 2 (dq dC_readItems 10 rfl) rfl ?_
    refine zi_aload_n 0 (dq dC_readItems 11 rfl) rfl ?_
    obtain ⟨o3, eo3, ho3, h⟩ := q_o h
    refine zi_rc1 eo3 ?_
    refine zi_putr ho3 fC_79 (fun h => by cases h) (z_nar_r _ _) (dq dC_readItems 12 rfl) ?_
    refine zi_aload_n 2 (dq dC_readItems 13 rfl) rfl ?_
    refine zi_aload_n 0 (dq dC_readItems 14 rfl) rfl ?_
    obtain ⟨o5, eo5, ho5, h⟩ := q_o h
    refine zi_rc0 eo5 ?_
    refine zi_geti ho5 fC_97 (dq dC_readItems 15 rfl) ?_
    refine zi_iconst (v := 1) (dq dC_readItems 16 rfl) (by decide) ?_
    refine zi_iadd (dq dC_readItems 17 rfl) ?_
    obtain ⟨o6, eo6, ho6, h⟩ := q_o h
    refine zi_rc1 eo6 ?_
    refine zi_puti ho6 fC_97 (fun h => by cases h) rfl rfl (dq dC_readItems 18 rfl) ?_
    refine zi_iconst (v := 1) (dq dC_readItems 19 rfl) (by decide) ?_
    exact zi_ireturn rfl (by decide) (dq dC_readItems 20 rfl) (q_rbZ (b := true) h)
  · have h := q_t c h
    refine zi_iconst (v := 0) (dq dC_readItems 8 rfl) (by decide) ?_
    exact zi_ireturn rfl (by decide) (dq dC_readItems 9 rfl) (q_rbZ (b := false) h)
def FC_gatherAlternatives_27 (N : Nat) (KC : Nat) (KS : Nat) (K5 : (Option Nat × zM) → Option (Unit × zM)) (l0 : Option Nat) (l1 : Option Nat) (K27 : (Option Nat × zM) → Option (Unit × zM)) (s : Option Nat × zM) : Option (Unit × zM) :=
  let l2 := s.1
  let M := s.2
  if l2 = none then
    qo l1 M 1 fun o1 =>
    let y2 := zr M o1 5
    K5 (y2, M)
  else
    qo l2 M 1 fun o3 =>
    qc (FK_leastTag N M o3) fun v4 =>
    qo l1 M 1 fun o5 =>
    qc (FK_leastTag N M o5) fun v6 =>
    if v6 ≤ v4 then
      qo l2 M 1 fun o7 =>
      let y8 := zr M o7 5
      K27 (y8, M)
    else
      qo l1 M 1 fun o9 =>
      qo l1 M 1 fun o10 =>
      let M11 := zpi M o10 4 ((zi M o9 4) + 1)
      qo l2 M11 1 fun o12 =>
      let y13 := zr M11 o12 5
      K27 (y13, M11)
theorem SC_gatherAlternatives_27 {g : zg} {d N : Nat} {KC KS : Nat} {r : Unit} {M1 : zM} {K5 : (Option Nat × zM) → Option (Unit × zM)} {l0 : Option Nat} {l1 : Option Nat} (hz : zZ g KC KS) (hd : 2 ≤ d) (hK5 : ∀ s, K5 s = some (r, M1) → zG g d mC_gatherAlternatives (zPq (rU r) (M1)) (s.2) 5 [(0, va_rf l0), (1, va_rf s.1)] []) : ∀ n s, qfix (FC_gatherAlternatives_27 N KC KS K5 l0 l1) n s = some (r, M1) → zG g d mC_gatherAlternatives (zPq (rU r) (M1)) (s.2) 27 [(0, va_rf l0), (1, va_rf l1), (2, va_rf s.1)] [] := by
  refine qfix_sound (fun K27 hK27 s h => ?_)
  unfold FC_gatherAlternatives_27 at h
  refine zi_aload_n 2 (dq dC_gatherAlternatives 15 rfl) rfl ?_
  refine zi_ifnull (tgt := 60) (dq dC_gatherAlternatives 16 rfl) (by decide) (fun c => ?_) (fun _ c => ?_)
  · have h := q_t c h
    refine zi_aload_n 1 (dq dC_gatherAlternatives 32 rfl) rfl ?_
    obtain ⟨o1, eo1, ho1, h⟩ := q_o h
    refine zi_rc0 eo1 ?_
    refine zi_getr ho1 fC_200 (dq dC_gatherAlternatives 33 rfl) ?_
    refine zi_astC_n (lv' := [(1, _), (0, _), (2, _)]) (dq dC_gatherAlternatives 34 rfl) (by decide) (by simp [z_cr, z_ci]) rfl ?_
    refine zi_goto (tgt := 5) (dq dC_gatherAlternatives 35 rfl) (by decide) ?_
    exact zG_lv (zs_c 1 rfl (zs_c 0 rfl zs_n)) (hK5 _ h)
  · have h := q_f (by rw [c]; exact nofun) h
    refine zi_aload_n 2 (dq dC_gatherAlternatives 17 rfl) rfl ?_
    obtain ⟨o3, eo3, ho3, h⟩ := q_o h
    refine zi_rc0 eo3 ?_
    obtain ⟨v4, hv4, h⟩ := q_c h
    refine zi_cVi0 (SK_leastTag (zag_rf _) ho3 hv4 (d := d - 1) (by omega)) wK_leastTag aC_205 iK_leastTag sK_leastTag (by omega) ho3 rfl (Nat.le_of_ble_eq_true rfl) (dq dC_gatherAlternatives 18 rfl) (fun _ _ hh => ?_)
    obtain ⟨rfl, rfl⟩ := hh
    refine zi_aload_n 1 (dq dC_gatherAlternatives 19 rfl) rfl ?_
    obtain ⟨o5, eo5, ho5, h⟩ := q_o h
    refine zi_rc0 eo5 ?_
    obtain ⟨v6, hv6, h⟩ := q_c h
    refine zi_cVi0 (SK_leastTag (zag_rf _) ho5 hv6 (d := d - 1) (by omega)) wK_leastTag aC_205 iK_leastTag sK_leastTag (by omega) ho5 rfl (Nat.le_of_ble_eq_true rfl) (dq dC_gatherAlternatives 20 rfl) (fun _ _ hh => ?_)
    obtain ⟨rfl, rfl⟩ := hh
    refine zi_icmp_ge (tgt := 52) (dq dC_gatherAlternatives 21 rfl) (by decide) (fun c => ?_) (fun c => ?_)
    · have h := q_t c h
      refine zi_aload_n 2 (dq dC_gatherAlternatives 28 rfl) rfl ?_
      obtain ⟨o7, eo7, ho7, h⟩ := q_o h
      refine zi_rc0 eo7 ?_
      refine zi_getr ho7 fC_200 (dq dC_gatherAlternatives 29 rfl) ?_
      refine zi_astC_n (lv' := [(2, _), (0, _), (1, _)]) (dq dC_gatherAlternatives 30 rfl) (by decide) (by simp [z_cr, z_ci]) rfl ?_
      refine zi_goto (tgt := 27) (dq dC_gatherAlternatives 31 rfl) (by decide) ?_
      exact zG_lv (zs_c 1 rfl (zs_c 2 rfl (zs_c 0 rfl zs_n))) (hK27 _ h)
    · have h := q_f c h
      refine zi_aload_n 1 (dq dC_gatherAlternatives 22 rfl) rfl ?_
      refine zi_dup (dq dC_gatherAlternatives 23 rfl) (by first | rfl | exact z_cr _) ?_
      obtain ⟨o9, eo9, ho9, h⟩ := q_o h
      refine zi_rc0 eo9 ?_
      refine zi_geti ho9 fC_208 (dq dC_gatherAlternatives 24 rfl) ?_
      refine zi_iconst (v := 1) (dq dC_gatherAlternatives 25 rfl) (by decide) ?_
      refine zi_iadd (dq dC_gatherAlternatives 26 rfl) ?_
      obtain ⟨o10, eo10, ho10, h⟩ := q_o h
      refine zi_rc1 eo10 ?_
      refine zi_puti ho10 fC_208 (fun h => by cases h) rfl rfl (dq dC_gatherAlternatives 27 rfl) ?_
      refine zi_aload_n 2 (dq dC_gatherAlternatives 28 rfl) rfl ?_
      obtain ⟨o12, eo12, ho12, h⟩ := q_o h
      refine zi_rc0 eo12 ?_
      refine zi_getr ho12 fC_200 (dq dC_gatherAlternatives 29 rfl) ?_
      refine zi_astC_n (lv' := [(2, _), (0, _), (1, _)]) (dq dC_gatherAlternatives 30 rfl) (by decide) (by simp [z_cr, z_ci]) rfl ?_
      refine zi_goto (tgt := 27) (dq dC_gatherAlternatives 31 rfl) (by decide) ?_
      exact zG_lv (zs_c 1 rfl (zs_c 2 rfl (zs_c 0 rfl zs_n))) (hK27 _ h)
def FC_gatherAlternatives_5 (N : Nat) (KC : Nat) (KS : Nat) (l0 : Option Nat) (K5 : (Option Nat × zM) → Option (Unit × zM)) (s : Option Nat × zM) : Option (Unit × zM) :=
  let l1 := s.1
  let M := s.2
  if l1 = none then
    some ((), M)
  else
    qo l0 M 6 fun o1 =>
    qo l1 M 1 fun o2 =>
    qc (FK_tags N M o2) fun v3 =>
    qo l0 M 6 fun o4 =>
    let M5 := zpi M o4 6 ((zi M o1 6) ||| v3)
    qo l0 M5 6 fun o6 =>
    let y7 := zr M5 o6 10
    qfix (FC_gatherAlternatives_27 N KC KS K5 l0 l1) N (y7, M5)
theorem SC_gatherAlternatives_5 {g : zg} {d N : Nat} {KC KS : Nat} {r : Unit} {M1 : zM}  {l0 : Option Nat} (hz : zZ g KC KS) (hd : 2 ≤ d)  : ∀ n s, qfix (FC_gatherAlternatives_5 N KC KS l0) n s = some (r, M1) → zG g d mC_gatherAlternatives (zPq (rU r) (M1)) (s.2) 5 [(0, va_rf l0), (1, va_rf s.1)] [] := by
  refine qfix_sound (fun K5 hK5 s h => ?_)
  unfold FC_gatherAlternatives_5 at h
  refine zi_aload_n 1 (dq dC_gatherAlternatives 3 rfl) rfl ?_
  refine zi_ifnull (tgt := 68) (dq dC_gatherAlternatives 4 rfl) (by decide) (fun c => ?_) (fun _ c => ?_)
  · have h := q_t c h
    exact zi_return rfl (dq dC_gatherAlternatives 36 rfl) (q_ruZ h)
  · have h := q_f (by rw [c]; exact nofun) h
    refine zi_aload_n 0 (dq dC_gatherAlternatives 5 rfl) rfl ?_
    refine zi_dup (dq dC_gatherAlternatives 6 rfl) (by first | rfl | exact z_cr _) ?_
    obtain ⟨o1, eo1, ho1, h⟩ := q_o h
    refine zi_rc0 eo1 ?_
    refine zi_geti ho1 fC_203 (dq dC_gatherAlternatives 7 rfl) ?_
    refine zi_aload_n 1 (dq dC_gatherAlternatives 8 rfl) rfl ?_
    obtain ⟨o2, eo2, ho2, h⟩ := q_o h
    refine zi_rc0 eo2 ?_
    obtain ⟨v3, hv3, h⟩ := q_c h
    refine zi_cVi0 (SK_tags (zag_rf _) ho2 hv3 (d := d - 1) (by omega)) wK_tags aC_197 iK_tags sK_tags (by omega) ho2 rfl (Nat.le_of_ble_eq_true rfl) (dq dC_gatherAlternatives 9 rfl) (fun _ _ hh => ?_)
    obtain ⟨rfl, rfl⟩ := hh
    refine zi_ior (dq dC_gatherAlternatives 10 rfl) ?_
    obtain ⟨o4, eo4, ho4, h⟩ := q_o h
    refine zi_rc1 eo4 ?_
    refine zi_puti ho4 fC_203 (fun h => by cases h) rfl rfl (dq dC_gatherAlternatives 11 rfl) ?_
    refine zi_aload_n 0 (dq dC_gatherAlternatives 12 rfl) rfl ?_
    obtain ⟨o6, eo6, ho6, h⟩ := q_o h
    refine zi_rc0 eo6 ?_
    refine zi_getr ho6 fC_193 (dq dC_gatherAlternatives 13 rfl) ?_
    refine zi_astC_n (lv' := [(2, _), (0, _), (1, _)]) (dq dC_gatherAlternatives 14 rfl) (by decide) (by simp [z_cr, z_ci]) rfl ?_
    exact zG_lv (zs_c 1 rfl (zs_c 2 rfl (zs_c 0 rfl zs_n))) (SC_gatherAlternatives_27 hz hd hK5 _ _ h)
def FC_gatherAlternatives (N : Nat) (KC : Nat) (KS : Nat) (l0 : Option Nat) (M : zM) : Option (Unit × zM) :=
  qo l0 M 6 fun o1 =>
  let y2 := zr M o1 10
  qfix (FC_gatherAlternatives_5 N KC KS l0) N (y2, M)
theorem SC_gatherAlternatives {g : zg} {d N : Nat} {KC KS : Nat} {r : Unit} {M1 : zM} {M : zM} {l0 : Option Nat} (hz : zZ g KC KS) (h : FC_gatherAlternatives N KC KS l0 M = some (r, M1)) (hd : 2 ≤ d) : zEv g d mC_gatherAlternatives [va_rf l0] (M) (fun Mq => Mq = M1) := by
  unfold FC_gatherAlternatives at h
  refine zEu_q (r := r) (lv := [(0, va_rf l0)]) ⟨by decide +kernel, by decide, by decide +kernel⟩ (by simp [z_cr, z_ci]) (Nat.le_of_ble_eq_true rfl) rfl ?_
  refine zi_aload_n 0 (dq dC_gatherAlternatives 0 rfl) rfl ?_
  obtain ⟨o1, eo1, ho1, h⟩ := q_o h
  refine zi_rc0 eo1 ?_
  refine zi_getr ho1 fC_193 (dq dC_gatherAlternatives 1 rfl) ?_
  refine zi_astC_n (lv' := [(1, _), (0, _)]) (dq dC_gatherAlternatives 2 rfl) (by decide) (by simp [z_cr, z_ci]) rfl ?_
  exact zG_lv (zs_c 1 rfl (zs_c 0 rfl zs_n)) (SC_gatherAlternatives_5 hz hd  _ _ h)
def FC_closeMembers_56 (N : Nat) (KC : Nat) (KS : Nat) (o : Nat) (M : zM) : Option (Bool × zM) :=
  qk (decide (zsh M o = some (.inl 0))) <|
  let M2 := zpi M o 7 ((zi M o 7) + 1)
  some (true, M2)
theorem SC_closeMembers_56 {g : zg} {d N : Nat} {KC KS : Nat} {r : Bool} {M1 : zM} {M : zM}  {o : Nat} (hz : zZ g KC KS) (h : FC_closeMembers_56 N KC KS o M = some (r, M1)) (hd : 3 ≤ d)  : zG g d mC_closeMembers (zPq (rB r) (M1)) (M) 56 [(0, va_rf (some o))] [] := by
  unfold FC_closeMembers_56 at h
  refine zi_aload_n 0 (dq dC_closeMembers 28 rfl) rfl ?_
  refine zi_dup (dq dC_closeMembers 29 rfl) (by first | rfl | exact z_cr _) ?_
  obtain ⟨c1, h⟩ := q_k h
  replace c1 := of_decide_eq_true c1
  refine zi_geti c1 fC_44 (dq dC_closeMembers 30 rfl) ?_
  refine zi_iconst (v := 1) (dq dC_closeMembers 31 rfl) (by decide) ?_
  refine zi_iadd (dq dC_closeMembers 32 rfl) ?_
  refine zi_puti c1 fC_44 (fun h => by cases h) rfl rfl (dq dC_closeMembers 33 rfl) ?_
  refine zi_iconst (v := 1) (dq dC_closeMembers 34 rfl) (by decide) ?_
  exact zi_ireturn rfl (by decide) (dq dC_closeMembers 35 rfl) (q_rbZ (b := true) h)
def FC_closeMembers_48 (N : Nat) (KC : Nat) (KS : Nat) (o : Nat) (l1 : Option Nat) (l2 : Int32) (M : zM) : Option (Bool × zM) :=
  if l2 = 0 then
    FC_closeMembers_56 N KC KS o M
  else
    qb (FC_gatherAlternatives N KC KS l1 M) fun v1 M2 =>
    FC_closeMembers_56 N KC KS o M2
theorem SC_closeMembers_48 {g : zg} {d N : Nat} {KC KS : Nat} {r : Bool} {M1 : zM} {M : zM}  {o : Nat} {l1 : Option Nat} {l2 : Int32} (hz : zZ g KC KS) (h : FC_closeMembers_48 N KC KS o l1 l2 M = some (r, M1)) (hd : 3 ≤ d)  : zG g d mC_closeMembers (zPq (rB r) (M1)) (M) 48 [(0, va_rf (some o)), (1, va_rf l1), (2, .int l2)] [] := by
  unfold FC_closeMembers_48 at h
  refine zi_iload_n 2 (dq dC_closeMembers 24 rfl) rfl ?_
  refine zi_if_eq (tgt := 56) (dq dC_closeMembers 25 rfl) (by decide) (fun c => ?_) (fun c => ?_)
  · have h := q_t c h
    exact zG_lv (zs_c 0 rfl zs_n) (SC_closeMembers_56 hz h hd )
  · have h := q_f c h
    refine zi_aload_n 1 (dq dC_closeMembers 26 rfl) rfl ?_
    obtain ⟨v1, M2, hv1, h⟩ := q_b h
    refine zi_cSv1 (SC_gatherAlternatives hz   hv1 (d := d - 1) (by omega)) wC_gatherAlternatives aC_189 tC_gatherAlternatives (by omega) (Nat.le_of_ble_eq_true rfl) (dq dC_closeMembers 27 rfl) (fun _ hh => ?_)
    subst hh
    exact zG_lv (zs_c 0 rfl zs_n) (SC_closeMembers_56 hz h hd )
def FC_closeMembers_36 (N : Nat) (KC : Nat) (KS : Nat) (o : Nat) (M : zM) : Option (Bool × zM) :=
  qk (decide (zsh M o = some (.inl 0))) <|
  qb (FC_refuse N KC KS o 6 (zi M o 7) M) fun v2 M3 =>
  some (false, M3)
theorem SC_closeMembers_36 {g : zg} {d N : Nat} {KC KS : Nat} {r : Bool} {M1 : zM} {M : zM}  {o : Nat} (hz : zZ g KC KS) (h : FC_closeMembers_36 N KC KS o M = some (r, M1)) (hd : 3 ≤ d)  : zG g d mC_closeMembers (zPq (rB r) (M1)) (M) 36 [(0, va_rf (some o))] [] := by
  unfold FC_closeMembers_36 at h
  refine zi_aload_n 0 (dq dC_closeMembers 17 rfl) rfl ?_
  refine zi_bipush (v := 6) (dq dC_closeMembers 18 rfl) (by decide) ?_
  refine zi_aload_n 0 (dq dC_closeMembers 19 rfl) rfl ?_
  obtain ⟨c1, h⟩ := q_k h
  replace c1 := of_decide_eq_true c1
  refine zi_geti c1 fC_44 (dq dC_closeMembers 20 rfl) ?_
  obtain ⟨v2, M3, hv2, h⟩ := q_b h
  refine zi_cVv2 (SC_refuse hz  c1 hv2 (d := d - 1) (by omega)) wC_refuse aC_63 iC_refuse sC_refuse (by omega) c1 rfl (Nat.le_of_ble_eq_true rfl) (dq dC_closeMembers 21 rfl) (fun _ hh => ?_)
  subst hh
  refine zi_iconst (v := 0) (dq dC_closeMembers 22 rfl) (by decide) ?_
  exact zi_ireturn rfl (by decide) (dq dC_closeMembers 23 rfl) (q_rbZ (b := false) h)
def FC_closeMembers_14 (N : Nat) (KC : Nat) (KS : Nat) (o : Nat) (l1 : Option Nat) (t0 : Int32) (M : zM) : Option (Bool × zM) :=
  if t0 = 0 then
    qc (FC_componentsClash N M l1) fun v1 =>
    if (bI v1) = 0 then
      FC_closeMembers_48 N KC KS o l1 t0 M
    else
      FC_closeMembers_36 N KC KS o M
  else
    qc (FC_alternativesClash N M l1) fun v2 =>
    if (bI v2) = 0 then
      FC_closeMembers_48 N KC KS o l1 t0 M
    else
      FC_closeMembers_36 N KC KS o M
theorem SC_closeMembers_14 {g : zg} {d N : Nat} {KC KS : Nat} {r : Bool} {M1 : zM} {M : zM}  {o : Nat} {l1 : Option Nat} {t0 : Int32} (hz : zZ g KC KS) (h : FC_closeMembers_14 N KC KS o l1 t0 M = some (r, M1)) (hd : 3 ≤ d)  : zG g d mC_closeMembers (zPq (rB r) (M1)) (M) 14 [(0, va_rf (some o)), (1, va_rf l1)] [.int t0] := by
  unfold FC_closeMembers_14 at h
  refine zi_istC_n (lv' := [(2, _), (0, _), (1, _)]) (dq dC_closeMembers 7 rfl) (by decide) (by simp [z_cr, z_ci]) rfl ?_
  refine zi_iload_n 0 (dq dC_closeMembers 8 rfl) rfl ?_
  refine zi_if_eq (tgt := 29) (dq dC_closeMembers 9 rfl) (by decide) (fun c => ?_) (fun c => ?_)
  · have h := q_t c h
    refine zi_aload_n 2 (dq dC_closeMembers 14 rfl) rfl ?_
    obtain ⟨v1, hv1, h⟩ := q_c h
    refine zi_cSi1 (SC_componentsClash (zag_rf _) hv1 (d := d - 1) (by omega)) wC_componentsClash aC_186 tC_componentsClash (by omega) (Nat.le_of_ble_eq_true rfl) (dq dC_closeMembers 15 rfl) (fun _ _ hh => ?_)
    obtain ⟨rfl, rfl⟩ := hh
    refine zi_if_eq (tgt := 48) (dq dC_closeMembers 16 rfl) (by decide) (fun c => ?_) (fun c => ?_)
    · have h := q_t c h
      exact zG_lv (zs_c 1 rfl (zs_c 2 rfl (zs_c 0 rfl zs_n))) (SC_closeMembers_48 hz h hd )
    · have h := q_f c h
      exact zG_lv (zs_c 1 rfl zs_n) (SC_closeMembers_36 hz h hd )
  · have h := q_f c h
    refine zi_aload_n 2 (dq dC_closeMembers 10 rfl) rfl ?_
    obtain ⟨v2, hv2, h⟩ := q_c h
    refine zi_cSi1 (SC_alternativesClash (zag_rf _) hv2 (d := d - 1) (by omega)) wC_alternativesClash aC_183 tC_alternativesClash (by omega) (Nat.le_of_ble_eq_true rfl) (dq dC_closeMembers 11 rfl) (fun _ _ hh => ?_)
    obtain ⟨rfl, rfl⟩ := hh
    refine zi_if_eq (tgt := 48) (dq dC_closeMembers 12 rfl) (by decide) (fun c => ?_) (fun c => ?_)
    · have h := q_t c h
      exact zG_lv (zs_c 1 rfl (zs_c 2 rfl (zs_c 0 rfl zs_n))) (SC_closeMembers_48 hz h hd )
    · have h := q_f c h
      refine zi_goto (tgt := 36) (dq dC_closeMembers 13 rfl) (by decide) ?_
      exact zG_lv (zs_c 1 rfl zs_n) (SC_closeMembers_36 hz h hd )
def FC_closeMembers (N : Nat) (KC : Nat) (KS : Nat) (o : Nat) (l1 : Option Nat) (M : zM) : Option (Bool × zM) :=
  qo l1 M 6 fun o1 =>
  if (zi M o1 0) = 9 then
    FC_closeMembers_14 N KC KS o l1 1 M
  else
    FC_closeMembers_14 N KC KS o l1 0 M
theorem SC_closeMembers {g : zg} {d N : Nat} {KC KS : Nat} {r : Bool} {M1 : zM} {M : zM} {o : Nat} {l1 : Option Nat} (hz : zZ g KC KS) (hs0 : zsh M o = some (.inl 0)) (h : FC_closeMembers N KC KS o l1 M = some (r, M1)) (hd : 3 ≤ d) : zEi g d mC_closeMembers [va_rf (some o), va_rf l1] (M) (fun v Mq => v = bI r ∧ Mq = M1) := by
  unfold FC_closeMembers at h
  refine zEb_q (r := r) (lv := [(0, va_rf (some o)), (1, va_rf l1)]) ⟨by decide +kernel, by decide, by decide +kernel⟩ (by simp [z_cr, z_ci]) (Nat.le_of_ble_eq_true rfl) rfl ?_
  refine zi_aload_n 1 (dq dC_closeMembers 0 rfl) rfl ?_
  obtain ⟨o1, eo1, ho1, h⟩ := q_o h
  refine zi_rc0 eo1 ?_
  refine zi_geti ho1 fC_86 (dq dC_closeMembers 1 rfl) ?_
  refine zi_bipush (v := 9) (dq dC_closeMembers 2 rfl) (by decide) ?_
  refine zi_icmp_ne (tgt := 13) (dq dC_closeMembers 3 rfl) (by decide) (fun c => ?_) (fun c => ?_)
  · have h := q_f c h
    refine zi_iconst (v := 0) (dq dC_closeMembers 6 rfl) (by decide) ?_
    exact zG_lv (zs_c 0 rfl (zs_c 1 rfl zs_n)) (SC_closeMembers_14 hz h hd )
  · have h := q_t c h
    refine zi_iconst (v := 1) (dq dC_closeMembers 4 rfl) (by decide) ?_
    refine zi_goto (tgt := 14) (dq dC_closeMembers 5 rfl) (by decide) ?_
    exact zG_lv (zs_c 0 rfl (zs_c 1 rfl zs_n)) (SC_closeMembers_14 hz h hd )
def FC_newMember_55 (N : Nat) (KC : Nat) (KS : Nat) (o : Nat) (l1 : Option Nat) (l2 : Option Nat) (M : zM) : Option (Option Nat × zM) :=
  qo l2 M 1 fun o1 =>
  qb (FK_begin N KC KS o1 l1 M) fun v2 M3 =>
  qk (decide (zsh M3 o = some (.inl 0))) <|
  let M5 := zpi M3 o 5 ((zi M3 o 5) + 1)
  some (l2, M5)
theorem SC_newMember_55 {g : zg} {d N : Nat} {KC KS : Nat} {r : Option Nat} {M1 : zM} {M : zM}  {o : Nat} {l1 : Option Nat} {l2 : Option Nat} (hz : zZ g KC KS) (h : FC_newMember_55 N KC KS o l1 l2 M = some (r, M1)) (hd : 2 ≤ d)  : zG g d mC_newMember (zPq (rR r) (M1)) (M) 55 [(0, va_rf (some o)), (1, va_rf l1), (2, va_rf l2)] [] := by
  unfold FC_newMember_55 at h
  refine zi_aload_n 2 (dq dC_newMember 31 rfl) rfl ?_
  refine zi_aload_n 1 (dq dC_newMember 32 rfl) rfl ?_
  obtain ⟨o1, eo1, ho1, h⟩ := q_o h
  refine zi_rc1 eo1 ?_
  obtain ⟨v2, M3, hv2, h⟩ := q_b h
  refine zi_cVv1 (SK_begin hz  ho1 hv2 (d := d - 1) (by omega)) wK_begin aC_217 iK_begin sK_begin (by omega) ho1 rfl (Nat.le_of_ble_eq_true rfl) (dq dC_newMember 33 rfl) (fun _ hh => ?_)
  subst hh
  refine zi_aload_n 0 (dq dC_newMember 34 rfl) rfl ?_
  refine zi_dup (dq dC_newMember 35 rfl) (by first | rfl | exact z_cr _) ?_
  obtain ⟨c4, h⟩ := q_k h
  replace c4 := of_decide_eq_true c4
  refine zi_geti c4 fC_53 (dq dC_newMember 36 rfl) ?_
  refine zi_iconst (v := 1) (dq dC_newMember 37 rfl) (by decide) ?_
  refine zi_iadd (dq dC_newMember 38 rfl) ?_
  refine zi_puti c4 fC_53 (fun h => by cases h) rfl rfl (dq dC_newMember 39 rfl) ?_
  refine zi_aload_n 2 (dq dC_newMember 40 rfl) rfl ?_
  exact zi_areturn rfl (dq dC_newMember 41 rfl) (q_rrZ h)
def FC_newMember (N : Nat) (KC : Nat) (KS : Nat) (o : Nat) (l1 : Option Nat) (M : zM) : Option (Option Nat × zM) :=
  ql (zr M o 3) M 5 fun a1 na1 =>
  if (zi M o 5) < (nI na1) then
    qa (zr M o 3) M 5 (zi M o 5) fun a2 =>
    let y3 := zr M a2 (zi M o 5).toNatClampNeg
    if y3 = none then
      qk (decide (zsz M + 1 ≤ KC) && decide (zsl M + 6 ≤ KS)) <|
      let o6 := zsz M
      let M5 := znew M (.inl 1) 6
      qb (FK_init N KC KS o6 M5) fun v7 M8 =>
      qk (decide (zsh M8 o = some (.inl 0))) <|
      qa (zr M8 o 3) M8 5 (zi M8 o 5) fun a10 =>
      qk (decide (zsh M8 o6 = some (.inl 1))) <|
      let M11 := zpr M8 a10 (zi M8 o 5).toNatClampNeg (some o6)
      FC_newMember_55 N KC KS o l1 (some o6) M11
    else
      FC_newMember_55 N KC KS o l1 y3 M
  else
    qb (FC_refuse N KC KS o 1 (zi M o 7) M) fun v13 M14 =>
    some (none, M14)
theorem SC_newMember {g : zg} {d N : Nat} {KC KS : Nat} {r : Option Nat} {M1 : zM} {M : zM} {o : Nat} {l1 : Option Nat} (hz : zZ g KC KS) (hs0 : zsh M o = some (.inl 0)) (h : FC_newMember N KC KS o l1 M = some (r, M1)) (hd : 2 ≤ d) : zEr g d mC_newMember [va_rf (some o), va_rf l1] (M) (fun v Mq => v = r ∧ Mq = M1) := by
  unfold FC_newMember at h
  refine zEr_q (r := r) (lv := [(0, va_rf (some o)), (1, va_rf l1)]) ⟨by decide +kernel, by decide, by decide +kernel⟩ (by simp [z_cr, z_ci]) (Nat.le_of_ble_eq_true rfl) rfl ?_
  refine zi_aload_n 0 (dq dC_newMember 0 rfl) rfl ?_
  refine zi_geti hs0 fC_53 (dq dC_newMember 1 rfl) ?_
  refine zi_aload_n 0 (dq dC_newMember 2 rfl) rfl ?_
  refine zi_getr hs0 fC_26 (dq dC_newMember 3 rfl) ?_
  obtain ⟨a1, na1, ea1, ha1, h⟩ := q_l h
  refine zi_rc0 ea1 ?_
  refine zi_alen ha1 rfl (dq dC_newMember 4 rfl) ?_
  refine zi_icmp_lt (tgt := 23) (dq dC_newMember 5 rfl) (by decide) (fun c => ?_) (fun c => ?_)
  · have h := q_t c h
    refine zi_aload_n 0 (dq dC_newMember 13 rfl) rfl ?_
    refine zi_getr hs0 fC_26 (dq dC_newMember 14 rfl) ?_
    refine zi_aload_n 0 (dq dC_newMember 15 rfl) rfl ?_
    refine zi_geti hs0 fC_53 (dq dC_newMember 16 rfl) ?_
    obtain ⟨a2, na2, ea2, ha2, ia2, h⟩ := q_a h
    refine zi_rc1 ea2 ?_
    refine zi_aald ha2 rfl ia2 (dq dC_newMember 17 rfl) ?_
    refine zi_astC_n (lv' := [(2, _), (0, _), (1, _)]) (dq dC_newMember 18 rfl) (by decide) (by simp [z_cr, z_ci]) rfl ?_
    refine zi_aload_n 0 (dq dC_newMember 19 rfl) rfl ?_
    refine zi_ifnonnull (tgt := 55) (dq dC_newMember 20 rfl) (by decide) (fun _ c => ?_) (fun c => ?_)
    · have h := q_f (by rw [c]; exact nofun) h
      exact zG_lv (zs_c 1 rfl (zs_c 2 rfl (zs_c 0 rfl zs_n))) (SC_newMember_55 hz h hd )
    · have h := q_t c h
      obtain ⟨c4, h⟩ := q_k h
      refine zi_new kK vK bC_24 nK gK (q_room hz.1 hz.2.1 c4) (dq dC_newMember 21 rfl) ?_
      refine zi_dup (dq dC_newMember 22 rfl) (by first | rfl | exact z_cr _) ?_
      obtain ⟨v7, M8, hv7, h⟩ := q_b h
      refine zi_cI0 rfl (SK_init hz  (z_nsh _ _ _) hv7 (d := d - 1) (by omega)) wK_init aC_216 iK_init rfl (by omega) (Nat.le_of_ble_eq_true rfl) (dq dC_newMember 23 rfl) (fun _ hh => ?_)
      subst hh
      refine zi_astC_n (lv' := [(2, _), (0, _), (1, _)]) (dq dC_newMember 24 rfl) (by decide) (by simp [z_cr, z_ci]) rfl ?_
      refine zi_aload_n 1 (dq dC_newMember 25 rfl) rfl ?_
      obtain ⟨c9, h⟩ := q_k h
      replace c9 := of_decide_eq_true c9
      refine zi_getr c9 fC_26 (dq dC_newMember 26 rfl) ?_
      refine zi_aload_n 1 (dq dC_newMember 27 rfl) rfl ?_
      refine zi_geti c9 fC_53 (dq dC_newMember 28 rfl) ?_
      refine zi_aload_n 0 (dq dC_newMember 29 rfl) rfl ?_
      obtain ⟨a10, na10, ea10, ha10, ia10, h⟩ := q_a h
      refine zi_rc2 ea10 ?_
      obtain ⟨c12, h⟩ := q_k h
      replace c12 := of_decide_eq_true c12
      refine zi_aast ha10 rfl c12 rfl ia10 (dq dC_newMember 30 rfl) ?_
      exact zG_lv (zs_c 1 rfl (zs_c 2 rfl (zs_c 0 rfl zs_n))) (SC_newMember_55 hz h hd )
  · have h := q_f c h
    refine zi_aload_n 0 (dq dC_newMember 6 rfl) rfl ?_
    refine zi_iconst (v := 1) (dq dC_newMember 7 rfl) (by decide) ?_
    refine zi_aload_n 0 (dq dC_newMember 8 rfl) rfl ?_
    refine zi_geti hs0 fC_44 (dq dC_newMember 9 rfl) ?_
    obtain ⟨v13, M14, hv13, h⟩ := q_b h
    refine zi_cVv2 (SC_refuse hz  hs0 hv13 (d := d - 1) (by omega)) wC_refuse aC_63 iC_refuse sC_refuse (by omega) hs0 rfl (Nat.le_of_ble_eq_true rfl) (dq dC_newMember 10 rfl) (fun _ hh => ?_)
    subst hh
    refine zi_null (dq dC_newMember 11 rfl) ?_
    exact zi_areturn rfl (dq dC_newMember 12 rfl) (q_rrZ h)
def FC_readMode (N : Nat) (KC : Nat) (KS : Nat) (o : Nat) (l1 : Option Nat) (l2 : Option Nat) (M : zM) : Option (Bool × zM) :=
  qb (FC_nextCharacter N KC KS o M) fun v1 M2 =>
  if v1 = 63 then
    qk (decide (zsh M2 o = some (.inl 0))) <|
    let M19 := zpi M2 o 7 ((zi M2 o 7) + 1)
    qo l1 M19 1 fun o20 =>
    let M21 := zpi M19 o20 2 1
    some (true, M21)
  else
    qk (decide (zsh M2 o = some (.inl 0))) <|
    qb (FC_nextCharacter N KC KS o M2) fun v4 M5 =>
    if v4 = 61 then
      qk (decide (zsh M5 o = some (.inl 0))) <|
      let M7 := zpi M5 o 7 ((zi M5 o 7) + 1)
      qb (FC_readNumber N KC KS o M7) fun v8 M9 =>
      if (bI v8) = 0 then
        some (false, M9)
      else
        qk (decide (zsh M9 o = some (.inl 0))) <|
        qc (FC_isDefault N M9 l2 (zi M9 o 9)) fun v11 =>
        if (bI v11) = 0 then
          qb (FC_refuse N KC KS o 4 ((zi M9 o 7) - 1) M9) fun v16 M17 =>
          some (false, M17)
        else
          qo l1 M9 1 fun o12 =>
          let M13 := zpi M9 o12 2 2
          qo l1 M13 1 fun o14 =>
          let M15 := zpi M13 o14 3 (zi M13 o 9)
          some (true, M15)
    else
      some (true, M5)
theorem SC_readMode {g : zg} {d N : Nat} {KC KS : Nat} {r : Bool} {M1 : zM} {M : zM} {o : Nat} {l1 : Option Nat} {l2 : Option Nat} (hz : zZ g KC KS) (hs0 : zsh M o = some (.inl 0)) (h : FC_readMode N KC KS o l1 l2 M = some (r, M1)) (hd : 2 ≤ d) : zEi g d mC_readMode [va_rf (some o), va_rf l1, va_rf l2] (M) (fun v Mq => v = bI r ∧ Mq = M1) := by
  unfold FC_readMode at h
  refine zEb_q (r := r) (lv := [(0, va_rf (some o)), (1, va_rf l1), (2, va_rf l2)]) ⟨by decide +kernel, by decide, by decide +kernel⟩ (by simp [z_cr, z_ci]) (Nat.le_of_ble_eq_true rfl) rfl ?_
  refine zi_aload_n 0 (dq dC_readMode 0 rfl) rfl ?_
  obtain ⟨v1, M2, hv1, h⟩ := q_b h
  refine zi_cVi0 (SC_nextCharacter hz  hs0 hv1 (d := d - 1) (by omega)) wC_nextCharacter aC_59 iC_nextCharacter sC_nextCharacter (by omega) hs0 rfl (Nat.le_of_ble_eq_true rfl) (dq dC_readMode 1 rfl) (fun _ _ hh => ?_)
  obtain ⟨rfl, rfl⟩ := hh
  refine zi_bipush (v := 63) (dq dC_readMode 2 rfl) (by decide) ?_
  refine zi_icmp_ne (tgt := 26) (dq dC_readMode 3 rfl) (by decide) (fun c => ?_) (fun c => ?_)
  · have h := q_f c h
    refine zi_aload_n 0 (dq dC_readMode 15 rfl) rfl ?_
    obtain ⟨c3, h⟩ := q_k h
    replace c3 := of_decide_eq_true c3
    obtain ⟨v4, M5, hv4, h⟩ := q_b h
    refine zi_cVi0 (SC_nextCharacter hz  c3 hv4 (d := d - 1) (by omega)) wC_nextCharacter aC_59 iC_nextCharacter sC_nextCharacter (by omega) c3 rfl (Nat.le_of_ble_eq_true rfl) (dq dC_readMode 16 rfl) (fun _ _ hh => ?_)
    obtain ⟨rfl, rfl⟩ := hh
    refine zi_bipush (v := 61) (dq dC_readMode 17 rfl) (by decide) ?_
    refine zi_icmp_eq (tgt := 37) (dq dC_readMode 18 rfl) (by decide) (fun c => ?_) (fun c => ?_)
    · have h := q_t c h
      refine zi_aload_n 0 (dq dC_readMode 21 rfl) rfl ?_
      refine zi_dup (dq dC_readMode 22 rfl) (by first | rfl | exact z_cr _) ?_
      obtain ⟨c6, h⟩ := q_k h
      replace c6 := of_decide_eq_true c6
      refine zi_geti c6 fC_44 (dq dC_readMode 23 rfl) ?_
      refine zi_iconst (v := 1) (dq dC_readMode 24 rfl) (by decide) ?_
      refine zi_iadd (dq dC_readMode 25 rfl) ?_
      refine zi_puti c6 fC_44 (fun h => by cases h) rfl rfl (dq dC_readMode 26 rfl) ?_
      refine zi_aload_n 0 (dq dC_readMode 27 rfl) rfl ?_
      obtain ⟨v8, M9, hv8, h⟩ := q_b h
      refine zi_cVi0 (SC_readNumber hz  c6 hv8 (d := d - 1) (by omega)) wC_readNumber aC_129 iC_readNumber sC_readNumber (by omega) c6 rfl (Nat.le_of_ble_eq_true rfl) (dq dC_readMode 28 rfl) (fun _ _ hh => ?_)
      obtain ⟨rfl, rfl⟩ := hh
      refine zi_if_ne (tgt := 56) (dq dC_readMode 29 rfl) (by decide) (fun c => ?_) (fun c => ?_)
      · have h := q_f c h
        refine zi_aload_n 2 (dq dC_readMode 32 rfl) rfl ?_
        refine zi_aload_n 0 (dq dC_readMode 33 rfl) rfl ?_
        obtain ⟨c10, h⟩ := q_k h
        replace c10 := of_decide_eq_true c10
        refine zi_geti c10 fC_133 (dq dC_readMode 34 rfl) ?_
        obtain ⟨v11, hv11, h⟩ := q_c h
        refine zi_cSi2 (SC_isDefault (zag_rf _) hv11 (d := d - 1) (by omega)) wC_isDefault aC_176 tC_isDefault (by omega) (Nat.le_of_ble_eq_true rfl) (dq dC_readMode 35 rfl) (fun _ _ hh => ?_)
        obtain ⟨rfl, rfl⟩ := hh
        refine zi_if_ne (tgt := 80) (dq dC_readMode 36 rfl) (by decide) (fun c => ?_) (fun c => ?_)
        · have h := q_f c h
          refine zi_aload_n 1 (dq dC_readMode 46 rfl) rfl ?_
          refine zi_iconst (v := 2) (dq dC_readMode 47 rfl) (by decide) ?_
          obtain ⟨o12, eo12, ho12, h⟩ := q_o h
          refine zi_rc1 eo12 ?_
          refine zi_puti ho12 fC_173 (fun h => by cases h) rfl rfl (dq dC_readMode 48 rfl) ?_
          refine zi_aload_n 1 (dq dC_readMode 49 rfl) rfl ?_
          refine zi_aload_n 0 (dq dC_readMode 50 rfl) rfl ?_
          refine zi_geti c10 fC_133 (dq dC_readMode 51 rfl) ?_
          obtain ⟨o14, eo14, ho14, h⟩ := q_o h
          refine zi_rc1 eo14 ?_
          refine zi_puti ho14 fC_179 (fun h => by cases h) rfl rfl (dq dC_readMode 52 rfl) ?_
          refine zi_iconst (v := 1) (dq dC_readMode 53 rfl) (by decide) ?_
          exact zi_ireturn rfl (by decide) (dq dC_readMode 54 rfl) (q_rbZ (b := true) h)
        · have h := q_t c h
          refine zi_aload_n 0 (dq dC_readMode 37 rfl) rfl ?_
          refine zi_iconst (v := 4) (dq dC_readMode 38 rfl) (by decide) ?_
          refine zi_aload_n 0 (dq dC_readMode 39 rfl) rfl ?_
          refine zi_geti c10 fC_44 (dq dC_readMode 40 rfl) ?_
          refine zi_iconst (v := 1) (dq dC_readMode 41 rfl) (by decide) ?_
          refine zi_isub (dq dC_readMode 42 rfl) ?_
          obtain ⟨v16, M17, hv16, h⟩ := q_b h
          refine zi_cVv2 (SC_refuse hz  c10 hv16 (d := d - 1) (by omega)) wC_refuse aC_63 iC_refuse sC_refuse (by omega) c10 rfl (Nat.le_of_ble_eq_true rfl) (dq dC_readMode 43 rfl) (fun _ hh => ?_)
          subst hh
          refine zi_iconst (v := 0) (dq dC_readMode 44 rfl) (by decide) ?_
          exact zi_ireturn rfl (by decide) (dq dC_readMode 45 rfl) (q_rbZ (b := false) h)
      · have h := q_t c h
        refine zi_iconst (v := 0) (dq dC_readMode 30 rfl) (by decide) ?_
        exact zi_ireturn rfl (by decide) (dq dC_readMode 31 rfl) (q_rbZ (b := false) h)
    · have h := q_f c h
      refine zi_iconst (v := 1) (dq dC_readMode 19 rfl) (by decide) ?_
      exact zi_ireturn rfl (by decide) (dq dC_readMode 20 rfl) (q_rbZ (b := true) h)
  · have h := q_t c h
    refine zi_aload_n 0 (dq dC_readMode 4 rfl) rfl ?_
    refine zi_dup (dq dC_readMode 5 rfl) (by first | rfl | exact z_cr _) ?_
    obtain ⟨c18, h⟩ := q_k h
    replace c18 := of_decide_eq_true c18
    refine zi_geti c18 fC_44 (dq dC_readMode 6 rfl) ?_
    refine zi_iconst (v := 1) (dq dC_readMode 7 rfl) (by decide) ?_
    refine zi_iadd (dq dC_readMode 8 rfl) ?_
    refine zi_puti c18 fC_44 (fun h => by cases h) rfl rfl (dq dC_readMode 9 rfl) ?_
    refine zi_aload_n 1 (dq dC_readMode 10 rfl) rfl ?_
    refine zi_iconst (v := 1) (dq dC_readMode 11 rfl) (by decide) ?_
    obtain ⟨o20, eo20, ho20, h⟩ := q_o h
    refine zi_rc1 eo20 ?_
    refine zi_puti ho20 fC_173 (fun h => by cases h) rfl rfl (dq dC_readMode 12 rfl) ?_
    refine zi_iconst (v := 1) (dq dC_readMode 13 rfl) (by decide) ?_
    exact zi_ireturn rfl (by decide) (dq dC_readMode 14 rfl) (q_rbZ (b := true) h)
def FC_readMember (N : Nat) (KC : Nat) (KS : Nat) (rec : (Nat × Int32 × zM) → Option (Option Nat × zM)) (o : Nat) (l1 : Option Nat) (l2 : Int32) (M : zM) : Option (Bool × zM) :=
  qb (rec (o, l2, M)) fun v1 M2 =>
  if v1 = none then
    some (false, M2)
  else
    qk (decide (zsh M2 o = some (.inl 0))) <|
    qb (FC_newMember N KC KS o v1 M2) fun v4 M5 =>
    if v4 = none then
      some (false, M5)
    else
      qo l1 M5 6 fun o6 =>
      qb (FT_addMember N KC KS o6 v4 M5) fun v7 M8 =>
      qo l1 M8 6 fun o9 =>
      qo v1 M8 6 fun o10 =>
      qo l1 M8 6 fun o11 =>
      let M12 := zpi M8 o11 7 (if (zi M8 o9 7) < ((zi M8 o10 7) + 1) then ((zi M8 o10 7) + 1) else (zi M8 o9 7))
      qo l1 M12 6 fun o13 =>
      if (zi M12 o13 0) = 9 then
        some (true, M12)
      else
        qo v1 M12 6 fun o14 =>
        qc (FT_untagged N M12 o14) fun v15 =>
        qk (decide (zsh M12 o = some (.inl 0))) <|
        qb (FC_readMode N KC KS o v4 v15 M12) fun v17 M18 =>
        if (bI v17) = 0 then
          some (false, M18)
        else
          some (true, M18)
theorem SC_readMember {g : zg} {d N : Nat} {KC KS : Nat} {rec : (Nat × Int32 × zM) → Option (Option Nat × zM)} {L : Nat} {r : Bool} {M1 : zM} {M : zM} {o : Nat} {l1 : Option Nat} {l2 : Int32} (hz : zZ g KC KS) (hrec : ∀ s r, rec s = some r → zsh s.2.2 s.1 = some (.inl 0) → ∀ d, L ≤ d → zEr g d mC_readType [va_rf (some s.1), .int s.2.1] (s.2.2) (fun v Mq => v = r.1 ∧ Mq = r.2)) (hs0 : zsh M o = some (.inl 0)) (h : FC_readMember N KC KS rec o l1 l2 M = some (r, M1)) (hd : L + 3 ≤ d) : zEi g d mC_readMember [va_rf (some o), va_rf l1, .int l2] (M) (fun v Mq => v = bI r ∧ Mq = M1) := by
  unfold FC_readMember at h
  refine zEb_q (r := r) (lv := [(0, va_rf (some o)), (1, va_rf l1), (2, .int l2)]) ⟨by decide +kernel, by decide, by decide +kernel⟩ (by simp [z_cr, z_ci]) (Nat.le_of_ble_eq_true rfl) rfl ?_
  refine zi_aload_n 0 (dq dC_readMember 0 rfl) rfl ?_
  refine zi_iload_n 2 (dq dC_readMember 1 rfl) rfl ?_
  obtain ⟨v1, M2, hv1, h⟩ := q_b h
  refine zi_cVr1 (hrec _ _ hv1 hs0 (d - 1) (by omega)) wC_readType aC_71 iC_readType sC_readType (by omega) hs0 rfl (Nat.le_of_ble_eq_true rfl) (dq dC_readMember 2 rfl) (fun _ _ hh => ?_)
  obtain ⟨rfl, rfl⟩ := hh
  refine zi_astC_n (lv' := [(3, _), (0, _), (1, _), (2, _)]) (dq dC_readMember 3 rfl) (by decide) (by simp [z_cr, z_ci]) rfl ?_
  refine zi_aload_n 0 (dq dC_readMember 4 rfl) rfl ?_
  refine zi_ifnonnull (tgt := 12) (dq dC_readMember 5 rfl) (by decide) (fun _ c => ?_) (fun c => ?_)
  · have h := q_f (by rw [c]; exact nofun) h
    refine zi_aload_n 1 (dq dC_readMember 8 rfl) rfl ?_
    refine zi_aload_n 0 (dq dC_readMember 9 rfl) rfl ?_
    obtain ⟨c3, h⟩ := q_k h
    replace c3 := of_decide_eq_true c3
    obtain ⟨v4, M5, hv4, h⟩ := q_b h
    refine zi_cVr1 (SC_newMember hz  c3 hv4 (d := d - 1) (by omega)) wC_newMember aC_155 iC_newMember sC_newMember (by omega) c3 rfl (Nat.le_of_ble_eq_true rfl) (dq dC_readMember 10 rfl) (fun _ _ hh => ?_)
    obtain ⟨rfl, rfl⟩ := hh
    refine zi_astC (lv' := [(4, _), (3, _), (0, _), (1, _), (2, _)]) (dq dC_readMember 11 rfl) (by decide) (by simp [z_cr, z_ci]) rfl ?_
    refine zi_aload 0 (dq dC_readMember 12 rfl) rfl ?_
    refine zi_ifnonnull (tgt := 26) (dq dC_readMember 13 rfl) (by decide) (fun _ c => ?_) (fun c => ?_)
    · have h := q_f (by rw [c]; exact nofun) h
      refine zi_aload_n 3 (dq dC_readMember 16 rfl) rfl ?_
      refine zi_aload 0 (dq dC_readMember 17 rfl) rfl ?_
      obtain ⟨o6, eo6, ho6, h⟩ := q_o h
      refine zi_rc1 eo6 ?_
      obtain ⟨v7, M8, hv7, h⟩ := q_b h
      refine zi_cVv1 (ST_addMember hz  ho6 hv7 (d := d - 1) (by omega)) wT_addMember aC_159 iT_addMember sT_addMember (by omega) ho6 rfl (Nat.le_of_ble_eq_true rfl) (dq dC_readMember 18 rfl) (fun _ hh => ?_)
      subst hh
      refine zi_aload_n 3 (dq dC_readMember 19 rfl) rfl ?_
      refine zi_aload_n 3 (dq dC_readMember 20 rfl) rfl ?_
      obtain ⟨o9, eo9, ho9, h⟩ := q_o h
      refine zi_rc0 eo9 ?_
      refine zi_geti ho9 fC_97 (dq dC_readMember 21 rfl) ?_
      refine zi_aload_n 1 (dq dC_readMember 22 rfl) rfl ?_
      obtain ⟨o10, eo10, ho10, h⟩ := q_o h
      refine zi_rc0 eo10 ?_
      refine zi_geti ho10 fC_97 (dq dC_readMember 23 rfl) ?_
      refine zi_iconst (v := 1) (dq dC_readMember 24 rfl) (by decide) ?_
      refine zi_iadd (dq dC_readMember 25 rfl) ?_
      refine zi_mmax aC_163 t_mmax g_math w_mmax (by omega) (Nat.le_of_ble_eq_true rfl) (dq dC_readMember 26 rfl) ?_
      obtain ⟨o11, eo11, ho11, h⟩ := q_o h
      refine zi_rc1 eo11 ?_
      refine zi_puti ho11 fC_97 (fun h => by cases h) rfl rfl (dq dC_readMember 27 rfl) ?_
      refine zi_aload_n 3 (dq dC_readMember 28 rfl) rfl ?_
      obtain ⟨o13, eo13, ho13, h⟩ := q_o h
      refine zi_rc0 eo13 ?_
      refine zi_geti ho13 fC_86 (dq dC_readMember 29 rfl) ?_
      refine zi_bipush (v := 9) (dq dC_readMember 30 rfl) (by decide) ?_
      refine zi_icmp_eq (tgt := 71) (dq dC_readMember 31 rfl) (by decide) (fun c => ?_) (fun c => ?_)
      · have h := q_t c h
        refine zi_iconst (v := 1) (dq dC_readMember 38 rfl) (by decide) ?_
        refine zi_goto (tgt := 76) (dq dC_readMember 39 rfl) (by decide) ?_
        exact zi_ireturn rfl (by decide) (dq dC_readMember 41 rfl) (q_rbZ (b := true) h)
      · have h := q_f c h
        refine zi_aload_n 2 (dq dC_readMember 32 rfl) rfl ?_
        refine zi_aload 0 (dq dC_readMember 33 rfl) rfl ?_
        refine zi_aload_n 1 (dq dC_readMember 34 rfl) rfl ?_
        obtain ⟨o14, eo14, ho14, h⟩ := q_o h
        refine zi_rc0 eo14 ?_
        obtain ⟨v15, hv15, h⟩ := q_c h
        refine zi_cVr0 (ST_untagged (zag_rf _) ho14 hv15 (d := d - 1) (by omega)) wT_untagged aC_166 iT_untagged sT_untagged (by omega) ho14 rfl (Nat.le_of_ble_eq_true rfl) (dq dC_readMember 35 rfl) (fun _ _ hh => ?_)
        obtain ⟨rfl, rfl⟩ := hh
        obtain ⟨c16, h⟩ := q_k h
        replace c16 := of_decide_eq_true c16
        obtain ⟨v17, M18, hv17, h⟩ := q_b h
        refine zi_cVi2 (SC_readMode hz  c16 hv17 (d := d - 1) (by omega)) wC_readMode aC_169 iC_readMode sC_readMode (by omega) c16 rfl (Nat.le_of_ble_eq_true rfl) (dq dC_readMember 36 rfl) (fun _ _ hh => ?_)
        obtain ⟨rfl, rfl⟩ := hh
        refine zi_if_eq (tgt := 75) (dq dC_readMember 37 rfl) (by decide) (fun c => ?_) (fun c => ?_)
        · have h := q_t c h
          refine zi_iconst (v := 0) (dq dC_readMember 40 rfl) (by decide) ?_
          exact zi_ireturn rfl (by decide) (dq dC_readMember 41 rfl) (q_rbZ (b := false) h)
        · have h := q_f c h
          refine zi_iconst (v := 1) (dq dC_readMember 38 rfl) (by decide) ?_
          refine zi_goto (tgt := 76) (dq dC_readMember 39 rfl) (by decide) ?_
          exact zi_ireturn rfl (by decide) (dq dC_readMember 41 rfl) (q_rbZ (b := true) h)
    · have h := q_t c h
      refine zi_iconst (v := 0) (dq dC_readMember 14 rfl) (by decide) ?_
      exact zi_ireturn rfl (by decide) (dq dC_readMember 15 rfl) (q_rbZ (b := false) h)
  · have h := q_t c h
    refine zi_iconst (v := 0) (dq dC_readMember 6 rfl) (by decide) ?_
    exact zi_ireturn rfl (by decide) (dq dC_readMember 7 rfl) (q_rbZ (b := false) h)
def FC_readMembers_104 (N : Nat) (KC : Nat) (KS : Nat) (rec : (Nat × Int32 × zM) → Option (Option Nat × zM)) (K43 : (Int32 × zM) → Option (Bool × zM)) (o : Nat) (l1 : Option Nat) (l2 : Int32) (l3 : Int32) (M : zM) : Option (Bool × zM) :=
  qk (decide (zsh M o = some (.inl 0))) <|
  qb (FC_pass N KC KS o 44 M) fun v2 M3 =>
  if (bI v2) = 0 then
    some (false, M3)
  else
    let y4 := l3 + (1)
    K43 (y4, M3)
theorem SC_readMembers_104 {g : zg} {d N : Nat} {KC KS : Nat} {rec : (Nat × Int32 × zM) → Option (Option Nat × zM)} {L : Nat} {r : Bool} {M1 : zM} {M : zM} {K43 : (Int32 × zM) → Option (Bool × zM)} {o : Nat} {l1 : Option Nat} {l2 : Int32} {l3 : Int32} (hz : zZ g KC KS) (hrec : ∀ s r, rec s = some r → zsh s.2.2 s.1 = some (.inl 0) → ∀ d, L ≤ d → zEr g d mC_readType [va_rf (some s.1), .int s.2.1] (s.2.2) (fun v Mq => v = r.1 ∧ Mq = r.2)) (h : FC_readMembers_104 N KC KS rec K43 o l1 l2 l3 M = some (r, M1)) (hd : L + 4 ≤ d) (hK43 : ∀ s, K43 s = some (r, M1) → zG g d mC_readMembers (zPq (rB r) (M1)) (s.2) 43 [(0, va_rf (some o)), (1, va_rf l1), (2, .int l2), (3, .int s.1)] []) : zG g d mC_readMembers (zPq (rB r) (M1)) (M) 104 [(0, va_rf (some o)), (1, va_rf l1), (2, .int l2), (3, .int l3)] [] := by
  unfold FC_readMembers_104 at h
  refine zi_aload_n 0 (dq dC_readMembers 58 rfl) rfl ?_
  refine zi_bipush (v := 44) (dq dC_readMembers 59 rfl) (by decide) ?_
  obtain ⟨c1, h⟩ := q_k h
  replace c1 := of_decide_eq_true c1
  obtain ⟨v2, M3, hv2, h⟩ := q_b h
  refine zi_cVi1 (SC_pass hz  c1 hv2 (d := d - 1) (by omega)) wC_pass aC_67 iC_pass sC_pass (by omega) c1 rfl (Nat.le_of_ble_eq_true rfl) (dq dC_readMembers 60 rfl) (fun _ _ hh => ?_)
  obtain ⟨rfl, rfl⟩ := hh
  refine zi_if_ne (tgt := 115) (dq dC_readMembers 61 rfl) (by decide) (fun c => ?_) (fun c => ?_)
  · have h := q_f c h
    refine zi_iincC (v := _ + (1)) (lv' := [(3, _), (0, _), (1, _), (2, _)]) 3 (dq dC_readMembers 64 rfl) rfl rfl (by decide) (by simp [z_cr, z_ci]) rfl ?_
    refine zi_goto (tgt := 43) (dq dC_readMembers 65 rfl) (by decide) ?_
    exact zG_lv (zs_c 1 rfl (zs_c 2 rfl (zs_c 3 rfl (zs_c 0 rfl zs_n)))) (hK43 _ h)
  · have h := q_t c h
    refine zi_iconst (v := 0) (dq dC_readMembers 62 rfl) (by decide) ?_
    exact zi_ireturn rfl (by decide) (dq dC_readMembers 63 rfl) (q_rbZ (b := false) h)
def FC_readMembers_43 (N : Nat) (KC : Nat) (KS : Nat) (rec : (Nat × Int32 × zM) → Option (Option Nat × zM)) (o : Nat) (l1 : Option Nat) (l2 : Int32) (K43 : (Int32 × zM) → Option (Bool × zM)) (s : Int32 × zM) : Option (Bool × zM) :=
  let l3 := s.1
  let M := s.2
  if 6 < l3 then
    some (false, M)
  else
    qk (decide (zsh M o = some (.inl 0))) <|
    qb (FC_readMember N KC KS rec o l1 (l2 + 1) M) fun v2 M3 =>
    if (bI v2) = 0 then
      some (false, M3)
    else
      qk (decide (zsh M3 o = some (.inl 0))) <|
      qb (FC_nextCharacter N KC KS o M3) fun v5 M6 =>
      if v5 = 125 then
        qk (decide (zsh M6 o = some (.inl 0))) <|
        qb (FC_closeMembers N KC KS o l1 M6) fun v14 M15 =>
        some (v14, M15)
      else
        qk (decide (zsh M6 o = some (.inl 0))) <|
        qb (FC_nextCharacter N KC KS o M6) fun v8 M9 =>
        if v8 = 44 then
          if l3 = 6 then
            qk (decide (zsh M9 o = some (.inl 0))) <|
            qb (FC_refuse N KC KS o 7 (zi M9 o 7) M9) fun v11 M12 =>
            some (false, M12)
          else
            FC_readMembers_104 N KC KS rec K43 o l1 l2 l3 M9
        else
          FC_readMembers_104 N KC KS rec K43 o l1 l2 l3 M9
theorem SC_readMembers_43 {g : zg} {d N : Nat} {KC KS : Nat} {rec : (Nat × Int32 × zM) → Option (Option Nat × zM)} {L : Nat} {r : Bool} {M1 : zM}  {o : Nat} {l1 : Option Nat} {l2 : Int32} (hz : zZ g KC KS) (hrec : ∀ s r, rec s = some r → zsh s.2.2 s.1 = some (.inl 0) → ∀ d, L ≤ d → zEr g d mC_readType [va_rf (some s.1), .int s.2.1] (s.2.2) (fun v Mq => v = r.1 ∧ Mq = r.2)) (hd : L + 4 ≤ d)  : ∀ n s, qfix (FC_readMembers_43 N KC KS rec o l1 l2) n s = some (r, M1) → zG g d mC_readMembers (zPq (rB r) (M1)) (s.2) 43 [(0, va_rf (some o)), (1, va_rf l1), (2, .int l2), (3, .int s.1)] [] := by
  refine qfix_sound (fun K43 hK43 s h => ?_)
  unfold FC_readMembers_43 at h
  refine zi_iload_n 3 (dq dC_readMembers 24 rfl) rfl ?_
  refine zi_bipush (v := 6) (dq dC_readMembers 25 rfl) (by decide) ?_
  refine zi_icmp_gt (tgt := 121) (dq dC_readMembers 26 rfl) (by decide) (fun c => ?_) (fun c => ?_)
  · have h := q_t c h
    refine zi_iconst (v := 0) (dq dC_readMembers 66 rfl) (by decide) ?_
    exact zi_ireturn rfl (by decide) (dq dC_readMembers 67 rfl) (q_rbZ (b := false) h)
  · have h := q_f c h
    refine zi_aload_n 0 (dq dC_readMembers 27 rfl) rfl ?_
    refine zi_aload_n 1 (dq dC_readMembers 28 rfl) rfl ?_
    refine zi_iload_n 2 (dq dC_readMembers 29 rfl) rfl ?_
    refine zi_iconst (v := 1) (dq dC_readMembers 30 rfl) (by decide) ?_
    refine zi_iadd (dq dC_readMembers 31 rfl) ?_
    obtain ⟨c1, h⟩ := q_k h
    replace c1 := of_decide_eq_true c1
    obtain ⟨v2, M3, hv2, h⟩ := q_b h
    refine zi_cVi2 (SC_readMember hz hrec c1 hv2 (d := d - 1) (by omega)) wC_readMember aC_149 iC_readMember sC_readMember (by omega) c1 rfl (Nat.le_of_ble_eq_true rfl) (dq dC_readMembers 32 rfl) (fun _ _ hh => ?_)
    obtain ⟨rfl, rfl⟩ := hh
    refine zi_if_ne (tgt := 62) (dq dC_readMembers 33 rfl) (by decide) (fun c => ?_) (fun c => ?_)
    · have h := q_f c h
      refine zi_aload_n 0 (dq dC_readMembers 36 rfl) rfl ?_
      obtain ⟨c4, h⟩ := q_k h
      replace c4 := of_decide_eq_true c4
      obtain ⟨v5, M6, hv5, h⟩ := q_b h
      refine zi_cVi0 (SC_nextCharacter hz  c4 hv5 (d := d - 1) (by omega)) wC_nextCharacter aC_59 iC_nextCharacter sC_nextCharacter (by omega) c4 rfl (Nat.le_of_ble_eq_true rfl) (dq dC_readMembers 37 rfl) (fun _ _ hh => ?_)
      obtain ⟨rfl, rfl⟩ := hh
      refine zi_bipush (v := 125) (dq dC_readMembers 38 rfl) (by decide) ?_
      refine zi_icmp_ne (tgt := 77) (dq dC_readMembers 39 rfl) (by decide) (fun c => ?_) (fun c => ?_)
      · have h := q_f c h
        refine zi_aload_n 0 (dq dC_readMembers 44 rfl) rfl ?_
        obtain ⟨c7, h⟩ := q_k h
        replace c7 := of_decide_eq_true c7
        obtain ⟨v8, M9, hv8, h⟩ := q_b h
        refine zi_cVi0 (SC_nextCharacter hz  c7 hv8 (d := d - 1) (by omega)) wC_nextCharacter aC_59 iC_nextCharacter sC_nextCharacter (by omega) c7 rfl (Nat.le_of_ble_eq_true rfl) (dq dC_readMembers 45 rfl) (fun _ _ hh => ?_)
        obtain ⟨rfl, rfl⟩ := hh
        refine zi_bipush (v := 44) (dq dC_readMembers 46 rfl) (by decide) ?_
        refine zi_icmp_ne (tgt := 104) (dq dC_readMembers 47 rfl) (by decide) (fun c => ?_) (fun c => ?_)
        · have h := q_f c h
          exact zG_lv (zs_c 0 rfl (zs_c 1 rfl (zs_c 2 rfl (zs_c 3 rfl zs_n)))) (SC_readMembers_104 hz hrec h hd hK43)
        · have h := q_t c h
          refine zi_iload_n 3 (dq dC_readMembers 48 rfl) rfl ?_
          refine zi_bipush (v := 6) (dq dC_readMembers 49 rfl) (by decide) ?_
          refine zi_icmp_ne (tgt := 104) (dq dC_readMembers 50 rfl) (by decide) (fun c => ?_) (fun c => ?_)
          · have h := q_f c h
            exact zG_lv (zs_c 0 rfl (zs_c 1 rfl (zs_c 2 rfl (zs_c 3 rfl zs_n)))) (SC_readMembers_104 hz hrec h hd hK43)
          · have h := q_t c h
            refine zi_aload_n 0 (dq dC_readMembers 51 rfl) rfl ?_
            refine zi_bipush (v := 7) (dq dC_readMembers 52 rfl) (by decide) ?_
            refine zi_aload_n 0 (dq dC_readMembers 53 rfl) rfl ?_
            obtain ⟨c10, h⟩ := q_k h
            replace c10 := of_decide_eq_true c10
            refine zi_geti c10 fC_44 (dq dC_readMembers 54 rfl) ?_
            obtain ⟨v11, M12, hv11, h⟩ := q_b h
            refine zi_cVv2 (SC_refuse hz  c10 hv11 (d := d - 1) (by omega)) wC_refuse aC_63 iC_refuse sC_refuse (by omega) c10 rfl (Nat.le_of_ble_eq_true rfl) (dq dC_readMembers 55 rfl) (fun _ hh => ?_)
            subst hh
            refine zi_iconst (v := 0) (dq dC_readMembers 56 rfl) (by decide) ?_
            exact zi_ireturn rfl (by decide) (dq dC_readMembers 57 rfl) (q_rbZ (b := false) h)
      · have h := q_t c h
        refine zi_aload_n 0 (dq dC_readMembers 40 rfl) rfl ?_
        refine zi_aload_n 1 (dq dC_readMembers 41 rfl) rfl ?_
        obtain ⟨c13, h⟩ := q_k h
        replace c13 := of_decide_eq_true c13
        obtain ⟨v14, M15, hv14, h⟩ := q_b h
        refine zi_cVi1 (SC_closeMembers hz  c13 hv14 (d := d - 1) (by omega)) wC_closeMembers aC_152 iC_closeMembers sC_closeMembers (by omega) c13 rfl (Nat.le_of_ble_eq_true rfl) (dq dC_readMembers 42 rfl) (fun _ _ hh => ?_)
        obtain ⟨rfl, rfl⟩ := hh
        exact zi_ireturn rfl (bI_nar _) (dq dC_readMembers 43 rfl) (q_rbZ h)
    · have h := q_t c h
      refine zi_iconst (v := 0) (dq dC_readMembers 34 rfl) (by decide) ?_
      exact zi_ireturn rfl (by decide) (dq dC_readMembers 35 rfl) (q_rbZ (b := false) h)
def FC_readMembers (N : Nat) (KC : Nat) (KS : Nat) (rec : (Nat × Int32 × zM) → Option (Option Nat × zM)) (o : Nat) (l1 : Option Nat) (l2 : Int32) (M : zM) : Option (Bool × zM) :=
  qb (FC_pass N KC KS o 123 M) fun v1 M2 =>
  if (bI v1) = 0 then
    some (false, M2)
  else
    qo l1 M2 6 fun o3 =>
    if (zi M2 o3 0) = 6 then
      qk (decide (zsh M2 o = some (.inl 0))) <|
      qb (FC_nextCharacter N KC KS o M2) fun v5 M6 =>
      if v5 = 125 then
        qk (decide (zsh M6 o = some (.inl 0))) <|
        let M8 := zpi M6 o 7 ((zi M6 o 7) + 1)
        some (true, M8)
      else
        qfix (FC_readMembers_43 N KC KS rec o l1 l2) N (1, M6)
    else
      qfix (FC_readMembers_43 N KC KS rec o l1 l2) N (1, M2)
theorem SC_readMembers {g : zg} {d N : Nat} {KC KS : Nat} {rec : (Nat × Int32 × zM) → Option (Option Nat × zM)} {L : Nat} {r : Bool} {M1 : zM} {M : zM} {o : Nat} {l1 : Option Nat} {l2 : Int32} (hz : zZ g KC KS) (hrec : ∀ s r, rec s = some r → zsh s.2.2 s.1 = some (.inl 0) → ∀ d, L ≤ d → zEr g d mC_readType [va_rf (some s.1), .int s.2.1] (s.2.2) (fun v Mq => v = r.1 ∧ Mq = r.2)) (hs0 : zsh M o = some (.inl 0)) (h : FC_readMembers N KC KS rec o l1 l2 M = some (r, M1)) (hd : L + 4 ≤ d) : zEi g d mC_readMembers [va_rf (some o), va_rf l1, .int l2] (M) (fun v Mq => v = bI r ∧ Mq = M1) := by
  unfold FC_readMembers at h
  refine zEb_q (r := r) (lv := [(0, va_rf (some o)), (1, va_rf l1), (2, .int l2)]) ⟨by decide +kernel, by decide, by decide +kernel⟩ (by simp [z_cr, z_ci]) (Nat.le_of_ble_eq_true rfl) rfl ?_
  refine zi_aload_n 0 (dq dC_readMembers 0 rfl) rfl ?_
  refine zi_bipush (v := 123) (dq dC_readMembers 1 rfl) (by decide) ?_
  obtain ⟨v1, M2, hv1, h⟩ := q_b h
  refine zi_cVi1 (SC_pass hz  hs0 hv1 (d := d - 1) (by omega)) wC_pass aC_67 iC_pass sC_pass (by omega) hs0 rfl (Nat.le_of_ble_eq_true rfl) (dq dC_readMembers 2 rfl) (fun _ _ hh => ?_)
  obtain ⟨rfl, rfl⟩ := hh
  refine zi_if_ne (tgt := 11) (dq dC_readMembers 3 rfl) (by decide) (fun c => ?_) (fun c => ?_)
  · have h := q_f c h
    refine zi_aload_n 1 (dq dC_readMembers 6 rfl) rfl ?_
    obtain ⟨o3, eo3, ho3, h⟩ := q_o h
    refine zi_rc0 eo3 ?_
    refine zi_geti ho3 fC_86 (dq dC_readMembers 7 rfl) ?_
    refine zi_bipush (v := 6) (dq dC_readMembers 8 rfl) (by decide) ?_
    refine zi_icmp_ne (tgt := 41) (dq dC_readMembers 9 rfl) (by decide) (fun c => ?_) (fun c => ?_)
    · have h := q_f c h
      refine zi_iconst (v := 1) (dq dC_readMembers 22 rfl) (by decide) ?_
      refine zi_istC_n (lv' := [(3, _), (0, _), (1, _), (2, _)]) (dq dC_readMembers 23 rfl) (by decide) (by simp [z_cr, z_ci]) rfl ?_
      exact zG_lv (zs_c 1 rfl (zs_c 2 rfl (zs_c 3 rfl (zs_c 0 rfl zs_n)))) (SC_readMembers_43 hz hrec hd  _ _ h)
    · have h := q_t c h
      refine zi_aload_n 0 (dq dC_readMembers 10 rfl) rfl ?_
      obtain ⟨c4, h⟩ := q_k h
      replace c4 := of_decide_eq_true c4
      obtain ⟨v5, M6, hv5, h⟩ := q_b h
      refine zi_cVi0 (SC_nextCharacter hz  c4 hv5 (d := d - 1) (by omega)) wC_nextCharacter aC_59 iC_nextCharacter sC_nextCharacter (by omega) c4 rfl (Nat.le_of_ble_eq_true rfl) (dq dC_readMembers 11 rfl) (fun _ _ hh => ?_)
      obtain ⟨rfl, rfl⟩ := hh
      refine zi_bipush (v := 125) (dq dC_readMembers 12 rfl) (by decide) ?_
      refine zi_icmp_ne (tgt := 41) (dq dC_readMembers 13 rfl) (by decide) (fun c => ?_) (fun c => ?_)
      · have h := q_f c h
        refine zi_iconst (v := 1) (dq dC_readMembers 22 rfl) (by decide) ?_
        refine zi_istC_n (lv' := [(3, _), (0, _), (1, _), (2, _)]) (dq dC_readMembers 23 rfl) (by decide) (by simp [z_cr, z_ci]) rfl ?_
        exact zG_lv (zs_c 1 rfl (zs_c 2 rfl (zs_c 3 rfl (zs_c 0 rfl zs_n)))) (SC_readMembers_43 hz hrec hd  _ _ h)
      · have h := q_t c h
        refine zi_aload_n 0 (dq dC_readMembers 14 rfl) rfl ?_
        refine zi_dup (dq dC_readMembers 15 rfl) (by first | rfl | exact z_cr _) ?_
        obtain ⟨c7, h⟩ := q_k h
        replace c7 := of_decide_eq_true c7
        refine zi_geti c7 fC_44 (dq dC_readMembers 16 rfl) ?_
        refine zi_iconst (v := 1) (dq dC_readMembers 17 rfl) (by decide) ?_
        refine zi_iadd (dq dC_readMembers 18 rfl) ?_
        refine zi_puti c7 fC_44 (fun h => by cases h) rfl rfl (dq dC_readMembers 19 rfl) ?_
        refine zi_iconst (v := 1) (dq dC_readMembers 20 rfl) (by decide) ?_
        exact zi_ireturn rfl (by decide) (dq dC_readMembers 21 rfl) (q_rbZ (b := true) h)
  · have h := q_t c h
    refine zi_iconst (v := 0) (dq dC_readMembers 4 rfl) (by decide) ?_
    exact zi_ireturn rfl (by decide) (dq dC_readMembers 5 rfl) (q_rbZ (b := false) h)
def FC_readReference (N : Nat) (KC : Nat) (KS : Nat) (o : Nat) (l1 : Int32) (l2 : Int32) (M : zM) : Option (Option Nat × zM) :=
  qa (zr M o 1) M 4 (l1 - 65) fun a1 =>
  let y2 := zr M a1 (l1 - 65).toNatClampNeg
  if y2 = none then
    qb (FC_refuse N KC KS o 3 (zi M o 7) M) fun v7 M8 =>
    some (none, M8)
  else
    qo y2 M 6 fun o3 =>
    if (l2 + (zi M o3 7)) < 6 then
      let M4 := zpi M o 7 ((zi M o 7) + 1)
      some (y2, M4)
    else
      qb (FC_refuse N KC KS o 5 (zi M o 7) M) fun v5 M6 =>
      some (none, M6)
theorem SC_readReference {g : zg} {d N : Nat} {KC KS : Nat} {r : Option Nat} {M1 : zM} {M : zM} {o : Nat} {l1 : Int32} {l2 : Int32} (hz : zZ g KC KS) (hs0 : zsh M o = some (.inl 0)) (h : FC_readReference N KC KS o l1 l2 M = some (r, M1)) (hd : 1 ≤ d) : zEr g d mC_readReference [va_rf (some o), .int l1, .int l2] (M) (fun v Mq => v = r ∧ Mq = M1) := by
  unfold FC_readReference at h
  refine zEr_q (r := r) (lv := [(0, va_rf (some o)), (1, .int l1), (2, .int l2)]) ⟨by decide +kernel, by decide, by decide +kernel⟩ (by simp [z_cr, z_ci]) (Nat.le_of_ble_eq_true rfl) rfl ?_
  refine zi_aload_n 0 (dq dC_readReference 0 rfl) rfl ?_
  refine zi_getr hs0 fC_17 (dq dC_readReference 1 rfl) ?_
  refine zi_iload_n 1 (dq dC_readReference 2 rfl) rfl ?_
  refine zi_bipush (v := 65) (dq dC_readReference 3 rfl) (by decide) ?_
  refine zi_isub (dq dC_readReference 4 rfl) ?_
  obtain ⟨a1, na1, ea1, ha1, ia1, h⟩ := q_a h
  refine zi_rc1 ea1 ?_
  refine zi_aald ha1 rfl ia1 (dq dC_readReference 5 rfl) ?_
  refine zi_astC_n (lv' := [(3, _), (0, _), (1, _), (2, _)]) (dq dC_readReference 6 rfl) (by decide) (by simp [z_cr, z_ci]) rfl ?_
  refine zi_aload_n 0 (dq dC_readReference 7 rfl) rfl ?_
  refine zi_ifnonnull (tgt := 25) (dq dC_readReference 8 rfl) (by decide) (fun _ c => ?_) (fun c => ?_)
  · have h := q_f (by rw [c]; exact nofun) h
    refine zi_iload_n 3 (dq dC_readReference 16 rfl) rfl ?_
    refine zi_aload_n 0 (dq dC_readReference 17 rfl) rfl ?_
    obtain ⟨o3, eo3, ho3, h⟩ := q_o h
    refine zi_rc0 eo3 ?_
    refine zi_geti ho3 fC_97 (dq dC_readReference 18 rfl) ?_
    refine zi_iadd (dq dC_readReference 19 rfl) ?_
    refine zi_bipush (v := 6) (dq dC_readReference 20 rfl) (by decide) ?_
    refine zi_icmp_lt (tgt := 47) (dq dC_readReference 21 rfl) (by decide) (fun c => ?_) (fun c => ?_)
    · have h := q_t c h
      refine zi_aload_n 1 (dq dC_readReference 29 rfl) rfl ?_
      refine zi_dup (dq dC_readReference 30 rfl) (by first | rfl | exact z_cr _) ?_
      refine zi_geti hs0 fC_44 (dq dC_readReference 31 rfl) ?_
      refine zi_iconst (v := 1) (dq dC_readReference 32 rfl) (by decide) ?_
      refine zi_iadd (dq dC_readReference 33 rfl) ?_
      refine zi_puti hs0 fC_44 (fun h => by cases h) rfl rfl (dq dC_readReference 34 rfl) ?_
      refine zi_aload_n 0 (dq dC_readReference 35 rfl) rfl ?_
      exact zi_areturn rfl (dq dC_readReference 36 rfl) (q_rrZ h)
    · have h := q_f c h
      refine zi_aload_n 1 (dq dC_readReference 22 rfl) rfl ?_
      refine zi_iconst (v := 5) (dq dC_readReference 23 rfl) (by decide) ?_
      refine zi_aload_n 1 (dq dC_readReference 24 rfl) rfl ?_
      refine zi_geti hs0 fC_44 (dq dC_readReference 25 rfl) ?_
      obtain ⟨v5, M6, hv5, h⟩ := q_b h
      refine zi_cVv2 (SC_refuse hz  hs0 hv5 (d := d - 1) (by omega)) wC_refuse aC_63 iC_refuse sC_refuse (by omega) hs0 rfl (Nat.le_of_ble_eq_true rfl) (dq dC_readReference 26 rfl) (fun _ hh => ?_)
      subst hh
      refine zi_null (dq dC_readReference 27 rfl) ?_
      exact zi_areturn rfl (dq dC_readReference 28 rfl) (q_rrZ h)
  · have h := q_t c h
    refine zi_aload_n 1 (dq dC_readReference 9 rfl) rfl ?_
    refine zi_iconst (v := 3) (dq dC_readReference 10 rfl) (by decide) ?_
    refine zi_aload_n 1 (dq dC_readReference 11 rfl) rfl ?_
    refine zi_geti hs0 fC_44 (dq dC_readReference 12 rfl) ?_
    obtain ⟨v7, M8, hv7, h⟩ := q_b h
    refine zi_cVv2 (SC_refuse hz  hs0 hv7 (d := d - 1) (by omega)) wC_refuse aC_63 iC_refuse sC_refuse (by omega) hs0 rfl (Nat.le_of_ble_eq_true rfl) (dq dC_readReference 13 rfl) (fun _ hh => ?_)
    subst hh
    refine zi_null (dq dC_readReference 14 rfl) ?_
    exact zi_areturn rfl (dq dC_readReference 15 rfl) (q_rrZ h)
def FC_readUntagged_161 (N : Nat) (KC : Nat) (KS : Nat) (rec : (Nat × Int32 × zM) → Option (Option Nat × zM)) (l4 : Option Nat) (l5 : Int32) (M : zM) : Option (Option Nat × zM) :=
  if l5 = 0 then
    some (none, M)
  else
    some (l4, M)
theorem SC_readUntagged_161 {g : zg} {d N : Nat} {KC KS : Nat} {rec : (Nat × Int32 × zM) → Option (Option Nat × zM)} {L : Nat} {r : Option Nat} {M1 : zM} {M : zM}  {l4 : Option Nat} {l5 : Int32} (hz : zZ g KC KS) (hrec : ∀ s r, rec s = some r → zsh s.2.2 s.1 = some (.inl 0) → ∀ d, L ≤ d → zEr g d mC_readType [va_rf (some s.1), .int s.2.1] (s.2.2) (fun v Mq => v = r.1 ∧ Mq = r.2)) (h : FC_readUntagged_161 N KC KS rec l4 l5 M = some (r, M1)) (hd : L + 5 ≤ d)  : zG g d mC_readUntagged (zPq (rR r) (M1)) (M) 161 [(4, va_rf l4), (5, .int l5)] [] := by
  unfold FC_readUntagged_161 at h
  refine zi_iload 1 (dq dC_readUntagged 89 rfl) rfl ?_
  refine zi_if_eq (tgt := 171) (dq dC_readUntagged 90 rfl) (by decide) (fun c => ?_) (fun c => ?_)
  · have h := q_t c h
    refine zi_null (dq dC_readUntagged 93 rfl) ?_
    exact zi_areturn rfl (dq dC_readUntagged 94 rfl) (q_rrZ h)
  · have h := q_f c h
    refine zi_aload 0 (dq dC_readUntagged 91 rfl) rfl ?_
    refine zi_goto (tgt := 172) (dq dC_readUntagged 92 rfl) (by decide) ?_
    exact zi_areturn rfl (dq dC_readUntagged 94 rfl) (q_rrZ h)
def FC_readUntagged_96 (N : Nat) (KC : Nat) (KS : Nat) (rec : (Nat × Int32 × zM) → Option (Option Nat × zM)) (o : Nat) (l1 : Int32) (l4 : Option Nat) (M : zM) : Option (Option Nat × zM) :=
  qk (decide (zsh M o = some (.inl 0))) <|
  qb (FC_readMembers N KC KS rec o l4 l1 M) fun v2 M3 =>
  FC_readUntagged_161 N KC KS rec l4 (bI v2) M3
theorem SC_readUntagged_96 {g : zg} {d N : Nat} {KC KS : Nat} {rec : (Nat × Int32 × zM) → Option (Option Nat × zM)} {L : Nat} {r : Option Nat} {M1 : zM} {M : zM}  {o : Nat} {l1 : Int32} {l4 : Option Nat} (hz : zZ g KC KS) (hrec : ∀ s r, rec s = some r → zsh s.2.2 s.1 = some (.inl 0) → ∀ d, L ≤ d → zEr g d mC_readType [va_rf (some s.1), .int s.2.1] (s.2.2) (fun v Mq => v = r.1 ∧ Mq = r.2)) (h : FC_readUntagged_96 N KC KS rec o l1 l4 M = some (r, M1)) (hd : L + 5 ≤ d)  : zG g d mC_readUntagged (zPq (rR r) (M1)) (M) 96 [(0, va_rf (some o)), (1, .int l1), (4, va_rf l4)] [] := by
  unfold FC_readUntagged_96 at h
  refine zi_aload_n 0 (dq dC_readUntagged 56 rfl) rfl ?_
  refine zi_aload 2 (dq dC_readUntagged 57 rfl) rfl ?_
  refine zi_iload_n 1 (dq dC_readUntagged 58 rfl) rfl ?_
  obtain ⟨c1, h⟩ := q_k h
  replace c1 := of_decide_eq_true c1
  obtain ⟨v2, M3, hv2, h⟩ := q_b h
  refine zi_cVi2 (SC_readMembers hz hrec c1 hv2 (d := d - 1) (by omega)) wC_readMembers aC_118 iC_readMembers sC_readMembers (by omega) c1 rfl (Nat.le_of_ble_eq_true rfl) (dq dC_readUntagged 59 rfl) (fun _ _ hh => ?_)
  obtain ⟨rfl, rfl⟩ := hh
  refine zi_istC (lv' := [(5, _), (0, _), (1, _), (4, _)]) (dq dC_readUntagged 60 rfl) (by decide) (by simp [z_cr, z_ci]) rfl ?_
  refine zi_goto (tgt := 161) (dq dC_readUntagged 61 rfl) (by decide) ?_
  exact zG_lv (zs_c 3 rfl (zs_c 0 rfl zs_n)) (SC_readUntagged_161 hz hrec h hd )
def FC_readUntagged_153 (N : Nat) (KC : Nat) (KS : Nat) (rec : (Nat × Int32 × zM) → Option (Option Nat × zM)) (o : Nat) (l4 : Option Nat) (M : zM) : Option (Option Nat × zM) :=
  qk (decide (zsh M o = some (.inl 0))) <|
  qb (FC_readBounds N KC KS o l4 M) fun v2 M3 =>
  FC_readUntagged_161 N KC KS rec l4 (bI v2) M3
theorem SC_readUntagged_153 {g : zg} {d N : Nat} {KC KS : Nat} {rec : (Nat × Int32 × zM) → Option (Option Nat × zM)} {L : Nat} {r : Option Nat} {M1 : zM} {M : zM}  {o : Nat} {l4 : Option Nat} (hz : zZ g KC KS) (hrec : ∀ s r, rec s = some r → zsh s.2.2 s.1 = some (.inl 0) → ∀ d, L ≤ d → zEr g d mC_readType [va_rf (some s.1), .int s.2.1] (s.2.2) (fun v Mq => v = r.1 ∧ Mq = r.2)) (h : FC_readUntagged_153 N KC KS rec o l4 M = some (r, M1)) (hd : L + 5 ≤ d)  : zG g d mC_readUntagged (zPq (rR r) (M1)) (M) 153 [(0, va_rf (some o)), (4, va_rf l4)] [] := by
  unfold FC_readUntagged_153 at h
  refine zi_aload_n 0 (dq dC_readUntagged 85 rfl) rfl ?_
  refine zi_aload 1 (dq dC_readUntagged 86 rfl) rfl ?_
  obtain ⟨c1, h⟩ := q_k h
  replace c1 := of_decide_eq_true c1
  obtain ⟨v2, M3, hv2, h⟩ := q_b h
  refine zi_cVi1 (SC_readBounds hz  c1 hv2 (d := d - 1) (by omega)) wC_readBounds aC_122 iC_readBounds sC_readBounds (by omega) c1 rfl (Nat.le_of_ble_eq_true rfl) (dq dC_readUntagged 87 rfl) (fun _ _ hh => ?_)
  obtain ⟨rfl, rfl⟩ := hh
  refine zi_istC (lv' := [(5, _), (0, _), (4, _)]) (dq dC_readUntagged 88 rfl) (by decide) (by simp [z_cr, z_ci]) rfl ?_
  exact zG_lv (zs_c 2 rfl (zs_c 0 rfl zs_n)) (SC_readUntagged_161 hz hrec h hd )
def FC_readUntagged (N : Nat) (KC : Nat) (KS : Nat) (rec : (Nat × Int32 × zM) → Option (Option Nat × zM)) (o : Nat) (l1 : Int32) (M : zM) : Option (Option Nat × zM) :=
  qb (FC_nextCharacter N KC KS o M) fun v1 M2 =>
  qc (FC_isName N v1) fun v3 =>
  if (bI v3) = 0 then
    qc (FC_kindOf N v1) fun v4 =>
    if v4 = ((-1)) then
      qk (decide (zsh M2 o = some (.inl 0))) <|
      qb (FC_refuse N KC KS o 1 (zi M2 o 7) M2) fun v19 M20 =>
      some (none, M20)
    else
      if l1 < 6 then
        qk (decide (zsh M2 o = some (.inl 0))) <|
        let M6 := zpi M2 o 7 ((zi M2 o 7) + 1)
        qb (FC_newType N KC KS o v4 M6) fun v7 M8 =>
        if v7 = none then
          some (none, M8)
        else
          if v4 = 6 then
            FC_readUntagged_96 N KC KS rec o l1 v7 M8
          else
            if v4 = 9 then
              FC_readUntagged_96 N KC KS rec o l1 v7 M8
            else
              if v4 = 7 then
                qk (decide (zsh M8 o = some (.inl 0))) <|
                qb (FC_readBounds N KC KS o v7 M8) fun v10 M11 =>
                if (bI v10) = 0 then
                  FC_readUntagged_161 N KC KS rec v7 0 M11
                else
                  qk (decide (zsh M11 o = some (.inl 0))) <|
                  qb (FC_readItems N KC KS rec o v7 l1 M11) fun v13 M14 =>
                  if (bI v13) = 0 then
                    FC_readUntagged_161 N KC KS rec v7 0 M14
                  else
                    FC_readUntagged_161 N KC KS rec v7 1 M14
              else
                if v4 = 2 then
                  FC_readUntagged_153 N KC KS rec o v7 M8
                else
                  if v4 = 4 then
                    FC_readUntagged_153 N KC KS rec o v7 M8
                  else
                    FC_readUntagged_161 N KC KS rec v7 1 M8
      else
        qk (decide (zsh M2 o = some (.inl 0))) <|
        qb (FC_refuse N KC KS o 5 (zi M2 o 7) M2) fun v16 M17 =>
        some (none, M17)
  else
    qk (decide (zsh M2 o = some (.inl 0))) <|
    qb (FC_readReference N KC KS o v1 l1 M2) fun v22 M23 =>
    some (v22, M23)
theorem SC_readUntagged {g : zg} {d N : Nat} {KC KS : Nat} {rec : (Nat × Int32 × zM) → Option (Option Nat × zM)} {L : Nat} {r : Option Nat} {M1 : zM} {M : zM} {o : Nat} {l1 : Int32} (hz : zZ g KC KS) (hrec : ∀ s r, rec s = some r → zsh s.2.2 s.1 = some (.inl 0) → ∀ d, L ≤ d → zEr g d mC_readType [va_rf (some s.1), .int s.2.1] (s.2.2) (fun v Mq => v = r.1 ∧ Mq = r.2)) (hs0 : zsh M o = some (.inl 0)) (h : FC_readUntagged N KC KS rec o l1 M = some (r, M1)) (hd : L + 5 ≤ d) : zEr g d mC_readUntagged [va_rf (some o), .int l1] (M) (fun v Mq => v = r ∧ Mq = M1) := by
  unfold FC_readUntagged at h
  refine zEr_q (r := r) (lv := [(0, va_rf (some o)), (1, .int l1)]) ⟨by decide +kernel, by decide, by decide +kernel⟩ (by simp [z_cr, z_ci]) (Nat.le_of_ble_eq_true rfl) rfl ?_
  refine zi_aload_n 0 (dq dC_readUntagged 0 rfl) rfl ?_
  obtain ⟨v1, M2, hv1, h⟩ := q_b h
  refine zi_cVi0 (SC_nextCharacter hz  hs0 hv1 (d := d - 1) (by omega)) wC_nextCharacter aC_59 iC_nextCharacter sC_nextCharacter (by omega) hs0 rfl (Nat.le_of_ble_eq_true rfl) (dq dC_readUntagged 1 rfl) (fun _ _ hh => ?_)
  obtain ⟨rfl, rfl⟩ := hh
  refine zi_istC_n (lv' := [(2, _), (0, _), (1, _)]) (dq dC_readUntagged 2 rfl) (by decide) (by simp [z_cr, z_ci]) rfl ?_
  refine zi_iload_n 0 (dq dC_readUntagged 3 rfl) rfl ?_
  obtain ⟨v3, hv3, h⟩ := q_c h
  refine zi_cSi1 (SC_isName  hv3 (d := d - 1) (by omega)) wC_isName aC_30 tC_isName (by omega) (Nat.le_of_ble_eq_true rfl) (dq dC_readUntagged 4 rfl) (fun _ _ hh => ?_)
  obtain ⟨rfl, rfl⟩ := hh
  refine zi_if_eq (tgt := 19) (dq dC_readUntagged 5 rfl) (by decide) (fun c => ?_) (fun c => ?_)
  · have h := q_t c h
    refine zi_iload_n 0 (dq dC_readUntagged 11 rfl) rfl ?_
    obtain ⟨v4, hv4, h⟩ := q_c h
    refine zi_cSi1 (SC_kindOf  hv4 (d := d - 1) (by omega)) wC_kindOf aC_114 tC_kindOf (by omega) (Nat.le_of_ble_eq_true rfl) (dq dC_readUntagged 12 rfl) (fun _ _ hh => ?_)
    obtain ⟨rfl, rfl⟩ := hh
    refine zi_istC_n (lv' := [(3, _), (2, _), (0, _), (1, _)]) (dq dC_readUntagged 13 rfl) (by decide) (by simp [z_cr, z_ci]) rfl ?_
    refine zi_iload_n 0 (dq dC_readUntagged 14 rfl) rfl ?_
    refine zi_iconst (v := (-1)) (dq dC_readUntagged 15 rfl) (by decide) ?_
    refine zi_icmp_ne (tgt := 40) (dq dC_readUntagged 16 rfl) (by decide) (fun c => ?_) (fun c => ?_)
    · have h := q_f c h
      refine zi_iload_n 3 (dq dC_readUntagged 24 rfl) rfl ?_
      refine zi_bipush (v := 6) (dq dC_readUntagged 25 rfl) (by decide) ?_
      refine zi_icmp_lt (tgt := 57) (dq dC_readUntagged 26 rfl) (by decide) (fun c => ?_) (fun c => ?_)
      · have h := q_t c h
        refine zi_aload_n 2 (dq dC_readUntagged 34 rfl) rfl ?_
        refine zi_dup (dq dC_readUntagged 35 rfl) (by first | rfl | exact z_cr _) ?_
        obtain ⟨c5, h⟩ := q_k h
        replace c5 := of_decide_eq_true c5
        refine zi_geti c5 fC_44 (dq dC_readUntagged 36 rfl) ?_
        refine zi_iconst (v := 1) (dq dC_readUntagged 37 rfl) (by decide) ?_
        refine zi_iadd (dq dC_readUntagged 38 rfl) ?_
        refine zi_puti c5 fC_44 (fun h => by cases h) rfl rfl (dq dC_readUntagged 39 rfl) ?_
        refine zi_aload_n 2 (dq dC_readUntagged 40 rfl) rfl ?_
        refine zi_iload_n 0 (dq dC_readUntagged 41 rfl) rfl ?_
        obtain ⟨v7, M8, hv7, h⟩ := q_b h
        refine zi_cVr1 (SC_newType hz  c5 hv7 (d := d - 1) (by omega)) wC_newType aC_103 iC_newType sC_newType (by omega) c5 rfl (Nat.le_of_ble_eq_true rfl) (dq dC_readUntagged 42 rfl) (fun _ _ hh => ?_)
        obtain ⟨rfl, rfl⟩ := hh
        refine zi_astC (lv' := [(4, _), (3, _), (2, _), (0, _), (1, _)]) (dq dC_readUntagged 43 rfl) (by decide) (by simp [z_cr, z_ci]) rfl ?_
        refine zi_aload 0 (dq dC_readUntagged 44 rfl) rfl ?_
        refine zi_ifnonnull (tgt := 81) (dq dC_readUntagged 45 rfl) (by decide) (fun _ c => ?_) (fun c => ?_)
        · have h := q_f (by rw [c]; exact nofun) h
          refine zi_iconst (v := 1) (dq dC_readUntagged 48 rfl) (by decide) ?_
          refine zi_istC (lv' := [(5, _), (4, _), (3, _), (2, _), (0, _), (1, _)]) (dq dC_readUntagged 49 rfl) (by decide) (by simp [z_cr, z_ci]) rfl ?_
          refine zi_iload_n 2 (dq dC_readUntagged 50 rfl) rfl ?_
          refine zi_bipush (v := 6) (dq dC_readUntagged 51 rfl) (by decide) ?_
          refine zi_icmp_eq (tgt := 96) (dq dC_readUntagged 52 rfl) (by decide) (fun c => ?_) (fun c => ?_)
          · have h := q_t c h
            exact zG_lv (zs_c 4 rfl (zs_c 5 rfl (zs_c 1 rfl zs_n))) (SC_readUntagged_96 hz hrec h hd )
          · have h := q_f c h
            refine zi_iload_n 2 (dq dC_readUntagged 53 rfl) rfl ?_
            refine zi_bipush (v := 9) (dq dC_readUntagged 54 rfl) (by decide) ?_
            refine zi_icmp_ne (tgt := 108) (dq dC_readUntagged 55 rfl) (by decide) (fun c => ?_) (fun c => ?_)
            · have h := q_f c h
              refine zi_iload_n 2 (dq dC_readUntagged 62 rfl) rfl ?_
              refine zi_bipush (v := 7) (dq dC_readUntagged 63 rfl) (by decide) ?_
              refine zi_icmp_ne (tgt := 143) (dq dC_readUntagged 64 rfl) (by decide) (fun c => ?_) (fun c => ?_)
              · have h := q_f c h
                refine zi_iload_n 2 (dq dC_readUntagged 79 rfl) rfl ?_
                refine zi_iconst (v := 2) (dq dC_readUntagged 80 rfl) (by decide) ?_
                refine zi_icmp_eq (tgt := 153) (dq dC_readUntagged 81 rfl) (by decide) (fun c => ?_) (fun c => ?_)
                · have h := q_t c h
                  exact zG_lv (zs_c 4 rfl (zs_c 1 rfl zs_n)) (SC_readUntagged_153 hz hrec h hd )
                · have h := q_f c h
                  refine zi_iload_n 2 (dq dC_readUntagged 82 rfl) rfl ?_
                  refine zi_iconst (v := 4) (dq dC_readUntagged 83 rfl) (by decide) ?_
                  refine zi_icmp_ne (tgt := 161) (dq dC_readUntagged 84 rfl) (by decide) (fun c => ?_) (fun c => ?_)
                  · have h := q_f c h
                    exact zG_lv (zs_c 1 rfl (zs_c 0 rfl zs_n)) (SC_readUntagged_161 hz hrec h hd )
                  · have h := q_t c h
                    exact zG_lv (zs_c 4 rfl (zs_c 1 rfl zs_n)) (SC_readUntagged_153 hz hrec h hd )
              · have h := q_t c h
                refine zi_aload_n 4 (dq dC_readUntagged 65 rfl) rfl ?_
                refine zi_aload 1 (dq dC_readUntagged 66 rfl) rfl ?_
                obtain ⟨c9, h⟩ := q_k h
                replace c9 := of_decide_eq_true c9
                obtain ⟨v10, M11, hv10, h⟩ := q_b h
                refine zi_cVi1 (SC_readBounds hz  c9 hv10 (d := d - 1) (by omega)) wC_readBounds aC_122 iC_readBounds sC_readBounds (by omega) c9 rfl (Nat.le_of_ble_eq_true rfl) (dq dC_readUntagged 67 rfl) (fun _ _ hh => ?_)
                obtain ⟨rfl, rfl⟩ := hh
                refine zi_if_eq (tgt := 137) (dq dC_readUntagged 68 rfl) (by decide) (fun c => ?_) (fun c => ?_)
                · have h := q_t c h
                  refine zi_iconst (v := 0) (dq dC_readUntagged 76 rfl) (by decide) ?_
                  refine zi_istC (lv' := [(5, _), (4, _), (3, _), (2, _), (0, _), (1, _)]) (dq dC_readUntagged 77 rfl) (by decide) (by simp [z_cr, z_ci]) rfl ?_
                  refine zi_goto (tgt := 161) (dq dC_readUntagged 78 rfl) (by decide) ?_
                  exact zG_lv (zs_c 1 rfl (zs_c 0 rfl zs_n)) (SC_readUntagged_161 hz hrec h hd )
                · have h := q_f c h
                  refine zi_aload_n 4 (dq dC_readUntagged 69 rfl) rfl ?_
                  refine zi_aload 1 (dq dC_readUntagged 70 rfl) rfl ?_
                  refine zi_iload_n 5 (dq dC_readUntagged 71 rfl) rfl ?_
                  obtain ⟨c12, h⟩ := q_k h
                  replace c12 := of_decide_eq_true c12
                  obtain ⟨v13, M14, hv13, h⟩ := q_b h
                  refine zi_cVi2 (SC_readItems hz hrec c12 hv13 (d := d - 1) (by omega)) wC_readItems aC_126 iC_readItems sC_readItems (by omega) c12 rfl (Nat.le_of_ble_eq_true rfl) (dq dC_readUntagged 72 rfl) (fun _ _ hh => ?_)
                  obtain ⟨rfl, rfl⟩ := hh
                  refine zi_if_eq (tgt := 137) (dq dC_readUntagged 73 rfl) (by decide) (fun c => ?_) (fun c => ?_)
                  · have h := q_t c h
                    refine zi_iconst (v := 0) (dq dC_readUntagged 76 rfl) (by decide) ?_
                    refine zi_istC (lv' := [(5, _), (4, _), (3, _), (2, _), (0, _), (1, _)]) (dq dC_readUntagged 77 rfl) (by decide) (by simp [z_cr, z_ci]) rfl ?_
                    refine zi_goto (tgt := 161) (dq dC_readUntagged 78 rfl) (by decide) ?_
                    exact zG_lv (zs_c 1 rfl (zs_c 0 rfl zs_n)) (SC_readUntagged_161 hz hrec h hd )
                  · have h := q_f c h
                    refine zi_iconst (v := 1) (dq dC_readUntagged 74 rfl) (by decide) ?_
                    refine zi_goto (tgt := 138) (dq dC_readUntagged 75 rfl) (by decide) ?_
                    refine zi_istC (lv' := [(5, _), (4, _), (3, _), (2, _), (0, _), (1, _)]) (dq dC_readUntagged 77 rfl) (by decide) (by simp [z_cr, z_ci]) rfl ?_
                    refine zi_goto (tgt := 161) (dq dC_readUntagged 78 rfl) (by decide) ?_
                    exact zG_lv (zs_c 1 rfl (zs_c 0 rfl zs_n)) (SC_readUntagged_161 hz hrec h hd )
            · have h := q_t c h
              exact zG_lv (zs_c 4 rfl (zs_c 5 rfl (zs_c 1 rfl zs_n))) (SC_readUntagged_96 hz hrec h hd )
        · have h := q_t c h
          refine zi_null (dq dC_readUntagged 46 rfl) ?_
          exact zi_areturn rfl (dq dC_readUntagged 47 rfl) (q_rrZ h)
      · have h := q_f c h
        refine zi_aload_n 2 (dq dC_readUntagged 27 rfl) rfl ?_
        refine zi_iconst (v := 5) (dq dC_readUntagged 28 rfl) (by decide) ?_
        refine zi_aload_n 2 (dq dC_readUntagged 29 rfl) rfl ?_
        obtain ⟨c15, h⟩ := q_k h
        replace c15 := of_decide_eq_true c15
        refine zi_geti c15 fC_44 (dq dC_readUntagged 30 rfl) ?_
        obtain ⟨v16, M17, hv16, h⟩ := q_b h
        refine zi_cVv2 (SC_refuse hz  c15 hv16 (d := d - 1) (by omega)) wC_refuse aC_63 iC_refuse sC_refuse (by omega) c15 rfl (Nat.le_of_ble_eq_true rfl) (dq dC_readUntagged 31 rfl) (fun _ hh => ?_)
        subst hh
        refine zi_null (dq dC_readUntagged 32 rfl) ?_
        exact zi_areturn rfl (dq dC_readUntagged 33 rfl) (q_rrZ h)
    · have h := q_t c h
      refine zi_aload_n 2 (dq dC_readUntagged 17 rfl) rfl ?_
      refine zi_iconst (v := 1) (dq dC_readUntagged 18 rfl) (by decide) ?_
      refine zi_aload_n 2 (dq dC_readUntagged 19 rfl) rfl ?_
      obtain ⟨c18, h⟩ := q_k h
      replace c18 := of_decide_eq_true c18
      refine zi_geti c18 fC_44 (dq dC_readUntagged 20 rfl) ?_
      obtain ⟨v19, M20, hv19, h⟩ := q_b h
      refine zi_cVv2 (SC_refuse hz  c18 hv19 (d := d - 1) (by omega)) wC_refuse aC_63 iC_refuse sC_refuse (by omega) c18 rfl (Nat.le_of_ble_eq_true rfl) (dq dC_readUntagged 21 rfl) (fun _ hh => ?_)
      subst hh
      refine zi_null (dq dC_readUntagged 22 rfl) ?_
      exact zi_areturn rfl (dq dC_readUntagged 23 rfl) (q_rrZ h)
  · have h := q_f c h
    refine zi_aload_n 1 (dq dC_readUntagged 6 rfl) rfl ?_
    refine zi_iload_n 0 (dq dC_readUntagged 7 rfl) rfl ?_
    refine zi_iload_n 2 (dq dC_readUntagged 8 rfl) rfl ?_
    obtain ⟨c21, h⟩ := q_k h
    replace c21 := of_decide_eq_true c21
    obtain ⟨v22, M23, hv22, h⟩ := q_b h
    refine zi_cVr2 (SC_readReference hz  c21 hv22 (d := d - 1) (by omega)) wC_readReference aC_110 iC_readReference sC_readReference (by omega) c21 rfl (Nat.le_of_ble_eq_true rfl) (dq dC_readUntagged 9 rfl) (fun _ _ hh => ?_)
    obtain ⟨rfl, rfl⟩ := hh
    exact zi_areturn rfl (dq dC_readUntagged 10 rfl) (q_rrZ h)
def FC_setHeights_5 (N : Nat) (KC : Nat) (KS : Nat) (l1 : Option Nat) (K5 : (Int32 × Option Nat × zM) → Option (Unit × zM)) (s : Int32 × Option Nat × zM) : Option (Unit × zM) :=
  let l3 := s.1
  let l4 := s.2.1
  let M := s.2.2
  if l4 = none then
    some ((), M)
  else
    if l4 = l1 then
      some ((), M)
    else
      qo l1 M 6 fun o1 =>
      qo l4 M 6 fun o2 =>
      let M3 := zpi M o2 7 ((zi M o1 7) + l3)
      let y4 := l3 + (-1)
      qo l4 M3 6 fun o5 =>
      let y6 := zr M3 o5 9
      K5 (y4, y6, M3)
theorem SC_setHeights_5 {g : zg} {d N : Nat} {KC KS : Nat} {r : Unit} {M1 : zM}  {l1 : Option Nat} (hz : zZ g KC KS) (hd : 0 ≤ d)  : ∀ n s, qfix (FC_setHeights_5 N KC KS l1) n s = some (r, M1) → zG g d mC_setHeights (zPq (rU r) (M1)) (s.2.2) 5 [(1, va_rf l1), (3, .int s.1), (4, va_rf s.2.1)] [] := by
  refine qfix_sound (fun K5 hK5 s h => ?_)
  unfold FC_setHeights_5 at h
  refine zi_aload 2 (dq dC_setHeights 4 rfl) rfl ?_
  refine zi_ifnull (tgt := 40) (dq dC_setHeights 5 rfl) (by decide) (fun c => ?_) (fun _ c => ?_)
  · have h := q_t c h
    exact zi_return rfl (dq dC_setHeights 20 rfl) (q_ruZ h)
  · have h := q_f (by rw [c]; exact nofun) h
    refine zi_aload 2 (dq dC_setHeights 6 rfl) rfl ?_
    refine zi_aload_n 0 (dq dC_setHeights 7 rfl) rfl ?_
    refine zi_acmp_eq (tgt := 40) (dq dC_setHeights 8 rfl) (by decide) (fun c => ?_) (fun c => ?_)
    · have h := q_t c h
      exact zi_return rfl (dq dC_setHeights 20 rfl) (q_ruZ h)
    · have h := q_f c h
      refine zi_aload 2 (dq dC_setHeights 9 rfl) rfl ?_
      refine zi_aload_n 0 (dq dC_setHeights 10 rfl) rfl ?_
      obtain ⟨o1, eo1, ho1, h⟩ := q_o h
      refine zi_rc0 eo1 ?_
      refine zi_geti ho1 fC_97 (dq dC_setHeights 11 rfl) ?_
      refine zi_iload_n 1 (dq dC_setHeights 12 rfl) rfl ?_
      refine zi_iadd (dq dC_setHeights 13 rfl) ?_
      obtain ⟨o2, eo2, ho2, h⟩ := q_o h
      refine zi_rc1 eo2 ?_
      refine zi_puti ho2 fC_97 (fun h => by cases h) rfl rfl (dq dC_setHeights 14 rfl) ?_
      refine zi_iincC (v := _ + (-1)) (lv' := [(3, _), (1, _), (4, _)]) 1 (dq dC_setHeights 15 rfl) rfl rfl (by decide) (by simp [z_cr, z_ci]) rfl ?_
      refine zi_aload 2 (dq dC_setHeights 16 rfl) rfl ?_
      obtain ⟨o5, eo5, ho5, h⟩ := q_o h
      refine zi_rc0 eo5 ?_
      refine zi_getr ho5 fC_79 (dq dC_setHeights 17 rfl) ?_
      refine zi_astC (lv' := [(4, _), (3, _), (1, _)]) (dq dC_setHeights 18 rfl) (by decide) (by simp [z_cr, z_ci]) rfl ?_
      refine zi_goto (tgt := 5) (dq dC_setHeights 19 rfl) (by decide) ?_
      exact zG_lv (zs_c 2 rfl (zs_c 1 rfl (zs_c 0 rfl zs_n))) (hK5 _ h)
def FC_setHeights (N : Nat) (KC : Nat) (KS : Nat) (l0 : Option Nat) (l1 : Option Nat) (l2 : Int32) (M : zM) : Option (Unit × zM) :=
  qfix (FC_setHeights_5 N KC KS l1) N (l2, l0, M)
theorem SC_setHeights {g : zg} {d N : Nat} {KC KS : Nat} {r : Unit} {M1 : zM} {M : zM} {l0 : Option Nat} {l1 : Option Nat} {l2 : Int32} (hz : zZ g KC KS) (h : FC_setHeights N KC KS l0 l1 l2 M = some (r, M1)) (hd : 0 ≤ d) : zEv g d mC_setHeights [va_rf l0, va_rf l1, .int l2] (M) (fun Mq => Mq = M1) := by
  unfold FC_setHeights at h
  refine zEu_q (r := r) (lv := [(0, va_rf l0), (1, va_rf l1), (2, .int l2)]) ⟨by decide +kernel, by decide, by decide +kernel⟩ (by simp [z_cr, z_ci]) (Nat.le_of_ble_eq_true rfl) rfl ?_
  refine zi_iload_n 2 (dq dC_setHeights 0 rfl) rfl ?_
  refine zi_istC_n (lv' := [(3, _), (0, _), (1, _), (2, _)]) (dq dC_setHeights 1 rfl) (by decide) (by simp [z_cr, z_ci]) rfl ?_
  refine zi_aload_n 1 (dq dC_setHeights 2 rfl) rfl ?_
  refine zi_astC (lv' := [(4, _), (3, _), (0, _), (1, _), (2, _)]) (dq dC_setHeights 3 rfl) (by decide) (by simp [z_cr, z_ci]) rfl ?_
  exact zG_lv (zs_c 3 rfl (zs_c 1 rfl (zs_c 0 rfl zs_n))) (SC_setHeights_5 hz hd  _ _ h)
def FC_readType_105 (N : Nat) (KC : Nat) (KS : Nat) (rec : (Nat × Int32 × zM) → Option (Option Nat × zM)) (l2 : Option Nat) (l4 : Int32) (l5 : Option Nat) (M : zM) : Option (Option Nat × zM) :=
  qb (FC_setHeights N KC KS l2 l5 l4 M) fun v1 M2 =>
  some (l2, M2)
theorem SC_readType_105 {g : zg} {d N : Nat} {KC KS : Nat} {rec : (Nat × Int32 × zM) → Option (Option Nat × zM)} {L : Nat} {r : Option Nat} {M1 : zM} {M : zM}  {l2 : Option Nat} {l4 : Int32} {l5 : Option Nat} (hz : zZ g KC KS) (hrec : ∀ s r, rec s = some r → zsh s.2.2 s.1 = some (.inl 0) → ∀ d, L ≤ d → zEr g d mC_readType [va_rf (some s.1), .int s.2.1] (s.2.2) (fun v Mq => v = r.1 ∧ Mq = r.2)) (h : FC_readType_105 N KC KS rec l2 l4 l5 M = some (r, M1)) (hd : L + 6 ≤ d)  : zG g d mC_readType (zPq (rR r) (M1)) (M) 105 [(2, va_rf l2), (4, .int l4), (5, va_rf l5)] [] := by
  unfold FC_readType_105 at h
  refine zi_aload_n 0 (dq dC_readType 54 rfl) rfl ?_
  refine zi_aload 2 (dq dC_readType 55 rfl) rfl ?_
  refine zi_iload 1 (dq dC_readType 56 rfl) rfl ?_
  obtain ⟨v1, M2, hv1, h⟩ := q_b h
  refine zi_cSv3 (SC_setHeights hz   hv1 (d := d - 1) (by omega)) wC_setHeights aC_93 tC_setHeights (by omega) (Nat.le_of_ble_eq_true rfl) (dq dC_readType 57 rfl) (fun _ hh => ?_)
  subst hh
  refine zi_aload_n 0 (dq dC_readType 58 rfl) rfl ?_
  exact zi_areturn rfl (dq dC_readType 59 rfl) (q_rrZ h)
def FC_readType_62 (N : Nat) (KC : Nat) (KS : Nat) (rec : (Nat × Int32 × zM) → Option (Option Nat × zM)) (o : Nat) (l1 : Int32) (l2 : Option Nat) (l3 : Option Nat) (l4 : Int32) (M : zM) : Option (Option Nat × zM) :=
  qk (decide (zsh M o = some (.inl 0))) <|
  qb (FC_readUntagged N KC KS rec o (l1 + l4) M) fun v2 M3 =>
  if v2 = none then
    some (v2, M3)
  else
    if l3 = none then
      some (v2, M3)
    else
      qo l3 M3 6 fun o4 =>
      let M5 := zpr M3 o4 9 v2
      qo v2 M5 6 fun o6 =>
      if (zi M5 o6 0) = 9 then
        qo l3 M5 6 fun o7 =>
        let M8 := zpi M5 o7 5 1
        FC_readType_105 N KC KS rec l2 l4 v2 M8
      else
        FC_readType_105 N KC KS rec l2 l4 v2 M5
theorem SC_readType_62 {g : zg} {d N : Nat} {KC KS : Nat} {rec : (Nat × Int32 × zM) → Option (Option Nat × zM)} {L : Nat} {r : Option Nat} {M1 : zM} {M : zM}  {o : Nat} {l1 : Int32} {l2 : Option Nat} {l3 : Option Nat} {l4 : Int32} (hz : zZ g KC KS) (hrec : ∀ s r, rec s = some r → zsh s.2.2 s.1 = some (.inl 0) → ∀ d, L ≤ d → zEr g d mC_readType [va_rf (some s.1), .int s.2.1] (s.2.2) (fun v Mq => v = r.1 ∧ Mq = r.2)) (h : FC_readType_62 N KC KS rec o l1 l2 l3 l4 M = some (r, M1)) (hd : L + 6 ≤ d)  : zG g d mC_readType (zPq (rR r) (M1)) (M) 62 [(0, va_rf (some o)), (1, .int l1), (2, va_rf l2), (3, va_rf l3), (4, .int l4)] [] := by
  unfold FC_readType_62 at h
  refine zi_aload_n 0 (dq dC_readType 32 rfl) rfl ?_
  refine zi_iload_n 1 (dq dC_readType 33 rfl) rfl ?_
  refine zi_iload 4 (dq dC_readType 34 rfl) rfl ?_
  refine zi_iadd (dq dC_readType 35 rfl) ?_
  obtain ⟨c1, h⟩ := q_k h
  replace c1 := of_decide_eq_true c1
  obtain ⟨v2, M3, hv2, h⟩ := q_b h
  refine zi_cVr1 (SC_readUntagged hz hrec c1 hv2 (d := d - 1) (by omega)) wC_readUntagged aC_83 iC_readUntagged sC_readUntagged (by omega) c1 rfl (Nat.le_of_ble_eq_true rfl) (dq dC_readType 36 rfl) (fun _ _ hh => ?_)
  obtain ⟨rfl, rfl⟩ := hh
  refine zi_astC (lv' := [(5, _), (0, _), (1, _), (2, _), (3, _), (4, _)]) (dq dC_readType 37 rfl) (by decide) (by simp [z_cr, z_ci]) rfl ?_
  refine zi_aload 0 (dq dC_readType 38 rfl) rfl ?_
  refine zi_ifnull (tgt := 81) (dq dC_readType 39 rfl) (by decide) (fun c => ?_) (fun _ c => ?_)
  · have h := q_t c h
    refine zi_aload 0 (dq dC_readType 42 rfl) rfl ?_
    exact zi_areturn rfl (dq dC_readType 43 rfl) (q_rrZ h)
  · have h := q_f (by rw [c]; exact nofun) h
    refine zi_aload_n 4 (dq dC_readType 40 rfl) rfl ?_
    refine zi_ifnonnull (tgt := 84) (dq dC_readType 41 rfl) (by decide) (fun _ c => ?_) (fun c => ?_)
    · have h := q_f (by rw [c]; exact nofun) h
      refine zi_aload_n 4 (dq dC_readType 44 rfl) rfl ?_
      refine zi_aload 0 (dq dC_readType 45 rfl) rfl ?_
      obtain ⟨o4, eo4, ho4, h⟩ := q_o h
      refine zi_rc1 eo4 ?_
      refine zi_putr ho4 fC_79 (fun h => by cases h) (z_nar_r _ _) (dq dC_readType 46 rfl) ?_
      refine zi_aload 0 (dq dC_readType 47 rfl) rfl ?_
      obtain ⟨o6, eo6, ho6, h⟩ := q_o h
      refine zi_rc0 eo6 ?_
      refine zi_geti ho6 fC_86 (dq dC_readType 48 rfl) ?_
      refine zi_bipush (v := 9) (dq dC_readType 49 rfl) (by decide) ?_
      refine zi_icmp_ne (tgt := 105) (dq dC_readType 50 rfl) (by decide) (fun c => ?_) (fun c => ?_)
      · have h := q_f c h
        exact zG_lv (zs_c 3 rfl (zs_c 5 rfl (zs_c 0 rfl zs_n))) (SC_readType_105 hz hrec h hd )
      · have h := q_t c h
        refine zi_aload_n 4 (dq dC_readType 51 rfl) rfl ?_
        refine zi_iconst (v := 1) (dq dC_readType 52 rfl) (by decide) ?_
        obtain ⟨o7, eo7, ho7, h⟩ := q_o h
        refine zi_rc1 eo7 ?_
        refine zi_puti ho7 fC_89 (fun h => by cases h) (by decide) (by decide) (dq dC_readType 53 rfl) ?_
        exact zG_lv (zs_c 3 rfl (zs_c 5 rfl (zs_c 0 rfl zs_n))) (SC_readType_105 hz hrec h hd )
    · have h := q_t c h
      refine zi_aload 0 (dq dC_readType 42 rfl) rfl ?_
      exact zi_areturn rfl (dq dC_readType 43 rfl) (q_rrZ h)
def FC_readType_7 (N : Nat) (KC : Nat) (KS : Nat) (rec : (Nat × Int32 × zM) → Option (Option Nat × zM)) (o : Nat) (l1 : Int32) (K7 : (Option Nat × Option Nat × Int32 × zM) → Option (Option Nat × zM)) (s : Option Nat × Option Nat × Int32 × zM) : Option (Option Nat × zM) :=
  let l2 := s.1
  let l3 := s.2.1
  let l4 := s.2.2.1
  let M := s.2.2.2
  if 150 ≤ l4 then
    FC_readType_62 N KC KS rec o l1 l2 l3 l4 M
  else
    qk (decide (zsh M o = some (.inl 0))) <|
    qb (FC_nextCharacter N KC KS o M) fun v2 M3 =>
    if v2 = 91 then
      qk (decide (zsh M3 o = some (.inl 0))) <|
      qb (FC_readTag N KC KS o M3) fun v5 M6 =>
      if v5 = none then
        some (none, M6)
      else
        if l3 = none then
          let y10 := l4 + (1)
          K7 (v5, v5, y10, M6)
        else
          qo l3 M6 6 fun o7 =>
          let M8 := zpr M6 o7 9 v5
          let y9 := l4 + (1)
          K7 (l2, v5, y9, M8)
    else
      FC_readType_62 N KC KS rec o l1 l2 l3 l4 M3
theorem SC_readType_7 {g : zg} {d N : Nat} {KC KS : Nat} {rec : (Nat × Int32 × zM) → Option (Option Nat × zM)} {L : Nat} {r : Option Nat} {M1 : zM}  {o : Nat} {l1 : Int32} (hz : zZ g KC KS) (hrec : ∀ s r, rec s = some r → zsh s.2.2 s.1 = some (.inl 0) → ∀ d, L ≤ d → zEr g d mC_readType [va_rf (some s.1), .int s.2.1] (s.2.2) (fun v Mq => v = r.1 ∧ Mq = r.2)) (hd : L + 6 ≤ d)  : ∀ n s, qfix (FC_readType_7 N KC KS rec o l1) n s = some (r, M1) → zG g d mC_readType (zPq (rR r) (M1)) (s.2.2.2) 7 [(0, va_rf (some o)), (1, .int l1), (2, va_rf s.1), (3, va_rf s.2.1), (4, .int s.2.2.1)] [] := by
  refine qfix_sound (fun K7 hK7 s h => ?_)
  unfold FC_readType_7 at h
  refine zi_iload 4 (dq dC_readType 6 rfl) rfl ?_
  refine zi_sipush (v := 150) (dq dC_readType 7 rfl) (by decide) ?_
  refine zi_icmp_ge (tgt := 62) (dq dC_readType 8 rfl) (by decide) (fun c => ?_) (fun c => ?_)
  · have h := q_t c h
    exact zG_lv (zs_c 0 rfl (zs_c 1 rfl (zs_c 2 rfl (zs_c 3 rfl (zs_c 4 rfl zs_n))))) (SC_readType_62 hz hrec h hd )
  · have h := q_f c h
    refine zi_aload_n 0 (dq dC_readType 9 rfl) rfl ?_
    obtain ⟨c1, h⟩ := q_k h
    replace c1 := of_decide_eq_true c1
    obtain ⟨v2, M3, hv2, h⟩ := q_b h
    refine zi_cVi0 (SC_nextCharacter hz  c1 hv2 (d := d - 1) (by omega)) wC_nextCharacter aC_59 iC_nextCharacter sC_nextCharacter (by omega) c1 rfl (Nat.le_of_ble_eq_true rfl) (dq dC_readType 10 rfl) (fun _ _ hh => ?_)
    obtain ⟨rfl, rfl⟩ := hh
    refine zi_bipush (v := 91) (dq dC_readType 11 rfl) (by decide) ?_
    refine zi_icmp_ne (tgt := 62) (dq dC_readType 12 rfl) (by decide) (fun c => ?_) (fun c => ?_)
    · have h := q_f c h
      exact zG_lv (zs_c 0 rfl (zs_c 1 rfl (zs_c 2 rfl (zs_c 3 rfl (zs_c 4 rfl zs_n))))) (SC_readType_62 hz hrec h hd )
    · have h := q_t c h
      refine zi_aload_n 0 (dq dC_readType 13 rfl) rfl ?_
      obtain ⟨c4, h⟩ := q_k h
      replace c4 := of_decide_eq_true c4
      obtain ⟨v5, M6, hv5, h⟩ := q_b h
      refine zi_cVr0 (SC_readTag hz  c4 hv5 (d := d - 1) (by omega)) wC_readTag aC_75 iC_readTag sC_readTag (by omega) c4 rfl (Nat.le_of_ble_eq_true rfl) (dq dC_readType 14 rfl) (fun _ _ hh => ?_)
      obtain ⟨rfl, rfl⟩ := hh
      refine zi_astC (lv' := [(5, _), (0, _), (1, _), (2, _), (3, _), (4, _)]) (dq dC_readType 15 rfl) (by decide) (by simp [z_cr, z_ci]) rfl ?_
      refine zi_aload 0 (dq dC_readType 16 rfl) rfl ?_
      refine zi_ifnonnull (tgt := 37) (dq dC_readType 17 rfl) (by decide) (fun _ c => ?_) (fun c => ?_)
      · have h := q_f (by rw [c]; exact nofun) h
        refine zi_aload_n 4 (dq dC_readType 20 rfl) rfl ?_
        refine zi_ifnonnull (tgt := 47) (dq dC_readType 21 rfl) (by decide) (fun _ c => ?_) (fun c => ?_)
        · have h := q_f (by rw [c]; exact nofun) h
          refine zi_aload_n 4 (dq dC_readType 25 rfl) rfl ?_
          refine zi_aload 0 (dq dC_readType 26 rfl) rfl ?_
          obtain ⟨o7, eo7, ho7, h⟩ := q_o h
          refine zi_rc1 eo7 ?_
          refine zi_putr ho7 fC_79 (fun h => by cases h) (z_nar_r _ _) (dq dC_readType 27 rfl) ?_
          refine zi_aload 0 (dq dC_readType 28 rfl) rfl ?_
          refine zi_astC_n (lv' := [(3, _), (5, _), (0, _), (1, _), (2, _), (4, _)]) (dq dC_readType 29 rfl) (by decide) (by simp [z_cr, z_ci]) rfl ?_
          refine zi_iincC (v := _ + (1)) (lv' := [(4, _), (3, _), (5, _), (0, _), (1, _), (2, _)]) 5 (dq dC_readType 30 rfl) rfl rfl (by decide) (by simp [z_cr, z_ci]) rfl ?_
          refine zi_goto (tgt := 7) (dq dC_readType 31 rfl) (by decide) ?_
          exact zG_lv (zs_c 3 rfl (zs_c 4 rfl (zs_c 5 rfl (zs_c 1 rfl (zs_c 0 rfl zs_n))))) (hK7 _ h)
        · have h := q_t c h
          refine zi_aload 0 (dq dC_readType 22 rfl) rfl ?_
          refine zi_astC_n (lv' := [(2, _), (5, _), (0, _), (1, _), (3, _), (4, _)]) (dq dC_readType 23 rfl) (by decide) (by simp [z_cr, z_ci]) rfl ?_
          refine zi_goto (tgt := 53) (dq dC_readType 24 rfl) (by decide) ?_
          refine zi_aload 1 (dq dC_readType 28 rfl) rfl ?_
          refine zi_astC_n (lv' := [(3, _), (2, _), (5, _), (0, _), (1, _), (4, _)]) (dq dC_readType 29 rfl) (by decide) (by simp [z_cr, z_ci]) rfl ?_
          refine zi_iincC (v := _ + (1)) (lv' := [(4, _), (3, _), (2, _), (5, _), (0, _), (1, _)]) 5 (dq dC_readType 30 rfl) rfl rfl (by decide) (by simp [z_cr, z_ci]) rfl ?_
          refine zi_goto (tgt := 7) (dq dC_readType 31 rfl) (by decide) ?_
          exact zG_lv (zs_c 4 rfl (zs_c 5 rfl (zs_c 2 rfl (zs_c 1 rfl (zs_c 0 rfl zs_n))))) (hK7 _ h)
      · have h := q_t c h
        refine zi_null (dq dC_readType 18 rfl) ?_
        exact zi_areturn rfl (dq dC_readType 19 rfl) (q_rrZ h)
def FC_readType (N : Nat) (KC : Nat) (KS : Nat) (rec : (Nat × Int32 × zM) → Option (Option Nat × zM)) (o : Nat) (l1 : Int32) (M : zM) : Option (Option Nat × zM) :=
  qfix (FC_readType_7 N KC KS rec o l1) N (none, none, 0, M)
theorem SC_readType {g : zg} {d N : Nat} {KC KS : Nat} {rec : (Nat × Int32 × zM) → Option (Option Nat × zM)} {L : Nat} {r : Option Nat} {M1 : zM} {M : zM} {o : Nat} {l1 : Int32} (hz : zZ g KC KS) (hrec : ∀ s r, rec s = some r → zsh s.2.2 s.1 = some (.inl 0) → ∀ d, L ≤ d → zEr g d mC_readType [va_rf (some s.1), .int s.2.1] (s.2.2) (fun v Mq => v = r.1 ∧ Mq = r.2)) (hs0 : zsh M o = some (.inl 0)) (h : FC_readType N KC KS rec o l1 M = some (r, M1)) (hd : L + 6 ≤ d) : zEr g d mC_readType [va_rf (some o), .int l1] (M) (fun v Mq => v = r ∧ Mq = M1) := by
  unfold FC_readType at h
  refine zEr_q (r := r) (lv := [(0, va_rf (some o)), (1, .int l1)]) ⟨by decide +kernel, by decide, by decide +kernel⟩ (by simp [z_cr, z_ci]) (Nat.le_of_ble_eq_true rfl) rfl ?_
  refine zi_null (dq dC_readType 0 rfl) ?_
  refine zi_astC_n (lv' := [(2, _), (0, _), (1, _)]) (dq dC_readType 1 rfl) (by decide) (by simp [z_cr, z_ci]) rfl ?_
  refine zi_null (dq dC_readType 2 rfl) ?_
  refine zi_astC_n (lv' := [(3, _), (2, _), (0, _), (1, _)]) (dq dC_readType 3 rfl) (by decide) (by simp [z_cr, z_ci]) rfl ?_
  refine zi_iconst (v := 0) (dq dC_readType 4 rfl) (by decide) ?_
  refine zi_istC (lv' := [(4, _), (3, _), (2, _), (0, _), (1, _)]) (dq dC_readType 5 rfl) (by decide) (by simp [z_cr, z_ci]) rfl ?_
  exact zG_lv (zs_c 3 rfl (zs_c 4 rfl (zs_c 2 rfl (zs_c 1 rfl (zs_c 0 rfl zs_n))))) (SC_readType_7 hz hrec hd  _ _ h)
def RC_readType (N : Nat) (KC : Nat) (KS : Nat) : Nat → (Nat × Int32 × zM) → Option (Option Nat × zM) := qfix (fun rec s => FC_readType N KC KS rec s.1 s.2.1 s.2.2)
theorem TC_readType {g : zg} {N KC KS : Nat} (hz : zZ g KC KS)  : ∀ n s r, RC_readType N KC KS n s = some r → zsh s.2.2 s.1 = some (.inl 0) → ∀ d, 6 * n ≤ d → zEr g d mC_readType [va_rf (some s.1), .int s.2.1] (s.2.2) (fun v Mq => v = r.1 ∧ Mq = r.2) := by
  refine qrec_sound (fun n rec hrec s r h hs0 d hd => ?_)
  obtain ⟨r1, r2⟩ := r
  exact SC_readType (L := 6 * n) hz hrec hs0 h (by omega)
def FC_readDefinition (N : Nat) (KC : Nat) (KS : Nat) (o : Nat) (M : zM) : Option (Unit × zM) :=
  qb (FC_nextCharacter N KC KS o M) fun v1 M2 =>
  qc (FC_isName N v1) fun v3 =>
  if (bI v3) = 0 then
    qk (decide (zsh M2 o = some (.inl 0))) <|
    qb (FC_refuse N KC KS o 1 (zi M2 o 7) M2) fun v22 M23 =>
    some ((), M23)
  else
    qk (decide (zsh M2 o = some (.inl 0))) <|
    qa (zr M2 o 1) M2 4 (v1 - 65) fun a5 =>
    if (zr M2 a5 (v1 - 65).toNatClampNeg) = none then
      let M6 := zpi M2 o 7 ((zi M2 o 7) + 1)
      qb (FC_pass N KC KS o 61 M6) fun v7 M8 =>
      if (bI v7) = 0 then
        some ((), M8)
      else
        qk (decide (zsh M8 o = some (.inl 0))) <|
        qb (RC_readType N KC KS 8 (o, 0, M8)) fun v10 M11 =>
        if v10 = none then
          some ((), M11)
        else
          qk (decide (zsh M11 o = some (.inl 0))) <|
          qb (FC_pass N KC KS o 59 M11) fun v13 M14 =>
          if (bI v13) = 0 then
            some ((), M14)
          else
            qk (decide (zsh M14 o = some (.inl 0))) <|
            qa (zr M14 o 1) M14 4 (v1 - 65) fun a16 =>
            qo v10 M14 6 fun o18 =>
            let M17 := zpr M14 a16 (v1 - 65).toNatClampNeg (some o18)
            some ((), M17)
    else
      qb (FC_refuse N KC KS o 2 (zi M2 o 7) M2) fun v19 M20 =>
      some ((), M20)
theorem SC_readDefinition {g : zg} {d N : Nat} {KC KS : Nat} {r : Unit} {M1 : zM} {M : zM} {o : Nat} (hz : zZ g KC KS) (hs0 : zsh M o = some (.inl 0)) (h : FC_readDefinition N KC KS o M = some (r, M1)) (hd : 49 ≤ d) : zEv g d mC_readDefinition [va_rf (some o)] (M) (fun Mq => Mq = M1) := by
  unfold FC_readDefinition at h
  refine zEu_q (r := r) (lv := [(0, va_rf (some o))]) ⟨by decide +kernel, by decide, by decide +kernel⟩ (by simp [z_cr, z_ci]) (Nat.le_of_ble_eq_true rfl) rfl ?_
  refine zi_aload_n 0 (dq dC_readDefinition 0 rfl) rfl ?_
  obtain ⟨v1, M2, hv1, h⟩ := q_b h
  refine zi_cVi0 (SC_nextCharacter hz  hs0 hv1 (d := d - 1) (by omega)) wC_nextCharacter aC_59 iC_nextCharacter sC_nextCharacter (by omega) hs0 rfl (Nat.le_of_ble_eq_true rfl) (dq dC_readDefinition 1 rfl) (fun _ _ hh => ?_)
  obtain ⟨rfl, rfl⟩ := hh
  refine zi_istC_n (lv' := [(1, _), (0, _)]) (dq dC_readDefinition 2 rfl) (by decide) (by simp [z_cr, z_ci]) rfl ?_
  refine zi_iload_n 0 (dq dC_readDefinition 3 rfl) rfl ?_
  obtain ⟨v3, hv3, h⟩ := q_c h
  refine zi_cSi1 (SC_isName  hv3 (d := d - 1) (by omega)) wC_isName aC_30 tC_isName (by omega) (Nat.le_of_ble_eq_true rfl) (dq dC_readDefinition 4 rfl) (fun _ _ hh => ?_)
  obtain ⟨rfl, rfl⟩ := hh
  refine zi_if_ne (tgt := 22) (dq dC_readDefinition 5 rfl) (by decide) (fun c => ?_) (fun c => ?_)
  · have h := q_f c h
    refine zi_aload_n 1 (dq dC_readDefinition 12 rfl) rfl ?_
    obtain ⟨c4, h⟩ := q_k h
    replace c4 := of_decide_eq_true c4
    refine zi_getr c4 fC_17 (dq dC_readDefinition 13 rfl) ?_
    refine zi_iload_n 0 (dq dC_readDefinition 14 rfl) rfl ?_
    refine zi_bipush (v := 65) (dq dC_readDefinition 15 rfl) (by decide) ?_
    refine zi_isub (dq dC_readDefinition 16 rfl) ?_
    obtain ⟨a5, na5, ea5, ha5, ia5, h⟩ := q_a h
    refine zi_rc1 ea5 ?_
    refine zi_aald ha5 rfl ia5 (dq dC_readDefinition 17 rfl) ?_
    refine zi_ifnull (tgt := 44) (dq dC_readDefinition 18 rfl) (by decide) (fun c => ?_) (fun _ c => ?_)
    · have h := q_t c h
      refine zi_aload_n 1 (dq dC_readDefinition 25 rfl) rfl ?_
      refine zi_dup (dq dC_readDefinition 26 rfl) (by first | rfl | exact z_cr _) ?_
      refine zi_geti c4 fC_44 (dq dC_readDefinition 27 rfl) ?_
      refine zi_iconst (v := 1) (dq dC_readDefinition 28 rfl) (by decide) ?_
      refine zi_iadd (dq dC_readDefinition 29 rfl) ?_
      refine zi_puti c4 fC_44 (fun h => by cases h) rfl rfl (dq dC_readDefinition 30 rfl) ?_
      refine zi_aload_n 1 (dq dC_readDefinition 31 rfl) rfl ?_
      refine zi_bipush (v := 61) (dq dC_readDefinition 32 rfl) (by decide) ?_
      obtain ⟨v7, M8, hv7, h⟩ := q_b h
      refine zi_cVi1 (SC_pass hz  c4 hv7 (d := d - 1) (by omega)) wC_pass aC_67 iC_pass sC_pass (by omega) c4 rfl (Nat.le_of_ble_eq_true rfl) (dq dC_readDefinition 33 rfl) (fun _ _ hh => ?_)
      obtain ⟨rfl, rfl⟩ := hh
      refine zi_if_ne (tgt := 64) (dq dC_readDefinition 34 rfl) (by decide) (fun c => ?_) (fun c => ?_)
      · have h := q_f c h
        refine zi_aload_n 1 (dq dC_readDefinition 36 rfl) rfl ?_
        refine zi_iconst (v := 0) (dq dC_readDefinition 37 rfl) (by decide) ?_
        obtain ⟨c9, h⟩ := q_k h
        replace c9 := of_decide_eq_true c9
        obtain ⟨v10, M11, hv10, h⟩ := q_b h
        refine zi_cVr1 (TC_readType hz 8 _ _ hv10 c9 (d - 1) (by omega)) wC_readType aC_71 iC_readType sC_readType (by omega) c9 rfl (Nat.le_of_ble_eq_true rfl) (dq dC_readDefinition 38 rfl) (fun _ _ hh => ?_)
        obtain ⟨rfl, rfl⟩ := hh
        refine zi_astC_n (lv' := [(2, _), (1, _), (0, _)]) (dq dC_readDefinition 39 rfl) (by decide) (by simp [z_cr, z_ci]) rfl ?_
        refine zi_aload_n 0 (dq dC_readDefinition 40 rfl) rfl ?_
        refine zi_ifnull (tgt := 93) (dq dC_readDefinition 41 rfl) (by decide) (fun c => ?_) (fun _ c => ?_)
        · have h := q_t c h
          exact zi_return rfl (dq dC_readDefinition 53 rfl) (q_ruZ h)
        · have h := q_f (by rw [c]; exact nofun) h
          refine zi_aload_n 2 (dq dC_readDefinition 42 rfl) rfl ?_
          refine zi_bipush (v := 59) (dq dC_readDefinition 43 rfl) (by decide) ?_
          obtain ⟨c12, h⟩ := q_k h
          replace c12 := of_decide_eq_true c12
          obtain ⟨v13, M14, hv13, h⟩ := q_b h
          refine zi_cVi1 (SC_pass hz  c12 hv13 (d := d - 1) (by omega)) wC_pass aC_67 iC_pass sC_pass (by omega) c12 rfl (Nat.le_of_ble_eq_true rfl) (dq dC_readDefinition 44 rfl) (fun _ _ hh => ?_)
          obtain ⟨rfl, rfl⟩ := hh
          refine zi_if_eq (tgt := 93) (dq dC_readDefinition 45 rfl) (by decide) (fun c => ?_) (fun c => ?_)
          · have h := q_t c h
            exact zi_return rfl (dq dC_readDefinition 53 rfl) (q_ruZ h)
          · have h := q_f c h
            refine zi_aload_n 2 (dq dC_readDefinition 46 rfl) rfl ?_
            obtain ⟨c15, h⟩ := q_k h
            replace c15 := of_decide_eq_true c15
            refine zi_getr c15 fC_17 (dq dC_readDefinition 47 rfl) ?_
            refine zi_iload_n 1 (dq dC_readDefinition 48 rfl) rfl ?_
            refine zi_bipush (v := 65) (dq dC_readDefinition 49 rfl) (by decide) ?_
            refine zi_isub (dq dC_readDefinition 50 rfl) ?_
            refine zi_aload_n 0 (dq dC_readDefinition 51 rfl) rfl ?_
            obtain ⟨a16, na16, ea16, ha16, ia16, h⟩ := q_a h
            refine zi_rc2 ea16 ?_
            obtain ⟨o18, eo18, ho18, h⟩ := q_o h
            refine zi_rc0 eo18 ?_
            refine zi_aast ha16 rfl ho18 rfl ia16 (dq dC_readDefinition 52 rfl) ?_
            exact zi_return rfl (dq dC_readDefinition 53 rfl) (q_ruZ h)
      · have h := q_t c h
        exact zi_return rfl (dq dC_readDefinition 35 rfl) (q_ruZ h)
    · have h := q_f (by rw [c]; exact nofun) h
      refine zi_aload_n 1 (dq dC_readDefinition 19 rfl) rfl ?_
      refine zi_iconst (v := 2) (dq dC_readDefinition 20 rfl) (by decide) ?_
      refine zi_aload_n 1 (dq dC_readDefinition 21 rfl) rfl ?_
      refine zi_geti c4 fC_44 (dq dC_readDefinition 22 rfl) ?_
      obtain ⟨v19, M20, hv19, h⟩ := q_b h
      refine zi_cVv2 (SC_refuse hz  c4 hv19 (d := d - 1) (by omega)) wC_refuse aC_63 iC_refuse sC_refuse (by omega) c4 rfl (Nat.le_of_ble_eq_true rfl) (dq dC_readDefinition 23 rfl) (fun _ hh => ?_)
      subst hh
      exact zi_return rfl (dq dC_readDefinition 24 rfl) (q_ruZ h)
  · have h := q_t c h
    refine zi_aload_n 1 (dq dC_readDefinition 6 rfl) rfl ?_
    refine zi_iconst (v := 1) (dq dC_readDefinition 7 rfl) (by decide) ?_
    refine zi_aload_n 1 (dq dC_readDefinition 8 rfl) rfl ?_
    obtain ⟨c21, h⟩ := q_k h
    replace c21 := of_decide_eq_true c21
    refine zi_geti c21 fC_44 (dq dC_readDefinition 9 rfl) ?_
    obtain ⟨v22, M23, hv22, h⟩ := q_b h
    refine zi_cVv2 (SC_refuse hz  c21 hv22 (d := d - 1) (by omega)) wC_refuse aC_63 iC_refuse sC_refuse (by omega) c21 rfl (Nat.le_of_ble_eq_true rfl) (dq dC_readDefinition 10 rfl) (fun _ hh => ?_)
    subst hh
    exact zi_return rfl (dq dC_readDefinition 11 rfl) (q_ruZ h)
def FC_translate_60 (N : Nat) (KC : Nat) (KS : Nat) (o : Nat) (K60 : (Int32 × zM) → Option (Int32 × zM)) (s : Int32 × zM) : Option (Int32 × zM) :=
  let l2 := s.1
  let M := s.2
  if 150 ≤ l2 then
    qk (decide (zsh M o = some (.inl 0))) <|
    some ((zi M o 8), M)
  else
    qk (decide (zsh M o = some (.inl 0))) <|
    if (zi M o 8) = 0 then
      if (zi M o 6) ≤ (zi M o 7) then
        some ((zi M o 8), M)
      else
        qb (FC_readDefinition N KC KS o M) fun v3 M4 =>
        let y5 := l2 + (1)
        K60 (y5, M4)
    else
      some ((zi M o 8), M)
theorem SC_translate_60 {g : zg} {d N : Nat} {KC KS : Nat} {r : Int32} {M1 : zM}  {o : Nat} (hz : zZ g KC KS) (hd : 50 ≤ d)  : ∀ n s, qfix (FC_translate_60 N KC KS o) n s = some (r, M1) → zG g d mC_translate (zPq (rI r) (M1)) (s.2) 60 [(0, va_rf (some o)), (2, .int s.1)] [] := by
  refine qfix_sound (fun K60 hK60 s h => ?_)
  unfold FC_translate_60 at h
  refine zi_iload_n 1 (dq dC_translate 35 rfl) rfl ?_
  refine zi_sipush (v := 150) (dq dC_translate 36 rfl) (by decide) ?_
  refine zi_icmp_ge (tgt := 95) (dq dC_translate 37 rfl) (by decide) (fun c => ?_) (fun c => ?_)
  · have h := q_t c h
    refine zi_aload_n 0 (dq dC_translate 50 rfl) rfl ?_
    obtain ⟨c1, h⟩ := q_k h
    replace c1 := of_decide_eq_true c1
    refine zi_geti c1 fC_47 (dq dC_translate 51 rfl) ?_
    exact zi_ireturn rfl rfl (dq dC_translate 52 rfl) (q_riZ h)
  · have h := q_f c h
    refine zi_aload_n 0 (dq dC_translate 38 rfl) rfl ?_
    obtain ⟨c2, h⟩ := q_k h
    replace c2 := of_decide_eq_true c2
    refine zi_geti c2 fC_47 (dq dC_translate 39 rfl) ?_
    refine zi_if_ne (tgt := 95) (dq dC_translate 40 rfl) (by decide) (fun c => ?_) (fun c => ?_)
    · have h := q_f c h
      refine zi_aload_n 0 (dq dC_translate 50 rfl) rfl ?_
      refine zi_geti c2 fC_47 (dq dC_translate 51 rfl) ?_
      exact zi_ireturn rfl rfl (dq dC_translate 52 rfl) (q_riZ h)
    · have h := q_t c h
      refine zi_aload_n 0 (dq dC_translate 41 rfl) rfl ?_
      refine zi_geti c2 fC_44 (dq dC_translate 42 rfl) ?_
      refine zi_aload_n 0 (dq dC_translate 43 rfl) rfl ?_
      refine zi_geti c2 fC_40 (dq dC_translate 44 rfl) ?_
      refine zi_icmp_ge (tgt := 95) (dq dC_translate 45 rfl) (by decide) (fun c => ?_) (fun c => ?_)
      · have h := q_t c h
        refine zi_aload_n 0 (dq dC_translate 50 rfl) rfl ?_
        refine zi_geti c2 fC_47 (dq dC_translate 51 rfl) ?_
        exact zi_ireturn rfl rfl (dq dC_translate 52 rfl) (q_riZ h)
      · have h := q_f c h
        refine zi_aload_n 0 (dq dC_translate 46 rfl) rfl ?_
        obtain ⟨v3, M4, hv3, h⟩ := q_b h
        refine zi_cVv0 (SC_readDefinition hz  c2 hv3 (d := d - 1) (by omega)) wC_readDefinition aC_56 iC_readDefinition sC_readDefinition (by omega) c2 rfl (Nat.le_of_ble_eq_true rfl) (dq dC_translate 47 rfl) (fun _ hh => ?_)
        subst hh
        refine zi_iincC (v := _ + (1)) (lv' := [(2, _), (0, _)]) 1 (dq dC_translate 48 rfl) rfl rfl (by decide) (by simp [z_cr, z_ci]) rfl ?_
        refine zi_goto (tgt := 60) (dq dC_translate 49 rfl) (by decide) ?_
        exact zG_lv (zs_c 1 rfl (zs_c 0 rfl zs_n)) (hK60 _ h)
def FC_translate_35 (N : Nat) (KC : Nat) (KS : Nat) (o : Nat) (K35 : (Int32 × zM) → Option (Int32 × zM)) (s : Int32 × zM) : Option (Int32 × zM) :=
  let l2 := s.1
  let M := s.2
  if 26 ≤ l2 then
    qk (decide (zsh M o = some (.inl 0))) <|
    qb (FC_readDefinition N KC KS o M) fun v2 M3 =>
    qfix (FC_translate_60 N KC KS o) N (0, M3)
  else
    qk (decide (zsh M o = some (.inl 0))) <|
    qa (zr M o 1) M 4 l2 fun a5 =>
    let M6 := zpr M a5 l2.toNatClampNeg none
    let y7 := l2 + (1)
    K35 (y7, M6)
theorem SC_translate_35 {g : zg} {d N : Nat} {KC KS : Nat} {r : Int32} {M1 : zM}  {o : Nat} (hz : zZ g KC KS) (hd : 50 ≤ d)  : ∀ n s, qfix (FC_translate_35 N KC KS o) n s = some (r, M1) → zG g d mC_translate (zPq (rI r) (M1)) (s.2) 35 [(0, va_rf (some o)), (2, .int s.1)] [] := by
  refine qfix_sound (fun K35 hK35 s h => ?_)
  unfold FC_translate_35 at h
  refine zi_iload_n 1 (dq dC_translate 21 rfl) rfl ?_
  refine zi_bipush (v := 26) (dq dC_translate 22 rfl) (by decide) ?_
  refine zi_icmp_ge (tgt := 54) (dq dC_translate 23 rfl) (by decide) (fun c => ?_) (fun c => ?_)
  · have h := q_t c h
    refine zi_aload_n 0 (dq dC_translate 31 rfl) rfl ?_
    obtain ⟨c1, h⟩ := q_k h
    replace c1 := of_decide_eq_true c1
    obtain ⟨v2, M3, hv2, h⟩ := q_b h
    refine zi_cVv0 (SC_readDefinition hz  c1 hv2 (d := d - 1) (by omega)) wC_readDefinition aC_56 iC_readDefinition sC_readDefinition (by omega) c1 rfl (Nat.le_of_ble_eq_true rfl) (dq dC_translate 32 rfl) (fun _ hh => ?_)
    subst hh
    refine zi_iconst (v := 0) (dq dC_translate 33 rfl) (by decide) ?_
    refine zi_istC_n (lv' := [(2, _), (0, _)]) (dq dC_translate 34 rfl) (by decide) (by simp [z_cr, z_ci]) rfl ?_
    exact zG_lv (zs_c 1 rfl (zs_c 0 rfl zs_n)) (SC_translate_60 hz hd  _ _ h)
  · have h := q_f c h
    refine zi_aload_n 0 (dq dC_translate 24 rfl) rfl ?_
    obtain ⟨c4, h⟩ := q_k h
    replace c4 := of_decide_eq_true c4
    refine zi_getr c4 fC_17 (dq dC_translate 25 rfl) ?_
    refine zi_iload_n 1 (dq dC_translate 26 rfl) rfl ?_
    refine zi_null (dq dC_translate 27 rfl) ?_
    obtain ⟨a5, na5, ea5, ha5, ia5, h⟩ := q_a h
    refine zi_rc2 ea5 ?_
    refine zi_aastN ha5 rfl ia5 (dq dC_translate 28 rfl) ?_
    refine zi_iincC (v := _ + (1)) (lv' := [(2, _), (0, _)]) 1 (dq dC_translate 29 rfl) rfl rfl (by decide) (by simp [z_cr, z_ci]) rfl ?_
    refine zi_goto (tgt := 35) (dq dC_translate 30 rfl) (by decide) ?_
    exact zG_lv (zs_c 1 rfl (zs_c 0 rfl zs_n)) (hK35 _ h)
def FC_translate (N : Nat) (KC : Nat) (KS : Nat) (o : Nat) (l1 : Int32) (M : zM) : Option (Int32 × zM) :=
  ql (zr M o 0) M 1 fun a1 na1 =>
  let M2 := zpi M o 6 (if (nI na1) < l1 then (nI na1) else l1)
  let M3 := zpi M2 o 7 0
  let M4 := zpi M3 o 8 0
  let M5 := zpi M4 o 4 0
  let M6 := zpi M5 o 5 0
  qfix (FC_translate_35 N KC KS o) N (0, M6)
theorem SC_translate {g : zg} {d N : Nat} {KC KS : Nat} {r : Int32} {M1 : zM} {M : zM} {o : Nat} {l1 : Int32} (hz : zZ g KC KS) (hs0 : zsh M o = some (.inl 0)) (h : FC_translate N KC KS o l1 M = some (r, M1)) (hd : 50 ≤ d) : zEi g d mC_translate [va_rf (some o), .int l1] (M) (fun v Mq => v = r ∧ Mq = M1) := by
  unfold FC_translate at h
  refine zEi_q (r := r) (lv := [(0, va_rf (some o)), (1, .int l1)]) ⟨by decide +kernel, by decide, by decide +kernel⟩ (by simp [z_cr, z_ci]) (Nat.le_of_ble_eq_true rfl) rfl ?_
  refine zi_aload_n 0 (dq dC_translate 0 rfl) rfl ?_
  refine zi_iload_n 1 (dq dC_translate 1 rfl) rfl ?_
  refine zi_aload_n 0 (dq dC_translate 2 rfl) rfl ?_
  refine zi_getr hs0 fC_9 (dq dC_translate 3 rfl) ?_
  obtain ⟨a1, na1, ea1, ha1, h⟩ := q_l h
  refine zi_rc0 ea1 ?_
  refine zi_alen ha1 rfl (dq dC_translate 4 rfl) ?_
  refine zi_mmin aC_34 t_mmin g_math w_mmin (by omega) (Nat.le_of_ble_eq_true rfl) (dq dC_translate 5 rfl) ?_
  refine zi_puti hs0 fC_40 (fun h => by cases h) rfl rfl (dq dC_translate 6 rfl) ?_
  refine zi_aload_n 0 (dq dC_translate 7 rfl) rfl ?_
  refine zi_iconst (v := 0) (dq dC_translate 8 rfl) (by decide) ?_
  refine zi_puti hs0 fC_44 (fun h => by cases h) rfl rfl (dq dC_translate 9 rfl) ?_
  refine zi_aload_n 0 (dq dC_translate 10 rfl) rfl ?_
  refine zi_iconst (v := 0) (dq dC_translate 11 rfl) (by decide) ?_
  refine zi_puti hs0 fC_47 (fun h => by cases h) rfl rfl (dq dC_translate 12 rfl) ?_
  refine zi_aload_n 0 (dq dC_translate 13 rfl) rfl ?_
  refine zi_iconst (v := 0) (dq dC_translate 14 rfl) (by decide) ?_
  refine zi_puti hs0 fC_50 (fun h => by cases h) rfl rfl (dq dC_translate 15 rfl) ?_
  refine zi_aload_n 0 (dq dC_translate 16 rfl) rfl ?_
  refine zi_iconst (v := 0) (dq dC_translate 17 rfl) (by decide) ?_
  refine zi_puti hs0 fC_53 (fun h => by cases h) rfl rfl (dq dC_translate 18 rfl) ?_
  refine zi_iconst (v := 0) (dq dC_translate 19 rfl) (by decide) ?_
  refine zi_istC_n (lv' := [(2, _), (0, _), (1, _)]) (dq dC_translate 20 rfl) (by decide) (by simp [z_cr, z_ci]) rfl ?_
  exact zG_lv (zs_c 1 rfl (zs_c 0 rfl zs_n)) (SC_translate_35 hz hd  _ _ h)
