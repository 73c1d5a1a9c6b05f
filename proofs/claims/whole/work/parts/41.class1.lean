/-! THE CLASS AS FUNCTIONS, 1 (tools/genC.py) -/
def FV_empty (N : Nat) (M0 : zM) (v : Nat) (J : zJ) : Option (Unit × zJ) :=
  let J1 := zu J v 0 0
  let J2 := zu J1 v 8 0
  some ((), J2)
theorem SV_empty {g : zg} {d N : Nat} {M0 : zM} {A : Nat} {r : Unit} {J1 : zJ} {J : zJ} {v : Nat} (hL : zLy M0 A (vShL v) (vRf v)) (hv : v + 8 ≤ 32) (hg : ∀ J, zag M0 (zmm M0 A 32 J)) (h : FV_empty N M0 v J = some (r, J1)) (hd : 0 ≤ d) : zEv g d mV_empty [va_rf (some (A + v))] (zmm M0 A 32 J) (fun Mq => Mq = zmm M0 A 32 J1) := by
  unfold FV_empty at h
  refine zEu_q (r := r) (lv := [(0, va_rf (some (A + v)))]) ⟨by decide +kernel, by decide, by decide +kernel⟩ (by simp [z_cr, z_ci]) (Nat.le_of_ble_eq_true rfl) rfl ?_
  refine zi_aload_n 0 (dq dV_empty 0 rfl) rfl ?_
  refine zi_iconst (v := 0) (dq dV_empty 1 rfl) (by decide) ?_
  refine ri_puti (zLs hL 0 rfl) (by omega) fV_33 (fun h => by cases h) rfl rfl (dq dV_empty 2 rfl) ?_
  refine zi_aload_n 0 (dq dV_empty 3 rfl) rfl ?_
  refine zi_iconst (v := 0) (dq dV_empty 4 rfl) (by decide) ?_
  refine ri_puti (zLs hL 0 rfl) (by omega) fV_37 (fun h => by cases h) rfl rfl (dq dV_empty 5 rfl) ?_
  exact zi_return rfl (dq dV_empty 6 rfl) (q_ru h)
def FV_copyOf (N : Nat) (M0 : zM) (J : zJ) : Option (Unit × zJ) :=
  let J1 := zu J 8 0 (J 16 0)
  let J2 := zu J1 8 8 (J1 16 8)
  qk (qcp 0 0 (J2 8 0) 100 100) <|
  let J4 := zcpJ J2 17 9 (0 : Int32).toNatClampNeg (0 : Int32).toNatClampNeg (J2 8 0).toNatClampNeg
  qk (qcp 0 0 (J4 8 0) 100 100) <|
  let J6 := zcpJ J4 18 10 (0 : Int32).toNatClampNeg (0 : Int32).toNatClampNeg (J4 8 0).toNatClampNeg
  qk (qcp 0 0 (J6 8 0) 100 100) <|
  let J8 := zcpJ J6 19 11 (0 : Int32).toNatClampNeg (0 : Int32).toNatClampNeg (J6 8 0).toNatClampNeg
  qk (qcp 0 0 (J8 8 0) 100 100) <|
  let J10 := zcpJ J8 20 12 (0 : Int32).toNatClampNeg (0 : Int32).toNatClampNeg (J8 8 0).toNatClampNeg
  qk (qcp 0 0 (J10 8 0) 100 100) <|
  let J12 := zcpJ J10 21 13 (0 : Int32).toNatClampNeg (0 : Int32).toNatClampNeg (J10 8 0).toNatClampNeg
  qk (qcp 0 0 (J12 8 8) 120 120) <|
  let J14 := zcpJ J12 23 15 (0 : Int32).toNatClampNeg (0 : Int32).toNatClampNeg (J12 8 8).toNatClampNeg
  some ((), J14)
theorem SV_copyOf {g : zg} {d N : Nat} {M0 : zM} {A : Nat} {r : Unit} {J1 : zJ} {J : zJ}  (hL : zLy M0 A dShL dRf) (h : FV_copyOf N M0 J = some (r, J1)) (hd : 1 ≤ d) : zEv g d mV_copyOf [va_rf (some (A + 8)), va_rf (some (A + 16))] (zmm M0 A 32 J) (fun Mq => Mq = zmm M0 A 32 J1) := by
  unfold FV_copyOf at h
  refine zEu_q (r := r) (lv := [(0, va_rf (some (A + 8))), (1, va_rf (some (A + 16)))]) ⟨by decide +kernel, by decide, by decide +kernel⟩ (by simp [z_cr, z_ci]) (Nat.le_of_ble_eq_true rfl) rfl ?_
  refine zi_aload_n 0 (dq dV_copyOf 0 rfl) rfl ?_
  refine zi_aload_n 1 (dq dV_copyOf 1 rfl) rfl ?_
  refine ri_geti (zLs hL 16 rfl) (by decide) fV_33 (dq dV_copyOf 2 rfl) ?_
  refine ri_puti (zLs hL 8 rfl) (by decide) fV_33 (fun h => by cases h) rfl rfl (dq dV_copyOf 3 rfl) ?_
  refine zi_aload_n 0 (dq dV_copyOf 4 rfl) rfl ?_
  refine zi_aload_n 1 (dq dV_copyOf 5 rfl) rfl ?_
  refine ri_geti (zLs hL 16 rfl) (by decide) fV_37 (dq dV_copyOf 6 rfl) ?_
  refine ri_puti (zLs hL 8 rfl) (by decide) fV_37 (fun h => by cases h) rfl rfl (dq dV_copyOf 7 rfl) ?_
  refine zi_aload_n 1 (dq dV_copyOf 8 rfl) rfl ?_
  refine ri_getr (zLs hL 16 rfl) (zLr hL 23 rfl) fV_9 (dq dV_copyOf 9 rfl) ?_
  refine zi_iconst (v := 0) (dq dV_copyOf 10 rfl) (by decide) ?_
  refine zi_aload_n 0 (dq dV_copyOf 11 rfl) rfl ?_
  refine ri_getr (zLs hL 8 rfl) (zLr hL 31 rfl) fV_9 (dq dV_copyOf 12 rfl) ?_
  refine zi_iconst (v := 0) (dq dV_copyOf 13 rfl) (by decide) ?_
  refine zi_aload_n 0 (dq dV_copyOf 14 rfl) rfl ?_
  refine ri_geti (zLs hL 8 rfl) (by decide) fV_33 (dq dV_copyOf 15 rfl) ?_
  obtain ⟨c3, h⟩ := q_k h
  refine ri_copy aV_40 (zLs hL 17 rfl) (zLs hL 9 rfl) (by decide) (by decide) c3 (by omega) (Nat.le_of_ble_eq_true rfl) (dq dV_copyOf 16 rfl) ?_
  refine zi_aload_n 1 (dq dV_copyOf 17 rfl) rfl ?_
  refine ri_getr (zLs hL 16 rfl) (zLr hL 22 rfl) fV_15 (dq dV_copyOf 18 rfl) ?_
  refine zi_iconst (v := 0) (dq dV_copyOf 19 rfl) (by decide) ?_
  refine zi_aload_n 0 (dq dV_copyOf 20 rfl) rfl ?_
  refine ri_getr (zLs hL 8 rfl) (zLr hL 30 rfl) fV_15 (dq dV_copyOf 21 rfl) ?_
  refine zi_iconst (v := 0) (dq dV_copyOf 22 rfl) (by decide) ?_
  refine zi_aload_n 0 (dq dV_copyOf 23 rfl) rfl ?_
  refine ri_geti (zLs hL 8 rfl) (by decide) fV_33 (dq dV_copyOf 24 rfl) ?_
  obtain ⟨c5, h⟩ := q_k h
  refine ri_copy aV_40 (zLs hL 18 rfl) (zLs hL 10 rfl) (by decide) (by decide) c5 (by omega) (Nat.le_of_ble_eq_true rfl) (dq dV_copyOf 25 rfl) ?_
  refine zi_aload_n 1 (dq dV_copyOf 26 rfl) rfl ?_
  refine ri_getr (zLs hL 16 rfl) (zLr hL 21 rfl) fV_18 (dq dV_copyOf 27 rfl) ?_
  refine zi_iconst (v := 0) (dq dV_copyOf 28 rfl) (by decide) ?_
  refine zi_aload_n 0 (dq dV_copyOf 29 rfl) rfl ?_
  refine ri_getr (zLs hL 8 rfl) (zLr hL 29 rfl) fV_18 (dq dV_copyOf 30 rfl) ?_
  refine zi_iconst (v := 0) (dq dV_copyOf 31 rfl) (by decide) ?_
  refine zi_aload_n 0 (dq dV_copyOf 32 rfl) rfl ?_
  refine ri_geti (zLs hL 8 rfl) (by decide) fV_33 (dq dV_copyOf 33 rfl) ?_
  obtain ⟨c7, h⟩ := q_k h
  refine ri_copy aV_40 (zLs hL 19 rfl) (zLs hL 11 rfl) (by decide) (by decide) c7 (by omega) (Nat.le_of_ble_eq_true rfl) (dq dV_copyOf 34 rfl) ?_
  refine zi_aload_n 1 (dq dV_copyOf 35 rfl) rfl ?_
  refine ri_getr (zLs hL 16 rfl) (zLr hL 20 rfl) fV_21 (dq dV_copyOf 36 rfl) ?_
  refine zi_iconst (v := 0) (dq dV_copyOf 37 rfl) (by decide) ?_
  refine zi_aload_n 0 (dq dV_copyOf 38 rfl) rfl ?_
  refine ri_getr (zLs hL 8 rfl) (zLr hL 28 rfl) fV_21 (dq dV_copyOf 39 rfl) ?_
  refine zi_iconst (v := 0) (dq dV_copyOf 40 rfl) (by decide) ?_
  refine zi_aload_n 0 (dq dV_copyOf 41 rfl) rfl ?_
  refine ri_geti (zLs hL 8 rfl) (by decide) fV_33 (dq dV_copyOf 42 rfl) ?_
  obtain ⟨c9, h⟩ := q_k h
  refine ri_copy aV_40 (zLs hL 20 rfl) (zLs hL 12 rfl) (by decide) (by decide) c9 (by omega) (Nat.le_of_ble_eq_true rfl) (dq dV_copyOf 43 rfl) ?_
  refine zi_aload_n 1 (dq dV_copyOf 44 rfl) rfl ?_
  refine ri_getr (zLs hL 16 rfl) (zLr hL 19 rfl) fV_24 (dq dV_copyOf 45 rfl) ?_
  refine zi_iconst (v := 0) (dq dV_copyOf 46 rfl) (by decide) ?_
  refine zi_aload_n 0 (dq dV_copyOf 47 rfl) rfl ?_
  refine ri_getr (zLs hL 8 rfl) (zLr hL 27 rfl) fV_24 (dq dV_copyOf 48 rfl) ?_
  refine zi_iconst (v := 0) (dq dV_copyOf 49 rfl) (by decide) ?_
  refine zi_aload_n 0 (dq dV_copyOf 50 rfl) rfl ?_
  refine ri_geti (zLs hL 8 rfl) (by decide) fV_33 (dq dV_copyOf 51 rfl) ?_
  obtain ⟨c11, h⟩ := q_k h
  refine ri_copy aV_40 (zLs hL 21 rfl) (zLs hL 13 rfl) (by decide) (by decide) c11 (by omega) (Nat.le_of_ble_eq_true rfl) (dq dV_copyOf 52 rfl) ?_
  refine zi_aload_n 1 (dq dV_copyOf 53 rfl) rfl ?_
  refine ri_getr (zLs hL 16 rfl) (zLr hL 17 rfl) fV_30 (dq dV_copyOf 54 rfl) ?_
  refine zi_iconst (v := 0) (dq dV_copyOf 55 rfl) (by decide) ?_
  refine zi_aload_n 0 (dq dV_copyOf 56 rfl) rfl ?_
  refine ri_getr (zLs hL 8 rfl) (zLr hL 25 rfl) fV_30 (dq dV_copyOf 57 rfl) ?_
  refine zi_iconst (v := 0) (dq dV_copyOf 58 rfl) (by decide) ?_
  refine zi_aload_n 0 (dq dV_copyOf 59 rfl) rfl ?_
  refine ri_geti (zLs hL 8 rfl) (by decide) fV_37 (dq dV_copyOf 60 rfl) ?_
  obtain ⟨c13, h⟩ := q_k h
  refine ri_copy aV_40 (zLs hL 23 rfl) (zLs hL 15 rfl) (by decide) (by decide) c13 (by omega) (Nat.le_of_ble_eq_true rfl) (dq dV_copyOf 61 rfl) ?_
  exact zi_return rfl (dq dV_copyOf 62 rfl) (q_ru h)
def FV_addPart (N : Nat) (M0 : zM) (v : Nat) (l1 : Int32) (l2 : Int32) (l3 : Int32) (J : zJ) : Option (Int32 × zJ) :=
  if (J v 0) < 100 then
    let y1 := J v 0
    let J2 := zu J v 0 ((J v 0) + 1)
    qk (qi y1 100) <|
    let J4 := zu J2 (v + 1) y1.toNatClampNeg l1
    qk (qi y1 100) <|
    let J6 := zu J4 (v + 2) y1.toNatClampNeg 0
    qk (qi y1 100) <|
    let J8 := zu J6 (v + 3) y1.toNatClampNeg l3
    qk (qi y1 100) <|
    let J10 := zu J8 (v + 4) y1.toNatClampNeg l2
    qk (qi y1 100) <|
    let J12 := zu J10 (v + 5) y1.toNatClampNeg (J10 v 8)
    qk (qi y1 100) <|
    let J14 := zu J12 (v + 6) y1.toNatClampNeg 0
    some (y1, J14)
  else
    some (((-1)), J)
theorem SV_addPart {g : zg} {d N : Nat} {M0 : zM} {A : Nat} {r : Int32} {J1 : zJ} {J : zJ} {v : Nat} {l1 : Int32} {l2 : Int32} {l3 : Int32} (hL : zLy M0 A (vShL v) (vRf v)) (hv : v + 8 ≤ 32) (hg : ∀ J, zag M0 (zmm M0 A 32 J)) (h : FV_addPart N M0 v l1 l2 l3 J = some (r, J1)) (hd : 0 ≤ d) : zEi g d mV_addPart [va_rf (some (A + v)), .int l1, .int l2, .int l3] (zmm M0 A 32 J) (fun v Mq => v = r ∧ Mq = zmm M0 A 32 J1) := by
  unfold FV_addPart at h
  refine zEi_q (r := r) (lv := [(0, va_rf (some (A + v))), (1, .int l1), (2, .int l2), (3, .int l3)]) ⟨by decide +kernel, by decide, by decide +kernel⟩ (by simp [z_cr, z_ci]) (Nat.le_of_ble_eq_true rfl) rfl ?_
  refine zi_aload_n 0 (dq dV_addPart 0 rfl) rfl ?_
  refine ri_geti (zLs hL 0 rfl) (by omega) fV_33 (dq dV_addPart 1 rfl) ?_
  refine zi_bipush (v := 100) (dq dV_addPart 2 rfl) (by decide) ?_
  refine zi_icmp_lt (tgt := 11) (dq dV_addPart 3 rfl) (by decide) (fun c => ?_) (fun c => ?_)
  · have h := q_t c h
    refine zi_aload_n 0 (dq dV_addPart 6 rfl) rfl ?_
    refine ri_geti (zLs hL 0 rfl) (by omega) fV_33 (dq dV_addPart 7 rfl) ?_
    refine zi_istC (lv' := [(4, _), (0, _), (1, _), (2, _), (3, _)]) (dq dV_addPart 8 rfl) (by decide) (by simp [z_cr, z_ci]) rfl ?_
    refine zi_aload_n 1 (dq dV_addPart 9 rfl) rfl ?_
    refine zi_dup (dq dV_addPart 10 rfl) (by first | rfl | exact z_cr _) ?_
    refine ri_geti (zLs hL 0 rfl) (by omega) fV_33 (dq dV_addPart 11 rfl) ?_
    refine zi_iconst (v := 1) (dq dV_addPart 12 rfl) (by decide) ?_
    refine zi_iadd (dq dV_addPart 13 rfl) ?_
    refine ri_puti (zLs hL 0 rfl) (by omega) fV_33 (fun h => by cases h) rfl rfl (dq dV_addPart 14 rfl) ?_
    refine zi_aload_n 1 (dq dV_addPart 15 rfl) rfl ?_
    refine ri_getr (zLs hL 0 rfl) (zLr hL 0 rfl) fV_9 (dq dV_addPart 16 rfl) ?_
    refine zi_iload 0 (dq dV_addPart 17 rfl) rfl ?_
    refine zi_iload_n 2 (dq dV_addPart 18 rfl) rfl ?_
    obtain ⟨c3, h⟩ := q_k h
    refine ri_iast (zLs hL 1 rfl) (by omega) rfl c3 (dq dV_addPart 19 rfl) ?_
    refine zi_aload_n 1 (dq dV_addPart 20 rfl) rfl ?_
    refine ri_getr (zLs hL 0 rfl) (zLr hL 1 rfl) fV_15 (dq dV_addPart 21 rfl) ?_
    refine zi_iload 0 (dq dV_addPart 22 rfl) rfl ?_
    refine zi_iconst (v := 0) (dq dV_addPart 23 rfl) (by decide) ?_
    obtain ⟨c5, h⟩ := q_k h
    refine ri_iast (zLs hL 2 rfl) (by omega) rfl c5 (dq dV_addPart 24 rfl) ?_
    refine zi_aload_n 1 (dq dV_addPart 25 rfl) rfl ?_
    refine ri_getr (zLs hL 0 rfl) (zLr hL 2 rfl) fV_18 (dq dV_addPart 26 rfl) ?_
    refine zi_iload 0 (dq dV_addPart 27 rfl) rfl ?_
    refine zi_iload_n 4 (dq dV_addPart 28 rfl) rfl ?_
    obtain ⟨c7, h⟩ := q_k h
    refine ri_iast (zLs hL 3 rfl) (by omega) rfl c7 (dq dV_addPart 29 rfl) ?_
    refine zi_aload_n 1 (dq dV_addPart 30 rfl) rfl ?_
    refine ri_getr (zLs hL 0 rfl) (zLr hL 3 rfl) fV_21 (dq dV_addPart 31 rfl) ?_
    refine zi_iload 0 (dq dV_addPart 32 rfl) rfl ?_
    refine zi_iload_n 3 (dq dV_addPart 33 rfl) rfl ?_
    obtain ⟨c9, h⟩ := q_k h
    refine ri_iast (zLs hL 4 rfl) (by omega) rfl c9 (dq dV_addPart 34 rfl) ?_
    refine zi_aload_n 1 (dq dV_addPart 35 rfl) rfl ?_
    refine ri_getr (zLs hL 0 rfl) (zLr hL 4 rfl) fV_24 (dq dV_addPart 36 rfl) ?_
    refine zi_iload 0 (dq dV_addPart 37 rfl) rfl ?_
    refine zi_aload_n 1 (dq dV_addPart 38 rfl) rfl ?_
    refine ri_geti (zLs hL 0 rfl) (by omega) fV_37 (dq dV_addPart 39 rfl) ?_
    obtain ⟨c11, h⟩ := q_k h
    refine ri_iast (zLs hL 5 rfl) (by omega) rfl c11 (dq dV_addPart 40 rfl) ?_
    refine zi_aload_n 1 (dq dV_addPart 41 rfl) rfl ?_
    refine ri_getr (zLs hL 0 rfl) (zLr hL 5 rfl) fV_27 (dq dV_addPart 42 rfl) ?_
    refine zi_iload 0 (dq dV_addPart 43 rfl) rfl ?_
    refine zi_iconst (v := 0) (dq dV_addPart 44 rfl) (by decide) ?_
    obtain ⟨c13, h⟩ := q_k h
    refine ri_iast (zLs hL 6 rfl) (by omega) rfl c13 (dq dV_addPart 45 rfl) ?_
    refine zi_iload 0 (dq dV_addPart 46 rfl) rfl ?_
    exact zi_ireturn rfl rfl (dq dV_addPart 47 rfl) (q_ri h)
  · have h := q_f c h
    refine zi_iconst (v := (-1)) (dq dV_addPart 4 rfl) (by decide) ?_
    exact zi_ireturn rfl rfl (dq dV_addPart 5 rfl) (q_ri h)
def FV_addOctet (N : Nat) (M0 : zM) (v : Nat) (l1 : Int32) (l2 : Int32) (J : zJ) : Option (Bool × zJ) :=
  if (J v 8) < (nI 120) then
    qk (qi (J v 8) 120) <|
    let J2 := zu J (v + 7) (J v 8).toNatClampNeg l2
    let J3 := zu J2 v 8 ((J2 v 8) + 1)
    qk (qi l1 100) <|
    qk (qi l1 100) <|
    let J6 := zu J3 (v + 2) l1.toNatClampNeg ((J3 (v + 2) l1.toNatClampNeg) + 1)
    some (true, J6)
  else
    some (false, J)
theorem SV_addOctet {g : zg} {d N : Nat} {M0 : zM} {A : Nat} {r : Bool} {J1 : zJ} {J : zJ} {v : Nat} {l1 : Int32} {l2 : Int32} (hL : zLy M0 A (vShL v) (vRf v)) (hv : v + 8 ≤ 32) (hg : ∀ J, zag M0 (zmm M0 A 32 J)) (h : FV_addOctet N M0 v l1 l2 J = some (r, J1)) (hd : 0 ≤ d) : zEi g d mV_addOctet [va_rf (some (A + v)), .int l1, .int l2] (zmm M0 A 32 J) (fun v Mq => v = bI r ∧ Mq = zmm M0 A 32 J1) := by
  unfold FV_addOctet at h
  refine zEb_q (r := r) (lv := [(0, va_rf (some (A + v))), (1, .int l1), (2, .int l2)]) ⟨by decide +kernel, by decide, by decide +kernel⟩ (by simp [z_cr, z_ci]) (Nat.le_of_ble_eq_true rfl) rfl ?_
  refine zi_aload_n 0 (dq dV_addOctet 0 rfl) rfl ?_
  refine ri_geti (zLs hL 0 rfl) (by omega) fV_37 (dq dV_addOctet 1 rfl) ?_
  refine zi_aload_n 0 (dq dV_addOctet 2 rfl) rfl ?_
  refine ri_getr (zLs hL 0 rfl) (zLr hL 6 rfl) fV_30 (dq dV_addOctet 3 rfl) ?_
  refine ri_alen (zLs hL 7 rfl) rfl (dq dV_addOctet 4 rfl) ?_
  refine zi_icmp_lt (tgt := 14) (dq dV_addOctet 5 rfl) (by decide) (fun c => ?_) (fun c => ?_)
  · have h := q_t c h
    refine zi_aload_n 0 (dq dV_addOctet 8 rfl) rfl ?_
    refine ri_getr (zLs hL 0 rfl) (zLr hL 6 rfl) fV_30 (dq dV_addOctet 9 rfl) ?_
    refine zi_aload_n 0 (dq dV_addOctet 10 rfl) rfl ?_
    refine ri_geti (zLs hL 0 rfl) (by omega) fV_37 (dq dV_addOctet 11 rfl) ?_
    refine zi_iload_n 2 (dq dV_addOctet 12 rfl) rfl ?_
    obtain ⟨c1, h⟩ := q_k h
    refine ri_iast (zLs hL 7 rfl) (by omega) rfl c1 (dq dV_addOctet 13 rfl) ?_
    refine zi_aload_n 0 (dq dV_addOctet 14 rfl) rfl ?_
    refine zi_dup (dq dV_addOctet 15 rfl) (by first | rfl | exact z_cr _) ?_
    refine ri_geti (zLs hL 0 rfl) (by omega) fV_37 (dq dV_addOctet 16 rfl) ?_
    refine zi_iconst (v := 1) (dq dV_addOctet 17 rfl) (by decide) ?_
    refine zi_iadd (dq dV_addOctet 18 rfl) ?_
    refine ri_puti (zLs hL 0 rfl) (by omega) fV_37 (fun h => by cases h) rfl rfl (dq dV_addOctet 19 rfl) ?_
    refine zi_aload_n 0 (dq dV_addOctet 20 rfl) rfl ?_
    refine ri_getr (zLs hL 0 rfl) (zLr hL 1 rfl) fV_15 (dq dV_addOctet 21 rfl) ?_
    refine zi_iload_n 1 (dq dV_addOctet 22 rfl) rfl ?_
    refine zi_dup2 (dq dV_addOctet 23 rfl) (by first | rfl | exact z_cr _) (by first | rfl | exact z_cr _) ?_
    obtain ⟨c4, h⟩ := q_k h
    refine ri_iald (zLs hL 2 rfl) (by omega) rfl c4 (dq dV_addOctet 24 rfl) ?_
    refine zi_iconst (v := 1) (dq dV_addOctet 25 rfl) (by decide) ?_
    refine zi_iadd (dq dV_addOctet 26 rfl) ?_
    obtain ⟨c5, h⟩ := q_k h
    refine ri_iast (zLs hL 2 rfl) (by omega) rfl c5 (dq dV_addOctet 27 rfl) ?_
    refine zi_iconst (v := 1) (dq dV_addOctet 28 rfl) (by decide) ?_
    exact zi_ireturn rfl (by decide) (dq dV_addOctet 29 rfl) (q_rb (b := true) h)
  · have h := q_f c h
    refine zi_iconst (v := 0) (dq dV_addOctet 6 rfl) (by decide) ?_
    exact zi_ireturn rfl (by decide) (dq dV_addOctet 7 rfl) (q_rb (b := false) h)
def FV_octetAt (N : Nat) (M0 : zM) (v : Nat) (l1 : Int32) (l2 : Int32) (J : zJ) : Option (Int32 × zJ) :=
  if l1 < 0 then
    some (((-1)), J)
  else
    if (J v 0) ≤ l1 then
      some (((-1)), J)
    else
      qk (qi l1 100) <|
      if (J (v + 1) l1.toNatClampNeg) = 4 then
        if l2 < 0 then
          some (((-1)), J)
        else
          qk (qi l1 100) <|
          if l2 < (J (v + 2) l1.toNatClampNeg) then
            qk (qi l1 100) <|
            qk (qi ((J (v + 5) l1.toNatClampNeg) + l2) 120) <|
            some ((J (v + 7) ((J (v + 5) l1.toNatClampNeg) + l2).toNatClampNeg), J)
          else
            some (((-1)), J)
      else
        some (((-1)), J)
theorem SV_octetAt {g : zg} {d N : Nat} {M0 : zM} {A : Nat} {r : Int32} {J1 : zJ} {J : zJ} {v : Nat} {l1 : Int32} {l2 : Int32} (hL : zLy M0 A (vShL v) (vRf v)) (hv : v + 8 ≤ 32) (hg : ∀ J, zag M0 (zmm M0 A 32 J)) (h : FV_octetAt N M0 v l1 l2 J = some (r, J1)) (hd : 0 ≤ d) : zEi g d mV_octetAt [va_rf (some (A + v)), .int l1, .int l2] (zmm M0 A 32 J) (fun v Mq => v = r ∧ Mq = zmm M0 A 32 J1) := by
  unfold FV_octetAt at h
  refine zEi_q (r := r) (lv := [(0, va_rf (some (A + v))), (1, .int l1), (2, .int l2)]) ⟨by decide +kernel, by decide, by decide +kernel⟩ (by simp [z_cr, z_ci]) (Nat.le_of_ble_eq_true rfl) rfl ?_
  refine zi_iload_n 1 (dq dV_octetAt 0 rfl) rfl ?_
  refine zi_if_lt (tgt := 36) (dq dV_octetAt 1 rfl) (by decide) (fun c => ?_) (fun c => ?_)
  · have h := q_t c h
    refine zi_iconst (v := (-1)) (dq dV_octetAt 20 rfl) (by decide) ?_
    exact zi_ireturn rfl rfl (dq dV_octetAt 21 rfl) (q_ri h)
  · have h := q_f c h
    refine zi_iload_n 1 (dq dV_octetAt 2 rfl) rfl ?_
    refine zi_aload_n 0 (dq dV_octetAt 3 rfl) rfl ?_
    refine ri_geti (zLs hL 0 rfl) (by omega) fV_33 (dq dV_octetAt 4 rfl) ?_
    refine zi_icmp_ge (tgt := 36) (dq dV_octetAt 5 rfl) (by decide) (fun c => ?_) (fun c => ?_)
    · have h := q_t c h
      refine zi_iconst (v := (-1)) (dq dV_octetAt 20 rfl) (by decide) ?_
      exact zi_ireturn rfl rfl (dq dV_octetAt 21 rfl) (q_ri h)
    · have h := q_f c h
      refine zi_aload_n 0 (dq dV_octetAt 6 rfl) rfl ?_
      refine ri_getr (zLs hL 0 rfl) (zLr hL 0 rfl) fV_9 (dq dV_octetAt 7 rfl) ?_
      refine zi_iload_n 1 (dq dV_octetAt 8 rfl) rfl ?_
      obtain ⟨c1, h⟩ := q_k h
      refine ri_iald (zLs hL 1 rfl) (by omega) rfl c1 (dq dV_octetAt 9 rfl) ?_
      refine zi_iconst (v := 4) (dq dV_octetAt 10 rfl) (by decide) ?_
      refine zi_icmp_ne (tgt := 36) (dq dV_octetAt 11 rfl) (by decide) (fun c => ?_) (fun c => ?_)
      · have h := q_f c h
        refine zi_iconst (v := (-1)) (dq dV_octetAt 20 rfl) (by decide) ?_
        exact zi_ireturn rfl rfl (dq dV_octetAt 21 rfl) (q_ri h)
      · have h := q_t c h
        refine zi_iload_n 2 (dq dV_octetAt 12 rfl) rfl ?_
        refine zi_if_lt (tgt := 36) (dq dV_octetAt 13 rfl) (by decide) (fun c => ?_) (fun c => ?_)
        · have h := q_t c h
          refine zi_iconst (v := (-1)) (dq dV_octetAt 20 rfl) (by decide) ?_
          exact zi_ireturn rfl rfl (dq dV_octetAt 21 rfl) (q_ri h)
        · have h := q_f c h
          refine zi_iload_n 2 (dq dV_octetAt 14 rfl) rfl ?_
          refine zi_aload_n 0 (dq dV_octetAt 15 rfl) rfl ?_
          refine ri_getr (zLs hL 0 rfl) (zLr hL 1 rfl) fV_15 (dq dV_octetAt 16 rfl) ?_
          refine zi_iload_n 1 (dq dV_octetAt 17 rfl) rfl ?_
          obtain ⟨c2, h⟩ := q_k h
          refine ri_iald (zLs hL 2 rfl) (by omega) rfl c2 (dq dV_octetAt 18 rfl) ?_
          refine zi_icmp_lt (tgt := 38) (dq dV_octetAt 19 rfl) (by decide) (fun c => ?_) (fun c => ?_)
          · have h := q_t c h
            refine zi_aload_n 0 (dq dV_octetAt 22 rfl) rfl ?_
            refine ri_getr (zLs hL 0 rfl) (zLr hL 6 rfl) fV_30 (dq dV_octetAt 23 rfl) ?_
            refine zi_aload_n 0 (dq dV_octetAt 24 rfl) rfl ?_
            refine ri_getr (zLs hL 0 rfl) (zLr hL 4 rfl) fV_24 (dq dV_octetAt 25 rfl) ?_
            refine zi_iload_n 1 (dq dV_octetAt 26 rfl) rfl ?_
            obtain ⟨c3, h⟩ := q_k h
            refine ri_iald (zLs hL 5 rfl) (by omega) rfl c3 (dq dV_octetAt 27 rfl) ?_
            refine zi_iload_n 2 (dq dV_octetAt 28 rfl) rfl ?_
            refine zi_iadd (dq dV_octetAt 29 rfl) ?_
            obtain ⟨c4, h⟩ := q_k h
            refine ri_iald (zLs hL 7 rfl) (by omega) rfl c4 (dq dV_octetAt 30 rfl) ?_
            exact zi_ireturn rfl rfl (dq dV_octetAt 31 rfl) (q_ri h)
          · have h := q_f c h
            refine zi_iconst (v := (-1)) (dq dV_octetAt 20 rfl) (by decide) ?_
            exact zi_ireturn rfl rfl (dq dV_octetAt 21 rfl) (q_ri h)
def FV_takeComponent_50 (N : Nat) (M0 : zM) (v : Nat) (l1 : Option Nat) (l2 : Int32) (J : zJ) : Option (Bool × zJ) :=
  qk (qi l2 100) <|
  qo l1 M0 1 fun o2 =>
  qk (qi l2 100) <|
  let J4 := zu J (v + 6) l2.toNatClampNeg ((J (v + 6) l2.toNatClampNeg) ||| (1 <<< ((zi M0 o2 1) &&& 31)))
  some (true, J4)
theorem SV_takeComponent_50 {g : zg} {d N : Nat} {M0 : zM} {A : Nat} {r : Bool} {J1 : zJ} {J : zJ}  {v : Nat} {l1 : Option Nat} {l2 : Int32} (hL : zLy M0 A (vShL v) (vRf v)) (hv : v + 8 ≤ 32) (hg : ∀ J, zag M0 (zmm M0 A 32 J)) (h : FV_takeComponent_50 N M0 v l1 l2 J = some (r, J1)) (hd : 0 ≤ d)  : zG g d mV_takeComponent (zPq (rB r) (zmm M0 A 32 J1)) (zmm M0 A 32 J) 50 [(0, va_rf (some (A + v))), (1, va_rf l1), (2, .int l2)] [] := by
  unfold FV_takeComponent_50 at h
  refine zi_aload_n 0 (dq dV_takeComponent 29 rfl) rfl ?_
  refine ri_getr (zLs hL 0 rfl) (zLr hL 5 rfl) fV_27 (dq dV_takeComponent 30 rfl) ?_
  refine zi_iload_n 2 (dq dV_takeComponent 31 rfl) rfl ?_
  refine zi_dup2 (dq dV_takeComponent 32 rfl) (by first | rfl | exact z_cr _) (by first | rfl | exact z_cr _) ?_
  obtain ⟨c1, h⟩ := q_k h
  refine ri_iald (zLs hL 6 rfl) (by omega) rfl c1 (dq dV_takeComponent 33 rfl) ?_
  refine zi_iconst (v := 1) (dq dV_takeComponent 34 rfl) (by decide) ?_
  refine zi_aload_n 1 (dq dV_takeComponent 35 rfl) rfl ?_
  obtain ⟨o2, eo2, ho2, h⟩ := q_o h
  refine zi_rc0 eo2 ?_
  refine ti_geti (hg _) ho2 (by decide) fV_53 (dq dV_takeComponent 36 rfl) ?_
  refine zi_ishl (dq dV_takeComponent 37 rfl) ?_
  refine zi_ior (dq dV_takeComponent 38 rfl) ?_
  obtain ⟨c3, h⟩ := q_k h
  refine ri_iast (zLs hL 6 rfl) (by omega) rfl c3 (dq dV_takeComponent 39 rfl) ?_
  refine zi_iconst (v := 1) (dq dV_takeComponent 40 rfl) (by decide) ?_
  exact zi_ireturn rfl (by decide) (dq dV_takeComponent 41 rfl) (q_rb (b := true) h)
def FV_takeComponent (N : Nat) (M0 : zM) (v : Nat) (l1 : Option Nat) (l2 : Int32) (l3 : Int32) (l4 : Int32) (J : zJ) : Option (Bool × zJ) :=
  qk (qi l2 100) <|
  qk (qi l2 100) <|
  let J3 := zu J (v + 2) l2.toNatClampNeg ((J (v + 2) l2.toNatClampNeg) + 1)
  qo l1 M0 1 fun o4 =>
  if (zi M0 o4 2) = 2 then
    if (J3 v 0) ≤ l3 then
      FV_takeComponent_50 N M0 v l1 l2 J3
    else
      qk (qi l3 100) <|
      qo l1 M0 1 fun o6 =>
      if (J3 (v + 2) l3.toNatClampNeg) = (zi M0 o6 3) then
        if l4 = 0 then
          some (true, J3)
        else
          some (false, J3)
      else
        FV_takeComponent_50 N M0 v l1 l2 J3
  else
    FV_takeComponent_50 N M0 v l1 l2 J3
theorem SV_takeComponent {g : zg} {d N : Nat} {M0 : zM} {A : Nat} {r : Bool} {J1 : zJ} {J : zJ} {v : Nat} {l1 : Option Nat} {l2 : Int32} {l3 : Int32} {l4 : Int32} (hL : zLy M0 A (vShL v) (vRf v)) (hv : v + 8 ≤ 32) (hg : ∀ J, zag M0 (zmm M0 A 32 J)) (h : FV_takeComponent N M0 v l1 l2 l3 l4 J = some (r, J1)) (hd : 0 ≤ d) : zEi g d mV_takeComponent [va_rf (some (A + v)), va_rf l1, .int l2, .int l3, .int l4] (zmm M0 A 32 J) (fun v Mq => v = bI r ∧ Mq = zmm M0 A 32 J1) := by
  unfold FV_takeComponent at h
  refine zEb_q (r := r) (lv := [(0, va_rf (some (A + v))), (1, va_rf l1), (2, .int l2), (3, .int l3), (4, .int l4)]) ⟨by decide +kernel, by decide, by decide +kernel⟩ (by simp [z_cr, z_ci]) (Nat.le_of_ble_eq_true rfl) rfl ?_
  refine zi_aload_n 0 (dq dV_takeComponent 0 rfl) rfl ?_
  refine ri_getr (zLs hL 0 rfl) (zLr hL 1 rfl) fV_15 (dq dV_takeComponent 1 rfl) ?_
  refine zi_iload_n 2 (dq dV_takeComponent 2 rfl) rfl ?_
  refine zi_dup2 (dq dV_takeComponent 3 rfl) (by first | rfl | exact z_cr _) (by first | rfl | exact z_cr _) ?_
  obtain ⟨c1, h⟩ := q_k h
  refine ri_iald (zLs hL 2 rfl) (by omega) rfl c1 (dq dV_takeComponent 4 rfl) ?_
  refine zi_iconst (v := 1) (dq dV_takeComponent 5 rfl) (by decide) ?_
  refine zi_iadd (dq dV_takeComponent 6 rfl) ?_
  obtain ⟨c2, h⟩ := q_k h
  refine ri_iast (zLs hL 2 rfl) (by omega) rfl c2 (dq dV_takeComponent 7 rfl) ?_
  refine zi_aload_n 1 (dq dV_takeComponent 8 rfl) rfl ?_
  obtain ⟨o4, eo4, ho4, h⟩ := q_o h
  refine zi_rc0 eo4 ?_
  refine ti_geti (hg _) ho4 (by decide) fV_46 (dq dV_takeComponent 9 rfl) ?_
  refine zi_iconst (v := 2) (dq dV_takeComponent 10 rfl) (by decide) ?_
  refine zi_icmp_ne (tgt := 50) (dq dV_takeComponent 11 rfl) (by decide) (fun c => ?_) (fun c => ?_)
  · have h := q_f c h
    exact zG_lv (zs_c 0 rfl (zs_c 1 rfl (zs_c 2 rfl zs_n))) (SV_takeComponent_50 hL hv hg h hd )
  · have h := q_t c h
    refine zi_iload_n 3 (dq dV_takeComponent 12 rfl) rfl ?_
    refine zi_aload_n 0 (dq dV_takeComponent 13 rfl) rfl ?_
    refine ri_geti (zLs hL 0 rfl) (by omega) fV_33 (dq dV_takeComponent 14 rfl) ?_
    refine zi_icmp_ge (tgt := 50) (dq dV_takeComponent 15 rfl) (by decide) (fun c => ?_) (fun c => ?_)
    · have h := q_t c h
      exact zG_lv (zs_c 0 rfl (zs_c 1 rfl (zs_c 2 rfl zs_n))) (SV_takeComponent_50 hL hv hg h hd )
    · have h := q_f c h
      refine zi_aload_n 0 (dq dV_takeComponent 16 rfl) rfl ?_
      refine ri_getr (zLs hL 0 rfl) (zLr hL 1 rfl) fV_15 (dq dV_takeComponent 17 rfl) ?_
      refine zi_iload_n 3 (dq dV_takeComponent 18 rfl) rfl ?_
      obtain ⟨c5, h⟩ := q_k h
      refine ri_iald (zLs hL 2 rfl) (by omega) rfl c5 (dq dV_takeComponent 19 rfl) ?_
      refine zi_aload_n 1 (dq dV_takeComponent 20 rfl) rfl ?_
      obtain ⟨o6, eo6, ho6, h⟩ := q_o h
      refine zi_rc0 eo6 ?_
      refine ti_geti (hg _) ho6 (by decide) fV_51 (dq dV_takeComponent 21 rfl) ?_
      refine zi_icmp_ne (tgt := 50) (dq dV_takeComponent 22 rfl) (by decide) (fun c => ?_) (fun c => ?_)
      · have h := q_f c h
        exact zG_lv (zs_c 0 rfl (zs_c 1 rfl (zs_c 2 rfl zs_n))) (SV_takeComponent_50 hL hv hg h hd )
      · have h := q_t c h
        refine zi_iload 4 (dq dV_takeComponent 23 rfl) rfl ?_
        refine zi_if_ne (tgt := 48) (dq dV_takeComponent 24 rfl) (by decide) (fun c => ?_) (fun c => ?_)
        · have h := q_f c h
          refine zi_iconst (v := 0) (dq dV_takeComponent 27 rfl) (by decide) ?_
          exact zi_ireturn rfl (by decide) (dq dV_takeComponent 28 rfl) (q_rb (b := false) h)
        · have h := q_t c h
          refine zi_iconst (v := 1) (dq dV_takeComponent 25 rfl) (by decide) ?_
          refine zi_goto (tgt := 49) (dq dV_takeComponent 26 rfl) (by decide) ?_
          exact zi_ireturn rfl (by decide) (dq dV_takeComponent 28 rfl) (q_rb (b := true) h)
def FV_leaveOutComponent_15 (N : Nat) (M0 : zM) (v : Nat) (l1 : Option Nat) (J : zJ) : Option (Bool × zJ) :=
  qo l1 M0 1 fun o1 =>
  if (zi M0 o1 2) = 1 then
    some (true, J)
  else
    some (false, J)
theorem SV_leaveOutComponent_15 {g : zg} {d N : Nat} {M0 : zM} {A : Nat} {r : Bool} {J1 : zJ} {J : zJ}  {v : Nat} {l1 : Option Nat} (hL : zLy M0 A (vShL v) (vRf v)) (hv : v + 8 ≤ 32) (hg : ∀ J, zag M0 (zmm M0 A 32 J)) (h : FV_leaveOutComponent_15 N M0 v l1 J = some (r, J1)) (hd : 1 ≤ d)  : zG g d mV_leaveOutComponent (zPq (rB r) (zmm M0 A 32 J1)) (zmm M0 A 32 J) 15 [(1, va_rf l1)] [] := by
  unfold FV_leaveOutComponent_15 at h
  refine zi_aload_n 0 (dq dV_leaveOutComponent 7 rfl) rfl ?_
  obtain ⟨o1, eo1, ho1, h⟩ := q_o h
  refine zi_rc0 eo1 ?_
  refine ti_geti (hg _) ho1 (by decide) fV_46 (dq dV_leaveOutComponent 8 rfl) ?_
  refine zi_iconst (v := 1) (dq dV_leaveOutComponent 9 rfl) (by decide) ?_
  refine zi_icmp_ne (tgt := 27) (dq dV_leaveOutComponent 10 rfl) (by decide) (fun c => ?_) (fun c => ?_)
  · have h := q_f c h
    refine zi_iconst (v := 0) (dq dV_leaveOutComponent 13 rfl) (by decide) ?_
    exact zi_ireturn rfl (by decide) (dq dV_leaveOutComponent 14 rfl) (q_rb (b := false) h)
  · have h := q_t c h
    refine zi_iconst (v := 1) (dq dV_leaveOutComponent 11 rfl) (by decide) ?_
    refine zi_goto (tgt := 28) (dq dV_leaveOutComponent 12 rfl) (by decide) ?_
    exact zi_ireturn rfl (by decide) (dq dV_leaveOutComponent 14 rfl) (q_rb (b := true) h)
def FV_leaveOutComponent (N : Nat) (M0 : zM) (v : Nat) (l1 : Option Nat) (l2 : Int32) (J : zJ) : Option (Bool × zJ) :=
  qo l1 M0 1 fun o1 =>
  if (zi M0 o1 2) = 2 then
    qo l1 M0 1 fun o2 =>
    if (zr M0 o2 0) = none then
      FV_leaveOutComponent_15 N M0 v l1 J
    else
      qo l1 M0 1 fun o3 =>
      qo (zr M0 o3 0) M0 6 fun o4 =>
      qc (FT_untagged N M0 o4) fun v5 =>
      qo v5 M0 6 fun o6 =>
      qo l1 M0 1 fun o7 =>
      qb (FV_addPart N M0 v (zi M0 o6 0) l2 (zi M0 o7 1) J) fun v8 J9 =>
      if v8 = ((-1)) then
        some (false, J9)
      else
        qo l1 M0 1 fun o10 =>
        qk (qi v8 100) <|
        let J12 := zu J9 (v + 2) v8.toNatClampNeg (zi M0 o10 3)
        qk (qi l2 100) <|
        qk (qi l2 100) <|
        let J15 := zu J12 (v + 2) l2.toNatClampNeg ((J12 (v + 2) l2.toNatClampNeg) + 1)
        some (true, J15)
  else
    FV_leaveOutComponent_15 N M0 v l1 J
theorem SV_leaveOutComponent {g : zg} {d N : Nat} {M0 : zM} {A : Nat} {r : Bool} {J1 : zJ} {J : zJ} {v : Nat} {l1 : Option Nat} {l2 : Int32} (hL : zLy M0 A (vShL v) (vRf v)) (hv : v + 8 ≤ 32) (hg : ∀ J, zag M0 (zmm M0 A 32 J)) (h : FV_leaveOutComponent N M0 v l1 l2 J = some (r, J1)) (hd : 1 ≤ d) : zEi g d mV_leaveOutComponent [va_rf (some (A + v)), va_rf l1, .int l2] (zmm M0 A 32 J) (fun v Mq => v = bI r ∧ Mq = zmm M0 A 32 J1) := by
  unfold FV_leaveOutComponent at h
  refine zEb_q (r := r) (lv := [(0, va_rf (some (A + v))), (1, va_rf l1), (2, .int l2)]) ⟨by decide +kernel, by decide, by decide +kernel⟩ (by simp [z_cr, z_ci]) (Nat.le_of_ble_eq_true rfl) rfl ?_
  refine zi_aload_n 1 (dq dV_leaveOutComponent 0 rfl) rfl ?_
  obtain ⟨o1, eo1, ho1, h⟩ := q_o h
  refine zi_rc0 eo1 ?_
  refine ti_geti (hg _) ho1 (by decide) fV_46 (dq dV_leaveOutComponent 1 rfl) ?_
  refine zi_iconst (v := 2) (dq dV_leaveOutComponent 2 rfl) (by decide) ?_
  refine zi_icmp_ne (tgt := 15) (dq dV_leaveOutComponent 3 rfl) (by decide) (fun c => ?_) (fun c => ?_)
  · have h := q_f c h
    exact zG_lv (zs_c 1 rfl zs_n) (SV_leaveOutComponent_15 hL hv hg h hd )
  · have h := q_t c h
    refine zi_aload_n 1 (dq dV_leaveOutComponent 4 rfl) rfl ?_
    obtain ⟨o2, eo2, ho2, h⟩ := q_o h
    refine zi_rc0 eo2 ?_
    refine ti_getr (hg _) ho2 (by decide) fV_56 (dq dV_leaveOutComponent 5 rfl) ?_
    refine zi_ifnonnull (tgt := 29) (dq dV_leaveOutComponent 6 rfl) (by decide) (fun _ c => ?_) (fun c => ?_)
    · have h := q_f (by rw [c]; exact nofun) h
      refine zi_aload_n 0 (dq dV_leaveOutComponent 15 rfl) rfl ?_
      refine zi_aload_n 1 (dq dV_leaveOutComponent 16 rfl) rfl ?_
      obtain ⟨o3, eo3, ho3, h⟩ := q_o h
      refine zi_rc0 eo3 ?_
      refine ti_getr (hg _) ho3 (by decide) fV_56 (dq dV_leaveOutComponent 17 rfl) ?_
      obtain ⟨o4, eo4, ho4, h⟩ := q_o h
      refine zi_rc0 eo4 ?_
      obtain ⟨v5, hv5, h⟩ := q_c h
      refine zi_cVr0 (ST_untagged (hg _) ho4 hv5 (d := d - 1) (by omega)) wT_untagged aV_60 iT_untagged sT_untagged (by omega) ((hg _) _ _ (by decide) ho4).1 rfl (Nat.le_of_ble_eq_true rfl) (dq dV_leaveOutComponent 18 rfl) (fun _ _ hh => ?_)
      obtain ⟨rfl, rfl⟩ := hh
      obtain ⟨o6, eo6, ho6, h⟩ := q_o h
      refine zi_rc0 eo6 ?_
      refine ti_geti (hg _) ho6 (by decide) fV_66 (dq dV_leaveOutComponent 19 rfl) ?_
      refine zi_iload_n 2 (dq dV_leaveOutComponent 20 rfl) rfl ?_
      refine zi_aload_n 1 (dq dV_leaveOutComponent 21 rfl) rfl ?_
      obtain ⟨o7, eo7, ho7, h⟩ := q_o h
      refine zi_rc0 eo7 ?_
      refine ti_geti (hg _) ho7 (by decide) fV_53 (dq dV_leaveOutComponent 22 rfl) ?_
      obtain ⟨v8, J9, hv8, h⟩ := q_b h
      refine zi_cVi3 (SV_addPart hL hv hg hv8 (d := d - 1) (by omega)) wV_addPart aV_68 iV_addPart sV_addPart (by omega) (zLs hL 0 rfl) rfl (Nat.le_of_ble_eq_true rfl) (dq dV_leaveOutComponent 23 rfl) (fun _ _ hh => ?_)
      obtain ⟨rfl, rfl⟩ := hh
      refine zi_istC_n (lv' := [(3, _), (0, _), (1, _), (2, _)]) (dq dV_leaveOutComponent 24 rfl) (by decide) (by simp [z_cr, z_ci]) rfl ?_
      refine zi_iload_n 0 (dq dV_leaveOutComponent 25 rfl) rfl ?_
      refine zi_iconst (v := (-1)) (dq dV_leaveOutComponent 26 rfl) (by decide) ?_
      refine zi_icmp_ne (tgt := 56) (dq dV_leaveOutComponent 27 rfl) (by decide) (fun c => ?_) (fun c => ?_)
      · have h := q_f c h
        refine zi_aload_n 1 (dq dV_leaveOutComponent 30 rfl) rfl ?_
        refine ri_getr (zLs hL 0 rfl) (zLr hL 1 rfl) fV_15 (dq dV_leaveOutComponent 31 rfl) ?_
        refine zi_iload_n 0 (dq dV_leaveOutComponent 32 rfl) rfl ?_
        refine zi_aload_n 2 (dq dV_leaveOutComponent 33 rfl) rfl ?_
        obtain ⟨o10, eo10, ho10, h⟩ := q_o h
        refine zi_rc0 eo10 ?_
        refine ti_geti (hg _) ho10 (by decide) fV_51 (dq dV_leaveOutComponent 34 rfl) ?_
        obtain ⟨c11, h⟩ := q_k h
        refine ri_iast (zLs hL 2 rfl) (by omega) rfl c11 (dq dV_leaveOutComponent 35 rfl) ?_
        refine zi_aload_n 1 (dq dV_leaveOutComponent 36 rfl) rfl ?_
        refine ri_getr (zLs hL 0 rfl) (zLr hL 1 rfl) fV_15 (dq dV_leaveOutComponent 37 rfl) ?_
        refine zi_iload_n 3 (dq dV_leaveOutComponent 38 rfl) rfl ?_
        refine zi_dup2 (dq dV_leaveOutComponent 39 rfl) (by first | rfl | exact z_cr _) (by first | rfl | exact z_cr _) ?_
        obtain ⟨c13, h⟩ := q_k h
        refine ri_iald (zLs hL 2 rfl) (by omega) rfl c13 (dq dV_leaveOutComponent 40 rfl) ?_
        refine zi_iconst (v := 1) (dq dV_leaveOutComponent 41 rfl) (by decide) ?_
        refine zi_iadd (dq dV_leaveOutComponent 42 rfl) ?_
        obtain ⟨c14, h⟩ := q_k h
        refine ri_iast (zLs hL 2 rfl) (by omega) rfl c14 (dq dV_leaveOutComponent 43 rfl) ?_
        refine zi_iconst (v := 1) (dq dV_leaveOutComponent 44 rfl) (by decide) ?_
        exact zi_ireturn rfl (by decide) (dq dV_leaveOutComponent 45 rfl) (q_rb (b := true) h)
      · have h := q_t c h
        refine zi_iconst (v := 0) (dq dV_leaveOutComponent 28 rfl) (by decide) ?_
        exact zi_ireturn rfl (by decide) (dq dV_leaveOutComponent 29 rfl) (q_rb (b := false) h)
    · have h := q_t c h
      exact zG_lv (zs_c 1 rfl zs_n) (SV_leaveOutComponent_15 hL hv hg h hd )
def FV_shows (N : Nat) (M0 : zM) (v : Nat) (l1 : Int32) (l2 : Option Nat) (J : zJ) : Option (Bool × zJ) :=
  qk (qi l1 100) <|
  qo l2 M0 1 fun o2 =>
  if (((J (v + 6) l1.toNatClampNeg) >>> ((zi M0 o2 1) &&& 31)) &&& 1) = 0 then
    some (false, J)
  else
    some (true, J)
theorem SV_shows {g : zg} {d N : Nat} {M0 : zM} {A : Nat} {r : Bool} {J1 : zJ} {J : zJ} {v : Nat} {l1 : Int32} {l2 : Option Nat} (hL : zLy M0 A (vShL v) (vRf v)) (hv : v + 8 ≤ 32) (hg : ∀ J, zag M0 (zmm M0 A 32 J)) (h : FV_shows N M0 v l1 l2 J = some (r, J1)) (hd : 0 ≤ d) : zEi g d mV_shows [va_rf (some (A + v)), .int l1, va_rf l2] (zmm M0 A 32 J) (fun v Mq => v = bI r ∧ Mq = zmm M0 A 32 J1) := by
  unfold FV_shows at h
  refine zEb_q (r := r) (lv := [(0, va_rf (some (A + v))), (1, .int l1), (2, va_rf l2)]) ⟨by decide +kernel, by decide, by decide +kernel⟩ (by simp [z_cr, z_ci]) (Nat.le_of_ble_eq_true rfl) rfl ?_
  refine zi_aload_n 0 (dq dV_shows 0 rfl) rfl ?_
  refine ri_getr (zLs hL 0 rfl) (zLr hL 5 rfl) fV_27 (dq dV_shows 1 rfl) ?_
  refine zi_iload_n 1 (dq dV_shows 2 rfl) rfl ?_
  obtain ⟨c1, h⟩ := q_k h
  refine ri_iald (zLs hL 6 rfl) (by omega) rfl c1 (dq dV_shows 3 rfl) ?_
  refine zi_aload_n 2 (dq dV_shows 4 rfl) rfl ?_
  obtain ⟨o2, eo2, ho2, h⟩ := q_o h
  refine zi_rc0 eo2 ?_
  refine ti_geti (hg _) ho2 (by decide) fV_53 (dq dV_shows 5 rfl) ?_
  refine zi_ishr (dq dV_shows 6 rfl) ?_
  refine zi_iconst (v := 1) (dq dV_shows 7 rfl) (by decide) ?_
  refine zi_iand (dq dV_shows 8 rfl) ?_
  refine zi_if_eq (tgt := 20) (dq dV_shows 9 rfl) (by decide) (fun c => ?_) (fun c => ?_)
  · have h := q_t c h
    refine zi_iconst (v := 0) (dq dV_shows 12 rfl) (by decide) ?_
    exact zi_ireturn rfl (by decide) (dq dV_shows 13 rfl) (q_rb (b := false) h)
  · have h := q_f c h
    refine zi_iconst (v := 1) (dq dV_shows 10 rfl) (by decide) ?_
    refine zi_goto (tgt := 21) (dq dV_shows 11 rfl) (by decide) ?_
    exact zi_ireturn rfl (by decide) (dq dV_shows 13 rfl) (q_rb (b := true) h)
