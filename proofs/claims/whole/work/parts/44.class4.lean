/-! THE CLASS AS FUNCTIONS, 4 (tools/genC.py) -/
def FP_align (N : Nat) (M0 : zM) (J : zJ) : Option (Bool × zJ) :=
  let y1 := (J 25 2) &&& 7
  if y1 = 0 then
    some (true, J)
  else
    if (J 25 3) ≤ (J 25 2) then
      some (false, J)
    else
      qk (qi ((J 25 2) >>> (3 &&& 31)) 120) <|
      if ((J 6 ((J 25 2) >>> (3 &&& 31)).toNatClampNeg) &&& (255 >>> (y1 &&& 31))) = 0 then
        let J3 := zu J 25 2 ((J 25 2) + (8 - y1))
        some (true, J3)
      else
        some (false, J)
theorem SP_align {g : zg} {d N : Nat} {M0 : zM} {A : Nat} {r : Bool} {J1 : zJ} {J : zJ}  (hL : zLy M0 A dShL dRf) (h : FP_align N M0 J = some (r, J1)) (hd : 0 ≤ d) : zEi g d mP_align [va_rf (some (A + 25))] (zmm M0 A 32 J) (fun v Mq => v = bI r ∧ Mq = zmm M0 A 32 J1) := by
  unfold FP_align at h
  refine zEb_q (r := r) (lv := [(0, va_rf (some (A + 25)))]) ⟨by decide +kernel, by decide, by decide +kernel⟩ (by simp [z_cr, z_ci]) (Nat.le_of_ble_eq_true rfl) rfl ?_
  refine zi_aload_n 0 (dq dP_align 0 rfl) rfl ?_
  refine ri_geti (zLs hL 25 rfl) (by decide) fP_19 (dq dP_align 1 rfl) ?_
  refine zi_bipush (v := 7) (dq dP_align 2 rfl) (by decide) ?_
  refine zi_iand (dq dP_align 3 rfl) ?_
  refine zi_istC_n (lv' := [(1, _), (0, _)]) (dq dP_align 4 rfl) (by decide) (by simp [z_cr, z_ci]) rfl ?_
  refine zi_iload_n 0 (dq dP_align 5 rfl) rfl ?_
  refine zi_if_ne (tgt := 14) (dq dP_align 6 rfl) (by decide) (fun c => ?_) (fun c => ?_)
  · have h := q_f c h
    refine zi_aload_n 1 (dq dP_align 9 rfl) rfl ?_
    refine ri_geti (zLs hL 25 rfl) (by decide) fP_19 (dq dP_align 10 rfl) ?_
    refine zi_aload_n 1 (dq dP_align 11 rfl) rfl ?_
    refine ri_geti (zLs hL 25 rfl) (by decide) fP_29 (dq dP_align 12 rfl) ?_
    refine zi_icmp_ge (tgt := 45) (dq dP_align 13 rfl) (by decide) (fun c => ?_) (fun c => ?_)
    · have h := q_t c h
      refine zi_iconst (v := 0) (dq dP_align 26 rfl) (by decide) ?_
      exact zi_ireturn rfl (by decide) (dq dP_align 27 rfl) (q_rb (b := false) h)
    · have h := q_f c h
      refine zi_aload_n 1 (dq dP_align 14 rfl) rfl ?_
      refine ri_getr (zLs hL 25 rfl) (zLr hL 12 rfl) fP_9 (dq dP_align 15 rfl) ?_
      refine zi_aload_n 1 (dq dP_align 16 rfl) rfl ?_
      refine ri_geti (zLs hL 25 rfl) (by decide) fP_19 (dq dP_align 17 rfl) ?_
      refine zi_iconst (v := 3) (dq dP_align 18 rfl) (by decide) ?_
      refine zi_ishr (dq dP_align 19 rfl) ?_
      obtain ⟨c2, h⟩ := q_k h
      refine ri_iald (zLs hL 6 rfl) (by decide) rfl c2 (dq dP_align 20 rfl) ?_
      refine zi_sipush (v := 255) (dq dP_align 21 rfl) (by decide) ?_
      refine zi_iload_n 0 (dq dP_align 22 rfl) rfl ?_
      refine zi_ishr (dq dP_align 23 rfl) ?_
      refine zi_iand (dq dP_align 24 rfl) ?_
      refine zi_if_eq (tgt := 47) (dq dP_align 25 rfl) (by decide) (fun c => ?_) (fun c => ?_)
      · have h := q_t c h
        refine zi_aload_n 1 (dq dP_align 28 rfl) rfl ?_
        refine zi_dup (dq dP_align 29 rfl) (by first | rfl | exact z_cr _) ?_
        refine ri_geti (zLs hL 25 rfl) (by decide) fP_19 (dq dP_align 30 rfl) ?_
        refine zi_bipush (v := 8) (dq dP_align 31 rfl) (by decide) ?_
        refine zi_iload_n 0 (dq dP_align 32 rfl) rfl ?_
        refine zi_isub (dq dP_align 33 rfl) ?_
        refine zi_iadd (dq dP_align 34 rfl) ?_
        refine ri_puti (zLs hL 25 rfl) (by decide) fP_19 (fun h => by cases h) rfl rfl (dq dP_align 35 rfl) ?_
        refine zi_iconst (v := 1) (dq dP_align 36 rfl) (by decide) ?_
        exact zi_ireturn rfl (by decide) (dq dP_align 37 rfl) (q_rb (b := true) h)
      · have h := q_f c h
        refine zi_iconst (v := 0) (dq dP_align 26 rfl) (by decide) ?_
        exact zi_ireturn rfl (by decide) (dq dP_align 27 rfl) (q_rb (b := false) h)
  · have h := q_t c h
    refine zi_iconst (v := 1) (dq dP_align 7 rfl) (by decide) ?_
    exact zi_ireturn rfl (by decide) (dq dP_align 8 rfl) (q_rb (b := true) h)
def FP_takeBits_19 (N : Nat) (M0 : zM) (l1 : Int32) (K19 : (Int32 × Int32 × zJ) → Option (Int32 × zJ)) (s : Int32 × Int32 × zJ) : Option (Int32 × zJ) :=
  let l2 := s.1
  let l3 := s.2.1
  let J := s.2.2
  if l1 ≤ l3 then
    some (l2, J)
  else
    qk (qi ((J 25 2) >>> (3 &&& 31)) 120) <|
    let y2 := (l2 <<< (1 &&& 31)) ||| (((J 6 ((J 25 2) >>> (3 &&& 31)).toNatClampNeg) >>> ((7 - ((J 25 2) &&& 7)) &&& 31)) &&& 1)
    let J3 := zu J 25 2 ((J 25 2) + 1)
    let y4 := l3 + (1)
    K19 (y2, y4, J3)
theorem SP_takeBits_19 {g : zg} {d N : Nat} {M0 : zM} {A : Nat} {r : Int32} {J1 : zJ}  {l1 : Int32} (hL : zLy M0 A dShL dRf) (hd : 0 ≤ d)  : ∀ n s, qfix (FP_takeBits_19 N M0 l1) n s = some (r, J1) → zG g d mP_takeBits (zPq (rI r) (zmm M0 A 32 J1)) (zmm M0 A 32 s.2.2) 19 [(0, va_rf (some (A + 25))), (1, .int l1), (2, .int s.1), (3, .int s.2.1)] [] := by
  refine qfix_sound (fun K19 hK19 s h => ?_)
  unfold FP_takeBits_19 at h
  refine zi_iload_n 3 (dq dP_takeBits 13 rfl) rfl ?_
  refine zi_iload_n 1 (dq dP_takeBits 14 rfl) rfl ?_
  refine zi_icmp_ge (tgt := 69) (dq dP_takeBits 15 rfl) (by decide) (fun c => ?_) (fun c => ?_)
  · have h := q_t c h
    refine zi_iload_n 2 (dq dP_takeBits 45 rfl) rfl ?_
    exact zi_ireturn rfl rfl (dq dP_takeBits 46 rfl) (q_ri h)
  · have h := q_f c h
    refine zi_iload_n 2 (dq dP_takeBits 16 rfl) rfl ?_
    refine zi_iconst (v := 1) (dq dP_takeBits 17 rfl) (by decide) ?_
    refine zi_ishl (dq dP_takeBits 18 rfl) ?_
    refine zi_aload_n 0 (dq dP_takeBits 19 rfl) rfl ?_
    refine ri_getr (zLs hL 25 rfl) (zLr hL 12 rfl) fP_9 (dq dP_takeBits 20 rfl) ?_
    refine zi_aload_n 0 (dq dP_takeBits 21 rfl) rfl ?_
    refine ri_geti (zLs hL 25 rfl) (by decide) fP_19 (dq dP_takeBits 22 rfl) ?_
    refine zi_iconst (v := 3) (dq dP_takeBits 23 rfl) (by decide) ?_
    refine zi_ishr (dq dP_takeBits 24 rfl) ?_
    obtain ⟨c1, h⟩ := q_k h
    refine ri_iald (zLs hL 6 rfl) (by decide) rfl c1 (dq dP_takeBits 25 rfl) ?_
    refine zi_bipush (v := 7) (dq dP_takeBits 26 rfl) (by decide) ?_
    refine zi_aload_n 0 (dq dP_takeBits 27 rfl) rfl ?_
    refine ri_geti (zLs hL 25 rfl) (by decide) fP_19 (dq dP_takeBits 28 rfl) ?_
    refine zi_bipush (v := 7) (dq dP_takeBits 29 rfl) (by decide) ?_
    refine zi_iand (dq dP_takeBits 30 rfl) ?_
    refine zi_isub (dq dP_takeBits 31 rfl) ?_
    refine zi_ishr (dq dP_takeBits 32 rfl) ?_
    refine zi_iconst (v := 1) (dq dP_takeBits 33 rfl) (by decide) ?_
    refine zi_iand (dq dP_takeBits 34 rfl) ?_
    refine zi_ior (dq dP_takeBits 35 rfl) ?_
    refine zi_istC_n (lv' := [(2, _), (0, _), (1, _), (3, _)]) (dq dP_takeBits 36 rfl) (by decide) (by simp [z_cr, z_ci]) rfl ?_
    refine zi_aload_n 1 (dq dP_takeBits 37 rfl) rfl ?_
    refine zi_dup (dq dP_takeBits 38 rfl) (by first | rfl | exact z_cr _) ?_
    refine ri_geti (zLs hL 25 rfl) (by decide) fP_19 (dq dP_takeBits 39 rfl) ?_
    refine zi_iconst (v := 1) (dq dP_takeBits 40 rfl) (by decide) ?_
    refine zi_iadd (dq dP_takeBits 41 rfl) ?_
    refine ri_puti (zLs hL 25 rfl) (by decide) fP_19 (fun h => by cases h) rfl rfl (dq dP_takeBits 42 rfl) ?_
    refine zi_iincC (v := _ + (1)) (lv' := [(3, _), (2, _), (0, _), (1, _)]) 3 (dq dP_takeBits 43 rfl) rfl rfl (by decide) (by simp [z_cr, z_ci]) rfl ?_
    refine zi_goto (tgt := 19) (dq dP_takeBits 44 rfl) (by decide) ?_
    exact zG_lv (zs_c 2 rfl (zs_c 3 rfl (zs_c 1 rfl (zs_c 0 rfl zs_n)))) (hK19 _ h)
def FP_takeBits (N : Nat) (M0 : zM) (l1 : Int32) (J : zJ) : Option (Int32 × zJ) :=
  if ((J 25 2) + l1) ≤ (J 25 3) then
    qfix (FP_takeBits_19 N M0 l1) N (0, 0, J)
  else
    some (((-1)), J)
theorem SP_takeBits {g : zg} {d N : Nat} {M0 : zM} {A : Nat} {r : Int32} {J1 : zJ} {J : zJ} {l1 : Int32} (hL : zLy M0 A dShL dRf) (h : FP_takeBits N M0 l1 J = some (r, J1)) (hd : 0 ≤ d) : zEi g d mP_takeBits [va_rf (some (A + 25)), .int l1] (zmm M0 A 32 J) (fun v Mq => v = r ∧ Mq = zmm M0 A 32 J1) := by
  unfold FP_takeBits at h
  refine zEi_q (r := r) (lv := [(0, va_rf (some (A + 25))), (1, .int l1)]) ⟨by decide +kernel, by decide, by decide +kernel⟩ (by simp [z_cr, z_ci]) (Nat.le_of_ble_eq_true rfl) rfl ?_
  refine zi_aload_n 0 (dq dP_takeBits 0 rfl) rfl ?_
  refine ri_geti (zLs hL 25 rfl) (by decide) fP_19 (dq dP_takeBits 1 rfl) ?_
  refine zi_iload_n 1 (dq dP_takeBits 2 rfl) rfl ?_
  refine zi_iadd (dq dP_takeBits 3 rfl) ?_
  refine zi_aload_n 0 (dq dP_takeBits 4 rfl) rfl ?_
  refine ri_geti (zLs hL 25 rfl) (by decide) fP_29 (dq dP_takeBits 5 rfl) ?_
  refine zi_icmp_le (tgt := 15) (dq dP_takeBits 6 rfl) (by decide) (fun c => ?_) (fun c => ?_)
  · have h := q_t c h
    refine zi_iconst (v := 0) (dq dP_takeBits 9 rfl) (by decide) ?_
    refine zi_istC_n (lv' := [(2, _), (0, _), (1, _)]) (dq dP_takeBits 10 rfl) (by decide) (by simp [z_cr, z_ci]) rfl ?_
    refine zi_iconst (v := 0) (dq dP_takeBits 11 rfl) (by decide) ?_
    refine zi_istC_n (lv' := [(3, _), (2, _), (0, _), (1, _)]) (dq dP_takeBits 12 rfl) (by decide) (by simp [z_cr, z_ci]) rfl ?_
    exact zG_lv (zs_c 2 rfl (zs_c 3 rfl (zs_c 1 rfl (zs_c 0 rfl zs_n)))) (SP_takeBits_19 hL hd  _ _ h)
  · have h := q_f c h
    refine zi_iconst (v := (-1)) (dq dP_takeBits 7 rfl) (by decide) ?_
    exact zi_ireturn rfl rfl (dq dP_takeBits 8 rfl) (q_ri h)
def FP_takeNumber_22 (N : Nat) (M0 : zM) (l1 : Int32) (J : zJ) : Option (Int32 × zJ) :=
  qc (FI_bitsOfNumbersTo N l1) fun v1 =>
  qb (FP_takeBits N M0 v1 J) fun v2 J3 =>
  if v2 ≤ l1 then
    some (v2, J3)
  else
    some (((-1)), J3)
theorem SP_takeNumber_22 {g : zg} {d N : Nat} {M0 : zM} {A : Nat} {r : Int32} {J1 : zJ} {J : zJ}  {l1 : Int32} (hL : zLy M0 A dShL dRf) (h : FP_takeNumber_22 N M0 l1 J = some (r, J1)) (hd : 1 ≤ d)  : zG g d mP_takeNumber (zPq (rI r) (zmm M0 A 32 J1)) (zmm M0 A 32 J) 22 [(0, va_rf (some (A + 25))), (1, .int l1)] [] := by
  unfold FP_takeNumber_22 at h
  refine zi_aload_n 0 (dq dP_takeNumber 12 rfl) rfl ?_
  refine zi_iload_n 1 (dq dP_takeNumber 13 rfl) rfl ?_
  obtain ⟨v1, hv1, h⟩ := q_c h
  refine zi_cSi1 (SI_bitsOfNumbersTo  hv1 (d := d - 1) (by omega)) wI_bitsOfNumbersTo aP_160 tI_bitsOfNumbersTo (by omega) (Nat.le_of_ble_eq_true rfl) (dq dP_takeNumber 14 rfl) (fun _ _ hh => ?_)
  obtain ⟨rfl, rfl⟩ := hh
  obtain ⟨v2, J3, hv2, h⟩ := q_b h
  refine zi_cVi1 (SP_takeBits hL hv2 (d := d - 1) (by omega)) wP_takeBits aP_36 iP_takeBits sP_takeBits (by omega) (zLs hL 25 rfl) rfl (Nat.le_of_ble_eq_true rfl) (dq dP_takeNumber 15 rfl) (fun _ _ hh => ?_)
  obtain ⟨rfl, rfl⟩ := hh
  refine zi_istC_n (lv' := [(2, _), (0, _), (1, _)]) (dq dP_takeNumber 16 rfl) (by decide) (by simp [z_cr, z_ci]) rfl ?_
  refine zi_iload_n 0 (dq dP_takeNumber 17 rfl) rfl ?_
  refine zi_iload_n 2 (dq dP_takeNumber 18 rfl) rfl ?_
  refine zi_icmp_le (tgt := 40) (dq dP_takeNumber 19 rfl) (by decide) (fun c => ?_) (fun c => ?_)
  · have h := q_t c h
    refine zi_iload_n 0 (dq dP_takeNumber 22 rfl) rfl ?_
    exact zi_ireturn rfl rfl (dq dP_takeNumber 23 rfl) (q_ri h)
  · have h := q_f c h
    refine zi_iconst (v := (-1)) (dq dP_takeNumber 20 rfl) (by decide) ?_
    refine zi_goto (tgt := 41) (dq dP_takeNumber 21 rfl) (by decide) ?_
    exact zi_ireturn rfl rfl (dq dP_takeNumber 23 rfl) (q_ri h)
def FP_takeNumber (N : Nat) (M0 : zM) (l1 : Int32) (J : zJ) : Option (Int32 × zJ) :=
  if 0 < l1 then
    if l1 < 255 then
      FP_takeNumber_22 N M0 l1 J
    else
      qb (FP_align N M0 J) fun v1 J2 =>
      if (bI v1) = 0 then
        some (((-1)), J2)
      else
        FP_takeNumber_22 N M0 l1 J2
  else
    some (0, J)
theorem SP_takeNumber {g : zg} {d N : Nat} {M0 : zM} {A : Nat} {r : Int32} {J1 : zJ} {J : zJ} {l1 : Int32} (hL : zLy M0 A dShL dRf) (h : FP_takeNumber N M0 l1 J = some (r, J1)) (hd : 1 ≤ d) : zEi g d mP_takeNumber [va_rf (some (A + 25)), .int l1] (zmm M0 A 32 J) (fun v Mq => v = r ∧ Mq = zmm M0 A 32 J1) := by
  unfold FP_takeNumber at h
  refine zEi_q (r := r) (lv := [(0, va_rf (some (A + 25))), (1, .int l1)]) ⟨by decide +kernel, by decide, by decide +kernel⟩ (by simp [z_cr, z_ci]) (Nat.le_of_ble_eq_true rfl) rfl ?_
  refine zi_iload_n 1 (dq dP_takeNumber 0 rfl) rfl ?_
  refine zi_if_gt (tgt := 6) (dq dP_takeNumber 1 rfl) (by decide) (fun c => ?_) (fun c => ?_)
  · have h := q_t c h
    refine zi_iload_n 1 (dq dP_takeNumber 4 rfl) rfl ?_
    refine zi_sipush (v := 255) (dq dP_takeNumber 5 rfl) (by decide) ?_
    refine zi_icmp_lt (tgt := 22) (dq dP_takeNumber 6 rfl) (by decide) (fun c => ?_) (fun c => ?_)
    · have h := q_t c h
      exact zG_lv (zs_c 0 rfl (zs_c 1 rfl zs_n)) (SP_takeNumber_22 hL h hd )
    · have h := q_f c h
      refine zi_aload_n 0 (dq dP_takeNumber 7 rfl) rfl ?_
      obtain ⟨v1, J2, hv1, h⟩ := q_b h
      refine zi_cVi0 (SP_align hL hv1 (d := d - 1) (by omega)) wP_align aP_40 iP_align sP_align (by omega) (zLs hL 25 rfl) rfl (Nat.le_of_ble_eq_true rfl) (dq dP_takeNumber 8 rfl) (fun _ _ hh => ?_)
      obtain ⟨rfl, rfl⟩ := hh
      refine zi_if_ne (tgt := 22) (dq dP_takeNumber 9 rfl) (by decide) (fun c => ?_) (fun c => ?_)
      · have h := q_f c h
        exact zG_lv (zs_c 0 rfl (zs_c 1 rfl zs_n)) (SP_takeNumber_22 hL h hd )
      · have h := q_t c h
        refine zi_iconst (v := (-1)) (dq dP_takeNumber 10 rfl) (by decide) ?_
        exact zi_ireturn rfl rfl (dq dP_takeNumber 11 rfl) (q_ri h)
  · have h := q_f c h
    refine zi_iconst (v := 0) (dq dP_takeNumber 2 rfl) (by decide) ?_
    exact zi_ireturn rfl rfl (dq dP_takeNumber 3 rfl) (q_ri h)
def FP_readBounded (N : Nat) (M0 : zM) (l1 : Option Nat) (l2 : Int32) (J : zJ) : Option (Bool × zJ) :=
  qo l1 M0 6 fun o1 =>
  qo l1 M0 6 fun o2 =>
  qb (FP_takeNumber N M0 ((zi M0 o1 3) - (zi M0 o2 2)) J) fun v3 J4 =>
  qo l1 M0 6 fun o5 =>
  qk (qi l2 100) <|
  let J7 := zu J4 18 l2.toNatClampNeg ((zi M0 o5 2) + v3)
  if v3 = ((-1)) then
    some (false, J7)
  else
    some (true, J7)
theorem SP_readBounded {g : zg} {d N : Nat} {M0 : zM} {A : Nat} {r : Bool} {J1 : zJ} {J : zJ} {l1 : Option Nat} {l2 : Int32} (hL : zLy M0 A dShL dRf) (h : FP_readBounded N M0 l1 l2 J = some (r, J1)) (hd : 2 ≤ d) : zEi g d mP_readBounded [va_rf (some (A + 25)), va_rf l1, .int l2] (zmm M0 A 32 J) (fun v Mq => v = bI r ∧ Mq = zmm M0 A 32 J1) := by
  unfold FP_readBounded at h
  refine zEb_q (r := r) (lv := [(0, va_rf (some (A + 25))), (1, va_rf l1), (2, .int l2)]) ⟨by decide +kernel, by decide, by decide +kernel⟩ (by simp [z_cr, z_ci]) (Nat.le_of_ble_eq_true rfl) rfl ?_
  refine zi_aload_n 0 (dq dP_readBounded 0 rfl) rfl ?_
  refine zi_aload_n 1 (dq dP_readBounded 1 rfl) rfl ?_
  obtain ⟨o1, eo1, ho1, h⟩ := q_o h
  refine zi_rc0 eo1 ?_
  refine ti_geti (zag_d hL _) ho1 (by decide) fP_87 (dq dP_readBounded 2 rfl) ?_
  refine zi_aload_n 1 (dq dP_readBounded 3 rfl) rfl ?_
  obtain ⟨o2, eo2, ho2, h⟩ := q_o h
  refine zi_rc0 eo2 ?_
  refine ti_geti (zag_d hL _) ho2 (by decide) fP_90 (dq dP_readBounded 4 rfl) ?_
  refine zi_isub (dq dP_readBounded 5 rfl) ?_
  obtain ⟨v3, J4, hv3, h⟩ := q_b h
  refine zi_cVi1 (SP_takeNumber hL hv3 (d := d - 1) (by omega)) wP_takeNumber aP_93 iP_takeNumber sP_takeNumber (by omega) (zLs hL 25 rfl) rfl (Nat.le_of_ble_eq_true rfl) (dq dP_readBounded 6 rfl) (fun _ _ hh => ?_)
  obtain ⟨rfl, rfl⟩ := hh
  refine zi_istC_n (lv' := [(3, _), (0, _), (1, _), (2, _)]) (dq dP_readBounded 7 rfl) (by decide) (by simp [z_cr, z_ci]) rfl ?_
  refine zi_aload_n 1 (dq dP_readBounded 8 rfl) rfl ?_
  refine ri_getr (zLs hL 25 rfl) (zLr hL 11 rfl) fP_15 (dq dP_readBounded 9 rfl) ?_
  refine ri_getr (zLs hL 16 rfl) (zLr hL 22 rfl) fP_59 (dq dP_readBounded 10 rfl) ?_
  refine zi_iload_n 3 (dq dP_readBounded 11 rfl) rfl ?_
  refine zi_aload_n 2 (dq dP_readBounded 12 rfl) rfl ?_
  obtain ⟨o5, eo5, ho5, h⟩ := q_o h
  refine zi_rc0 eo5 ?_
  refine ti_geti (zag_d hL _) ho5 (by decide) fP_90 (dq dP_readBounded 13 rfl) ?_
  refine zi_iload_n 0 (dq dP_readBounded 14 rfl) rfl ?_
  refine zi_iadd (dq dP_readBounded 15 rfl) ?_
  obtain ⟨c6, h⟩ := q_k h
  refine ri_iast (zLs hL 18 rfl) (by decide) rfl c6 (dq dP_readBounded 16 rfl) ?_
  refine zi_iload_n 0 (dq dP_readBounded 17 rfl) rfl ?_
  refine zi_iconst (v := (-1)) (dq dP_readBounded 18 rfl) (by decide) ?_
  refine zi_icmp_eq (tgt := 38) (dq dP_readBounded 19 rfl) (by decide) (fun c => ?_) (fun c => ?_)
  · have h := q_t c h
    refine zi_iconst (v := 0) (dq dP_readBounded 22 rfl) (by decide) ?_
    exact zi_ireturn rfl (by decide) (dq dP_readBounded 23 rfl) (q_rb (b := false) h)
  · have h := q_f c h
    refine zi_iconst (v := 1) (dq dP_readBounded 20 rfl) (by decide) ?_
    refine zi_goto (tgt := 39) (dq dP_readBounded 21 rfl) (by decide) ?_
    exact zi_ireturn rfl (by decide) (dq dP_readBounded 23 rfl) (q_rb (b := true) h)
def FP_readChoice (N : Nat) (M0 : zM) (rec : (Option Nat × Int32 × Int32 × Int32 × zJ) → Option (Bool × zJ)) (l1 : Option Nat) (l2 : Int32) (l3 : Int32) (J : zJ) : Option (Bool × zJ) :=
  qo l1 M0 6 fun o1 =>
  qb (FP_takeNumber N M0 ((zi M0 o1 8) - 1) J) fun v2 J3 =>
  qo l1 M0 6 fun o4 =>
  qc (FT_memberRanked N M0 o4 v2) fun v5 =>
  if v5 = none then
    some (false, J3)
  else
    qo v5 M0 1 fun o6 =>
    qk (qi l2 100) <|
    let J8 := zu J3 18 l2.toNatClampNeg (zi M0 o6 1)
    qo v5 M0 1 fun o9 =>
    qb (rec ((zr M0 o9 0), l2, 0, (l3 + 1), J8)) fun v10 J11 =>
    some (v10, J11)
theorem SP_readChoice {g : zg} {d N : Nat} {M0 : zM} {A : Nat} {rec : (Option Nat × Int32 × Int32 × Int32 × zJ) → Option (Bool × zJ)} {L : Nat} {r : Bool} {J1 : zJ} {J : zJ} {l1 : Option Nat} {l2 : Int32} {l3 : Int32} (hL : zLy M0 A dShL dRf) (hrec : ∀ s r, rec s = some r → ∀ d, L ≤ d → zEi g d mP_readValue [va_rf (some (A + 25)), va_rf s.1, .int s.2.1, .int s.2.2.1, .int s.2.2.2.1] (zmm M0 A 32 s.2.2.2.2) (fun v Mq => v = bI r.1 ∧ Mq = zmm M0 A 32 r.2)) (h : FP_readChoice N M0 rec l1 l2 l3 J = some (r, J1)) (hd : L + 2 ≤ d) : zEi g d mP_readChoice [va_rf (some (A + 25)), va_rf l1, .int l2, .int l3] (zmm M0 A 32 J) (fun v Mq => v = bI r ∧ Mq = zmm M0 A 32 J1) := by
  unfold FP_readChoice at h
  refine zEb_q (r := r) (lv := [(0, va_rf (some (A + 25))), (1, va_rf l1), (2, .int l2), (3, .int l3)]) ⟨by decide +kernel, by decide, by decide +kernel⟩ (by simp [z_cr, z_ci]) (Nat.le_of_ble_eq_true rfl) rfl ?_
  refine zi_aload_n 1 (dq dP_readChoice 0 rfl) rfl ?_
  refine zi_aload_n 0 (dq dP_readChoice 1 rfl) rfl ?_
  refine zi_aload_n 1 (dq dP_readChoice 2 rfl) rfl ?_
  obtain ⟨o1, eo1, ho1, h⟩ := q_o h
  refine zi_rc0 eo1 ?_
  refine ti_geti (zag_d hL _) ho1 (by decide) fP_153 (dq dP_readChoice 3 rfl) ?_
  refine zi_iconst (v := 1) (dq dP_readChoice 4 rfl) (by decide) ?_
  refine zi_isub (dq dP_readChoice 5 rfl) ?_
  obtain ⟨v2, J3, hv2, h⟩ := q_b h
  refine zi_cVi1 (SP_takeNumber hL hv2 (d := d - 1) (by omega)) wP_takeNumber aP_93 iP_takeNumber sP_takeNumber (by omega) (zLs hL 25 rfl) rfl (Nat.le_of_ble_eq_true rfl) (dq dP_readChoice 6 rfl) (fun _ _ hh => ?_)
  obtain ⟨rfl, rfl⟩ := hh
  obtain ⟨o4, eo4, ho4, h⟩ := q_o h
  refine zi_rc1 eo4 ?_
  obtain ⟨v5, hv5, h⟩ := q_c h
  refine zi_cVr1 (ST_memberRanked (zag_d hL _) ho4 hv5 (d := d - 1) (by omega)) wT_memberRanked aP_156 iT_memberRanked sT_memberRanked (by omega) ((zag_d hL _) _ _ (by decide) ho4).1 rfl (Nat.le_of_ble_eq_true rfl) (dq dP_readChoice 7 rfl) (fun _ _ hh => ?_)
  obtain ⟨rfl, rfl⟩ := hh
  refine zi_astC (lv' := [(4, _), (0, _), (1, _), (2, _), (3, _)]) (dq dP_readChoice 8 rfl) (by decide) (by simp [z_cr, z_ci]) rfl ?_
  refine zi_aload 0 (dq dP_readChoice 9 rfl) rfl ?_
  refine zi_ifnonnull (tgt := 23) (dq dP_readChoice 10 rfl) (by decide) (fun _ c => ?_) (fun c => ?_)
  · have h := q_f (by rw [c]; exact nofun) h
    refine zi_aload_n 1 (dq dP_readChoice 13 rfl) rfl ?_
    refine ri_getr (zLs hL 25 rfl) (zLr hL 11 rfl) fP_15 (dq dP_readChoice 14 rfl) ?_
    refine ri_getr (zLs hL 16 rfl) (zLr hL 22 rfl) fP_59 (dq dP_readChoice 15 rfl) ?_
    refine zi_iload_n 3 (dq dP_readChoice 16 rfl) rfl ?_
    refine zi_aload 0 (dq dP_readChoice 17 rfl) rfl ?_
    obtain ⟨o6, eo6, ho6, h⟩ := q_o h
    refine zi_rc0 eo6 ?_
    refine ti_geti (zag_d hL _) ho6 (by decide) fP_131 (dq dP_readChoice 18 rfl) ?_
    obtain ⟨c7, h⟩ := q_k h
    refine ri_iast (zLs hL 18 rfl) (by decide) rfl c7 (dq dP_readChoice 19 rfl) ?_
    refine zi_aload_n 1 (dq dP_readChoice 20 rfl) rfl ?_
    refine zi_aload 0 (dq dP_readChoice 21 rfl) rfl ?_
    obtain ⟨o9, eo9, ho9, h⟩ := q_o h
    refine zi_rc0 eo9 ?_
    refine ti_getr (zag_d hL _) ho9 (by decide) fP_140 (dq dP_readChoice 22 rfl) ?_
    refine zi_iload_n 3 (dq dP_readChoice 23 rfl) rfl ?_
    refine zi_iconst (v := 0) (dq dP_readChoice 24 rfl) (by decide) ?_
    refine zi_iload_n 4 (dq dP_readChoice 25 rfl) rfl ?_
    refine zi_iconst (v := 1) (dq dP_readChoice 26 rfl) (by decide) ?_
    refine zi_iadd (dq dP_readChoice 27 rfl) ?_
    obtain ⟨v10, J11, hv10, h⟩ := q_b h
    refine zi_cVi4 (hrec _ _ hv10 (d - 1) (by omega)) wP_readValue aP_32 iP_readValue sP_readValue (by omega) (zLs hL 25 rfl) rfl (Nat.le_of_ble_eq_true rfl) (dq dP_readChoice 28 rfl) (fun _ _ hh => ?_)
    obtain ⟨rfl, rfl⟩ := hh
    exact zi_ireturn rfl (bI_nar _) (dq dP_readChoice 29 rfl) (q_rb h)
  · have h := q_t c h
    refine zi_iconst (v := 0) (dq dP_readChoice 11 rfl) (by decide) ?_
    exact zi_ireturn rfl (by decide) (dq dP_readChoice 12 rfl) (q_rb (b := false) h)
def FP_takePresence_27 (N : Nat) (M0 : zM) (K7 : (Int32 × Option Nat × zJ) → Option (Int32 × zJ)) (l2 : Int32) (l3 : Option Nat) (t0 : Int32) (J : zJ) : Option (Int32 × zJ) :=
  if t0 = ((-1)) then
    some (((-1)), J)
  else
    qo l3 M0 1 fun o1 =>
    let y2 := l2 ||| (t0 <<< ((zi M0 o1 1) &&& 31))
    qo l3 M0 1 fun o3 =>
    let y4 := zr M0 o3 5
    K7 (y2, y4, J)
theorem SP_takePresence_27 {g : zg} {d N : Nat} {M0 : zM} {A : Nat} {r : Int32} {J1 : zJ} {J : zJ} {K7 : (Int32 × Option Nat × zJ) → Option (Int32 × zJ)} {l2 : Int32} {l3 : Option Nat} {t0 : Int32} (hL : zLy M0 A dShL dRf) (h : FP_takePresence_27 N M0 K7 l2 l3 t0 J = some (r, J1)) (hd : 1 ≤ d) (hK7 : ∀ s, K7 s = some (r, J1) → zG g d mP_takePresence (zPq (rI r) (zmm M0 A 32 J1)) (zmm M0 A 32 s.2.2) 7 [(0, va_rf (some (A + 25))), (2, .int s.1), (3, va_rf s.2.1)] []) : zG g d mP_takePresence (zPq (rI r) (zmm M0 A 32 J1)) (zmm M0 A 32 J) 27 [(0, va_rf (some (A + 25))), (2, .int l2), (3, va_rf l3)] [.int t0] := by
  unfold FP_takePresence_27 at h
  refine zi_istC (lv' := [(4, _), (0, _), (2, _), (3, _)]) (dq dP_takePresence 15 rfl) (by decide) (by simp [z_cr, z_ci]) rfl ?_
  refine zi_iload 0 (dq dP_takePresence 16 rfl) rfl ?_
  refine zi_iconst (v := (-1)) (dq dP_takePresence 17 rfl) (by decide) ?_
  refine zi_icmp_ne (tgt := 37) (dq dP_takePresence 18 rfl) (by decide) (fun c => ?_) (fun c => ?_)
  · have h := q_f c h
    refine zi_iload_n 2 (dq dP_takePresence 21 rfl) rfl ?_
    refine zi_iload 0 (dq dP_takePresence 22 rfl) rfl ?_
    refine zi_aload_n 3 (dq dP_takePresence 23 rfl) rfl ?_
    obtain ⟨o1, eo1, ho1, h⟩ := q_o h
    refine zi_rc0 eo1 ?_
    refine ti_geti (zag_d hL _) ho1 (by decide) fP_131 (dq dP_takePresence 24 rfl) ?_
    refine zi_ishl (dq dP_takePresence 25 rfl) ?_
    refine zi_ior (dq dP_takePresence 26 rfl) ?_
    refine zi_istC_n (lv' := [(2, _), (4, _), (0, _), (3, _)]) (dq dP_takePresence 27 rfl) (by decide) (by simp [z_cr, z_ci]) rfl ?_
    refine zi_aload_n 3 (dq dP_takePresence 28 rfl) rfl ?_
    obtain ⟨o3, eo3, ho3, h⟩ := q_o h
    refine zi_rc0 eo3 ?_
    refine ti_getr (zag_d hL _) ho3 (by decide) fP_147 (dq dP_takePresence 29 rfl) ?_
    refine zi_astC_n (lv' := [(3, _), (2, _), (4, _), (0, _)]) (dq dP_takePresence 30 rfl) (by decide) (by simp [z_cr, z_ci]) rfl ?_
    refine zi_goto (tgt := 7) (dq dP_takePresence 31 rfl) (by decide) ?_
    exact zG_lv (zs_c 3 rfl (zs_c 1 rfl (zs_c 0 rfl zs_n))) (hK7 _ h)
  · have h := q_t c h
    refine zi_iconst (v := (-1)) (dq dP_takePresence 19 rfl) (by decide) ?_
    exact zi_ireturn rfl rfl (dq dP_takePresence 20 rfl) (q_ri h)
def FP_takePresence_7 (N : Nat) (M0 : zM) (K7 : (Int32 × Option Nat × zJ) → Option (Int32 × zJ)) (s : Int32 × Option Nat × zJ) : Option (Int32 × zJ) :=
  let l2 := s.1
  let l3 := s.2.1
  let J := s.2.2
  if l3 = none then
    some (l2, J)
  else
    qo l3 M0 1 fun o1 =>
    if (zi M0 o1 2) = 0 then
      FP_takePresence_27 N M0 K7 l2 l3 1 J
    else
      qb (FP_takeBits N M0 1 J) fun v2 J3 =>
      FP_takePresence_27 N M0 K7 l2 l3 v2 J3
theorem SP_takePresence_7 {g : zg} {d N : Nat} {M0 : zM} {A : Nat} {r : Int32} {J1 : zJ}   (hL : zLy M0 A dShL dRf) (hd : 1 ≤ d)  : ∀ n s, qfix (FP_takePresence_7 N M0) n s = some (r, J1) → zG g d mP_takePresence (zPq (rI r) (zmm M0 A 32 J1)) (zmm M0 A 32 s.2.2) 7 [(0, va_rf (some (A + 25))), (2, .int s.1), (3, va_rf s.2.1)] [] := by
  refine qfix_sound (fun K7 hK7 s h => ?_)
  unfold FP_takePresence_7 at h
  refine zi_aload_n 2 (dq dP_takePresence 5 rfl) rfl ?_
  refine zi_ifnull (tgt := 55) (dq dP_takePresence 6 rfl) (by decide) (fun c => ?_) (fun _ c => ?_)
  · have h := q_t c h
    refine zi_iload_n 1 (dq dP_takePresence 32 rfl) rfl ?_
    exact zi_ireturn rfl rfl (dq dP_takePresence 33 rfl) (q_ri h)
  · have h := q_f (by rw [c]; exact nofun) h
    refine zi_aload_n 2 (dq dP_takePresence 7 rfl) rfl ?_
    obtain ⟨o1, eo1, ho1, h⟩ := q_o h
    refine zi_rc0 eo1 ?_
    refine ti_geti (zag_d hL _) ho1 (by decide) fP_150 (dq dP_takePresence 8 rfl) ?_
    refine zi_if_ne (tgt := 22) (dq dP_takePresence 9 rfl) (by decide) (fun c => ?_) (fun c => ?_)
    · have h := q_f c h
      refine zi_aload_n 0 (dq dP_takePresence 12 rfl) rfl ?_
      refine zi_iconst (v := 1) (dq dP_takePresence 13 rfl) (by decide) ?_
      obtain ⟨v2, J3, hv2, h⟩ := q_b h
      refine zi_cVi1 (SP_takeBits hL hv2 (d := d - 1) (by omega)) wP_takeBits aP_36 iP_takeBits sP_takeBits (by omega) (zLs hL 25 rfl) rfl (Nat.le_of_ble_eq_true rfl) (dq dP_takePresence 14 rfl) (fun _ _ hh => ?_)
      obtain ⟨rfl, rfl⟩ := hh
      exact zG_lv (zs_c 0 rfl (zs_c 1 rfl (zs_c 2 rfl zs_n))) (SP_takePresence_27 hL h hd hK7)
    · have h := q_t c h
      refine zi_iconst (v := 1) (dq dP_takePresence 10 rfl) (by decide) ?_
      refine zi_goto (tgt := 27) (dq dP_takePresence 11 rfl) (by decide) ?_
      exact zG_lv (zs_c 0 rfl (zs_c 1 rfl (zs_c 2 rfl zs_n))) (SP_takePresence_27 hL h hd hK7)
def FP_takePresence (N : Nat) (M0 : zM) (l1 : Option Nat) (J : zJ) : Option (Int32 × zJ) :=
  qo l1 M0 6 fun o1 =>
  let y2 := zr M0 o1 10
  qfix (FP_takePresence_7 N M0) N (0, y2, J)
theorem SP_takePresence {g : zg} {d N : Nat} {M0 : zM} {A : Nat} {r : Int32} {J1 : zJ} {J : zJ} {l1 : Option Nat} (hL : zLy M0 A dShL dRf) (h : FP_takePresence N M0 l1 J = some (r, J1)) (hd : 1 ≤ d) : zEi g d mP_takePresence [va_rf (some (A + 25)), va_rf l1] (zmm M0 A 32 J) (fun v Mq => v = r ∧ Mq = zmm M0 A 32 J1) := by
  unfold FP_takePresence at h
  refine zEi_q (r := r) (lv := [(0, va_rf (some (A + 25))), (1, va_rf l1)]) ⟨by decide +kernel, by decide, by decide +kernel⟩ (by simp [z_cr, z_ci]) (Nat.le_of_ble_eq_true rfl) rfl ?_
  refine zi_iconst (v := 0) (dq dP_takePresence 0 rfl) (by decide) ?_
  refine zi_istC_n (lv' := [(2, _), (0, _), (1, _)]) (dq dP_takePresence 1 rfl) (by decide) (by simp [z_cr, z_ci]) rfl ?_
  refine zi_aload_n 2 (dq dP_takePresence 2 rfl) rfl ?_
  obtain ⟨o1, eo1, ho1, h⟩ := q_o h
  refine zi_rc0 eo1 ?_
  refine ti_getr (zag_d hL _) ho1 (by decide) fP_124 (dq dP_takePresence 3 rfl) ?_
  refine zi_astC_n (lv' := [(3, _), (2, _), (0, _), (1, _)]) (dq dP_takePresence 4 rfl) (by decide) (by simp [z_cr, z_ci]) rfl ?_
  exact zG_lv (zs_c 2 rfl (zs_c 1 rfl (zs_c 0 rfl zs_n))) (SP_takePresence_7 hL hd  _ _ h)
def FP_readComponents_21 (N : Nat) (M0 : zM) (rec : (Option Nat × Int32 × Int32 × Int32 × zJ) → Option (Bool × zJ)) (l2 : Int32) (l3 : Int32) (l4 : Int32) (K21 : (Option Nat × zJ) → Option (Bool × zJ)) (s : Option Nat × zJ) : Option (Bool × zJ) :=
  let l5 := s.1
  let J := s.2
  if l5 = none then
    some (true, J)
  else
    let y1 := J 16 0
    qo l5 M0 1 fun o2 =>
    if ((l4 >>> ((zi M0 o2 1) &&& 31)) &&& 1) = 0 then
      qb (FV_leaveOutComponent N M0 16 l5 l2 J) fun v11 J12 =>
      if (bI v11) = 0 then
        some (false, J12)
      else
        qo l5 M0 1 fun o13 =>
        let y14 := zr M0 o13 5
        K21 (y14, J12)
    else
      qo l5 M0 1 fun o3 =>
      qo l5 M0 1 fun o4 =>
      qb (rec ((zr M0 o3 0), l2, (zi M0 o4 1), (l3 + 1), J)) fun v5 J6 =>
      if (bI v5) = 0 then
        some (false, J6)
      else
        qb (FV_takeComponent N M0 16 l5 l2 y1 1 J6) fun v7 J8 =>
        if (bI v7) = 0 then
          some (false, J8)
        else
          qo l5 M0 1 fun o9 =>
          let y10 := zr M0 o9 5
          K21 (y10, J8)
theorem SP_readComponents_21 {g : zg} {d N : Nat} {M0 : zM} {A : Nat} {rec : (Option Nat × Int32 × Int32 × Int32 × zJ) → Option (Bool × zJ)} {L : Nat} {r : Bool} {J1 : zJ}  {l2 : Int32} {l3 : Int32} {l4 : Int32} (hL : zLy M0 A dShL dRf) (hrec : ∀ s r, rec s = some r → ∀ d, L ≤ d → zEi g d mP_readValue [va_rf (some (A + 25)), va_rf s.1, .int s.2.1, .int s.2.2.1, .int s.2.2.2.1] (zmm M0 A 32 s.2.2.2.2) (fun v Mq => v = bI r.1 ∧ Mq = zmm M0 A 32 r.2)) (hd : L + 2 ≤ d)  : ∀ n s, qfix (FP_readComponents_21 N M0 rec l2 l3 l4) n s = some (r, J1) → zG g d mP_readComponents (zPq (rB r) (zmm M0 A 32 J1)) (zmm M0 A 32 s.2) 21 [(0, va_rf (some (A + 25))), (2, .int l2), (3, .int l3), (4, .int l4), (5, va_rf s.1)] [] := by
  refine qfix_sound (fun K21 hK21 s h => ?_)
  unfold FP_readComponents_21 at h
  refine zi_aload 4 (dq dP_readComponents 12 rfl) rfl ?_
  refine zi_ifnull (tgt := 112) (dq dP_readComponents 13 rfl) (by decide) (fun c => ?_) (fun _ c => ?_)
  · have h := q_t c h
    refine zi_iconst (v := 1) (dq dP_readComponents 58 rfl) (by decide) ?_
    exact zi_ireturn rfl (by decide) (dq dP_readComponents 59 rfl) (q_rb (b := true) h)
  · have h := q_f (by rw [c]; exact nofun) h
    refine zi_aload_n 0 (dq dP_readComponents 14 rfl) rfl ?_
    refine ri_getr (zLs hL 25 rfl) (zLr hL 11 rfl) fP_15 (dq dP_readComponents 15 rfl) ?_
    refine ri_geti (zLs hL 16 rfl) (by decide) fP_128 (dq dP_readComponents 16 rfl) ?_
    refine zi_istC (lv' := [(6, _), (0, _), (2, _), (3, _), (4, _), (5, _)]) (dq dP_readComponents 17 rfl) (by decide) (by simp [z_cr, z_ci]) rfl ?_
    refine zi_iload 4 (dq dP_readComponents 18 rfl) rfl ?_
    refine zi_aload 5 (dq dP_readComponents 19 rfl) rfl ?_
    obtain ⟨o2, eo2, ho2, h⟩ := q_o h
    refine zi_rc0 eo2 ?_
    refine ti_geti (zag_d hL _) ho2 (by decide) fP_131 (dq dP_readComponents 20 rfl) ?_
    refine zi_ishr (dq dP_readComponents 21 rfl) ?_
    refine zi_iconst (v := 1) (dq dP_readComponents 22 rfl) (by decide) ?_
    refine zi_iand (dq dP_readComponents 23 rfl) ?_
    refine zi_if_ne (tgt := 63) (dq dP_readComponents 24 rfl) (by decide) (fun c => ?_) (fun c => ?_)
    · have h := q_f c h
      refine zi_aload_n 1 (dq dP_readComponents 33 rfl) rfl ?_
      refine zi_aload 5 (dq dP_readComponents 34 rfl) rfl ?_
      obtain ⟨o3, eo3, ho3, h⟩ := q_o h
      refine zi_rc0 eo3 ?_
      refine ti_getr (zag_d hL _) ho3 (by decide) fP_140 (dq dP_readComponents 35 rfl) ?_
      refine zi_iload_n 2 (dq dP_readComponents 36 rfl) rfl ?_
      refine zi_aload 5 (dq dP_readComponents 37 rfl) rfl ?_
      obtain ⟨o4, eo4, ho4, h⟩ := q_o h
      refine zi_rc0 eo4 ?_
      refine ti_geti (zag_d hL _) ho4 (by decide) fP_131 (dq dP_readComponents 38 rfl) ?_
      refine zi_iload_n 3 (dq dP_readComponents 39 rfl) rfl ?_
      refine zi_iconst (v := 1) (dq dP_readComponents 40 rfl) (by decide) ?_
      refine zi_iadd (dq dP_readComponents 41 rfl) ?_
      obtain ⟨v5, J6, hv5, h⟩ := q_b h
      refine zi_cVi4 (hrec _ _ hv5 (d - 1) (by omega)) wP_readValue aP_32 iP_readValue sP_readValue (by omega) (zLs hL 25 rfl) rfl (Nat.le_of_ble_eq_true rfl) (dq dP_readComponents 42 rfl) (fun _ _ hh => ?_)
      obtain ⟨rfl, rfl⟩ := hh
      refine zi_if_eq (tgt := 100) (dq dP_readComponents 43 rfl) (by decide) (fun c => ?_) (fun c => ?_)
      · have h := q_t c h
        refine zi_iconst (v := 0) (dq dP_readComponents 52 rfl) (by decide) ?_
        exact zi_ireturn rfl (by decide) (dq dP_readComponents 53 rfl) (q_rb (b := false) h)
      · have h := q_f c h
        refine zi_aload_n 1 (dq dP_readComponents 44 rfl) rfl ?_
        refine ri_getr (zLs hL 25 rfl) (zLr hL 11 rfl) fP_15 (dq dP_readComponents 45 rfl) ?_
        refine zi_aload 5 (dq dP_readComponents 46 rfl) rfl ?_
        refine zi_iload_n 2 (dq dP_readComponents 47 rfl) rfl ?_
        refine zi_iload 0 (dq dP_readComponents 48 rfl) rfl ?_
        refine zi_iconst (v := 1) (dq dP_readComponents 49 rfl) (by decide) ?_
        obtain ⟨v7, J8, hv7, h⟩ := q_b h
        refine zi_cVi4 (SV_takeComponent (dLy_v (Or.inr rfl) hL) (by decide) (zag_d hL) hv7 (d := d - 1) (by omega)) wV_takeComponent aP_143 iV_takeComponent sV_takeComponent (by omega) (zLs hL 16 rfl) rfl (Nat.le_of_ble_eq_true rfl) (dq dP_readComponents 50 rfl) (fun _ _ hh => ?_)
        obtain ⟨rfl, rfl⟩ := hh
        refine zi_if_ne (tgt := 102) (dq dP_readComponents 51 rfl) (by decide) (fun c => ?_) (fun c => ?_)
        · have h := q_f c h
          refine zi_aload 5 (dq dP_readComponents 54 rfl) rfl ?_
          obtain ⟨o9, eo9, ho9, h⟩ := q_o h
          refine zi_rc0 eo9 ?_
          refine ti_getr (zag_d hL _) ho9 (by decide) fP_147 (dq dP_readComponents 55 rfl) ?_
          refine zi_astC (lv' := [(5, _), (6, _), (0, _), (2, _), (3, _), (4, _)]) (dq dP_readComponents 56 rfl) (by decide) (by simp [z_cr, z_ci]) rfl ?_
          refine zi_goto (tgt := 21) (dq dP_readComponents 57 rfl) (by decide) ?_
          exact zG_lv (zs_c 2 rfl (zs_c 3 rfl (zs_c 4 rfl (zs_c 5 rfl (zs_c 0 rfl zs_n))))) (hK21 _ h)
        · have h := q_t c h
          refine zi_iconst (v := 0) (dq dP_readComponents 52 rfl) (by decide) ?_
          exact zi_ireturn rfl (by decide) (dq dP_readComponents 53 rfl) (q_rb (b := false) h)
    · have h := q_t c h
      refine zi_aload_n 1 (dq dP_readComponents 25 rfl) rfl ?_
      refine ri_getr (zLs hL 25 rfl) (zLr hL 11 rfl) fP_15 (dq dP_readComponents 26 rfl) ?_
      refine zi_aload 5 (dq dP_readComponents 27 rfl) rfl ?_
      refine zi_iload_n 2 (dq dP_readComponents 28 rfl) rfl ?_
      obtain ⟨v11, J12, hv11, h⟩ := q_b h
      refine zi_cVi2 (SV_leaveOutComponent (dLy_v (Or.inr rfl) hL) (by decide) (zag_d hL) hv11 (d := d - 1) (by omega)) wV_leaveOutComponent aP_136 iV_leaveOutComponent sV_leaveOutComponent (by omega) (zLs hL 16 rfl) rfl (Nat.le_of_ble_eq_true rfl) (dq dP_readComponents 29 rfl) (fun _ _ hh => ?_)
      obtain ⟨rfl, rfl⟩ := hh
      refine zi_if_ne (tgt := 102) (dq dP_readComponents 30 rfl) (by decide) (fun c => ?_) (fun c => ?_)
      · have h := q_f c h
        refine zi_aload 5 (dq dP_readComponents 54 rfl) rfl ?_
        obtain ⟨o13, eo13, ho13, h⟩ := q_o h
        refine zi_rc0 eo13 ?_
        refine ti_getr (zag_d hL _) ho13 (by decide) fP_147 (dq dP_readComponents 55 rfl) ?_
        refine zi_astC (lv' := [(5, _), (6, _), (0, _), (2, _), (3, _), (4, _)]) (dq dP_readComponents 56 rfl) (by decide) (by simp [z_cr, z_ci]) rfl ?_
        refine zi_goto (tgt := 21) (dq dP_readComponents 57 rfl) (by decide) ?_
        exact zG_lv (zs_c 2 rfl (zs_c 3 rfl (zs_c 4 rfl (zs_c 5 rfl (zs_c 0 rfl zs_n))))) (hK21 _ h)
      · have h := q_t c h
        refine zi_iconst (v := 0) (dq dP_readComponents 31 rfl) (by decide) ?_
        exact zi_ireturn rfl (by decide) (dq dP_readComponents 32 rfl) (q_rb (b := false) h)
def FP_readComponents (N : Nat) (M0 : zM) (rec : (Option Nat × Int32 × Int32 × Int32 × zJ) → Option (Bool × zJ)) (l1 : Option Nat) (l2 : Int32) (l3 : Int32) (J : zJ) : Option (Bool × zJ) :=
  qb (FP_takePresence N M0 l1 J) fun v1 J2 =>
  if v1 = ((-1)) then
    some (false, J2)
  else
    qo l1 M0 6 fun o3 =>
    let y4 := zr M0 o3 10
    qfix (FP_readComponents_21 N M0 rec l2 l3 v1) N (y4, J2)
theorem SP_readComponents {g : zg} {d N : Nat} {M0 : zM} {A : Nat} {rec : (Option Nat × Int32 × Int32 × Int32 × zJ) → Option (Bool × zJ)} {L : Nat} {r : Bool} {J1 : zJ} {J : zJ} {l1 : Option Nat} {l2 : Int32} {l3 : Int32} (hL : zLy M0 A dShL dRf) (hrec : ∀ s r, rec s = some r → ∀ d, L ≤ d → zEi g d mP_readValue [va_rf (some (A + 25)), va_rf s.1, .int s.2.1, .int s.2.2.1, .int s.2.2.2.1] (zmm M0 A 32 s.2.2.2.2) (fun v Mq => v = bI r.1 ∧ Mq = zmm M0 A 32 r.2)) (h : FP_readComponents N M0 rec l1 l2 l3 J = some (r, J1)) (hd : L + 2 ≤ d) : zEi g d mP_readComponents [va_rf (some (A + 25)), va_rf l1, .int l2, .int l3] (zmm M0 A 32 J) (fun v Mq => v = bI r ∧ Mq = zmm M0 A 32 J1) := by
  unfold FP_readComponents at h
  refine zEb_q (r := r) (lv := [(0, va_rf (some (A + 25))), (1, va_rf l1), (2, .int l2), (3, .int l3)]) ⟨by decide +kernel, by decide, by decide +kernel⟩ (by simp [z_cr, z_ci]) (Nat.le_of_ble_eq_true rfl) rfl ?_
  refine zi_aload_n 0 (dq dP_readComponents 0 rfl) rfl ?_
  refine zi_aload_n 1 (dq dP_readComponents 1 rfl) rfl ?_
  obtain ⟨v1, J2, hv1, h⟩ := q_b h
  refine zi_cVi1 (SP_takePresence hL hv1 (d := d - 1) (by omega)) wP_takePresence aP_121 iP_takePresence sP_takePresence (by omega) (zLs hL 25 rfl) rfl (Nat.le_of_ble_eq_true rfl) (dq dP_readComponents 2 rfl) (fun _ _ hh => ?_)
  obtain ⟨rfl, rfl⟩ := hh
  refine zi_istC (lv' := [(4, _), (0, _), (1, _), (2, _), (3, _)]) (dq dP_readComponents 3 rfl) (by decide) (by simp [z_cr, z_ci]) rfl ?_
  refine zi_iload 0 (dq dP_readComponents 4 rfl) rfl ?_
  refine zi_iconst (v := (-1)) (dq dP_readComponents 5 rfl) (by decide) ?_
  refine zi_icmp_ne (tgt := 15) (dq dP_readComponents 6 rfl) (by decide) (fun c => ?_) (fun c => ?_)
  · have h := q_f c h
    refine zi_aload_n 2 (dq dP_readComponents 9 rfl) rfl ?_
    obtain ⟨o3, eo3, ho3, h⟩ := q_o h
    refine zi_rc0 eo3 ?_
    refine ti_getr (zag_d hL _) ho3 (by decide) fP_124 (dq dP_readComponents 10 rfl) ?_
    refine zi_astC (lv' := [(5, _), (4, _), (0, _), (1, _), (2, _), (3, _)]) (dq dP_readComponents 11 rfl) (by decide) (by simp [z_cr, z_ci]) rfl ?_
    exact zG_lv (zs_c 2 rfl (zs_c 4 rfl (zs_c 5 rfl (zs_c 1 rfl (zs_c 0 rfl zs_n))))) (SP_readComponents_21 hL hrec hd  _ _ h)
  · have h := q_t c h
    refine zi_iconst (v := 0) (dq dP_readComponents 7 rfl) (by decide) ?_
    exact zi_ireturn rfl (by decide) (dq dP_readComponents 8 rfl) (q_rb (b := false) h)
def FP_takeByte (N : Nat) (M0 : zM) (J : zJ) : Option (Int32 × zJ) :=
  qb (FP_align N M0 J) fun v1 J2 =>
  if (bI v1) = 0 then
    some (((-1)), J2)
  else
    qb (FP_takeBits N M0 8 J2) fun v3 J4 =>
    some (v3, J4)
theorem SP_takeByte {g : zg} {d N : Nat} {M0 : zM} {A : Nat} {r : Int32} {J1 : zJ} {J : zJ}  (hL : zLy M0 A dShL dRf) (h : FP_takeByte N M0 J = some (r, J1)) (hd : 1 ≤ d) : zEi g d mP_takeByte [va_rf (some (A + 25))] (zmm M0 A 32 J) (fun v Mq => v = r ∧ Mq = zmm M0 A 32 J1) := by
  unfold FP_takeByte at h
  refine zEi_q (r := r) (lv := [(0, va_rf (some (A + 25)))]) ⟨by decide +kernel, by decide, by decide +kernel⟩ (by simp [z_cr, z_ci]) (Nat.le_of_ble_eq_true rfl) rfl ?_
  refine zi_aload_n 0 (dq dP_takeByte 0 rfl) rfl ?_
  obtain ⟨v1, J2, hv1, h⟩ := q_b h
  refine zi_cVi0 (SP_align hL hv1 (d := d - 1) (by omega)) wP_align aP_40 iP_align sP_align (by omega) (zLs hL 25 rfl) rfl (Nat.le_of_ble_eq_true rfl) (dq dP_takeByte 1 rfl) (fun _ _ hh => ?_)
  obtain ⟨rfl, rfl⟩ := hh
  refine zi_if_eq (tgt := 16) (dq dP_takeByte 2 rfl) (by decide) (fun c => ?_) (fun c => ?_)
  · have h := q_t c h
    refine zi_iconst (v := (-1)) (dq dP_takeByte 7 rfl) (by decide) ?_
    exact zi_ireturn rfl rfl (dq dP_takeByte 8 rfl) (q_ri h)
  · have h := q_f c h
    refine zi_aload_n 0 (dq dP_takeByte 3 rfl) rfl ?_
    refine zi_bipush (v := 8) (dq dP_takeByte 4 rfl) (by decide) ?_
    obtain ⟨v3, J4, hv3, h⟩ := q_b h
    refine zi_cVi1 (SP_takeBits hL hv3 (d := d - 1) (by omega)) wP_takeBits aP_36 iP_takeBits sP_takeBits (by omega) (zLs hL 25 rfl) rfl (Nat.le_of_ble_eq_true rfl) (dq dP_takeByte 5 rfl) (fun _ _ hh => ?_)
    obtain ⟨rfl, rfl⟩ := hh
    refine zi_goto (tgt := 17) (dq dP_takeByte 6 rfl) (by decide) ?_
    exact zi_ireturn rfl rfl (dq dP_takeByte 8 rfl) (q_ri h)
def FP_takeCount (N : Nat) (M0 : zM) (l1 : Option Nat) (J : zJ) : Option (Int32 × zJ) :=
  qo l1 M0 6 fun o1 =>
  if (zi M0 o1 1) = 0 then
    qb (FP_takeByte N M0 J) fun v7 J8 =>
    if v7 ≤ 127 then
      some (v7, J8)
    else
      some (((-1)), J8)
  else
    qo l1 M0 6 fun o2 =>
    qo l1 M0 6 fun o3 =>
    qb (FP_takeNumber N M0 ((zi M0 o2 3) - (zi M0 o3 2)) J) fun v4 J5 =>
    if v4 = ((-1)) then
      some (((-1)), J5)
    else
      qo l1 M0 6 fun o6 =>
      some (((zi M0 o6 2) + v4), J5)
theorem SP_takeCount {g : zg} {d N : Nat} {M0 : zM} {A : Nat} {r : Int32} {J1 : zJ} {J : zJ} {l1 : Option Nat} (hL : zLy M0 A dShL dRf) (h : FP_takeCount N M0 l1 J = some (r, J1)) (hd : 2 ≤ d) : zEi g d mP_takeCount [va_rf (some (A + 25)), va_rf l1] (zmm M0 A 32 J) (fun v Mq => v = r ∧ Mq = zmm M0 A 32 J1) := by
  unfold FP_takeCount at h
  refine zEi_q (r := r) (lv := [(0, va_rf (some (A + 25))), (1, va_rf l1)]) ⟨by decide +kernel, by decide, by decide +kernel⟩ (by simp [z_cr, z_ci]) (Nat.le_of_ble_eq_true rfl) rfl ?_
  refine zi_aload_n 1 (dq dP_takeCount 0 rfl) rfl ?_
  obtain ⟨o1, eo1, ho1, h⟩ := q_o h
  refine zi_rc0 eo1 ?_
  refine ti_geti (zag_d hL _) ho1 (by decide) fP_62 (dq dP_takeCount 1 rfl) ?_
  refine zi_if_ne (tgt := 24) (dq dP_takeCount 2 rfl) (by decide) (fun c => ?_) (fun c => ?_)
  · have h := q_f c h
    refine zi_aload_n 0 (dq dP_takeCount 13 rfl) rfl ?_
    refine zi_aload_n 1 (dq dP_takeCount 14 rfl) rfl ?_
    obtain ⟨o2, eo2, ho2, h⟩ := q_o h
    refine zi_rc0 eo2 ?_
    refine ti_geti (zag_d hL _) ho2 (by decide) fP_87 (dq dP_takeCount 15 rfl) ?_
    refine zi_aload_n 1 (dq dP_takeCount 16 rfl) rfl ?_
    obtain ⟨o3, eo3, ho3, h⟩ := q_o h
    refine zi_rc0 eo3 ?_
    refine ti_geti (zag_d hL _) ho3 (by decide) fP_90 (dq dP_takeCount 17 rfl) ?_
    refine zi_isub (dq dP_takeCount 18 rfl) ?_
    obtain ⟨v4, J5, hv4, h⟩ := q_b h
    refine zi_cVi1 (SP_takeNumber hL hv4 (d := d - 1) (by omega)) wP_takeNumber aP_93 iP_takeNumber sP_takeNumber (by omega) (zLs hL 25 rfl) rfl (Nat.le_of_ble_eq_true rfl) (dq dP_takeCount 19 rfl) (fun _ _ hh => ?_)
    obtain ⟨rfl, rfl⟩ := hh
    refine zi_istC_n (lv' := [(2, _), (0, _), (1, _)]) (dq dP_takeCount 20 rfl) (by decide) (by simp [z_cr, z_ci]) rfl ?_
    refine zi_iload_n 0 (dq dP_takeCount 21 rfl) rfl ?_
    refine zi_iconst (v := (-1)) (dq dP_takeCount 22 rfl) (by decide) ?_
    refine zi_icmp_ne (tgt := 47) (dq dP_takeCount 23 rfl) (by decide) (fun c => ?_) (fun c => ?_)
    · have h := q_f c h
      refine zi_aload_n 2 (dq dP_takeCount 26 rfl) rfl ?_
      obtain ⟨o6, eo6, ho6, h⟩ := q_o h
      refine zi_rc0 eo6 ?_
      refine ti_geti (zag_d hL _) ho6 (by decide) fP_90 (dq dP_takeCount 27 rfl) ?_
      refine zi_iload_n 0 (dq dP_takeCount 28 rfl) rfl ?_
      refine zi_iadd (dq dP_takeCount 29 rfl) ?_
      exact zi_ireturn rfl rfl (dq dP_takeCount 30 rfl) (q_ri h)
    · have h := q_t c h
      refine zi_iconst (v := (-1)) (dq dP_takeCount 24 rfl) (by decide) ?_
      refine zi_goto (tgt := 53) (dq dP_takeCount 25 rfl) (by decide) ?_
      exact zi_ireturn rfl rfl (dq dP_takeCount 30 rfl) (q_ri h)
  · have h := q_t c h
    refine zi_aload_n 0 (dq dP_takeCount 3 rfl) rfl ?_
    obtain ⟨v7, J8, hv7, h⟩ := q_b h
    refine zi_cVi0 (SP_takeByte hL hv7 (d := d - 1) (by omega)) wP_takeByte aP_96 iP_takeByte sP_takeByte (by omega) (zLs hL 25 rfl) rfl (Nat.le_of_ble_eq_true rfl) (dq dP_takeCount 4 rfl) (fun _ _ hh => ?_)
    obtain ⟨rfl, rfl⟩ := hh
    refine zi_istC_n (lv' := [(2, _), (0, _), (1, _)]) (dq dP_takeCount 5 rfl) (by decide) (by simp [z_cr, z_ci]) rfl ?_
    refine zi_iload_n 0 (dq dP_takeCount 6 rfl) rfl ?_
    refine zi_bipush (v := 127) (dq dP_takeCount 7 rfl) (by decide) ?_
    refine zi_icmp_le (tgt := 22) (dq dP_takeCount 8 rfl) (by decide) (fun c => ?_) (fun c => ?_)
    · have h := q_t c h
      refine zi_iload_n 0 (dq dP_takeCount 11 rfl) rfl ?_
      exact zi_ireturn rfl rfl (dq dP_takeCount 12 rfl) (q_ri h)
    · have h := q_f c h
      refine zi_iconst (v := (-1)) (dq dP_takeCount 9 rfl) (by decide) ?_
      refine zi_goto (tgt := 23) (dq dP_takeCount 10 rfl) (by decide) ?_
      exact zi_ireturn rfl rfl (dq dP_takeCount 12 rfl) (q_ri h)
def FP_readItems_21 (N : Nat) (M0 : zM) (rec : (Option Nat × Int32 × Int32 × Int32 × zJ) → Option (Bool × zJ)) (l1 : Option Nat) (l2 : Int32) (l3 : Int32) (l4 : Int32) (K21 : (Int32 × zJ) → Option (Bool × zJ)) (s : Int32 × zJ) : Option (Bool × zJ) :=
  let l5 := s.1
  let J := s.2
  if l4 ≤ l5 then
    if l4 = ((-1)) then
      some (false, J)
    else
      some (true, J)
  else
    qo l1 M0 6 fun o1 =>
    qb (rec ((zr M0 o1 9), l2, l5, (l3 + 1), J)) fun v2 J3 =>
    if (bI v2) = 0 then
      some (false, J3)
    else
      let y4 := l5 + (1)
      K21 (y4, J3)
theorem SP_readItems_21 {g : zg} {d N : Nat} {M0 : zM} {A : Nat} {rec : (Option Nat × Int32 × Int32 × Int32 × zJ) → Option (Bool × zJ)} {L : Nat} {r : Bool} {J1 : zJ}  {l1 : Option Nat} {l2 : Int32} {l3 : Int32} {l4 : Int32} (hL : zLy M0 A dShL dRf) (hrec : ∀ s r, rec s = some r → ∀ d, L ≤ d → zEi g d mP_readValue [va_rf (some (A + 25)), va_rf s.1, .int s.2.1, .int s.2.2.1, .int s.2.2.2.1] (zmm M0 A 32 s.2.2.2.2) (fun v Mq => v = bI r.1 ∧ Mq = zmm M0 A 32 r.2)) (hd : L + 3 ≤ d)  : ∀ n s, qfix (FP_readItems_21 N M0 rec l1 l2 l3 l4) n s = some (r, J1) → zG g d mP_readItems (zPq (rB r) (zmm M0 A 32 J1)) (zmm M0 A 32 s.2) 21 [(0, va_rf (some (A + 25))), (1, va_rf l1), (2, .int l2), (3, .int l3), (4, .int l4), (5, .int s.1)] [] := by
  refine qfix_sound (fun K21 hK21 s h => ?_)
  unfold FP_readItems_21 at h
  refine zi_iload 5 (dq dP_readItems 12 rfl) rfl ?_
  refine zi_iload 4 (dq dP_readItems 13 rfl) rfl ?_
  refine zi_icmp_ge (tgt := 53) (dq dP_readItems 14 rfl) (by decide) (fun c => ?_) (fun c => ?_)
  · have h := q_t c h
    refine zi_iload 4 (dq dP_readItems 29 rfl) rfl ?_
    refine zi_iconst (v := (-1)) (dq dP_readItems 30 rfl) (by decide) ?_
    refine zi_icmp_eq (tgt := 63) (dq dP_readItems 31 rfl) (by decide) (fun c => ?_) (fun c => ?_)
    · have h := q_t c h
      refine zi_iconst (v := 0) (dq dP_readItems 34 rfl) (by decide) ?_
      exact zi_ireturn rfl (by decide) (dq dP_readItems 35 rfl) (q_rb (b := false) h)
    · have h := q_f c h
      refine zi_iconst (v := 1) (dq dP_readItems 32 rfl) (by decide) ?_
      refine zi_goto (tgt := 64) (dq dP_readItems 33 rfl) (by decide) ?_
      exact zi_ireturn rfl (by decide) (dq dP_readItems 35 rfl) (q_rb (b := true) h)
  · have h := q_f c h
    refine zi_aload_n 0 (dq dP_readItems 15 rfl) rfl ?_
    refine zi_aload_n 1 (dq dP_readItems 16 rfl) rfl ?_
    obtain ⟨o1, eo1, ho1, h⟩ := q_o h
    refine zi_rc0 eo1 ?_
    refine ti_getr (zag_d hL _) ho1 (by decide) fP_49 (dq dP_readItems 17 rfl) ?_
    refine zi_iload_n 2 (dq dP_readItems 18 rfl) rfl ?_
    refine zi_iload 5 (dq dP_readItems 19 rfl) rfl ?_
    refine zi_iload_n 3 (dq dP_readItems 20 rfl) rfl ?_
    refine zi_iconst (v := 1) (dq dP_readItems 21 rfl) (by decide) ?_
    refine zi_iadd (dq dP_readItems 22 rfl) ?_
    obtain ⟨v2, J3, hv2, h⟩ := q_b h
    refine zi_cVi4 (hrec _ _ hv2 (d - 1) (by omega)) wP_readValue aP_32 iP_readValue sP_readValue (by omega) (zLs hL 25 rfl) rfl (Nat.le_of_ble_eq_true rfl) (dq dP_readItems 23 rfl) (fun _ _ hh => ?_)
    obtain ⟨rfl, rfl⟩ := hh
    refine zi_if_ne (tgt := 47) (dq dP_readItems 24 rfl) (by decide) (fun c => ?_) (fun c => ?_)
    · have h := q_f c h
      refine zi_iincC (v := _ + (1)) (lv' := [(5, _), (0, _), (1, _), (2, _), (3, _), (4, _)]) 5 (dq dP_readItems 27 rfl) rfl rfl (by decide) (by simp [z_cr, z_ci]) rfl ?_
      refine zi_goto (tgt := 21) (dq dP_readItems 28 rfl) (by decide) ?_
      exact zG_lv (zs_c 1 rfl (zs_c 2 rfl (zs_c 3 rfl (zs_c 4 rfl (zs_c 5 rfl (zs_c 0 rfl zs_n)))))) (hK21 _ h)
    · have h := q_t c h
      refine zi_iconst (v := 0) (dq dP_readItems 25 rfl) (by decide) ?_
      exact zi_ireturn rfl (by decide) (dq dP_readItems 26 rfl) (q_rb (b := false) h)
def FP_readItems (N : Nat) (M0 : zM) (rec : (Option Nat × Int32 × Int32 × Int32 × zJ) → Option (Bool × zJ)) (l1 : Option Nat) (l2 : Int32) (l3 : Int32) (J : zJ) : Option (Bool × zJ) :=
  qb (FP_takeCount N M0 l1 J) fun v1 J2 =>
  qk (qi l2 100) <|
  let J4 := zu J2 18 l2.toNatClampNeg v1
  qfix (FP_readItems_21 N M0 rec l1 l2 l3 v1) N (0, J4)
theorem SP_readItems {g : zg} {d N : Nat} {M0 : zM} {A : Nat} {rec : (Option Nat × Int32 × Int32 × Int32 × zJ) → Option (Bool × zJ)} {L : Nat} {r : Bool} {J1 : zJ} {J : zJ} {l1 : Option Nat} {l2 : Int32} {l3 : Int32} (hL : zLy M0 A dShL dRf) (hrec : ∀ s r, rec s = some r → ∀ d, L ≤ d → zEi g d mP_readValue [va_rf (some (A + 25)), va_rf s.1, .int s.2.1, .int s.2.2.1, .int s.2.2.2.1] (zmm M0 A 32 s.2.2.2.2) (fun v Mq => v = bI r.1 ∧ Mq = zmm M0 A 32 r.2)) (h : FP_readItems N M0 rec l1 l2 l3 J = some (r, J1)) (hd : L + 3 ≤ d) : zEi g d mP_readItems [va_rf (some (A + 25)), va_rf l1, .int l2, .int l3] (zmm M0 A 32 J) (fun v Mq => v = bI r ∧ Mq = zmm M0 A 32 J1) := by
  unfold FP_readItems at h
  refine zEb_q (r := r) (lv := [(0, va_rf (some (A + 25))), (1, va_rf l1), (2, .int l2), (3, .int l3)]) ⟨by decide +kernel, by decide, by decide +kernel⟩ (by simp [z_cr, z_ci]) (Nat.le_of_ble_eq_true rfl) rfl ?_
  refine zi_aload_n 0 (dq dP_readItems 0 rfl) rfl ?_
  refine zi_aload_n 1 (dq dP_readItems 1 rfl) rfl ?_
  obtain ⟨v1, J2, hv1, h⟩ := q_b h
  refine zi_cVi1 (SP_takeCount hL hv1 (d := d - 1) (by omega)) wP_takeCount aP_110 iP_takeCount sP_takeCount (by omega) (zLs hL 25 rfl) rfl (Nat.le_of_ble_eq_true rfl) (dq dP_readItems 2 rfl) (fun _ _ hh => ?_)
  obtain ⟨rfl, rfl⟩ := hh
  refine zi_istC (lv' := [(4, _), (0, _), (1, _), (2, _), (3, _)]) (dq dP_readItems 3 rfl) (by decide) (by simp [z_cr, z_ci]) rfl ?_
  refine zi_aload_n 1 (dq dP_readItems 4 rfl) rfl ?_
  refine ri_getr (zLs hL 25 rfl) (zLr hL 11 rfl) fP_15 (dq dP_readItems 5 rfl) ?_
  refine ri_getr (zLs hL 16 rfl) (zLr hL 22 rfl) fP_59 (dq dP_readItems 6 rfl) ?_
  refine zi_iload_n 3 (dq dP_readItems 7 rfl) rfl ?_
  refine zi_iload 0 (dq dP_readItems 8 rfl) rfl ?_
  obtain ⟨c3, h⟩ := q_k h
  refine ri_iast (zLs hL 18 rfl) (by decide) rfl c3 (dq dP_readItems 9 rfl) ?_
  refine zi_iconst (v := 0) (dq dP_readItems 10 rfl) (by decide) ?_
  refine zi_istC (lv' := [(5, _), (4, _), (0, _), (1, _), (2, _), (3, _)]) (dq dP_readItems 11 rfl) (by decide) (by simp [z_cr, z_ci]) rfl ?_
  exact zG_lv (zs_c 2 rfl (zs_c 3 rfl (zs_c 4 rfl (zs_c 5 rfl (zs_c 1 rfl (zs_c 0 rfl zs_n)))))) (SP_readItems_21 hL hrec hd  _ _ h)
def FP_readOctets_34 (N : Nat) (M0 : zM) (l2 : Int32) (l3 : Int32) (K34 : (Int32 × zJ) → Option (Bool × zJ)) (s : Int32 × zJ) : Option (Bool × zJ) :=
  let l4 := s.1
  let J := s.2
  if l3 ≤ l4 then
    some (true, J)
  else
    qb (FP_takeBits N M0 8 J) fun v1 J2 =>
    if v1 = ((-1)) then
      some (false, J2)
    else
      qb (FV_addOctet N M0 16 l2 v1 J2) fun v3 J4 =>
      if (bI v3) = 0 then
        some (false, J4)
      else
        let y5 := l4 + (1)
        K34 (y5, J4)
theorem SP_readOctets_34 {g : zg} {d N : Nat} {M0 : zM} {A : Nat} {r : Bool} {J1 : zJ}  {l2 : Int32} {l3 : Int32} (hL : zLy M0 A dShL dRf) (hd : 3 ≤ d)  : ∀ n s, qfix (FP_readOctets_34 N M0 l2 l3) n s = some (r, J1) → zG g d mP_readOctets (zPq (rB r) (zmm M0 A 32 J1)) (zmm M0 A 32 s.2) 34 [(0, va_rf (some (A + 25))), (2, .int l2), (3, .int l3), (4, .int s.1)] [] := by
  refine qfix_sound (fun K34 hK34 s h => ?_)
  unfold FP_readOctets_34 at h
  refine zi_iload 3 (dq dP_readOctets 19 rfl) rfl ?_
  refine zi_iload_n 2 (dq dP_readOctets 20 rfl) rfl ?_
  refine zi_icmp_ge (tgt := 75) (dq dP_readOctets 21 rfl) (by decide) (fun c => ?_) (fun c => ?_)
  · have h := q_t c h
    refine zi_iconst (v := 1) (dq dP_readOctets 39 rfl) (by decide) ?_
    exact zi_ireturn rfl (by decide) (dq dP_readOctets 40 rfl) (q_rb (b := true) h)
  · have h := q_f c h
    refine zi_aload_n 0 (dq dP_readOctets 22 rfl) rfl ?_
    refine zi_bipush (v := 8) (dq dP_readOctets 23 rfl) (by decide) ?_
    obtain ⟨v1, J2, hv1, h⟩ := q_b h
    refine zi_cVi1 (SP_takeBits hL hv1 (d := d - 1) (by omega)) wP_takeBits aP_36 iP_takeBits sP_takeBits (by omega) (zLs hL 25 rfl) rfl (Nat.le_of_ble_eq_true rfl) (dq dP_readOctets 24 rfl) (fun _ _ hh => ?_)
    obtain ⟨rfl, rfl⟩ := hh
    refine zi_istC (lv' := [(5, _), (0, _), (2, _), (3, _), (4, _)]) (dq dP_readOctets 25 rfl) (by decide) (by simp [z_cr, z_ci]) rfl ?_
    refine zi_iload 0 (dq dP_readOctets 26 rfl) rfl ?_
    refine zi_iconst (v := (-1)) (dq dP_readOctets 27 rfl) (by decide) ?_
    refine zi_icmp_eq (tgt := 67) (dq dP_readOctets 28 rfl) (by decide) (fun c => ?_) (fun c => ?_)
    · have h := q_t c h
      refine zi_iconst (v := 0) (dq dP_readOctets 35 rfl) (by decide) ?_
      exact zi_ireturn rfl (by decide) (dq dP_readOctets 36 rfl) (q_rb (b := false) h)
    · have h := q_f c h
      refine zi_aload_n 1 (dq dP_readOctets 29 rfl) rfl ?_
      refine ri_getr (zLs hL 25 rfl) (zLr hL 11 rfl) fP_15 (dq dP_readOctets 30 rfl) ?_
      refine zi_iload_n 2 (dq dP_readOctets 31 rfl) rfl ?_
      refine zi_iload 0 (dq dP_readOctets 32 rfl) rfl ?_
      obtain ⟨v3, J4, hv3, h⟩ := q_b h
      refine zi_cVi2 (SV_addOctet (dLy_v (Or.inr rfl) hL) (by decide) (zag_d hL) hv3 (d := d - 1) (by omega)) wV_addOctet aP_117 iV_addOctet sV_addOctet (by omega) (zLs hL 16 rfl) rfl (Nat.le_of_ble_eq_true rfl) (dq dP_readOctets 33 rfl) (fun _ _ hh => ?_)
      obtain ⟨rfl, rfl⟩ := hh
      refine zi_if_ne (tgt := 69) (dq dP_readOctets 34 rfl) (by decide) (fun c => ?_) (fun c => ?_)
      · have h := q_f c h
        refine zi_iincC (v := _ + (1)) (lv' := [(4, _), (5, _), (0, _), (2, _), (3, _)]) 4 (dq dP_readOctets 37 rfl) rfl rfl (by decide) (by simp [z_cr, z_ci]) rfl ?_
        refine zi_goto (tgt := 34) (dq dP_readOctets 38 rfl) (by decide) ?_
        exact zG_lv (zs_c 2 rfl (zs_c 3 rfl (zs_c 4 rfl (zs_c 0 rfl zs_n)))) (hK34 _ h)
      · have h := q_t c h
        refine zi_iconst (v := 0) (dq dP_readOctets 35 rfl) (by decide) ?_
        exact zi_ireturn rfl (by decide) (dq dP_readOctets 36 rfl) (q_rb (b := false) h)
def FP_readOctets (N : Nat) (M0 : zM) (l1 : Option Nat) (l2 : Int32) (J : zJ) : Option (Bool × zJ) :=
  qb (FP_takeCount N M0 l1 J) fun v1 J2 =>
  if v1 = ((-1)) then
    some (false, J2)
  else
    if v1 ≤ 0 then
      qfix (FP_readOctets_34 N M0 l2 v1) N (0, J2)
    else
      qo l1 M0 6 fun o3 =>
      qc (FT_isAlignedOctets N M0 o3) fun v4 =>
      if (bI v4) = 0 then
        qfix (FP_readOctets_34 N M0 l2 v1) N (0, J2)
      else
        qb (FP_align N M0 J2) fun v5 J6 =>
        if (bI v5) = 0 then
          some (false, J6)
        else
          qfix (FP_readOctets_34 N M0 l2 v1) N (0, J6)
theorem SP_readOctets {g : zg} {d N : Nat} {M0 : zM} {A : Nat} {r : Bool} {J1 : zJ} {J : zJ} {l1 : Option Nat} {l2 : Int32} (hL : zLy M0 A dShL dRf) (h : FP_readOctets N M0 l1 l2 J = some (r, J1)) (hd : 3 ≤ d) : zEi g d mP_readOctets [va_rf (some (A + 25)), va_rf l1, .int l2] (zmm M0 A 32 J) (fun v Mq => v = bI r ∧ Mq = zmm M0 A 32 J1) := by
  unfold FP_readOctets at h
  refine zEb_q (r := r) (lv := [(0, va_rf (some (A + 25))), (1, va_rf l1), (2, .int l2)]) ⟨by decide +kernel, by decide, by decide +kernel⟩ (by simp [z_cr, z_ci]) (Nat.le_of_ble_eq_true rfl) rfl ?_
  refine zi_aload_n 0 (dq dP_readOctets 0 rfl) rfl ?_
  refine zi_aload_n 1 (dq dP_readOctets 1 rfl) rfl ?_
  obtain ⟨v1, J2, hv1, h⟩ := q_b h
  refine zi_cVi1 (SP_takeCount hL hv1 (d := d - 1) (by omega)) wP_takeCount aP_110 iP_takeCount sP_takeCount (by omega) (zLs hL 25 rfl) rfl (Nat.le_of_ble_eq_true rfl) (dq dP_readOctets 2 rfl) (fun _ _ hh => ?_)
  obtain ⟨rfl, rfl⟩ := hh
  refine zi_istC_n (lv' := [(3, _), (0, _), (1, _), (2, _)]) (dq dP_readOctets 3 rfl) (by decide) (by simp [z_cr, z_ci]) rfl ?_
  refine zi_iload_n 0 (dq dP_readOctets 4 rfl) rfl ?_
  refine zi_iconst (v := (-1)) (dq dP_readOctets 5 rfl) (by decide) ?_
  refine zi_icmp_eq (tgt := 29) (dq dP_readOctets 6 rfl) (by decide) (fun c => ?_) (fun c => ?_)
  · have h := q_t c h
    refine zi_iconst (v := 0) (dq dP_readOctets 15 rfl) (by decide) ?_
    exact zi_ireturn rfl (by decide) (dq dP_readOctets 16 rfl) (q_rb (b := false) h)
  · have h := q_f c h
    refine zi_iload_n 0 (dq dP_readOctets 7 rfl) rfl ?_
    refine zi_if_le (tgt := 31) (dq dP_readOctets 8 rfl) (by decide) (fun c => ?_) (fun c => ?_)
    · have h := q_t c h
      refine zi_iconst (v := 0) (dq dP_readOctets 17 rfl) (by decide) ?_
      refine zi_istC (lv' := [(4, _), (3, _), (0, _), (1, _), (2, _)]) (dq dP_readOctets 18 rfl) (by decide) (by simp [z_cr, z_ci]) rfl ?_
      exact zG_lv (zs_c 2 rfl (zs_c 4 rfl (zs_c 1 rfl (zs_c 0 rfl zs_n)))) (SP_readOctets_34 hL hd  _ _ h)
    · have h := q_f c h
      refine zi_aload_n 2 (dq dP_readOctets 9 rfl) rfl ?_
      obtain ⟨o3, eo3, ho3, h⟩ := q_o h
      refine zi_rc0 eo3 ?_
      obtain ⟨v4, hv4, h⟩ := q_c h
      refine zi_cVi0 (ST_isAlignedOctets (zag_d hL _) ho3 hv4 (d := d - 1) (by omega)) wT_isAlignedOctets aP_114 iT_isAlignedOctets sT_isAlignedOctets (by omega) ((zag_d hL _) _ _ (by decide) ho3).1 rfl (Nat.le_of_ble_eq_true rfl) (dq dP_readOctets 10 rfl) (fun _ _ hh => ?_)
      obtain ⟨rfl, rfl⟩ := hh
      refine zi_if_eq (tgt := 31) (dq dP_readOctets 11 rfl) (by decide) (fun c => ?_) (fun c => ?_)
      · have h := q_t c h
        refine zi_iconst (v := 0) (dq dP_readOctets 17 rfl) (by decide) ?_
        refine zi_istC (lv' := [(4, _), (3, _), (0, _), (1, _), (2, _)]) (dq dP_readOctets 18 rfl) (by decide) (by simp [z_cr, z_ci]) rfl ?_
        exact zG_lv (zs_c 2 rfl (zs_c 4 rfl (zs_c 1 rfl (zs_c 0 rfl zs_n)))) (SP_readOctets_34 hL hd  _ _ h)
      · have h := q_f c h
        refine zi_aload_n 1 (dq dP_readOctets 12 rfl) rfl ?_
        obtain ⟨v5, J6, hv5, h⟩ := q_b h
        refine zi_cVi0 (SP_align hL hv5 (d := d - 1) (by omega)) wP_align aP_40 iP_align sP_align (by omega) (zLs hL 25 rfl) rfl (Nat.le_of_ble_eq_true rfl) (dq dP_readOctets 13 rfl) (fun _ _ hh => ?_)
        obtain ⟨rfl, rfl⟩ := hh
        refine zi_if_ne (tgt := 31) (dq dP_readOctets 14 rfl) (by decide) (fun c => ?_) (fun c => ?_)
        · have h := q_f c h
          refine zi_iconst (v := 0) (dq dP_readOctets 17 rfl) (by decide) ?_
          refine zi_istC (lv' := [(4, _), (3, _), (0, _), (1, _), (2, _)]) (dq dP_readOctets 18 rfl) (by decide) (by simp [z_cr, z_ci]) rfl ?_
          exact zG_lv (zs_c 2 rfl (zs_c 4 rfl (zs_c 1 rfl (zs_c 0 rfl zs_n)))) (SP_readOctets_34 hL hd  _ _ h)
        · have h := q_t c h
          refine zi_iconst (v := 0) (dq dP_readOctets 15 rfl) (by decide) ?_
          exact zi_ireturn rfl (by decide) (dq dP_readOctets 16 rfl) (q_rb (b := false) h)
def FP_readUnbounded (N : Nat) (M0 : zM) (l1 : Int32) (J : zJ) : Option (Bool × zJ) :=
  qb (FP_takeByte N M0 J) fun v1 J2 =>
  let y3 := (J2 25 2) >>> (3 &&& 31)
  if (J2 25 3) < ((J2 25 2) + (8 * v1)) then
    some (false, J2)
  else
    qb (FI_areBytesOfOne N y3 v1 J2) fun v4 J5 =>
    if (bI v4) = 0 then
      some (false, J5)
    else
      qb (FI_fromBytes N y3 v1 J5) fun v6 J7 =>
      qk (qi l1 100) <|
      let J9 := zu J7 18 l1.toNatClampNeg v6
      let J10 := zu J9 25 2 ((J9 25 2) + (8 * v1))
      some (true, J10)
theorem SP_readUnbounded {g : zg} {d N : Nat} {M0 : zM} {A : Nat} {r : Bool} {J1 : zJ} {J : zJ} {l1 : Int32} (hL : zLy M0 A dShL dRf) (h : FP_readUnbounded N M0 l1 J = some (r, J1)) (hd : 2 ≤ d) : zEi g d mP_readUnbounded [va_rf (some (A + 25)), .int l1] (zmm M0 A 32 J) (fun v Mq => v = bI r ∧ Mq = zmm M0 A 32 J1) := by
  unfold FP_readUnbounded at h
  refine zEb_q (r := r) (lv := [(0, va_rf (some (A + 25))), (1, .int l1)]) ⟨by decide +kernel, by decide, by decide +kernel⟩ (by simp [z_cr, z_ci]) (Nat.le_of_ble_eq_true rfl) rfl ?_
  refine zi_aload_n 0 (dq dP_readUnbounded 0 rfl) rfl ?_
  obtain ⟨v1, J2, hv1, h⟩ := q_b h
  refine zi_cVi0 (SP_takeByte hL hv1 (d := d - 1) (by omega)) wP_takeByte aP_96 iP_takeByte sP_takeByte (by omega) (zLs hL 25 rfl) rfl (Nat.le_of_ble_eq_true rfl) (dq dP_readUnbounded 1 rfl) (fun _ _ hh => ?_)
  obtain ⟨rfl, rfl⟩ := hh
  refine zi_istC_n (lv' := [(2, _), (0, _), (1, _)]) (dq dP_readUnbounded 2 rfl) (by decide) (by simp [z_cr, z_ci]) rfl ?_
  refine zi_aload_n 1 (dq dP_readUnbounded 3 rfl) rfl ?_
  refine ri_geti (zLs hL 25 rfl) (by decide) fP_19 (dq dP_readUnbounded 4 rfl) ?_
  refine zi_iconst (v := 3) (dq dP_readUnbounded 5 rfl) (by decide) ?_
  refine zi_ishr (dq dP_readUnbounded 6 rfl) ?_
  refine zi_istC_n (lv' := [(3, _), (2, _), (0, _), (1, _)]) (dq dP_readUnbounded 7 rfl) (by decide) (by simp [z_cr, z_ci]) rfl ?_
  refine zi_aload_n 2 (dq dP_readUnbounded 8 rfl) rfl ?_
  refine ri_geti (zLs hL 25 rfl) (by decide) fP_19 (dq dP_readUnbounded 9 rfl) ?_
  refine zi_bipush (v := 8) (dq dP_readUnbounded 10 rfl) (by decide) ?_
  refine zi_iload_n 1 (dq dP_readUnbounded 11 rfl) rfl ?_
  refine zi_imul (dq dP_readUnbounded 12 rfl) ?_
  refine zi_iadd (dq dP_readUnbounded 13 rfl) ?_
  refine zi_aload_n 2 (dq dP_readUnbounded 14 rfl) rfl ?_
  refine ri_geti (zLs hL 25 rfl) (by decide) fP_29 (dq dP_readUnbounded 15 rfl) ?_
  refine zi_icmp_gt (tgt := 40) (dq dP_readUnbounded 16 rfl) (by decide) (fun c => ?_) (fun c => ?_)
  · have h := q_t c h
    refine zi_iconst (v := 0) (dq dP_readUnbounded 23 rfl) (by decide) ?_
    exact zi_ireturn rfl (by decide) (dq dP_readUnbounded 24 rfl) (q_rb (b := false) h)
  · have h := q_f c h
    refine zi_aload_n 2 (dq dP_readUnbounded 17 rfl) rfl ?_
    refine ri_getr (zLs hL 25 rfl) (zLr hL 12 rfl) fP_9 (dq dP_readUnbounded 18 rfl) ?_
    refine zi_iload_n 0 (dq dP_readUnbounded 19 rfl) rfl ?_
    refine zi_iload_n 1 (dq dP_readUnbounded 20 rfl) rfl ?_
    obtain ⟨v4, J5, hv4, h⟩ := q_b h
    refine zi_cSi3 (SI_areBytesOfOne hL hv4 (d := d - 1) (by omega)) wI_areBytesOfOne aP_100 tI_areBytesOfOne (by omega) (Nat.le_of_ble_eq_true rfl) (dq dP_readUnbounded 21 rfl) (fun _ _ hh => ?_)
    obtain ⟨rfl, rfl⟩ := hh
    refine zi_if_ne (tgt := 42) (dq dP_readUnbounded 22 rfl) (by decide) (fun c => ?_) (fun c => ?_)
    · have h := q_f c h
      refine zi_aload_n 2 (dq dP_readUnbounded 25 rfl) rfl ?_
      refine ri_getr (zLs hL 25 rfl) (zLr hL 11 rfl) fP_15 (dq dP_readUnbounded 26 rfl) ?_
      refine ri_getr (zLs hL 16 rfl) (zLr hL 22 rfl) fP_59 (dq dP_readUnbounded 27 rfl) ?_
      refine zi_iload_n 3 (dq dP_readUnbounded 28 rfl) rfl ?_
      refine zi_aload_n 2 (dq dP_readUnbounded 29 rfl) rfl ?_
      refine ri_getr (zLs hL 25 rfl) (zLr hL 12 rfl) fP_9 (dq dP_readUnbounded 30 rfl) ?_
      refine zi_iload_n 0 (dq dP_readUnbounded 31 rfl) rfl ?_
      refine zi_iload_n 1 (dq dP_readUnbounded 32 rfl) rfl ?_
      obtain ⟨v6, J7, hv6, h⟩ := q_b h
      refine zi_cSi3 (SI_fromBytes hL hv6 (d := d - 1) (by omega)) wI_fromBytes aP_106 tI_fromBytes (by omega) (Nat.le_of_ble_eq_true rfl) (dq dP_readUnbounded 33 rfl) (fun _ _ hh => ?_)
      obtain ⟨rfl, rfl⟩ := hh
      obtain ⟨c8, h⟩ := q_k h
      refine ri_iast (zLs hL 18 rfl) (by decide) rfl c8 (dq dP_readUnbounded 34 rfl) ?_
      refine zi_aload_n 2 (dq dP_readUnbounded 35 rfl) rfl ?_
      refine zi_dup (dq dP_readUnbounded 36 rfl) (by first | rfl | exact z_cr _) ?_
      refine ri_geti (zLs hL 25 rfl) (by decide) fP_19 (dq dP_readUnbounded 37 rfl) ?_
      refine zi_bipush (v := 8) (dq dP_readUnbounded 38 rfl) (by decide) ?_
      refine zi_iload_n 1 (dq dP_readUnbounded 39 rfl) rfl ?_
      refine zi_imul (dq dP_readUnbounded 40 rfl) ?_
      refine zi_iadd (dq dP_readUnbounded 41 rfl) ?_
      refine ri_puti (zLs hL 25 rfl) (by decide) fP_19 (fun h => by cases h) rfl rfl (dq dP_readUnbounded 42 rfl) ?_
      refine zi_iconst (v := 1) (dq dP_readUnbounded 43 rfl) (by decide) ?_
      exact zi_ireturn rfl (by decide) (dq dP_readUnbounded 44 rfl) (q_rb (b := true) h)
    · have h := q_t c h
      refine zi_iconst (v := 0) (dq dP_readUnbounded 23 rfl) (by decide) ?_
      exact zi_ireturn rfl (by decide) (dq dP_readUnbounded 24 rfl) (q_rb (b := false) h)
def FP_readValue (N : Nat) (M0 : zM) (rec : (Option Nat × Int32 × Int32 × Int32 × zJ) → Option (Bool × zJ)) (l1 : Option Nat) (l2 : Int32) (l3 : Int32) (l4 : Int32) (J : zJ) : Option (Bool × zJ) :=
  if l1 = none then
    some (false, J)
  else
    if l4 < 6 then
      qo l1 M0 6 fun o1 =>
      if (zi M0 o1 0) = 10 then
        qo l1 M0 6 fun o24 =>
        qb (rec ((zr M0 o24 9), l2, l3, (l4 + 1), J)) fun v25 J26 =>
        some (v25, J26)
      else
        qo l1 M0 6 fun o2 =>
        qb (FV_addPart N M0 16 (zi M0 o2 0) l2 l3 J) fun v3 J4 =>
        if v3 = ((-1)) then
          some (false, J4)
        else
          qo l1 M0 6 fun o5 =>
          if (zi M0 o5 0) = 1 then
            qb (FP_takeBits N M0 1 J4) fun v6 J7 =>
            qk (qi v3 100) <|
            let J9 := zu J7 18 v3.toNatClampNeg v6
            qk (qi v3 100) <|
            if (J9 18 v3.toNatClampNeg) = ((-1)) then
              some (false, J9)
            else
              some (true, J9)
          else
            if (zi M0 o5 0) = 2 then
              qo l1 M0 6 fun o11 =>
              if (zi M0 o11 1) = 0 then
                qb (FP_readUnbounded N M0 v3 J4) fun v12 J13 =>
                some (v12, J13)
              else
                qb (FP_readBounded N M0 l1 v3 J4) fun v14 J15 =>
                some (v14, J15)
            else
              if (zi M0 o5 0) = 4 then
                qb (FP_readOctets N M0 l1 v3 J4) fun v16 J17 =>
                some (v16, J17)
              else
                if (zi M0 o5 0) = 6 then
                  qb (FP_readComponents N M0 rec l1 v3 l4 J4) fun v18 J19 =>
                  some (v18, J19)
                else
                  if (zi M0 o5 0) = 7 then
                    qb (FP_readItems N M0 rec l1 v3 l4 J4) fun v20 J21 =>
                    some (v20, J21)
                  else
                    if (zi M0 o5 0) = 9 then
                      qb (FP_readChoice N M0 rec l1 v3 l4 J4) fun v22 J23 =>
                      some (v22, J23)
                    else
                      some (true, J4)
    else
      some (false, J)
theorem SP_readValue {g : zg} {d N : Nat} {M0 : zM} {A : Nat} {rec : (Option Nat × Int32 × Int32 × Int32 × zJ) → Option (Bool × zJ)} {L : Nat} {r : Bool} {J1 : zJ} {J : zJ} {l1 : Option Nat} {l2 : Int32} {l3 : Int32} {l4 : Int32} (hL : zLy M0 A dShL dRf) (hrec : ∀ s r, rec s = some r → ∀ d, L ≤ d → zEi g d mP_readValue [va_rf (some (A + 25)), va_rf s.1, .int s.2.1, .int s.2.2.1, .int s.2.2.2.1] (zmm M0 A 32 s.2.2.2.2) (fun v Mq => v = bI r.1 ∧ Mq = zmm M0 A 32 r.2)) (h : FP_readValue N M0 rec l1 l2 l3 l4 J = some (r, J1)) (hd : L + 4 ≤ d) : zEi g d mP_readValue [va_rf (some (A + 25)), va_rf l1, .int l2, .int l3, .int l4] (zmm M0 A 32 J) (fun v Mq => v = bI r ∧ Mq = zmm M0 A 32 J1) := by
  unfold FP_readValue at h
  refine zEb_q (r := r) (lv := [(0, va_rf (some (A + 25))), (1, va_rf l1), (2, .int l2), (3, .int l3), (4, .int l4)]) ⟨by decide +kernel, by decide, by decide +kernel⟩ (by simp [z_cr, z_ci]) (Nat.le_of_ble_eq_true rfl) rfl ?_
  refine zi_aload_n 1 (dq dP_readValue 0 rfl) rfl ?_
  refine zi_ifnull (tgt := 11) (dq dP_readValue 1 rfl) (by decide) (fun c => ?_) (fun _ c => ?_)
  · have h := q_t c h
    refine zi_iconst (v := 0) (dq dP_readValue 5 rfl) (by decide) ?_
    exact zi_ireturn rfl (by decide) (dq dP_readValue 6 rfl) (q_rb (b := false) h)
  · have h := q_f (by rw [c]; exact nofun) h
    refine zi_iload 4 (dq dP_readValue 2 rfl) rfl ?_
    refine zi_bipush (v := 6) (dq dP_readValue 3 rfl) (by decide) ?_
    refine zi_icmp_lt (tgt := 13) (dq dP_readValue 4 rfl) (by decide) (fun c => ?_) (fun c => ?_)
    · have h := q_t c h
      refine zi_aload_n 1 (dq dP_readValue 7 rfl) rfl ?_
      obtain ⟨o1, eo1, ho1, h⟩ := q_o h
      refine zi_rc0 eo1 ?_
      refine ti_geti (zag_d hL _) ho1 (by decide) fP_44 (dq dP_readValue 8 rfl) ?_
      refine zi_bipush (v := 10) (dq dP_readValue 9 rfl) (by decide) ?_
      refine zi_icmp_ne (tgt := 37) (dq dP_readValue 10 rfl) (by decide) (fun c => ?_) (fun c => ?_)
      · have h := q_f c h
        refine zi_aload_n 0 (dq dP_readValue 21 rfl) rfl ?_
        refine ri_getr (zLs hL 25 rfl) (zLr hL 11 rfl) fP_15 (dq dP_readValue 22 rfl) ?_
        refine zi_aload_n 1 (dq dP_readValue 23 rfl) rfl ?_
        obtain ⟨o2, eo2, ho2, h⟩ := q_o h
        refine zi_rc0 eo2 ?_
        refine ti_geti (zag_d hL _) ho2 (by decide) fP_44 (dq dP_readValue 24 rfl) ?_
        refine zi_iload_n 2 (dq dP_readValue 25 rfl) rfl ?_
        refine zi_iload_n 3 (dq dP_readValue 26 rfl) rfl ?_
        obtain ⟨v3, J4, hv3, h⟩ := q_b h
        refine zi_cVi3 (SV_addPart (dLy_v (Or.inr rfl) hL) (by decide) (zag_d hL) hv3 (d := d - 1) (by omega)) wV_addPart aP_53 iV_addPart sV_addPart (by omega) (zLs hL 16 rfl) rfl (Nat.le_of_ble_eq_true rfl) (dq dP_readValue 27 rfl) (fun _ _ hh => ?_)
        obtain ⟨rfl, rfl⟩ := hh
        refine zi_istC (lv' := [(5, _), (0, _), (1, _), (2, _), (3, _), (4, _)]) (dq dP_readValue 28 rfl) (by decide) (by simp [z_cr, z_ci]) rfl ?_
        refine zi_iload 0 (dq dP_readValue 29 rfl) rfl ?_
        refine zi_iconst (v := (-1)) (dq dP_readValue 30 rfl) (by decide) ?_
        refine zi_icmp_ne (tgt := 60) (dq dP_readValue 31 rfl) (by decide) (fun c => ?_) (fun c => ?_)
        · have h := q_f c h
          refine zi_aload_n 2 (dq dP_readValue 34 rfl) rfl ?_
          obtain ⟨o5, eo5, ho5, h⟩ := q_o h
          refine zi_rc0 eo5 ?_
          refine ti_geti (zag_d hL _) ho5 (by decide) fP_44 (dq dP_readValue 35 rfl) ?_
          rcases q_w h with ⟨c1, h⟩ | ⟨c1, h⟩
          · refine zi_top c1 ?_
            refine zi_tableIn (tgt := 116) (dq dP_readValue 36 rfl) (by decide) (by decide) rfl (by decide) ?_
            refine zi_aload_n 1 (dq dP_readValue 37 rfl) rfl ?_
            refine ri_getr (zLs hL 25 rfl) (zLr hL 11 rfl) fP_15 (dq dP_readValue 38 rfl) ?_
            refine ri_getr (zLs hL 16 rfl) (zLr hL 22 rfl) fP_59 (dq dP_readValue 39 rfl) ?_
            refine zi_iload 0 (dq dP_readValue 40 rfl) rfl ?_
            refine zi_aload_n 1 (dq dP_readValue 41 rfl) rfl ?_
            refine zi_iconst (v := 1) (dq dP_readValue 42 rfl) (by decide) ?_
            obtain ⟨v6, J7, hv6, h⟩ := q_b h
            refine zi_cVi1 (SP_takeBits hL hv6 (d := d - 1) (by omega)) wP_takeBits aP_36 iP_takeBits sP_takeBits (by omega) (zLs hL 25 rfl) rfl (Nat.le_of_ble_eq_true rfl) (dq dP_readValue 43 rfl) (fun _ _ hh => ?_)
            obtain ⟨rfl, rfl⟩ := hh
            obtain ⟨c8, h⟩ := q_k h
            refine ri_iast (zLs hL 18 rfl) (by decide) rfl c8 (dq dP_readValue 44 rfl) ?_
            refine zi_aload_n 1 (dq dP_readValue 45 rfl) rfl ?_
            refine ri_getr (zLs hL 25 rfl) (zLr hL 11 rfl) fP_15 (dq dP_readValue 46 rfl) ?_
            refine ri_getr (zLs hL 16 rfl) (zLr hL 22 rfl) fP_59 (dq dP_readValue 47 rfl) ?_
            refine zi_iload 0 (dq dP_readValue 48 rfl) rfl ?_
            obtain ⟨c10, h⟩ := q_k h
            refine ri_iald (zLs hL 18 rfl) (by decide) rfl c10 (dq dP_readValue 49 rfl) ?_
            refine zi_iconst (v := (-1)) (dq dP_readValue 50 rfl) (by decide) ?_
            refine zi_icmp_eq (tgt := 149) (dq dP_readValue 51 rfl) (by decide) (fun c => ?_) (fun c => ?_)
            · have h := q_t c h
              refine zi_iconst (v := 0) (dq dP_readValue 54 rfl) (by decide) ?_
              exact zi_ireturn rfl (by decide) (dq dP_readValue 55 rfl) (q_rb (b := false) h)
            · have h := q_f c h
              refine zi_iconst (v := 1) (dq dP_readValue 52 rfl) (by decide) ?_
              refine zi_goto (tgt := 150) (dq dP_readValue 53 rfl) (by decide) ?_
              exact zi_ireturn rfl (by decide) (dq dP_readValue 55 rfl) (q_rb (b := true) h)
          rcases q_w h with ⟨c2, h⟩ | ⟨c2, h⟩
          · refine zi_top c2 ?_
            refine zi_tableIn (tgt := 151) (dq dP_readValue 36 rfl) (by decide) (by decide) rfl (by decide) ?_
            refine zi_aload_n 2 (dq dP_readValue 56 rfl) rfl ?_
            obtain ⟨o11, eo11, ho11, h⟩ := q_o h
            refine zi_rc0 eo11 ?_
            refine ti_geti (zag_d hL _) ho11 (by decide) fP_62 (dq dP_readValue 57 rfl) ?_
            refine zi_if_eq (tgt := 168) (dq dP_readValue 58 rfl) (by decide) (fun c => ?_) (fun c => ?_)
            · have h := q_t c h
              refine zi_aload_n 1 (dq dP_readValue 64 rfl) rfl ?_
              refine zi_iload 0 (dq dP_readValue 65 rfl) rfl ?_
              obtain ⟨v12, J13, hv12, h⟩ := q_b h
              refine zi_cVi1 (SP_readUnbounded hL hv12 (d := d - 1) (by omega)) wP_readUnbounded aP_70 iP_readUnbounded sP_readUnbounded (by omega) (zLs hL 25 rfl) rfl (Nat.le_of_ble_eq_true rfl) (dq dP_readValue 66 rfl) (fun _ _ hh => ?_)
              obtain ⟨rfl, rfl⟩ := hh
              exact zi_ireturn rfl (bI_nar _) (dq dP_readValue 67 rfl) (q_rb h)
            · have h := q_f c h
              refine zi_aload_n 1 (dq dP_readValue 59 rfl) rfl ?_
              refine zi_aload_n 2 (dq dP_readValue 60 rfl) rfl ?_
              refine zi_iload 0 (dq dP_readValue 61 rfl) rfl ?_
              obtain ⟨v14, J15, hv14, h⟩ := q_b h
              refine zi_cVi2 (SP_readBounded hL hv14 (d := d - 1) (by omega)) wP_readBounded aP_66 iP_readBounded sP_readBounded (by omega) (zLs hL 25 rfl) rfl (Nat.le_of_ble_eq_true rfl) (dq dP_readValue 62 rfl) (fun _ _ hh => ?_)
              obtain ⟨rfl, rfl⟩ := hh
              refine zi_goto (tgt := 174) (dq dP_readValue 63 rfl) (by decide) ?_
              exact zi_ireturn rfl (bI_nar _) (dq dP_readValue 67 rfl) (q_rb h)
          rcases q_w h with ⟨c4, h⟩ | ⟨c4, h⟩
          · refine zi_top c4 ?_
            refine zi_tableIn (tgt := 175) (dq dP_readValue 36 rfl) (by decide) (by decide) rfl (by decide) ?_
            refine zi_aload_n 1 (dq dP_readValue 68 rfl) rfl ?_
            refine zi_aload_n 2 (dq dP_readValue 69 rfl) rfl ?_
            refine zi_iload 0 (dq dP_readValue 70 rfl) rfl ?_
            obtain ⟨v16, J17, hv16, h⟩ := q_b h
            refine zi_cVi2 (SP_readOctets hL hv16 (d := d - 1) (by omega)) wP_readOctets aP_74 iP_readOctets sP_readOctets (by omega) (zLs hL 25 rfl) rfl (Nat.le_of_ble_eq_true rfl) (dq dP_readValue 71 rfl) (fun _ _ hh => ?_)
            obtain ⟨rfl, rfl⟩ := hh
            exact zi_ireturn rfl (bI_nar _) (dq dP_readValue 72 rfl) (q_rb h)
          rcases q_w h with ⟨c6, h⟩ | ⟨c6, h⟩
          · refine zi_top c6 ?_
            refine zi_tableIn (tgt := 183) (dq dP_readValue 36 rfl) (by decide) (by decide) rfl (by decide) ?_
            refine zi_aload_n 1 (dq dP_readValue 73 rfl) rfl ?_
            refine zi_aload_n 2 (dq dP_readValue 74 rfl) rfl ?_
            refine zi_iload 0 (dq dP_readValue 75 rfl) rfl ?_
            refine zi_iload 5 (dq dP_readValue 76 rfl) rfl ?_
            obtain ⟨v18, J19, hv18, h⟩ := q_b h
            refine zi_cVi3 (SP_readComponents hL hrec hv18 (d := d - 1) (by omega)) wP_readComponents aP_77 iP_readComponents sP_readComponents (by omega) (zLs hL 25 rfl) rfl (Nat.le_of_ble_eq_true rfl) (dq dP_readValue 77 rfl) (fun _ _ hh => ?_)
            obtain ⟨rfl, rfl⟩ := hh
            exact zi_ireturn rfl (bI_nar _) (dq dP_readValue 78 rfl) (q_rb h)
          rcases q_w h with ⟨c7, h⟩ | ⟨c7, h⟩
          · refine zi_top c7 ?_
            refine zi_tableIn (tgt := 193) (dq dP_readValue 36 rfl) (by decide) (by decide) rfl (by decide) ?_
            refine zi_aload_n 1 (dq dP_readValue 79 rfl) rfl ?_
            refine zi_aload_n 2 (dq dP_readValue 80 rfl) rfl ?_
            refine zi_iload 0 (dq dP_readValue 81 rfl) rfl ?_
            refine zi_iload 5 (dq dP_readValue 82 rfl) rfl ?_
            obtain ⟨v20, J21, hv20, h⟩ := q_b h
            refine zi_cVi3 (SP_readItems hL hrec hv20 (d := d - 1) (by omega)) wP_readItems aP_81 iP_readItems sP_readItems (by omega) (zLs hL 25 rfl) rfl (Nat.le_of_ble_eq_true rfl) (dq dP_readValue 83 rfl) (fun _ _ hh => ?_)
            obtain ⟨rfl, rfl⟩ := hh
            exact zi_ireturn rfl (bI_nar _) (dq dP_readValue 84 rfl) (q_rb h)
          rcases q_w h with ⟨c9, h⟩ | ⟨c9, h⟩
          · refine zi_top c9 ?_
            refine zi_tableIn (tgt := 203) (dq dP_readValue 36 rfl) (by decide) (by decide) rfl (by decide) ?_
            refine zi_aload_n 1 (dq dP_readValue 85 rfl) rfl ?_
            refine zi_aload_n 2 (dq dP_readValue 86 rfl) rfl ?_
            refine zi_iload 0 (dq dP_readValue 87 rfl) rfl ?_
            refine zi_iload 5 (dq dP_readValue 88 rfl) rfl ?_
            obtain ⟨v22, J23, hv22, h⟩ := q_b h
            refine zi_cVi3 (SP_readChoice hL hrec hv22 (d := d - 1) (by omega)) wP_readChoice aP_84 iP_readChoice sP_readChoice (by omega) (zLs hL 25 rfl) rfl (Nat.le_of_ble_eq_true rfl) (dq dP_readValue 89 rfl) (fun _ _ hh => ?_)
            obtain ⟨rfl, rfl⟩ := hh
            exact zi_ireturn rfl (bI_nar _) (dq dP_readValue 90 rfl) (q_rb h)
          refine zi_tableDef (tgt := 213) (vals := [1, 2, 4, 6, 7, 9]) (dq dP_readValue 36 rfl) (List.forall_mem_cons.mpr ⟨c1, List.forall_mem_cons.mpr ⟨c2, List.forall_mem_cons.mpr ⟨c4, List.forall_mem_cons.mpr ⟨c6, List.forall_mem_cons.mpr ⟨c7, List.forall_mem_cons.mpr ⟨c9, fun _ h => absurd h List.not_mem_nil⟩⟩⟩⟩⟩⟩) (by decide) (by decide) (by decide) ?_
          refine zi_iconst (v := 1) (dq dP_readValue 91 rfl) (by decide) ?_
          exact zi_ireturn rfl (by decide) (dq dP_readValue 92 rfl) (q_rb (b := true) h)
        · have h := q_t c h
          refine zi_iconst (v := 0) (dq dP_readValue 32 rfl) (by decide) ?_
          exact zi_ireturn rfl (by decide) (dq dP_readValue 33 rfl) (q_rb (b := false) h)
      · have h := q_t c h
        refine zi_aload_n 0 (dq dP_readValue 11 rfl) rfl ?_
        refine zi_aload_n 1 (dq dP_readValue 12 rfl) rfl ?_
        obtain ⟨o24, eo24, ho24, h⟩ := q_o h
        refine zi_rc0 eo24 ?_
        refine ti_getr (zag_d hL _) ho24 (by decide) fP_49 (dq dP_readValue 13 rfl) ?_
        refine zi_iload_n 2 (dq dP_readValue 14 rfl) rfl ?_
        refine zi_iload_n 3 (dq dP_readValue 15 rfl) rfl ?_
        refine zi_iload 4 (dq dP_readValue 16 rfl) rfl ?_
        refine zi_iconst (v := 1) (dq dP_readValue 17 rfl) (by decide) ?_
        refine zi_iadd (dq dP_readValue 18 rfl) ?_
        obtain ⟨v25, J26, hv25, h⟩ := q_b h
        refine zi_cVi4 (hrec _ _ hv25 (d - 1) (by omega)) wP_readValue aP_32 iP_readValue sP_readValue (by omega) (zLs hL 25 rfl) rfl (Nat.le_of_ble_eq_true rfl) (dq dP_readValue 19 rfl) (fun _ _ hh => ?_)
        obtain ⟨rfl, rfl⟩ := hh
        exact zi_ireturn rfl (bI_nar _) (dq dP_readValue 20 rfl) (q_rb h)
    · have h := q_f c h
      refine zi_iconst (v := 0) (dq dP_readValue 5 rfl) (by decide) ?_
      exact zi_ireturn rfl (by decide) (dq dP_readValue 6 rfl) (q_rb (b := false) h)
def RP_readValue (N : Nat) (M0 : zM) : Nat → (Option Nat × Int32 × Int32 × Int32 × zJ) → Option (Bool × zJ) := qfix (fun rec s => FP_readValue N M0 rec s.1 s.2.1 s.2.2.1 s.2.2.2.1 s.2.2.2.2)
theorem TP_readValue {g : zg} {M0 : zM} {A N : Nat} (hL : zLy M0 A dShL dRf)  : ∀ n s r, RP_readValue N M0 n s = some r → ∀ d, 4 * n ≤ d → zEi g d mP_readValue [va_rf (some (A + 25)), va_rf s.1, .int s.2.1, .int s.2.2.1, .int s.2.2.2.1] (zmm M0 A 32 s.2.2.2.2) (fun v Mq => v = bI r.1 ∧ Mq = zmm M0 A 32 r.2) := by
  refine qrec_sound (fun n rec hrec s r h d hd => ?_)
  obtain ⟨r1, r2⟩ := r
  exact SP_readValue (L := 4 * n) hL hrec h (by omega)
def FP_readAll (N : Nat) (M0 : zM) (l1 : Option Nat) (l2 : Int32) (l3 : Int32) (J : zJ) : Option (Bool × zJ) :=
  let J1 := zu J 25 2 (8 * l2)
  let J2 := zu J1 25 3 (8 * (if (nI 120) < l3 then (nI 120) else l3))
  qb (RP_readValue N M0 8 (l1, ((-1)), 0, 0, J2)) fun v3 J4 =>
  if (bI v3) = 0 then
    some (false, J4)
  else
    if (J4 25 2) = (8 * l2) then
      qb (FP_takeBits N M0 8 J4) fun v7 J8 =>
      if v7 = 0 then
        if (J8 25 2) = (J8 25 3) then
          some (true, J8)
        else
          some (false, J8)
      else
        some (false, J8)
    else
      qb (FP_align N M0 J4) fun v5 J6 =>
      if (bI v5) = 0 then
        some (false, J6)
      else
        if (J6 25 2) = (J6 25 3) then
          some (true, J6)
        else
          some (false, J6)
theorem SP_readAll {g : zg} {d N : Nat} {M0 : zM} {A : Nat} {r : Bool} {J1 : zJ} {J : zJ} {l1 : Option Nat} {l2 : Int32} {l3 : Int32} (hL : zLy M0 A dShL dRf) (h : FP_readAll N M0 l1 l2 l3 J = some (r, J1)) (hd : 33 ≤ d) : zEi g d mP_readAll [va_rf (some (A + 25)), va_rf l1, .int l2, .int l3] (zmm M0 A 32 J) (fun v Mq => v = bI r ∧ Mq = zmm M0 A 32 J1) := by
  unfold FP_readAll at h
  refine zEb_q (r := r) (lv := [(0, va_rf (some (A + 25))), (1, va_rf l1), (2, .int l2), (3, .int l3)]) ⟨by decide +kernel, by decide, by decide +kernel⟩ (by simp [z_cr, z_ci]) (Nat.le_of_ble_eq_true rfl) rfl ?_
  refine zi_aload_n 0 (dq dP_readAll 0 rfl) rfl ?_
  refine zi_bipush (v := 8) (dq dP_readAll 1 rfl) (by decide) ?_
  refine zi_iload_n 2 (dq dP_readAll 2 rfl) rfl ?_
  refine zi_imul (dq dP_readAll 3 rfl) ?_
  refine ri_puti (zLs hL 25 rfl) (by decide) fP_19 (fun h => by cases h) rfl rfl (dq dP_readAll 4 rfl) ?_
  refine zi_aload_n 0 (dq dP_readAll 5 rfl) rfl ?_
  refine zi_bipush (v := 8) (dq dP_readAll 6 rfl) (by decide) ?_
  refine zi_iload_n 3 (dq dP_readAll 7 rfl) rfl ?_
  refine zi_aload_n 0 (dq dP_readAll 8 rfl) rfl ?_
  refine ri_getr (zLs hL 25 rfl) (zLr hL 12 rfl) fP_9 (dq dP_readAll 9 rfl) ?_
  refine ri_alen (zLs hL 6 rfl) rfl (dq dP_readAll 10 rfl) ?_
  refine zi_mmin aP_23 t_mmin g_math w_mmin (by omega) (Nat.le_of_ble_eq_true rfl) (dq dP_readAll 11 rfl) ?_
  refine zi_imul (dq dP_readAll 12 rfl) ?_
  refine ri_puti (zLs hL 25 rfl) (by decide) fP_29 (fun h => by cases h) rfl rfl (dq dP_readAll 13 rfl) ?_
  refine zi_aload_n 0 (dq dP_readAll 14 rfl) rfl ?_
  refine zi_aload_n 1 (dq dP_readAll 15 rfl) rfl ?_
  refine zi_iconst (v := (-1)) (dq dP_readAll 16 rfl) (by decide) ?_
  refine zi_iconst (v := 0) (dq dP_readAll 17 rfl) (by decide) ?_
  refine zi_iconst (v := 0) (dq dP_readAll 18 rfl) (by decide) ?_
  obtain ⟨v3, J4, hv3, h⟩ := q_b h
  refine zi_cVi4 (TP_readValue hL 8 _ _ hv3 (d - 1) (by omega)) wP_readValue aP_32 iP_readValue sP_readValue (by omega) (zLs hL 25 rfl) rfl (Nat.le_of_ble_eq_true rfl) (dq dP_readAll 19 rfl) (fun _ _ hh => ?_)
  obtain ⟨rfl, rfl⟩ := hh
  refine zi_if_ne (tgt := 37) (dq dP_readAll 20 rfl) (by decide) (fun c => ?_) (fun c => ?_)
  · have h := q_f c h
    refine zi_aload_n 0 (dq dP_readAll 23 rfl) rfl ?_
    refine ri_geti (zLs hL 25 rfl) (by decide) fP_19 (dq dP_readAll 24 rfl) ?_
    refine zi_bipush (v := 8) (dq dP_readAll 25 rfl) (by decide) ?_
    refine zi_iload_n 2 (dq dP_readAll 26 rfl) rfl ?_
    refine zi_imul (dq dP_readAll 27 rfl) ?_
    refine zi_icmp_ne (tgt := 74) (dq dP_readAll 28 rfl) (by decide) (fun c => ?_) (fun c => ?_)
    · have h := q_f c h
      refine zi_aload_n 0 (dq dP_readAll 42 rfl) rfl ?_
      obtain ⟨v5, J6, hv5, h⟩ := q_b h
      refine zi_cVi0 (SP_align hL hv5 (d := d - 1) (by omega)) wP_align aP_40 iP_align sP_align (by omega) (zLs hL 25 rfl) rfl (Nat.le_of_ble_eq_true rfl) (dq dP_readAll 43 rfl) (fun _ _ hh => ?_)
      obtain ⟨rfl, rfl⟩ := hh
      refine zi_if_eq (tgt := 96) (dq dP_readAll 44 rfl) (by decide) (fun c => ?_) (fun c => ?_)
      · have h := q_t c h
        refine zi_iconst (v := 0) (dq dP_readAll 52 rfl) (by decide) ?_
        exact zi_ireturn rfl (by decide) (dq dP_readAll 53 rfl) (q_rb (b := false) h)
      · have h := q_f c h
        refine zi_aload_n 0 (dq dP_readAll 45 rfl) rfl ?_
        refine ri_geti (zLs hL 25 rfl) (by decide) fP_19 (dq dP_readAll 46 rfl) ?_
        refine zi_aload_n 0 (dq dP_readAll 47 rfl) rfl ?_
        refine ri_geti (zLs hL 25 rfl) (by decide) fP_29 (dq dP_readAll 48 rfl) ?_
        refine zi_icmp_ne (tgt := 96) (dq dP_readAll 49 rfl) (by decide) (fun c => ?_) (fun c => ?_)
        · have h := q_f c h
          refine zi_iconst (v := 0) (dq dP_readAll 52 rfl) (by decide) ?_
          exact zi_ireturn rfl (by decide) (dq dP_readAll 53 rfl) (q_rb (b := false) h)
        · have h := q_t c h
          refine zi_iconst (v := 1) (dq dP_readAll 50 rfl) (by decide) ?_
          refine zi_goto (tgt := 97) (dq dP_readAll 51 rfl) (by decide) ?_
          exact zi_ireturn rfl (by decide) (dq dP_readAll 53 rfl) (q_rb (b := true) h)
    · have h := q_t c h
      refine zi_aload_n 0 (dq dP_readAll 29 rfl) rfl ?_
      refine zi_bipush (v := 8) (dq dP_readAll 30 rfl) (by decide) ?_
      obtain ⟨v7, J8, hv7, h⟩ := q_b h
      refine zi_cVi1 (SP_takeBits hL hv7 (d := d - 1) (by omega)) wP_takeBits aP_36 iP_takeBits sP_takeBits (by omega) (zLs hL 25 rfl) rfl (Nat.le_of_ble_eq_true rfl) (dq dP_readAll 31 rfl) (fun _ _ hh => ?_)
      obtain ⟨rfl, rfl⟩ := hh
      refine zi_if_ne (tgt := 72) (dq dP_readAll 32 rfl) (by decide) (fun c => ?_) (fun c => ?_)
      · have h := q_f c h
        refine zi_iconst (v := 0) (dq dP_readAll 40 rfl) (by decide) ?_
        exact zi_ireturn rfl (by decide) (dq dP_readAll 41 rfl) (q_rb (b := false) h)
      · have h := q_t c h
        refine zi_aload_n 0 (dq dP_readAll 33 rfl) rfl ?_
        refine ri_geti (zLs hL 25 rfl) (by decide) fP_19 (dq dP_readAll 34 rfl) ?_
        refine zi_aload_n 0 (dq dP_readAll 35 rfl) rfl ?_
        refine ri_geti (zLs hL 25 rfl) (by decide) fP_29 (dq dP_readAll 36 rfl) ?_
        refine zi_icmp_ne (tgt := 72) (dq dP_readAll 37 rfl) (by decide) (fun c => ?_) (fun c => ?_)
        · have h := q_f c h
          refine zi_iconst (v := 0) (dq dP_readAll 40 rfl) (by decide) ?_
          exact zi_ireturn rfl (by decide) (dq dP_readAll 41 rfl) (q_rb (b := false) h)
        · have h := q_t c h
          refine zi_iconst (v := 1) (dq dP_readAll 38 rfl) (by decide) ?_
          refine zi_goto (tgt := 73) (dq dP_readAll 39 rfl) (by decide) ?_
          exact zi_ireturn rfl (by decide) (dq dP_readAll 41 rfl) (q_rb (b := true) h)
  · have h := q_t c h
    refine zi_iconst (v := 0) (dq dP_readAll 21 rfl) (by decide) ?_
    exact zi_ireturn rfl (by decide) (dq dP_readAll 22 rfl) (q_rb (b := false) h)
