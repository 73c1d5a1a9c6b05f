/-! THE CLASS AS FUNCTIONS, 5 (tools/genC.py) -/
def FQ_align (N : Nat) (M0 : zM) (J : zJ) : Option (Unit × zJ) :=
  let J1 := zu J 27 2 (((J 27 2) + 7) &&& ((-8)))
  some ((), J1)
theorem SQ_align {g : zg} {d N : Nat} {M0 : zM} {A : Nat} {r : Unit} {J1 : zJ} {J : zJ}  (hL : zLy M0 A dShL dRf) (h : FQ_align N M0 J = some (r, J1)) (hd : 0 ≤ d) : zEv g d mQ_align [va_rf (some (A + 27))] (zmm M0 A 32 J) (fun Mq => Mq = zmm M0 A 32 J1) := by
  unfold FQ_align at h
  refine zEu_q (r := r) (lv := [(0, va_rf (some (A + 27)))]) ⟨by decide +kernel, by decide, by decide +kernel⟩ (by simp [z_cr, z_ci]) (Nat.le_of_ble_eq_true rfl) rfl ?_
  refine zi_aload_n 0 (dq dQ_align 0 rfl) rfl ?_
  refine zi_aload_n 0 (dq dQ_align 1 rfl) rfl ?_
  refine ri_geti (zLs hL 27 rfl) (by decide) fQ_19 (dq dQ_align 2 rfl) ?_
  refine zi_bipush (v := 7) (dq dQ_align 3 rfl) (by decide) ?_
  refine zi_iadd (dq dQ_align 4 rfl) ?_
  refine zi_bipush (v := (-8)) (dq dQ_align 5 rfl) (by decide) ?_
  refine zi_iand (dq dQ_align 6 rfl) ?_
  refine ri_puti (zLs hL 27 rfl) (by decide) fQ_19 (fun h => by cases h) rfl rfl (dq dQ_align 7 rfl) ?_
  exact zi_return rfl (dq dQ_align 8 rfl) (q_ru h)
def FQ_appendBits_62 (N : Nat) (M0 : zM) (K27 : (Int32 × zJ) → Option (Unit × zJ)) (l1 : Int32) (l3 : Int32) (l4 : Int32) (J : zJ) : Option (Unit × zJ) :=
  qk (qi ((J 27 2) >>> (3 &&& 31)) 120) <|
  qk (qi ((J 27 2) >>> (3 &&& 31)) 120) <|
  let J3 := zu J 7 ((J 27 2) >>> (3 &&& 31)).toNatClampNeg ((J 7 ((J 27 2) >>> (3 &&& 31)).toNatClampNeg) ||| (((l1 >>> (l3 &&& 31)) &&& 1) <<< (l4 &&& 31)))
  let J4 := zu J3 27 2 ((J3 27 2) + 1)
  let y5 := l3 + (-1)
  K27 (y5, J4)
theorem SQ_appendBits_62 {g : zg} {d N : Nat} {M0 : zM} {A : Nat} {r : Unit} {J1 : zJ} {J : zJ} {K27 : (Int32 × zJ) → Option (Unit × zJ)} {l1 : Int32} {l3 : Int32} {l4 : Int32} (hL : zLy M0 A dShL dRf) (h : FQ_appendBits_62 N M0 K27 l1 l3 l4 J = some (r, J1)) (hd : 0 ≤ d) (hK27 : ∀ s, K27 s = some (r, J1) → zG g d mQ_appendBits (zPq (rU r) (zmm M0 A 32 J1)) (zmm M0 A 32 s.2) 27 [(0, va_rf (some (A + 27))), (1, .int l1), (3, .int s.1)] []) : zG g d mQ_appendBits (zPq (rU r) (zmm M0 A 32 J1)) (zmm M0 A 32 J) 62 [(0, va_rf (some (A + 27))), (1, .int l1), (3, .int l3), (4, .int l4)] [] := by
  unfold FQ_appendBits_62 at h
  refine zi_aload_n 0 (dq dQ_appendBits 38 rfl) rfl ?_
  refine ri_getr (zLs hL 27 rfl) (zLr hL 6 rfl) fQ_9 (dq dQ_appendBits 39 rfl) ?_
  refine zi_aload_n 0 (dq dQ_appendBits 40 rfl) rfl ?_
  refine ri_geti (zLs hL 27 rfl) (by decide) fQ_19 (dq dQ_appendBits 41 rfl) ?_
  refine zi_iconst (v := 3) (dq dQ_appendBits 42 rfl) (by decide) ?_
  refine zi_ishr (dq dQ_appendBits 43 rfl) ?_
  refine zi_dup2 (dq dQ_appendBits 44 rfl) (by first | rfl | exact z_cr _) (by first | rfl | exact z_cr _) ?_
  obtain ⟨c1, h⟩ := q_k h
  refine ri_iald (zLs hL 7 rfl) (by decide) rfl c1 (dq dQ_appendBits 45 rfl) ?_
  refine zi_iload_n 1 (dq dQ_appendBits 46 rfl) rfl ?_
  refine zi_iload_n 2 (dq dQ_appendBits 47 rfl) rfl ?_
  refine zi_ishr (dq dQ_appendBits 48 rfl) ?_
  refine zi_iconst (v := 1) (dq dQ_appendBits 49 rfl) (by decide) ?_
  refine zi_iand (dq dQ_appendBits 50 rfl) ?_
  refine zi_iload 3 (dq dQ_appendBits 51 rfl) rfl ?_
  refine zi_ishl (dq dQ_appendBits 52 rfl) ?_
  refine zi_ior (dq dQ_appendBits 53 rfl) ?_
  obtain ⟨c2, h⟩ := q_k h
  refine ri_iast (zLs hL 7 rfl) (by decide) rfl c2 (dq dQ_appendBits 54 rfl) ?_
  refine zi_aload_n 0 (dq dQ_appendBits 55 rfl) rfl ?_
  refine zi_dup (dq dQ_appendBits 56 rfl) (by first | rfl | exact z_cr _) ?_
  refine ri_geti (zLs hL 27 rfl) (by decide) fQ_19 (dq dQ_appendBits 57 rfl) ?_
  refine zi_iconst (v := 1) (dq dQ_appendBits 58 rfl) (by decide) ?_
  refine zi_iadd (dq dQ_appendBits 59 rfl) ?_
  refine ri_puti (zLs hL 27 rfl) (by decide) fQ_19 (fun h => by cases h) rfl rfl (dq dQ_appendBits 60 rfl) ?_
  refine zi_iincC (v := _ + (-1)) (lv' := [(3, _), (0, _), (1, _), (4, _)]) 2 (dq dQ_appendBits 61 rfl) rfl rfl (by decide) (by simp [z_cr, z_ci]) rfl ?_
  refine zi_goto (tgt := 27) (dq dQ_appendBits 62 rfl) (by decide) ?_
  exact zG_lv (zs_c 1 rfl (zs_c 2 rfl (zs_c 0 rfl zs_n))) (hK27 _ h)
def FQ_appendBits_27 (N : Nat) (M0 : zM) (l1 : Int32) (K27 : (Int32 × zJ) → Option (Unit × zJ)) (s : Int32 × zJ) : Option (Unit × zJ) :=
  let l3 := s.1
  let J := s.2
  if l3 < 0 then
    some ((), J)
  else
    let y1 := 7 - ((J 27 2) &&& 7)
    if y1 = 7 then
      qk (qi ((J 27 2) >>> (3 &&& 31)) 120) <|
      let J3 := zu J 7 ((J 27 2) >>> (3 &&& 31)).toNatClampNeg 0
      FQ_appendBits_62 N M0 K27 l1 l3 y1 J3
    else
      FQ_appendBits_62 N M0 K27 l1 l3 y1 J
theorem SQ_appendBits_27 {g : zg} {d N : Nat} {M0 : zM} {A : Nat} {r : Unit} {J1 : zJ}  {l1 : Int32} (hL : zLy M0 A dShL dRf) (hd : 0 ≤ d)  : ∀ n s, qfix (FQ_appendBits_27 N M0 l1) n s = some (r, J1) → zG g d mQ_appendBits (zPq (rU r) (zmm M0 A 32 J1)) (zmm M0 A 32 s.2) 27 [(0, va_rf (some (A + 27))), (1, .int l1), (3, .int s.1)] [] := by
  refine qfix_sound (fun K27 hK27 s h => ?_)
  unfold FQ_appendBits_27 at h
  refine zi_iload_n 2 (dq dQ_appendBits 18 rfl) rfl ?_
  refine zi_if_lt (tgt := 100) (dq dQ_appendBits 19 rfl) (by decide) (fun c => ?_) (fun c => ?_)
  · have h := q_t c h
    exact zi_return rfl (dq dQ_appendBits 63 rfl) (q_ru h)
  · have h := q_f c h
    refine zi_bipush (v := 7) (dq dQ_appendBits 20 rfl) (by decide) ?_
    refine zi_aload_n 0 (dq dQ_appendBits 21 rfl) rfl ?_
    refine ri_geti (zLs hL 27 rfl) (by decide) fQ_19 (dq dQ_appendBits 22 rfl) ?_
    refine zi_bipush (v := 7) (dq dQ_appendBits 23 rfl) (by decide) ?_
    refine zi_iand (dq dQ_appendBits 24 rfl) ?_
    refine zi_isub (dq dQ_appendBits 25 rfl) ?_
    refine zi_istC (lv' := [(4, _), (0, _), (1, _), (3, _)]) (dq dQ_appendBits 26 rfl) (by decide) (by simp [z_cr, z_ci]) rfl ?_
    refine zi_iload 0 (dq dQ_appendBits 27 rfl) rfl ?_
    refine zi_bipush (v := 7) (dq dQ_appendBits 28 rfl) (by decide) ?_
    refine zi_icmp_ne (tgt := 62) (dq dQ_appendBits 29 rfl) (by decide) (fun c => ?_) (fun c => ?_)
    · have h := q_f c h
      exact zG_lv (zs_c 1 rfl (zs_c 2 rfl (zs_c 3 rfl (zs_c 0 rfl zs_n)))) (SQ_appendBits_62 hL h hd hK27)
    · have h := q_t c h
      refine zi_aload_n 1 (dq dQ_appendBits 30 rfl) rfl ?_
      refine ri_getr (zLs hL 27 rfl) (zLr hL 6 rfl) fQ_9 (dq dQ_appendBits 31 rfl) ?_
      refine zi_aload_n 1 (dq dQ_appendBits 32 rfl) rfl ?_
      refine ri_geti (zLs hL 27 rfl) (by decide) fQ_19 (dq dQ_appendBits 33 rfl) ?_
      refine zi_iconst (v := 3) (dq dQ_appendBits 34 rfl) (by decide) ?_
      refine zi_ishr (dq dQ_appendBits 35 rfl) ?_
      refine zi_iconst (v := 0) (dq dQ_appendBits 36 rfl) (by decide) ?_
      obtain ⟨c2, h⟩ := q_k h
      refine ri_iast (zLs hL 7 rfl) (by decide) rfl c2 (dq dQ_appendBits 37 rfl) ?_
      exact zG_lv (zs_c 1 rfl (zs_c 2 rfl (zs_c 3 rfl (zs_c 0 rfl zs_n)))) (SQ_appendBits_62 hL h hd hK27)
def FQ_appendBits (N : Nat) (M0 : zM) (l1 : Int32) (l2 : Int32) (J : zJ) : Option (Unit × zJ) :=
  if ((J 27 2) + l2) ≤ (8 * (nI 120)) then
    let y1 := l2 - 1
    qfix (FQ_appendBits_27 N M0 l1) N (y1, J)
  else
    let J2 := zu J 27 4 1
    some ((), J2)
theorem SQ_appendBits {g : zg} {d N : Nat} {M0 : zM} {A : Nat} {r : Unit} {J1 : zJ} {J : zJ} {l1 : Int32} {l2 : Int32} (hL : zLy M0 A dShL dRf) (h : FQ_appendBits N M0 l1 l2 J = some (r, J1)) (hd : 0 ≤ d) : zEv g d mQ_appendBits [va_rf (some (A + 27)), .int l1, .int l2] (zmm M0 A 32 J) (fun Mq => Mq = zmm M0 A 32 J1) := by
  unfold FQ_appendBits at h
  refine zEu_q (r := r) (lv := [(0, va_rf (some (A + 27))), (1, .int l1), (2, .int l2)]) ⟨by decide +kernel, by decide, by decide +kernel⟩ (by simp [z_cr, z_ci]) (Nat.le_of_ble_eq_true rfl) rfl ?_
  refine zi_aload_n 0 (dq dQ_appendBits 0 rfl) rfl ?_
  refine ri_geti (zLs hL 27 rfl) (by decide) fQ_19 (dq dQ_appendBits 1 rfl) ?_
  refine zi_iload_n 2 (dq dQ_appendBits 2 rfl) rfl ?_
  refine zi_iadd (dq dQ_appendBits 3 rfl) ?_
  refine zi_bipush (v := 8) (dq dQ_appendBits 4 rfl) (by decide) ?_
  refine zi_aload_n 0 (dq dQ_appendBits 5 rfl) rfl ?_
  refine ri_getr (zLs hL 27 rfl) (zLr hL 6 rfl) fQ_9 (dq dQ_appendBits 6 rfl) ?_
  refine ri_alen (zLs hL 7 rfl) rfl (dq dQ_appendBits 7 rfl) ?_
  refine zi_imul (dq dQ_appendBits 8 rfl) ?_
  refine zi_icmp_le (tgt := 23) (dq dQ_appendBits 9 rfl) (by decide) (fun c => ?_) (fun c => ?_)
  · have h := q_t c h
    refine zi_iload_n 2 (dq dQ_appendBits 14 rfl) rfl ?_
    refine zi_iconst (v := 1) (dq dQ_appendBits 15 rfl) (by decide) ?_
    refine zi_isub (dq dQ_appendBits 16 rfl) ?_
    refine zi_istC_n (lv' := [(3, _), (0, _), (1, _), (2, _)]) (dq dQ_appendBits 17 rfl) (by decide) (by simp [z_cr, z_ci]) rfl ?_
    exact zG_lv (zs_c 1 rfl (zs_c 2 rfl (zs_c 0 rfl zs_n))) (SQ_appendBits_27 hL hd  _ _ h)
  · have h := q_f c h
    refine zi_aload_n 0 (dq dQ_appendBits 10 rfl) rfl ?_
    refine zi_iconst (v := 1) (dq dQ_appendBits 11 rfl) (by decide) ?_
    refine ri_puti (zLs hL 27 rfl) (by decide) fQ_26 (fun h => by cases h) (by decide) (by decide) (dq dQ_appendBits 12 rfl) ?_
    exact zi_return rfl (dq dQ_appendBits 13 rfl) (q_ru h)
def FQ_appendNumber_11 (N : Nat) (M0 : zM) (l1 : Int32) (l2 : Int32) (J : zJ) : Option (Unit × zJ) :=
  qc (FI_bitsOfNumbersTo N l2) fun v1 =>
  qb (FQ_appendBits N M0 l1 v1 J) fun v2 J3 =>
  some ((), J3)
theorem SQ_appendNumber_11 {g : zg} {d N : Nat} {M0 : zM} {A : Nat} {r : Unit} {J1 : zJ} {J : zJ}  {l1 : Int32} {l2 : Int32} (hL : zLy M0 A dShL dRf) (h : FQ_appendNumber_11 N M0 l1 l2 J = some (r, J1)) (hd : 1 ≤ d)  : zG g d mQ_appendNumber (zPq (rU r) (zmm M0 A 32 J1)) (zmm M0 A 32 J) 11 [(0, va_rf (some (A + 27))), (1, .int l1), (2, .int l2)] [] := by
  unfold FQ_appendNumber_11 at h
  refine zi_aload_n 0 (dq dQ_appendNumber 5 rfl) rfl ?_
  refine zi_iload_n 1 (dq dQ_appendNumber 6 rfl) rfl ?_
  refine zi_iload_n 2 (dq dQ_appendNumber 7 rfl) rfl ?_
  obtain ⟨v1, hv1, h⟩ := q_c h
  refine zi_cSi1 (SI_bitsOfNumbersTo  hv1 (d := d - 1) (by omega)) wI_bitsOfNumbersTo aQ_132 tI_bitsOfNumbersTo (by omega) (Nat.le_of_ble_eq_true rfl) (dq dQ_appendNumber 8 rfl) (fun _ _ hh => ?_)
  obtain ⟨rfl, rfl⟩ := hh
  obtain ⟨v2, J3, hv2, h⟩ := q_b h
  refine zi_cVv2 (SQ_appendBits hL hv2 (d := d - 1) (by omega)) wQ_appendBits aQ_34 iQ_appendBits sQ_appendBits (by omega) (zLs hL 27 rfl) rfl (Nat.le_of_ble_eq_true rfl) (dq dQ_appendNumber 9 rfl) (fun _ hh => ?_)
  subst hh
  exact zi_return rfl (dq dQ_appendNumber 10 rfl) (q_ru h)
def FQ_appendNumber (N : Nat) (M0 : zM) (l1 : Int32) (l2 : Int32) (J : zJ) : Option (Unit × zJ) :=
  if l2 < 255 then
    FQ_appendNumber_11 N M0 l1 l2 J
  else
    qb (FQ_align N M0 J) fun v1 J2 =>
    FQ_appendNumber_11 N M0 l1 l2 J2
theorem SQ_appendNumber {g : zg} {d N : Nat} {M0 : zM} {A : Nat} {r : Unit} {J1 : zJ} {J : zJ} {l1 : Int32} {l2 : Int32} (hL : zLy M0 A dShL dRf) (h : FQ_appendNumber N M0 l1 l2 J = some (r, J1)) (hd : 1 ≤ d) : zEv g d mQ_appendNumber [va_rf (some (A + 27)), .int l1, .int l2] (zmm M0 A 32 J) (fun Mq => Mq = zmm M0 A 32 J1) := by
  unfold FQ_appendNumber at h
  refine zEu_q (r := r) (lv := [(0, va_rf (some (A + 27))), (1, .int l1), (2, .int l2)]) ⟨by decide +kernel, by decide, by decide +kernel⟩ (by simp [z_cr, z_ci]) (Nat.le_of_ble_eq_true rfl) rfl ?_
  refine zi_iload_n 2 (dq dQ_appendNumber 0 rfl) rfl ?_
  refine zi_sipush (v := 255) (dq dQ_appendNumber 1 rfl) (by decide) ?_
  refine zi_icmp_lt (tgt := 11) (dq dQ_appendNumber 2 rfl) (by decide) (fun c => ?_) (fun c => ?_)
  · have h := q_t c h
    exact zG_lv (zs_c 0 rfl (zs_c 1 rfl (zs_c 2 rfl zs_n))) (SQ_appendNumber_11 hL h hd )
  · have h := q_f c h
    refine zi_aload_n 0 (dq dQ_appendNumber 3 rfl) rfl ?_
    obtain ⟨v1, J2, hv1, h⟩ := q_b h
    refine zi_cVv0 (SQ_align hL hv1 (d := d - 1) (by omega)) wQ_align aQ_38 iQ_align sQ_align (by omega) (zLs hL 27 rfl) rfl (Nat.le_of_ble_eq_true rfl) (dq dQ_appendNumber 4 rfl) (fun _ hh => ?_)
    subst hh
    exact zG_lv (zs_c 0 rfl (zs_c 1 rfl (zs_c 2 rfl zs_n))) (SQ_appendNumber_11 hL h hd )
def FQ_writeChoice (N : Nat) (M0 : zM) (rec : (Option Nat × Int32 × zJ) → Option (Unit × zJ)) (l1 : Option Nat) (l2 : Int32) (l3 : Int32) (J : zJ) : Option (Unit × zJ) :=
  qo l1 M0 6 fun o1 =>
  qc (FT_memberAt N M0 o1 l2) fun v2 =>
  if v2 = none then
    some ((), J)
  else
    qo v2 M0 1 fun o3 =>
    qo l1 M0 6 fun o4 =>
    qb (FQ_appendNumber N M0 (zi M0 o3 4) ((zi M0 o4 8) - 1) J) fun v5 J6 =>
    qo v2 M0 1 fun o7 =>
    qb (rec ((zr M0 o7 0), (l3 + 1), J6)) fun v8 J9 =>
    some ((), J9)
theorem SQ_writeChoice {g : zg} {d N : Nat} {M0 : zM} {A : Nat} {rec : (Option Nat × Int32 × zJ) → Option (Unit × zJ)} {L : Nat} {r : Unit} {J1 : zJ} {J : zJ} {l1 : Option Nat} {l2 : Int32} {l3 : Int32} (hL : zLy M0 A dShL dRf) (hrec : ∀ s r, rec s = some r → ∀ d, L ≤ d → zEv g d mQ_writeValue [va_rf (some (A + 27)), va_rf s.1, .int s.2.1] (zmm M0 A 32 s.2.2) (fun Mq => Mq = zmm M0 A 32 r.2)) (h : FQ_writeChoice N M0 rec l1 l2 l3 J = some (r, J1)) (hd : L + 2 ≤ d) : zEv g d mQ_writeChoice [va_rf (some (A + 27)), va_rf l1, .int l2, .int l3] (zmm M0 A 32 J) (fun Mq => Mq = zmm M0 A 32 J1) := by
  unfold FQ_writeChoice at h
  refine zEu_q (r := r) (lv := [(0, va_rf (some (A + 27))), (1, va_rf l1), (2, .int l2), (3, .int l3)]) ⟨by decide +kernel, by decide, by decide +kernel⟩ (by simp [z_cr, z_ci]) (Nat.le_of_ble_eq_true rfl) rfl ?_
  refine zi_aload_n 1 (dq dQ_writeChoice 0 rfl) rfl ?_
  refine zi_iload_n 2 (dq dQ_writeChoice 1 rfl) rfl ?_
  obtain ⟨o1, eo1, ho1, h⟩ := q_o h
  refine zi_rc1 eo1 ?_
  obtain ⟨v2, hv2, h⟩ := q_c h
  refine zi_cVr1 (ST_memberAt (zag_d hL _) ho1 hv2 (d := d - 1) (by omega)) wT_memberAt aQ_122 iT_memberAt sT_memberAt (by omega) ((zag_d hL _) _ _ (by decide) ho1).1 rfl (Nat.le_of_ble_eq_true rfl) (dq dQ_writeChoice 2 rfl) (fun _ _ hh => ?_)
  obtain ⟨rfl, rfl⟩ := hh
  refine zi_astC (lv' := [(4, _), (0, _), (1, _), (2, _), (3, _)]) (dq dQ_writeChoice 3 rfl) (by decide) (by simp [z_cr, z_ci]) rfl ?_
  refine zi_aload 0 (dq dQ_writeChoice 4 rfl) rfl ?_
  refine zi_ifnull (tgt := 39) (dq dQ_writeChoice 5 rfl) (by decide) (fun c => ?_) (fun _ c => ?_)
  · have h := q_t c h
    exact zi_return rfl (dq dQ_writeChoice 21 rfl) (q_ru h)
  · have h := q_f (by rw [c]; exact nofun) h
    refine zi_aload_n 1 (dq dQ_writeChoice 6 rfl) rfl ?_
    refine zi_aload 0 (dq dQ_writeChoice 7 rfl) rfl ?_
    obtain ⟨o3, eo3, ho3, h⟩ := q_o h
    refine zi_rc0 eo3 ?_
    refine ti_geti (zag_d hL _) ho3 (by decide) fQ_126 (dq dQ_writeChoice 8 rfl) ?_
    refine zi_aload_n 2 (dq dQ_writeChoice 9 rfl) rfl ?_
    obtain ⟨o4, eo4, ho4, h⟩ := q_o h
    refine zi_rc0 eo4 ?_
    refine ti_geti (zag_d hL _) ho4 (by decide) fQ_129 (dq dQ_writeChoice 10 rfl) ?_
    refine zi_iconst (v := 1) (dq dQ_writeChoice 11 rfl) (by decide) ?_
    refine zi_isub (dq dQ_writeChoice 12 rfl) ?_
    obtain ⟨v5, J6, hv5, h⟩ := q_b h
    refine zi_cVv2 (SQ_appendNumber hL hv5 (d := d - 1) (by omega)) wQ_appendNumber aQ_83 iQ_appendNumber sQ_appendNumber (by omega) (zLs hL 27 rfl) rfl (Nat.le_of_ble_eq_true rfl) (dq dQ_writeChoice 13 rfl) (fun _ hh => ?_)
    subst hh
    refine zi_aload_n 1 (dq dQ_writeChoice 14 rfl) rfl ?_
    refine zi_aload 0 (dq dQ_writeChoice 15 rfl) rfl ?_
    obtain ⟨o7, eo7, ho7, h⟩ := q_o h
    refine zi_rc0 eo7 ?_
    refine ti_getr (zag_d hL _) ho7 (by decide) fQ_119 (dq dQ_writeChoice 16 rfl) ?_
    refine zi_iload_n 4 (dq dQ_writeChoice 17 rfl) rfl ?_
    refine zi_iconst (v := 1) (dq dQ_writeChoice 18 rfl) (by decide) ?_
    refine zi_iadd (dq dQ_writeChoice 19 rfl) ?_
    obtain ⟨v8, J9, hv8, h⟩ := q_b h
    refine zi_cVv2 (hrec _ _ hv8 (d - 1) (by omega)) wQ_writeValue aQ_30 iQ_writeValue sQ_writeValue (by omega) (zLs hL 27 rfl) rfl (Nat.le_of_ble_eq_true rfl) (dq dQ_writeChoice 20 rfl) (fun _ hh => ?_)
    subst hh
    exact zi_return rfl (dq dQ_writeChoice 21 rfl) (q_ru h)
def FQ_writeComponents_58 (N : Nat) (M0 : zM) (rec : (Option Nat × Int32 × zJ) → Option (Unit × zJ)) (l2 : Int32) (l3 : Int32) (K58 : (Option Nat × zJ) → Option (Unit × zJ)) (s : Option Nat × zJ) : Option (Unit × zJ) :=
  let l4 := s.1
  let J := s.2
  if l4 = none then
    some ((), J)
  else
    qb (FV_shows N M0 16 l2 l4 J) fun v1 J2 =>
    if (bI v1) = 0 then
      qo l4 M0 1 fun o3 =>
      if (zi M0 o3 2) = 2 then
        let J6 := zu J2 27 3 ((J2 27 3) + 1)
        qo l4 M0 1 fun o7 =>
        let y8 := zr M0 o7 5
        K58 (y8, J6)
      else
        qo l4 M0 1 fun o4 =>
        let y5 := zr M0 o4 5
        K58 (y5, J2)
    else
      qo l4 M0 1 fun o9 =>
      qb (rec ((zr M0 o9 0), (l3 + 1), J2)) fun v10 J11 =>
      qo l4 M0 1 fun o12 =>
      let y13 := zr M0 o12 5
      K58 (y13, J11)
theorem SQ_writeComponents_58 {g : zg} {d N : Nat} {M0 : zM} {A : Nat} {rec : (Option Nat × Int32 × zJ) → Option (Unit × zJ)} {L : Nat} {r : Unit} {J1 : zJ}  {l2 : Int32} {l3 : Int32} (hL : zLy M0 A dShL dRf) (hrec : ∀ s r, rec s = some r → ∀ d, L ≤ d → zEv g d mQ_writeValue [va_rf (some (A + 27)), va_rf s.1, .int s.2.1] (zmm M0 A 32 s.2.2) (fun Mq => Mq = zmm M0 A 32 r.2)) (hd : L + 1 ≤ d)  : ∀ n s, qfix (FQ_writeComponents_58 N M0 rec l2 l3) n s = some (r, J1) → zG g d mQ_writeComponents (zPq (rU r) (zmm M0 A 32 J1)) (zmm M0 A 32 s.2) 58 [(0, va_rf (some (A + 27))), (2, .int l2), (3, .int l3), (4, va_rf s.1)] [] := by
  refine qfix_sound (fun K58 hK58 s h => ?_)
  unfold FQ_writeComponents_58 at h
  refine zi_aload 3 (dq dQ_writeComponents 27 rfl) rfl ?_
  refine zi_ifnull (tgt := 120) (dq dQ_writeComponents 28 rfl) (by decide) (fun c => ?_) (fun _ c => ?_)
  · have h := q_t c h
    exact zi_return rfl (dq dQ_writeComponents 57 rfl) (q_ru h)
  · have h := q_f (by rw [c]; exact nofun) h
    refine zi_aload_n 0 (dq dQ_writeComponents 29 rfl) rfl ?_
    refine ri_getr (zLs hL 27 rfl) (zLr hL 5 rfl) fQ_15 (dq dQ_writeComponents 30 rfl) ?_
    refine zi_iload_n 1 (dq dQ_writeComponents 31 rfl) rfl ?_
    refine zi_aload 3 (dq dQ_writeComponents 32 rfl) rfl ?_
    obtain ⟨v1, J2, hv1, h⟩ := q_b h
    refine zi_cVi2 (SV_shows (dLy_v (Or.inr rfl) hL) (by decide) (zag_d hL) hv1 (d := d - 1) (by omega)) wV_shows aQ_112 iV_shows sV_shows (by omega) (zLs hL 16 rfl) rfl (Nat.le_of_ble_eq_true rfl) (dq dQ_writeComponents 33 rfl) (fun _ _ hh => ?_)
    obtain ⟨rfl, rfl⟩ := hh
    refine zi_if_eq (tgt := 91) (dq dQ_writeComponents 34 rfl) (by decide) (fun c => ?_) (fun c => ?_)
    · have h := q_t c h
      refine zi_aload 3 (dq dQ_writeComponents 43 rfl) rfl ?_
      obtain ⟨o3, eo3, ho3, h⟩ := q_o h
      refine zi_rc0 eo3 ?_
      refine ti_geti (zag_d hL _) ho3 (by decide) fQ_107 (dq dQ_writeComponents 44 rfl) ?_
      refine zi_iconst (v := 2) (dq dQ_writeComponents 45 rfl) (by decide) ?_
      refine zi_icmp_ne (tgt := 110) (dq dQ_writeComponents 46 rfl) (by decide) (fun c => ?_) (fun c => ?_)
      · have h := q_f c h
        refine zi_aload 3 (dq dQ_writeComponents 53 rfl) rfl ?_
        obtain ⟨o4, eo4, ho4, h⟩ := q_o h
        refine zi_rc0 eo4 ?_
        refine ti_getr (zag_d hL _) ho4 (by decide) fQ_116 (dq dQ_writeComponents 54 rfl) ?_
        refine zi_astC (lv' := [(4, _), (0, _), (2, _), (3, _)]) (dq dQ_writeComponents 55 rfl) (by decide) (by simp [z_cr, z_ci]) rfl ?_
        refine zi_goto (tgt := 58) (dq dQ_writeComponents 56 rfl) (by decide) ?_
        exact zG_lv (zs_c 1 rfl (zs_c 2 rfl (zs_c 3 rfl (zs_c 0 rfl zs_n)))) (hK58 _ h)
      · have h := q_t c h
        refine zi_aload_n 0 (dq dQ_writeComponents 47 rfl) rfl ?_
        refine zi_dup (dq dQ_writeComponents 48 rfl) (by first | rfl | exact z_cr _) ?_
        refine ri_geti (zLs hL 27 rfl) (by decide) fQ_23 (dq dQ_writeComponents 49 rfl) ?_
        refine zi_iconst (v := 1) (dq dQ_writeComponents 50 rfl) (by decide) ?_
        refine zi_iadd (dq dQ_writeComponents 51 rfl) ?_
        refine ri_puti (zLs hL 27 rfl) (by decide) fQ_23 (fun h => by cases h) rfl rfl (dq dQ_writeComponents 52 rfl) ?_
        refine zi_aload 3 (dq dQ_writeComponents 53 rfl) rfl ?_
        obtain ⟨o7, eo7, ho7, h⟩ := q_o h
        refine zi_rc0 eo7 ?_
        refine ti_getr (zag_d hL _) ho7 (by decide) fQ_116 (dq dQ_writeComponents 54 rfl) ?_
        refine zi_astC (lv' := [(4, _), (0, _), (2, _), (3, _)]) (dq dQ_writeComponents 55 rfl) (by decide) (by simp [z_cr, z_ci]) rfl ?_
        refine zi_goto (tgt := 58) (dq dQ_writeComponents 56 rfl) (by decide) ?_
        exact zG_lv (zs_c 1 rfl (zs_c 2 rfl (zs_c 3 rfl (zs_c 0 rfl zs_n)))) (hK58 _ h)
    · have h := q_f c h
      refine zi_aload_n 0 (dq dQ_writeComponents 35 rfl) rfl ?_
      refine zi_aload 3 (dq dQ_writeComponents 36 rfl) rfl ?_
      obtain ⟨o9, eo9, ho9, h⟩ := q_o h
      refine zi_rc0 eo9 ?_
      refine ti_getr (zag_d hL _) ho9 (by decide) fQ_119 (dq dQ_writeComponents 37 rfl) ?_
      refine zi_iload_n 2 (dq dQ_writeComponents 38 rfl) rfl ?_
      refine zi_iconst (v := 1) (dq dQ_writeComponents 39 rfl) (by decide) ?_
      refine zi_iadd (dq dQ_writeComponents 40 rfl) ?_
      obtain ⟨v10, J11, hv10, h⟩ := q_b h
      refine zi_cVv2 (hrec _ _ hv10 (d - 1) (by omega)) wQ_writeValue aQ_30 iQ_writeValue sQ_writeValue (by omega) (zLs hL 27 rfl) rfl (Nat.le_of_ble_eq_true rfl) (dq dQ_writeComponents 41 rfl) (fun _ hh => ?_)
      subst hh
      refine zi_goto (tgt := 110) (dq dQ_writeComponents 42 rfl) (by decide) ?_
      refine zi_aload 3 (dq dQ_writeComponents 53 rfl) rfl ?_
      obtain ⟨o12, eo12, ho12, h⟩ := q_o h
      refine zi_rc0 eo12 ?_
      refine ti_getr (zag_d hL _) ho12 (by decide) fQ_116 (dq dQ_writeComponents 54 rfl) ?_
      refine zi_astC (lv' := [(4, _), (0, _), (2, _), (3, _)]) (dq dQ_writeComponents 55 rfl) (by decide) (by simp [z_cr, z_ci]) rfl ?_
      refine zi_goto (tgt := 58) (dq dQ_writeComponents 56 rfl) (by decide) ?_
      exact zG_lv (zs_c 1 rfl (zs_c 2 rfl (zs_c 3 rfl (zs_c 0 rfl zs_n)))) (hK58 _ h)
def FQ_writeComponents_38 (N : Nat) (M0 : zM) (rec : (Option Nat × Int32 × zJ) → Option (Unit × zJ)) (K6 : (Option Nat × zJ) → Option (Unit × zJ)) (l1 : Option Nat) (l2 : Int32) (l3 : Int32) (l4 : Option Nat) (t1 : Int32) (J : zJ) : Option (Unit × zJ) :=
  qb (FQ_appendBits N M0 t1 1 J) fun v1 J2 =>
  qo l4 M0 1 fun o3 =>
  let y4 := zr M0 o3 5
  K6 (y4, J2)
theorem SQ_writeComponents_38 {g : zg} {d N : Nat} {M0 : zM} {A : Nat} {rec : (Option Nat × Int32 × zJ) → Option (Unit × zJ)} {L : Nat} {r : Unit} {J1 : zJ} {J : zJ} {K6 : (Option Nat × zJ) → Option (Unit × zJ)} {l1 : Option Nat} {l2 : Int32} {l3 : Int32} {l4 : Option Nat} {t1 : Int32} (hL : zLy M0 A dShL dRf) (hrec : ∀ s r, rec s = some r → ∀ d, L ≤ d → zEv g d mQ_writeValue [va_rf (some (A + 27)), va_rf s.1, .int s.2.1] (zmm M0 A 32 s.2.2) (fun Mq => Mq = zmm M0 A 32 r.2)) (h : FQ_writeComponents_38 N M0 rec K6 l1 l2 l3 l4 t1 J = some (r, J1)) (hd : L + 1 ≤ d) (hK6 : ∀ s, K6 s = some (r, J1) → zG g d mQ_writeComponents (zPq (rU r) (zmm M0 A 32 J1)) (zmm M0 A 32 s.2) 6 [(0, va_rf (some (A + 27))), (1, va_rf l1), (2, .int l2), (3, .int l3), (4, va_rf s.1)] []) : zG g d mQ_writeComponents (zPq (rU r) (zmm M0 A 32 J1)) (zmm M0 A 32 J) 38 [(0, va_rf (some (A + 27))), (1, va_rf l1), (2, .int l2), (3, .int l3), (4, va_rf l4)] [.int t1, va_rf (some (A + 27))] := by
  unfold FQ_writeComponents_38 at h
  refine zi_iconst (v := 1) (dq dQ_writeComponents 18 rfl) (by decide) ?_
  obtain ⟨v1, J2, hv1, h⟩ := q_b h
  refine zi_cVv2 (SQ_appendBits hL hv1 (d := d - 1) (by omega)) wQ_appendBits aQ_34 iQ_appendBits sQ_appendBits (by omega) (zLs hL 27 rfl) rfl (Nat.le_of_ble_eq_true rfl) (dq dQ_writeComponents 19 rfl) (fun _ hh => ?_)
  subst hh
  refine zi_aload 4 (dq dQ_writeComponents 20 rfl) rfl ?_
  obtain ⟨o3, eo3, ho3, h⟩ := q_o h
  refine zi_rc0 eo3 ?_
  refine ti_getr (zag_d hL _) ho3 (by decide) fQ_116 (dq dQ_writeComponents 21 rfl) ?_
  refine zi_astC (lv' := [(4, _), (0, _), (1, _), (2, _), (3, _)]) (dq dQ_writeComponents 22 rfl) (by decide) (by simp [z_cr, z_ci]) rfl ?_
  refine zi_goto (tgt := 6) (dq dQ_writeComponents 23 rfl) (by decide) ?_
  exact zG_lv (zs_c 1 rfl (zs_c 2 rfl (zs_c 3 rfl (zs_c 4 rfl (zs_c 0 rfl zs_n))))) (hK6 _ h)
def FQ_writeComponents_6 (N : Nat) (M0 : zM) (rec : (Option Nat × Int32 × zJ) → Option (Unit × zJ)) (l1 : Option Nat) (l2 : Int32) (l3 : Int32) (K6 : (Option Nat × zJ) → Option (Unit × zJ)) (s : Option Nat × zJ) : Option (Unit × zJ) :=
  let l4 := s.1
  let J := s.2
  if l4 = none then
    qo l1 M0 6 fun o1 =>
    let y2 := zr M0 o1 10
    qfix (FQ_writeComponents_58 N M0 rec l2 l3) N (y2, J)
  else
    qo l4 M0 1 fun o3 =>
    if (zi M0 o3 2) = 0 then
      qo l4 M0 1 fun o4 =>
      let y5 := zr M0 o4 5
      K6 (y5, J)
    else
      qb (FV_shows N M0 16 l2 l4 J) fun v6 J7 =>
      if (bI v6) = 0 then
        FQ_writeComponents_38 N M0 rec K6 l1 l2 l3 l4 0 J7
      else
        FQ_writeComponents_38 N M0 rec K6 l1 l2 l3 l4 1 J7
theorem SQ_writeComponents_6 {g : zg} {d N : Nat} {M0 : zM} {A : Nat} {rec : (Option Nat × Int32 × zJ) → Option (Unit × zJ)} {L : Nat} {r : Unit} {J1 : zJ}  {l1 : Option Nat} {l2 : Int32} {l3 : Int32} (hL : zLy M0 A dShL dRf) (hrec : ∀ s r, rec s = some r → ∀ d, L ≤ d → zEv g d mQ_writeValue [va_rf (some (A + 27)), va_rf s.1, .int s.2.1] (zmm M0 A 32 s.2.2) (fun Mq => Mq = zmm M0 A 32 r.2)) (hd : L + 1 ≤ d)  : ∀ n s, qfix (FQ_writeComponents_6 N M0 rec l1 l2 l3) n s = some (r, J1) → zG g d mQ_writeComponents (zPq (rU r) (zmm M0 A 32 J1)) (zmm M0 A 32 s.2) 6 [(0, va_rf (some (A + 27))), (1, va_rf l1), (2, .int l2), (3, .int l3), (4, va_rf s.1)] [] := by
  refine qfix_sound (fun K6 hK6 s h => ?_)
  unfold FQ_writeComponents_6 at h
  refine zi_aload 4 (dq dQ_writeComponents 3 rfl) rfl ?_
  refine zi_ifnull (tgt := 52) (dq dQ_writeComponents 4 rfl) (by decide) (fun c => ?_) (fun _ c => ?_)
  · have h := q_t c h
    refine zi_aload_n 1 (dq dQ_writeComponents 24 rfl) rfl ?_
    obtain ⟨o1, eo1, ho1, h⟩ := q_o h
    refine zi_rc0 eo1 ?_
    refine ti_getr (zag_d hL _) ho1 (by decide) fQ_103 (dq dQ_writeComponents 25 rfl) ?_
    refine zi_astC (lv' := [(4, _), (0, _), (1, _), (2, _), (3, _)]) (dq dQ_writeComponents 26 rfl) (by decide) (by simp [z_cr, z_ci]) rfl ?_
    exact zG_lv (zs_c 1 rfl (zs_c 3 rfl (zs_c 4 rfl (zs_c 0 rfl zs_n)))) (SQ_writeComponents_58 hL hrec hd  _ _ h)
  · have h := q_f (by rw [c]; exact nofun) h
    refine zi_aload 4 (dq dQ_writeComponents 5 rfl) rfl ?_
    obtain ⟨o3, eo3, ho3, h⟩ := q_o h
    refine zi_rc0 eo3 ?_
    refine ti_geti (zag_d hL _) ho3 (by decide) fQ_107 (dq dQ_writeComponents 6 rfl) ?_
    refine zi_if_eq (tgt := 42) (dq dQ_writeComponents 7 rfl) (by decide) (fun c => ?_) (fun c => ?_)
    · have h := q_t c h
      refine zi_aload 4 (dq dQ_writeComponents 20 rfl) rfl ?_
      obtain ⟨o4, eo4, ho4, h⟩ := q_o h
      refine zi_rc0 eo4 ?_
      refine ti_getr (zag_d hL _) ho4 (by decide) fQ_116 (dq dQ_writeComponents 21 rfl) ?_
      refine zi_astC (lv' := [(4, _), (0, _), (1, _), (2, _), (3, _)]) (dq dQ_writeComponents 22 rfl) (by decide) (by simp [z_cr, z_ci]) rfl ?_
      refine zi_goto (tgt := 6) (dq dQ_writeComponents 23 rfl) (by decide) ?_
      exact zG_lv (zs_c 1 rfl (zs_c 2 rfl (zs_c 3 rfl (zs_c 4 rfl (zs_c 0 rfl zs_n))))) (hK6 _ h)
    · have h := q_f c h
      refine zi_aload_n 0 (dq dQ_writeComponents 8 rfl) rfl ?_
      refine zi_aload_n 0 (dq dQ_writeComponents 9 rfl) rfl ?_
      refine ri_getr (zLs hL 27 rfl) (zLr hL 5 rfl) fQ_15 (dq dQ_writeComponents 10 rfl) ?_
      refine zi_iload_n 2 (dq dQ_writeComponents 11 rfl) rfl ?_
      refine zi_aload 4 (dq dQ_writeComponents 12 rfl) rfl ?_
      obtain ⟨v6, J7, hv6, h⟩ := q_b h
      refine zi_cVi2 (SV_shows (dLy_v (Or.inr rfl) hL) (by decide) (zag_d hL) hv6 (d := d - 1) (by omega)) wV_shows aQ_112 iV_shows sV_shows (by omega) (zLs hL 16 rfl) rfl (Nat.le_of_ble_eq_true rfl) (dq dQ_writeComponents 13 rfl) (fun _ _ hh => ?_)
      obtain ⟨rfl, rfl⟩ := hh
      refine zi_if_eq (tgt := 37) (dq dQ_writeComponents 14 rfl) (by decide) (fun c => ?_) (fun c => ?_)
      · have h := q_t c h
        refine zi_iconst (v := 0) (dq dQ_writeComponents 17 rfl) (by decide) ?_
        exact zG_lv (zs_c 0 rfl (zs_c 1 rfl (zs_c 2 rfl (zs_c 3 rfl (zs_c 4 rfl zs_n))))) (SQ_writeComponents_38 hL hrec h hd hK6)
      · have h := q_f c h
        refine zi_iconst (v := 1) (dq dQ_writeComponents 15 rfl) (by decide) ?_
        refine zi_goto (tgt := 38) (dq dQ_writeComponents 16 rfl) (by decide) ?_
        exact zG_lv (zs_c 0 rfl (zs_c 1 rfl (zs_c 2 rfl (zs_c 3 rfl (zs_c 4 rfl zs_n))))) (SQ_writeComponents_38 hL hrec h hd hK6)
def FQ_writeComponents (N : Nat) (M0 : zM) (rec : (Option Nat × Int32 × zJ) → Option (Unit × zJ)) (l1 : Option Nat) (l2 : Int32) (l3 : Int32) (J : zJ) : Option (Unit × zJ) :=
  qo l1 M0 6 fun o1 =>
  let y2 := zr M0 o1 10
  qfix (FQ_writeComponents_6 N M0 rec l1 l2 l3) N (y2, J)
theorem SQ_writeComponents {g : zg} {d N : Nat} {M0 : zM} {A : Nat} {rec : (Option Nat × Int32 × zJ) → Option (Unit × zJ)} {L : Nat} {r : Unit} {J1 : zJ} {J : zJ} {l1 : Option Nat} {l2 : Int32} {l3 : Int32} (hL : zLy M0 A dShL dRf) (hrec : ∀ s r, rec s = some r → ∀ d, L ≤ d → zEv g d mQ_writeValue [va_rf (some (A + 27)), va_rf s.1, .int s.2.1] (zmm M0 A 32 s.2.2) (fun Mq => Mq = zmm M0 A 32 r.2)) (h : FQ_writeComponents N M0 rec l1 l2 l3 J = some (r, J1)) (hd : L + 1 ≤ d) : zEv g d mQ_writeComponents [va_rf (some (A + 27)), va_rf l1, .int l2, .int l3] (zmm M0 A 32 J) (fun Mq => Mq = zmm M0 A 32 J1) := by
  unfold FQ_writeComponents at h
  refine zEu_q (r := r) (lv := [(0, va_rf (some (A + 27))), (1, va_rf l1), (2, .int l2), (3, .int l3)]) ⟨by decide +kernel, by decide, by decide +kernel⟩ (by simp [z_cr, z_ci]) (Nat.le_of_ble_eq_true rfl) rfl ?_
  refine zi_aload_n 1 (dq dQ_writeComponents 0 rfl) rfl ?_
  obtain ⟨o1, eo1, ho1, h⟩ := q_o h
  refine zi_rc0 eo1 ?_
  refine ti_getr (zag_d hL _) ho1 (by decide) fQ_103 (dq dQ_writeComponents 1 rfl) ?_
  refine zi_astC (lv' := [(4, _), (0, _), (1, _), (2, _), (3, _)]) (dq dQ_writeComponents 2 rfl) (by decide) (by simp [z_cr, z_ci]) rfl ?_
  exact zG_lv (zs_c 1 rfl (zs_c 2 rfl (zs_c 3 rfl (zs_c 4 rfl (zs_c 0 rfl zs_n))))) (SQ_writeComponents_6 hL hrec hd  _ _ h)
def FQ_writeInteger (N : Nat) (M0 : zM) (l1 : Option Nat) (l2 : Int32) (J : zJ) : Option (Unit × zJ) :=
  qo l1 M0 6 fun o1 =>
  if (zi M0 o1 1) = 0 then
    qc (FI_byteCount N l2) fun v2 =>
    qb (FQ_align N M0 J) fun v3 J4 =>
    qb (FQ_appendBits N M0 v2 8 J4) fun v5 J6 =>
    qb (FQ_appendBits N M0 l2 (8 * v2) J6) fun v7 J8 =>
    some ((), J8)
  else
    qo l1 M0 6 fun o9 =>
    qo l1 M0 6 fun o10 =>
    qo l1 M0 6 fun o11 =>
    qb (FQ_appendNumber N M0 (l2 - (zi M0 o9 2)) ((zi M0 o10 3) - (zi M0 o11 2)) J) fun v12 J13 =>
    some ((), J13)
theorem SQ_writeInteger {g : zg} {d N : Nat} {M0 : zM} {A : Nat} {r : Unit} {J1 : zJ} {J : zJ} {l1 : Option Nat} {l2 : Int32} (hL : zLy M0 A dShL dRf) (h : FQ_writeInteger N M0 l1 l2 J = some (r, J1)) (hd : 2 ≤ d) : zEv g d mQ_writeInteger [va_rf (some (A + 27)), va_rf l1, .int l2] (zmm M0 A 32 J) (fun Mq => Mq = zmm M0 A 32 J1) := by
  unfold FQ_writeInteger at h
  refine zEu_q (r := r) (lv := [(0, va_rf (some (A + 27))), (1, va_rf l1), (2, .int l2)]) ⟨by decide +kernel, by decide, by decide +kernel⟩ (by simp [z_cr, z_ci]) (Nat.le_of_ble_eq_true rfl) rfl ?_
  refine zi_aload_n 1 (dq dQ_writeInteger 0 rfl) rfl ?_
  obtain ⟨o1, eo1, ho1, h⟩ := q_o h
  refine zi_rc0 eo1 ?_
  refine ti_geti (zag_d hL _) ho1 (by decide) fQ_74 (dq dQ_writeInteger 1 rfl) ?_
  refine zi_if_eq (tgt := 27) (dq dQ_writeInteger 2 rfl) (by decide) (fun c => ?_) (fun c => ?_)
  · have h := q_t c h
    refine zi_iload_n 2 (dq dQ_writeInteger 15 rfl) rfl ?_
    obtain ⟨v2, hv2, h⟩ := q_c h
    refine zi_cSi1 (SI_byteCount  hv2 (d := d - 1) (by omega)) wI_byteCount aQ_86 tI_byteCount (by omega) (Nat.le_of_ble_eq_true rfl) (dq dQ_writeInteger 16 rfl) (fun _ _ hh => ?_)
    obtain ⟨rfl, rfl⟩ := hh
    refine zi_istC_n (lv' := [(3, _), (0, _), (1, _), (2, _)]) (dq dQ_writeInteger 17 rfl) (by decide) (by simp [z_cr, z_ci]) rfl ?_
    refine zi_aload_n 1 (dq dQ_writeInteger 18 rfl) rfl ?_
    obtain ⟨v3, J4, hv3, h⟩ := q_b h
    refine zi_cVv0 (SQ_align hL hv3 (d := d - 1) (by omega)) wQ_align aQ_38 iQ_align sQ_align (by omega) (zLs hL 27 rfl) rfl (Nat.le_of_ble_eq_true rfl) (dq dQ_writeInteger 19 rfl) (fun _ hh => ?_)
    subst hh
    refine zi_aload_n 1 (dq dQ_writeInteger 20 rfl) rfl ?_
    refine zi_iload_n 0 (dq dQ_writeInteger 21 rfl) rfl ?_
    refine zi_bipush (v := 8) (dq dQ_writeInteger 22 rfl) (by decide) ?_
    obtain ⟨v5, J6, hv5, h⟩ := q_b h
    refine zi_cVv2 (SQ_appendBits hL hv5 (d := d - 1) (by omega)) wQ_appendBits aQ_34 iQ_appendBits sQ_appendBits (by omega) (zLs hL 27 rfl) rfl (Nat.le_of_ble_eq_true rfl) (dq dQ_writeInteger 23 rfl) (fun _ hh => ?_)
    subst hh
    refine zi_aload_n 1 (dq dQ_writeInteger 24 rfl) rfl ?_
    refine zi_iload_n 3 (dq dQ_writeInteger 25 rfl) rfl ?_
    refine zi_bipush (v := 8) (dq dQ_writeInteger 26 rfl) (by decide) ?_
    refine zi_iload_n 0 (dq dQ_writeInteger 27 rfl) rfl ?_
    refine zi_imul (dq dQ_writeInteger 28 rfl) ?_
    obtain ⟨v7, J8, hv7, h⟩ := q_b h
    refine zi_cVv2 (SQ_appendBits hL hv7 (d := d - 1) (by omega)) wQ_appendBits aQ_34 iQ_appendBits sQ_appendBits (by omega) (zLs hL 27 rfl) rfl (Nat.le_of_ble_eq_true rfl) (dq dQ_writeInteger 29 rfl) (fun _ hh => ?_)
    subst hh
    exact zi_return rfl (dq dQ_writeInteger 30 rfl) (q_ru h)
  · have h := q_f c h
    refine zi_aload_n 0 (dq dQ_writeInteger 3 rfl) rfl ?_
    refine zi_iload_n 2 (dq dQ_writeInteger 4 rfl) rfl ?_
    refine zi_aload_n 1 (dq dQ_writeInteger 5 rfl) rfl ?_
    obtain ⟨o9, eo9, ho9, h⟩ := q_o h
    refine zi_rc0 eo9 ?_
    refine ti_geti (zag_d hL _) ho9 (by decide) fQ_77 (dq dQ_writeInteger 6 rfl) ?_
    refine zi_isub (dq dQ_writeInteger 7 rfl) ?_
    refine zi_aload_n 1 (dq dQ_writeInteger 8 rfl) rfl ?_
    obtain ⟨o10, eo10, ho10, h⟩ := q_o h
    refine zi_rc0 eo10 ?_
    refine ti_geti (zag_d hL _) ho10 (by decide) fQ_80 (dq dQ_writeInteger 9 rfl) ?_
    refine zi_aload_n 1 (dq dQ_writeInteger 10 rfl) rfl ?_
    obtain ⟨o11, eo11, ho11, h⟩ := q_o h
    refine zi_rc0 eo11 ?_
    refine ti_geti (zag_d hL _) ho11 (by decide) fQ_77 (dq dQ_writeInteger 11 rfl) ?_
    refine zi_isub (dq dQ_writeInteger 12 rfl) ?_
    obtain ⟨v12, J13, hv12, h⟩ := q_b h
    refine zi_cVv2 (SQ_appendNumber hL hv12 (d := d - 1) (by omega)) wQ_appendNumber aQ_83 iQ_appendNumber sQ_appendNumber (by omega) (zLs hL 27 rfl) rfl (Nat.le_of_ble_eq_true rfl) (dq dQ_writeInteger 13 rfl) (fun _ hh => ?_)
    subst hh
    exact zi_return rfl (dq dQ_writeInteger 14 rfl) (q_ru h)
def FQ_appendCount (N : Nat) (M0 : zM) (l1 : Option Nat) (l2 : Int32) (J : zJ) : Option (Unit × zJ) :=
  qo l1 M0 6 fun o1 =>
  if (zi M0 o1 1) = 0 then
    qb (FQ_align N M0 J) fun v2 J3 =>
    qb (FQ_appendBits N M0 l2 8 J3) fun v4 J5 =>
    some ((), J5)
  else
    qo l1 M0 6 fun o6 =>
    qo l1 M0 6 fun o7 =>
    qo l1 M0 6 fun o8 =>
    qb (FQ_appendNumber N M0 (l2 - (zi M0 o6 2)) ((zi M0 o7 3) - (zi M0 o8 2)) J) fun v9 J10 =>
    some ((), J10)
theorem SQ_appendCount {g : zg} {d N : Nat} {M0 : zM} {A : Nat} {r : Unit} {J1 : zJ} {J : zJ} {l1 : Option Nat} {l2 : Int32} (hL : zLy M0 A dShL dRf) (h : FQ_appendCount N M0 l1 l2 J = some (r, J1)) (hd : 2 ≤ d) : zEv g d mQ_appendCount [va_rf (some (A + 27)), va_rf l1, .int l2] (zmm M0 A 32 J) (fun Mq => Mq = zmm M0 A 32 J1) := by
  unfold FQ_appendCount at h
  refine zEu_q (r := r) (lv := [(0, va_rf (some (A + 27))), (1, va_rf l1), (2, .int l2)]) ⟨by decide +kernel, by decide, by decide +kernel⟩ (by simp [z_cr, z_ci]) (Nat.le_of_ble_eq_true rfl) rfl ?_
  refine zi_aload_n 1 (dq dQ_appendCount 0 rfl) rfl ?_
  obtain ⟨o1, eo1, ho1, h⟩ := q_o h
  refine zi_rc0 eo1 ?_
  refine ti_geti (zag_d hL _) ho1 (by decide) fQ_74 (dq dQ_appendCount 1 rfl) ?_
  refine zi_if_eq (tgt := 27) (dq dQ_appendCount 2 rfl) (by decide) (fun c => ?_) (fun c => ?_)
  · have h := q_t c h
    refine zi_aload_n 0 (dq dQ_appendCount 15 rfl) rfl ?_
    obtain ⟨v2, J3, hv2, h⟩ := q_b h
    refine zi_cVv0 (SQ_align hL hv2 (d := d - 1) (by omega)) wQ_align aQ_38 iQ_align sQ_align (by omega) (zLs hL 27 rfl) rfl (Nat.le_of_ble_eq_true rfl) (dq dQ_appendCount 16 rfl) (fun _ hh => ?_)
    subst hh
    refine zi_aload_n 0 (dq dQ_appendCount 17 rfl) rfl ?_
    refine zi_iload_n 2 (dq dQ_appendCount 18 rfl) rfl ?_
    refine zi_bipush (v := 8) (dq dQ_appendCount 19 rfl) (by decide) ?_
    obtain ⟨v4, J5, hv4, h⟩ := q_b h
    refine zi_cVv2 (SQ_appendBits hL hv4 (d := d - 1) (by omega)) wQ_appendBits aQ_34 iQ_appendBits sQ_appendBits (by omega) (zLs hL 27 rfl) rfl (Nat.le_of_ble_eq_true rfl) (dq dQ_appendCount 20 rfl) (fun _ hh => ?_)
    subst hh
    exact zi_return rfl (dq dQ_appendCount 21 rfl) (q_ru h)
  · have h := q_f c h
    refine zi_aload_n 0 (dq dQ_appendCount 3 rfl) rfl ?_
    refine zi_iload_n 2 (dq dQ_appendCount 4 rfl) rfl ?_
    refine zi_aload_n 1 (dq dQ_appendCount 5 rfl) rfl ?_
    obtain ⟨o6, eo6, ho6, h⟩ := q_o h
    refine zi_rc0 eo6 ?_
    refine ti_geti (zag_d hL _) ho6 (by decide) fQ_77 (dq dQ_appendCount 6 rfl) ?_
    refine zi_isub (dq dQ_appendCount 7 rfl) ?_
    refine zi_aload_n 1 (dq dQ_appendCount 8 rfl) rfl ?_
    obtain ⟨o7, eo7, ho7, h⟩ := q_o h
    refine zi_rc0 eo7 ?_
    refine ti_geti (zag_d hL _) ho7 (by decide) fQ_80 (dq dQ_appendCount 9 rfl) ?_
    refine zi_aload_n 1 (dq dQ_appendCount 10 rfl) rfl ?_
    obtain ⟨o8, eo8, ho8, h⟩ := q_o h
    refine zi_rc0 eo8 ?_
    refine ti_geti (zag_d hL _) ho8 (by decide) fQ_77 (dq dQ_appendCount 11 rfl) ?_
    refine zi_isub (dq dQ_appendCount 12 rfl) ?_
    obtain ⟨v9, J10, hv9, h⟩ := q_b h
    refine zi_cVv2 (SQ_appendNumber hL hv9 (d := d - 1) (by omega)) wQ_appendNumber aQ_83 iQ_appendNumber sQ_appendNumber (by omega) (zLs hL 27 rfl) rfl (Nat.le_of_ble_eq_true rfl) (dq dQ_appendCount 13 rfl) (fun _ hh => ?_)
    subst hh
    exact zi_return rfl (dq dQ_appendCount 14 rfl) (q_ru h)
def FQ_writeItems_9 (N : Nat) (M0 : zM) (rec : (Option Nat × Int32 × zJ) → Option (Unit × zJ)) (l1 : Option Nat) (l2 : Int32) (l3 : Int32) (K9 : (Int32 × zJ) → Option (Unit × zJ)) (s : Int32 × zJ) : Option (Unit × zJ) :=
  let l4 := s.1
  let J := s.2
  if l2 ≤ l4 then
    some ((), J)
  else
    qo l1 M0 6 fun o1 =>
    qb (rec ((zr M0 o1 9), (l3 + 1), J)) fun v2 J3 =>
    let y4 := l4 + (1)
    K9 (y4, J3)
theorem SQ_writeItems_9 {g : zg} {d N : Nat} {M0 : zM} {A : Nat} {rec : (Option Nat × Int32 × zJ) → Option (Unit × zJ)} {L : Nat} {r : Unit} {J1 : zJ}  {l1 : Option Nat} {l2 : Int32} {l3 : Int32} (hL : zLy M0 A dShL dRf) (hrec : ∀ s r, rec s = some r → ∀ d, L ≤ d → zEv g d mQ_writeValue [va_rf (some (A + 27)), va_rf s.1, .int s.2.1] (zmm M0 A 32 s.2.2) (fun Mq => Mq = zmm M0 A 32 r.2)) (hd : L + 3 ≤ d)  : ∀ n s, qfix (FQ_writeItems_9 N M0 rec l1 l2 l3) n s = some (r, J1) → zG g d mQ_writeItems (zPq (rU r) (zmm M0 A 32 J1)) (zmm M0 A 32 s.2) 9 [(0, va_rf (some (A + 27))), (1, va_rf l1), (2, .int l2), (3, .int l3), (4, .int s.1)] [] := by
  refine qfix_sound (fun K9 hK9 s h => ?_)
  unfold FQ_writeItems_9 at h
  refine zi_iload 4 (dq dQ_writeItems 6 rfl) rfl ?_
  refine zi_iload_n 2 (dq dQ_writeItems 7 rfl) rfl ?_
  refine zi_icmp_ge (tgt := 32) (dq dQ_writeItems 8 rfl) (by decide) (fun c => ?_) (fun c => ?_)
  · have h := q_t c h
    exact zi_return rfl (dq dQ_writeItems 18 rfl) (q_ru h)
  · have h := q_f c h
    refine zi_aload_n 0 (dq dQ_writeItems 9 rfl) rfl ?_
    refine zi_aload_n 1 (dq dQ_writeItems 10 rfl) rfl ?_
    obtain ⟨o1, eo1, ho1, h⟩ := q_o h
    refine zi_rc0 eo1 ?_
    refine ti_getr (zag_d hL _) ho1 (by decide) fQ_51 (dq dQ_writeItems 11 rfl) ?_
    refine zi_iload_n 3 (dq dQ_writeItems 12 rfl) rfl ?_
    refine zi_iconst (v := 1) (dq dQ_writeItems 13 rfl) (by decide) ?_
    refine zi_iadd (dq dQ_writeItems 14 rfl) ?_
    obtain ⟨v2, J3, hv2, h⟩ := q_b h
    refine zi_cVv2 (hrec _ _ hv2 (d - 1) (by omega)) wQ_writeValue aQ_30 iQ_writeValue sQ_writeValue (by omega) (zLs hL 27 rfl) rfl (Nat.le_of_ble_eq_true rfl) (dq dQ_writeItems 15 rfl) (fun _ hh => ?_)
    subst hh
    refine zi_iincC (v := _ + (1)) (lv' := [(4, _), (0, _), (1, _), (2, _), (3, _)]) 4 (dq dQ_writeItems 16 rfl) rfl rfl (by decide) (by simp [z_cr, z_ci]) rfl ?_
    refine zi_goto (tgt := 9) (dq dQ_writeItems 17 rfl) (by decide) ?_
    exact zG_lv (zs_c 1 rfl (zs_c 2 rfl (zs_c 3 rfl (zs_c 4 rfl (zs_c 0 rfl zs_n))))) (hK9 _ h)
def FQ_writeItems (N : Nat) (M0 : zM) (rec : (Option Nat × Int32 × zJ) → Option (Unit × zJ)) (l1 : Option Nat) (l2 : Int32) (l3 : Int32) (J : zJ) : Option (Unit × zJ) :=
  qb (FQ_appendCount N M0 l1 l2 J) fun v1 J2 =>
  qfix (FQ_writeItems_9 N M0 rec l1 l2 l3) N (0, J2)
theorem SQ_writeItems {g : zg} {d N : Nat} {M0 : zM} {A : Nat} {rec : (Option Nat × Int32 × zJ) → Option (Unit × zJ)} {L : Nat} {r : Unit} {J1 : zJ} {J : zJ} {l1 : Option Nat} {l2 : Int32} {l3 : Int32} (hL : zLy M0 A dShL dRf) (hrec : ∀ s r, rec s = some r → ∀ d, L ≤ d → zEv g d mQ_writeValue [va_rf (some (A + 27)), va_rf s.1, .int s.2.1] (zmm M0 A 32 s.2.2) (fun Mq => Mq = zmm M0 A 32 r.2)) (h : FQ_writeItems N M0 rec l1 l2 l3 J = some (r, J1)) (hd : L + 3 ≤ d) : zEv g d mQ_writeItems [va_rf (some (A + 27)), va_rf l1, .int l2, .int l3] (zmm M0 A 32 J) (fun Mq => Mq = zmm M0 A 32 J1) := by
  unfold FQ_writeItems at h
  refine zEu_q (r := r) (lv := [(0, va_rf (some (A + 27))), (1, va_rf l1), (2, .int l2), (3, .int l3)]) ⟨by decide +kernel, by decide, by decide +kernel⟩ (by simp [z_cr, z_ci]) (Nat.le_of_ble_eq_true rfl) rfl ?_
  refine zi_aload_n 0 (dq dQ_writeItems 0 rfl) rfl ?_
  refine zi_aload_n 1 (dq dQ_writeItems 1 rfl) rfl ?_
  refine zi_iload_n 2 (dq dQ_writeItems 2 rfl) rfl ?_
  obtain ⟨v1, J2, hv1, h⟩ := q_b h
  refine zi_cVv2 (SQ_appendCount hL hv1 (d := d - 1) (by omega)) wQ_appendCount aQ_92 iQ_appendCount sQ_appendCount (by omega) (zLs hL 27 rfl) rfl (Nat.le_of_ble_eq_true rfl) (dq dQ_writeItems 3 rfl) (fun _ hh => ?_)
  subst hh
  refine zi_iconst (v := 0) (dq dQ_writeItems 4 rfl) (by decide) ?_
  refine zi_istC (lv' := [(4, _), (0, _), (1, _), (2, _), (3, _)]) (dq dQ_writeItems 5 rfl) (by decide) (by simp [z_cr, z_ci]) rfl ?_
  exact zG_lv (zs_c 1 rfl (zs_c 2 rfl (zs_c 3 rfl (zs_c 4 rfl (zs_c 0 rfl zs_n))))) (SQ_writeItems_9 hL hrec hd  _ _ h)
def FQ_writeOctets_39 (N : Nat) (M0 : zM) (l2 : Int32) (K39 : (Int32 × zJ) → Option (Unit × zJ)) (s : Int32 × zJ) : Option (Unit × zJ) :=
  let l3 := s.1
  let J := s.2
  qk (qi l2 100) <|
  if (J 18 l2.toNatClampNeg) ≤ l3 then
    some ((), J)
  else
    qb (FV_octetAt N M0 16 l2 l3 J) fun v2 J3 =>
    qb (FQ_appendBits N M0 v2 8 J3) fun v4 J5 =>
    let y6 := l3 + (1)
    K39 (y6, J5)
theorem SQ_writeOctets_39 {g : zg} {d N : Nat} {M0 : zM} {A : Nat} {r : Unit} {J1 : zJ}  {l2 : Int32} (hL : zLy M0 A dShL dRf) (hd : 3 ≤ d)  : ∀ n s, qfix (FQ_writeOctets_39 N M0 l2) n s = some (r, J1) → zG g d mQ_writeOctets (zPq (rU r) (zmm M0 A 32 J1)) (zmm M0 A 32 s.2) 39 [(0, va_rf (some (A + 27))), (2, .int l2), (3, .int s.1)] [] := by
  refine qfix_sound (fun K39 hK39 s h => ?_)
  unfold FQ_writeOctets_39 at h
  refine zi_iload_n 2 (dq dQ_writeOctets 21 rfl) rfl ?_
  refine zi_aload_n 0 (dq dQ_writeOctets 22 rfl) rfl ?_
  refine ri_getr (zLs hL 27 rfl) (zLr hL 5 rfl) fQ_15 (dq dQ_writeOctets 23 rfl) ?_
  refine ri_getr (zLs hL 16 rfl) (zLr hL 22 rfl) fQ_55 (dq dQ_writeOctets 24 rfl) ?_
  refine zi_iload_n 1 (dq dQ_writeOctets 25 rfl) rfl ?_
  obtain ⟨c1, h⟩ := q_k h
  refine ri_iald (zLs hL 18 rfl) (by decide) rfl c1 (dq dQ_writeOctets 26 rfl) ?_
  refine zi_icmp_ge (tgt := 73) (dq dQ_writeOctets 27 rfl) (by decide) (fun c => ?_) (fun c => ?_)
  · have h := q_t c h
    exact zi_return rfl (dq dQ_writeOctets 38 rfl) (q_ru h)
  · have h := q_f c h
    refine zi_aload_n 0 (dq dQ_writeOctets 28 rfl) rfl ?_
    refine zi_aload_n 0 (dq dQ_writeOctets 29 rfl) rfl ?_
    refine ri_getr (zLs hL 27 rfl) (zLr hL 5 rfl) fQ_15 (dq dQ_writeOctets 30 rfl) ?_
    refine zi_iload_n 1 (dq dQ_writeOctets 31 rfl) rfl ?_
    refine zi_iload_n 2 (dq dQ_writeOctets 32 rfl) rfl ?_
    obtain ⟨v2, J3, hv2, h⟩ := q_b h
    refine zi_cVi2 (SV_octetAt (dLy_v (Or.inr rfl) hL) (by decide) (zag_d hL) hv2 (d := d - 1) (by omega)) wV_octetAt aQ_99 iV_octetAt sV_octetAt (by omega) (zLs hL 16 rfl) rfl (Nat.le_of_ble_eq_true rfl) (dq dQ_writeOctets 33 rfl) (fun _ _ hh => ?_)
    obtain ⟨rfl, rfl⟩ := hh
    refine zi_bipush (v := 8) (dq dQ_writeOctets 34 rfl) (by decide) ?_
    obtain ⟨v4, J5, hv4, h⟩ := q_b h
    refine zi_cVv2 (SQ_appendBits hL hv4 (d := d - 1) (by omega)) wQ_appendBits aQ_34 iQ_appendBits sQ_appendBits (by omega) (zLs hL 27 rfl) rfl (Nat.le_of_ble_eq_true rfl) (dq dQ_writeOctets 35 rfl) (fun _ hh => ?_)
    subst hh
    refine zi_iincC (v := _ + (1)) (lv' := [(3, _), (0, _), (2, _)]) 2 (dq dQ_writeOctets 36 rfl) rfl rfl (by decide) (by simp [z_cr, z_ci]) rfl ?_
    refine zi_goto (tgt := 39) (dq dQ_writeOctets 37 rfl) (by decide) ?_
    exact zG_lv (zs_c 1 rfl (zs_c 2 rfl (zs_c 0 rfl zs_n))) (hK39 _ h)
def FQ_writeOctets (N : Nat) (M0 : zM) (l1 : Option Nat) (l2 : Int32) (J : zJ) : Option (Unit × zJ) :=
  qk (qi l2 100) <|
  qb (FQ_appendCount N M0 l1 (J 18 l2.toNatClampNeg) J) fun v2 J3 =>
  qk (qi l2 100) <|
  if (J3 18 l2.toNatClampNeg) ≤ 0 then
    qfix (FQ_writeOctets_39 N M0 l2) N (0, J3)
  else
    qo l1 M0 6 fun o5 =>
    qc (FT_isAlignedOctets N M0 o5) fun v6 =>
    if (bI v6) = 0 then
      qfix (FQ_writeOctets_39 N M0 l2) N (0, J3)
    else
      qb (FQ_align N M0 J3) fun v7 J8 =>
      qfix (FQ_writeOctets_39 N M0 l2) N (0, J8)
theorem SQ_writeOctets {g : zg} {d N : Nat} {M0 : zM} {A : Nat} {r : Unit} {J1 : zJ} {J : zJ} {l1 : Option Nat} {l2 : Int32} (hL : zLy M0 A dShL dRf) (h : FQ_writeOctets N M0 l1 l2 J = some (r, J1)) (hd : 3 ≤ d) : zEv g d mQ_writeOctets [va_rf (some (A + 27)), va_rf l1, .int l2] (zmm M0 A 32 J) (fun Mq => Mq = zmm M0 A 32 J1) := by
  unfold FQ_writeOctets at h
  refine zEu_q (r := r) (lv := [(0, va_rf (some (A + 27))), (1, va_rf l1), (2, .int l2)]) ⟨by decide +kernel, by decide, by decide +kernel⟩ (by simp [z_cr, z_ci]) (Nat.le_of_ble_eq_true rfl) rfl ?_
  refine zi_aload_n 0 (dq dQ_writeOctets 0 rfl) rfl ?_
  refine zi_aload_n 1 (dq dQ_writeOctets 1 rfl) rfl ?_
  refine zi_aload_n 0 (dq dQ_writeOctets 2 rfl) rfl ?_
  refine ri_getr (zLs hL 27 rfl) (zLr hL 5 rfl) fQ_15 (dq dQ_writeOctets 3 rfl) ?_
  refine ri_getr (zLs hL 16 rfl) (zLr hL 22 rfl) fQ_55 (dq dQ_writeOctets 4 rfl) ?_
  refine zi_iload_n 2 (dq dQ_writeOctets 5 rfl) rfl ?_
  obtain ⟨c1, h⟩ := q_k h
  refine ri_iald (zLs hL 18 rfl) (by decide) rfl c1 (dq dQ_writeOctets 6 rfl) ?_
  obtain ⟨v2, J3, hv2, h⟩ := q_b h
  refine zi_cVv2 (SQ_appendCount hL hv2 (d := d - 1) (by omega)) wQ_appendCount aQ_92 iQ_appendCount sQ_appendCount (by omega) (zLs hL 27 rfl) rfl (Nat.le_of_ble_eq_true rfl) (dq dQ_writeOctets 7 rfl) (fun _ hh => ?_)
  subst hh
  refine zi_aload_n 0 (dq dQ_writeOctets 8 rfl) rfl ?_
  refine ri_getr (zLs hL 27 rfl) (zLr hL 5 rfl) fQ_15 (dq dQ_writeOctets 9 rfl) ?_
  refine ri_getr (zLs hL 16 rfl) (zLr hL 22 rfl) fQ_55 (dq dQ_writeOctets 10 rfl) ?_
  refine zi_iload_n 2 (dq dQ_writeOctets 11 rfl) rfl ?_
  obtain ⟨c4, h⟩ := q_k h
  refine ri_iald (zLs hL 18 rfl) (by decide) rfl c4 (dq dQ_writeOctets 12 rfl) ?_
  refine zi_if_le (tgt := 37) (dq dQ_writeOctets 13 rfl) (by decide) (fun c => ?_) (fun c => ?_)
  · have h := q_t c h
    refine zi_iconst (v := 0) (dq dQ_writeOctets 19 rfl) (by decide) ?_
    refine zi_istC_n (lv' := [(3, _), (0, _), (1, _), (2, _)]) (dq dQ_writeOctets 20 rfl) (by decide) (by simp [z_cr, z_ci]) rfl ?_
    exact zG_lv (zs_c 1 rfl (zs_c 3 rfl (zs_c 0 rfl zs_n))) (SQ_writeOctets_39 hL hd  _ _ h)
  · have h := q_f c h
    refine zi_aload_n 1 (dq dQ_writeOctets 14 rfl) rfl ?_
    obtain ⟨o5, eo5, ho5, h⟩ := q_o h
    refine zi_rc0 eo5 ?_
    obtain ⟨v6, hv6, h⟩ := q_c h
    refine zi_cVi0 (ST_isAlignedOctets (zag_d hL _) ho5 hv6 (d := d - 1) (by omega)) wT_isAlignedOctets aQ_95 iT_isAlignedOctets sT_isAlignedOctets (by omega) ((zag_d hL _) _ _ (by decide) ho5).1 rfl (Nat.le_of_ble_eq_true rfl) (dq dQ_writeOctets 15 rfl) (fun _ _ hh => ?_)
    obtain ⟨rfl, rfl⟩ := hh
    refine zi_if_eq (tgt := 37) (dq dQ_writeOctets 16 rfl) (by decide) (fun c => ?_) (fun c => ?_)
    · have h := q_t c h
      refine zi_iconst (v := 0) (dq dQ_writeOctets 19 rfl) (by decide) ?_
      refine zi_istC_n (lv' := [(3, _), (0, _), (1, _), (2, _)]) (dq dQ_writeOctets 20 rfl) (by decide) (by simp [z_cr, z_ci]) rfl ?_
      exact zG_lv (zs_c 1 rfl (zs_c 3 rfl (zs_c 0 rfl zs_n))) (SQ_writeOctets_39 hL hd  _ _ h)
    · have h := q_f c h
      refine zi_aload_n 0 (dq dQ_writeOctets 17 rfl) rfl ?_
      obtain ⟨v7, J8, hv7, h⟩ := q_b h
      refine zi_cVv0 (SQ_align hL hv7 (d := d - 1) (by omega)) wQ_align aQ_38 iQ_align sQ_align (by omega) (zLs hL 27 rfl) rfl (Nat.le_of_ble_eq_true rfl) (dq dQ_writeOctets 18 rfl) (fun _ hh => ?_)
      subst hh
      refine zi_iconst (v := 0) (dq dQ_writeOctets 19 rfl) (by decide) ?_
      refine zi_istC_n (lv' := [(3, _), (0, _), (1, _), (2, _)]) (dq dQ_writeOctets 20 rfl) (by decide) (by simp [z_cr, z_ci]) rfl ?_
      exact zG_lv (zs_c 1 rfl (zs_c 3 rfl (zs_c 0 rfl zs_n))) (SQ_writeOctets_39 hL hd  _ _ h)
def FQ_writeValue (N : Nat) (M0 : zM) (rec : (Option Nat × Int32 × zJ) → Option (Unit × zJ)) (l1 : Option Nat) (l2 : Int32) (J : zJ) : Option (Unit × zJ) :=
  if l1 = none then
    let J1 := zu J 27 4 1
    some ((), J1)
  else
    if 6 ≤ l2 then
      let J2 := zu J 27 4 1
      some ((), J2)
    else
      if (J 27 3) < (J 16 0) then
        qo l1 M0 6 fun o3 =>
        if (zi M0 o3 0) = 10 then
          qo l1 M0 6 fun o21 =>
          qb (rec ((zr M0 o21 9), (l2 + 1), J)) fun v22 J23 =>
          some ((), J23)
        else
          let y4 := J 27 3
          let J5 := zu J 27 3 ((J 27 3) + 1)
          qk (qi y4 100) <|
          let y7 := J5 18 y4.toNatClampNeg
          qo l1 M0 6 fun o8 =>
          if (zi M0 o8 0) = 1 then
            qb (FQ_appendBits N M0 y7 1 J5) fun v9 J10 =>
            some ((), J10)
          else
            if (zi M0 o8 0) = 2 then
              qb (FQ_writeInteger N M0 l1 y7 J5) fun v11 J12 =>
              some ((), J12)
            else
              if (zi M0 o8 0) = 4 then
                qb (FQ_writeOctets N M0 l1 y4 J5) fun v13 J14 =>
                some ((), J14)
              else
                if (zi M0 o8 0) = 6 then
                  qb (FQ_writeComponents N M0 rec l1 y4 l2 J5) fun v15 J16 =>
                  some ((), J16)
                else
                  if (zi M0 o8 0) = 7 then
                    qb (FQ_writeItems N M0 rec l1 y7 l2 J5) fun v17 J18 =>
                    some ((), J18)
                  else
                    if (zi M0 o8 0) = 9 then
                      qb (FQ_writeChoice N M0 rec l1 y7 l2 J5) fun v19 J20 =>
                      some ((), J20)
                    else
                      some ((), J5)
      else
        let J24 := zu J 27 4 1
        some ((), J24)
theorem SQ_writeValue {g : zg} {d N : Nat} {M0 : zM} {A : Nat} {rec : (Option Nat × Int32 × zJ) → Option (Unit × zJ)} {L : Nat} {r : Unit} {J1 : zJ} {J : zJ} {l1 : Option Nat} {l2 : Int32} (hL : zLy M0 A dShL dRf) (hrec : ∀ s r, rec s = some r → ∀ d, L ≤ d → zEv g d mQ_writeValue [va_rf (some (A + 27)), va_rf s.1, .int s.2.1] (zmm M0 A 32 s.2.2) (fun Mq => Mq = zmm M0 A 32 r.2)) (h : FQ_writeValue N M0 rec l1 l2 J = some (r, J1)) (hd : L + 4 ≤ d) : zEv g d mQ_writeValue [va_rf (some (A + 27)), va_rf l1, .int l2] (zmm M0 A 32 J) (fun Mq => Mq = zmm M0 A 32 J1) := by
  unfold FQ_writeValue at h
  refine zEu_q (r := r) (lv := [(0, va_rf (some (A + 27))), (1, va_rf l1), (2, .int l2)]) ⟨by decide +kernel, by decide, by decide +kernel⟩ (by simp [z_cr, z_ci]) (Nat.le_of_ble_eq_true rfl) rfl ?_
  refine zi_aload_n 1 (dq dQ_writeValue 0 rfl) rfl ?_
  refine zi_ifnull (tgt := 24) (dq dQ_writeValue 1 rfl) (by decide) (fun c => ?_) (fun _ c => ?_)
  · have h := q_t c h
    refine zi_aload_n 0 (dq dQ_writeValue 11 rfl) rfl ?_
    refine zi_iconst (v := 1) (dq dQ_writeValue 12 rfl) (by decide) ?_
    refine ri_puti (zLs hL 27 rfl) (by decide) fQ_26 (fun h => by cases h) (by decide) (by decide) (dq dQ_writeValue 13 rfl) ?_
    exact zi_return rfl (dq dQ_writeValue 14 rfl) (q_ru h)
  · have h := q_f (by rw [c]; exact nofun) h
    refine zi_iload_n 2 (dq dQ_writeValue 2 rfl) rfl ?_
    refine zi_bipush (v := 6) (dq dQ_writeValue 3 rfl) (by decide) ?_
    refine zi_icmp_ge (tgt := 24) (dq dQ_writeValue 4 rfl) (by decide) (fun c => ?_) (fun c => ?_)
    · have h := q_t c h
      refine zi_aload_n 0 (dq dQ_writeValue 11 rfl) rfl ?_
      refine zi_iconst (v := 1) (dq dQ_writeValue 12 rfl) (by decide) ?_
      refine ri_puti (zLs hL 27 rfl) (by decide) fQ_26 (fun h => by cases h) (by decide) (by decide) (dq dQ_writeValue 13 rfl) ?_
      exact zi_return rfl (dq dQ_writeValue 14 rfl) (q_ru h)
    · have h := q_f c h
      refine zi_aload_n 0 (dq dQ_writeValue 5 rfl) rfl ?_
      refine ri_geti (zLs hL 27 rfl) (by decide) fQ_23 (dq dQ_writeValue 6 rfl) ?_
      refine zi_aload_n 0 (dq dQ_writeValue 7 rfl) rfl ?_
      refine ri_getr (zLs hL 27 rfl) (zLr hL 5 rfl) fQ_15 (dq dQ_writeValue 8 rfl) ?_
      refine ri_geti (zLs hL 16 rfl) (by decide) fQ_41 (dq dQ_writeValue 9 rfl) ?_
      refine zi_icmp_lt (tgt := 30) (dq dQ_writeValue 10 rfl) (by decide) (fun c => ?_) (fun c => ?_)
      · have h := q_t c h
        refine zi_aload_n 1 (dq dQ_writeValue 15 rfl) rfl ?_
        obtain ⟨o3, eo3, ho3, h⟩ := q_o h
        refine zi_rc0 eo3 ?_
        refine ti_geti (zag_d hL _) ho3 (by decide) fQ_46 (dq dQ_writeValue 16 rfl) ?_
        refine zi_bipush (v := 10) (dq dQ_writeValue 17 rfl) (by decide) ?_
        refine zi_icmp_ne (tgt := 51) (dq dQ_writeValue 18 rfl) (by decide) (fun c => ?_) (fun c => ?_)
        · have h := q_f c h
          refine zi_aload_n 0 (dq dQ_writeValue 27 rfl) rfl ?_
          refine ri_geti (zLs hL 27 rfl) (by decide) fQ_23 (dq dQ_writeValue 28 rfl) ?_
          refine zi_istC_n (lv' := [(3, _), (0, _), (1, _), (2, _)]) (dq dQ_writeValue 29 rfl) (by decide) (by simp [z_cr, z_ci]) rfl ?_
          refine zi_aload_n 1 (dq dQ_writeValue 30 rfl) rfl ?_
          refine zi_dup (dq dQ_writeValue 31 rfl) (by first | rfl | exact z_cr _) ?_
          refine ri_geti (zLs hL 27 rfl) (by decide) fQ_23 (dq dQ_writeValue 32 rfl) ?_
          refine zi_iconst (v := 1) (dq dQ_writeValue 33 rfl) (by decide) ?_
          refine zi_iadd (dq dQ_writeValue 34 rfl) ?_
          refine ri_puti (zLs hL 27 rfl) (by decide) fQ_23 (fun h => by cases h) rfl rfl (dq dQ_writeValue 35 rfl) ?_
          refine zi_aload_n 1 (dq dQ_writeValue 36 rfl) rfl ?_
          refine ri_getr (zLs hL 27 rfl) (zLr hL 5 rfl) fQ_15 (dq dQ_writeValue 37 rfl) ?_
          refine ri_getr (zLs hL 16 rfl) (zLr hL 22 rfl) fQ_55 (dq dQ_writeValue 38 rfl) ?_
          refine zi_iload_n 0 (dq dQ_writeValue 39 rfl) rfl ?_
          obtain ⟨c6, h⟩ := q_k h
          refine ri_iald (zLs hL 18 rfl) (by decide) rfl c6 (dq dQ_writeValue 40 rfl) ?_
          refine zi_istC (lv' := [(4, _), (3, _), (0, _), (1, _), (2, _)]) (dq dQ_writeValue 41 rfl) (by decide) (by simp [z_cr, z_ci]) rfl ?_
          refine zi_aload_n 3 (dq dQ_writeValue 42 rfl) rfl ?_
          obtain ⟨o8, eo8, ho8, h⟩ := q_o h
          refine zi_rc0 eo8 ?_
          refine ti_geti (zag_d hL _) ho8 (by decide) fQ_46 (dq dQ_writeValue 43 rfl) ?_
          rcases q_w h with ⟨c1, h⟩ | ⟨c1, h⟩
          · refine zi_top c1 ?_
            refine zi_tableIn (tgt := 132) (dq dQ_writeValue 44 rfl) (by decide) (by decide) rfl (by decide) ?_
            refine zi_aload_n 2 (dq dQ_writeValue 45 rfl) rfl ?_
            refine zi_iload 0 (dq dQ_writeValue 46 rfl) rfl ?_
            refine zi_iconst (v := 1) (dq dQ_writeValue 47 rfl) (by decide) ?_
            obtain ⟨v9, J10, hv9, h⟩ := q_b h
            refine zi_cVv2 (SQ_appendBits hL hv9 (d := d - 1) (by omega)) wQ_appendBits aQ_34 iQ_appendBits sQ_appendBits (by omega) (zLs hL 27 rfl) rfl (Nat.le_of_ble_eq_true rfl) (dq dQ_writeValue 48 rfl) (fun _ hh => ?_)
            subst hh
            refine zi_goto (tgt := 193) (dq dQ_writeValue 49 rfl) (by decide) ?_
            exact zi_return rfl (dq dQ_writeValue 78 rfl) (q_ru h)
          rcases q_w h with ⟨c2, h⟩ | ⟨c2, h⟩
          · refine zi_top c2 ?_
            refine zi_tableIn (tgt := 142) (dq dQ_writeValue 44 rfl) (by decide) (by decide) rfl (by decide) ?_
            refine zi_aload_n 2 (dq dQ_writeValue 50 rfl) rfl ?_
            refine zi_aload_n 3 (dq dQ_writeValue 51 rfl) rfl ?_
            refine zi_iload 0 (dq dQ_writeValue 52 rfl) rfl ?_
            obtain ⟨v11, J12, hv11, h⟩ := q_b h
            refine zi_cVv2 (SQ_writeInteger hL hv11 (d := d - 1) (by omega)) wQ_writeInteger aQ_58 iQ_writeInteger sQ_writeInteger (by omega) (zLs hL 27 rfl) rfl (Nat.le_of_ble_eq_true rfl) (dq dQ_writeValue 53 rfl) (fun _ hh => ?_)
            subst hh
            refine zi_goto (tgt := 193) (dq dQ_writeValue 54 rfl) (by decide) ?_
            exact zi_return rfl (dq dQ_writeValue 78 rfl) (q_ru h)
          rcases q_w h with ⟨c4, h⟩ | ⟨c4, h⟩
          · refine zi_top c4 ?_
            refine zi_tableIn (tgt := 152) (dq dQ_writeValue 44 rfl) (by decide) (by decide) rfl (by decide) ?_
            refine zi_aload_n 2 (dq dQ_writeValue 55 rfl) rfl ?_
            refine zi_aload_n 3 (dq dQ_writeValue 56 rfl) rfl ?_
            refine zi_iload_n 1 (dq dQ_writeValue 57 rfl) rfl ?_
            obtain ⟨v13, J14, hv13, h⟩ := q_b h
            refine zi_cVv2 (SQ_writeOctets hL hv13 (d := d - 1) (by omega)) wQ_writeOctets aQ_61 iQ_writeOctets sQ_writeOctets (by omega) (zLs hL 27 rfl) rfl (Nat.le_of_ble_eq_true rfl) (dq dQ_writeValue 58 rfl) (fun _ hh => ?_)
            subst hh
            refine zi_goto (tgt := 193) (dq dQ_writeValue 59 rfl) (by decide) ?_
            exact zi_return rfl (dq dQ_writeValue 78 rfl) (q_ru h)
          rcases q_w h with ⟨c6, h⟩ | ⟨c6, h⟩
          · refine zi_top c6 ?_
            refine zi_tableIn (tgt := 161) (dq dQ_writeValue 44 rfl) (by decide) (by decide) rfl (by decide) ?_
            refine zi_aload_n 2 (dq dQ_writeValue 60 rfl) rfl ?_
            refine zi_aload_n 3 (dq dQ_writeValue 61 rfl) rfl ?_
            refine zi_iload_n 1 (dq dQ_writeValue 62 rfl) rfl ?_
            refine zi_iload_n 4 (dq dQ_writeValue 63 rfl) rfl ?_
            obtain ⟨v15, J16, hv15, h⟩ := q_b h
            refine zi_cVv3 (SQ_writeComponents hL hrec hv15 (d := d - 1) (by omega)) wQ_writeComponents aQ_64 iQ_writeComponents sQ_writeComponents (by omega) (zLs hL 27 rfl) rfl (Nat.le_of_ble_eq_true rfl) (dq dQ_writeValue 64 rfl) (fun _ hh => ?_)
            subst hh
            refine zi_goto (tgt := 193) (dq dQ_writeValue 65 rfl) (by decide) ?_
            exact zi_return rfl (dq dQ_writeValue 78 rfl) (q_ru h)
          rcases q_w h with ⟨c7, h⟩ | ⟨c7, h⟩
          · refine zi_top c7 ?_
            refine zi_tableIn (tgt := 171) (dq dQ_writeValue 44 rfl) (by decide) (by decide) rfl (by decide) ?_
            refine zi_aload_n 2 (dq dQ_writeValue 66 rfl) rfl ?_
            refine zi_aload_n 3 (dq dQ_writeValue 67 rfl) rfl ?_
            refine zi_iload 0 (dq dQ_writeValue 68 rfl) rfl ?_
            refine zi_iload_n 4 (dq dQ_writeValue 69 rfl) rfl ?_
            obtain ⟨v17, J18, hv17, h⟩ := q_b h
            refine zi_cVv3 (SQ_writeItems hL hrec hv17 (d := d - 1) (by omega)) wQ_writeItems aQ_68 iQ_writeItems sQ_writeItems (by omega) (zLs hL 27 rfl) rfl (Nat.le_of_ble_eq_true rfl) (dq dQ_writeValue 70 rfl) (fun _ hh => ?_)
            subst hh
            refine zi_goto (tgt := 193) (dq dQ_writeValue 71 rfl) (by decide) ?_
            exact zi_return rfl (dq dQ_writeValue 78 rfl) (q_ru h)
          rcases q_w h with ⟨c9, h⟩ | ⟨c9, h⟩
          · refine zi_top c9 ?_
            refine zi_tableIn (tgt := 182) (dq dQ_writeValue 44 rfl) (by decide) (by decide) rfl (by decide) ?_
            refine zi_aload_n 2 (dq dQ_writeValue 72 rfl) rfl ?_
            refine zi_aload_n 3 (dq dQ_writeValue 73 rfl) rfl ?_
            refine zi_iload 0 (dq dQ_writeValue 74 rfl) rfl ?_
            refine zi_iload_n 4 (dq dQ_writeValue 75 rfl) rfl ?_
            obtain ⟨v19, J20, hv19, h⟩ := q_b h
            refine zi_cVv3 (SQ_writeChoice hL hrec hv19 (d := d - 1) (by omega)) wQ_writeChoice aQ_71 iQ_writeChoice sQ_writeChoice (by omega) (zLs hL 27 rfl) rfl (Nat.le_of_ble_eq_true rfl) (dq dQ_writeValue 76 rfl) (fun _ hh => ?_)
            subst hh
            refine zi_goto (tgt := 193) (dq dQ_writeValue 77 rfl) (by decide) ?_
            exact zi_return rfl (dq dQ_writeValue 78 rfl) (q_ru h)
          refine zi_tableDef (tgt := 193) (vals := [1, 2, 4, 6, 7, 9]) (dq dQ_writeValue 44 rfl) (List.forall_mem_cons.mpr ⟨c1, List.forall_mem_cons.mpr ⟨c2, List.forall_mem_cons.mpr ⟨c4, List.forall_mem_cons.mpr ⟨c6, List.forall_mem_cons.mpr ⟨c7, List.forall_mem_cons.mpr ⟨c9, fun _ h => absurd h List.not_mem_nil⟩⟩⟩⟩⟩⟩) (by decide) (by decide) (by decide) ?_
          exact zi_return rfl (dq dQ_writeValue 78 rfl) (q_ru h)
        · have h := q_t c h
          refine zi_aload_n 0 (dq dQ_writeValue 19 rfl) rfl ?_
          refine zi_aload_n 1 (dq dQ_writeValue 20 rfl) rfl ?_
          obtain ⟨o21, eo21, ho21, h⟩ := q_o h
          refine zi_rc0 eo21 ?_
          refine ti_getr (zag_d hL _) ho21 (by decide) fQ_51 (dq dQ_writeValue 21 rfl) ?_
          refine zi_iload_n 2 (dq dQ_writeValue 22 rfl) rfl ?_
          refine zi_iconst (v := 1) (dq dQ_writeValue 23 rfl) (by decide) ?_
          refine zi_iadd (dq dQ_writeValue 24 rfl) ?_
          obtain ⟨v22, J23, hv22, h⟩ := q_b h
          refine zi_cVv2 (hrec _ _ hv22 (d - 1) (by omega)) wQ_writeValue aQ_30 iQ_writeValue sQ_writeValue (by omega) (zLs hL 27 rfl) rfl (Nat.le_of_ble_eq_true rfl) (dq dQ_writeValue 25 rfl) (fun _ hh => ?_)
          subst hh
          exact zi_return rfl (dq dQ_writeValue 26 rfl) (q_ru h)
      · have h := q_f c h
        refine zi_aload_n 0 (dq dQ_writeValue 11 rfl) rfl ?_
        refine zi_iconst (v := 1) (dq dQ_writeValue 12 rfl) (by decide) ?_
        refine ri_puti (zLs hL 27 rfl) (by decide) fQ_26 (fun h => by cases h) (by decide) (by decide) (dq dQ_writeValue 13 rfl) ?_
        exact zi_return rfl (dq dQ_writeValue 14 rfl) (q_ru h)
def RQ_writeValue (N : Nat) (M0 : zM) : Nat → (Option Nat × Int32 × zJ) → Option (Unit × zJ) := qfix (fun rec s => FQ_writeValue N M0 rec s.1 s.2.1 s.2.2)
theorem TQ_writeValue {g : zg} {M0 : zM} {A N : Nat} (hL : zLy M0 A dShL dRf)  : ∀ n s r, RQ_writeValue N M0 n s = some r → ∀ d, 4 * n ≤ d → zEv g d mQ_writeValue [va_rf (some (A + 27)), va_rf s.1, .int s.2.1] (zmm M0 A 32 s.2.2) (fun Mq => Mq = zmm M0 A 32 r.2) := by
  refine qrec_sound (fun n rec hrec s r h d hd => ?_)
  obtain ⟨r1, r2⟩ := r
  exact SQ_writeValue (L := 4 * n) hL hrec h (by omega)
def FQ_writeAll_42 (N : Nat) (M0 : zM) (J : zJ) : Option (Int32 × zJ) :=
  qb (FQ_align N M0 J) fun v1 J2 =>
  if (J2 27 4) = 0 then
    some (((J2 27 2) >>> (3 &&& 31)), J2)
  else
    some (((-1)), J2)
theorem SQ_writeAll_42 {g : zg} {d N : Nat} {M0 : zM} {A : Nat} {r : Int32} {J1 : zJ} {J : zJ}   (hL : zLy M0 A dShL dRf) (h : FQ_writeAll_42 N M0 J = some (r, J1)) (hd : 33 ≤ d)  : zG g d mQ_writeAll (zPq (rI r) (zmm M0 A 32 J1)) (zmm M0 A 32 J) 42 [(0, va_rf (some (A + 27)))] [] := by
  unfold FQ_writeAll_42 at h
  refine zi_aload_n 0 (dq dQ_writeAll 25 rfl) rfl ?_
  obtain ⟨v1, J2, hv1, h⟩ := q_b h
  refine zi_cVv0 (SQ_align hL hv1 (d := d - 1) (by omega)) wQ_align aQ_38 iQ_align sQ_align (by omega) (zLs hL 27 rfl) rfl (Nat.le_of_ble_eq_true rfl) (dq dQ_writeAll 26 rfl) (fun _ hh => ?_)
  subst hh
  refine zi_aload_n 0 (dq dQ_writeAll 27 rfl) rfl ?_
  refine ri_geti (zLs hL 27 rfl) (by decide) fQ_26 (dq dQ_writeAll 28 rfl) ?_
  refine zi_if_eq (tgt := 57) (dq dQ_writeAll 29 rfl) (by decide) (fun c => ?_) (fun c => ?_)
  · have h := q_t c h
    refine zi_aload_n 0 (dq dQ_writeAll 32 rfl) rfl ?_
    refine ri_geti (zLs hL 27 rfl) (by decide) fQ_19 (dq dQ_writeAll 33 rfl) ?_
    refine zi_iconst (v := 3) (dq dQ_writeAll 34 rfl) (by decide) ?_
    refine zi_ishr (dq dQ_writeAll 35 rfl) ?_
    exact zi_ireturn rfl rfl (dq dQ_writeAll 36 rfl) (q_ri h)
  · have h := q_f c h
    refine zi_iconst (v := (-1)) (dq dQ_writeAll 30 rfl) (by decide) ?_
    refine zi_goto (tgt := 63) (dq dQ_writeAll 31 rfl) (by decide) ?_
    exact zi_ireturn rfl rfl (dq dQ_writeAll 36 rfl) (q_ri h)
def FQ_writeAll (N : Nat) (M0 : zM) (l1 : Option Nat) (l2 : Int32) (J : zJ) : Option (Int32 × zJ) :=
  let J1 := zu J 27 2 (8 * l2)
  let J2 := zu J1 27 3 0
  let J3 := zu J2 27 4 0
  qb (RQ_writeValue N M0 8 (l1, 0, J3)) fun v4 J5 =>
  if (J5 27 2) = (8 * l2) then
    qb (FQ_appendBits N M0 0 8 J5) fun v6 J7 =>
    FQ_writeAll_42 N M0 J7
  else
    FQ_writeAll_42 N M0 J5
theorem SQ_writeAll {g : zg} {d N : Nat} {M0 : zM} {A : Nat} {r : Int32} {J1 : zJ} {J : zJ} {l1 : Option Nat} {l2 : Int32} (hL : zLy M0 A dShL dRf) (h : FQ_writeAll N M0 l1 l2 J = some (r, J1)) (hd : 33 ≤ d) : zEi g d mQ_writeAll [va_rf (some (A + 27)), va_rf l1, .int l2] (zmm M0 A 32 J) (fun v Mq => v = r ∧ Mq = zmm M0 A 32 J1) := by
  unfold FQ_writeAll at h
  refine zEi_q (r := r) (lv := [(0, va_rf (some (A + 27))), (1, va_rf l1), (2, .int l2)]) ⟨by decide +kernel, by decide, by decide +kernel⟩ (by simp [z_cr, z_ci]) (Nat.le_of_ble_eq_true rfl) rfl ?_
  refine zi_aload_n 0 (dq dQ_writeAll 0 rfl) rfl ?_
  refine zi_bipush (v := 8) (dq dQ_writeAll 1 rfl) (by decide) ?_
  refine zi_iload_n 2 (dq dQ_writeAll 2 rfl) rfl ?_
  refine zi_imul (dq dQ_writeAll 3 rfl) ?_
  refine ri_puti (zLs hL 27 rfl) (by decide) fQ_19 (fun h => by cases h) rfl rfl (dq dQ_writeAll 4 rfl) ?_
  refine zi_aload_n 0 (dq dQ_writeAll 5 rfl) rfl ?_
  refine zi_iconst (v := 0) (dq dQ_writeAll 6 rfl) (by decide) ?_
  refine ri_puti (zLs hL 27 rfl) (by decide) fQ_23 (fun h => by cases h) rfl rfl (dq dQ_writeAll 7 rfl) ?_
  refine zi_aload_n 0 (dq dQ_writeAll 8 rfl) rfl ?_
  refine zi_iconst (v := 0) (dq dQ_writeAll 9 rfl) (by decide) ?_
  refine ri_puti (zLs hL 27 rfl) (by decide) fQ_26 (fun h => by cases h) (by decide) (by decide) (dq dQ_writeAll 10 rfl) ?_
  refine zi_aload_n 0 (dq dQ_writeAll 11 rfl) rfl ?_
  refine zi_aload_n 1 (dq dQ_writeAll 12 rfl) rfl ?_
  refine zi_iconst (v := 0) (dq dQ_writeAll 13 rfl) (by decide) ?_
  obtain ⟨v4, J5, hv4, h⟩ := q_b h
  refine zi_cVv2 (TQ_writeValue hL 8 _ _ hv4 (d - 1) (by omega)) wQ_writeValue aQ_30 iQ_writeValue sQ_writeValue (by omega) (zLs hL 27 rfl) rfl (Nat.le_of_ble_eq_true rfl) (dq dQ_writeAll 14 rfl) (fun _ hh => ?_)
  subst hh
  refine zi_aload_n 0 (dq dQ_writeAll 15 rfl) rfl ?_
  refine ri_geti (zLs hL 27 rfl) (by decide) fQ_19 (dq dQ_writeAll 16 rfl) ?_
  refine zi_bipush (v := 8) (dq dQ_writeAll 17 rfl) (by decide) ?_
  refine zi_iload_n 2 (dq dQ_writeAll 18 rfl) rfl ?_
  refine zi_imul (dq dQ_writeAll 19 rfl) ?_
  refine zi_icmp_ne (tgt := 42) (dq dQ_writeAll 20 rfl) (by decide) (fun c => ?_) (fun c => ?_)
  · have h := q_f c h
    exact zG_lv (zs_c 0 rfl zs_n) (SQ_writeAll_42 hL h hd )
  · have h := q_t c h
    refine zi_aload_n 0 (dq dQ_writeAll 21 rfl) rfl ?_
    refine zi_iconst (v := 0) (dq dQ_writeAll 22 rfl) (by decide) ?_
    refine zi_bipush (v := 8) (dq dQ_writeAll 23 rfl) (by decide) ?_
    obtain ⟨v6, J7, hv6, h⟩ := q_b h
    refine zi_cVv2 (SQ_appendBits hL hv6 (d := d - 1) (by omega)) wQ_appendBits aQ_34 iQ_appendBits sQ_appendBits (by omega) (zLs hL 27 rfl) rfl (Nat.le_of_ble_eq_true rfl) (dq dQ_writeAll 24 rfl) (fun _ hh => ?_)
    subst hh
    exact zG_lv (zs_c 0 rfl zs_n) (SQ_writeAll_42 hL h hd )
