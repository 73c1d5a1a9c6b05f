/-! THE CLASS AS FUNCTIONS, 2 (tools/genC.py) -/
def FO_tagBitOf_50 (N : Nat) (l0 : Int32)  : Option (Int32) :=
  if l0 = 48 then
    some 65536
  else
    if l0 = 1 then
      some ((1 <<< (l0 &&& 31)))
    else
      if l0 = 2 then
        some ((1 <<< (l0 &&& 31)))
      else
        if l0 = 4 then
          some ((1 <<< (l0 &&& 31)))
        else
          if l0 = 5 then
            some ((1 <<< (l0 &&& 31)))
          else
            some 0
theorem SO_tagBitOf_50 {g : zg} {d N : Nat} {M : zM} {r : Int32}  {l0 : Int32}  (h : FO_tagBitOf_50 N l0 = some r) (hd : 0 ≤ d)  : zG g d mO_tagBitOf (zPq (rI r) (M)) (M) 50 [(0, .int l0)] [] := by
  unfold FO_tagBitOf_50 at h
  refine zi_iload_n 0 (dq dO_tagBitOf 28 rfl) rfl ?_
  refine zi_bipush (v := 48) (dq dO_tagBitOf 29 rfl) (by decide) ?_
  refine zi_icmp_ne (tgt := 59) (dq dO_tagBitOf 30 rfl) (by decide) (fun c => ?_) (fun c => ?_)
  · have h := q_f c h
    refine zi_iload_n 0 (dq dO_tagBitOf 33 rfl) rfl ?_
    refine zi_iconst (v := 1) (dq dO_tagBitOf 34 rfl) (by decide) ?_
    refine zi_icmp_eq (tgt := 79) (dq dO_tagBitOf 35 rfl) (by decide) (fun c => ?_) (fun c => ?_)
    · have h := q_t c h
      refine zi_iconst (v := 1) (dq dO_tagBitOf 45 rfl) (by decide) ?_
      refine zi_iload_n 0 (dq dO_tagBitOf 46 rfl) rfl ?_
      refine zi_ishl (dq dO_tagBitOf 47 rfl) ?_
      refine zi_goto (tgt := 86) (dq dO_tagBitOf 48 rfl) (by decide) ?_
      exact zi_ireturn rfl rfl (dq dO_tagBitOf 50 rfl) (q_riT h)
    · have h := q_f c h
      refine zi_iload_n 0 (dq dO_tagBitOf 36 rfl) rfl ?_
      refine zi_iconst (v := 2) (dq dO_tagBitOf 37 rfl) (by decide) ?_
      refine zi_icmp_eq (tgt := 79) (dq dO_tagBitOf 38 rfl) (by decide) (fun c => ?_) (fun c => ?_)
      · have h := q_t c h
        refine zi_iconst (v := 1) (dq dO_tagBitOf 45 rfl) (by decide) ?_
        refine zi_iload_n 0 (dq dO_tagBitOf 46 rfl) rfl ?_
        refine zi_ishl (dq dO_tagBitOf 47 rfl) ?_
        refine zi_goto (tgt := 86) (dq dO_tagBitOf 48 rfl) (by decide) ?_
        exact zi_ireturn rfl rfl (dq dO_tagBitOf 50 rfl) (q_riT h)
      · have h := q_f c h
        refine zi_iload_n 0 (dq dO_tagBitOf 39 rfl) rfl ?_
        refine zi_iconst (v := 4) (dq dO_tagBitOf 40 rfl) (by decide) ?_
        refine zi_icmp_eq (tgt := 79) (dq dO_tagBitOf 41 rfl) (by decide) (fun c => ?_) (fun c => ?_)
        · have h := q_t c h
          refine zi_iconst (v := 1) (dq dO_tagBitOf 45 rfl) (by decide) ?_
          refine zi_iload_n 0 (dq dO_tagBitOf 46 rfl) rfl ?_
          refine zi_ishl (dq dO_tagBitOf 47 rfl) ?_
          refine zi_goto (tgt := 86) (dq dO_tagBitOf 48 rfl) (by decide) ?_
          exact zi_ireturn rfl rfl (dq dO_tagBitOf 50 rfl) (q_riT h)
        · have h := q_f c h
          refine zi_iload_n 0 (dq dO_tagBitOf 42 rfl) rfl ?_
          refine zi_iconst (v := 5) (dq dO_tagBitOf 43 rfl) (by decide) ?_
          refine zi_icmp_ne (tgt := 85) (dq dO_tagBitOf 44 rfl) (by decide) (fun c => ?_) (fun c => ?_)
          · have h := q_f c h
            refine zi_iconst (v := 0) (dq dO_tagBitOf 49 rfl) (by decide) ?_
            exact zi_ireturn rfl rfl (dq dO_tagBitOf 50 rfl) (q_riT h)
          · have h := q_t c h
            refine zi_iconst (v := 1) (dq dO_tagBitOf 45 rfl) (by decide) ?_
            refine zi_iload_n 0 (dq dO_tagBitOf 46 rfl) rfl ?_
            refine zi_ishl (dq dO_tagBitOf 47 rfl) ?_
            refine zi_goto (tgt := 86) (dq dO_tagBitOf 48 rfl) (by decide) ?_
            exact zi_ireturn rfl rfl (dq dO_tagBitOf 50 rfl) (q_riT h)
  · have h := q_t c h
    refine zi_ldc (v := 65536) cO_155 (dq dO_tagBitOf 31 rfl) ?_
    exact zi_ireturn rfl rfl (dq dO_tagBitOf 32 rfl) (q_riT h)
def FO_tagBitOf_25 (N : Nat) (l0 : Int32)  : Option (Int32) :=
  if l0 < 128 then
    FO_tagBitOf_50 N l0
  else
    if 138 ≤ l0 then
      FO_tagBitOf_50 N l0
    else
      some ((1 <<< (((17 + l0) - 128) &&& 31)))
theorem SO_tagBitOf_25 {g : zg} {d N : Nat} {M : zM} {r : Int32}  {l0 : Int32}  (h : FO_tagBitOf_25 N l0 = some r) (hd : 0 ≤ d)  : zG g d mO_tagBitOf (zPq (rI r) (M)) (M) 25 [(0, .int l0)] [] := by
  unfold FO_tagBitOf_25 at h
  refine zi_iload_n 0 (dq dO_tagBitOf 14 rfl) rfl ?_
  refine zi_sipush (v := 128) (dq dO_tagBitOf 15 rfl) (by decide) ?_
  refine zi_icmp_lt (tgt := 50) (dq dO_tagBitOf 16 rfl) (by decide) (fun c => ?_) (fun c => ?_)
  · have h := q_t c h
    exact zG_lv (zs_c 0 rfl zs_n) (SO_tagBitOf_50  h hd )
  · have h := q_f c h
    refine zi_iload_n 0 (dq dO_tagBitOf 17 rfl) rfl ?_
    refine zi_sipush (v := 138) (dq dO_tagBitOf 18 rfl) (by decide) ?_
    refine zi_icmp_ge (tgt := 50) (dq dO_tagBitOf 19 rfl) (by decide) (fun c => ?_) (fun c => ?_)
    · have h := q_t c h
      exact zG_lv (zs_c 0 rfl zs_n) (SO_tagBitOf_50  h hd )
    · have h := q_f c h
      refine zi_iconst (v := 1) (dq dO_tagBitOf 20 rfl) (by decide) ?_
      refine zi_bipush (v := 17) (dq dO_tagBitOf 21 rfl) (by decide) ?_
      refine zi_iload_n 0 (dq dO_tagBitOf 22 rfl) rfl ?_
      refine zi_iadd (dq dO_tagBitOf 23 rfl) ?_
      refine zi_sipush (v := 128) (dq dO_tagBitOf 24 rfl) (by decide) ?_
      refine zi_isub (dq dO_tagBitOf 25 rfl) ?_
      refine zi_ishl (dq dO_tagBitOf 26 rfl) ?_
      exact zi_ireturn rfl rfl (dq dO_tagBitOf 27 rfl) (q_riT h)
def FO_tagBitOf (N : Nat) (l0 : Int32)  : Option (Int32) :=
  if l0 < 160 then
    FO_tagBitOf_25 N l0
  else
    if 170 ≤ l0 then
      FO_tagBitOf_25 N l0
    else
      some ((1 <<< (((17 + l0) - 160) &&& 31)))
theorem SO_tagBitOf {g : zg} {d N : Nat} {M : zM} {r : Int32} {l0 : Int32}  (h : FO_tagBitOf N l0 = some r) (hd : 0 ≤ d) : zEi g d mO_tagBitOf [.int l0] (M) (fun v Mq => v = r ∧ Mq = M) := by
  unfold FO_tagBitOf at h
  refine zEi_q (r := r) (lv := [(0, .int l0)]) ⟨by decide +kernel, by decide, by decide +kernel⟩ (by simp [z_cr, z_ci]) (Nat.le_of_ble_eq_true rfl) rfl ?_
  refine zi_iload_n 0 (dq dO_tagBitOf 0 rfl) rfl ?_
  refine zi_sipush (v := 160) (dq dO_tagBitOf 1 rfl) (by decide) ?_
  refine zi_icmp_lt (tgt := 25) (dq dO_tagBitOf 2 rfl) (by decide) (fun c => ?_) (fun c => ?_)
  · have h := q_t c h
    exact zG_lv (zs_c 0 rfl zs_n) (SO_tagBitOf_25  h hd )
  · have h := q_f c h
    refine zi_iload_n 0 (dq dO_tagBitOf 3 rfl) rfl ?_
    refine zi_sipush (v := 170) (dq dO_tagBitOf 4 rfl) (by decide) ?_
    refine zi_icmp_ge (tgt := 25) (dq dO_tagBitOf 5 rfl) (by decide) (fun c => ?_) (fun c => ?_)
    · have h := q_t c h
      exact zG_lv (zs_c 0 rfl zs_n) (SO_tagBitOf_25  h hd )
    · have h := q_f c h
      refine zi_iconst (v := 1) (dq dO_tagBitOf 6 rfl) (by decide) ?_
      refine zi_bipush (v := 17) (dq dO_tagBitOf 7 rfl) (by decide) ?_
      refine zi_iload_n 0 (dq dO_tagBitOf 8 rfl) rfl ?_
      refine zi_iadd (dq dO_tagBitOf 9 rfl) ?_
      refine zi_sipush (v := 160) (dq dO_tagBitOf 10 rfl) (by decide) ?_
      refine zi_isub (dq dO_tagBitOf 11 rfl) ?_
      refine zi_ishl (dq dO_tagBitOf 12 rfl) ?_
      exact zi_ireturn rfl rfl (dq dO_tagBitOf 13 rfl) (q_riT h)
def FO_nextTagBit (N : Nat) (M0 : zM) (l1 : Int32) (J : zJ) : Option (Int32 × zJ) :=
  if l1 ≤ (J 24 3) then
    some (0, J)
  else
    qk (qi (J 24 3) 120) <|
    qc (FO_tagBitOf N (J 6 (J 24 3).toNatClampNeg)) fun v2 =>
    some (v2, J)
theorem SO_nextTagBit {g : zg} {d N : Nat} {M0 : zM} {A : Nat} {r : Int32} {J1 : zJ} {J : zJ} {l1 : Int32} (hL : zLy M0 A dShL dRf) (h : FO_nextTagBit N M0 l1 J = some (r, J1)) (hd : 1 ≤ d) : zEi g d mO_nextTagBit [va_rf (some (A + 24)), .int l1] (zmm M0 A 32 J) (fun v Mq => v = r ∧ Mq = zmm M0 A 32 J1) := by
  unfold FO_nextTagBit at h
  refine zEi_q (r := r) (lv := [(0, va_rf (some (A + 24))), (1, .int l1)]) ⟨by decide +kernel, by decide, by decide +kernel⟩ (by simp [z_cr, z_ci]) (Nat.le_of_ble_eq_true rfl) rfl ?_
  refine zi_aload_n 0 (dq dO_nextTagBit 0 rfl) rfl ?_
  refine ri_geti (zLs hL 24 rfl) (by decide) fO_23 (dq dO_nextTagBit 1 rfl) ?_
  refine zi_iload_n 1 (dq dO_nextTagBit 2 rfl) rfl ?_
  refine zi_icmp_ge (tgt := 23) (dq dO_nextTagBit 3 rfl) (by decide) (fun c => ?_) (fun c => ?_)
  · have h := q_t c h
    refine zi_iconst (v := 0) (dq dO_nextTagBit 11 rfl) (by decide) ?_
    exact zi_ireturn rfl rfl (dq dO_nextTagBit 12 rfl) (q_ri h)
  · have h := q_f c h
    refine zi_aload_n 0 (dq dO_nextTagBit 4 rfl) rfl ?_
    refine ri_getr (zLs hL 24 rfl) (zLr hL 15 rfl) fO_9 (dq dO_nextTagBit 5 rfl) ?_
    refine zi_aload_n 0 (dq dO_nextTagBit 6 rfl) rfl ?_
    refine ri_geti (zLs hL 24 rfl) (by decide) fO_23 (dq dO_nextTagBit 7 rfl) ?_
    obtain ⟨c1, h⟩ := q_k h
    refine ri_iald (zLs hL 6 rfl) (by decide) rfl c1 (dq dO_nextTagBit 8 rfl) ?_
    obtain ⟨v2, hv2, h⟩ := q_c h
    refine zi_cSi1 (SO_tagBitOf  hv2 (d := d - 1) (by omega)) wO_tagBitOf aO_152 tO_tagBitOf (by omega) (Nat.le_of_ble_eq_true rfl) (dq dO_nextTagBit 9 rfl) (fun _ _ hh => ?_)
    obtain ⟨rfl, rfl⟩ := hh
    refine zi_goto (tgt := 24) (dq dO_nextTagBit 10 rfl) (by decide) ?_
    exact zi_ireturn rfl rfl (dq dO_nextTagBit 12 rfl) (q_ri h)
def FO_readChoice_32 (N : Nat) (M0 : zM) (rec : (Option Nat × Int32 × Int32 × Int32 × Int32 × Int32 × zJ) → Option (Bool × zJ)) (l4 : Int32) (l5 : Int32) (l6 : Option Nat) (t0 : Int32) (J : zJ) : Option (Bool × zJ) :=
  if t0 = ((-1)) then
    some (false, J)
  else
    qo l6 M0 1 fun o1 =>
    qk (qi t0 100) <|
    let J3 := zu J 18 t0.toNatClampNeg (zi M0 o1 1)
    qo l6 M0 1 fun o4 =>
    qb (rec ((zr M0 o4 0), ((-1)), t0, 0, l4, (l5 + 1), J3)) fun v5 J6 =>
    some (v5, J6)
theorem SO_readChoice_32 {g : zg} {d N : Nat} {M0 : zM} {A : Nat} {rec : (Option Nat × Int32 × Int32 × Int32 × Int32 × Int32 × zJ) → Option (Bool × zJ)} {L : Nat} {r : Bool} {J1 : zJ} {J : zJ}  {l4 : Int32} {l5 : Int32} {l6 : Option Nat} {t0 : Int32} (hL : zLy M0 A dShL dRf) (hrec : ∀ s r, rec s = some r → ∀ d, L ≤ d → zEi g d mO_readElement [va_rf (some (A + 24)), va_rf s.1, .int s.2.1, .int s.2.2.1, .int s.2.2.2.1, .int s.2.2.2.2.1, .int s.2.2.2.2.2.1] (zmm M0 A 32 s.2.2.2.2.2.2) (fun v Mq => v = bI r.1 ∧ Mq = zmm M0 A 32 r.2)) (h : FO_readChoice_32 N M0 rec l4 l5 l6 t0 J = some (r, J1)) (hd : L + 2 ≤ d)  : zG g d mO_readChoice (zPq (rB r) (zmm M0 A 32 J1)) (zmm M0 A 32 J) 32 [(0, va_rf (some (A + 24))), (4, .int l4), (5, .int l5), (6, va_rf l6)] [.int t0] := by
  unfold FO_readChoice_32 at h
  refine zi_istC (lv' := [(7, _), (0, _), (4, _), (5, _), (6, _)]) (dq dO_readChoice 16 rfl) (by decide) (by simp [z_cr, z_ci]) rfl ?_
  refine zi_iload 0 (dq dO_readChoice 17 rfl) rfl ?_
  refine zi_iconst (v := (-1)) (dq dO_readChoice 18 rfl) (by decide) ?_
  refine zi_icmp_ne (tgt := 42) (dq dO_readChoice 19 rfl) (by decide) (fun c => ?_) (fun c => ?_)
  · have h := q_f c h
    refine zi_aload_n 1 (dq dO_readChoice 22 rfl) rfl ?_
    refine ri_getr (zLs hL 24 rfl) (zLr hL 14 rfl) fO_15 (dq dO_readChoice 23 rfl) ?_
    refine ri_getr (zLs hL 16 rfl) (zLr hL 22 rfl) fO_89 (dq dO_readChoice 24 rfl) ?_
    refine zi_iload 0 (dq dO_readChoice 25 rfl) rfl ?_
    refine zi_aload 4 (dq dO_readChoice 26 rfl) rfl ?_
    obtain ⟨o1, eo1, ho1, h⟩ := q_o h
    refine zi_rc0 eo1 ?_
    refine ti_geti (zag_d hL _) ho1 (by decide) fO_92 (dq dO_readChoice 27 rfl) ?_
    obtain ⟨c2, h⟩ := q_k h
    refine ri_iast (zLs hL 18 rfl) (by decide) rfl c2 (dq dO_readChoice 28 rfl) ?_
    refine zi_aload_n 1 (dq dO_readChoice 29 rfl) rfl ?_
    refine zi_aload 4 (dq dO_readChoice 30 rfl) rfl ?_
    obtain ⟨o4, eo4, ho4, h⟩ := q_o h
    refine zi_rc0 eo4 ?_
    refine ti_getr (zag_d hL _) ho4 (by decide) fO_97 (dq dO_readChoice 31 rfl) ?_
    refine zi_iconst (v := (-1)) (dq dO_readChoice 32 rfl) (by decide) ?_
    refine zi_iload 0 (dq dO_readChoice 33 rfl) rfl ?_
    refine zi_iconst (v := 0) (dq dO_readChoice 34 rfl) (by decide) ?_
    refine zi_iload 2 (dq dO_readChoice 35 rfl) rfl ?_
    refine zi_iload 3 (dq dO_readChoice 36 rfl) rfl ?_
    refine zi_iconst (v := 1) (dq dO_readChoice 37 rfl) (by decide) ?_
    refine zi_iadd (dq dO_readChoice 38 rfl) ?_
    obtain ⟨v5, J6, hv5, h⟩ := q_b h
    refine zi_cVi6 (hrec _ _ hv5 (d - 1) (by omega)) wO_readElement aO_27 iO_readElement sO_readElement (by omega) (zLs hL 24 rfl) rfl (Nat.le_of_ble_eq_true rfl) (dq dO_readChoice 39 rfl) (fun _ _ hh => ?_)
    obtain ⟨rfl, rfl⟩ := hh
    exact zi_ireturn rfl (bI_nar _) (dq dO_readChoice 40 rfl) (q_rb h)
  · have h := q_t c h
    refine zi_iconst (v := 0) (dq dO_readChoice 20 rfl) (by decide) ?_
    exact zi_ireturn rfl (by decide) (dq dO_readChoice 21 rfl) (q_rb (b := false) h)
def FO_readChoice (N : Nat) (M0 : zM) (rec : (Option Nat × Int32 × Int32 × Int32 × Int32 × Int32 × zJ) → Option (Bool × zJ)) (l1 : Option Nat) (l2 : Int32) (l3 : Int32) (l4 : Int32) (l5 : Int32) (J : zJ) : Option (Bool × zJ) :=
  qb (FO_nextTagBit N M0 l4 J) fun v1 J2 =>
  qo l1 M0 6 fun o3 =>
  qc (FT_memberWithTag N M0 o3 v1) fun v4 =>
  if v4 = none then
    FO_readChoice_32 N M0 rec l4 l5 v4 ((-1)) J2
  else
    qb (FV_addPart N M0 16 9 l2 l3 J2) fun v5 J6 =>
    FO_readChoice_32 N M0 rec l4 l5 v4 v5 J6
theorem SO_readChoice {g : zg} {d N : Nat} {M0 : zM} {A : Nat} {rec : (Option Nat × Int32 × Int32 × Int32 × Int32 × Int32 × zJ) → Option (Bool × zJ)} {L : Nat} {r : Bool} {J1 : zJ} {J : zJ} {l1 : Option Nat} {l2 : Int32} {l3 : Int32} {l4 : Int32} {l5 : Int32} (hL : zLy M0 A dShL dRf) (hrec : ∀ s r, rec s = some r → ∀ d, L ≤ d → zEi g d mO_readElement [va_rf (some (A + 24)), va_rf s.1, .int s.2.1, .int s.2.2.1, .int s.2.2.2.1, .int s.2.2.2.2.1, .int s.2.2.2.2.2.1] (zmm M0 A 32 s.2.2.2.2.2.2) (fun v Mq => v = bI r.1 ∧ Mq = zmm M0 A 32 r.2)) (h : FO_readChoice N M0 rec l1 l2 l3 l4 l5 J = some (r, J1)) (hd : L + 2 ≤ d) : zEi g d mO_readChoice [va_rf (some (A + 24)), va_rf l1, .int l2, .int l3, .int l4, .int l5] (zmm M0 A 32 J) (fun v Mq => v = bI r ∧ Mq = zmm M0 A 32 J1) := by
  unfold FO_readChoice at h
  refine zEb_q (r := r) (lv := [(0, va_rf (some (A + 24))), (1, va_rf l1), (2, .int l2), (3, .int l3), (4, .int l4), (5, .int l5)]) ⟨by decide +kernel, by decide, by decide +kernel⟩ (by simp [z_cr, z_ci]) (Nat.le_of_ble_eq_true rfl) rfl ?_
  refine zi_aload_n 1 (dq dO_readChoice 0 rfl) rfl ?_
  refine zi_aload_n 0 (dq dO_readChoice 1 rfl) rfl ?_
  refine zi_iload 4 (dq dO_readChoice 2 rfl) rfl ?_
  obtain ⟨v1, J2, hv1, h⟩ := q_b h
  refine zi_cVi1 (SO_nextTagBit hL hv1 (d := d - 1) (by omega)) wO_nextTagBit aO_82 iO_nextTagBit sO_nextTagBit (by omega) (zLs hL 24 rfl) rfl (Nat.le_of_ble_eq_true rfl) (dq dO_readChoice 3 rfl) (fun _ _ hh => ?_)
  obtain ⟨rfl, rfl⟩ := hh
  obtain ⟨o3, eo3, ho3, h⟩ := q_o h
  refine zi_rc1 eo3 ?_
  obtain ⟨v4, hv4, h⟩ := q_c h
  refine zi_cVr1 (ST_memberWithTag (zag_d hL _) ho3 hv4 (d := d - 1) (by omega)) wT_memberWithTag aO_85 iT_memberWithTag sT_memberWithTag (by omega) ((zag_d hL _) _ _ (by decide) ho3).1 rfl (Nat.le_of_ble_eq_true rfl) (dq dO_readChoice 4 rfl) (fun _ _ hh => ?_)
  obtain ⟨rfl, rfl⟩ := hh
  refine zi_astC (lv' := [(6, _), (0, _), (1, _), (2, _), (3, _), (4, _), (5, _)]) (dq dO_readChoice 5 rfl) (by decide) (by simp [z_cr, z_ci]) rfl ?_
  refine zi_aload 0 (dq dO_readChoice 6 rfl) rfl ?_
  refine zi_ifnonnull (tgt := 21) (dq dO_readChoice 7 rfl) (by decide) (fun _ c => ?_) (fun c => ?_)
  · have h := q_f (by rw [c]; exact nofun) h
    refine zi_aload_n 1 (dq dO_readChoice 10 rfl) rfl ?_
    refine ri_getr (zLs hL 24 rfl) (zLr hL 14 rfl) fO_15 (dq dO_readChoice 11 rfl) ?_
    refine zi_bipush (v := 9) (dq dO_readChoice 12 rfl) (by decide) ?_
    refine zi_iload_n 3 (dq dO_readChoice 13 rfl) rfl ?_
    refine zi_iload_n 4 (dq dO_readChoice 14 rfl) rfl ?_
    obtain ⟨v5, J6, hv5, h⟩ := q_b h
    refine zi_cVi3 (SV_addPart (dLy_v (Or.inr rfl) hL) (by decide) (zag_d hL) hv5 (d := d - 1) (by omega)) wV_addPart aO_51 iV_addPart sV_addPart (by omega) (zLs hL 16 rfl) rfl (Nat.le_of_ble_eq_true rfl) (dq dO_readChoice 15 rfl) (fun _ _ hh => ?_)
    obtain ⟨rfl, rfl⟩ := hh
    exact zG_lv (zs_c 1 rfl (zs_c 5 rfl (zs_c 6 rfl (zs_c 0 rfl zs_n)))) (SO_readChoice_32 hL hrec h hd )
  · have h := q_t c h
    refine zi_iconst (v := (-1)) (dq dO_readChoice 8 rfl) (by decide) ?_
    refine zi_goto (tgt := 32) (dq dO_readChoice 9 rfl) (by decide) ?_
    exact zG_lv (zs_c 1 rfl (zs_c 5 rfl (zs_c 6 rfl (zs_c 0 rfl zs_n)))) (SO_readChoice_32 hL hrec h hd )
def FO_readComponents_6 (N : Nat) (M0 : zM) (rec : (Option Nat × Int32 × Int32 × Int32 × Int32 × Int32 × zJ) → Option (Bool × zJ)) (l2 : Int32) (l3 : Int32) (l4 : Int32) (K6 : (Option Nat × zJ) → Option (Bool × zJ)) (s : Option Nat × zJ) : Option (Bool × zJ) :=
  let l5 := s.1
  let J := s.2
  if l5 = none then
    some (true, J)
  else
    let y1 := J 16 0
    qo l5 M0 1 fun o2 =>
    qc (FK_tags N M0 o2) fun v3 =>
    qb (FO_nextTagBit N M0 l3 J) fun v4 J5 =>
    if (v3 &&& v4) = 0 then
      qb (FV_leaveOutComponent N M0 16 l5 l2 J5) fun v14 J15 =>
      if (bI v14) = 0 then
        some (false, J15)
      else
        qo l5 M0 1 fun o16 =>
        let y17 := zr M0 o16 5
        K6 (y17, J15)
    else
      qo l5 M0 1 fun o6 =>
      qo l5 M0 1 fun o7 =>
      qb (rec ((zr M0 o6 0), ((-1)), l2, (zi M0 o7 1), l3, (l4 + 1), J5)) fun v8 J9 =>
      if (bI v8) = 0 then
        some (false, J9)
      else
        qb (FV_takeComponent N M0 16 l5 l2 y1 (J9 24 2) J9) fun v10 J11 =>
        if (bI v10) = 0 then
          some (false, J11)
        else
          qo l5 M0 1 fun o12 =>
          let y13 := zr M0 o12 5
          K6 (y13, J11)
theorem SO_readComponents_6 {g : zg} {d N : Nat} {M0 : zM} {A : Nat} {rec : (Option Nat × Int32 × Int32 × Int32 × Int32 × Int32 × zJ) → Option (Bool × zJ)} {L : Nat} {r : Bool} {J1 : zJ}  {l2 : Int32} {l3 : Int32} {l4 : Int32} (hL : zLy M0 A dShL dRf) (hrec : ∀ s r, rec s = some r → ∀ d, L ≤ d → zEi g d mO_readElement [va_rf (some (A + 24)), va_rf s.1, .int s.2.1, .int s.2.2.1, .int s.2.2.2.1, .int s.2.2.2.2.1, .int s.2.2.2.2.2.1] (zmm M0 A 32 s.2.2.2.2.2.2) (fun v Mq => v = bI r.1 ∧ Mq = zmm M0 A 32 r.2)) (hd : L + 2 ≤ d)  : ∀ n s, qfix (FO_readComponents_6 N M0 rec l2 l3 l4) n s = some (r, J1) → zG g d mO_readComponents (zPq (rB r) (zmm M0 A 32 J1)) (zmm M0 A 32 s.2) 6 [(0, va_rf (some (A + 24))), (2, .int l2), (3, .int l3), (4, .int l4), (5, va_rf s.1)] [] := by
  refine qfix_sound (fun K6 hK6 s h => ?_)
  unfold FO_readComponents_6 at h
  refine zi_aload 4 (dq dO_readComponents 3 rfl) rfl ?_
  refine zi_ifnull (tgt := 104) (dq dO_readComponents 4 rfl) (by decide) (fun c => ?_) (fun _ c => ?_)
  · have h := q_t c h
    refine zi_iconst (v := 1) (dq dO_readComponents 52 rfl) (by decide) ?_
    exact zi_ireturn rfl (by decide) (dq dO_readComponents 53 rfl) (q_rb (b := true) h)
  · have h := q_f (by rw [c]; exact nofun) h
    refine zi_aload_n 0 (dq dO_readComponents 5 rfl) rfl ?_
    refine ri_getr (zLs hL 24 rfl) (zLr hL 14 rfl) fO_15 (dq dO_readComponents 6 rfl) ?_
    refine ri_geti (zLs hL 16 rfl) (by decide) fO_104 (dq dO_readComponents 7 rfl) ?_
    refine zi_istC (lv' := [(6, _), (0, _), (2, _), (3, _), (4, _), (5, _)]) (dq dO_readComponents 8 rfl) (by decide) (by simp [z_cr, z_ci]) rfl ?_
    refine zi_aload 5 (dq dO_readComponents 9 rfl) rfl ?_
    obtain ⟨o2, eo2, ho2, h⟩ := q_o h
    refine zi_rc0 eo2 ?_
    obtain ⟨v3, hv3, h⟩ := q_c h
    refine zi_cVi0 (SK_tags (zag_d hL _) ho2 hv3 (d := d - 1) (by omega)) wK_tags aO_107 iK_tags sK_tags (by omega) ((zag_d hL _) _ _ (by decide) ho2).1 rfl (Nat.le_of_ble_eq_true rfl) (dq dO_readComponents 10 rfl) (fun _ _ hh => ?_)
    obtain ⟨rfl, rfl⟩ := hh
    refine zi_aload_n 1 (dq dO_readComponents 11 rfl) rfl ?_
    refine zi_iload_n 3 (dq dO_readComponents 12 rfl) rfl ?_
    obtain ⟨v4, J5, hv4, h⟩ := q_b h
    refine zi_cVi1 (SO_nextTagBit hL hv4 (d := d - 1) (by omega)) wO_nextTagBit aO_82 iO_nextTagBit sO_nextTagBit (by omega) (zLs hL 24 rfl) rfl (Nat.le_of_ble_eq_true rfl) (dq dO_readComponents 13 rfl) (fun _ _ hh => ?_)
    obtain ⟨rfl, rfl⟩ := hh
    refine zi_iand (dq dO_readComponents 14 rfl) ?_
    refine zi_if_ne (tgt := 49) (dq dO_readComponents 15 rfl) (by decide) (fun c => ?_) (fun c => ?_)
    · have h := q_f c h
      refine zi_aload_n 1 (dq dO_readComponents 24 rfl) rfl ?_
      refine zi_aload 5 (dq dO_readComponents 25 rfl) rfl ?_
      obtain ⟨o6, eo6, ho6, h⟩ := q_o h
      refine zi_rc0 eo6 ?_
      refine ti_getr (zag_d hL _) ho6 (by decide) fO_97 (dq dO_readComponents 26 rfl) ?_
      refine zi_iconst (v := (-1)) (dq dO_readComponents 27 rfl) (by decide) ?_
      refine zi_iload_n 2 (dq dO_readComponents 28 rfl) rfl ?_
      refine zi_aload 5 (dq dO_readComponents 29 rfl) rfl ?_
      obtain ⟨o7, eo7, ho7, h⟩ := q_o h
      refine zi_rc0 eo7 ?_
      refine ti_geti (zag_d hL _) ho7 (by decide) fO_92 (dq dO_readComponents 30 rfl) ?_
      refine zi_iload_n 3 (dq dO_readComponents 31 rfl) rfl ?_
      refine zi_iload 4 (dq dO_readComponents 32 rfl) rfl ?_
      refine zi_iconst (v := 1) (dq dO_readComponents 33 rfl) (by decide) ?_
      refine zi_iadd (dq dO_readComponents 34 rfl) ?_
      obtain ⟨v8, J9, hv8, h⟩ := q_b h
      refine zi_cVi6 (hrec _ _ hv8 (d - 1) (by omega)) wO_readElement aO_27 iO_readElement sO_readElement (by omega) (zLs hL 24 rfl) rfl (Nat.le_of_ble_eq_true rfl) (dq dO_readComponents 35 rfl) (fun _ _ hh => ?_)
      obtain ⟨rfl, rfl⟩ := hh
      refine zi_if_eq (tgt := 92) (dq dO_readComponents 36 rfl) (by decide) (fun c => ?_) (fun c => ?_)
      · have h := q_t c h
        refine zi_iconst (v := 0) (dq dO_readComponents 46 rfl) (by decide) ?_
        exact zi_ireturn rfl (by decide) (dq dO_readComponents 47 rfl) (q_rb (b := false) h)
      · have h := q_f c h
        refine zi_aload_n 1 (dq dO_readComponents 37 rfl) rfl ?_
        refine ri_getr (zLs hL 24 rfl) (zLr hL 14 rfl) fO_15 (dq dO_readComponents 38 rfl) ?_
        refine zi_aload 5 (dq dO_readComponents 39 rfl) rfl ?_
        refine zi_iload_n 2 (dq dO_readComponents 40 rfl) rfl ?_
        refine zi_iload 0 (dq dO_readComponents 41 rfl) rfl ?_
        refine zi_aload_n 1 (dq dO_readComponents 42 rfl) rfl ?_
        refine ri_geti (zLs hL 24 rfl) (by decide) fO_19 (dq dO_readComponents 43 rfl) ?_
        obtain ⟨v10, J11, hv10, h⟩ := q_b h
        refine zi_cVi4 (SV_takeComponent (dLy_v (Or.inr rfl) hL) (by decide) (zag_d hL) hv10 (d := d - 1) (by omega)) wV_takeComponent aO_115 iV_takeComponent sV_takeComponent (by omega) (zLs hL 16 rfl) rfl (Nat.le_of_ble_eq_true rfl) (dq dO_readComponents 44 rfl) (fun _ _ hh => ?_)
        obtain ⟨rfl, rfl⟩ := hh
        refine zi_if_ne (tgt := 94) (dq dO_readComponents 45 rfl) (by decide) (fun c => ?_) (fun c => ?_)
        · have h := q_f c h
          refine zi_aload 5 (dq dO_readComponents 48 rfl) rfl ?_
          obtain ⟨o12, eo12, ho12, h⟩ := q_o h
          refine zi_rc0 eo12 ?_
          refine ti_getr (zag_d hL _) ho12 (by decide) fO_119 (dq dO_readComponents 49 rfl) ?_
          refine zi_astC (lv' := [(5, _), (6, _), (0, _), (2, _), (3, _), (4, _)]) (dq dO_readComponents 50 rfl) (by decide) (by simp [z_cr, z_ci]) rfl ?_
          refine zi_goto (tgt := 6) (dq dO_readComponents 51 rfl) (by decide) ?_
          exact zG_lv (zs_c 2 rfl (zs_c 3 rfl (zs_c 4 rfl (zs_c 5 rfl (zs_c 0 rfl zs_n))))) (hK6 _ h)
        · have h := q_t c h
          refine zi_iconst (v := 0) (dq dO_readComponents 46 rfl) (by decide) ?_
          exact zi_ireturn rfl (by decide) (dq dO_readComponents 47 rfl) (q_rb (b := false) h)
    · have h := q_t c h
      refine zi_aload_n 1 (dq dO_readComponents 16 rfl) rfl ?_
      refine ri_getr (zLs hL 24 rfl) (zLr hL 14 rfl) fO_15 (dq dO_readComponents 17 rfl) ?_
      refine zi_aload 5 (dq dO_readComponents 18 rfl) rfl ?_
      refine zi_iload_n 2 (dq dO_readComponents 19 rfl) rfl ?_
      obtain ⟨v14, J15, hv14, h⟩ := q_b h
      refine zi_cVi2 (SV_leaveOutComponent (dLy_v (Or.inr rfl) hL) (by decide) (zag_d hL) hv14 (d := d - 1) (by omega)) wV_leaveOutComponent aO_111 iV_leaveOutComponent sV_leaveOutComponent (by omega) (zLs hL 16 rfl) rfl (Nat.le_of_ble_eq_true rfl) (dq dO_readComponents 20 rfl) (fun _ _ hh => ?_)
      obtain ⟨rfl, rfl⟩ := hh
      refine zi_if_ne (tgt := 94) (dq dO_readComponents 21 rfl) (by decide) (fun c => ?_) (fun c => ?_)
      · have h := q_f c h
        refine zi_aload 5 (dq dO_readComponents 48 rfl) rfl ?_
        obtain ⟨o16, eo16, ho16, h⟩ := q_o h
        refine zi_rc0 eo16 ?_
        refine ti_getr (zag_d hL _) ho16 (by decide) fO_119 (dq dO_readComponents 49 rfl) ?_
        refine zi_astC (lv' := [(5, _), (6, _), (0, _), (2, _), (3, _), (4, _)]) (dq dO_readComponents 50 rfl) (by decide) (by simp [z_cr, z_ci]) rfl ?_
        refine zi_goto (tgt := 6) (dq dO_readComponents 51 rfl) (by decide) ?_
        exact zG_lv (zs_c 2 rfl (zs_c 3 rfl (zs_c 4 rfl (zs_c 5 rfl (zs_c 0 rfl zs_n))))) (hK6 _ h)
      · have h := q_t c h
        refine zi_iconst (v := 0) (dq dO_readComponents 22 rfl) (by decide) ?_
        exact zi_ireturn rfl (by decide) (dq dO_readComponents 23 rfl) (q_rb (b := false) h)
def FO_readComponents (N : Nat) (M0 : zM) (rec : (Option Nat × Int32 × Int32 × Int32 × Int32 × Int32 × zJ) → Option (Bool × zJ)) (l1 : Option Nat) (l2 : Int32) (l3 : Int32) (l4 : Int32) (J : zJ) : Option (Bool × zJ) :=
  qo l1 M0 6 fun o1 =>
  let y2 := zr M0 o1 10
  qfix (FO_readComponents_6 N M0 rec l2 l3 l4) N (y2, J)
theorem SO_readComponents {g : zg} {d N : Nat} {M0 : zM} {A : Nat} {rec : (Option Nat × Int32 × Int32 × Int32 × Int32 × Int32 × zJ) → Option (Bool × zJ)} {L : Nat} {r : Bool} {J1 : zJ} {J : zJ} {l1 : Option Nat} {l2 : Int32} {l3 : Int32} {l4 : Int32} (hL : zLy M0 A dShL dRf) (hrec : ∀ s r, rec s = some r → ∀ d, L ≤ d → zEi g d mO_readElement [va_rf (some (A + 24)), va_rf s.1, .int s.2.1, .int s.2.2.1, .int s.2.2.2.1, .int s.2.2.2.2.1, .int s.2.2.2.2.2.1] (zmm M0 A 32 s.2.2.2.2.2.2) (fun v Mq => v = bI r.1 ∧ Mq = zmm M0 A 32 r.2)) (h : FO_readComponents N M0 rec l1 l2 l3 l4 J = some (r, J1)) (hd : L + 2 ≤ d) : zEi g d mO_readComponents [va_rf (some (A + 24)), va_rf l1, .int l2, .int l3, .int l4] (zmm M0 A 32 J) (fun v Mq => v = bI r ∧ Mq = zmm M0 A 32 J1) := by
  unfold FO_readComponents at h
  refine zEb_q (r := r) (lv := [(0, va_rf (some (A + 24))), (1, va_rf l1), (2, .int l2), (3, .int l3), (4, .int l4)]) ⟨by decide +kernel, by decide, by decide +kernel⟩ (by simp [z_cr, z_ci]) (Nat.le_of_ble_eq_true rfl) rfl ?_
  refine zi_aload_n 1 (dq dO_readComponents 0 rfl) rfl ?_
  obtain ⟨o1, eo1, ho1, h⟩ := q_o h
  refine zi_rc0 eo1 ?_
  refine ti_getr (zag_d hL _) ho1 (by decide) fO_100 (dq dO_readComponents 1 rfl) ?_
  refine zi_astC (lv' := [(5, _), (0, _), (1, _), (2, _), (3, _), (4, _)]) (dq dO_readComponents 2 rfl) (by decide) (by simp [z_cr, z_ci]) rfl ?_
  exact zG_lv (zs_c 1 rfl (zs_c 3 rfl (zs_c 4 rfl (zs_c 5 rfl (zs_c 0 rfl zs_n))))) (SO_readComponents_6 hL hrec hd  _ _ h)
def FO_readContentEnd (N : Nat) (M0 : zM) (l1 : Int32) (l2 : Int32) (J : zJ) : Option (Bool × zJ) :=
  if l1 = ((-2)) then
    if l2 < ((J 24 3) + 2) then
      some (false, J)
    else
      qk (qi (J 24 3) 120) <|
      if (J 6 (J 24 3).toNatClampNeg) = 0 then
        qk (qi ((J 24 3) + 1) 120) <|
        if (J 6 ((J 24 3) + 1).toNatClampNeg) = 0 then
          let J3 := zu J 24 3 ((J 24 3) + 2)
          some (true, J3)
        else
          some (false, J)
      else
        some (false, J)
  else
    if (J 24 3) = l1 then
      some (true, J)
    else
      some (false, J)
theorem SO_readContentEnd {g : zg} {d N : Nat} {M0 : zM} {A : Nat} {r : Bool} {J1 : zJ} {J : zJ} {l1 : Int32} {l2 : Int32} (hL : zLy M0 A dShL dRf) (h : FO_readContentEnd N M0 l1 l2 J = some (r, J1)) (hd : 0 ≤ d) : zEi g d mO_readContentEnd [va_rf (some (A + 24)), .int l1, .int l2] (zmm M0 A 32 J) (fun v Mq => v = bI r ∧ Mq = zmm M0 A 32 J1) := by
  unfold FO_readContentEnd at h
  refine zEb_q (r := r) (lv := [(0, va_rf (some (A + 24))), (1, .int l1), (2, .int l2)]) ⟨by decide +kernel, by decide, by decide +kernel⟩ (by simp [z_cr, z_ci]) (Nat.le_of_ble_eq_true rfl) rfl ?_
  refine zi_iload_n 1 (dq dO_readContentEnd 0 rfl) rfl ?_
  refine zi_bipush (v := (-2)) (dq dO_readContentEnd 1 rfl) (by decide) ?_
  refine zi_icmp_eq (tgt := 20) (dq dO_readContentEnd 2 rfl) (by decide) (fun c => ?_) (fun c => ?_)
  · have h := q_t c h
    refine zi_aload_n 0 (dq dO_readContentEnd 11 rfl) rfl ?_
    refine ri_geti (zLs hL 24 rfl) (by decide) fO_23 (dq dO_readContentEnd 12 rfl) ?_
    refine zi_iconst (v := 2) (dq dO_readContentEnd 13 rfl) (by decide) ?_
    refine zi_iadd (dq dO_readContentEnd 14 rfl) ?_
    refine zi_iload_n 2 (dq dO_readContentEnd 15 rfl) rfl ?_
    refine zi_icmp_gt (tgt := 56) (dq dO_readContentEnd 16 rfl) (by decide) (fun c => ?_) (fun c => ?_)
    · have h := q_t c h
      refine zi_iconst (v := 0) (dq dO_readContentEnd 31 rfl) (by decide) ?_
      exact zi_ireturn rfl (by decide) (dq dO_readContentEnd 32 rfl) (q_rb (b := false) h)
    · have h := q_f c h
      refine zi_aload_n 0 (dq dO_readContentEnd 17 rfl) rfl ?_
      refine ri_getr (zLs hL 24 rfl) (zLr hL 15 rfl) fO_9 (dq dO_readContentEnd 18 rfl) ?_
      refine zi_aload_n 0 (dq dO_readContentEnd 19 rfl) rfl ?_
      refine ri_geti (zLs hL 24 rfl) (by decide) fO_23 (dq dO_readContentEnd 20 rfl) ?_
      obtain ⟨c1, h⟩ := q_k h
      refine ri_iald (zLs hL 6 rfl) (by decide) rfl c1 (dq dO_readContentEnd 21 rfl) ?_
      refine zi_if_ne (tgt := 56) (dq dO_readContentEnd 22 rfl) (by decide) (fun c => ?_) (fun c => ?_)
      · have h := q_f c h
        refine zi_iconst (v := 0) (dq dO_readContentEnd 31 rfl) (by decide) ?_
        exact zi_ireturn rfl (by decide) (dq dO_readContentEnd 32 rfl) (q_rb (b := false) h)
      · have h := q_t c h
        refine zi_aload_n 0 (dq dO_readContentEnd 23 rfl) rfl ?_
        refine ri_getr (zLs hL 24 rfl) (zLr hL 15 rfl) fO_9 (dq dO_readContentEnd 24 rfl) ?_
        refine zi_aload_n 0 (dq dO_readContentEnd 25 rfl) rfl ?_
        refine ri_geti (zLs hL 24 rfl) (by decide) fO_23 (dq dO_readContentEnd 26 rfl) ?_
        refine zi_iconst (v := 1) (dq dO_readContentEnd 27 rfl) (by decide) ?_
        refine zi_iadd (dq dO_readContentEnd 28 rfl) ?_
        obtain ⟨c2, h⟩ := q_k h
        refine ri_iald (zLs hL 6 rfl) (by decide) rfl c2 (dq dO_readContentEnd 29 rfl) ?_
        refine zi_if_eq (tgt := 58) (dq dO_readContentEnd 30 rfl) (by decide) (fun c => ?_) (fun c => ?_)
        · have h := q_t c h
          refine zi_aload_n 0 (dq dO_readContentEnd 33 rfl) rfl ?_
          refine zi_dup (dq dO_readContentEnd 34 rfl) (by first | rfl | exact z_cr _) ?_
          refine ri_geti (zLs hL 24 rfl) (by decide) fO_23 (dq dO_readContentEnd 35 rfl) ?_
          refine zi_iconst (v := 2) (dq dO_readContentEnd 36 rfl) (by decide) ?_
          refine zi_iadd (dq dO_readContentEnd 37 rfl) ?_
          refine ri_puti (zLs hL 24 rfl) (by decide) fO_23 (fun h => by cases h) rfl rfl (dq dO_readContentEnd 38 rfl) ?_
          refine zi_iconst (v := 1) (dq dO_readContentEnd 39 rfl) (by decide) ?_
          exact zi_ireturn rfl (by decide) (dq dO_readContentEnd 40 rfl) (q_rb (b := true) h)
        · have h := q_f c h
          refine zi_iconst (v := 0) (dq dO_readContentEnd 31 rfl) (by decide) ?_
          exact zi_ireturn rfl (by decide) (dq dO_readContentEnd 32 rfl) (q_rb (b := false) h)
  · have h := q_f c h
    refine zi_aload_n 0 (dq dO_readContentEnd 3 rfl) rfl ?_
    refine ri_geti (zLs hL 24 rfl) (by decide) fO_23 (dq dO_readContentEnd 4 rfl) ?_
    refine zi_iload_n 1 (dq dO_readContentEnd 5 rfl) rfl ?_
    refine zi_icmp_ne (tgt := 18) (dq dO_readContentEnd 6 rfl) (by decide) (fun c => ?_) (fun c => ?_)
    · have h := q_f c h
      refine zi_iconst (v := 0) (dq dO_readContentEnd 9 rfl) (by decide) ?_
      exact zi_ireturn rfl (by decide) (dq dO_readContentEnd 10 rfl) (q_rb (b := false) h)
    · have h := q_t c h
      refine zi_iconst (v := 1) (dq dO_readContentEnd 7 rfl) (by decide) ?_
      refine zi_goto (tgt := 19) (dq dO_readContentEnd 8 rfl) (by decide) ?_
      exact zi_ireturn rfl (by decide) (dq dO_readContentEnd 10 rfl) (q_rb (b := true) h)
def FO_readLongLength_29 (N : Nat) (M0 : zM) (l1 : Int32) (K29 : (Int32 × Int32 × zJ) → Option (Int32 × zJ)) (s : Int32 × Int32 × zJ) : Option (Int32 × zJ) :=
  let l3 := s.1
  let l4 := s.2.1
  let J := s.2.2
  if l1 ≤ l4 then
    some (l3, J)
  else
    qk (qi (J 24 3) 120) <|
    let y2 := (l3 <<< (8 &&& 31)) ||| (J 6 (J 24 3).toNatClampNeg)
    let J3 := zu J 24 3 ((J 24 3) + 1)
    let y4 := l4 + (1)
    K29 (y2, y4, J3)
theorem SO_readLongLength_29 {g : zg} {d N : Nat} {M0 : zM} {A : Nat} {r : Int32} {J1 : zJ}  {l1 : Int32} (hL : zLy M0 A dShL dRf) (hd : 0 ≤ d)  : ∀ n s, qfix (FO_readLongLength_29 N M0 l1) n s = some (r, J1) → zG g d mO_readLongLength (zPq (rI r) (zmm M0 A 32 J1)) (zmm M0 A 32 s.2.2) 29 [(0, va_rf (some (A + 24))), (1, .int l1), (3, .int s.1), (4, .int s.2.1)] [] := by
  refine qfix_sound (fun K29 hK29 s h => ?_)
  unfold FO_readLongLength_29 at h
  refine zi_iload 3 (dq dO_readLongLength 18 rfl) rfl ?_
  refine zi_iload_n 1 (dq dO_readLongLength 19 rfl) rfl ?_
  refine zi_icmp_ge (tgt := 66) (dq dO_readLongLength 20 rfl) (by decide) (fun c => ?_) (fun c => ?_)
  · have h := q_t c h
    refine zi_iload_n 2 (dq dO_readLongLength 39 rfl) rfl ?_
    exact zi_ireturn rfl rfl (dq dO_readLongLength 40 rfl) (q_ri h)
  · have h := q_f c h
    refine zi_iload_n 2 (dq dO_readLongLength 21 rfl) rfl ?_
    refine zi_bipush (v := 8) (dq dO_readLongLength 22 rfl) (by decide) ?_
    refine zi_ishl (dq dO_readLongLength 23 rfl) ?_
    refine zi_aload_n 0 (dq dO_readLongLength 24 rfl) rfl ?_
    refine ri_getr (zLs hL 24 rfl) (zLr hL 15 rfl) fO_9 (dq dO_readLongLength 25 rfl) ?_
    refine zi_aload_n 0 (dq dO_readLongLength 26 rfl) rfl ?_
    refine ri_geti (zLs hL 24 rfl) (by decide) fO_23 (dq dO_readLongLength 27 rfl) ?_
    obtain ⟨c1, h⟩ := q_k h
    refine ri_iald (zLs hL 6 rfl) (by decide) rfl c1 (dq dO_readLongLength 28 rfl) ?_
    refine zi_ior (dq dO_readLongLength 29 rfl) ?_
    refine zi_istC_n (lv' := [(3, _), (0, _), (1, _), (4, _)]) (dq dO_readLongLength 30 rfl) (by decide) (by simp [z_cr, z_ci]) rfl ?_
    refine zi_aload_n 1 (dq dO_readLongLength 31 rfl) rfl ?_
    refine zi_dup (dq dO_readLongLength 32 rfl) (by first | rfl | exact z_cr _) ?_
    refine ri_geti (zLs hL 24 rfl) (by decide) fO_23 (dq dO_readLongLength 33 rfl) ?_
    refine zi_iconst (v := 1) (dq dO_readLongLength 34 rfl) (by decide) ?_
    refine zi_iadd (dq dO_readLongLength 35 rfl) ?_
    refine ri_puti (zLs hL 24 rfl) (by decide) fO_23 (fun h => by cases h) rfl rfl (dq dO_readLongLength 36 rfl) ?_
    refine zi_iincC (v := _ + (1)) (lv' := [(4, _), (3, _), (0, _), (1, _)]) 3 (dq dO_readLongLength 37 rfl) rfl rfl (by decide) (by simp [z_cr, z_ci]) rfl ?_
    refine zi_goto (tgt := 29) (dq dO_readLongLength 38 rfl) (by decide) ?_
    exact zG_lv (zs_c 2 rfl (zs_c 3 rfl (zs_c 1 rfl (zs_c 0 rfl zs_n)))) (hK29 _ h)
def FO_readLongLength (N : Nat) (M0 : zM) (l1 : Int32) (l2 : Int32) (J : zJ) : Option (Int32 × zJ) :=
  if (J 24 2) = 0 then
    if 2 < l1 then
      some (((-1)), J)
    else
      if ((J 24 3) + l1) ≤ l2 then
        qfix (FO_readLongLength_29 N M0 l1) N (0, 0, J)
      else
        some (((-1)), J)
  else
    some (((-1)), J)
theorem SO_readLongLength {g : zg} {d N : Nat} {M0 : zM} {A : Nat} {r : Int32} {J1 : zJ} {J : zJ} {l1 : Int32} {l2 : Int32} (hL : zLy M0 A dShL dRf) (h : FO_readLongLength N M0 l1 l2 J = some (r, J1)) (hd : 0 ≤ d) : zEi g d mO_readLongLength [va_rf (some (A + 24)), .int l1, .int l2] (zmm M0 A 32 J) (fun v Mq => v = r ∧ Mq = zmm M0 A 32 J1) := by
  unfold FO_readLongLength at h
  refine zEi_q (r := r) (lv := [(0, va_rf (some (A + 24))), (1, .int l1), (2, .int l2)]) ⟨by decide +kernel, by decide, by decide +kernel⟩ (by simp [z_cr, z_ci]) (Nat.le_of_ble_eq_true rfl) rfl ?_
  refine zi_aload_n 0 (dq dO_readLongLength 0 rfl) rfl ?_
  refine ri_geti (zLs hL 24 rfl) (by decide) fO_19 (dq dO_readLongLength 1 rfl) ?_
  refine zi_if_ne (tgt := 22) (dq dO_readLongLength 2 rfl) (by decide) (fun c => ?_) (fun c => ?_)
  · have h := q_f c h
    refine zi_iconst (v := (-1)) (dq dO_readLongLength 12 rfl) (by decide) ?_
    exact zi_ireturn rfl rfl (dq dO_readLongLength 13 rfl) (q_ri h)
  · have h := q_t c h
    refine zi_iload_n 1 (dq dO_readLongLength 3 rfl) rfl ?_
    refine zi_iconst (v := 2) (dq dO_readLongLength 4 rfl) (by decide) ?_
    refine zi_icmp_gt (tgt := 22) (dq dO_readLongLength 5 rfl) (by decide) (fun c => ?_) (fun c => ?_)
    · have h := q_t c h
      refine zi_iconst (v := (-1)) (dq dO_readLongLength 12 rfl) (by decide) ?_
      exact zi_ireturn rfl rfl (dq dO_readLongLength 13 rfl) (q_ri h)
    · have h := q_f c h
      refine zi_aload_n 0 (dq dO_readLongLength 6 rfl) rfl ?_
      refine ri_geti (zLs hL 24 rfl) (by decide) fO_23 (dq dO_readLongLength 7 rfl) ?_
      refine zi_iload_n 1 (dq dO_readLongLength 8 rfl) rfl ?_
      refine zi_iadd (dq dO_readLongLength 9 rfl) ?_
      refine zi_iload_n 2 (dq dO_readLongLength 10 rfl) rfl ?_
      refine zi_icmp_le (tgt := 24) (dq dO_readLongLength 11 rfl) (by decide) (fun c => ?_) (fun c => ?_)
      · have h := q_t c h
        refine zi_iconst (v := 0) (dq dO_readLongLength 14 rfl) (by decide) ?_
        refine zi_istC_n (lv' := [(3, _), (0, _), (1, _), (2, _)]) (dq dO_readLongLength 15 rfl) (by decide) (by simp [z_cr, z_ci]) rfl ?_
        refine zi_iconst (v := 0) (dq dO_readLongLength 16 rfl) (by decide) ?_
        refine zi_istC (lv' := [(4, _), (3, _), (0, _), (1, _), (2, _)]) (dq dO_readLongLength 17 rfl) (by decide) (by simp [z_cr, z_ci]) rfl ?_
        exact zG_lv (zs_c 2 rfl (zs_c 3 rfl (zs_c 1 rfl (zs_c 0 rfl zs_n)))) (SO_readLongLength_29 hL hd  _ _ h)
      · have h := q_f c h
        refine zi_iconst (v := (-1)) (dq dO_readLongLength 12 rfl) (by decide) ?_
        exact zi_ireturn rfl rfl (dq dO_readLongLength 13 rfl) (q_ri h)
def FO_readHeader_98 (N : Nat) (M0 : zM) (l3 : Int32) (t0 : Int32) (J : zJ) : Option (Int32 × zJ) :=
  if t0 = ((-1)) then
    some (((-1)), J)
  else
    if t0 ≤ (l3 - (J 24 3)) then
      some (((J 24 3) + t0), J)
    else
      some (((-1)), J)
theorem SO_readHeader_98 {g : zg} {d N : Nat} {M0 : zM} {A : Nat} {r : Int32} {J1 : zJ} {J : zJ}  {l3 : Int32} {t0 : Int32} (hL : zLy M0 A dShL dRf) (h : FO_readHeader_98 N M0 l3 t0 J = some (r, J1)) (hd : 1 ≤ d)  : zG g d mO_readHeader (zPq (rI r) (zmm M0 A 32 J1)) (zmm M0 A 32 J) 98 [(0, va_rf (some (A + 24))), (3, .int l3)] [.int t0] := by
  unfold FO_readHeader_98 at h
  refine zi_istC (lv' := [(5, _), (0, _), (3, _)]) (dq dO_readHeader 52 rfl) (by decide) (by simp [z_cr, z_ci]) rfl ?_
  refine zi_iload 0 (dq dO_readHeader 53 rfl) rfl ?_
  refine zi_iconst (v := (-1)) (dq dO_readHeader 54 rfl) (by decide) ?_
  refine zi_icmp_eq (tgt := 117) (dq dO_readHeader 55 rfl) (by decide) (fun c => ?_) (fun c => ?_)
  · have h := q_t c h
    refine zi_iconst (v := (-1)) (dq dO_readHeader 62 rfl) (by decide) ?_
    refine zi_goto (tgt := 128) (dq dO_readHeader 63 rfl) (by decide) ?_
    exact zi_ireturn rfl rfl (dq dO_readHeader 68 rfl) (q_ri h)
  · have h := q_f c h
    refine zi_iload 0 (dq dO_readHeader 56 rfl) rfl ?_
    refine zi_iload_n 2 (dq dO_readHeader 57 rfl) rfl ?_
    refine zi_aload_n 1 (dq dO_readHeader 58 rfl) rfl ?_
    refine ri_geti (zLs hL 24 rfl) (by decide) fO_23 (dq dO_readHeader 59 rfl) ?_
    refine zi_isub (dq dO_readHeader 60 rfl) ?_
    refine zi_icmp_le (tgt := 121) (dq dO_readHeader 61 rfl) (by decide) (fun c => ?_) (fun c => ?_)
    · have h := q_t c h
      refine zi_aload_n 1 (dq dO_readHeader 64 rfl) rfl ?_
      refine ri_geti (zLs hL 24 rfl) (by decide) fO_23 (dq dO_readHeader 65 rfl) ?_
      refine zi_iload 0 (dq dO_readHeader 66 rfl) rfl ?_
      refine zi_iadd (dq dO_readHeader 67 rfl) ?_
      exact zi_ireturn rfl rfl (dq dO_readHeader 68 rfl) (q_ri h)
    · have h := q_f c h
      refine zi_iconst (v := (-1)) (dq dO_readHeader 62 rfl) (by decide) ?_
      refine zi_goto (tgt := 128) (dq dO_readHeader 63 rfl) (by decide) ?_
      exact zi_ireturn rfl rfl (dq dO_readHeader 68 rfl) (q_ri h)
def FO_readHeader (N : Nat) (M0 : zM) (l1 : Int32) (l2 : Int32) (l3 : Int32) (J : zJ) : Option (Int32 × zJ) :=
  if l3 < ((J 24 3) + 2) then
    some (((-1)), J)
  else
    qk (qi (J 24 3) 120) <|
    if (J 6 (J 24 3).toNatClampNeg) = l1 then
      qk (qi ((J 24 3) + 1) 120) <|
      let y3 := J 6 ((J 24 3) + 1).toNatClampNeg
      let J4 := zu J 24 3 ((J 24 3) + 2)
      if y3 = 128 then
        if l2 = 0 then
          some (((-1)), J4)
        else
          if (J4 24 2) = 0 then
            some (((-2)), J4)
          else
            some (((-1)), J4)
      else
        if 128 ≤ y3 then
          qb (FO_readLongLength N M0 (y3 - 128) l3 J4) fun v5 J6 =>
          FO_readHeader_98 N M0 l3 v5 J6
        else
          FO_readHeader_98 N M0 l3 y3 J4
    else
      some (((-1)), J)
theorem SO_readHeader {g : zg} {d N : Nat} {M0 : zM} {A : Nat} {r : Int32} {J1 : zJ} {J : zJ} {l1 : Int32} {l2 : Int32} {l3 : Int32} (hL : zLy M0 A dShL dRf) (h : FO_readHeader N M0 l1 l2 l3 J = some (r, J1)) (hd : 1 ≤ d) : zEi g d mO_readHeader [va_rf (some (A + 24)), .int l1, .int l2, .int l3] (zmm M0 A 32 J) (fun v Mq => v = r ∧ Mq = zmm M0 A 32 J1) := by
  unfold FO_readHeader at h
  refine zEi_q (r := r) (lv := [(0, va_rf (some (A + 24))), (1, .int l1), (2, .int l2), (3, .int l3)]) ⟨by decide +kernel, by decide, by decide +kernel⟩ (by simp [z_cr, z_ci]) (Nat.le_of_ble_eq_true rfl) rfl ?_
  refine zi_aload_n 0 (dq dO_readHeader 0 rfl) rfl ?_
  refine ri_geti (zLs hL 24 rfl) (by decide) fO_23 (dq dO_readHeader 1 rfl) ?_
  refine zi_iconst (v := 2) (dq dO_readHeader 2 rfl) (by decide) ?_
  refine zi_iadd (dq dO_readHeader 3 rfl) ?_
  refine zi_iload_n 3 (dq dO_readHeader 4 rfl) rfl ?_
  refine zi_icmp_gt (tgt := 23) (dq dO_readHeader 5 rfl) (by decide) (fun c => ?_) (fun c => ?_)
  · have h := q_t c h
    refine zi_iconst (v := (-1)) (dq dO_readHeader 13 rfl) (by decide) ?_
    exact zi_ireturn rfl rfl (dq dO_readHeader 14 rfl) (q_ri h)
  · have h := q_f c h
    refine zi_aload_n 0 (dq dO_readHeader 6 rfl) rfl ?_
    refine ri_getr (zLs hL 24 rfl) (zLr hL 15 rfl) fO_9 (dq dO_readHeader 7 rfl) ?_
    refine zi_aload_n 0 (dq dO_readHeader 8 rfl) rfl ?_
    refine ri_geti (zLs hL 24 rfl) (by decide) fO_23 (dq dO_readHeader 9 rfl) ?_
    obtain ⟨c1, h⟩ := q_k h
    refine ri_iald (zLs hL 6 rfl) (by decide) rfl c1 (dq dO_readHeader 10 rfl) ?_
    refine zi_iload_n 1 (dq dO_readHeader 11 rfl) rfl ?_
    refine zi_icmp_eq (tgt := 25) (dq dO_readHeader 12 rfl) (by decide) (fun c => ?_) (fun c => ?_)
    · have h := q_t c h
      refine zi_aload_n 0 (dq dO_readHeader 15 rfl) rfl ?_
      refine ri_getr (zLs hL 24 rfl) (zLr hL 15 rfl) fO_9 (dq dO_readHeader 16 rfl) ?_
      refine zi_aload_n 0 (dq dO_readHeader 17 rfl) rfl ?_
      refine ri_geti (zLs hL 24 rfl) (by decide) fO_23 (dq dO_readHeader 18 rfl) ?_
      refine zi_iconst (v := 1) (dq dO_readHeader 19 rfl) (by decide) ?_
      refine zi_iadd (dq dO_readHeader 20 rfl) ?_
      obtain ⟨c2, h⟩ := q_k h
      refine ri_iald (zLs hL 6 rfl) (by decide) rfl c2 (dq dO_readHeader 21 rfl) ?_
      refine zi_istC (lv' := [(4, _), (0, _), (1, _), (2, _), (3, _)]) (dq dO_readHeader 22 rfl) (by decide) (by simp [z_cr, z_ci]) rfl ?_
      refine zi_aload_n 1 (dq dO_readHeader 23 rfl) rfl ?_
      refine zi_dup (dq dO_readHeader 24 rfl) (by first | rfl | exact z_cr _) ?_
      refine ri_geti (zLs hL 24 rfl) (by decide) fO_23 (dq dO_readHeader 25 rfl) ?_
      refine zi_iconst (v := 2) (dq dO_readHeader 26 rfl) (by decide) ?_
      refine zi_iadd (dq dO_readHeader 27 rfl) ?_
      refine ri_puti (zLs hL 24 rfl) (by decide) fO_23 (fun h => by cases h) rfl rfl (dq dO_readHeader 28 rfl) ?_
      refine zi_iload 0 (dq dO_readHeader 29 rfl) rfl ?_
      refine zi_sipush (v := 128) (dq dO_readHeader 30 rfl) (by decide) ?_
      refine zi_icmp_ne (tgt := 74) (dq dO_readHeader 31 rfl) (by decide) (fun c => ?_) (fun c => ?_)
      · have h := q_f c h
        refine zi_iload 0 (dq dO_readHeader 41 rfl) rfl ?_
        refine zi_sipush (v := 128) (dq dO_readHeader 42 rfl) (by decide) ?_
        refine zi_icmp_ge (tgt := 87) (dq dO_readHeader 43 rfl) (by decide) (fun c => ?_) (fun c => ?_)
        · have h := q_t c h
          refine zi_aload_n 1 (dq dO_readHeader 46 rfl) rfl ?_
          refine zi_iload 0 (dq dO_readHeader 47 rfl) rfl ?_
          refine zi_sipush (v := 128) (dq dO_readHeader 48 rfl) (by decide) ?_
          refine zi_isub (dq dO_readHeader 49 rfl) ?_
          refine zi_iload_n 4 (dq dO_readHeader 50 rfl) rfl ?_
          obtain ⟨v5, J6, hv5, h⟩ := q_b h
          refine zi_cVi2 (SO_readLongLength hL hv5 (d := d - 1) (by omega)) wO_readLongLength aO_148 iO_readLongLength sO_readLongLength (by omega) (zLs hL 24 rfl) rfl (Nat.le_of_ble_eq_true rfl) (dq dO_readHeader 51 rfl) (fun _ _ hh => ?_)
          obtain ⟨rfl, rfl⟩ := hh
          exact zG_lv (zs_c 1 rfl (zs_c 4 rfl zs_n)) (SO_readHeader_98 hL h hd )
        · have h := q_f c h
          refine zi_iload 0 (dq dO_readHeader 44 rfl) rfl ?_
          refine zi_goto (tgt := 98) (dq dO_readHeader 45 rfl) (by decide) ?_
          exact zG_lv (zs_c 1 rfl (zs_c 4 rfl zs_n)) (SO_readHeader_98 hL h hd )
      · have h := q_t c h
        refine zi_iload_n 3 (dq dO_readHeader 32 rfl) rfl ?_
        refine zi_if_eq (tgt := 72) (dq dO_readHeader 33 rfl) (by decide) (fun c => ?_) (fun c => ?_)
        · have h := q_t c h
          refine zi_iconst (v := (-1)) (dq dO_readHeader 39 rfl) (by decide) ?_
          exact zi_ireturn rfl rfl (dq dO_readHeader 40 rfl) (q_ri h)
        · have h := q_f c h
          refine zi_aload_n 1 (dq dO_readHeader 34 rfl) rfl ?_
          refine ri_geti (zLs hL 24 rfl) (by decide) fO_19 (dq dO_readHeader 35 rfl) ?_
          refine zi_if_ne (tgt := 72) (dq dO_readHeader 36 rfl) (by decide) (fun c => ?_) (fun c => ?_)
          · have h := q_f c h
            refine zi_iconst (v := (-1)) (dq dO_readHeader 39 rfl) (by decide) ?_
            exact zi_ireturn rfl rfl (dq dO_readHeader 40 rfl) (q_ri h)
          · have h := q_t c h
            refine zi_bipush (v := (-2)) (dq dO_readHeader 37 rfl) (by decide) ?_
            refine zi_goto (tgt := 73) (dq dO_readHeader 38 rfl) (by decide) ?_
            exact zi_ireturn rfl rfl (dq dO_readHeader 40 rfl) (q_ri h)
    · have h := q_f c h
      refine zi_iconst (v := (-1)) (dq dO_readHeader 13 rfl) (by decide) ?_
      exact zi_ireturn rfl rfl (dq dO_readHeader 14 rfl) (q_ri h)
def FO_readItems_46 (N : Nat) (M0 : zM) (rec : (Option Nat × Int32 × Int32 × Int32 × Int32 × Int32 × zJ) → Option (Bool × zJ)) (l1 : Option Nat) (l2 : Int32) (l5 : Int32) (J : zJ) : Option (Bool × zJ) :=
  qk (qi l2 100) <|
  let J2 := zu J 18 l2.toNatClampNeg l5
  qo l1 M0 6 fun o3 =>
  qc (FT_allows N M0 o3 l5) fun v4 =>
  some (v4, J2)
theorem SO_readItems_46 {g : zg} {d N : Nat} {M0 : zM} {A : Nat} {rec : (Option Nat × Int32 × Int32 × Int32 × Int32 × Int32 × zJ) → Option (Bool × zJ)} {L : Nat} {r : Bool} {J1 : zJ} {J : zJ}  {l1 : Option Nat} {l2 : Int32} {l5 : Int32} (hL : zLy M0 A dShL dRf) (hrec : ∀ s r, rec s = some r → ∀ d, L ≤ d → zEi g d mO_readElement [va_rf (some (A + 24)), va_rf s.1, .int s.2.1, .int s.2.2.1, .int s.2.2.2.1, .int s.2.2.2.2.1, .int s.2.2.2.2.2.1] (zmm M0 A 32 s.2.2.2.2.2.2) (fun v Mq => v = bI r.1 ∧ Mq = zmm M0 A 32 r.2)) (h : FO_readItems_46 N M0 rec l1 l2 l5 J = some (r, J1)) (hd : L + 2 ≤ d)  : zG g d mO_readItems (zPq (rB r) (zmm M0 A 32 J1)) (zmm M0 A 32 J) 46 [(0, va_rf (some (A + 24))), (1, va_rf l1), (2, .int l2), (5, .int l5)] [] := by
  unfold FO_readItems_46 at h
  refine zi_aload_n 0 (dq dO_readItems 25 rfl) rfl ?_
  refine ri_getr (zLs hL 24 rfl) (zLr hL 14 rfl) fO_15 (dq dO_readItems 26 rfl) ?_
  refine ri_getr (zLs hL 16 rfl) (zLr hL 22 rfl) fO_89 (dq dO_readItems 27 rfl) ?_
  refine zi_iload_n 2 (dq dO_readItems 28 rfl) rfl ?_
  refine zi_iload 3 (dq dO_readItems 29 rfl) rfl ?_
  obtain ⟨c1, h⟩ := q_k h
  refine ri_iast (zLs hL 18 rfl) (by decide) rfl c1 (dq dO_readItems 30 rfl) ?_
  refine zi_aload_n 1 (dq dO_readItems 31 rfl) rfl ?_
  refine zi_iload 3 (dq dO_readItems 32 rfl) rfl ?_
  obtain ⟨o3, eo3, ho3, h⟩ := q_o h
  refine zi_rc1 eo3 ?_
  obtain ⟨v4, hv4, h⟩ := q_c h
  refine zi_cVi1 (ST_allows (zag_d hL _) ho3 hv4 (d := d - 1) (by omega)) wT_allows aO_122 iT_allows sT_allows (by omega) ((zag_d hL _) _ _ (by decide) ho3).1 rfl (Nat.le_of_ble_eq_true rfl) (dq dO_readItems 33 rfl) (fun _ _ hh => ?_)
  obtain ⟨rfl, rfl⟩ := hh
  exact zi_ireturn rfl (bI_nar _) (dq dO_readItems 34 rfl) (q_rb h)
def FO_readItems_3 (N : Nat) (M0 : zM) (rec : (Option Nat × Int32 × Int32 × Int32 × Int32 × Int32 × zJ) → Option (Bool × zJ)) (l1 : Option Nat) (l2 : Int32) (l3 : Int32) (l4 : Int32) (K3 : (Int32 × zJ) → Option (Bool × zJ)) (s : Int32 × zJ) : Option (Bool × zJ) :=
  let l5 := s.1
  let J := s.2
  if 100 ≤ l5 then
    FO_readItems_46 N M0 rec l1 l2 l5 J
  else
    qb (FO_nextTagBit N M0 l3 J) fun v1 J2 =>
    if v1 = 0 then
      FO_readItems_46 N M0 rec l1 l2 l5 J2
    else
      qo l1 M0 6 fun o3 =>
      qb (rec ((zr M0 o3 9), ((-1)), l2, l5, l3, (l4 + 1), J2)) fun v4 J5 =>
      if (bI v4) = 0 then
        some (false, J5)
      else
        let y6 := l5 + (1)
        K3 (y6, J5)
theorem SO_readItems_3 {g : zg} {d N : Nat} {M0 : zM} {A : Nat} {rec : (Option Nat × Int32 × Int32 × Int32 × Int32 × Int32 × zJ) → Option (Bool × zJ)} {L : Nat} {r : Bool} {J1 : zJ}  {l1 : Option Nat} {l2 : Int32} {l3 : Int32} {l4 : Int32} (hL : zLy M0 A dShL dRf) (hrec : ∀ s r, rec s = some r → ∀ d, L ≤ d → zEi g d mO_readElement [va_rf (some (A + 24)), va_rf s.1, .int s.2.1, .int s.2.2.1, .int s.2.2.2.1, .int s.2.2.2.2.1, .int s.2.2.2.2.2.1] (zmm M0 A 32 s.2.2.2.2.2.2) (fun v Mq => v = bI r.1 ∧ Mq = zmm M0 A 32 r.2)) (hd : L + 2 ≤ d)  : ∀ n s, qfix (FO_readItems_3 N M0 rec l1 l2 l3 l4) n s = some (r, J1) → zG g d mO_readItems (zPq (rB r) (zmm M0 A 32 J1)) (zmm M0 A 32 s.2) 3 [(0, va_rf (some (A + 24))), (1, va_rf l1), (2, .int l2), (3, .int l3), (4, .int l4), (5, .int s.1)] [] := by
  refine qfix_sound (fun K3 hK3 s h => ?_)
  unfold FO_readItems_3 at h
  refine zi_iload 5 (dq dO_readItems 2 rfl) rfl ?_
  refine zi_bipush (v := 100) (dq dO_readItems 3 rfl) (by decide) ?_
  refine zi_icmp_ge (tgt := 46) (dq dO_readItems 4 rfl) (by decide) (fun c => ?_) (fun c => ?_)
  · have h := q_t c h
    exact zG_lv (zs_c 0 rfl (zs_c 1 rfl (zs_c 2 rfl (zs_c 5 rfl zs_n)))) (SO_readItems_46 hL hrec h hd )
  · have h := q_f c h
    refine zi_aload_n 0 (dq dO_readItems 5 rfl) rfl ?_
    refine zi_iload_n 3 (dq dO_readItems 6 rfl) rfl ?_
    obtain ⟨v1, J2, hv1, h⟩ := q_b h
    refine zi_cVi1 (SO_nextTagBit hL hv1 (d := d - 1) (by omega)) wO_nextTagBit aO_82 iO_nextTagBit sO_nextTagBit (by omega) (zLs hL 24 rfl) rfl (Nat.le_of_ble_eq_true rfl) (dq dO_readItems 7 rfl) (fun _ _ hh => ?_)
    obtain ⟨rfl, rfl⟩ := hh
    refine zi_if_eq (tgt := 46) (dq dO_readItems 8 rfl) (by decide) (fun c => ?_) (fun c => ?_)
    · have h := q_t c h
      exact zG_lv (zs_c 0 rfl (zs_c 1 rfl (zs_c 2 rfl (zs_c 5 rfl zs_n)))) (SO_readItems_46 hL hrec h hd )
    · have h := q_f c h
      refine zi_aload_n 0 (dq dO_readItems 9 rfl) rfl ?_
      refine zi_aload_n 1 (dq dO_readItems 10 rfl) rfl ?_
      obtain ⟨o3, eo3, ho3, h⟩ := q_o h
      refine zi_rc0 eo3 ?_
      refine ti_getr (zag_d hL _) ho3 (by decide) fO_78 (dq dO_readItems 11 rfl) ?_
      refine zi_iconst (v := (-1)) (dq dO_readItems 12 rfl) (by decide) ?_
      refine zi_iload_n 2 (dq dO_readItems 13 rfl) rfl ?_
      refine zi_iload 5 (dq dO_readItems 14 rfl) rfl ?_
      refine zi_iload_n 3 (dq dO_readItems 15 rfl) rfl ?_
      refine zi_iload 4 (dq dO_readItems 16 rfl) rfl ?_
      refine zi_iconst (v := 1) (dq dO_readItems 17 rfl) (by decide) ?_
      refine zi_iadd (dq dO_readItems 18 rfl) ?_
      obtain ⟨v4, J5, hv4, h⟩ := q_b h
      refine zi_cVi6 (hrec _ _ hv4 (d - 1) (by omega)) wO_readElement aO_27 iO_readElement sO_readElement (by omega) (zLs hL 24 rfl) rfl (Nat.le_of_ble_eq_true rfl) (dq dO_readItems 19 rfl) (fun _ _ hh => ?_)
      obtain ⟨rfl, rfl⟩ := hh
      refine zi_if_ne (tgt := 40) (dq dO_readItems 20 rfl) (by decide) (fun c => ?_) (fun c => ?_)
      · have h := q_f c h
        refine zi_iincC (v := _ + (1)) (lv' := [(5, _), (0, _), (1, _), (2, _), (3, _), (4, _)]) 5 (dq dO_readItems 23 rfl) rfl rfl (by decide) (by simp [z_cr, z_ci]) rfl ?_
        refine zi_goto (tgt := 3) (dq dO_readItems 24 rfl) (by decide) ?_
        exact zG_lv (zs_c 1 rfl (zs_c 2 rfl (zs_c 3 rfl (zs_c 4 rfl (zs_c 5 rfl (zs_c 0 rfl zs_n)))))) (hK3 _ h)
      · have h := q_t c h
        refine zi_iconst (v := 0) (dq dO_readItems 21 rfl) (by decide) ?_
        exact zi_ireturn rfl (by decide) (dq dO_readItems 22 rfl) (q_rb (b := false) h)
def FO_readItems (N : Nat) (M0 : zM) (rec : (Option Nat × Int32 × Int32 × Int32 × Int32 × Int32 × zJ) → Option (Bool × zJ)) (l1 : Option Nat) (l2 : Int32) (l3 : Int32) (l4 : Int32) (J : zJ) : Option (Bool × zJ) :=
  qfix (FO_readItems_3 N M0 rec l1 l2 l3 l4) N (0, J)
theorem SO_readItems {g : zg} {d N : Nat} {M0 : zM} {A : Nat} {rec : (Option Nat × Int32 × Int32 × Int32 × Int32 × Int32 × zJ) → Option (Bool × zJ)} {L : Nat} {r : Bool} {J1 : zJ} {J : zJ} {l1 : Option Nat} {l2 : Int32} {l3 : Int32} {l4 : Int32} (hL : zLy M0 A dShL dRf) (hrec : ∀ s r, rec s = some r → ∀ d, L ≤ d → zEi g d mO_readElement [va_rf (some (A + 24)), va_rf s.1, .int s.2.1, .int s.2.2.1, .int s.2.2.2.1, .int s.2.2.2.2.1, .int s.2.2.2.2.2.1] (zmm M0 A 32 s.2.2.2.2.2.2) (fun v Mq => v = bI r.1 ∧ Mq = zmm M0 A 32 r.2)) (h : FO_readItems N M0 rec l1 l2 l3 l4 J = some (r, J1)) (hd : L + 2 ≤ d) : zEi g d mO_readItems [va_rf (some (A + 24)), va_rf l1, .int l2, .int l3, .int l4] (zmm M0 A 32 J) (fun v Mq => v = bI r ∧ Mq = zmm M0 A 32 J1) := by
  unfold FO_readItems at h
  refine zEb_q (r := r) (lv := [(0, va_rf (some (A + 24))), (1, va_rf l1), (2, .int l2), (3, .int l3), (4, .int l4)]) ⟨by decide +kernel, by decide, by decide +kernel⟩ (by simp [z_cr, z_ci]) (Nat.le_of_ble_eq_true rfl) rfl ?_
  refine zi_iconst (v := 0) (dq dO_readItems 0 rfl) (by decide) ?_
  refine zi_istC (lv' := [(5, _), (0, _), (1, _), (2, _), (3, _), (4, _)]) (dq dO_readItems 1 rfl) (by decide) (by simp [z_cr, z_ci]) rfl ?_
  exact zG_lv (zs_c 1 rfl (zs_c 2 rfl (zs_c 3 rfl (zs_c 4 rfl (zs_c 5 rfl (zs_c 0 rfl zs_n)))))) (SO_readItems_3 hL hrec hd  _ _ h)
def FO_readBoolean_37 (N : Nat) (M0 : zM) (l2 : Int32) (t1 : Int32) (t2 : Int32) (J : zJ) : Option (Bool × zJ) :=
  qk (qi t1 100) <|
  let J2 := zu J 18 t1.toNatClampNeg t2
  if (J2 24 2) = 0 then
    some (true, J2)
  else
    if l2 = 0 then
      some (true, J2)
    else
      if l2 = 255 then
        some (true, J2)
      else
        some (false, J2)
theorem SO_readBoolean_37 {g : zg} {d N : Nat} {M0 : zM} {A : Nat} {r : Bool} {J1 : zJ} {J : zJ}  {l2 : Int32} {t1 : Int32} {t2 : Int32} (hL : zLy M0 A dShL dRf) (h : FO_readBoolean_37 N M0 l2 t1 t2 J = some (r, J1)) (hd : 0 ≤ d)  : zG g d mO_readBoolean (zPq (rB r) (zmm M0 A 32 J1)) (zmm M0 A 32 J) 37 [(0, va_rf (some (A + 24))), (2, .int l2)] [.int t2, .int t1, va_rf (some (A + 18))] := by
  unfold FO_readBoolean_37 at h
  obtain ⟨c1, h⟩ := q_k h
  refine ri_iast (zLs hL 18 rfl) (by decide) rfl c1 (dq dO_readBoolean 21 rfl) ?_
  refine zi_aload_n 0 (dq dO_readBoolean 22 rfl) rfl ?_
  refine ri_geti (zLs hL 24 rfl) (by decide) fO_19 (dq dO_readBoolean 23 rfl) ?_
  refine zi_if_eq (tgt := 56) (dq dO_readBoolean 24 rfl) (by decide) (fun c => ?_) (fun c => ?_)
  · have h := q_t c h
    refine zi_iconst (v := 1) (dq dO_readBoolean 30 rfl) (by decide) ?_
    refine zi_goto (tgt := 61) (dq dO_readBoolean 31 rfl) (by decide) ?_
    exact zi_ireturn rfl (by decide) (dq dO_readBoolean 33 rfl) (q_rb (b := true) h)
  · have h := q_f c h
    refine zi_iload_n 1 (dq dO_readBoolean 25 rfl) rfl ?_
    refine zi_if_eq (tgt := 56) (dq dO_readBoolean 26 rfl) (by decide) (fun c => ?_) (fun c => ?_)
    · have h := q_t c h
      refine zi_iconst (v := 1) (dq dO_readBoolean 30 rfl) (by decide) ?_
      refine zi_goto (tgt := 61) (dq dO_readBoolean 31 rfl) (by decide) ?_
      exact zi_ireturn rfl (by decide) (dq dO_readBoolean 33 rfl) (q_rb (b := true) h)
    · have h := q_f c h
      refine zi_iload_n 1 (dq dO_readBoolean 27 rfl) rfl ?_
      refine zi_sipush (v := 255) (dq dO_readBoolean 28 rfl) (by decide) ?_
      refine zi_icmp_ne (tgt := 60) (dq dO_readBoolean 29 rfl) (by decide) (fun c => ?_) (fun c => ?_)
      · have h := q_f c h
        refine zi_iconst (v := 0) (dq dO_readBoolean 32 rfl) (by decide) ?_
        exact zi_ireturn rfl (by decide) (dq dO_readBoolean 33 rfl) (q_rb (b := false) h)
      · have h := q_t c h
        refine zi_iconst (v := 1) (dq dO_readBoolean 30 rfl) (by decide) ?_
        refine zi_goto (tgt := 61) (dq dO_readBoolean 31 rfl) (by decide) ?_
        exact zi_ireturn rfl (by decide) (dq dO_readBoolean 33 rfl) (q_rb (b := true) h)
def FO_readBoolean (N : Nat) (M0 : zM) (l1 : Int32) (J : zJ) : Option (Bool × zJ) :=
  qk (qi (J 24 3) 120) <|
  let y2 := J 6 (J 24 3).toNatClampNeg
  let J3 := zu J 24 3 ((J 24 3) + 1)
  if y2 = 0 then
    FO_readBoolean_37 N M0 y2 l1 0 J3
  else
    FO_readBoolean_37 N M0 y2 l1 1 J3
theorem SO_readBoolean {g : zg} {d N : Nat} {M0 : zM} {A : Nat} {r : Bool} {J1 : zJ} {J : zJ} {l1 : Int32} (hL : zLy M0 A dShL dRf) (h : FO_readBoolean N M0 l1 J = some (r, J1)) (hd : 0 ≤ d) : zEi g d mO_readBoolean [va_rf (some (A + 24)), .int l1] (zmm M0 A 32 J) (fun v Mq => v = bI r ∧ Mq = zmm M0 A 32 J1) := by
  unfold FO_readBoolean at h
  refine zEb_q (r := r) (lv := [(0, va_rf (some (A + 24))), (1, .int l1)]) ⟨by decide +kernel, by decide, by decide +kernel⟩ (by simp [z_cr, z_ci]) (Nat.le_of_ble_eq_true rfl) rfl ?_
  refine zi_aload_n 0 (dq dO_readBoolean 0 rfl) rfl ?_
  refine ri_getr (zLs hL 24 rfl) (zLr hL 15 rfl) fO_9 (dq dO_readBoolean 1 rfl) ?_
  refine zi_aload_n 0 (dq dO_readBoolean 2 rfl) rfl ?_
  refine ri_geti (zLs hL 24 rfl) (by decide) fO_23 (dq dO_readBoolean 3 rfl) ?_
  obtain ⟨c1, h⟩ := q_k h
  refine ri_iald (zLs hL 6 rfl) (by decide) rfl c1 (dq dO_readBoolean 4 rfl) ?_
  refine zi_istC_n (lv' := [(2, _), (0, _), (1, _)]) (dq dO_readBoolean 5 rfl) (by decide) (by simp [z_cr, z_ci]) rfl ?_
  refine zi_aload_n 1 (dq dO_readBoolean 6 rfl) rfl ?_
  refine zi_dup (dq dO_readBoolean 7 rfl) (by first | rfl | exact z_cr _) ?_
  refine ri_geti (zLs hL 24 rfl) (by decide) fO_23 (dq dO_readBoolean 8 rfl) ?_
  refine zi_iconst (v := 1) (dq dO_readBoolean 9 rfl) (by decide) ?_
  refine zi_iadd (dq dO_readBoolean 10 rfl) ?_
  refine ri_puti (zLs hL 24 rfl) (by decide) fO_23 (fun h => by cases h) rfl rfl (dq dO_readBoolean 11 rfl) ?_
  refine zi_aload_n 1 (dq dO_readBoolean 12 rfl) rfl ?_
  refine ri_getr (zLs hL 24 rfl) (zLr hL 14 rfl) fO_15 (dq dO_readBoolean 13 rfl) ?_
  refine ri_getr (zLs hL 16 rfl) (zLr hL 22 rfl) fO_89 (dq dO_readBoolean 14 rfl) ?_
  refine zi_iload_n 2 (dq dO_readBoolean 15 rfl) rfl ?_
  refine zi_iload_n 0 (dq dO_readBoolean 16 rfl) rfl ?_
  refine zi_if_ne (tgt := 36) (dq dO_readBoolean 17 rfl) (by decide) (fun c => ?_) (fun c => ?_)
  · have h := q_f c h
    refine zi_iconst (v := 1) (dq dO_readBoolean 20 rfl) (by decide) ?_
    exact zG_lv (zs_c 1 rfl (zs_c 0 rfl zs_n)) (SO_readBoolean_37 hL h hd )
  · have h := q_t c h
    refine zi_iconst (v := 0) (dq dO_readBoolean 18 rfl) (by decide) ?_
    refine zi_goto (tgt := 37) (dq dO_readBoolean 19 rfl) (by decide) ?_
    exact zG_lv (zs_c 1 rfl (zs_c 0 rfl zs_n)) (SO_readBoolean_37 hL h hd )
def FO_readInteger (N : Nat) (M0 : zM) (l1 : Option Nat) (l2 : Int32) (l3 : Int32) (J : zJ) : Option (Bool × zJ) :=
  qb (FI_areBytesOfOne N (J 24 3) l3 J) fun v1 J2 =>
  if (bI v1) = 0 then
    some (false, J2)
  else
    qb (FI_fromBytes N (J2 24 3) l3 J2) fun v3 J4 =>
    let J5 := zu J4 24 3 ((J4 24 3) + l3)
    qk (qi l2 100) <|
    let J7 := zu J5 18 l2.toNatClampNeg v3
    qo l1 M0 6 fun o8 =>
    qc (FT_allows N M0 o8 v3) fun v9 =>
    some (v9, J7)
theorem SO_readInteger {g : zg} {d N : Nat} {M0 : zM} {A : Nat} {r : Bool} {J1 : zJ} {J : zJ} {l1 : Option Nat} {l2 : Int32} {l3 : Int32} (hL : zLy M0 A dShL dRf) (h : FO_readInteger N M0 l1 l2 l3 J = some (r, J1)) (hd : 1 ≤ d) : zEi g d mO_readInteger [va_rf (some (A + 24)), va_rf l1, .int l2, .int l3] (zmm M0 A 32 J) (fun v Mq => v = bI r ∧ Mq = zmm M0 A 32 J1) := by
  unfold FO_readInteger at h
  refine zEb_q (r := r) (lv := [(0, va_rf (some (A + 24))), (1, va_rf l1), (2, .int l2), (3, .int l3)]) ⟨by decide +kernel, by decide, by decide +kernel⟩ (by simp [z_cr, z_ci]) (Nat.le_of_ble_eq_true rfl) rfl ?_
  refine zi_aload_n 0 (dq dO_readInteger 0 rfl) rfl ?_
  refine ri_getr (zLs hL 24 rfl) (zLr hL 15 rfl) fO_9 (dq dO_readInteger 1 rfl) ?_
  refine zi_aload_n 0 (dq dO_readInteger 2 rfl) rfl ?_
  refine ri_geti (zLs hL 24 rfl) (by decide) fO_23 (dq dO_readInteger 3 rfl) ?_
  refine zi_iload_n 3 (dq dO_readInteger 4 rfl) rfl ?_
  obtain ⟨v1, J2, hv1, h⟩ := q_b h
  refine zi_cSi3 (SI_areBytesOfOne hL hv1 (d := d - 1) (by omega)) wI_areBytesOfOne aO_135 tI_areBytesOfOne (by omega) (Nat.le_of_ble_eq_true rfl) (dq dO_readInteger 5 rfl) (fun _ _ hh => ?_)
  obtain ⟨rfl, rfl⟩ := hh
  refine zi_if_ne (tgt := 17) (dq dO_readInteger 6 rfl) (by decide) (fun c => ?_) (fun c => ?_)
  · have h := q_f c h
    refine zi_aload_n 0 (dq dO_readInteger 9 rfl) rfl ?_
    refine ri_getr (zLs hL 24 rfl) (zLr hL 15 rfl) fO_9 (dq dO_readInteger 10 rfl) ?_
    refine zi_aload_n 0 (dq dO_readInteger 11 rfl) rfl ?_
    refine ri_geti (zLs hL 24 rfl) (by decide) fO_23 (dq dO_readInteger 12 rfl) ?_
    refine zi_iload_n 3 (dq dO_readInteger 13 rfl) rfl ?_
    obtain ⟨v3, J4, hv3, h⟩ := q_b h
    refine zi_cSi3 (SI_fromBytes hL hv3 (d := d - 1) (by omega)) wI_fromBytes aO_141 tI_fromBytes (by omega) (Nat.le_of_ble_eq_true rfl) (dq dO_readInteger 14 rfl) (fun _ _ hh => ?_)
    obtain ⟨rfl, rfl⟩ := hh
    refine zi_istC (lv' := [(4, _), (0, _), (1, _), (2, _), (3, _)]) (dq dO_readInteger 15 rfl) (by decide) (by simp [z_cr, z_ci]) rfl ?_
    refine zi_aload_n 1 (dq dO_readInteger 16 rfl) rfl ?_
    refine zi_dup (dq dO_readInteger 17 rfl) (by first | rfl | exact z_cr _) ?_
    refine ri_geti (zLs hL 24 rfl) (by decide) fO_23 (dq dO_readInteger 18 rfl) ?_
    refine zi_iload_n 4 (dq dO_readInteger 19 rfl) rfl ?_
    refine zi_iadd (dq dO_readInteger 20 rfl) ?_
    refine ri_puti (zLs hL 24 rfl) (by decide) fO_23 (fun h => by cases h) rfl rfl (dq dO_readInteger 21 rfl) ?_
    refine zi_aload_n 1 (dq dO_readInteger 22 rfl) rfl ?_
    refine ri_getr (zLs hL 24 rfl) (zLr hL 14 rfl) fO_15 (dq dO_readInteger 23 rfl) ?_
    refine ri_getr (zLs hL 16 rfl) (zLr hL 22 rfl) fO_89 (dq dO_readInteger 24 rfl) ?_
    refine zi_iload_n 3 (dq dO_readInteger 25 rfl) rfl ?_
    refine zi_iload 0 (dq dO_readInteger 26 rfl) rfl ?_
    obtain ⟨c6, h⟩ := q_k h
    refine ri_iast (zLs hL 18 rfl) (by decide) rfl c6 (dq dO_readInteger 27 rfl) ?_
    refine zi_aload_n 2 (dq dO_readInteger 28 rfl) rfl ?_
    refine zi_iload 0 (dq dO_readInteger 29 rfl) rfl ?_
    obtain ⟨o8, eo8, ho8, h⟩ := q_o h
    refine zi_rc1 eo8 ?_
    obtain ⟨v9, hv9, h⟩ := q_c h
    refine zi_cVi1 (ST_allows (zag_d hL _) ho8 hv9 (d := d - 1) (by omega)) wT_allows aO_122 iT_allows sT_allows (by omega) ((zag_d hL _) _ _ (by decide) ho8).1 rfl (Nat.le_of_ble_eq_true rfl) (dq dO_readInteger 30 rfl) (fun _ _ hh => ?_)
    obtain ⟨rfl, rfl⟩ := hh
    exact zi_ireturn rfl (bI_nar _) (dq dO_readInteger 31 rfl) (q_rb h)
  · have h := q_t c h
    refine zi_iconst (v := 0) (dq dO_readInteger 7 rfl) (by decide) ?_
    exact zi_ireturn rfl (by decide) (dq dO_readInteger 8 rfl) (q_rb (b := false) h)
def FO_readOctets_2 (N : Nat) (M0 : zM) (l1 : Int32) (l2 : Int32) (K2 : (Int32 × zJ) → Option (Bool × zJ)) (s : Int32 × zJ) : Option (Bool × zJ) :=
  let l3 := s.1
  let J := s.2
  if l2 ≤ l3 then
    some (true, J)
  else
    qk (qi (J 24 3) 120) <|
    qb (FV_addOctet N M0 16 l1 (J 6 (J 24 3).toNatClampNeg) J) fun v2 J3 =>
    if (bI v2) = 0 then
      some (false, J3)
    else
      let J4 := zu J3 24 3 ((J3 24 3) + 1)
      let y5 := l3 + (1)
      K2 (y5, J4)
theorem SO_readOctets_2 {g : zg} {d N : Nat} {M0 : zM} {A : Nat} {r : Bool} {J1 : zJ}  {l1 : Int32} {l2 : Int32} (hL : zLy M0 A dShL dRf) (hd : 1 ≤ d)  : ∀ n s, qfix (FO_readOctets_2 N M0 l1 l2) n s = some (r, J1) → zG g d mO_readOctets (zPq (rB r) (zmm M0 A 32 J1)) (zmm M0 A 32 s.2) 2 [(0, va_rf (some (A + 24))), (1, .int l1), (2, .int l2), (3, .int s.1)] [] := by
  refine qfix_sound (fun K2 hK2 s h => ?_)
  unfold FO_readOctets_2 at h
  refine zi_iload_n 3 (dq dO_readOctets 2 rfl) rfl ?_
  refine zi_iload_n 2 (dq dO_readOctets 3 rfl) rfl ?_
  refine zi_icmp_ge (tgt := 45) (dq dO_readOctets 4 rfl) (by decide) (fun c => ?_) (fun c => ?_)
  · have h := q_t c h
    refine zi_iconst (v := 1) (dq dO_readOctets 25 rfl) (by decide) ?_
    exact zi_ireturn rfl (by decide) (dq dO_readOctets 26 rfl) (q_rb (b := true) h)
  · have h := q_f c h
    refine zi_aload_n 0 (dq dO_readOctets 5 rfl) rfl ?_
    refine ri_getr (zLs hL 24 rfl) (zLr hL 14 rfl) fO_15 (dq dO_readOctets 6 rfl) ?_
    refine zi_iload_n 1 (dq dO_readOctets 7 rfl) rfl ?_
    refine zi_aload_n 0 (dq dO_readOctets 8 rfl) rfl ?_
    refine ri_getr (zLs hL 24 rfl) (zLr hL 15 rfl) fO_9 (dq dO_readOctets 9 rfl) ?_
    refine zi_aload_n 0 (dq dO_readOctets 10 rfl) rfl ?_
    refine ri_geti (zLs hL 24 rfl) (by decide) fO_23 (dq dO_readOctets 11 rfl) ?_
    obtain ⟨c1, h⟩ := q_k h
    refine ri_iald (zLs hL 6 rfl) (by decide) rfl c1 (dq dO_readOctets 12 rfl) ?_
    obtain ⟨v2, J3, hv2, h⟩ := q_b h
    refine zi_cVi2 (SV_addOctet (dLy_v (Or.inr rfl) hL) (by decide) (zag_d hL) hv2 (d := d - 1) (by omega)) wV_addOctet aO_145 iV_addOctet sV_addOctet (by omega) (zLs hL 16 rfl) rfl (Nat.le_of_ble_eq_true rfl) (dq dO_readOctets 13 rfl) (fun _ _ hh => ?_)
    obtain ⟨rfl, rfl⟩ := hh
    refine zi_if_ne (tgt := 29) (dq dO_readOctets 14 rfl) (by decide) (fun c => ?_) (fun c => ?_)
    · have h := q_f c h
      refine zi_aload_n 0 (dq dO_readOctets 17 rfl) rfl ?_
      refine zi_dup (dq dO_readOctets 18 rfl) (by first | rfl | exact z_cr _) ?_
      refine ri_geti (zLs hL 24 rfl) (by decide) fO_23 (dq dO_readOctets 19 rfl) ?_
      refine zi_iconst (v := 1) (dq dO_readOctets 20 rfl) (by decide) ?_
      refine zi_iadd (dq dO_readOctets 21 rfl) ?_
      refine ri_puti (zLs hL 24 rfl) (by decide) fO_23 (fun h => by cases h) rfl rfl (dq dO_readOctets 22 rfl) ?_
      refine zi_iincC (v := _ + (1)) (lv' := [(3, _), (0, _), (1, _), (2, _)]) 3 (dq dO_readOctets 23 rfl) rfl rfl (by decide) (by simp [z_cr, z_ci]) rfl ?_
      refine zi_goto (tgt := 2) (dq dO_readOctets 24 rfl) (by decide) ?_
      exact zG_lv (zs_c 1 rfl (zs_c 2 rfl (zs_c 3 rfl (zs_c 0 rfl zs_n)))) (hK2 _ h)
    · have h := q_t c h
      refine zi_iconst (v := 0) (dq dO_readOctets 15 rfl) (by decide) ?_
      exact zi_ireturn rfl (by decide) (dq dO_readOctets 16 rfl) (q_rb (b := false) h)
def FO_readOctets (N : Nat) (M0 : zM) (l1 : Int32) (l2 : Int32) (J : zJ) : Option (Bool × zJ) :=
  qfix (FO_readOctets_2 N M0 l1 l2) N (0, J)
theorem SO_readOctets {g : zg} {d N : Nat} {M0 : zM} {A : Nat} {r : Bool} {J1 : zJ} {J : zJ} {l1 : Int32} {l2 : Int32} (hL : zLy M0 A dShL dRf) (h : FO_readOctets N M0 l1 l2 J = some (r, J1)) (hd : 1 ≤ d) : zEi g d mO_readOctets [va_rf (some (A + 24)), .int l1, .int l2] (zmm M0 A 32 J) (fun v Mq => v = bI r ∧ Mq = zmm M0 A 32 J1) := by
  unfold FO_readOctets at h
  refine zEb_q (r := r) (lv := [(0, va_rf (some (A + 24))), (1, .int l1), (2, .int l2)]) ⟨by decide +kernel, by decide, by decide +kernel⟩ (by simp [z_cr, z_ci]) (Nat.le_of_ble_eq_true rfl) rfl ?_
  refine zi_iconst (v := 0) (dq dO_readOctets 0 rfl) (by decide) ?_
  refine zi_istC_n (lv' := [(3, _), (0, _), (1, _), (2, _)]) (dq dO_readOctets 1 rfl) (by decide) (by simp [z_cr, z_ci]) rfl ?_
  exact zG_lv (zs_c 1 rfl (zs_c 2 rfl (zs_c 3 rfl (zs_c 0 rfl zs_n)))) (SO_readOctets_2 hL hd  _ _ h)
def FO_readPlain (N : Nat) (M0 : zM) (l1 : Option Nat) (l2 : Int32) (l3 : Int32) (J : zJ) : Option (Bool × zJ) :=
  let y1 := l3 - (J 24 3)
  qo l1 M0 6 fun o2 =>
  if (zi M0 o2 0) = 1 then
    if y1 = 1 then
      qb (FO_readBoolean N M0 l2 J) fun v3 J4 =>
      if (bI v3) = 0 then
        some (false, J4)
      else
        some (true, J4)
    else
      some (false, J)
  else
    if (zi M0 o2 0) = 2 then
      qb (FO_readInteger N M0 l1 l2 y1 J) fun v5 J6 =>
      some (v5, J6)
    else
      if (zi M0 o2 0) = 4 then
        qo l1 M0 6 fun o7 =>
        qc (FT_allows N M0 o7 y1) fun v8 =>
        if (bI v8) = 0 then
          some (false, J)
        else
          qb (FO_readOctets N M0 l2 y1 J) fun v9 J10 =>
          if (bI v9) = 0 then
            some (false, J10)
          else
            some (true, J10)
      else
        if y1 = 0 then
          some (true, J)
        else
          some (false, J)
theorem SO_readPlain {g : zg} {d N : Nat} {M0 : zM} {A : Nat} {r : Bool} {J1 : zJ} {J : zJ} {l1 : Option Nat} {l2 : Int32} {l3 : Int32} (hL : zLy M0 A dShL dRf) (h : FO_readPlain N M0 l1 l2 l3 J = some (r, J1)) (hd : 2 ≤ d) : zEi g d mO_readPlain [va_rf (some (A + 24)), va_rf l1, .int l2, .int l3] (zmm M0 A 32 J) (fun v Mq => v = bI r ∧ Mq = zmm M0 A 32 J1) := by
  unfold FO_readPlain at h
  refine zEb_q (r := r) (lv := [(0, va_rf (some (A + 24))), (1, va_rf l1), (2, .int l2), (3, .int l3)]) ⟨by decide +kernel, by decide, by decide +kernel⟩ (by simp [z_cr, z_ci]) (Nat.le_of_ble_eq_true rfl) rfl ?_
  refine zi_iload_n 3 (dq dO_readPlain 0 rfl) rfl ?_
  refine zi_aload_n 0 (dq dO_readPlain 1 rfl) rfl ?_
  refine ri_geti (zLs hL 24 rfl) (by decide) fO_23 (dq dO_readPlain 2 rfl) ?_
  refine zi_isub (dq dO_readPlain 3 rfl) ?_
  refine zi_istC (lv' := [(4, _), (0, _), (1, _), (2, _), (3, _)]) (dq dO_readPlain 4 rfl) (by decide) (by simp [z_cr, z_ci]) rfl ?_
  refine zi_aload_n 2 (dq dO_readPlain 5 rfl) rfl ?_
  obtain ⟨o2, eo2, ho2, h⟩ := q_o h
  refine zi_rc0 eo2 ?_
  refine ti_geti (zag_d hL _) ho2 (by decide) fO_31 (dq dO_readPlain 6 rfl) ?_
  rcases q_w h with ⟨c1, h⟩ | ⟨c1, h⟩
  · refine zi_top c1 ?_
    refine zi_tableIn (tgt := 44) (dq dO_readPlain 7 rfl) (by decide) (by decide) rfl (by decide) ?_
    refine zi_iload 0 (dq dO_readPlain 8 rfl) rfl ?_
    refine zi_iconst (v := 1) (dq dO_readPlain 9 rfl) (by decide) ?_
    refine zi_icmp_ne (tgt := 62) (dq dO_readPlain 10 rfl) (by decide) (fun c => ?_) (fun c => ?_)
    · have h := q_f c h
      refine zi_iconst (v := 0) (dq dO_readPlain 17 rfl) (by decide) ?_
      exact zi_ireturn rfl (by decide) (dq dO_readPlain 18 rfl) (q_rb (b := false) h)
    · have h := q_t c h
      refine zi_aload_n 1 (dq dO_readPlain 11 rfl) rfl ?_
      refine zi_iload_n 3 (dq dO_readPlain 12 rfl) rfl ?_
      obtain ⟨v3, J4, hv3, h⟩ := q_b h
      refine zi_cVi1 (SO_readBoolean hL hv3 (d := d - 1) (by omega)) wO_readBoolean aO_126 iO_readBoolean sO_readBoolean (by omega) (zLs hL 24 rfl) rfl (Nat.le_of_ble_eq_true rfl) (dq dO_readPlain 13 rfl) (fun _ _ hh => ?_)
      obtain ⟨rfl, rfl⟩ := hh
      refine zi_if_eq (tgt := 62) (dq dO_readPlain 14 rfl) (by decide) (fun c => ?_) (fun c => ?_)
      · have h := q_t c h
        refine zi_iconst (v := 0) (dq dO_readPlain 17 rfl) (by decide) ?_
        exact zi_ireturn rfl (by decide) (dq dO_readPlain 18 rfl) (q_rb (b := false) h)
      · have h := q_f c h
        refine zi_iconst (v := 1) (dq dO_readPlain 15 rfl) (by decide) ?_
        refine zi_goto (tgt := 63) (dq dO_readPlain 16 rfl) (by decide) ?_
        exact zi_ireturn rfl (by decide) (dq dO_readPlain 18 rfl) (q_rb (b := true) h)
  rcases q_w h with ⟨c2, h⟩ | ⟨c2, h⟩
  · refine zi_top c2 ?_
    refine zi_tableIn (tgt := 64) (dq dO_readPlain 7 rfl) (by decide) (by decide) rfl (by decide) ?_
    refine zi_aload_n 1 (dq dO_readPlain 19 rfl) rfl ?_
    refine zi_aload_n 2 (dq dO_readPlain 20 rfl) rfl ?_
    refine zi_iload_n 3 (dq dO_readPlain 21 rfl) rfl ?_
    refine zi_iload 0 (dq dO_readPlain 22 rfl) rfl ?_
    obtain ⟨v5, J6, hv5, h⟩ := q_b h
    refine zi_cVi3 (SO_readInteger hL hv5 (d := d - 1) (by omega)) wO_readInteger aO_129 iO_readInteger sO_readInteger (by omega) (zLs hL 24 rfl) rfl (Nat.le_of_ble_eq_true rfl) (dq dO_readPlain 23 rfl) (fun _ _ hh => ?_)
    obtain ⟨rfl, rfl⟩ := hh
    exact zi_ireturn rfl (bI_nar _) (dq dO_readPlain 24 rfl) (q_rb h)
  rcases q_w h with ⟨c4, h⟩ | ⟨c4, h⟩
  · refine zi_top c4 ?_
    refine zi_tableIn (tgt := 73) (dq dO_readPlain 7 rfl) (by decide) (by decide) rfl (by decide) ?_
    refine zi_aload_n 2 (dq dO_readPlain 25 rfl) rfl ?_
    refine zi_iload 0 (dq dO_readPlain 26 rfl) rfl ?_
    obtain ⟨o7, eo7, ho7, h⟩ := q_o h
    refine zi_rc1 eo7 ?_
    obtain ⟨v8, hv8, h⟩ := q_c h
    refine zi_cVi1 (ST_allows (zag_d hL _) ho7 hv8 (d := d - 1) (by omega)) wT_allows aO_122 iT_allows sT_allows (by omega) ((zag_d hL _) _ _ (by decide) ho7).1 rfl (Nat.le_of_ble_eq_true rfl) (dq dO_readPlain 27 rfl) (fun _ _ hh => ?_)
    obtain ⟨rfl, rfl⟩ := hh
    refine zi_if_eq (tgt := 96) (dq dO_readPlain 28 rfl) (by decide) (fun c => ?_) (fun c => ?_)
    · have h := q_t c h
      refine zi_iconst (v := 0) (dq dO_readPlain 36 rfl) (by decide) ?_
      exact zi_ireturn rfl (by decide) (dq dO_readPlain 37 rfl) (q_rb (b := false) h)
    · have h := q_f c h
      refine zi_aload_n 1 (dq dO_readPlain 29 rfl) rfl ?_
      refine zi_iload_n 3 (dq dO_readPlain 30 rfl) rfl ?_
      refine zi_iload 0 (dq dO_readPlain 31 rfl) rfl ?_
      obtain ⟨v9, J10, hv9, h⟩ := q_b h
      refine zi_cVi2 (SO_readOctets hL hv9 (d := d - 1) (by omega)) wO_readOctets aO_132 iO_readOctets sO_readOctets (by omega) (zLs hL 24 rfl) rfl (Nat.le_of_ble_eq_true rfl) (dq dO_readPlain 32 rfl) (fun _ _ hh => ?_)
      obtain ⟨rfl, rfl⟩ := hh
      refine zi_if_eq (tgt := 96) (dq dO_readPlain 33 rfl) (by decide) (fun c => ?_) (fun c => ?_)
      · have h := q_t c h
        refine zi_iconst (v := 0) (dq dO_readPlain 36 rfl) (by decide) ?_
        exact zi_ireturn rfl (by decide) (dq dO_readPlain 37 rfl) (q_rb (b := false) h)
      · have h := q_f c h
        refine zi_iconst (v := 1) (dq dO_readPlain 34 rfl) (by decide) ?_
        refine zi_goto (tgt := 97) (dq dO_readPlain 35 rfl) (by decide) ?_
        exact zi_ireturn rfl (by decide) (dq dO_readPlain 37 rfl) (q_rb (b := true) h)
  refine zi_tableDef (tgt := 98) (vals := [1, 2, 4]) (dq dO_readPlain 7 rfl) (List.forall_mem_cons.mpr ⟨c1, List.forall_mem_cons.mpr ⟨c2, List.forall_mem_cons.mpr ⟨c4, fun _ h => absurd h List.not_mem_nil⟩⟩⟩) (by decide) (by decide) (by decide) ?_
  refine zi_iload 0 (dq dO_readPlain 38 rfl) rfl ?_
  refine zi_if_ne (tgt := 107) (dq dO_readPlain 39 rfl) (by decide) (fun c => ?_) (fun c => ?_)
  · have h := q_f c h
    refine zi_iconst (v := 0) (dq dO_readPlain 42 rfl) (by decide) ?_
    exact zi_ireturn rfl (by decide) (dq dO_readPlain 43 rfl) (q_rb (b := false) h)
  · have h := q_t c h
    refine zi_iconst (v := 1) (dq dO_readPlain 40 rfl) (by decide) ?_
    refine zi_goto (tgt := 108) (dq dO_readPlain 41 rfl) (by decide) ?_
    exact zi_ireturn rfl (by decide) (dq dO_readPlain 43 rfl) (q_rb (b := true) h)
def FO_readTagged_78 (N : Nat) (M0 : zM) (rec : (Option Nat × Int32 × Int32 × Int32 × Int32 × Int32 × zJ) → Option (Bool × zJ)) (l1 : Option Nat) (l3 : Int32) (l4 : Int32) (l5 : Int32) (l6 : Int32) (l7 : Int32) (t0 : Int32) (J : zJ) : Option (Bool × zJ) :=
  qo l1 M0 6 fun o1 =>
  qb (rec ((zr M0 o1 9), ((-1)), l3, l4, t0, (l6 + 1), J)) fun v2 J3 =>
  if (bI v2) = 0 then
    some (false, J3)
  else
    qb (FO_readContentEnd N M0 l7 l5 J3) fun v4 J5 =>
    if (bI v4) = 0 then
      some (false, J5)
    else
      some (true, J5)
theorem SO_readTagged_78 {g : zg} {d N : Nat} {M0 : zM} {A : Nat} {rec : (Option Nat × Int32 × Int32 × Int32 × Int32 × Int32 × zJ) → Option (Bool × zJ)} {L : Nat} {r : Bool} {J1 : zJ} {J : zJ}  {l1 : Option Nat} {l3 : Int32} {l4 : Int32} {l5 : Int32} {l6 : Int32} {l7 : Int32} {t0 : Int32} (hL : zLy M0 A dShL dRf) (hrec : ∀ s r, rec s = some r → ∀ d, L ≤ d → zEi g d mO_readElement [va_rf (some (A + 24)), va_rf s.1, .int s.2.1, .int s.2.2.1, .int s.2.2.2.1, .int s.2.2.2.2.1, .int s.2.2.2.2.2.1] (zmm M0 A 32 s.2.2.2.2.2.2) (fun v Mq => v = bI r.1 ∧ Mq = zmm M0 A 32 r.2)) (h : FO_readTagged_78 N M0 rec l1 l3 l4 l5 l6 l7 t0 J = some (r, J1)) (hd : L + 2 ≤ d)  : zG g d mO_readTagged (zPq (rB r) (zmm M0 A 32 J1)) (zmm M0 A 32 J) 78 [(0, va_rf (some (A + 24))), (1, va_rf l1), (3, .int l3), (4, .int l4), (5, .int l5), (6, .int l6), (7, .int l7)] [.int t0] := by
  unfold FO_readTagged_78 at h
  refine zi_istC (lv' := [(8, _), (0, _), (1, _), (3, _), (4, _), (5, _), (6, _), (7, _)]) (dq dO_readTagged 42 rfl) (by decide) (by simp [z_cr, z_ci]) rfl ?_
  refine zi_aload_n 1 (dq dO_readTagged 43 rfl) rfl ?_
  refine zi_aload_n 2 (dq dO_readTagged 44 rfl) rfl ?_
  obtain ⟨o1, eo1, ho1, h⟩ := q_o h
  refine zi_rc0 eo1 ?_
  refine ti_getr (zag_d hL _) ho1 (by decide) fO_78 (dq dO_readTagged 45 rfl) ?_
  refine zi_iconst (v := (-1)) (dq dO_readTagged 46 rfl) (by decide) ?_
  refine zi_iload_n 3 (dq dO_readTagged 47 rfl) rfl ?_
  refine zi_iload 4 (dq dO_readTagged 48 rfl) rfl ?_
  refine zi_iload 0 (dq dO_readTagged 49 rfl) rfl ?_
  refine zi_iload 6 (dq dO_readTagged 50 rfl) rfl ?_
  refine zi_iconst (v := 1) (dq dO_readTagged 51 rfl) (by decide) ?_
  refine zi_iadd (dq dO_readTagged 52 rfl) ?_
  obtain ⟨v2, J3, hv2, h⟩ := q_b h
  refine zi_cVi6 (hrec _ _ hv2 (d - 1) (by omega)) wO_readElement aO_27 iO_readElement sO_readElement (by omega) (zLs hL 24 rfl) rfl (Nat.le_of_ble_eq_true rfl) (dq dO_readTagged 53 rfl) (fun _ _ hh => ?_)
  obtain ⟨rfl, rfl⟩ := hh
  refine zi_if_eq (tgt := 116) (dq dO_readTagged 54 rfl) (by decide) (fun c => ?_) (fun c => ?_)
  · have h := q_t c h
    refine zi_iconst (v := 0) (dq dO_readTagged 62 rfl) (by decide) ?_
    exact zi_ireturn rfl (by decide) (dq dO_readTagged 63 rfl) (q_rb (b := false) h)
  · have h := q_f c h
    refine zi_aload_n 1 (dq dO_readTagged 55 rfl) rfl ?_
    refine zi_iload 7 (dq dO_readTagged 56 rfl) rfl ?_
    refine zi_iload 5 (dq dO_readTagged 57 rfl) rfl ?_
    obtain ⟨v4, J5, hv4, h⟩ := q_b h
    refine zi_cVi2 (SO_readContentEnd hL hv4 (d := d - 1) (by omega)) wO_readContentEnd aO_68 iO_readContentEnd sO_readContentEnd (by omega) (zLs hL 24 rfl) rfl (Nat.le_of_ble_eq_true rfl) (dq dO_readTagged 58 rfl) (fun _ _ hh => ?_)
    obtain ⟨rfl, rfl⟩ := hh
    refine zi_if_eq (tgt := 116) (dq dO_readTagged 59 rfl) (by decide) (fun c => ?_) (fun c => ?_)
    · have h := q_t c h
      refine zi_iconst (v := 0) (dq dO_readTagged 62 rfl) (by decide) ?_
      exact zi_ireturn rfl (by decide) (dq dO_readTagged 63 rfl) (q_rb (b := false) h)
    · have h := q_f c h
      refine zi_iconst (v := 1) (dq dO_readTagged 60 rfl) (by decide) ?_
      refine zi_goto (tgt := 117) (dq dO_readTagged 61 rfl) (by decide) ?_
      exact zi_ireturn rfl (by decide) (dq dO_readTagged 63 rfl) (q_rb (b := true) h)
def FO_readTagged_20 (N : Nat) (M0 : zM) (rec : (Option Nat × Int32 × Int32 × Int32 × Int32 × Int32 × zJ) → Option (Bool × zJ)) (l1 : Option Nat) (l3 : Int32) (l4 : Int32) (l5 : Int32) (l6 : Int32) (t0 : Int32) (J : zJ) : Option (Bool × zJ) :=
  qo l1 M0 6 fun o1 =>
  qb (rec ((zr M0 o1 9), t0, l3, l4, l5, (l6 + 1), J)) fun v2 J3 =>
  some (v2, J3)
theorem SO_readTagged_20 {g : zg} {d N : Nat} {M0 : zM} {A : Nat} {rec : (Option Nat × Int32 × Int32 × Int32 × Int32 × Int32 × zJ) → Option (Bool × zJ)} {L : Nat} {r : Bool} {J1 : zJ} {J : zJ}  {l1 : Option Nat} {l3 : Int32} {l4 : Int32} {l5 : Int32} {l6 : Int32} {t0 : Int32} (hL : zLy M0 A dShL dRf) (hrec : ∀ s r, rec s = some r → ∀ d, L ≤ d → zEi g d mO_readElement [va_rf (some (A + 24)), va_rf s.1, .int s.2.1, .int s.2.2.1, .int s.2.2.2.1, .int s.2.2.2.2.1, .int s.2.2.2.2.2.1] (zmm M0 A 32 s.2.2.2.2.2.2) (fun v Mq => v = bI r.1 ∧ Mq = zmm M0 A 32 r.2)) (h : FO_readTagged_20 N M0 rec l1 l3 l4 l5 l6 t0 J = some (r, J1)) (hd : L + 2 ≤ d)  : zG g d mO_readTagged (zPq (rB r) (zmm M0 A 32 J1)) (zmm M0 A 32 J) 20 [(0, va_rf (some (A + 24))), (1, va_rf l1), (3, .int l3), (4, .int l4), (5, .int l5), (6, .int l6)] [.int t0] := by
  unfold FO_readTagged_20 at h
  refine zi_istC (lv' := [(7, _), (0, _), (1, _), (3, _), (4, _), (5, _), (6, _)]) (dq dO_readTagged 10 rfl) (by decide) (by simp [z_cr, z_ci]) rfl ?_
  refine zi_aload_n 1 (dq dO_readTagged 11 rfl) rfl ?_
  refine zi_aload_n 2 (dq dO_readTagged 12 rfl) rfl ?_
  obtain ⟨o1, eo1, ho1, h⟩ := q_o h
  refine zi_rc0 eo1 ?_
  refine ti_getr (zag_d hL _) ho1 (by decide) fO_78 (dq dO_readTagged 13 rfl) ?_
  refine zi_iload 0 (dq dO_readTagged 14 rfl) rfl ?_
  refine zi_iload_n 3 (dq dO_readTagged 15 rfl) rfl ?_
  refine zi_iload 4 (dq dO_readTagged 16 rfl) rfl ?_
  refine zi_iload 5 (dq dO_readTagged 17 rfl) rfl ?_
  refine zi_iload 6 (dq dO_readTagged 18 rfl) rfl ?_
  refine zi_iconst (v := 1) (dq dO_readTagged 19 rfl) (by decide) ?_
  refine zi_iadd (dq dO_readTagged 20 rfl) ?_
  obtain ⟨v2, J3, hv2, h⟩ := q_b h
  refine zi_cVi6 (hrec _ _ hv2 (d - 1) (by omega)) wO_readElement aO_27 iO_readElement sO_readElement (by omega) (zLs hL 24 rfl) rfl (Nat.le_of_ble_eq_true rfl) (dq dO_readTagged 21 rfl) (fun _ _ hh => ?_)
  obtain ⟨rfl, rfl⟩ := hh
  exact zi_ireturn rfl (bI_nar _) (dq dO_readTagged 22 rfl) (q_rb h)
def FO_readTagged (N : Nat) (M0 : zM) (rec : (Option Nat × Int32 × Int32 × Int32 × Int32 × Int32 × zJ) → Option (Bool × zJ)) (l1 : Option Nat) (l2 : Int32) (l3 : Int32) (l4 : Int32) (l5 : Int32) (l6 : Int32) (J : zJ) : Option (Bool × zJ) :=
  qo l1 M0 6 fun o1 =>
  if (zi M0 o1 5) = 0 then
    if l2 = ((-1)) then
      qo l1 M0 6 fun o6 =>
      FO_readTagged_20 N M0 rec l1 l3 l4 l5 l6 (zi M0 o6 4) J
    else
      FO_readTagged_20 N M0 rec l1 l3 l4 l5 l6 l2 J
  else
    qo l1 M0 6 fun o2 =>
    qc (FT_tagByte N M0 o2 l2) fun v3 =>
    qb (FO_readHeader N M0 v3 1 l5 J) fun v4 J5 =>
    if v4 = ((-1)) then
      some (false, J5)
    else
      if v4 = ((-2)) then
        FO_readTagged_78 N M0 rec l1 l3 l4 l5 l6 v4 l5 J5
      else
        FO_readTagged_78 N M0 rec l1 l3 l4 l5 l6 v4 v4 J5
theorem SO_readTagged {g : zg} {d N : Nat} {M0 : zM} {A : Nat} {rec : (Option Nat × Int32 × Int32 × Int32 × Int32 × Int32 × zJ) → Option (Bool × zJ)} {L : Nat} {r : Bool} {J1 : zJ} {J : zJ} {l1 : Option Nat} {l2 : Int32} {l3 : Int32} {l4 : Int32} {l5 : Int32} {l6 : Int32} (hL : zLy M0 A dShL dRf) (hrec : ∀ s r, rec s = some r → ∀ d, L ≤ d → zEi g d mO_readElement [va_rf (some (A + 24)), va_rf s.1, .int s.2.1, .int s.2.2.1, .int s.2.2.2.1, .int s.2.2.2.2.1, .int s.2.2.2.2.2.1] (zmm M0 A 32 s.2.2.2.2.2.2) (fun v Mq => v = bI r.1 ∧ Mq = zmm M0 A 32 r.2)) (h : FO_readTagged N M0 rec l1 l2 l3 l4 l5 l6 J = some (r, J1)) (hd : L + 2 ≤ d) : zEi g d mO_readTagged [va_rf (some (A + 24)), va_rf l1, .int l2, .int l3, .int l4, .int l5, .int l6] (zmm M0 A 32 J) (fun v Mq => v = bI r ∧ Mq = zmm M0 A 32 J1) := by
  unfold FO_readTagged at h
  refine zEb_q (r := r) (lv := [(0, va_rf (some (A + 24))), (1, va_rf l1), (2, .int l2), (3, .int l3), (4, .int l4), (5, .int l5), (6, .int l6)]) ⟨by decide +kernel, by decide, by decide +kernel⟩ (by simp [z_cr, z_ci]) (Nat.le_of_ble_eq_true rfl) rfl ?_
  refine zi_aload_n 1 (dq dO_readTagged 0 rfl) rfl ?_
  obtain ⟨o1, eo1, ho1, h⟩ := q_o h
  refine zi_rc0 eo1 ?_
  refine ti_geti (zag_d hL _) ho1 (by decide) fO_72 (dq dO_readTagged 1 rfl) ?_
  refine zi_if_ne (tgt := 42) (dq dO_readTagged 2 rfl) (by decide) (fun c => ?_) (fun c => ?_)
  · have h := q_f c h
    refine zi_aload_n 0 (dq dO_readTagged 23 rfl) rfl ?_
    refine zi_aload_n 1 (dq dO_readTagged 24 rfl) rfl ?_
    refine zi_iload_n 2 (dq dO_readTagged 25 rfl) rfl ?_
    obtain ⟨o2, eo2, ho2, h⟩ := q_o h
    refine zi_rc1 eo2 ?_
    obtain ⟨v3, hv3, h⟩ := q_c h
    refine zi_cVi1 (ST_tagByte (zag_d hL _) ho2 hv3 (d := d - 1) (by omega)) wT_tagByte aO_43 iT_tagByte sT_tagByte (by omega) ((zag_d hL _) _ _ (by decide) ho2).1 rfl (Nat.le_of_ble_eq_true rfl) (dq dO_readTagged 26 rfl) (fun _ _ hh => ?_)
    obtain ⟨rfl, rfl⟩ := hh
    refine zi_iconst (v := 1) (dq dO_readTagged 27 rfl) (by decide) ?_
    refine zi_iload 5 (dq dO_readTagged 28 rfl) rfl ?_
    obtain ⟨v4, J5, hv4, h⟩ := q_b h
    refine zi_cVi3 (SO_readHeader hL hv4 (d := d - 1) (by omega)) wO_readHeader aO_47 iO_readHeader sO_readHeader (by omega) (zLs hL 24 rfl) rfl (Nat.le_of_ble_eq_true rfl) (dq dO_readTagged 29 rfl) (fun _ _ hh => ?_)
    obtain ⟨rfl, rfl⟩ := hh
    refine zi_istC (lv' := [(7, _), (0, _), (1, _), (2, _), (3, _), (4, _), (5, _), (6, _)]) (dq dO_readTagged 30 rfl) (by decide) (by simp [z_cr, z_ci]) rfl ?_
    refine zi_iload 0 (dq dO_readTagged 31 rfl) rfl ?_
    refine zi_iconst (v := (-1)) (dq dO_readTagged 32 rfl) (by decide) ?_
    refine zi_icmp_ne (tgt := 64) (dq dO_readTagged 33 rfl) (by decide) (fun c => ?_) (fun c => ?_)
    · have h := q_f c h
      refine zi_iload 0 (dq dO_readTagged 36 rfl) rfl ?_
      refine zi_bipush (v := (-2)) (dq dO_readTagged 37 rfl) (by decide) ?_
      refine zi_icmp_ne (tgt := 76) (dq dO_readTagged 38 rfl) (by decide) (fun c => ?_) (fun c => ?_)
      · have h := q_f c h
        refine zi_iload 0 (dq dO_readTagged 41 rfl) rfl ?_
        exact zG_lv (zs_c 1 rfl (zs_c 2 rfl (zs_c 4 rfl (zs_c 5 rfl (zs_c 6 rfl (zs_c 7 rfl (zs_c 0 rfl zs_n))))))) (SO_readTagged_78 hL hrec h hd )
      · have h := q_t c h
        refine zi_iload 6 (dq dO_readTagged 39 rfl) rfl ?_
        refine zi_goto (tgt := 78) (dq dO_readTagged 40 rfl) (by decide) ?_
        exact zG_lv (zs_c 1 rfl (zs_c 2 rfl (zs_c 4 rfl (zs_c 5 rfl (zs_c 6 rfl (zs_c 7 rfl (zs_c 0 rfl zs_n))))))) (SO_readTagged_78 hL hrec h hd )
    · have h := q_t c h
      refine zi_iconst (v := 0) (dq dO_readTagged 34 rfl) (by decide) ?_
      exact zi_ireturn rfl (by decide) (dq dO_readTagged 35 rfl) (q_rb (b := false) h)
  · have h := q_t c h
    refine zi_iload_n 2 (dq dO_readTagged 3 rfl) rfl ?_
    refine zi_iconst (v := (-1)) (dq dO_readTagged 4 rfl) (by decide) ?_
    refine zi_icmp_ne (tgt := 19) (dq dO_readTagged 5 rfl) (by decide) (fun c => ?_) (fun c => ?_)
    · have h := q_f c h
      refine zi_iload_n 2 (dq dO_readTagged 9 rfl) rfl ?_
      exact zG_lv (zs_c 0 rfl (zs_c 1 rfl (zs_c 3 rfl (zs_c 4 rfl (zs_c 5 rfl (zs_c 6 rfl zs_n)))))) (SO_readTagged_20 hL hrec h hd )
    · have h := q_t c h
      refine zi_aload_n 1 (dq dO_readTagged 6 rfl) rfl ?_
      obtain ⟨o6, eo6, ho6, h⟩ := q_o h
      refine zi_rc0 eo6 ?_
      refine ti_geti (zag_d hL _) ho6 (by decide) fO_75 (dq dO_readTagged 7 rfl) ?_
      refine zi_goto (tgt := 20) (dq dO_readTagged 8 rfl) (by decide) ?_
      exact zG_lv (zs_c 0 rfl (zs_c 1 rfl (zs_c 3 rfl (zs_c 4 rfl (zs_c 5 rfl (zs_c 6 rfl zs_n)))))) (SO_readTagged_20 hL hrec h hd )
def FO_readElement_197 (N : Nat) (M0 : zM) (rec : (Option Nat × Int32 × Int32 × Int32 × Int32 × Int32 × zJ) → Option (Bool × zJ)) (l5 : Int32) (l8 : Int32) (t0 : Int32) (J : zJ) : Option (Bool × zJ) :=
  if t0 = 0 then
    some (false, J)
  else
    qb (FO_readContentEnd N M0 l8 l5 J) fun v1 J2 =>
    if (bI v1) = 0 then
      some (false, J2)
    else
      some (true, J2)
theorem SO_readElement_197 {g : zg} {d N : Nat} {M0 : zM} {A : Nat} {rec : (Option Nat × Int32 × Int32 × Int32 × Int32 × Int32 × zJ) → Option (Bool × zJ)} {L : Nat} {r : Bool} {J1 : zJ} {J : zJ}  {l5 : Int32} {l8 : Int32} {t0 : Int32} (hL : zLy M0 A dShL dRf) (hrec : ∀ s r, rec s = some r → ∀ d, L ≤ d → zEi g d mO_readElement [va_rf (some (A + 24)), va_rf s.1, .int s.2.1, .int s.2.2.1, .int s.2.2.2.1, .int s.2.2.2.2.1, .int s.2.2.2.2.2.1] (zmm M0 A 32 s.2.2.2.2.2.2) (fun v Mq => v = bI r.1 ∧ Mq = zmm M0 A 32 r.2)) (h : FO_readElement_197 N M0 rec l5 l8 t0 J = some (r, J1)) (hd : L + 3 ≤ d)  : zG g d mO_readElement (zPq (rB r) (zmm M0 A 32 J1)) (zmm M0 A 32 J) 197 [(0, va_rf (some (A + 24))), (5, .int l5), (8, .int l8)] [.int t0] := by
  unfold FO_readElement_197 at h
  refine zi_istC (lv' := [(11, _), (0, _), (5, _), (8, _)]) (dq dO_readElement 102 rfl) (by decide) (by simp [z_cr, z_ci]) rfl ?_
  refine zi_iload 0 (dq dO_readElement 103 rfl) rfl ?_
  refine zi_if_eq (tgt := 219) (dq dO_readElement 104 rfl) (by decide) (fun c => ?_) (fun c => ?_)
  · have h := q_t c h
    refine zi_iconst (v := 0) (dq dO_readElement 112 rfl) (by decide) ?_
    exact zi_ireturn rfl (by decide) (dq dO_readElement 113 rfl) (q_rb (b := false) h)
  · have h := q_f c h
    refine zi_aload_n 1 (dq dO_readElement 105 rfl) rfl ?_
    refine zi_iload 3 (dq dO_readElement 106 rfl) rfl ?_
    refine zi_iload 2 (dq dO_readElement 107 rfl) rfl ?_
    obtain ⟨v1, J2, hv1, h⟩ := q_b h
    refine zi_cVi2 (SO_readContentEnd hL hv1 (d := d - 1) (by omega)) wO_readContentEnd aO_68 iO_readContentEnd sO_readContentEnd (by omega) (zLs hL 24 rfl) rfl (Nat.le_of_ble_eq_true rfl) (dq dO_readElement 108 rfl) (fun _ _ hh => ?_)
    obtain ⟨rfl, rfl⟩ := hh
    refine zi_if_eq (tgt := 219) (dq dO_readElement 109 rfl) (by decide) (fun c => ?_) (fun c => ?_)
    · have h := q_t c h
      refine zi_iconst (v := 0) (dq dO_readElement 112 rfl) (by decide) ?_
      exact zi_ireturn rfl (by decide) (dq dO_readElement 113 rfl) (q_rb (b := false) h)
    · have h := q_f c h
      refine zi_iconst (v := 1) (dq dO_readElement 110 rfl) (by decide) ?_
      refine zi_goto (tgt := 220) (dq dO_readElement 111 rfl) (by decide) ?_
      exact zi_ireturn rfl (by decide) (dq dO_readElement 113 rfl) (q_rb (b := true) h)
def FO_readElement_161 (N : Nat) (M0 : zM) (rec : (Option Nat × Int32 × Int32 × Int32 × Int32 × Int32 × zJ) → Option (Bool × zJ)) (l1 : Option Nat) (l5 : Int32) (l6 : Int32) (l8 : Int32) (l9 : Int32) (t0 : Int32) (J : zJ) : Option (Bool × zJ) :=
  qo l1 M0 6 fun o1 =>
  if (zi M0 o1 0) = 7 then
    qb (FO_readItems N M0 rec l1 l9 t0 l6 J) fun v4 J5 =>
    FO_readElement_197 N M0 rec l5 l8 (bI v4) J5
  else
    qb (FO_readComponents N M0 rec l1 l9 t0 l6 J) fun v2 J3 =>
    FO_readElement_197 N M0 rec l5 l8 (bI v2) J3
theorem SO_readElement_161 {g : zg} {d N : Nat} {M0 : zM} {A : Nat} {rec : (Option Nat × Int32 × Int32 × Int32 × Int32 × Int32 × zJ) → Option (Bool × zJ)} {L : Nat} {r : Bool} {J1 : zJ} {J : zJ}  {l1 : Option Nat} {l5 : Int32} {l6 : Int32} {l8 : Int32} {l9 : Int32} {t0 : Int32} (hL : zLy M0 A dShL dRf) (hrec : ∀ s r, rec s = some r → ∀ d, L ≤ d → zEi g d mO_readElement [va_rf (some (A + 24)), va_rf s.1, .int s.2.1, .int s.2.2.1, .int s.2.2.2.1, .int s.2.2.2.2.1, .int s.2.2.2.2.2.1] (zmm M0 A 32 s.2.2.2.2.2.2) (fun v Mq => v = bI r.1 ∧ Mq = zmm M0 A 32 r.2)) (h : FO_readElement_161 N M0 rec l1 l5 l6 l8 l9 t0 J = some (r, J1)) (hd : L + 3 ≤ d)  : zG g d mO_readElement (zPq (rB r) (zmm M0 A 32 J1)) (zmm M0 A 32 J) 161 [(0, va_rf (some (A + 24))), (1, va_rf l1), (5, .int l5), (6, .int l6), (8, .int l8), (9, .int l9)] [.int t0] := by
  unfold FO_readElement_161 at h
  refine zi_istC (lv' := [(10, _), (0, _), (1, _), (5, _), (6, _), (8, _), (9, _)]) (dq dO_readElement 84 rfl) (by decide) (by simp [z_cr, z_ci]) rfl ?_
  refine zi_aload_n 2 (dq dO_readElement 85 rfl) rfl ?_
  obtain ⟨o1, eo1, ho1, h⟩ := q_o h
  refine zi_rc0 eo1 ?_
  refine ti_geti (zag_d hL _) ho1 (by decide) fO_31 (dq dO_readElement 86 rfl) ?_
  refine zi_bipush (v := 7) (dq dO_readElement 87 rfl) (by decide) ?_
  refine zi_icmp_ne (tgt := 186) (dq dO_readElement 88 rfl) (by decide) (fun c => ?_) (fun c => ?_)
  · have h := q_f c h
    refine zi_aload_n 1 (dq dO_readElement 96 rfl) rfl ?_
    refine zi_aload_n 2 (dq dO_readElement 97 rfl) rfl ?_
    refine zi_iload 6 (dq dO_readElement 98 rfl) rfl ?_
    refine zi_iload 0 (dq dO_readElement 99 rfl) rfl ?_
    refine zi_iload 4 (dq dO_readElement 100 rfl) rfl ?_
    obtain ⟨v2, J3, hv2, h⟩ := q_b h
    refine zi_cVi4 (SO_readComponents hL hrec hv2 (d := d - 1) (by omega)) wO_readComponents aO_65 iO_readComponents sO_readComponents (by omega) (zLs hL 24 rfl) rfl (Nat.le_of_ble_eq_true rfl) (dq dO_readElement 101 rfl) (fun _ _ hh => ?_)
    obtain ⟨rfl, rfl⟩ := hh
    exact zG_lv (zs_c 1 rfl (zs_c 3 rfl (zs_c 5 rfl zs_n))) (SO_readElement_197 hL hrec h hd )
  · have h := q_t c h
    refine zi_aload_n 1 (dq dO_readElement 89 rfl) rfl ?_
    refine zi_aload_n 2 (dq dO_readElement 90 rfl) rfl ?_
    refine zi_iload 6 (dq dO_readElement 91 rfl) rfl ?_
    refine zi_iload 0 (dq dO_readElement 92 rfl) rfl ?_
    refine zi_iload 4 (dq dO_readElement 93 rfl) rfl ?_
    obtain ⟨v4, J5, hv4, h⟩ := q_b h
    refine zi_cVi4 (SO_readItems hL hrec hv4 (d := d - 1) (by omega)) wO_readItems aO_61 iO_readItems sO_readItems (by omega) (zLs hL 24 rfl) rfl (Nat.le_of_ble_eq_true rfl) (dq dO_readElement 94 rfl) (fun _ _ hh => ?_)
    obtain ⟨rfl, rfl⟩ := hh
    refine zi_goto (tgt := 197) (dq dO_readElement 95 rfl) (by decide) ?_
    exact zG_lv (zs_c 1 rfl (zs_c 3 rfl (zs_c 5 rfl zs_n))) (SO_readElement_197 hL hrec h hd )
def FO_readElement_122 (N : Nat) (M0 : zM) (rec : (Option Nat × Int32 × Int32 × Int32 × Int32 × Int32 × zJ) → Option (Bool × zJ)) (l1 : Option Nat) (l5 : Int32) (l6 : Int32) (l7 : Int32) (l8 : Int32) (t0 : Int32) (J : zJ) : Option (Bool × zJ) :=
  if t0 = ((-1)) then
    some (false, J)
  else
    if l7 = 0 then
      qb (FO_readPlain N M0 l1 t0 l8 J) fun v1 J2 =>
      some (v1, J2)
    else
      if l8 = ((-2)) then
        FO_readElement_161 N M0 rec l1 l5 l6 l8 t0 l5 J
      else
        FO_readElement_161 N M0 rec l1 l5 l6 l8 t0 l8 J
theorem SO_readElement_122 {g : zg} {d N : Nat} {M0 : zM} {A : Nat} {rec : (Option Nat × Int32 × Int32 × Int32 × Int32 × Int32 × zJ) → Option (Bool × zJ)} {L : Nat} {r : Bool} {J1 : zJ} {J : zJ}  {l1 : Option Nat} {l5 : Int32} {l6 : Int32} {l7 : Int32} {l8 : Int32} {t0 : Int32} (hL : zLy M0 A dShL dRf) (hrec : ∀ s r, rec s = some r → ∀ d, L ≤ d → zEi g d mO_readElement [va_rf (some (A + 24)), va_rf s.1, .int s.2.1, .int s.2.2.1, .int s.2.2.2.1, .int s.2.2.2.2.1, .int s.2.2.2.2.2.1] (zmm M0 A 32 s.2.2.2.2.2.2) (fun v Mq => v = bI r.1 ∧ Mq = zmm M0 A 32 r.2)) (h : FO_readElement_122 N M0 rec l1 l5 l6 l7 l8 t0 J = some (r, J1)) (hd : L + 3 ≤ d)  : zG g d mO_readElement (zPq (rB r) (zmm M0 A 32 J1)) (zmm M0 A 32 J) 122 [(0, va_rf (some (A + 24))), (1, va_rf l1), (5, .int l5), (6, .int l6), (7, .int l7), (8, .int l8)] [.int t0] := by
  unfold FO_readElement_122 at h
  refine zi_istC (lv' := [(9, _), (0, _), (1, _), (5, _), (6, _), (7, _), (8, _)]) (dq dO_readElement 64 rfl) (by decide) (by simp [z_cr, z_ci]) rfl ?_
  refine zi_iload 0 (dq dO_readElement 65 rfl) rfl ?_
  refine zi_iconst (v := (-1)) (dq dO_readElement 66 rfl) (by decide) ?_
  refine zi_icmp_ne (tgt := 132) (dq dO_readElement 67 rfl) (by decide) (fun c => ?_) (fun c => ?_)
  · have h := q_f c h
    refine zi_iload 5 (dq dO_readElement 70 rfl) rfl ?_
    refine zi_if_ne (tgt := 147) (dq dO_readElement 71 rfl) (by decide) (fun c => ?_) (fun c => ?_)
    · have h := q_f c h
      refine zi_iload 6 (dq dO_readElement 78 rfl) rfl ?_
      refine zi_bipush (v := (-2)) (dq dO_readElement 79 rfl) (by decide) ?_
      refine zi_icmp_ne (tgt := 159) (dq dO_readElement 80 rfl) (by decide) (fun c => ?_) (fun c => ?_)
      · have h := q_f c h
        refine zi_iload 6 (dq dO_readElement 83 rfl) rfl ?_
        exact zG_lv (zs_c 1 rfl (zs_c 2 rfl (zs_c 3 rfl (zs_c 4 rfl (zs_c 6 rfl (zs_c 0 rfl zs_n)))))) (SO_readElement_161 hL hrec h hd )
      · have h := q_t c h
        refine zi_iload 3 (dq dO_readElement 81 rfl) rfl ?_
        refine zi_goto (tgt := 161) (dq dO_readElement 82 rfl) (by decide) ?_
        exact zG_lv (zs_c 1 rfl (zs_c 2 rfl (zs_c 3 rfl (zs_c 4 rfl (zs_c 6 rfl (zs_c 0 rfl zs_n)))))) (SO_readElement_161 hL hrec h hd )
    · have h := q_t c h
      refine zi_aload_n 1 (dq dO_readElement 72 rfl) rfl ?_
      refine zi_aload_n 2 (dq dO_readElement 73 rfl) rfl ?_
      refine zi_iload 0 (dq dO_readElement 74 rfl) rfl ?_
      refine zi_iload 6 (dq dO_readElement 75 rfl) rfl ?_
      obtain ⟨v1, J2, hv1, h⟩ := q_b h
      refine zi_cVi3 (SO_readPlain hL hv1 (d := d - 1) (by omega)) wO_readPlain aO_57 iO_readPlain sO_readPlain (by omega) (zLs hL 24 rfl) rfl (Nat.le_of_ble_eq_true rfl) (dq dO_readElement 76 rfl) (fun _ _ hh => ?_)
      obtain ⟨rfl, rfl⟩ := hh
      exact zi_ireturn rfl (bI_nar _) (dq dO_readElement 77 rfl) (q_rb h)
  · have h := q_t c h
    refine zi_iconst (v := 0) (dq dO_readElement 68 rfl) (by decide) ?_
    exact zi_ireturn rfl (by decide) (dq dO_readElement 69 rfl) (q_rb (b := false) h)
def FO_readElement_81 (N : Nat) (M0 : zM) (rec : (Option Nat × Int32 × Int32 × Int32 × Int32 × Int32 × zJ) → Option (Bool × zJ)) (l1 : Option Nat) (l2 : Int32) (l3 : Int32) (l4 : Int32) (l5 : Int32) (l6 : Int32) (t0 : Int32) (J : zJ) : Option (Bool × zJ) :=
  qo l1 M0 6 fun o1 =>
  qc (FT_tagByte N M0 o1 l2) fun v2 =>
  qb (FO_readHeader N M0 v2 t0 l5 J) fun v3 J4 =>
  if v3 = ((-1)) then
    FO_readElement_122 N M0 rec l1 l5 l6 t0 v3 ((-1)) J4
  else
    qo l1 M0 6 fun o5 =>
    qb (FV_addPart N M0 16 (zi M0 o5 0) l3 l4 J4) fun v6 J7 =>
    FO_readElement_122 N M0 rec l1 l5 l6 t0 v3 v6 J7
theorem SO_readElement_81 {g : zg} {d N : Nat} {M0 : zM} {A : Nat} {rec : (Option Nat × Int32 × Int32 × Int32 × Int32 × Int32 × zJ) → Option (Bool × zJ)} {L : Nat} {r : Bool} {J1 : zJ} {J : zJ}  {l1 : Option Nat} {l2 : Int32} {l3 : Int32} {l4 : Int32} {l5 : Int32} {l6 : Int32} {t0 : Int32} (hL : zLy M0 A dShL dRf) (hrec : ∀ s r, rec s = some r → ∀ d, L ≤ d → zEi g d mO_readElement [va_rf (some (A + 24)), va_rf s.1, .int s.2.1, .int s.2.2.1, .int s.2.2.2.1, .int s.2.2.2.2.1, .int s.2.2.2.2.2.1] (zmm M0 A 32 s.2.2.2.2.2.2) (fun v Mq => v = bI r.1 ∧ Mq = zmm M0 A 32 r.2)) (h : FO_readElement_81 N M0 rec l1 l2 l3 l4 l5 l6 t0 J = some (r, J1)) (hd : L + 3 ≤ d)  : zG g d mO_readElement (zPq (rB r) (zmm M0 A 32 J1)) (zmm M0 A 32 J) 81 [(0, va_rf (some (A + 24))), (1, va_rf l1), (2, .int l2), (3, .int l3), (4, .int l4), (5, .int l5), (6, .int l6)] [.int t0] := by
  unfold FO_readElement_81 at h
  refine zi_istC (lv' := [(7, _), (0, _), (1, _), (2, _), (3, _), (4, _), (5, _), (6, _)]) (dq dO_readElement 43 rfl) (by decide) (by simp [z_cr, z_ci]) rfl ?_
  refine zi_aload_n 1 (dq dO_readElement 44 rfl) rfl ?_
  refine zi_aload_n 2 (dq dO_readElement 45 rfl) rfl ?_
  refine zi_iload_n 3 (dq dO_readElement 46 rfl) rfl ?_
  obtain ⟨o1, eo1, ho1, h⟩ := q_o h
  refine zi_rc1 eo1 ?_
  obtain ⟨v2, hv2, h⟩ := q_c h
  refine zi_cVi1 (ST_tagByte (zag_d hL _) ho1 hv2 (d := d - 1) (by omega)) wT_tagByte aO_43 iT_tagByte sT_tagByte (by omega) ((zag_d hL _) _ _ (by decide) ho1).1 rfl (Nat.le_of_ble_eq_true rfl) (dq dO_readElement 47 rfl) (fun _ _ hh => ?_)
  obtain ⟨rfl, rfl⟩ := hh
  refine zi_iload 0 (dq dO_readElement 48 rfl) rfl ?_
  refine zi_iload 6 (dq dO_readElement 49 rfl) rfl ?_
  obtain ⟨v3, J4, hv3, h⟩ := q_b h
  refine zi_cVi3 (SO_readHeader hL hv3 (d := d - 1) (by omega)) wO_readHeader aO_47 iO_readHeader sO_readHeader (by omega) (zLs hL 24 rfl) rfl (Nat.le_of_ble_eq_true rfl) (dq dO_readElement 50 rfl) (fun _ _ hh => ?_)
  obtain ⟨rfl, rfl⟩ := hh
  refine zi_istC (lv' := [(8, _), (7, _), (0, _), (1, _), (2, _), (3, _), (4, _), (5, _), (6, _)]) (dq dO_readElement 51 rfl) (by decide) (by simp [z_cr, z_ci]) rfl ?_
  refine zi_iload 0 (dq dO_readElement 52 rfl) rfl ?_
  refine zi_iconst (v := (-1)) (dq dO_readElement 53 rfl) (by decide) ?_
  refine zi_icmp_ne (tgt := 108) (dq dO_readElement 54 rfl) (by decide) (fun c => ?_) (fun c => ?_)
  · have h := q_f c h
    refine zi_aload_n 2 (dq dO_readElement 57 rfl) rfl ?_
    refine ri_getr (zLs hL 24 rfl) (zLr hL 14 rfl) fO_15 (dq dO_readElement 58 rfl) ?_
    refine zi_aload_n 3 (dq dO_readElement 59 rfl) rfl ?_
    obtain ⟨o5, eo5, ho5, h⟩ := q_o h
    refine zi_rc0 eo5 ?_
    refine ti_geti (zag_d hL _) ho5 (by decide) fO_31 (dq dO_readElement 60 rfl) ?_
    refine zi_iload_n 5 (dq dO_readElement 61 rfl) rfl ?_
    refine zi_iload 6 (dq dO_readElement 62 rfl) rfl ?_
    obtain ⟨v6, J7, hv6, h⟩ := q_b h
    refine zi_cVi3 (SV_addPart (dLy_v (Or.inr rfl) hL) (by decide) (zag_d hL) hv6 (d := d - 1) (by omega)) wV_addPart aO_51 iV_addPart sV_addPart (by omega) (zLs hL 16 rfl) rfl (Nat.le_of_ble_eq_true rfl) (dq dO_readElement 63 rfl) (fun _ _ hh => ?_)
    obtain ⟨rfl, rfl⟩ := hh
    exact zG_lv (zs_c 2 rfl (zs_c 3 rfl (zs_c 7 rfl (zs_c 8 rfl (zs_c 1 rfl (zs_c 0 rfl zs_n)))))) (SO_readElement_122 hL hrec h hd )
  · have h := q_t c h
    refine zi_iconst (v := (-1)) (dq dO_readElement 55 rfl) (by decide) ?_
    refine zi_goto (tgt := 122) (dq dO_readElement 56 rfl) (by decide) ?_
    exact zG_lv (zs_c 2 rfl (zs_c 3 rfl (zs_c 7 rfl (zs_c 8 rfl (zs_c 1 rfl (zs_c 0 rfl zs_n)))))) (SO_readElement_122 hL hrec h hd )
def FO_readElement (N : Nat) (M0 : zM) (rec : (Option Nat × Int32 × Int32 × Int32 × Int32 × Int32 × zJ) → Option (Bool × zJ)) (l1 : Option Nat) (l2 : Int32) (l3 : Int32) (l4 : Int32) (l5 : Int32) (l6 : Int32) (J : zJ) : Option (Bool × zJ) :=
  if l1 = none then
    some (false, J)
  else
    if l6 < 6 then
      qo l1 M0 6 fun o1 =>
      if (zi M0 o1 0) = 10 then
        qb (FO_readTagged N M0 rec l1 l2 l3 l4 l5 l6 J) fun v7 J8 =>
        some (v7, J8)
      else
        qo l1 M0 6 fun o2 =>
        if (zi M0 o2 0) = 9 then
          qb (FO_readChoice N M0 rec l1 l3 l4 l5 l6 J) fun v5 J6 =>
          some (v5, J6)
        else
          qo l1 M0 6 fun o3 =>
          if (zi M0 o3 0) = 6 then
            FO_readElement_81 N M0 rec l1 l2 l3 l4 l5 l6 1 J
          else
            qo l1 M0 6 fun o4 =>
            if (zi M0 o4 0) = 7 then
              FO_readElement_81 N M0 rec l1 l2 l3 l4 l5 l6 1 J
            else
              FO_readElement_81 N M0 rec l1 l2 l3 l4 l5 l6 0 J
    else
      some (false, J)
theorem SO_readElement {g : zg} {d N : Nat} {M0 : zM} {A : Nat} {rec : (Option Nat × Int32 × Int32 × Int32 × Int32 × Int32 × zJ) → Option (Bool × zJ)} {L : Nat} {r : Bool} {J1 : zJ} {J : zJ} {l1 : Option Nat} {l2 : Int32} {l3 : Int32} {l4 : Int32} {l5 : Int32} {l6 : Int32} (hL : zLy M0 A dShL dRf) (hrec : ∀ s r, rec s = some r → ∀ d, L ≤ d → zEi g d mO_readElement [va_rf (some (A + 24)), va_rf s.1, .int s.2.1, .int s.2.2.1, .int s.2.2.2.1, .int s.2.2.2.2.1, .int s.2.2.2.2.2.1] (zmm M0 A 32 s.2.2.2.2.2.2) (fun v Mq => v = bI r.1 ∧ Mq = zmm M0 A 32 r.2)) (h : FO_readElement N M0 rec l1 l2 l3 l4 l5 l6 J = some (r, J1)) (hd : L + 3 ≤ d) : zEi g d mO_readElement [va_rf (some (A + 24)), va_rf l1, .int l2, .int l3, .int l4, .int l5, .int l6] (zmm M0 A 32 J) (fun v Mq => v = bI r ∧ Mq = zmm M0 A 32 J1) := by
  unfold FO_readElement at h
  refine zEb_q (r := r) (lv := [(0, va_rf (some (A + 24))), (1, va_rf l1), (2, .int l2), (3, .int l3), (4, .int l4), (5, .int l5), (6, .int l6)]) ⟨by decide +kernel, by decide, by decide +kernel⟩ (by simp [z_cr, z_ci]) (Nat.le_of_ble_eq_true rfl) rfl ?_
  refine zi_aload_n 1 (dq dO_readElement 0 rfl) rfl ?_
  refine zi_ifnull (tgt := 11) (dq dO_readElement 1 rfl) (by decide) (fun c => ?_) (fun _ c => ?_)
  · have h := q_t c h
    refine zi_iconst (v := 0) (dq dO_readElement 5 rfl) (by decide) ?_
    exact zi_ireturn rfl (by decide) (dq dO_readElement 6 rfl) (q_rb (b := false) h)
  · have h := q_f (by rw [c]; exact nofun) h
    refine zi_iload 6 (dq dO_readElement 2 rfl) rfl ?_
    refine zi_bipush (v := 6) (dq dO_readElement 3 rfl) (by decide) ?_
    refine zi_icmp_lt (tgt := 13) (dq dO_readElement 4 rfl) (by decide) (fun c => ?_) (fun c => ?_)
    · have h := q_t c h
      refine zi_aload_n 1 (dq dO_readElement 7 rfl) rfl ?_
      obtain ⟨o1, eo1, ho1, h⟩ := q_o h
      refine zi_rc0 eo1 ?_
      refine ti_geti (zag_d hL _) ho1 (by decide) fO_31 (dq dO_readElement 8 rfl) ?_
      refine zi_bipush (v := 10) (dq dO_readElement 9 rfl) (by decide) ?_
      refine zi_icmp_ne (tgt := 36) (dq dO_readElement 10 rfl) (by decide) (fun c => ?_) (fun c => ?_)
      · have h := q_f c h
        refine zi_aload_n 1 (dq dO_readElement 20 rfl) rfl ?_
        obtain ⟨o2, eo2, ho2, h⟩ := q_o h
        refine zi_rc0 eo2 ?_
        refine ti_geti (zag_d hL _) ho2 (by decide) fO_31 (dq dO_readElement 21 rfl) ?_
        refine zi_bipush (v := 9) (dq dO_readElement 22 rfl) (by decide) ?_
        refine zi_icmp_ne (tgt := 58) (dq dO_readElement 23 rfl) (by decide) (fun c => ?_) (fun c => ?_)
        · have h := q_f c h
          refine zi_aload_n 1 (dq dO_readElement 32 rfl) rfl ?_
          obtain ⟨o3, eo3, ho3, h⟩ := q_o h
          refine zi_rc0 eo3 ?_
          refine ti_geti (zag_d hL _) ho3 (by decide) fO_31 (dq dO_readElement 33 rfl) ?_
          refine zi_bipush (v := 6) (dq dO_readElement 34 rfl) (by decide) ?_
          refine zi_icmp_eq (tgt := 76) (dq dO_readElement 35 rfl) (by decide) (fun c => ?_) (fun c => ?_)
          · have h := q_t c h
            refine zi_iconst (v := 1) (dq dO_readElement 40 rfl) (by decide) ?_
            refine zi_goto (tgt := 81) (dq dO_readElement 41 rfl) (by decide) ?_
            exact zG_lv (zs_c 0 rfl (zs_c 1 rfl (zs_c 2 rfl (zs_c 3 rfl (zs_c 4 rfl (zs_c 5 rfl (zs_c 6 rfl zs_n))))))) (SO_readElement_81 hL hrec h hd )
          · have h := q_f c h
            refine zi_aload_n 1 (dq dO_readElement 36 rfl) rfl ?_
            obtain ⟨o4, eo4, ho4, h⟩ := q_o h
            refine zi_rc0 eo4 ?_
            refine ti_geti (zag_d hL _) ho4 (by decide) fO_31 (dq dO_readElement 37 rfl) ?_
            refine zi_bipush (v := 7) (dq dO_readElement 38 rfl) (by decide) ?_
            refine zi_icmp_ne (tgt := 80) (dq dO_readElement 39 rfl) (by decide) (fun c => ?_) (fun c => ?_)
            · have h := q_f c h
              refine zi_iconst (v := 0) (dq dO_readElement 42 rfl) (by decide) ?_
              exact zG_lv (zs_c 0 rfl (zs_c 1 rfl (zs_c 2 rfl (zs_c 3 rfl (zs_c 4 rfl (zs_c 5 rfl (zs_c 6 rfl zs_n))))))) (SO_readElement_81 hL hrec h hd )
            · have h := q_t c h
              refine zi_iconst (v := 1) (dq dO_readElement 40 rfl) (by decide) ?_
              refine zi_goto (tgt := 81) (dq dO_readElement 41 rfl) (by decide) ?_
              exact zG_lv (zs_c 0 rfl (zs_c 1 rfl (zs_c 2 rfl (zs_c 3 rfl (zs_c 4 rfl (zs_c 5 rfl (zs_c 6 rfl zs_n))))))) (SO_readElement_81 hL hrec h hd )
        · have h := q_t c h
          refine zi_aload_n 0 (dq dO_readElement 24 rfl) rfl ?_
          refine zi_aload_n 1 (dq dO_readElement 25 rfl) rfl ?_
          refine zi_iload_n 3 (dq dO_readElement 26 rfl) rfl ?_
          refine zi_iload 4 (dq dO_readElement 27 rfl) rfl ?_
          refine zi_iload 5 (dq dO_readElement 28 rfl) rfl ?_
          refine zi_iload 6 (dq dO_readElement 29 rfl) rfl ?_
          obtain ⟨v5, J6, hv5, h⟩ := q_b h
          refine zi_cVi5 (SO_readChoice hL hrec hv5 (d := d - 1) (by omega)) wO_readChoice aO_39 iO_readChoice sO_readChoice (by omega) (zLs hL 24 rfl) rfl (Nat.le_of_ble_eq_true rfl) (dq dO_readElement 30 rfl) (fun _ _ hh => ?_)
          obtain ⟨rfl, rfl⟩ := hh
          exact zi_ireturn rfl (bI_nar _) (dq dO_readElement 31 rfl) (q_rb h)
      · have h := q_t c h
        refine zi_aload_n 0 (dq dO_readElement 11 rfl) rfl ?_
        refine zi_aload_n 1 (dq dO_readElement 12 rfl) rfl ?_
        refine zi_iload_n 2 (dq dO_readElement 13 rfl) rfl ?_
        refine zi_iload_n 3 (dq dO_readElement 14 rfl) rfl ?_
        refine zi_iload 4 (dq dO_readElement 15 rfl) rfl ?_
        refine zi_iload 5 (dq dO_readElement 16 rfl) rfl ?_
        refine zi_iload 6 (dq dO_readElement 17 rfl) rfl ?_
        obtain ⟨v7, J8, hv7, h⟩ := q_b h
        refine zi_cVi6 (SO_readTagged hL hrec hv7 (d := d - 1) (by omega)) wO_readTagged aO_36 iO_readTagged sO_readTagged (by omega) (zLs hL 24 rfl) rfl (Nat.le_of_ble_eq_true rfl) (dq dO_readElement 18 rfl) (fun _ _ hh => ?_)
        obtain ⟨rfl, rfl⟩ := hh
        exact zi_ireturn rfl (bI_nar _) (dq dO_readElement 19 rfl) (q_rb h)
    · have h := q_f c h
      refine zi_iconst (v := 0) (dq dO_readElement 5 rfl) (by decide) ?_
      exact zi_ireturn rfl (by decide) (dq dO_readElement 6 rfl) (q_rb (b := false) h)
def RO_readElement (N : Nat) (M0 : zM) : Nat → (Option Nat × Int32 × Int32 × Int32 × Int32 × Int32 × zJ) → Option (Bool × zJ) := qfix (fun rec s => FO_readElement N M0 rec s.1 s.2.1 s.2.2.1 s.2.2.2.1 s.2.2.2.2.1 s.2.2.2.2.2.1 s.2.2.2.2.2.2)
theorem TO_readElement {g : zg} {M0 : zM} {A N : Nat} (hL : zLy M0 A dShL dRf)  : ∀ n s r, RO_readElement N M0 n s = some r → ∀ d, 3 * n ≤ d → zEi g d mO_readElement [va_rf (some (A + 24)), va_rf s.1, .int s.2.1, .int s.2.2.1, .int s.2.2.2.1, .int s.2.2.2.2.1, .int s.2.2.2.2.2.1] (zmm M0 A 32 s.2.2.2.2.2.2) (fun v Mq => v = bI r.1 ∧ Mq = zmm M0 A 32 r.2) := by
  refine qrec_sound (fun n rec hrec s r h d hd => ?_)
  obtain ⟨r1, r2⟩ := r
  exact SO_readElement (L := 3 * n) hL hrec h (by omega)
def FO_readAll (N : Nat) (M0 : zM) (l1 : Option Nat) (l2 : Int32) (l3 : Int32) (l4 : Int32) (J : zJ) : Option (Bool × zJ) :=
  qz l4 fun b1 =>
  let J2 := zu J 24 2 (bI b1)
  let J3 := zu J2 24 3 l2
  if (nI 120) < l3 then
    some (false, J3)
  else
    qb (RO_readElement N M0 8 (l1, ((-1)), ((-1)), 0, l3, 0, J3)) fun v4 J5 =>
    if (bI v4) = 0 then
      some (false, J5)
    else
      if (J5 24 3) = l3 then
        some (true, J5)
      else
        some (false, J5)
theorem SO_readAll {g : zg} {d N : Nat} {M0 : zM} {A : Nat} {r : Bool} {J1 : zJ} {J : zJ} {l1 : Option Nat} {l2 : Int32} {l3 : Int32} {l4 : Int32} (hL : zLy M0 A dShL dRf) (h : FO_readAll N M0 l1 l2 l3 l4 J = some (r, J1)) (hd : 25 ≤ d) : zEi g d mO_readAll [va_rf (some (A + 24)), va_rf l1, .int l2, .int l3, .int l4] (zmm M0 A 32 J) (fun v Mq => v = bI r ∧ Mq = zmm M0 A 32 J1) := by
  unfold FO_readAll at h
  refine zEb_q (r := r) (lv := [(0, va_rf (some (A + 24))), (1, va_rf l1), (2, .int l2), (3, .int l3), (4, .int l4)]) ⟨by decide +kernel, by decide, by decide +kernel⟩ (by simp [z_cr, z_ci]) (Nat.le_of_ble_eq_true rfl) rfl ?_
  refine zi_aload_n 0 (dq dO_readAll 0 rfl) rfl ?_
  refine zi_iload 4 (dq dO_readAll 1 rfl) rfl ?_
  obtain ⟨b1, eb1, h⟩ := q_z h
  refine zi_top eb1 ?_
  refine ri_puti (zLs hL 24 rfl) (by decide) fO_19 (fun h => by cases h) (bI_nar _) (bI_fit _) (dq dO_readAll 2 rfl) ?_
  refine zi_aload_n 0 (dq dO_readAll 3 rfl) rfl ?_
  refine zi_iload_n 2 (dq dO_readAll 4 rfl) rfl ?_
  refine ri_puti (zLs hL 24 rfl) (by decide) fO_23 (fun h => by cases h) rfl rfl (dq dO_readAll 5 rfl) ?_
  refine zi_iload_n 3 (dq dO_readAll 6 rfl) rfl ?_
  refine zi_aload_n 0 (dq dO_readAll 7 rfl) rfl ?_
  refine ri_getr (zLs hL 24 rfl) (zLr hL 15 rfl) fO_9 (dq dO_readAll 8 rfl) ?_
  refine ri_alen (zLs hL 6 rfl) rfl (dq dO_readAll 9 rfl) ?_
  refine zi_icmp_gt (tgt := 45) (dq dO_readAll 10 rfl) (by decide) (fun c => ?_) (fun c => ?_)
  · have h := q_t c h
    refine zi_iconst (v := 0) (dq dO_readAll 26 rfl) (by decide) ?_
    exact zi_ireturn rfl (by decide) (dq dO_readAll 27 rfl) (q_rb (b := false) h)
  · have h := q_f c h
    refine zi_aload_n 0 (dq dO_readAll 11 rfl) rfl ?_
    refine zi_aload_n 1 (dq dO_readAll 12 rfl) rfl ?_
    refine zi_iconst (v := (-1)) (dq dO_readAll 13 rfl) (by decide) ?_
    refine zi_iconst (v := (-1)) (dq dO_readAll 14 rfl) (by decide) ?_
    refine zi_iconst (v := 0) (dq dO_readAll 15 rfl) (by decide) ?_
    refine zi_iload_n 3 (dq dO_readAll 16 rfl) rfl ?_
    refine zi_iconst (v := 0) (dq dO_readAll 17 rfl) (by decide) ?_
    obtain ⟨v4, J5, hv4, h⟩ := q_b h
    refine zi_cVi6 (TO_readElement hL 8 _ _ hv4 (d - 1) (by omega)) wO_readElement aO_27 iO_readElement sO_readElement (by omega) (zLs hL 24 rfl) rfl (Nat.le_of_ble_eq_true rfl) (dq dO_readAll 18 rfl) (fun _ _ hh => ?_)
    obtain ⟨rfl, rfl⟩ := hh
    refine zi_if_eq (tgt := 45) (dq dO_readAll 19 rfl) (by decide) (fun c => ?_) (fun c => ?_)
    · have h := q_t c h
      refine zi_iconst (v := 0) (dq dO_readAll 26 rfl) (by decide) ?_
      exact zi_ireturn rfl (by decide) (dq dO_readAll 27 rfl) (q_rb (b := false) h)
    · have h := q_f c h
      refine zi_aload_n 0 (dq dO_readAll 20 rfl) rfl ?_
      refine ri_geti (zLs hL 24 rfl) (by decide) fO_23 (dq dO_readAll 21 rfl) ?_
      refine zi_iload_n 3 (dq dO_readAll 22 rfl) rfl ?_
      refine zi_icmp_ne (tgt := 45) (dq dO_readAll 23 rfl) (by decide) (fun c => ?_) (fun c => ?_)
      · have h := q_f c h
        refine zi_iconst (v := 0) (dq dO_readAll 26 rfl) (by decide) ?_
        exact zi_ireturn rfl (by decide) (dq dO_readAll 27 rfl) (q_rb (b := false) h)
      · have h := q_t c h
        refine zi_iconst (v := 1) (dq dO_readAll 24 rfl) (by decide) ?_
        refine zi_goto (tgt := 46) (dq dO_readAll 25 rfl) (by decide) ?_
        exact zi_ireturn rfl (by decide) (dq dO_readAll 27 rfl) (q_rb (b := true) h)
