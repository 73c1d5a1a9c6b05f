/-! THE REFERENCE AS FUNCTIONS, 2 (tools/genM.py) -/
def FM_compile_67 (N : Nat) (J : zJ) : Option (Int32 × zJ) :=
  if (J 0 4) = 0 then
    let J2 := zu J 0 1 1
    some ((J2 0 4), J2)
  else
    let J1 := zu J 0 1 0
    some ((J1 0 4), J1)
theorem SM_compile_67 {g : zg} {d N : Nat} {M0 : zM} {A : Nat} {r : Int32} {J1 : zJ} {J : zJ}   (hL : zLy M0 A mShL mRf) (h : FM_compile_67 N J = some (r, J1)) (hd : 6 ≤ d)  : zG g d mM_compile (zPq (rI r) (zmm M0 A 40 J1)) (zmm M0 A 40 J) 67 [(0, va_rf (some (A + 0)))] [] := by
  unfold FM_compile_67 at h
  refine zi_aload_n 0 (dq dM_compile 36 rfl) rfl ?_
  refine zi_aload_n 0 (dq dM_compile 37 rfl) rfl ?_
  refine ri_geti (zLs hL 0 rfl) (by decide) fM_149 (dq dM_compile 38 rfl) ?_
  refine zi_if_ne (tgt := 79) (dq dM_compile 39 rfl) (by decide) (fun c => ?_) (fun c => ?_)
  · have h := q_f c h
    refine zi_iconst (v := 0) (dq dM_compile 42 rfl) (by decide) ?_
    refine ri_puti (zLs hL 0 rfl) (by decide) fM_136 (fun h => by cases h) (by decide) (by decide) (dq dM_compile 43 rfl) ?_
    refine zi_aload_n 0 (dq dM_compile 44 rfl) rfl ?_
    refine ri_geti (zLs hL 0 rfl) (by decide) fM_149 (dq dM_compile 45 rfl) ?_
    exact zi_ireturn rfl rfl (dq dM_compile 46 rfl) (q_ri h)
  · have h := q_t c h
    refine zi_iconst (v := 1) (dq dM_compile 40 rfl) (by decide) ?_
    refine zi_goto (tgt := 80) (dq dM_compile 41 rfl) (by decide) ?_
    refine ri_puti (zLs hL 0 rfl) (by decide) fM_136 (fun h => by cases h) (by decide) (by decide) (dq dM_compile 43 rfl) ?_
    refine zi_aload_n 0 (dq dM_compile 44 rfl) rfl ?_
    refine ri_geti (zLs hL 0 rfl) (by decide) fM_149 (dq dM_compile 45 rfl) ?_
    exact zi_ireturn rfl rfl (dq dM_compile 46 rfl) (q_ri h)
def FM_compile_45 (N : Nat) (K45 : (zJ) → Option (Int32 × zJ)) (s : zJ) : Option (Int32 × zJ) :=
  let J := s
  qb (FM_definition N J) fun v1 J2 =>
  if (J2 0 4) = 0 then
    if (J2 0 3) < (J2 0 2) then
      K45 J2
    else
      FM_compile_67 N J2
  else
    FM_compile_67 N J2
theorem SM_compile_45 {g : zg} {d N : Nat} {M0 : zM} {A : Nat} {r : Int32} {J1 : zJ}   (hL : zLy M0 A mShL mRf) (hd : 6 ≤ d)  : ∀ n s, qfix (FM_compile_45 N) n s = some (r, J1) → zG g d mM_compile (zPq (rI r) (zmm M0 A 40 J1)) (zmm M0 A 40 s) 45 [(0, va_rf (some (A + 0)))] [] := by
  refine qfix_sound (fun K45 hK45 s h => ?_)
  unfold FM_compile_45 at h
  refine zi_aload_n 0 (dq dM_compile 26 rfl) rfl ?_
  obtain ⟨v1, J2, hv1, h⟩ := q_b h
  refine zi_cVv0 (SM_definition hL hv1 (d := d - 1) (by omega)) wM_definition aM_163 iM_definition sM_definition (by omega) (zLs hL 0 rfl) rfl (Nat.le_of_ble_eq_true rfl) (dq dM_compile 27 rfl) (fun _ hh => ?_)
  subst hh
  refine zi_aload_n 0 (dq dM_compile 28 rfl) rfl ?_
  refine ri_geti (zLs hL 0 rfl) (by decide) fM_149 (dq dM_compile 29 rfl) ?_
  refine zi_if_ne (tgt := 67) (dq dM_compile 30 rfl) (by decide) (fun c => ?_) (fun c => ?_)
  · have h := q_f c h
    exact zG_lv (zs_c 0 rfl zs_n) (SM_compile_67 hL h hd )
  · have h := q_t c h
    refine zi_aload_n 0 (dq dM_compile 31 rfl) rfl ?_
    refine ri_geti (zLs hL 0 rfl) (by decide) fM_146 (dq dM_compile 32 rfl) ?_
    refine zi_aload_n 0 (dq dM_compile 33 rfl) rfl ?_
    refine ri_geti (zLs hL 0 rfl) (by decide) fM_143 (dq dM_compile 34 rfl) ?_
    refine zi_icmp_lt (tgt := 45) (dq dM_compile 35 rfl) (by decide) (fun c => ?_) (fun c => ?_)
    · have h := q_t c h
      exact zG_lv (zs_c 0 rfl zs_n) (hK45 _ h)
    · have h := q_f c h
      exact zG_lv (zs_c 0 rfl zs_n) (SM_compile_67 hL h hd )
def FM_compile_26 (N : Nat) (K26 : (Int32 × zJ) → Option (Int32 × zJ)) (s : Int32 × zJ) : Option (Int32 × zJ) :=
  let l1 := s.1
  let J := s.2
  if 26 ≤ l1 then
    qfix (FM_compile_45 N) N J
  else
    qk (qi l1 26) <|
    let J2 := zu J 3 l1.toNatClampNeg ((-1))
    let y3 := l1 + (1)
    K26 (y3, J2)
theorem SM_compile_26 {g : zg} {d N : Nat} {M0 : zM} {A : Nat} {r : Int32} {J1 : zJ}   (hL : zLy M0 A mShL mRf) (hd : 6 ≤ d)  : ∀ n s, qfix (FM_compile_26 N) n s = some (r, J1) → zG g d mM_compile (zPq (rI r) (zmm M0 A 40 J1)) (zmm M0 A 40 s.2) 26 [(0, va_rf (some (A + 0))), (1, .int s.1)] [] := by
  refine qfix_sound (fun K26 hK26 s h => ?_)
  unfold FM_compile_26 at h
  refine zi_iload_n 1 (dq dM_compile 16 rfl) rfl ?_
  refine zi_bipush (v := 26) (dq dM_compile 17 rfl) (by decide) ?_
  refine zi_icmp_ge (tgt := 45) (dq dM_compile 18 rfl) (by decide) (fun c => ?_) (fun c => ?_)
  · have h := q_t c h
    exact zG_lv (zs_c 0 rfl zs_n) (SM_compile_45 hL hd  _ _ h)
  · have h := q_f c h
    refine zi_aload_n 0 (dq dM_compile 19 rfl) rfl ?_
    refine ri_getr (zLs hL 0 rfl) (zLr hL 2 rfl) fM_17 (dq dM_compile 20 rfl) ?_
    refine zi_iload_n 1 (dq dM_compile 21 rfl) rfl ?_
    refine zi_iconst (v := (-1)) (dq dM_compile 22 rfl) (by decide) ?_
    obtain ⟨c1, h⟩ := q_k h
    refine ri_iast (zLs hL 3 rfl) (by decide) rfl c1 (dq dM_compile 23 rfl) ?_
    refine zi_iincC (v := _ + (1)) (lv' := [(1, _), (0, _)]) 1 (dq dM_compile 24 rfl) rfl rfl (by decide) (by simp [z_cr, z_ci]) rfl ?_
    refine zi_goto (tgt := 26) (dq dM_compile 25 rfl) (by decide) ?_
    exact zG_lv (zs_c 1 rfl (zs_c 0 rfl zs_n)) (hK26 _ h)
def FM_compile (N : Nat) (J : zJ) : Option (Int32 × zJ) :=
  let J1 := zu J 0 0 0
  qb (FM_leave N J1) fun v2 J3 =>
  let J4 := zu J3 0 10 0
  let J5 := zu J4 0 3 0
  let J6 := zu J5 0 4 0
  qfix (FM_compile_26 N) N (0, J6)
theorem SM_compile {g : zg} {d N : Nat} {M0 : zM} {A : Nat} {r : Int32} {J1 : zJ} {J : zJ}  (hL : zLy M0 A mShL mRf) (h : FM_compile N J = some (r, J1)) (hd : 6 ≤ d) : zEi g d mM_compile [va_rf (some (A + 0))] (zmm M0 A 40 J) (fun v Mq => v = r ∧ Mq = zmm M0 A 40 J1) := by
  unfold FM_compile at h
  refine zEi_q (r := r) (lv := [(0, va_rf (some (A + 0)))]) ⟨by decide +kernel, by decide, by decide +kernel⟩ (by simp [z_cr, z_ci]) (Nat.le_of_ble_eq_true rfl) rfl ?_
  refine zi_aload_n 0 (dq dM_compile 0 rfl) rfl ?_
  refine zi_iconst (v := 0) (dq dM_compile 1 rfl) (by decide) ?_
  refine ri_puti (zLs hL 0 rfl) (by decide) fM_132 (fun h => by cases h) rfl rfl (dq dM_compile 2 rfl) ?_
  refine zi_aload_n 0 (dq dM_compile 3 rfl) rfl ?_
  obtain ⟨v2, J3, hv2, h⟩ := q_b h
  refine zi_cVv0 (SM_leave hL hv2 (d := d - 1) (by omega)) wM_leave aM_129 iM_leave sM_leave (by omega) (zLs hL 0 rfl) rfl (Nat.le_of_ble_eq_true rfl) (dq dM_compile 4 rfl) (fun _ hh => ?_)
  subst hh
  refine zi_aload_n 0 (dq dM_compile 5 rfl) rfl ?_
  refine zi_iconst (v := 0) (dq dM_compile 6 rfl) (by decide) ?_
  refine ri_puti (zLs hL 0 rfl) (by decide) fM_160 (fun h => by cases h) rfl rfl (dq dM_compile 7 rfl) ?_
  refine zi_aload_n 0 (dq dM_compile 8 rfl) rfl ?_
  refine zi_iconst (v := 0) (dq dM_compile 9 rfl) (by decide) ?_
  refine ri_puti (zLs hL 0 rfl) (by decide) fM_146 (fun h => by cases h) rfl rfl (dq dM_compile 10 rfl) ?_
  refine zi_aload_n 0 (dq dM_compile 11 rfl) rfl ?_
  refine zi_iconst (v := 0) (dq dM_compile 12 rfl) (by decide) ?_
  refine ri_puti (zLs hL 0 rfl) (by decide) fM_149 (fun h => by cases h) rfl rfl (dq dM_compile 13 rfl) ?_
  refine zi_iconst (v := 0) (dq dM_compile 14 rfl) (by decide) ?_
  refine zi_istC_n (lv' := [(1, _), (0, _)]) (dq dM_compile 15 rfl) (by decide) (by simp [z_cr, z_ci]) rfl ?_
  exact zG_lv (zs_c 1 rfl (zs_c 0 rfl zs_n)) (SM_compile_26 hL hd  _ _ h)
def FM_put_33 (N : Nat) (l1 : Int64) (K33 : (Int32 × zJ) → Option (Bool × zJ)) (s : Int32 × zJ) : Option (Bool × zJ) :=
  let l4 := s.1
  let J := s.2
  if l4 < 0 then
    some (true, J)
  else
    qk (qi (J 0 27) 120) <|
    let J2 := zu J 18 (J 0 27).toNatClampNeg ((((l1 : Int64) >>> ((8 * l4).toInt64 &&& 63)) &&& 255).toInt32)
    let J3 := zu J2 0 27 ((J2 0 27) + 1)
    let y4 := l4 + (-1)
    K33 (y4, J3)
theorem SM_put_33 {g : zg} {d N : Nat} {M0 : zM} {A : Nat} {r : Bool} {J1 : zJ}  {l1 : Int64} (hL : zLy M0 A mShL mRf) (hd : 1 ≤ d)  : ∀ n s, qfix (FM_put_33 N l1) n s = some (r, J1) → zG g d mM_put (zPq (rB r) (zmm M0 A 40 J1)) (zmm M0 A 40 s.2) 33 [(0, va_rf (some (A + 0))), (1, .long l1), (4, .int s.1)] [] := by
  refine qfix_sound (fun K33 hK33 s h => ?_)
  unfold FM_put_33 at h
  refine zi_iload 2 (dq dM_put 20 rfl) rfl ?_
  refine zi_if_lt (tgt := 75) (dq dM_put 21 rfl) (by decide) (fun c => ?_) (fun c => ?_)
  · have h := q_t c h
    refine zi_iconst (v := 1) (dq dM_put 43 rfl) (by decide) ?_
    exact zi_ireturn rfl (by decide) (dq dM_put 44 rfl) (q_rb (b := true) h)
  · have h := q_f c h
    refine zi_aload_n 0 (dq dM_put 22 rfl) rfl ?_
    refine ri_getr (zLs hL 0 rfl) (zLr hL 17 rfl) fM_63 (dq dM_put 23 rfl) ?_
    refine zi_aload_n 0 (dq dM_put 24 rfl) rfl ?_
    refine ri_geti (zLs hL 0 rfl) (by decide) fM_228 (dq dM_put 25 rfl) ?_
    refine zi_lload_n 1 (dq dM_put 26 rfl) rfl ?_
    refine zi_bipush (v := 8) (dq dM_put 27 rfl) (by decide) ?_
    refine zi_iload 2 (dq dM_put 28 rfl) rfl ?_
    refine zi_imul (dq dM_put 29 rfl) ?_
    refine zi_lshr (dq dM_put 30 rfl) ?_
    refine zi_ldc2 (v := 255) cM_231 (dq dM_put 31 rfl) ?_
    refine zi_land (dq dM_put 32 rfl) ?_
    refine zi_l2i (dq dM_put 33 rfl) ?_
    obtain ⟨c1, h⟩ := q_k h
    refine ri_iast (zLs hL 18 rfl) (by decide) rfl c1 (dq dM_put 34 rfl) ?_
    refine zi_aload_n 0 (dq dM_put 35 rfl) rfl ?_
    refine zi_dup (dq dM_put 36 rfl) (by first | rfl | exact z_cr _) ?_
    refine ri_geti (zLs hL 0 rfl) (by decide) fM_228 (dq dM_put 37 rfl) ?_
    refine zi_iconst (v := 1) (dq dM_put 38 rfl) (by decide) ?_
    refine zi_iadd (dq dM_put 39 rfl) ?_
    refine ri_puti (zLs hL 0 rfl) (by decide) fM_228 (fun h => by cases h) rfl rfl (dq dM_put 40 rfl) ?_
    refine zi_iincC (v := _ + (-1)) (lv' := [(4, _), (0, _), (1, _)]) 2 (dq dM_put 41 rfl) rfl rfl (by decide) (by simp [z_cr, z_ci]) rfl ?_
    refine zi_goto (tgt := 33) (dq dM_put 42 rfl) (by decide) ?_
    exact zG_lv (zs_c 1 rfl (zs_c 2 rfl (zs_c 0 rfl zs_n))) (hK33 _ h)
def FM_put (N : Nat) (l1 : Int64) (l3 : Int32) (J : zJ) : Option (Bool × zJ) :=
  let J1 := zu J 0 0 0
  qc (FM_in N l3 1 8) fun v2 =>
  if (bI v2) = 0 then
    some (false, J1)
  else
    if ((J1 0 27) + l3) ≤ 120 then
      let y3 := l3 - 1
      qfix (FM_put_33 N l1) N (y3, J1)
    else
      some (false, J1)
theorem SM_put {g : zg} {d N : Nat} {M0 : zM} {A : Nat} {r : Bool} {J1 : zJ} {J : zJ} {l1 : Int64} {l3 : Int32} (hL : zLy M0 A mShL mRf) (h : FM_put N l1 l3 J = some (r, J1)) (hd : 1 ≤ d) : zEi g d mM_put [va_rf (some (A + 0)), .long l1, .int l3] (zmm M0 A 40 J) (fun v Mq => v = bI r ∧ Mq = zmm M0 A 40 J1) := by
  unfold FM_put at h
  refine zEb_qL (r := r) (lv := [(0, va_rf (some (A + 0))), (1, .long l1), (3, .int l3)]) ⟨by decide +kernel, by decide, by decide +kernel⟩ (Nat.le_of_ble_eq_true rfl) rfl ?_
  refine zi_aload_n 0 (dq dM_put 0 rfl) rfl ?_
  refine zi_iconst (v := 0) (dq dM_put 1 rfl) (by decide) ?_
  refine ri_puti (zLs hL 0 rfl) (by decide) fM_132 (fun h => by cases h) rfl rfl (dq dM_put 2 rfl) ?_
  refine zi_iload_n 2 (dq dM_put 3 rfl) rfl ?_
  refine zi_iconst (v := 1) (dq dM_put 4 rfl) (by decide) ?_
  refine zi_bipush (v := 8) (dq dM_put 5 rfl) (by decide) ?_
  obtain ⟨v2, hv2, h⟩ := q_c h
  refine zi_cSi3 (SM_in  hv2 (d := d - 1) (by omega)) wM_in aM_166 tM_in (by omega) (Nat.le_of_ble_eq_true rfl) (dq dM_put 6 rfl) (fun _ _ hh => ?_)
  obtain ⟨rfl, rfl⟩ := hh
  refine zi_if_eq (tgt := 26) (dq dM_put 7 rfl) (by decide) (fun c => ?_) (fun c => ?_)
  · have h := q_t c h
    refine zi_iconst (v := 0) (dq dM_put 14 rfl) (by decide) ?_
    exact zi_ireturn rfl (by decide) (dq dM_put 15 rfl) (q_rb (b := false) h)
  · have h := q_f c h
    refine zi_aload_n 0 (dq dM_put 8 rfl) rfl ?_
    refine ri_geti (zLs hL 0 rfl) (by decide) fM_228 (dq dM_put 9 rfl) ?_
    refine zi_iload_n 2 (dq dM_put 10 rfl) rfl ?_
    refine zi_iadd (dq dM_put 11 rfl) ?_
    refine zi_bipush (v := 120) (dq dM_put 12 rfl) (by decide) ?_
    refine zi_icmp_le (tgt := 28) (dq dM_put 13 rfl) (by decide) (fun c => ?_) (fun c => ?_)
    · have h := q_t c h
      refine zi_iload_n 2 (dq dM_put 16 rfl) rfl ?_
      refine zi_iconst (v := 1) (dq dM_put 17 rfl) (by decide) ?_
      refine zi_isub (dq dM_put 18 rfl) ?_
      refine zi_istC (lv' := [(4, _), (0, _), (1, _), (3, _)]) (dq dM_put 19 rfl) (by decide) (by simp [z_cr, z_ci]) rfl ?_
      exact zG_lv (zs_c 1 rfl (zs_c 2 rfl (zs_c 0 rfl zs_n))) (SM_put_33 hL hd  _ _ h)
    · have h := q_f c h
      refine zi_iconst (v := 0) (dq dM_put 14 rfl) (by decide) ?_
      exact zi_ireturn rfl (by decide) (dq dM_put 15 rfl) (q_rb (b := false) h)
def FM_wipe (N : Nat) (J : zJ) : Option (Int32 × zJ) :=
  let J1 := zu J 0 0 0
  let y2 := J1 0 27
  let J3 := zu J1 0 27 0
  some (y2, J3)
theorem SM_wipe {g : zg} {d N : Nat} {M0 : zM} {A : Nat} {r : Int32} {J1 : zJ} {J : zJ}  (hL : zLy M0 A mShL mRf) (h : FM_wipe N J = some (r, J1)) (hd : 0 ≤ d) : zEi g d mM_wipe [va_rf (some (A + 0))] (zmm M0 A 40 J) (fun v Mq => v = r ∧ Mq = zmm M0 A 40 J1) := by
  unfold FM_wipe at h
  refine zEi_q (r := r) (lv := [(0, va_rf (some (A + 0)))]) ⟨by decide +kernel, by decide, by decide +kernel⟩ (by simp [z_cr, z_ci]) (Nat.le_of_ble_eq_true rfl) rfl ?_
  refine zi_aload_n 0 (dq dM_wipe 0 rfl) rfl ?_
  refine zi_iconst (v := 0) (dq dM_wipe 1 rfl) (by decide) ?_
  refine ri_puti (zLs hL 0 rfl) (by decide) fM_132 (fun h => by cases h) rfl rfl (dq dM_wipe 2 rfl) ?_
  refine zi_aload_n 0 (dq dM_wipe 3 rfl) rfl ?_
  refine ri_geti (zLs hL 0 rfl) (by decide) fM_228 (dq dM_wipe 4 rfl) ?_
  refine zi_istC_n (lv' := [(1, _), (0, _)]) (dq dM_wipe 5 rfl) (by decide) (by simp [z_cr, z_ci]) rfl ?_
  refine zi_aload_n 1 (dq dM_wipe 6 rfl) rfl ?_
  refine zi_iconst (v := 0) (dq dM_wipe 7 rfl) (by decide) ?_
  refine ri_puti (zLs hL 0 rfl) (by decide) fM_228 (fun h => by cases h) rfl rfl (dq dM_wipe 8 rfl) ?_
  refine zi_iload_n 0 (dq dM_wipe 9 rfl) rfl ?_
  exact zi_ireturn rfl rfl (dq dM_wipe 10 rfl) (q_ri h)
def FM_at_20 (N : Nat) (l1 : Int32) (t1 : Int32) (J : zJ) : Option (Int32 × zJ) :=
  let J1 := zu J 0 0 t1
  if (J1 0 0) ≤ 0 then
    if 0 ≤ l1 then
      qk (qi l1 120) <|
      some ((J1 18 l1.toNatClampNeg), J1)
    else
      some ((J1 0 27), J1)
  else
    some (0, J1)
theorem SM_at_20 {g : zg} {d N : Nat} {M0 : zM} {A : Nat} {r : Int32} {J1 : zJ} {J : zJ}  {l1 : Int32} {t1 : Int32} (hL : zLy M0 A mShL mRf) (h : FM_at_20 N l1 t1 J = some (r, J1)) (hd : 1 ≤ d)  : zG g d mM_at (zPq (rI r) (zmm M0 A 40 J1)) (zmm M0 A 40 J) 20 [(0, va_rf (some (A + 0))), (1, .int l1)] [.int t1, va_rf (some (A + 0))] := by
  unfold FM_at_20 at h
  refine ri_puti (zLs hL 0 rfl) (by decide) fM_132 (fun h => by cases h) rfl rfl (dq dM_at 12 rfl) ?_
  refine zi_aload_n 0 (dq dM_at 13 rfl) rfl ?_
  refine ri_geti (zLs hL 0 rfl) (by decide) fM_132 (dq dM_at 14 rfl) ?_
  refine zi_if_le (tgt := 34) (dq dM_at 15 rfl) (by decide) (fun c => ?_) (fun c => ?_)
  · have h := q_t c h
    refine zi_iload_n 1 (dq dM_at 18 rfl) rfl ?_
    refine zi_if_ge (tgt := 45) (dq dM_at 19 rfl) (by decide) (fun c => ?_) (fun c => ?_)
    · have h := q_t c h
      refine zi_aload_n 0 (dq dM_at 23 rfl) rfl ?_
      refine ri_getr (zLs hL 0 rfl) (zLr hL 17 rfl) fM_63 (dq dM_at 24 rfl) ?_
      refine zi_iload_n 1 (dq dM_at 25 rfl) rfl ?_
      obtain ⟨c2, h⟩ := q_k h
      refine ri_iald (zLs hL 18 rfl) (by decide) rfl c2 (dq dM_at 26 rfl) ?_
      exact zi_ireturn rfl rfl (dq dM_at 27 rfl) (q_ri h)
    · have h := q_f c h
      refine zi_aload_n 0 (dq dM_at 20 rfl) rfl ?_
      refine ri_geti (zLs hL 0 rfl) (by decide) fM_228 (dq dM_at 21 rfl) ?_
      refine zi_goto (tgt := 51) (dq dM_at 22 rfl) (by decide) ?_
      exact zi_ireturn rfl rfl (dq dM_at 27 rfl) (q_ri h)
  · have h := q_f c h
    refine zi_iconst (v := 0) (dq dM_at 16 rfl) (by decide) ?_
    refine zi_goto (tgt := 51) (dq dM_at 17 rfl) (by decide) ?_
    exact zi_ireturn rfl rfl (dq dM_at 27 rfl) (q_ri h)
def FM_at (N : Nat) (l1 : Int32) (J : zJ) : Option (Int32 × zJ) :=
  qc (FM_in N l1 ((-1)) ((J 0 27) - 1)) fun v1 =>
  if (bI v1) = 0 then
    FM_at_20 N l1 1 J
  else
    FM_at_20 N l1 0 J
theorem SM_at {g : zg} {d N : Nat} {M0 : zM} {A : Nat} {r : Int32} {J1 : zJ} {J : zJ} {l1 : Int32} (hL : zLy M0 A mShL mRf) (h : FM_at N l1 J = some (r, J1)) (hd : 1 ≤ d) : zEi g d mM_at [va_rf (some (A + 0)), .int l1] (zmm M0 A 40 J) (fun v Mq => v = r ∧ Mq = zmm M0 A 40 J1) := by
  unfold FM_at at h
  refine zEi_q (r := r) (lv := [(0, va_rf (some (A + 0))), (1, .int l1)]) ⟨by decide +kernel, by decide, by decide +kernel⟩ (by simp [z_cr, z_ci]) (Nat.le_of_ble_eq_true rfl) rfl ?_
  refine zi_aload_n 0 (dq dM_at 0 rfl) rfl ?_
  refine zi_iload_n 1 (dq dM_at 1 rfl) rfl ?_
  refine zi_iconst (v := (-1)) (dq dM_at 2 rfl) (by decide) ?_
  refine zi_aload_n 0 (dq dM_at 3 rfl) rfl ?_
  refine ri_geti (zLs hL 0 rfl) (by decide) fM_228 (dq dM_at 4 rfl) ?_
  refine zi_iconst (v := 1) (dq dM_at 5 rfl) (by decide) ?_
  refine zi_isub (dq dM_at 6 rfl) ?_
  obtain ⟨v1, hv1, h⟩ := q_c h
  refine zi_cSi3 (SM_in  hv1 (d := d - 1) (by omega)) wM_in aM_166 tM_in (by omega) (Nat.le_of_ble_eq_true rfl) (dq dM_at 7 rfl) (fun _ _ hh => ?_)
  obtain ⟨rfl, rfl⟩ := hh
  refine zi_if_eq (tgt := 19) (dq dM_at 8 rfl) (by decide) (fun c => ?_) (fun c => ?_)
  · have h := q_t c h
    refine zi_iconst (v := 1) (dq dM_at 11 rfl) (by decide) ?_
    exact zG_lv (zs_c 0 rfl (zs_c 1 rfl zs_n)) (SM_at_20 hL h hd )
  · have h := q_f c h
    refine zi_iconst (v := 0) (dq dM_at 9 rfl) (by decide) ?_
    refine zi_goto (tgt := 20) (dq dM_at 10 rfl) (by decide) ?_
    exact zG_lv (zs_c 0 rfl (zs_c 1 rfl zs_n)) (SM_at_20 hL h hd )
def FM_adds_14 (N : Nat) (l1 : Int32) (l2 : Int32) (l3 : Int32) (l4 : Int32) (J : zJ) : Option (Int32 × zJ) :=
  if (J 0 49) = 0 then
    some (99, J)
  else
    qk (qi (J 0 34) 100) <|
    let J2 := zu J 21 (J 0 34).toNatClampNeg l1
    qk (qi (J2 0 34) 100) <|
    let J4 := zu J2 24 (J2 0 34).toNatClampNeg l2
    qk (qi (J4 0 34) 100) <|
    let J6 := zu J4 23 (J4 0 34).toNatClampNeg l3
    qk (qi (J6 0 34) 100) <|
    let J8 := zu J6 22 (J6 0 34).toNatClampNeg l4
    qk (qi (J8 0 34) 100) <|
    let J10 := zu J8 25 (J8 0 34).toNatClampNeg (J8 0 35)
    let J11 := zu J10 0 34 ((J10 0 34) + 1)
    some (((J11 0 34) - 1), J11)
theorem SM_adds_14 {g : zg} {d N : Nat} {M0 : zM} {A : Nat} {r : Int32} {J1 : zJ} {J : zJ}  {l1 : Int32} {l2 : Int32} {l3 : Int32} {l4 : Int32} (hL : zLy M0 A mShL mRf) (h : FM_adds_14 N l1 l2 l3 l4 J = some (r, J1)) (hd : 0 ≤ d)  : zG g d mM_adds (zPq (rI r) (zmm M0 A 40 J1)) (zmm M0 A 40 J) 14 [(0, va_rf (some (A + 0))), (1, .int l1), (2, .int l2), (3, .int l3), (4, .int l4)] [] := by
  unfold FM_adds_14 at h
  refine zi_aload_n 0 (dq dM_adds 7 rfl) rfl ?_
  refine ri_geti (zLs hL 0 rfl) (by decide) fM_236 (dq dM_adds 8 rfl) ?_
  refine zi_if_ne (tgt := 24) (dq dM_adds 9 rfl) (by decide) (fun c => ?_) (fun c => ?_)
  · have h := q_f c h
    refine zi_aload_n 0 (dq dM_adds 12 rfl) rfl ?_
    refine ri_getr (zLs hL 0 rfl) (zLr hL 20 rfl) fM_72 (dq dM_adds 13 rfl) ?_
    refine zi_aload_n 0 (dq dM_adds 14 rfl) rfl ?_
    refine ri_geti (zLs hL 0 rfl) (by decide) fM_233 (dq dM_adds 15 rfl) ?_
    refine zi_iload_n 1 (dq dM_adds 16 rfl) rfl ?_
    obtain ⟨c1, h⟩ := q_k h
    refine ri_iast (zLs hL 21 rfl) (by decide) rfl c1 (dq dM_adds 17 rfl) ?_
    refine zi_aload_n 0 (dq dM_adds 18 rfl) rfl ?_
    refine ri_getr (zLs hL 0 rfl) (zLr hL 23 rfl) fM_81 (dq dM_adds 19 rfl) ?_
    refine zi_aload_n 0 (dq dM_adds 20 rfl) rfl ?_
    refine ri_geti (zLs hL 0 rfl) (by decide) fM_233 (dq dM_adds 21 rfl) ?_
    refine zi_iload_n 2 (dq dM_adds 22 rfl) rfl ?_
    obtain ⟨c3, h⟩ := q_k h
    refine ri_iast (zLs hL 24 rfl) (by decide) rfl c3 (dq dM_adds 23 rfl) ?_
    refine zi_aload_n 0 (dq dM_adds 24 rfl) rfl ?_
    refine ri_getr (zLs hL 0 rfl) (zLr hL 22 rfl) fM_78 (dq dM_adds 25 rfl) ?_
    refine zi_aload_n 0 (dq dM_adds 26 rfl) rfl ?_
    refine ri_geti (zLs hL 0 rfl) (by decide) fM_233 (dq dM_adds 27 rfl) ?_
    refine zi_iload_n 3 (dq dM_adds 28 rfl) rfl ?_
    obtain ⟨c5, h⟩ := q_k h
    refine ri_iast (zLs hL 23 rfl) (by decide) rfl c5 (dq dM_adds 29 rfl) ?_
    refine zi_aload_n 0 (dq dM_adds 30 rfl) rfl ?_
    refine ri_getr (zLs hL 0 rfl) (zLr hL 21 rfl) fM_75 (dq dM_adds 31 rfl) ?_
    refine zi_aload_n 0 (dq dM_adds 32 rfl) rfl ?_
    refine ri_geti (zLs hL 0 rfl) (by decide) fM_233 (dq dM_adds 33 rfl) ?_
    refine zi_iload 4 (dq dM_adds 34 rfl) rfl ?_
    obtain ⟨c7, h⟩ := q_k h
    refine ri_iast (zLs hL 22 rfl) (by decide) rfl c7 (dq dM_adds 35 rfl) ?_
    refine zi_aload_n 0 (dq dM_adds 36 rfl) rfl ?_
    refine ri_getr (zLs hL 0 rfl) (zLr hL 24 rfl) fM_84 (dq dM_adds 37 rfl) ?_
    refine zi_aload_n 0 (dq dM_adds 38 rfl) rfl ?_
    refine ri_geti (zLs hL 0 rfl) (by decide) fM_233 (dq dM_adds 39 rfl) ?_
    refine zi_aload_n 0 (dq dM_adds 40 rfl) rfl ?_
    refine ri_geti (zLs hL 0 rfl) (by decide) fM_239 (dq dM_adds 41 rfl) ?_
    obtain ⟨c9, h⟩ := q_k h
    refine ri_iast (zLs hL 25 rfl) (by decide) rfl c9 (dq dM_adds 42 rfl) ?_
    refine zi_aload_n 0 (dq dM_adds 43 rfl) rfl ?_
    refine zi_dup (dq dM_adds 44 rfl) (by first | rfl | exact z_cr _) ?_
    refine ri_geti (zLs hL 0 rfl) (by decide) fM_233 (dq dM_adds 45 rfl) ?_
    refine zi_iconst (v := 1) (dq dM_adds 46 rfl) (by decide) ?_
    refine zi_iadd (dq dM_adds 47 rfl) ?_
    refine ri_puti (zLs hL 0 rfl) (by decide) fM_233 (fun h => by cases h) rfl rfl (dq dM_adds 48 rfl) ?_
    refine zi_aload_n 0 (dq dM_adds 49 rfl) rfl ?_
    refine ri_geti (zLs hL 0 rfl) (by decide) fM_233 (dq dM_adds 50 rfl) ?_
    refine zi_iconst (v := 1) (dq dM_adds 51 rfl) (by decide) ?_
    refine zi_isub (dq dM_adds 52 rfl) ?_
    exact zi_ireturn rfl rfl (dq dM_adds 53 rfl) (q_ri h)
  · have h := q_t c h
    refine zi_bipush (v := 99) (dq dM_adds 10 rfl) (by decide) ?_
    exact zi_ireturn rfl rfl (dq dM_adds 11 rfl) (q_ri h)
def FM_adds (N : Nat) (l1 : Int32) (l2 : Int32) (l3 : Int32) (l4 : Int32) (J : zJ) : Option (Int32 × zJ) :=
  if (J 0 34) = 100 then
    let J1 := zu J 0 49 0
    FM_adds_14 N l1 l2 l3 l4 J1
  else
    FM_adds_14 N l1 l2 l3 l4 J
theorem SM_adds {g : zg} {d N : Nat} {M0 : zM} {A : Nat} {r : Int32} {J1 : zJ} {J : zJ} {l1 : Int32} {l2 : Int32} {l3 : Int32} {l4 : Int32} (hL : zLy M0 A mShL mRf) (h : FM_adds N l1 l2 l3 l4 J = some (r, J1)) (hd : 0 ≤ d) : zEi g d mM_adds [va_rf (some (A + 0)), .int l1, .int l2, .int l3, .int l4] (zmm M0 A 40 J) (fun v Mq => v = r ∧ Mq = zmm M0 A 40 J1) := by
  unfold FM_adds at h
  refine zEi_q (r := r) (lv := [(0, va_rf (some (A + 0))), (1, .int l1), (2, .int l2), (3, .int l3), (4, .int l4)]) ⟨by decide +kernel, by decide, by decide +kernel⟩ (by simp [z_cr, z_ci]) (Nat.le_of_ble_eq_true rfl) rfl ?_
  refine zi_aload_n 0 (dq dM_adds 0 rfl) rfl ?_
  refine ri_geti (zLs hL 0 rfl) (by decide) fM_233 (dq dM_adds 1 rfl) ?_
  refine zi_bipush (v := 100) (dq dM_adds 2 rfl) (by decide) ?_
  refine zi_icmp_ne (tgt := 14) (dq dM_adds 3 rfl) (by decide) (fun c => ?_) (fun c => ?_)
  · have h := q_f c h
    exact zG_lv (zs_c 0 rfl (zs_c 1 rfl (zs_c 2 rfl (zs_c 3 rfl (zs_c 4 rfl zs_n))))) (SM_adds_14 hL h hd )
  · have h := q_t c h
    refine zi_aload_n 0 (dq dM_adds 4 rfl) rfl ?_
    refine zi_iconst (v := 0) (dq dM_adds 5 rfl) (by decide) ?_
    refine ri_puti (zLs hL 0 rfl) (by decide) fM_236 (fun h => by cases h) (by decide) (by decide) (dq dM_adds 6 rfl) ?_
    exact zG_lv (zs_c 0 rfl (zs_c 1 rfl (zs_c 2 rfl (zs_c 3 rfl (zs_c 4 rfl zs_n))))) (SM_adds_14 hL h hd )
def FM_frame (N : Nat) (l1 : Int32) (l2 : Int32) (l3 : Int32) (J : zJ) : Option (Unit × zJ) :=
  qk (qi (J 0 48) 160) <|
  let J2 := zu J 31 (J 0 48).toNatClampNeg l1
  qk (qi (J2 0 48) 160) <|
  let J4 := zu J2 32 (J2 0 48).toNatClampNeg l2
  qz l3 fun b5 =>
  qk (qi (J4 0 48) 160) <|
  let J7 := zu J4 35 (J4 0 48).toNatClampNeg (bI b5)
  qk (qi (J7 0 48) 160) <|
  let J9 := zu J7 33 (J7 0 48).toNatClampNeg 0
  qk (qi (J9 0 48) 160) <|
  let J11 := zu J9 34 (J9 0 48).toNatClampNeg 0
  let J12 := zu J11 0 48 ((J11 0 48) + 1)
  some ((), J12)
theorem SM_frame {g : zg} {d N : Nat} {M0 : zM} {A : Nat} {r : Unit} {J1 : zJ} {J : zJ} {l1 : Int32} {l2 : Int32} {l3 : Int32} (hL : zLy M0 A mShL mRf) (h : FM_frame N l1 l2 l3 J = some (r, J1)) (hd : 0 ≤ d) : zEv g d mM_frame [va_rf (some (A + 0)), .int l1, .int l2, .int l3] (zmm M0 A 40 J) (fun Mq => Mq = zmm M0 A 40 J1) := by
  unfold FM_frame at h
  refine zEu_q (r := r) (lv := [(0, va_rf (some (A + 0))), (1, .int l1), (2, .int l2), (3, .int l3)]) ⟨by decide +kernel, by decide, by decide +kernel⟩ (by simp [z_cr, z_ci]) (Nat.le_of_ble_eq_true rfl) rfl ?_
  refine zi_aload_n 0 (dq dM_frame 0 rfl) rfl ?_
  refine ri_getr (zLs hL 0 rfl) (zLr hL 30 rfl) fM_102 (dq dM_frame 1 rfl) ?_
  refine zi_aload_n 0 (dq dM_frame 2 rfl) rfl ?_
  refine ri_geti (zLs hL 0 rfl) (by decide) fM_242 (dq dM_frame 3 rfl) ?_
  refine zi_iload_n 1 (dq dM_frame 4 rfl) rfl ?_
  obtain ⟨c1, h⟩ := q_k h
  refine ri_iast (zLs hL 31 rfl) (by decide) rfl c1 (dq dM_frame 5 rfl) ?_
  refine zi_aload_n 0 (dq dM_frame 6 rfl) rfl ?_
  refine ri_getr (zLs hL 0 rfl) (zLr hL 31 rfl) fM_105 (dq dM_frame 7 rfl) ?_
  refine zi_aload_n 0 (dq dM_frame 8 rfl) rfl ?_
  refine ri_geti (zLs hL 0 rfl) (by decide) fM_242 (dq dM_frame 9 rfl) ?_
  refine zi_iload_n 2 (dq dM_frame 10 rfl) rfl ?_
  obtain ⟨c3, h⟩ := q_k h
  refine ri_iast (zLs hL 32 rfl) (by decide) rfl c3 (dq dM_frame 11 rfl) ?_
  refine zi_aload_n 0 (dq dM_frame 12 rfl) rfl ?_
  refine ri_getr (zLs hL 0 rfl) (zLr hL 34 rfl) fM_114 (dq dM_frame 13 rfl) ?_
  refine zi_aload_n 0 (dq dM_frame 14 rfl) rfl ?_
  refine ri_geti (zLs hL 0 rfl) (by decide) fM_242 (dq dM_frame 15 rfl) ?_
  refine zi_iload_n 3 (dq dM_frame 16 rfl) rfl ?_
  obtain ⟨b5, eb5, h⟩ := q_z h
  refine zi_top eb5 ?_
  obtain ⟨c6, h⟩ := q_k h
  refine ri_zast (zLs hL 35 rfl) (by decide) rfl c6 (bI_nar _) (dq dM_frame 17 rfl) ?_
  refine zi_aload_n 0 (dq dM_frame 18 rfl) rfl ?_
  refine ri_getr (zLs hL 0 rfl) (zLr hL 32 rfl) fM_108 (dq dM_frame 19 rfl) ?_
  refine zi_aload_n 0 (dq dM_frame 20 rfl) rfl ?_
  refine ri_geti (zLs hL 0 rfl) (by decide) fM_242 (dq dM_frame 21 rfl) ?_
  refine zi_iconst (v := 0) (dq dM_frame 22 rfl) (by decide) ?_
  obtain ⟨c8, h⟩ := q_k h
  refine ri_iast (zLs hL 33 rfl) (by decide) rfl c8 (dq dM_frame 23 rfl) ?_
  refine zi_aload_n 0 (dq dM_frame 24 rfl) rfl ?_
  refine ri_getr (zLs hL 0 rfl) (zLr hL 33 rfl) fM_111 (dq dM_frame 25 rfl) ?_
  refine zi_aload_n 0 (dq dM_frame 26 rfl) rfl ?_
  refine ri_geti (zLs hL 0 rfl) (by decide) fM_242 (dq dM_frame 27 rfl) ?_
  refine zi_iconst (v := 0) (dq dM_frame 28 rfl) (by decide) ?_
  obtain ⟨c10, h⟩ := q_k h
  refine ri_iast (zLs hL 34 rfl) (by decide) rfl c10 (dq dM_frame 29 rfl) ?_
  refine zi_aload_n 0 (dq dM_frame 30 rfl) rfl ?_
  refine zi_dup (dq dM_frame 31 rfl) (by first | rfl | exact z_cr _) ?_
  refine ri_geti (zLs hL 0 rfl) (by decide) fM_242 (dq dM_frame 32 rfl) ?_
  refine zi_iconst (v := 1) (dq dM_frame 33 rfl) (by decide) ?_
  refine zi_iadd (dq dM_frame 34 rfl) ?_
  refine ri_puti (zLs hL 0 rfl) (by decide) fM_242 (fun h => by cases h) rfl rfl (dq dM_frame 35 rfl) ?_
  exact zi_return rfl (dq dM_frame 36 rfl) (q_ru h)
def FM_bitOf_26 (N : Nat) (l0 : Int32)  : Option (Int32) :=
  some ((1 <<< ((20 + (l0 - l0 / 32 * 32)) &&& 31)))
theorem SM_bitOf_26 {g : zg} {d N : Nat} {M : zM} {r : Int32}  {l0 : Int32}  (h : FM_bitOf_26 N l0 = some r) (hd : 1 ≤ d)  : zG g d mM_bitOf (zPq (rI r) (M)) (M) 26 [(0, .int l0)] [] := by
  unfold FM_bitOf_26 at h
  refine zi_iconst (v := 1) (dq dM_bitOf 10 rfl) (by decide) ?_
  refine zi_bipush (v := 20) (dq dM_bitOf 11 rfl) (by decide) ?_
  refine zi_iload_n 0 (dq dM_bitOf 12 rfl) rfl ?_
  refine zi_bipush (v := 32) (dq dM_bitOf 13 rfl) (by decide) ?_
  refine zi_irem (by decide) (dq dM_bitOf 14 rfl) ?_
  refine zi_iadd (dq dM_bitOf 15 rfl) ?_
  refine zi_ishl (dq dM_bitOf 16 rfl) ?_
  exact zi_ireturn rfl rfl (dq dM_bitOf 17 rfl) (q_riT h)
def FM_bitOf (N : Nat) (l0 : Int32)  : Option (Int32) :=
  qc (FM_in N l0 128 137) fun v1 =>
  if (bI v1) = 0 then
    qc (FM_in N l0 160 169) fun v2 =>
    if (bI v2) = 0 then
      if l0 = 1 then
        some ((1 <<< (l0 &&& 31)))
      else
        if l0 = 2 then
          some ((1 <<< (l0 &&& 31)))
        else
          if l0 = 4 then
            some ((1 <<< (l0 &&& 31)))
          else
            if l0 = 5 then
              some ((1 <<< (l0 &&& 31)))
            else
              if l0 = 48 then
                some 65536
              else
                some 0
    else
      FM_bitOf_26 N l0
  else
    FM_bitOf_26 N l0
theorem SM_bitOf {g : zg} {d N : Nat} {M : zM} {r : Int32} {l0 : Int32}  (h : FM_bitOf N l0 = some r) (hd : 1 ≤ d) : zEi g d mM_bitOf [.int l0] (M) (fun v Mq => v = r ∧ Mq = M) := by
  unfold FM_bitOf at h
  refine zEi_q (r := r) (lv := [(0, .int l0)]) ⟨by decide +kernel, by decide, by decide +kernel⟩ (by simp [z_cr, z_ci]) (Nat.le_of_ble_eq_true rfl) rfl ?_
  refine zi_iload_n 0 (dq dM_bitOf 0 rfl) rfl ?_
  refine zi_sipush (v := 128) (dq dM_bitOf 1 rfl) (by decide) ?_
  refine zi_sipush (v := 137) (dq dM_bitOf 2 rfl) (by decide) ?_
  obtain ⟨v1, hv1, h⟩ := q_c h
  refine zi_cSi3 (SM_in  hv1 (d := d - 1) (by omega)) wM_in aM_166 tM_in (by omega) (Nat.le_of_ble_eq_true rfl) (dq dM_bitOf 3 rfl) (fun _ _ hh => ?_)
  obtain ⟨rfl, rfl⟩ := hh
  refine zi_if_ne (tgt := 26) (dq dM_bitOf 4 rfl) (by decide) (fun c => ?_) (fun c => ?_)
  · have h := q_f c h
    exact zG_lv (zs_c 0 rfl zs_n) (SM_bitOf_26  h hd )
  · have h := q_t c h
    refine zi_iload_n 0 (dq dM_bitOf 5 rfl) rfl ?_
    refine zi_sipush (v := 160) (dq dM_bitOf 6 rfl) (by decide) ?_
    refine zi_sipush (v := 169) (dq dM_bitOf 7 rfl) (by decide) ?_
    obtain ⟨v2, hv2, h⟩ := q_c h
    refine zi_cSi3 (SM_in  hv2 (d := d - 1) (by omega)) wM_in aM_166 tM_in (by omega) (Nat.le_of_ble_eq_true rfl) (dq dM_bitOf 8 rfl) (fun _ _ hh => ?_)
    obtain ⟨rfl, rfl⟩ := hh
    refine zi_if_eq (tgt := 36) (dq dM_bitOf 9 rfl) (by decide) (fun c => ?_) (fun c => ?_)
    · have h := q_t c h
      refine zi_iload_n 0 (dq dM_bitOf 18 rfl) rfl ?_
      refine zi_iconst (v := 1) (dq dM_bitOf 19 rfl) (by decide) ?_
      refine zi_icmp_eq (tgt := 56) (dq dM_bitOf 20 rfl) (by decide) (fun c => ?_) (fun c => ?_)
      · have h := q_t c h
        refine zi_iconst (v := 1) (dq dM_bitOf 30 rfl) (by decide) ?_
        refine zi_iload_n 0 (dq dM_bitOf 31 rfl) rfl ?_
        refine zi_ishl (dq dM_bitOf 32 rfl) ?_
        refine zi_goto (tgt := 74) (dq dM_bitOf 33 rfl) (by decide) ?_
        exact zi_ireturn rfl rfl (dq dM_bitOf 40 rfl) (q_riT h)
      · have h := q_f c h
        refine zi_iload_n 0 (dq dM_bitOf 21 rfl) rfl ?_
        refine zi_iconst (v := 2) (dq dM_bitOf 22 rfl) (by decide) ?_
        refine zi_icmp_eq (tgt := 56) (dq dM_bitOf 23 rfl) (by decide) (fun c => ?_) (fun c => ?_)
        · have h := q_t c h
          refine zi_iconst (v := 1) (dq dM_bitOf 30 rfl) (by decide) ?_
          refine zi_iload_n 0 (dq dM_bitOf 31 rfl) rfl ?_
          refine zi_ishl (dq dM_bitOf 32 rfl) ?_
          refine zi_goto (tgt := 74) (dq dM_bitOf 33 rfl) (by decide) ?_
          exact zi_ireturn rfl rfl (dq dM_bitOf 40 rfl) (q_riT h)
        · have h := q_f c h
          refine zi_iload_n 0 (dq dM_bitOf 24 rfl) rfl ?_
          refine zi_iconst (v := 4) (dq dM_bitOf 25 rfl) (by decide) ?_
          refine zi_icmp_eq (tgt := 56) (dq dM_bitOf 26 rfl) (by decide) (fun c => ?_) (fun c => ?_)
          · have h := q_t c h
            refine zi_iconst (v := 1) (dq dM_bitOf 30 rfl) (by decide) ?_
            refine zi_iload_n 0 (dq dM_bitOf 31 rfl) rfl ?_
            refine zi_ishl (dq dM_bitOf 32 rfl) ?_
            refine zi_goto (tgt := 74) (dq dM_bitOf 33 rfl) (by decide) ?_
            exact zi_ireturn rfl rfl (dq dM_bitOf 40 rfl) (q_riT h)
          · have h := q_f c h
            refine zi_iload_n 0 (dq dM_bitOf 27 rfl) rfl ?_
            refine zi_iconst (v := 5) (dq dM_bitOf 28 rfl) (by decide) ?_
            refine zi_icmp_ne (tgt := 62) (dq dM_bitOf 29 rfl) (by decide) (fun c => ?_) (fun c => ?_)
            · have h := q_f c h
              refine zi_iload_n 0 (dq dM_bitOf 34 rfl) rfl ?_
              refine zi_bipush (v := 48) (dq dM_bitOf 35 rfl) (by decide) ?_
              refine zi_icmp_ne (tgt := 73) (dq dM_bitOf 36 rfl) (by decide) (fun c => ?_) (fun c => ?_)
              · have h := q_f c h
                refine zi_iconst (v := 0) (dq dM_bitOf 39 rfl) (by decide) ?_
                exact zi_ireturn rfl rfl (dq dM_bitOf 40 rfl) (q_riT h)
              · have h := q_t c h
                refine zi_ldc (v := 65536) cM_210 (dq dM_bitOf 37 rfl) ?_
                refine zi_goto (tgt := 74) (dq dM_bitOf 38 rfl) (by decide) ?_
                exact zi_ireturn rfl rfl (dq dM_bitOf 40 rfl) (q_riT h)
            · have h := q_t c h
              refine zi_iconst (v := 1) (dq dM_bitOf 30 rfl) (by decide) ?_
              refine zi_iload_n 0 (dq dM_bitOf 31 rfl) rfl ?_
              refine zi_ishl (dq dM_bitOf 32 rfl) ?_
              refine zi_goto (tgt := 74) (dq dM_bitOf 33 rfl) (by decide) ?_
              exact zi_ireturn rfl rfl (dq dM_bitOf 40 rfl) (q_riT h)
    · have h := q_f c h
      exact zG_lv (zs_c 0 rfl zs_n) (SM_bitOf_26  h hd )
def FM_bound (N : Nat) (J : zJ) : Option (Int32 × zJ) :=
  if (J 0 48) = 0 then
    some ((J 0 28), J)
  else
    qk (qi ((J 0 48) - 1) 160) <|
    some ((J 32 ((J 0 48) - 1).toNatClampNeg), J)
theorem SM_bound {g : zg} {d N : Nat} {M0 : zM} {A : Nat} {r : Int32} {J1 : zJ} {J : zJ}  (hL : zLy M0 A mShL mRf) (h : FM_bound N J = some (r, J1)) (hd : 0 ≤ d) : zEi g d mM_bound [va_rf (some (A + 0))] (zmm M0 A 40 J) (fun v Mq => v = r ∧ Mq = zmm M0 A 40 J1) := by
  unfold FM_bound at h
  refine zEi_q (r := r) (lv := [(0, va_rf (some (A + 0)))]) ⟨by decide +kernel, by decide, by decide +kernel⟩ (by simp [z_cr, z_ci]) (Nat.le_of_ble_eq_true rfl) rfl ?_
  refine zi_aload_n 0 (dq dM_bound 0 rfl) rfl ?_
  refine ri_geti (zLs hL 0 rfl) (by decide) fM_242 (dq dM_bound 1 rfl) ?_
  refine zi_if_ne (tgt := 14) (dq dM_bound 2 rfl) (by decide) (fun c => ?_) (fun c => ?_)
  · have h := q_f c h
    refine zi_aload_n 0 (dq dM_bound 6 rfl) rfl ?_
    refine ri_getr (zLs hL 0 rfl) (zLr hL 31 rfl) fM_105 (dq dM_bound 7 rfl) ?_
    refine zi_aload_n 0 (dq dM_bound 8 rfl) rfl ?_
    refine ri_geti (zLs hL 0 rfl) (by decide) fM_242 (dq dM_bound 9 rfl) ?_
    refine zi_iconst (v := 1) (dq dM_bound 10 rfl) (by decide) ?_
    refine zi_isub (dq dM_bound 11 rfl) ?_
    obtain ⟨c1, h⟩ := q_k h
    refine ri_iald (zLs hL 32 rfl) (by decide) rfl c1 (dq dM_bound 12 rfl) ?_
    exact zi_ireturn rfl rfl (dq dM_bound 13 rfl) (q_ri h)
  · have h := q_t c h
    refine zi_aload_n 0 (dq dM_bound 3 rfl) rfl ?_
    refine ri_geti (zLs hL 0 rfl) (by decide) fM_261 (dq dM_bound 4 rfl) ?_
    refine zi_goto (tgt := 25) (dq dM_bound 5 rfl) (by decide) ?_
    exact zi_ireturn rfl rfl (dq dM_bound 13 rfl) (q_ri h)
def FM_next_16 (N : Nat) (J : zJ) : Option (Int32 × zJ) :=
  let J1 := zu J 0 47 ((J 0 47) + 1)
  if (J1 0 49) = 0 then
    some (0, J1)
  else
    qk (qi ((J1 0 47) - 1) 120) <|
    some ((J1 19 ((J1 0 47) - 1).toNatClampNeg), J1)
theorem SM_next_16 {g : zg} {d N : Nat} {M0 : zM} {A : Nat} {r : Int32} {J1 : zJ} {J : zJ}   (hL : zLy M0 A mShL mRf) (h : FM_next_16 N J = some (r, J1)) (hd : 1 ≤ d)  : zG g d mM_next (zPq (rI r) (zmm M0 A 40 J1)) (zmm M0 A 40 J) 16 [(0, va_rf (some (A + 0)))] [] := by
  unfold FM_next_16 at h
  refine zi_aload_n 0 (dq dM_next 8 rfl) rfl ?_
  refine zi_dup (dq dM_next 9 rfl) (by first | rfl | exact z_cr _) ?_
  refine ri_geti (zLs hL 0 rfl) (by decide) fM_245 (dq dM_next 10 rfl) ?_
  refine zi_iconst (v := 1) (dq dM_next 11 rfl) (by decide) ?_
  refine zi_iadd (dq dM_next 12 rfl) ?_
  refine ri_puti (zLs hL 0 rfl) (by decide) fM_245 (fun h => by cases h) rfl rfl (dq dM_next 13 rfl) ?_
  refine zi_aload_n 0 (dq dM_next 14 rfl) rfl ?_
  refine ri_geti (zLs hL 0 rfl) (by decide) fM_236 (dq dM_next 15 rfl) ?_
  refine zi_if_eq (tgt := 47) (dq dM_next 16 rfl) (by decide) (fun c => ?_) (fun c => ?_)
  · have h := q_t c h
    refine zi_iconst (v := 0) (dq dM_next 25 rfl) (by decide) ?_
    exact zi_ireturn rfl rfl (dq dM_next 26 rfl) (q_ri h)
  · have h := q_f c h
    refine zi_aload_n 0 (dq dM_next 17 rfl) rfl ?_
    refine ri_getr (zLs hL 0 rfl) (zLr hL 18 rfl) fM_66 (dq dM_next 18 rfl) ?_
    refine zi_aload_n 0 (dq dM_next 19 rfl) rfl ?_
    refine ri_geti (zLs hL 0 rfl) (by decide) fM_245 (dq dM_next 20 rfl) ?_
    refine zi_iconst (v := 1) (dq dM_next 21 rfl) (by decide) ?_
    refine zi_isub (dq dM_next 22 rfl) ?_
    obtain ⟨c2, h⟩ := q_k h
    refine ri_iald (zLs hL 19 rfl) (by decide) rfl c2 (dq dM_next 23 rfl) ?_
    refine zi_goto (tgt := 48) (dq dM_next 24 rfl) (by decide) ?_
    exact zi_ireturn rfl rfl (dq dM_next 26 rfl) (q_ri h)
def FM_next (N : Nat) (J : zJ) : Option (Int32 × zJ) :=
  qb (FM_bound N J) fun v1 J2 =>
  if (J 0 47) < v1 then
    FM_next_16 N J2
  else
    let J3 := zu J2 0 49 0
    FM_next_16 N J3
theorem SM_next {g : zg} {d N : Nat} {M0 : zM} {A : Nat} {r : Int32} {J1 : zJ} {J : zJ}  (hL : zLy M0 A mShL mRf) (h : FM_next N J = some (r, J1)) (hd : 1 ≤ d) : zEi g d mM_next [va_rf (some (A + 0))] (zmm M0 A 40 J) (fun v Mq => v = r ∧ Mq = zmm M0 A 40 J1) := by
  unfold FM_next at h
  refine zEi_q (r := r) (lv := [(0, va_rf (some (A + 0)))]) ⟨by decide +kernel, by decide, by decide +kernel⟩ (by simp [z_cr, z_ci]) (Nat.le_of_ble_eq_true rfl) rfl ?_
  refine zi_aload_n 0 (dq dM_next 0 rfl) rfl ?_
  refine ri_geti (zLs hL 0 rfl) (by decide) fM_245 (dq dM_next 1 rfl) ?_
  refine zi_aload_n 0 (dq dM_next 2 rfl) rfl ?_
  obtain ⟨v1, J2, hv1, h⟩ := q_b h
  refine zi_cVi0 (SM_bound hL hv1 (d := d - 1) (by omega)) wM_bound aM_273 iM_bound sM_bound (by omega) (zLs hL 0 rfl) rfl (Nat.le_of_ble_eq_true rfl) (dq dM_next 3 rfl) (fun _ _ hh => ?_)
  obtain ⟨rfl, rfl⟩ := hh
  refine zi_icmp_lt (tgt := 16) (dq dM_next 4 rfl) (by decide) (fun c => ?_) (fun c => ?_)
  · have h := q_t c h
    exact zG_lv (zs_c 0 rfl zs_n) (SM_next_16 hL h hd )
  · have h := q_f c h
    refine zi_aload_n 0 (dq dM_next 5 rfl) rfl ?_
    refine zi_iconst (v := 0) (dq dM_next 6 rfl) (by decide) ?_
    refine ri_puti (zLs hL 0 rfl) (by decide) fM_236 (fun h => by cases h) (by decide) (by decide) (dq dM_next 7 rfl) ?_
    exact zG_lv (zs_c 0 rfl zs_n) (SM_next_16 hL h hd )
def FM_length_91 (N : Nat) (l2 : Int32) (J : zJ) : Option (Int32 × zJ) :=
  if (J 0 49) = 0 then
    some (0, J)
  else
    some (l2, J)
theorem SM_length_91 {g : zg} {d N : Nat} {M0 : zM} {A : Nat} {r : Int32} {J1 : zJ} {J : zJ}  {l2 : Int32} (hL : zLy M0 A mShL mRf) (h : FM_length_91 N l2 J = some (r, J1)) (hd : 2 ≤ d)  : zG g d mM_length (zPq (rI r) (zmm M0 A 40 J1)) (zmm M0 A 40 J) 91 [(0, va_rf (some (A + 0))), (2, .int l2)] [] := by
  unfold FM_length_91 at h
  refine zi_aload_n 0 (dq dM_length 47 rfl) rfl ?_
  refine ri_geti (zLs hL 0 rfl) (by decide) fM_236 (dq dM_length 48 rfl) ?_
  refine zi_if_eq (tgt := 102) (dq dM_length 49 rfl) (by decide) (fun c => ?_) (fun c => ?_)
  · have h := q_t c h
    refine zi_iconst (v := 0) (dq dM_length 52 rfl) (by decide) ?_
    exact zi_ireturn rfl rfl (dq dM_length 53 rfl) (q_ri h)
  · have h := q_f c h
    refine zi_iload_n 1 (dq dM_length 50 rfl) rfl ?_
    refine zi_goto (tgt := 103) (dq dM_length 51 rfl) (by decide) ?_
    exact zi_ireturn rfl rfl (dq dM_length 53 rfl) (q_ri h)
def FM_length_73 (N : Nat) (l2 : Int32) (J : zJ) : Option (Int32 × zJ) :=
  qb (FM_bound N J) fun v1 J2 =>
  if ((J 0 47) + l2) ≤ v1 then
    FM_length_91 N l2 J2
  else
    let J3 := zu J2 0 49 0
    FM_length_91 N l2 J3
theorem SM_length_73 {g : zg} {d N : Nat} {M0 : zM} {A : Nat} {r : Int32} {J1 : zJ} {J : zJ}  {l2 : Int32} (hL : zLy M0 A mShL mRf) (h : FM_length_73 N l2 J = some (r, J1)) (hd : 2 ≤ d)  : zG g d mM_length (zPq (rI r) (zmm M0 A 40 J1)) (zmm M0 A 40 J) 73 [(0, va_rf (some (A + 0))), (2, .int l2)] [] := by
  unfold FM_length_73 at h
  refine zi_aload_n 0 (dq dM_length 37 rfl) rfl ?_
  refine ri_geti (zLs hL 0 rfl) (by decide) fM_245 (dq dM_length 38 rfl) ?_
  refine zi_iload_n 1 (dq dM_length 39 rfl) rfl ?_
  refine zi_iadd (dq dM_length 40 rfl) ?_
  refine zi_aload_n 0 (dq dM_length 41 rfl) rfl ?_
  obtain ⟨v1, J2, hv1, h⟩ := q_b h
  refine zi_cVi0 (SM_bound hL hv1 (d := d - 1) (by omega)) wM_bound aM_273 iM_bound sM_bound (by omega) (zLs hL 0 rfl) rfl (Nat.le_of_ble_eq_true rfl) (dq dM_length 42 rfl) (fun _ _ hh => ?_)
  obtain ⟨rfl, rfl⟩ := hh
  refine zi_icmp_le (tgt := 91) (dq dM_length 43 rfl) (by decide) (fun c => ?_) (fun c => ?_)
  · have h := q_t c h
    exact zG_lv (zs_c 0 rfl (zs_c 1 rfl zs_n)) (SM_length_91 hL h hd )
  · have h := q_f c h
    refine zi_aload_n 0 (dq dM_length 44 rfl) rfl ?_
    refine zi_iconst (v := 0) (dq dM_length 45 rfl) (by decide) ?_
    refine ri_puti (zLs hL 0 rfl) (by decide) fM_236 (fun h => by cases h) (by decide) (by decide) (dq dM_length 46 rfl) ?_
    exact zG_lv (zs_c 0 rfl (zs_c 1 rfl zs_n)) (SM_length_91 hL h hd )
def FM_length_37 (N : Nat) (l2 : Int32) (J : zJ) : Option (Int32 × zJ) :=
  if l2 = 129 then
    qb (FM_next N J) fun v6 J7 =>
    FM_length_73 N v6 J7
  else
    if l2 = 130 then
      qb (FM_next N J) fun v1 J2 =>
      qb (FM_next N J2) fun v3 J4 =>
      let y5 := (256 * v1) + v3
      FM_length_73 N y5 J4
    else
      FM_length_73 N l2 J
theorem SM_length_37 {g : zg} {d N : Nat} {M0 : zM} {A : Nat} {r : Int32} {J1 : zJ} {J : zJ}  {l2 : Int32} (hL : zLy M0 A mShL mRf) (h : FM_length_37 N l2 J = some (r, J1)) (hd : 2 ≤ d)  : zG g d mM_length (zPq (rI r) (zmm M0 A 40 J1)) (zmm M0 A 40 J) 37 [(0, va_rf (some (A + 0))), (2, .int l2)] [] := by
  unfold FM_length_37 at h
  refine zi_iload_n 1 (dq dM_length 19 rfl) rfl ?_
  refine zi_sipush (v := 129) (dq dM_length 20 rfl) (by decide) ?_
  refine zi_icmp_ne (tgt := 52) (dq dM_length 21 rfl) (by decide) (fun c => ?_) (fun c => ?_)
  · have h := q_f c h
    refine zi_iload_n 1 (dq dM_length 26 rfl) rfl ?_
    refine zi_sipush (v := 130) (dq dM_length 27 rfl) (by decide) ?_
    refine zi_icmp_ne (tgt := 73) (dq dM_length 28 rfl) (by decide) (fun c => ?_) (fun c => ?_)
    · have h := q_f c h
      exact zG_lv (zs_c 0 rfl (zs_c 1 rfl zs_n)) (SM_length_73 hL h hd )
    · have h := q_t c h
      refine zi_sipush (v := 256) (dq dM_length 29 rfl) (by decide) ?_
      refine zi_aload_n 0 (dq dM_length 30 rfl) rfl ?_
      obtain ⟨v1, J2, hv1, h⟩ := q_b h
      refine zi_cVi0 (SM_next hL hv1 (d := d - 1) (by omega)) wM_next aM_276 iM_next sM_next (by omega) (zLs hL 0 rfl) rfl (Nat.le_of_ble_eq_true rfl) (dq dM_length 31 rfl) (fun _ _ hh => ?_)
      obtain ⟨rfl, rfl⟩ := hh
      refine zi_imul (dq dM_length 32 rfl) ?_
      refine zi_aload_n 0 (dq dM_length 33 rfl) rfl ?_
      obtain ⟨v3, J4, hv3, h⟩ := q_b h
      refine zi_cVi0 (SM_next hL hv3 (d := d - 1) (by omega)) wM_next aM_276 iM_next sM_next (by omega) (zLs hL 0 rfl) rfl (Nat.le_of_ble_eq_true rfl) (dq dM_length 34 rfl) (fun _ _ hh => ?_)
      obtain ⟨rfl, rfl⟩ := hh
      refine zi_iadd (dq dM_length 35 rfl) ?_
      refine zi_istC_n (lv' := [(2, _), (0, _)]) (dq dM_length 36 rfl) (by decide) (by simp [z_cr, z_ci]) rfl ?_
      exact zG_lv (zs_c 1 rfl (zs_c 0 rfl zs_n)) (SM_length_73 hL h hd )
  · have h := q_t c h
    refine zi_aload_n 0 (dq dM_length 22 rfl) rfl ?_
    obtain ⟨v6, J7, hv6, h⟩ := q_b h
    refine zi_cVi0 (SM_next hL hv6 (d := d - 1) (by omega)) wM_next aM_276 iM_next sM_next (by omega) (zLs hL 0 rfl) rfl (Nat.le_of_ble_eq_true rfl) (dq dM_length 23 rfl) (fun _ _ hh => ?_)
    obtain ⟨rfl, rfl⟩ := hh
    refine zi_istC_n (lv' := [(2, _), (0, _)]) (dq dM_length 24 rfl) (by decide) (by simp [z_cr, z_ci]) rfl ?_
    refine zi_goto (tgt := 73) (dq dM_length 25 rfl) (by decide) ?_
    exact zG_lv (zs_c 1 rfl (zs_c 0 rfl zs_n)) (SM_length_73 hL h hd )
def FM_length_18 (N : Nat) (l2 : Int32) (J : zJ) : Option (Int32 × zJ) :=
  if 130 < l2 then
    let J1 := zu J 0 49 0
    FM_length_37 N l2 J1
  else
    if l2 = 128 then
      let J2 := zu J 0 49 0
      FM_length_37 N l2 J2
    else
      FM_length_37 N l2 J
theorem SM_length_18 {g : zg} {d N : Nat} {M0 : zM} {A : Nat} {r : Int32} {J1 : zJ} {J : zJ}  {l2 : Int32} (hL : zLy M0 A mShL mRf) (h : FM_length_18 N l2 J = some (r, J1)) (hd : 2 ≤ d)  : zG g d mM_length (zPq (rI r) (zmm M0 A 40 J1)) (zmm M0 A 40 J) 18 [(0, va_rf (some (A + 0))), (2, .int l2)] [] := by
  unfold FM_length_18 at h
  refine zi_iload_n 1 (dq dM_length 10 rfl) rfl ?_
  refine zi_sipush (v := 130) (dq dM_length 11 rfl) (by decide) ?_
  refine zi_icmp_gt (tgt := 32) (dq dM_length 12 rfl) (by decide) (fun c => ?_) (fun c => ?_)
  · have h := q_t c h
    refine zi_aload_n 0 (dq dM_length 16 rfl) rfl ?_
    refine zi_iconst (v := 0) (dq dM_length 17 rfl) (by decide) ?_
    refine ri_puti (zLs hL 0 rfl) (by decide) fM_236 (fun h => by cases h) (by decide) (by decide) (dq dM_length 18 rfl) ?_
    exact zG_lv (zs_c 0 rfl (zs_c 1 rfl zs_n)) (SM_length_37 hL h hd )
  · have h := q_f c h
    refine zi_iload_n 1 (dq dM_length 13 rfl) rfl ?_
    refine zi_sipush (v := 128) (dq dM_length 14 rfl) (by decide) ?_
    refine zi_icmp_ne (tgt := 37) (dq dM_length 15 rfl) (by decide) (fun c => ?_) (fun c => ?_)
    · have h := q_f c h
      exact zG_lv (zs_c 0 rfl (zs_c 1 rfl zs_n)) (SM_length_37 hL h hd )
    · have h := q_t c h
      refine zi_aload_n 0 (dq dM_length 16 rfl) rfl ?_
      refine zi_iconst (v := 0) (dq dM_length 17 rfl) (by decide) ?_
      refine ri_puti (zLs hL 0 rfl) (by decide) fM_236 (fun h => by cases h) (by decide) (by decide) (dq dM_length 18 rfl) ?_
      exact zG_lv (zs_c 0 rfl (zs_c 1 rfl zs_n)) (SM_length_37 hL h hd )
def FM_length (N : Nat) (l1 : Int32) (J : zJ) : Option (Int32 × zJ) :=
  qb (FM_next N J) fun v1 J2 =>
  if v1 = 128 then
    if l1 = 0 then
      FM_length_18 N v1 J2
    else
      some (((-1)), J2)
  else
    FM_length_18 N v1 J2
theorem SM_length {g : zg} {d N : Nat} {M0 : zM} {A : Nat} {r : Int32} {J1 : zJ} {J : zJ} {l1 : Int32} (hL : zLy M0 A mShL mRf) (h : FM_length N l1 J = some (r, J1)) (hd : 2 ≤ d) : zEi g d mM_length [va_rf (some (A + 0)), .int l1] (zmm M0 A 40 J) (fun v Mq => v = r ∧ Mq = zmm M0 A 40 J1) := by
  unfold FM_length at h
  refine zEi_q (r := r) (lv := [(0, va_rf (some (A + 0))), (1, .int l1)]) ⟨by decide +kernel, by decide, by decide +kernel⟩ (by simp [z_cr, z_ci]) (Nat.le_of_ble_eq_true rfl) rfl ?_
  refine zi_aload_n 0 (dq dM_length 0 rfl) rfl ?_
  obtain ⟨v1, J2, hv1, h⟩ := q_b h
  refine zi_cVi0 (SM_next hL hv1 (d := d - 1) (by omega)) wM_next aM_276 iM_next sM_next (by omega) (zLs hL 0 rfl) rfl (Nat.le_of_ble_eq_true rfl) (dq dM_length 1 rfl) (fun _ _ hh => ?_)
  obtain ⟨rfl, rfl⟩ := hh
  refine zi_istC_n (lv' := [(2, _), (0, _), (1, _)]) (dq dM_length 2 rfl) (by decide) (by simp [z_cr, z_ci]) rfl ?_
  refine zi_iload_n 0 (dq dM_length 3 rfl) rfl ?_
  refine zi_sipush (v := 128) (dq dM_length 4 rfl) (by decide) ?_
  refine zi_icmp_ne (tgt := 18) (dq dM_length 5 rfl) (by decide) (fun c => ?_) (fun c => ?_)
  · have h := q_f c h
    exact zG_lv (zs_c 1 rfl (zs_c 0 rfl zs_n)) (SM_length_18 hL h hd )
  · have h := q_t c h
    refine zi_iload_n 2 (dq dM_length 6 rfl) rfl ?_
    refine zi_if_eq (tgt := 18) (dq dM_length 7 rfl) (by decide) (fun c => ?_) (fun c => ?_)
    · have h := q_t c h
      exact zG_lv (zs_c 1 rfl (zs_c 0 rfl zs_n)) (SM_length_18 hL h hd )
    · have h := q_f c h
      refine zi_iconst (v := (-1)) (dq dM_length 8 rfl) (by decide) ?_
      exact zi_ireturn rfl rfl (dq dM_length 9 rfl) (q_ri h)
def FM_enter_34 (N : Nat) (t1 : Int32) (t2 : Int32) (t3 : Int32) (J : zJ) : Option (Unit × zJ) :=
  qb (FM_frame N t1 t2 t3 J) fun v1 J2 =>
  some ((), J2)
theorem SM_enter_34 {g : zg} {d N : Nat} {M0 : zM} {A : Nat} {r : Unit} {J1 : zJ} {J : zJ}  {t1 : Int32} {t2 : Int32} {t3 : Int32} (hL : zLy M0 A mShL mRf) (h : FM_enter_34 N t1 t2 t3 J = some (r, J1)) (hd : 3 ≤ d)  : zG g d mM_enter (zPq (rU r) (zmm M0 A 40 J1)) (zmm M0 A 40 J) 34 [] [.int t3, .int t2, .int t1, va_rf (some (A + 0))] := by
  unfold FM_enter_34 at h
  obtain ⟨v1, J2, hv1, h⟩ := q_b h
  refine zi_cVv3 (SM_frame hL hv1 (d := d - 1) (by omega)) wM_frame aM_283 iM_frame sM_frame (by omega) (zLs hL 0 rfl) rfl (Nat.le_of_ble_eq_true rfl) (dq dM_enter 20 rfl) (fun _ hh => ?_)
  subst hh
  exact zi_return rfl (dq dM_enter 21 rfl) (q_ru h)
def FM_enter_25 (N : Nat) (l2 : Int32) (t1 : Int32) (t2 : Int32) (J : zJ) : Option (Unit × zJ) :=
  if 0 ≤ l2 then
    FM_enter_34 N t1 t2 0 J
  else
    FM_enter_34 N t1 t2 1 J
theorem SM_enter_25 {g : zg} {d N : Nat} {M0 : zM} {A : Nat} {r : Unit} {J1 : zJ} {J : zJ}  {l2 : Int32} {t1 : Int32} {t2 : Int32} (hL : zLy M0 A mShL mRf) (h : FM_enter_25 N l2 t1 t2 J = some (r, J1)) (hd : 3 ≤ d)  : zG g d mM_enter (zPq (rU r) (zmm M0 A 40 J1)) (zmm M0 A 40 J) 25 [(2, .int l2)] [.int t2, .int t1, va_rf (some (A + 0))] := by
  unfold FM_enter_25 at h
  refine zi_iload_n 0 (dq dM_enter 15 rfl) rfl ?_
  refine zi_if_ge (tgt := 33) (dq dM_enter 16 rfl) (by decide) (fun c => ?_) (fun c => ?_)
  · have h := q_t c h
    refine zi_iconst (v := 0) (dq dM_enter 19 rfl) (by decide) ?_
    exact zG_lv zs_n (SM_enter_34 hL h hd )
  · have h := q_f c h
    refine zi_iconst (v := 1) (dq dM_enter 17 rfl) (by decide) ?_
    refine zi_goto (tgt := 34) (dq dM_enter 18 rfl) (by decide) ?_
    exact zG_lv zs_n (SM_enter_34 hL h hd )
def FM_enter (N : Nat) (l1 : Int32) (J : zJ) : Option (Unit × zJ) :=
  qb (FM_length N 1 J) fun v1 J2 =>
  if 0 ≤ v1 then
    FM_enter_25 N v1 l1 ((J2 0 47) + v1) J2
  else
    qb (FM_bound N J2) fun v3 J4 =>
    FM_enter_25 N v1 l1 v3 J4
theorem SM_enter {g : zg} {d N : Nat} {M0 : zM} {A : Nat} {r : Unit} {J1 : zJ} {J : zJ} {l1 : Int32} (hL : zLy M0 A mShL mRf) (h : FM_enter N l1 J = some (r, J1)) (hd : 3 ≤ d) : zEv g d mM_enter [va_rf (some (A + 0)), .int l1] (zmm M0 A 40 J) (fun Mq => Mq = zmm M0 A 40 J1) := by
  unfold FM_enter at h
  refine zEu_q (r := r) (lv := [(0, va_rf (some (A + 0))), (1, .int l1)]) ⟨by decide +kernel, by decide, by decide +kernel⟩ (by simp [z_cr, z_ci]) (Nat.le_of_ble_eq_true rfl) rfl ?_
  refine zi_aload_n 0 (dq dM_enter 0 rfl) rfl ?_
  refine zi_iconst (v := 1) (dq dM_enter 1 rfl) (by decide) ?_
  obtain ⟨v1, J2, hv1, h⟩ := q_b h
  refine zi_cVi1 (SM_length hL hv1 (d := d - 1) (by omega)) wM_length aM_279 iM_length sM_length (by omega) (zLs hL 0 rfl) rfl (Nat.le_of_ble_eq_true rfl) (dq dM_enter 2 rfl) (fun _ _ hh => ?_)
  obtain ⟨rfl, rfl⟩ := hh
  refine zi_istC_n (lv' := [(2, _), (0, _), (1, _)]) (dq dM_enter 3 rfl) (by decide) (by simp [z_cr, z_ci]) rfl ?_
  refine zi_aload_n 1 (dq dM_enter 4 rfl) rfl ?_
  refine zi_iload_n 2 (dq dM_enter 5 rfl) rfl ?_
  refine zi_iload_n 0 (dq dM_enter 6 rfl) rfl ?_
  refine zi_if_ge (tgt := 19) (dq dM_enter 7 rfl) (by decide) (fun c => ?_) (fun c => ?_)
  · have h := q_t c h
    refine zi_aload_n 1 (dq dM_enter 11 rfl) rfl ?_
    refine ri_geti (zLs hL 0 rfl) (by decide) fM_245 (dq dM_enter 12 rfl) ?_
    refine zi_iload_n 0 (dq dM_enter 13 rfl) rfl ?_
    refine zi_iadd (dq dM_enter 14 rfl) ?_
    exact zG_lv (zs_c 0 rfl zs_n) (SM_enter_25 hL h hd )
  · have h := q_f c h
    refine zi_aload_n 1 (dq dM_enter 8 rfl) rfl ?_
    obtain ⟨v3, J4, hv3, h⟩ := q_b h
    refine zi_cVi0 (SM_bound hL hv3 (d := d - 1) (by omega)) wM_bound aM_273 iM_bound sM_bound (by omega) (zLs hL 0 rfl) rfl (Nat.le_of_ble_eq_true rfl) (dq dM_enter 9 rfl) (fun _ _ hh => ?_)
    obtain ⟨rfl, rfl⟩ := hh
    refine zi_goto (tgt := 25) (dq dM_enter 10 rfl) (by decide) ?_
    exact zG_lv (zs_c 0 rfl zs_n) (SM_enter_25 hL h hd )
def FM_bytesOf (N : Nat) (l0 : Int32)  : Option (Int32) :=
  qc (FM_in N l0 ((-128)) 127) fun v1 =>
  if (bI v1) = 0 then
    qc (FM_in N l0 ((-32768)) 32767) fun v2 =>
    if (bI v2) = 0 then
      qc (FM_in N l0 ((-8388608)) 8388607) fun v3 =>
      if (bI v3) = 0 then
        some 4
      else
        some 3
    else
      some 2
  else
    some 1
theorem SM_bytesOf {g : zg} {d N : Nat} {M : zM} {r : Int32} {l0 : Int32}  (h : FM_bytesOf N l0 = some r) (hd : 1 ≤ d) : zEi g d mM_bytesOf [.int l0] (M) (fun v Mq => v = r ∧ Mq = M) := by
  unfold FM_bytesOf at h
  refine zEi_q (r := r) (lv := [(0, .int l0)]) ⟨by decide +kernel, by decide, by decide +kernel⟩ (by simp [z_cr, z_ci]) (Nat.le_of_ble_eq_true rfl) rfl ?_
  refine zi_iload_n 0 (dq dM_bytesOf 0 rfl) rfl ?_
  refine zi_bipush (v := (-128)) (dq dM_bytesOf 1 rfl) (by decide) ?_
  refine zi_bipush (v := 127) (dq dM_bytesOf 2 rfl) (by decide) ?_
  obtain ⟨v1, hv1, h⟩ := q_c h
  refine zi_cSi3 (SM_in  hv1 (d := d - 1) (by omega)) wM_in aM_166 tM_in (by omega) (Nat.le_of_ble_eq_true rfl) (dq dM_bytesOf 3 rfl) (fun _ _ hh => ?_)
  obtain ⟨rfl, rfl⟩ := hh
  refine zi_if_eq (tgt := 15) (dq dM_bytesOf 4 rfl) (by decide) (fun c => ?_) (fun c => ?_)
  · have h := q_t c h
    refine zi_iload_n 0 (dq dM_bytesOf 7 rfl) rfl ?_
    refine zi_sipush (v := (-32768)) (dq dM_bytesOf 8 rfl) (by decide) ?_
    refine zi_sipush (v := 32767) (dq dM_bytesOf 9 rfl) (by decide) ?_
    obtain ⟨v2, hv2, h⟩ := q_c h
    refine zi_cSi3 (SM_in  hv2 (d := d - 1) (by omega)) wM_in aM_166 tM_in (by omega) (Nat.le_of_ble_eq_true rfl) (dq dM_bytesOf 10 rfl) (fun _ _ hh => ?_)
    obtain ⟨rfl, rfl⟩ := hh
    refine zi_if_eq (tgt := 32) (dq dM_bytesOf 11 rfl) (by decide) (fun c => ?_) (fun c => ?_)
    · have h := q_t c h
      refine zi_iload_n 0 (dq dM_bytesOf 14 rfl) rfl ?_
      refine zi_ldcw (v := (-8388608)) cM_303 (dq dM_bytesOf 15 rfl) ?_
      refine zi_ldcw (v := 8388607) cM_304 (dq dM_bytesOf 16 rfl) ?_
      obtain ⟨v3, hv3, h⟩ := q_c h
      refine zi_cSi3 (SM_in  hv3 (d := d - 1) (by omega)) wM_in aM_166 tM_in (by omega) (Nat.le_of_ble_eq_true rfl) (dq dM_bytesOf 17 rfl) (fun _ _ hh => ?_)
      obtain ⟨rfl, rfl⟩ := hh
      refine zi_if_eq (tgt := 49) (dq dM_bytesOf 18 rfl) (by decide) (fun c => ?_) (fun c => ?_)
      · have h := q_t c h
        refine zi_iconst (v := 4) (dq dM_bytesOf 21 rfl) (by decide) ?_
        exact zi_ireturn rfl rfl (dq dM_bytesOf 22 rfl) (q_riT h)
      · have h := q_f c h
        refine zi_iconst (v := 3) (dq dM_bytesOf 19 rfl) (by decide) ?_
        refine zi_goto (tgt := 50) (dq dM_bytesOf 20 rfl) (by decide) ?_
        exact zi_ireturn rfl rfl (dq dM_bytesOf 22 rfl) (q_riT h)
    · have h := q_f c h
      refine zi_iconst (v := 2) (dq dM_bytesOf 12 rfl) (by decide) ?_
      refine zi_goto (tgt := 50) (dq dM_bytesOf 13 rfl) (by decide) ?_
      exact zi_ireturn rfl rfl (dq dM_bytesOf 22 rfl) (q_riT h)
  · have h := q_f c h
    refine zi_iconst (v := 1) (dq dM_bytesOf 5 rfl) (by decide) ?_
    refine zi_goto (tgt := 50) (dq dM_bytesOf 6 rfl) (by decide) ?_
    exact zi_ireturn rfl rfl (dq dM_bytesOf 22 rfl) (q_riT h)
def FM_inner_339 (N : Nat) (l5 : Int32) (J : zJ) : Option (Unit × zJ) :=
  qk (qi (J 0 23) 160) <|
  if (J 11 (J 0 23).toNatClampNeg) = 0 then
    let J2 := zu J 0 49 1
    some ((), J2)
  else
    qk (qi l5 100) <|
    qk (qi (J 0 23) 160) <|
    qk (qi (J 0 23) 160) <|
    qc (FM_in N (J 22 l5.toNatClampNeg) (J 5 (J 0 23).toNatClampNeg) (J 6 (J 0 23).toNatClampNeg)) fun v6 =>
    if (bI v6) = 0 then
      let J7 := zu J 0 49 0
      some ((), J7)
    else
      let J8 := zu J 0 49 1
      some ((), J8)
theorem SM_inner_339 {g : zg} {d N : Nat} {M0 : zM} {A : Nat} {r : Unit} {J1 : zJ} {J : zJ}  {l5 : Int32} (hL : zLy M0 A mShL mRf) (h : FM_inner_339 N l5 J = some (r, J1)) (hd : 4 ≤ d)  : zG g d mM_inner (zPq (rU r) (zmm M0 A 40 J1)) (zmm M0 A 40 J) 339 [(0, va_rf (some (A + 0))), (5, .int l5)] [va_rf (some (A + 0))] := by
  unfold FM_inner_339 at h
  refine zi_aload_n 0 (dq dM_inner 173 rfl) rfl ?_
  refine ri_getr (zLs hL 0 rfl) (zLr hL 10 rfl) fM_41 (dq dM_inner 174 rfl) ?_
  refine zi_aload_n 0 (dq dM_inner 175 rfl) rfl ?_
  refine ri_geti (zLs hL 0 rfl) (by decide) fM_222 (dq dM_inner 176 rfl) ?_
  obtain ⟨c1, h⟩ := q_k h
  refine ri_zald (zLs hL 11 rfl) (by decide) rfl c1 (dq dM_inner 177 rfl) ?_
  refine zi_if_eq (tgt := 382) (dq dM_inner 178 rfl) (by decide) (fun c => ?_) (fun c => ?_)
  · have h := q_t c h
    refine zi_iconst (v := 1) (dq dM_inner 195 rfl) (by decide) ?_
    refine zi_goto (tgt := 387) (dq dM_inner 196 rfl) (by decide) ?_
    refine ri_puti (zLs hL 0 rfl) (by decide) fM_236 (fun h => by cases h) (by decide) (by decide) (dq dM_inner 198 rfl) ?_
    exact zi_return rfl (dq dM_inner 199 rfl) (q_ru h)
  · have h := q_f c h
    refine zi_aload_n 0 (dq dM_inner 179 rfl) rfl ?_
    refine ri_getr (zLs hL 0 rfl) (zLr hL 21 rfl) fM_75 (dq dM_inner 180 rfl) ?_
    refine zi_iload 1 (dq dM_inner 181 rfl) rfl ?_
    obtain ⟨c3, h⟩ := q_k h
    refine ri_iald (zLs hL 22 rfl) (by decide) rfl c3 (dq dM_inner 182 rfl) ?_
    refine zi_aload_n 0 (dq dM_inner 183 rfl) rfl ?_
    refine ri_getr (zLs hL 0 rfl) (zLr hL 4 rfl) fM_23 (dq dM_inner 184 rfl) ?_
    refine zi_aload_n 0 (dq dM_inner 185 rfl) rfl ?_
    refine ri_geti (zLs hL 0 rfl) (by decide) fM_222 (dq dM_inner 186 rfl) ?_
    obtain ⟨c4, h⟩ := q_k h
    refine ri_iald (zLs hL 5 rfl) (by decide) rfl c4 (dq dM_inner 187 rfl) ?_
    refine zi_aload_n 0 (dq dM_inner 188 rfl) rfl ?_
    refine ri_getr (zLs hL 0 rfl) (zLr hL 5 rfl) fM_26 (dq dM_inner 189 rfl) ?_
    refine zi_aload_n 0 (dq dM_inner 190 rfl) rfl ?_
    refine ri_geti (zLs hL 0 rfl) (by decide) fM_222 (dq dM_inner 191 rfl) ?_
    obtain ⟨c5, h⟩ := q_k h
    refine ri_iald (zLs hL 6 rfl) (by decide) rfl c5 (dq dM_inner 192 rfl) ?_
    obtain ⟨v6, hv6, h⟩ := q_c h
    refine zi_cSi3 (SM_in  hv6 (d := d - 1) (by omega)) wM_in aM_166 tM_in (by omega) (Nat.le_of_ble_eq_true rfl) (dq dM_inner 193 rfl) (fun _ _ hh => ?_)
    obtain ⟨rfl, rfl⟩ := hh
    refine zi_if_eq (tgt := 386) (dq dM_inner 194 rfl) (by decide) (fun c => ?_) (fun c => ?_)
    · have h := q_t c h
      refine zi_iconst (v := 0) (dq dM_inner 197 rfl) (by decide) ?_
      refine ri_puti (zLs hL 0 rfl) (by decide) fM_236 (fun h => by cases h) (by decide) (by decide) (dq dM_inner 198 rfl) ?_
      exact zi_return rfl (dq dM_inner 199 rfl) (q_ru h)
    · have h := q_f c h
      refine zi_iconst (v := 1) (dq dM_inner 195 rfl) (by decide) ?_
      refine zi_goto (tgt := 387) (dq dM_inner 196 rfl) (by decide) ?_
      refine ri_puti (zLs hL 0 rfl) (by decide) fM_236 (fun h => by cases h) (by decide) (by decide) (dq dM_inner 198 rfl) ?_
      exact zi_return rfl (dq dM_inner 199 rfl) (q_ru h)
def FM_inner_321 (N : Nat) (l4 : Int32) (l5 : Int32) (l7 : Int32) (l8 : Int32) (t1 : Int32) (t2 : Int32) (J : zJ) : Option (Unit × zJ) :=
  qk (qi t1 100) <|
  let J2 := zu J 22 t1.toNatClampNeg t2
  if l4 = 2 then
    qc (FM_bytesOf N l8) fun v3 =>
    if l7 = v3 then
      FM_inner_339 N l5 J2
    else
      let J4 := zu J2 0 49 0
      some ((), J4)
  else
    FM_inner_339 N l5 J2
theorem SM_inner_321 {g : zg} {d N : Nat} {M0 : zM} {A : Nat} {r : Unit} {J1 : zJ} {J : zJ}  {l4 : Int32} {l5 : Int32} {l7 : Int32} {l8 : Int32} {t1 : Int32} {t2 : Int32} (hL : zLy M0 A mShL mRf) (h : FM_inner_321 N l4 l5 l7 l8 t1 t2 J = some (r, J1)) (hd : 4 ≤ d)  : zG g d mM_inner (zPq (rU r) (zmm M0 A 40 J1)) (zmm M0 A 40 J) 321 [(0, va_rf (some (A + 0))), (4, .int l4), (5, .int l5), (7, .int l7), (8, .int l8)] [.int t2, .int t1, va_rf (some (A + 22))] := by
  unfold FM_inner_321 at h
  obtain ⟨c1, h⟩ := q_k h
  refine ri_iast (zLs hL 22 rfl) (by decide) rfl c1 (dq dM_inner 164 rfl) ?_
  refine zi_aload_n 0 (dq dM_inner 165 rfl) rfl ?_
  refine zi_iload 1 (dq dM_inner 166 rfl) rfl ?_
  refine zi_iconst (v := 2) (dq dM_inner 167 rfl) (by decide) ?_
  refine zi_icmp_ne (tgt := 339) (dq dM_inner 168 rfl) (by decide) (fun c => ?_) (fun c => ?_)
  · have h := q_f c h
    exact zG_lv (zs_c 0 rfl (zs_c 2 rfl zs_n)) (SM_inner_339 hL h hd )
  · have h := q_t c h
    refine zi_iload 3 (dq dM_inner 169 rfl) rfl ?_
    refine zi_iload 4 (dq dM_inner 170 rfl) rfl ?_
    obtain ⟨v3, hv3, h⟩ := q_c h
    refine zi_cSi1 (SM_bytesOf  hv3 (d := d - 1) (by omega)) wM_bytesOf aM_300 tM_bytesOf (by omega) (Nat.le_of_ble_eq_true rfl) (dq dM_inner 171 rfl) (fun _ _ hh => ?_)
    obtain ⟨rfl, rfl⟩ := hh
    refine zi_icmp_ne (tgt := 386) (dq dM_inner 172 rfl) (by decide) (fun c => ?_) (fun c => ?_)
    · have h := q_f c h
      refine zi_iconst (v := 0) (dq dM_inner 197 rfl) (by decide) ?_
      refine ri_puti (zLs hL 0 rfl) (by decide) fM_236 (fun h => by cases h) (by decide) (by decide) (dq dM_inner 198 rfl) ?_
      exact zi_return rfl (dq dM_inner 199 rfl) (q_ru h)
    · have h := q_t c h
      exact zG_lv (zs_c 0 rfl (zs_c 2 rfl zs_n)) (SM_inner_339 hL h hd )
def FM_inner_263 (N : Nat) (K205 : (Int32 × Int32 × zJ) → Option (Unit × zJ)) (l4 : Int32) (l5 : Int32) (l7 : Int32) (l8 : Int32) (l9 : Int32) (t1 : Int32) (t2 : Int32) (J : zJ) : Option (Unit × zJ) :=
  let J1 := zu J 0 35 (t1 + t2)
  let J2 := zu J1 0 47 ((J1 0 47) + 1)
  let y3 := l9 + (1)
  K205 (l8, y3, J2)
theorem SM_inner_263 {g : zg} {d N : Nat} {M0 : zM} {A : Nat} {r : Unit} {J1 : zJ} {J : zJ} {K205 : (Int32 × Int32 × zJ) → Option (Unit × zJ)} {l4 : Int32} {l5 : Int32} {l7 : Int32} {l8 : Int32} {l9 : Int32} {t1 : Int32} {t2 : Int32} (hL : zLy M0 A mShL mRf) (h : FM_inner_263 N K205 l4 l5 l7 l8 l9 t1 t2 J = some (r, J1)) (hd : 4 ≤ d) (hK205 : ∀ s, K205 s = some (r, J1) → zG g d mM_inner (zPq (rU r) (zmm M0 A 40 J1)) (zmm M0 A 40 s.2.2) 205 [(0, va_rf (some (A + 0))), (4, .int l4), (5, .int l5), (7, .int l7), (8, .int s.1), (9, .int s.2.1)] []) : zG g d mM_inner (zPq (rU r) (zmm M0 A 40 J1)) (zmm M0 A 40 J) 263 [(0, va_rf (some (A + 0))), (4, .int l4), (5, .int l5), (7, .int l7), (8, .int l8), (9, .int l9)] [.int t2, .int t1, va_rf (some (A + 0))] := by
  unfold FM_inner_263 at h
  refine zi_iadd (dq dM_inner 136 rfl) ?_
  refine ri_puti (zLs hL 0 rfl) (by decide) fM_239 (fun h => by cases h) rfl rfl (dq dM_inner 137 rfl) ?_
  refine zi_aload_n 0 (dq dM_inner 138 rfl) rfl ?_
  refine zi_dup (dq dM_inner 139 rfl) (by first | rfl | exact z_cr _) ?_
  refine ri_geti (zLs hL 0 rfl) (by decide) fM_245 (dq dM_inner 140 rfl) ?_
  refine zi_iconst (v := 1) (dq dM_inner 141 rfl) (by decide) ?_
  refine zi_iadd (dq dM_inner 142 rfl) ?_
  refine ri_puti (zLs hL 0 rfl) (by decide) fM_245 (fun h => by cases h) rfl rfl (dq dM_inner 143 rfl) ?_
  refine zi_iincC (v := _ + (1)) (lv' := [(9, _), (0, _), (4, _), (5, _), (7, _), (8, _)]) 5 (dq dM_inner 144 rfl) rfl rfl (by decide) (by simp [z_cr, z_ci]) rfl ?_
  refine zi_goto (tgt := 205) (dq dM_inner 145 rfl) (by decide) ?_
  exact zG_lv (zs_c 1 rfl (zs_c 2 rfl (zs_c 3 rfl (zs_c 4 rfl (zs_c 5 rfl (zs_c 0 rfl zs_n)))))) (hK205 _ h)
def FM_inner_205 (N : Nat) (l4 : Int32) (l5 : Int32) (l7 : Int32) (K205 : (Int32 × Int32 × zJ) → Option (Unit × zJ)) (s : Int32 × Int32 × zJ) : Option (Unit × zJ) :=
  let l8 := s.1
  let l9 := s.2.1
  let J := s.2.2
  if l7 ≤ l9 then
    if l4 = 2 then
      FM_inner_321 N l4 l5 l7 l8 l5 l8 J
    else
      if l4 = 4 then
        FM_inner_321 N l4 l5 l7 l8 l5 l7 J
      else
        if l8 ≤ 0 then
          FM_inner_321 N l4 l5 l7 l8 l5 0 J
        else
          FM_inner_321 N l4 l5 l7 l8 l5 1 J
  else
    qk (qi (J 0 47) 120) <|
    let y2 := (l8 <<< (8 &&& 31)) ||| (J 19 (J 0 47).toNatClampNeg)
    qk (qi (J 0 47) 120) <|
    qk (qi (J 0 35) 240) <|
    let J5 := zu J 28 (J 0 35).toNatClampNeg (J 19 (J 0 47).toNatClampNeg)
    if l4 = 4 then
      FM_inner_263 N K205 l4 l5 l7 y2 l9 (J5 0 35) 1 J5
    else
      FM_inner_263 N K205 l4 l5 l7 y2 l9 (J5 0 35) 0 J5
theorem SM_inner_205 {g : zg} {d N : Nat} {M0 : zM} {A : Nat} {r : Unit} {J1 : zJ}  {l4 : Int32} {l5 : Int32} {l7 : Int32} (hL : zLy M0 A mShL mRf) (hd : 4 ≤ d)  : ∀ n s, qfix (FM_inner_205 N l4 l5 l7) n s = some (r, J1) → zG g d mM_inner (zPq (rU r) (zmm M0 A 40 J1)) (zmm M0 A 40 s.2.2) 205 [(0, va_rf (some (A + 0))), (4, .int l4), (5, .int l5), (7, .int l7), (8, .int s.1), (9, .int s.2.1)] [] := by
  refine qfix_sound (fun K205 hK205 s h => ?_)
  unfold FM_inner_205 at h
  refine zi_iload 5 (dq dM_inner 104 rfl) rfl ?_
  refine zi_iload 3 (dq dM_inner 105 rfl) rfl ?_
  refine zi_icmp_ge (tgt := 283) (dq dM_inner 106 rfl) (by decide) (fun c => ?_) (fun c => ?_)
  · have h := q_t c h
    refine zi_aload_n 0 (dq dM_inner 146 rfl) rfl ?_
    refine ri_getr (zLs hL 0 rfl) (zLr hL 21 rfl) fM_75 (dq dM_inner 147 rfl) ?_
    refine zi_iload 2 (dq dM_inner 148 rfl) rfl ?_
    refine zi_iload 1 (dq dM_inner 149 rfl) rfl ?_
    refine zi_iconst (v := 2) (dq dM_inner 150 rfl) (by decide) ?_
    refine zi_icmp_ne (tgt := 300) (dq dM_inner 151 rfl) (by decide) (fun c => ?_) (fun c => ?_)
    · have h := q_f c h
      refine zi_iload 1 (dq dM_inner 154 rfl) rfl ?_
      refine zi_iconst (v := 4) (dq dM_inner 155 rfl) (by decide) ?_
      refine zi_icmp_ne (tgt := 311) (dq dM_inner 156 rfl) (by decide) (fun c => ?_) (fun c => ?_)
      · have h := q_f c h
        refine zi_iload 4 (dq dM_inner 159 rfl) rfl ?_
        refine zi_if_le (tgt := 320) (dq dM_inner 160 rfl) (by decide) (fun c => ?_) (fun c => ?_)
        · have h := q_t c h
          refine zi_iconst (v := 0) (dq dM_inner 163 rfl) (by decide) ?_
          exact zG_lv (zs_c 0 rfl (zs_c 1 rfl (zs_c 2 rfl (zs_c 3 rfl (zs_c 4 rfl zs_n))))) (SM_inner_321 hL h hd )
        · have h := q_f c h
          refine zi_iconst (v := 1) (dq dM_inner 161 rfl) (by decide) ?_
          refine zi_goto (tgt := 321) (dq dM_inner 162 rfl) (by decide) ?_
          exact zG_lv (zs_c 0 rfl (zs_c 1 rfl (zs_c 2 rfl (zs_c 3 rfl (zs_c 4 rfl zs_n))))) (SM_inner_321 hL h hd )
      · have h := q_t c h
        refine zi_iload 3 (dq dM_inner 157 rfl) rfl ?_
        refine zi_goto (tgt := 321) (dq dM_inner 158 rfl) (by decide) ?_
        exact zG_lv (zs_c 0 rfl (zs_c 1 rfl (zs_c 2 rfl (zs_c 3 rfl (zs_c 4 rfl zs_n))))) (SM_inner_321 hL h hd )
    · have h := q_t c h
      refine zi_iload 4 (dq dM_inner 152 rfl) rfl ?_
      refine zi_goto (tgt := 321) (dq dM_inner 153 rfl) (by decide) ?_
      exact zG_lv (zs_c 0 rfl (zs_c 1 rfl (zs_c 2 rfl (zs_c 3 rfl (zs_c 4 rfl zs_n))))) (SM_inner_321 hL h hd )
  · have h := q_f c h
    refine zi_iload 4 (dq dM_inner 107 rfl) rfl ?_
    refine zi_bipush (v := 8) (dq dM_inner 108 rfl) (by decide) ?_
    refine zi_ishl (dq dM_inner 109 rfl) ?_
    refine zi_aload_n 0 (dq dM_inner 110 rfl) rfl ?_
    refine ri_getr (zLs hL 0 rfl) (zLr hL 18 rfl) fM_66 (dq dM_inner 111 rfl) ?_
    refine zi_aload_n 0 (dq dM_inner 112 rfl) rfl ?_
    refine ri_geti (zLs hL 0 rfl) (by decide) fM_245 (dq dM_inner 113 rfl) ?_
    obtain ⟨c1, h⟩ := q_k h
    refine ri_iald (zLs hL 19 rfl) (by decide) rfl c1 (dq dM_inner 114 rfl) ?_
    refine zi_ior (dq dM_inner 115 rfl) ?_
    refine zi_istC (lv' := [(8, _), (0, _), (4, _), (5, _), (7, _), (9, _)]) (dq dM_inner 116 rfl) (by decide) (by simp [z_cr, z_ci]) rfl ?_
    refine zi_aload_n 1 (dq dM_inner 117 rfl) rfl ?_
    refine ri_getr (zLs hL 0 rfl) (zLr hL 27 rfl) fM_93 (dq dM_inner 118 rfl) ?_
    refine zi_aload_n 1 (dq dM_inner 119 rfl) rfl ?_
    refine ri_geti (zLs hL 0 rfl) (by decide) fM_239 (dq dM_inner 120 rfl) ?_
    refine zi_aload_n 1 (dq dM_inner 121 rfl) rfl ?_
    refine ri_getr (zLs hL 0 rfl) (zLr hL 18 rfl) fM_66 (dq dM_inner 122 rfl) ?_
    refine zi_aload_n 1 (dq dM_inner 123 rfl) rfl ?_
    refine ri_geti (zLs hL 0 rfl) (by decide) fM_245 (dq dM_inner 124 rfl) ?_
    obtain ⟨c3, h⟩ := q_k h
    refine ri_iald (zLs hL 19 rfl) (by decide) rfl c3 (dq dM_inner 125 rfl) ?_
    obtain ⟨c4, h⟩ := q_k h
    refine ri_iast (zLs hL 28 rfl) (by decide) rfl c4 (dq dM_inner 126 rfl) ?_
    refine zi_aload_n 1 (dq dM_inner 127 rfl) rfl ?_
    refine zi_dup (dq dM_inner 128 rfl) (by first | rfl | exact z_cr _) ?_
    refine ri_geti (zLs hL 0 rfl) (by decide) fM_239 (dq dM_inner 129 rfl) ?_
    refine zi_iload 2 (dq dM_inner 130 rfl) rfl ?_
    refine zi_iconst (v := 4) (dq dM_inner 131 rfl) (by decide) ?_
    refine zi_icmp_ne (tgt := 262) (dq dM_inner 132 rfl) (by decide) (fun c => ?_) (fun c => ?_)
    · have h := q_f c h
      refine zi_iconst (v := 0) (dq dM_inner 135 rfl) (by decide) ?_
      exact zG_lv (zs_c 1 rfl (zs_c 2 rfl (zs_c 3 rfl (zs_c 4 rfl (zs_c 0 rfl (zs_c 5 rfl zs_n)))))) (SM_inner_263 hL h hd hK205)
    · have h := q_t c h
      refine zi_iconst (v := 1) (dq dM_inner 133 rfl) (by decide) ?_
      refine zi_goto (tgt := 263) (dq dM_inner 134 rfl) (by decide) ?_
      exact zG_lv (zs_c 1 rfl (zs_c 2 rfl (zs_c 3 rfl (zs_c 4 rfl (zs_c 0 rfl (zs_c 5 rfl zs_n)))))) (SM_inner_263 hL h hd hK205)
def FM_inner_156 (N : Nat) (l4 : Int32) (l5 : Int32) (l6 : Int32) (l7 : Int32) (J : zJ) : Option (Unit × zJ) :=
  if (J 0 49) = 0 then
    some ((), J)
  else
    if l6 = 0 then
      if l4 = 5 then
        some ((), J)
      else
        if l4 = 2 then
          qk (qi (J 0 47) 120) <|
          if (J 19 (J 0 47).toNatClampNeg) ≤ 127 then
            qfix (FM_inner_205 N l4 l5 l7) N (0, 0, J)
          else
            qfix (FM_inner_205 N l4 l5 l7) N (((-1)), 0, J)
        else
          qfix (FM_inner_205 N l4 l5 l7) N (0, 0, J)
    else
      some ((), J)
theorem SM_inner_156 {g : zg} {d N : Nat} {M0 : zM} {A : Nat} {r : Unit} {J1 : zJ} {J : zJ}  {l4 : Int32} {l5 : Int32} {l6 : Int32} {l7 : Int32} (hL : zLy M0 A mShL mRf) (h : FM_inner_156 N l4 l5 l6 l7 J = some (r, J1)) (hd : 4 ≤ d)  : zG g d mM_inner (zPq (rU r) (zmm M0 A 40 J1)) (zmm M0 A 40 J) 156 [(0, va_rf (some (A + 0))), (4, .int l4), (5, .int l5), (6, .int l6), (7, .int l7)] [] := by
  unfold FM_inner_156 at h
  refine zi_aload_n 0 (dq dM_inner 79 rfl) rfl ?_
  refine ri_geti (zLs hL 0 rfl) (by decide) fM_236 (dq dM_inner 80 rfl) ?_
  refine zi_if_eq (tgt := 174) (dq dM_inner 81 rfl) (by decide) (fun c => ?_) (fun c => ?_)
  · have h := q_t c h
    exact zi_return rfl (dq dM_inner 87 rfl) (q_ru h)
  · have h := q_f c h
    refine zi_iload 3 (dq dM_inner 82 rfl) rfl ?_
    refine zi_if_ne (tgt := 174) (dq dM_inner 83 rfl) (by decide) (fun c => ?_) (fun c => ?_)
    · have h := q_f c h
      exact zi_return rfl (dq dM_inner 87 rfl) (q_ru h)
    · have h := q_t c h
      refine zi_iload 1 (dq dM_inner 84 rfl) rfl ?_
      refine zi_iconst (v := 5) (dq dM_inner 85 rfl) (by decide) ?_
      refine zi_icmp_ne (tgt := 175) (dq dM_inner 86 rfl) (by decide) (fun c => ?_) (fun c => ?_)
      · have h := q_f c h
        refine zi_iload 1 (dq dM_inner 88 rfl) rfl ?_
        refine zi_iconst (v := 2) (dq dM_inner 89 rfl) (by decide) ?_
        refine zi_icmp_ne (tgt := 199) (dq dM_inner 90 rfl) (by decide) (fun c => ?_) (fun c => ?_)
        · have h := q_f c h
          refine zi_iconst (v := 0) (dq dM_inner 100 rfl) (by decide) ?_
          refine zi_istC (lv' := [(8, _), (0, _), (4, _), (5, _), (6, _), (7, _)]) (dq dM_inner 101 rfl) (by decide) (by simp [z_cr, z_ci]) rfl ?_
          refine zi_iconst (v := 0) (dq dM_inner 102 rfl) (by decide) ?_
          refine zi_istC (lv' := [(9, _), (8, _), (0, _), (4, _), (5, _), (6, _), (7, _)]) (dq dM_inner 103 rfl) (by decide) (by simp [z_cr, z_ci]) rfl ?_
          exact zG_lv (zs_c 2 rfl (zs_c 3 rfl (zs_c 4 rfl (zs_c 6 rfl (zs_c 1 rfl (zs_c 0 rfl zs_n)))))) (SM_inner_205 hL hd  _ _ h)
        · have h := q_t c h
          refine zi_aload_n 0 (dq dM_inner 91 rfl) rfl ?_
          refine ri_getr (zLs hL 0 rfl) (zLr hL 18 rfl) fM_66 (dq dM_inner 92 rfl) ?_
          refine zi_aload_n 0 (dq dM_inner 93 rfl) rfl ?_
          refine ri_geti (zLs hL 0 rfl) (by decide) fM_245 (dq dM_inner 94 rfl) ?_
          obtain ⟨c1, h⟩ := q_k h
          refine ri_iald (zLs hL 19 rfl) (by decide) rfl c1 (dq dM_inner 95 rfl) ?_
          refine zi_bipush (v := 127) (dq dM_inner 96 rfl) (by decide) ?_
          refine zi_icmp_le (tgt := 199) (dq dM_inner 97 rfl) (by decide) (fun c => ?_) (fun c => ?_)
          · have h := q_t c h
            refine zi_iconst (v := 0) (dq dM_inner 100 rfl) (by decide) ?_
            refine zi_istC (lv' := [(8, _), (0, _), (4, _), (5, _), (6, _), (7, _)]) (dq dM_inner 101 rfl) (by decide) (by simp [z_cr, z_ci]) rfl ?_
            refine zi_iconst (v := 0) (dq dM_inner 102 rfl) (by decide) ?_
            refine zi_istC (lv' := [(9, _), (8, _), (0, _), (4, _), (5, _), (6, _), (7, _)]) (dq dM_inner 103 rfl) (by decide) (by simp [z_cr, z_ci]) rfl ?_
            exact zG_lv (zs_c 2 rfl (zs_c 3 rfl (zs_c 4 rfl (zs_c 6 rfl (zs_c 1 rfl (zs_c 0 rfl zs_n)))))) (SM_inner_205 hL hd  _ _ h)
          · have h := q_f c h
            refine zi_iconst (v := (-1)) (dq dM_inner 98 rfl) (by decide) ?_
            refine zi_goto (tgt := 200) (dq dM_inner 99 rfl) (by decide) ?_
            refine zi_istC (lv' := [(8, _), (0, _), (4, _), (5, _), (6, _), (7, _)]) (dq dM_inner 101 rfl) (by decide) (by simp [z_cr, z_ci]) rfl ?_
            refine zi_iconst (v := 0) (dq dM_inner 102 rfl) (by decide) ?_
            refine zi_istC (lv' := [(9, _), (8, _), (0, _), (4, _), (5, _), (6, _), (7, _)]) (dq dM_inner 103 rfl) (by decide) (by simp [z_cr, z_ci]) rfl ?_
            exact zG_lv (zs_c 2 rfl (zs_c 3 rfl (zs_c 4 rfl (zs_c 6 rfl (zs_c 1 rfl (zs_c 0 rfl zs_n)))))) (SM_inner_205 hL hd  _ _ h)
      · have h := q_t c h
        exact zi_return rfl (dq dM_inner 87 rfl) (q_ru h)
def FM_inner_135 (N : Nat) (l4 : Int32) (l5 : Int32) (l6 : Int32) (l7 : Int32) (J : zJ) : Option (Unit × zJ) :=
  if l4 = 2 then
    qc (FM_in N l7 1 4) fun v1 =>
    if (bI v1) = 0 then
      let J2 := zu J 0 49 0
      FM_inner_156 N l4 l5 l6 l7 J2
    else
      FM_inner_156 N l4 l5 l6 l7 J
  else
    FM_inner_156 N l4 l5 l6 l7 J
theorem SM_inner_135 {g : zg} {d N : Nat} {M0 : zM} {A : Nat} {r : Unit} {J1 : zJ} {J : zJ}  {l4 : Int32} {l5 : Int32} {l6 : Int32} {l7 : Int32} (hL : zLy M0 A mShL mRf) (h : FM_inner_135 N l4 l5 l6 l7 J = some (r, J1)) (hd : 4 ≤ d)  : zG g d mM_inner (zPq (rU r) (zmm M0 A 40 J1)) (zmm M0 A 40 J) 135 [(0, va_rf (some (A + 0))), (4, .int l4), (5, .int l5), (6, .int l6), (7, .int l7)] [] := by
  unfold FM_inner_135 at h
  refine zi_iload 1 (dq dM_inner 68 rfl) rfl ?_
  refine zi_iconst (v := 2) (dq dM_inner 69 rfl) (by decide) ?_
  refine zi_icmp_ne (tgt := 156) (dq dM_inner 70 rfl) (by decide) (fun c => ?_) (fun c => ?_)
  · have h := q_f c h
    exact zG_lv (zs_c 0 rfl (zs_c 1 rfl (zs_c 2 rfl (zs_c 3 rfl (zs_c 4 rfl zs_n))))) (SM_inner_156 hL h hd )
  · have h := q_t c h
    refine zi_iload 4 (dq dM_inner 71 rfl) rfl ?_
    refine zi_iconst (v := 1) (dq dM_inner 72 rfl) (by decide) ?_
    refine zi_iconst (v := 4) (dq dM_inner 73 rfl) (by decide) ?_
    obtain ⟨v1, hv1, h⟩ := q_c h
    refine zi_cSi3 (SM_in  hv1 (d := d - 1) (by omega)) wM_in aM_166 tM_in (by omega) (Nat.le_of_ble_eq_true rfl) (dq dM_inner 74 rfl) (fun _ _ hh => ?_)
    obtain ⟨rfl, rfl⟩ := hh
    refine zi_if_ne (tgt := 156) (dq dM_inner 75 rfl) (by decide) (fun c => ?_) (fun c => ?_)
    · have h := q_f c h
      exact zG_lv (zs_c 0 rfl (zs_c 1 rfl (zs_c 2 rfl (zs_c 3 rfl (zs_c 4 rfl zs_n))))) (SM_inner_156 hL h hd )
    · have h := q_t c h
      refine zi_aload_n 0 (dq dM_inner 76 rfl) rfl ?_
      refine zi_iconst (v := 0) (dq dM_inner 77 rfl) (by decide) ?_
      refine ri_puti (zLs hL 0 rfl) (by decide) fM_236 (fun h => by cases h) (by decide) (by decide) (dq dM_inner 78 rfl) ?_
      exact zG_lv (zs_c 0 rfl (zs_c 1 rfl (zs_c 2 rfl (zs_c 3 rfl (zs_c 4 rfl zs_n))))) (SM_inner_156 hL h hd )
def FM_inner_123 (N : Nat) (l4 : Int32) (l5 : Int32) (l6 : Int32) (l7 : Int32) (J : zJ) : Option (Unit × zJ) :=
  if l4 = 1 then
    if l7 = 1 then
      FM_inner_135 N l4 l5 l6 l7 J
    else
      let J1 := zu J 0 49 0
      FM_inner_156 N l4 l5 l6 l7 J1
  else
    FM_inner_135 N l4 l5 l6 l7 J
theorem SM_inner_123 {g : zg} {d N : Nat} {M0 : zM} {A : Nat} {r : Unit} {J1 : zJ} {J : zJ}  {l4 : Int32} {l5 : Int32} {l6 : Int32} {l7 : Int32} (hL : zLy M0 A mShL mRf) (h : FM_inner_123 N l4 l5 l6 l7 J = some (r, J1)) (hd : 4 ≤ d)  : zG g d mM_inner (zPq (rU r) (zmm M0 A 40 J1)) (zmm M0 A 40 J) 123 [(0, va_rf (some (A + 0))), (4, .int l4), (5, .int l5), (6, .int l6), (7, .int l7)] [] := by
  unfold FM_inner_123 at h
  refine zi_iload 1 (dq dM_inner 62 rfl) rfl ?_
  refine zi_iconst (v := 1) (dq dM_inner 63 rfl) (by decide) ?_
  refine zi_icmp_ne (tgt := 135) (dq dM_inner 64 rfl) (by decide) (fun c => ?_) (fun c => ?_)
  · have h := q_f c h
    exact zG_lv (zs_c 0 rfl (zs_c 1 rfl (zs_c 2 rfl (zs_c 3 rfl (zs_c 4 rfl zs_n))))) (SM_inner_135 hL h hd )
  · have h := q_t c h
    refine zi_iload 4 (dq dM_inner 65 rfl) rfl ?_
    refine zi_iconst (v := 1) (dq dM_inner 66 rfl) (by decide) ?_
    refine zi_icmp_ne (tgt := 151) (dq dM_inner 67 rfl) (by decide) (fun c => ?_) (fun c => ?_)
    · have h := q_f c h
      refine zi_aload_n 0 (dq dM_inner 76 rfl) rfl ?_
      refine zi_iconst (v := 0) (dq dM_inner 77 rfl) (by decide) ?_
      refine ri_puti (zLs hL 0 rfl) (by decide) fM_236 (fun h => by cases h) (by decide) (by decide) (dq dM_inner 78 rfl) ?_
      exact zG_lv (zs_c 0 rfl (zs_c 1 rfl (zs_c 2 rfl (zs_c 3 rfl (zs_c 4 rfl zs_n))))) (SM_inner_156 hL h hd )
    · have h := q_t c h
      exact zG_lv (zs_c 0 rfl (zs_c 1 rfl (zs_c 2 rfl (zs_c 3 rfl (zs_c 4 rfl zs_n))))) (SM_inner_135 hL h hd )
def FM_inner_110 (N : Nat) (l4 : Int32) (l5 : Int32) (l6 : Int32) (t0 : Int32) (J : zJ) : Option (Unit × zJ) :=
  if l4 = 5 then
    if t0 = 0 then
      FM_inner_123 N l4 l5 l6 t0 J
    else
      let J1 := zu J 0 49 0
      FM_inner_156 N l4 l5 l6 t0 J1
  else
    FM_inner_123 N l4 l5 l6 t0 J
theorem SM_inner_110 {g : zg} {d N : Nat} {M0 : zM} {A : Nat} {r : Unit} {J1 : zJ} {J : zJ}  {l4 : Int32} {l5 : Int32} {l6 : Int32} {t0 : Int32} (hL : zLy M0 A mShL mRf) (h : FM_inner_110 N l4 l5 l6 t0 J = some (r, J1)) (hd : 4 ≤ d)  : zG g d mM_inner (zPq (rU r) (zmm M0 A 40 J1)) (zmm M0 A 40 J) 110 [(0, va_rf (some (A + 0))), (4, .int l4), (5, .int l5), (6, .int l6)] [.int t0] := by
  unfold FM_inner_110 at h
  refine zi_istC (lv' := [(7, _), (0, _), (4, _), (5, _), (6, _)]) (dq dM_inner 56 rfl) (by decide) (by simp [z_cr, z_ci]) rfl ?_
  refine zi_iload 2 (dq dM_inner 57 rfl) rfl ?_
  refine zi_iconst (v := 5) (dq dM_inner 58 rfl) (by decide) ?_
  refine zi_icmp_ne (tgt := 123) (dq dM_inner 59 rfl) (by decide) (fun c => ?_) (fun c => ?_)
  · have h := q_f c h
    exact zG_lv (zs_c 1 rfl (zs_c 2 rfl (zs_c 3 rfl (zs_c 4 rfl (zs_c 0 rfl zs_n))))) (SM_inner_123 hL h hd )
  · have h := q_t c h
    refine zi_iload 0 (dq dM_inner 60 rfl) rfl ?_
    refine zi_if_ne (tgt := 151) (dq dM_inner 61 rfl) (by decide) (fun c => ?_) (fun c => ?_)
    · have h := q_f c h
      refine zi_aload_n 1 (dq dM_inner 76 rfl) rfl ?_
      refine zi_iconst (v := 0) (dq dM_inner 77 rfl) (by decide) ?_
      refine ri_puti (zLs hL 0 rfl) (by decide) fM_236 (fun h => by cases h) (by decide) (by decide) (dq dM_inner 78 rfl) ?_
      exact zG_lv (zs_c 1 rfl (zs_c 2 rfl (zs_c 3 rfl (zs_c 4 rfl (zs_c 0 rfl zs_n))))) (SM_inner_156 hL h hd )
    · have h := q_t c h
      exact zG_lv (zs_c 1 rfl (zs_c 2 rfl (zs_c 3 rfl (zs_c 4 rfl (zs_c 0 rfl zs_n))))) (SM_inner_123 hL h hd )
def FM_inner_89 (N : Nat) (l4 : Int32) (l5 : Int32) (l6 : Int32) (J : zJ) : Option (Unit × zJ) :=
  if (J 0 49) = 0 then
    FM_inner_110 N l4 l5 l6 0 J
  else
    if l6 = 0 then
      qb (FM_length N 0 J) fun v1 J2 =>
      FM_inner_110 N l4 l5 l6 v1 J2
    else
      FM_inner_110 N l4 l5 l6 0 J
theorem SM_inner_89 {g : zg} {d N : Nat} {M0 : zM} {A : Nat} {r : Unit} {J1 : zJ} {J : zJ}  {l4 : Int32} {l5 : Int32} {l6 : Int32} (hL : zLy M0 A mShL mRf) (h : FM_inner_89 N l4 l5 l6 J = some (r, J1)) (hd : 4 ≤ d)  : zG g d mM_inner (zPq (rU r) (zmm M0 A 40 J1)) (zmm M0 A 40 J) 89 [(0, va_rf (some (A + 0))), (4, .int l4), (5, .int l5), (6, .int l6)] [] := by
  unfold FM_inner_89 at h
  refine zi_aload_n 0 (dq dM_inner 46 rfl) rfl ?_
  refine ri_geti (zLs hL 0 rfl) (by decide) fM_236 (dq dM_inner 47 rfl) ?_
  refine zi_if_eq (tgt := 109) (dq dM_inner 48 rfl) (by decide) (fun c => ?_) (fun c => ?_)
  · have h := q_t c h
    refine zi_iconst (v := 0) (dq dM_inner 55 rfl) (by decide) ?_
    exact zG_lv (zs_c 0 rfl (zs_c 1 rfl (zs_c 2 rfl (zs_c 3 rfl zs_n)))) (SM_inner_110 hL h hd )
  · have h := q_f c h
    refine zi_iload 3 (dq dM_inner 49 rfl) rfl ?_
    refine zi_if_ne (tgt := 109) (dq dM_inner 50 rfl) (by decide) (fun c => ?_) (fun c => ?_)
    · have h := q_f c h
      refine zi_iconst (v := 0) (dq dM_inner 55 rfl) (by decide) ?_
      exact zG_lv (zs_c 0 rfl (zs_c 1 rfl (zs_c 2 rfl (zs_c 3 rfl zs_n)))) (SM_inner_110 hL h hd )
    · have h := q_t c h
      refine zi_aload_n 0 (dq dM_inner 51 rfl) rfl ?_
      refine zi_iconst (v := 0) (dq dM_inner 52 rfl) (by decide) ?_
      obtain ⟨v1, J2, hv1, h⟩ := q_b h
      refine zi_cVi1 (SM_length hL hv1 (d := d - 1) (by omega)) wM_length aM_279 iM_length sM_length (by omega) (zLs hL 0 rfl) rfl (Nat.le_of_ble_eq_true rfl) (dq dM_inner 53 rfl) (fun _ _ hh => ?_)
      obtain ⟨rfl, rfl⟩ := hh
      refine zi_goto (tgt := 110) (dq dM_inner 54 rfl) (by decide) ?_
      exact zG_lv (zs_c 0 rfl (zs_c 1 rfl (zs_c 2 rfl (zs_c 3 rfl zs_n)))) (SM_inner_110 hL h hd )
def FM_inner_69 (N : Nat) (l4 : Int32) (l5 : Int32) (t0 : Int32) (J : zJ) : Option (Unit × zJ) :=
  if (J 0 49) = 0 then
    FM_inner_89 N l4 l5 t0 J
  else
    if t0 = 0 then
      FM_inner_89 N l4 l5 t0 J
    else
      qb (FM_enter N l5 J) fun v1 J2 =>
      FM_inner_89 N l4 l5 t0 J2
theorem SM_inner_69 {g : zg} {d N : Nat} {M0 : zM} {A : Nat} {r : Unit} {J1 : zJ} {J : zJ}  {l4 : Int32} {l5 : Int32} {t0 : Int32} (hL : zLy M0 A mShL mRf) (h : FM_inner_69 N l4 l5 t0 J = some (r, J1)) (hd : 4 ≤ d)  : zG g d mM_inner (zPq (rU r) (zmm M0 A 40 J1)) (zmm M0 A 40 J) 69 [(0, va_rf (some (A + 0))), (4, .int l4), (5, .int l5)] [.int t0] := by
  unfold FM_inner_69 at h
  refine zi_istC (lv' := [(6, _), (0, _), (4, _), (5, _)]) (dq dM_inner 37 rfl) (by decide) (by simp [z_cr, z_ci]) rfl ?_
  refine zi_aload_n 1 (dq dM_inner 38 rfl) rfl ?_
  refine ri_geti (zLs hL 0 rfl) (by decide) fM_236 (dq dM_inner 39 rfl) ?_
  refine zi_if_eq (tgt := 89) (dq dM_inner 40 rfl) (by decide) (fun c => ?_) (fun c => ?_)
  · have h := q_t c h
    exact zG_lv (zs_c 1 rfl (zs_c 2 rfl (zs_c 3 rfl (zs_c 0 rfl zs_n)))) (SM_inner_89 hL h hd )
  · have h := q_f c h
    refine zi_iload 0 (dq dM_inner 41 rfl) rfl ?_
    refine zi_if_eq (tgt := 89) (dq dM_inner 42 rfl) (by decide) (fun c => ?_) (fun c => ?_)
    · have h := q_t c h
      exact zG_lv (zs_c 1 rfl (zs_c 2 rfl (zs_c 3 rfl (zs_c 0 rfl zs_n)))) (SM_inner_89 hL h hd )
    · have h := q_f c h
      refine zi_aload_n 1 (dq dM_inner 43 rfl) rfl ?_
      refine zi_iload 3 (dq dM_inner 44 rfl) rfl ?_
      obtain ⟨v1, J2, hv1, h⟩ := q_b h
      refine zi_cVv1 (SM_enter hL hv1 (d := d - 1) (by omega)) wM_enter aM_287 iM_enter sM_enter (by omega) (zLs hL 0 rfl) rfl (Nat.le_of_ble_eq_true rfl) (dq dM_inner 45 rfl) (fun _ hh => ?_)
      subst hh
      exact zG_lv (zs_c 1 rfl (zs_c 2 rfl (zs_c 3 rfl (zs_c 0 rfl zs_n)))) (SM_inner_89 hL h hd )
def FM_inner_48 (N : Nat) (l4 : Int32) (t0 : Int32) (J : zJ) : Option (Unit × zJ) :=
  if l4 = 6 then
    FM_inner_69 N l4 t0 1 J
  else
    if l4 = 7 then
      FM_inner_69 N l4 t0 1 J
    else
      FM_inner_69 N l4 t0 0 J
theorem SM_inner_48 {g : zg} {d N : Nat} {M0 : zM} {A : Nat} {r : Unit} {J1 : zJ} {J : zJ}  {l4 : Int32} {t0 : Int32} (hL : zLy M0 A mShL mRf) (h : FM_inner_48 N l4 t0 J = some (r, J1)) (hd : 4 ≤ d)  : zG g d mM_inner (zPq (rU r) (zmm M0 A 40 J1)) (zmm M0 A 40 J) 48 [(0, va_rf (some (A + 0))), (4, .int l4)] [.int t0] := by
  unfold FM_inner_48 at h
  refine zi_istC (lv' := [(5, _), (0, _), (4, _)]) (dq dM_inner 27 rfl) (by decide) (by simp [z_cr, z_ci]) rfl ?_
  refine zi_iload 2 (dq dM_inner 28 rfl) rfl ?_
  refine zi_bipush (v := 6) (dq dM_inner 29 rfl) (by decide) ?_
  refine zi_icmp_eq (tgt := 64) (dq dM_inner 30 rfl) (by decide) (fun c => ?_) (fun c => ?_)
  · have h := q_t c h
    refine zi_iconst (v := 1) (dq dM_inner 34 rfl) (by decide) ?_
    refine zi_goto (tgt := 69) (dq dM_inner 35 rfl) (by decide) ?_
    exact zG_lv (zs_c 1 rfl (zs_c 2 rfl (zs_c 0 rfl zs_n))) (SM_inner_69 hL h hd )
  · have h := q_f c h
    refine zi_iload 2 (dq dM_inner 31 rfl) rfl ?_
    refine zi_bipush (v := 7) (dq dM_inner 32 rfl) (by decide) ?_
    refine zi_icmp_ne (tgt := 68) (dq dM_inner 33 rfl) (by decide) (fun c => ?_) (fun c => ?_)
    · have h := q_f c h
      refine zi_iconst (v := 0) (dq dM_inner 36 rfl) (by decide) ?_
      exact zG_lv (zs_c 1 rfl (zs_c 2 rfl (zs_c 0 rfl zs_n))) (SM_inner_69 hL h hd )
    · have h := q_t c h
      refine zi_iconst (v := 1) (dq dM_inner 34 rfl) (by decide) ?_
      refine zi_goto (tgt := 69) (dq dM_inner 35 rfl) (by decide) ?_
      exact zG_lv (zs_c 1 rfl (zs_c 2 rfl (zs_c 0 rfl zs_n))) (SM_inner_69 hL h hd )
def FM_inner_29 (N : Nat) (l1 : Int32) (l2 : Int32) (l3 : Int32) (l4 : Int32) (J : zJ) : Option (Unit × zJ) :=
  if (J 0 49) = 0 then
    FM_inner_48 N l4 0 J
  else
    qb (FM_adds N l1 l2 l3 0 J) fun v1 J2 =>
    FM_inner_48 N l4 v1 J2
theorem SM_inner_29 {g : zg} {d N : Nat} {M0 : zM} {A : Nat} {r : Unit} {J1 : zJ} {J : zJ}  {l1 : Int32} {l2 : Int32} {l3 : Int32} {l4 : Int32} (hL : zLy M0 A mShL mRf) (h : FM_inner_29 N l1 l2 l3 l4 J = some (r, J1)) (hd : 4 ≤ d)  : zG g d mM_inner (zPq (rU r) (zmm M0 A 40 J1)) (zmm M0 A 40 J) 29 [(0, va_rf (some (A + 0))), (1, .int l1), (2, .int l2), (3, .int l3), (4, .int l4)] [] := by
  unfold FM_inner_29 at h
  refine zi_aload_n 0 (dq dM_inner 16 rfl) rfl ?_
  refine ri_geti (zLs hL 0 rfl) (by decide) fM_236 (dq dM_inner 17 rfl) ?_
  refine zi_if_eq (tgt := 47) (dq dM_inner 18 rfl) (by decide) (fun c => ?_) (fun c => ?_)
  · have h := q_t c h
    refine zi_iconst (v := 0) (dq dM_inner 26 rfl) (by decide) ?_
    exact zG_lv (zs_c 0 rfl (zs_c 4 rfl zs_n)) (SM_inner_48 hL h hd )
  · have h := q_f c h
    refine zi_aload_n 0 (dq dM_inner 19 rfl) rfl ?_
    refine zi_iload_n 1 (dq dM_inner 20 rfl) rfl ?_
    refine zi_iload_n 2 (dq dM_inner 21 rfl) rfl ?_
    refine zi_iload_n 3 (dq dM_inner 22 rfl) rfl ?_
    refine zi_iconst (v := 0) (dq dM_inner 23 rfl) (by decide) ?_
    obtain ⟨v1, J2, hv1, h⟩ := q_b h
    refine zi_cVi4 (SM_adds hL hv1 (d := d - 1) (by omega)) wM_adds aM_293 iM_adds sM_adds (by omega) (zLs hL 0 rfl) rfl (Nat.le_of_ble_eq_true rfl) (dq dM_inner 24 rfl) (fun _ _ hh => ?_)
    obtain ⟨rfl, rfl⟩ := hh
    refine zi_goto (tgt := 48) (dq dM_inner 25 rfl) (by decide) ?_
    exact zG_lv (zs_c 0 rfl (zs_c 4 rfl zs_n)) (SM_inner_48 hL h hd )
def FM_inner (N : Nat) (l1 : Int32) (l2 : Int32) (l3 : Int32) (J : zJ) : Option (Unit × zJ) :=
  qk (qi (J 0 23) 160) <|
  let y2 := J 4 (J 0 23).toNatClampNeg
  qb (FM_next N J) fun v3 J4 =>
  qk (qi 0 16) <|
  if v3 = (J4 16 (0 : Int32).toNatClampNeg) then
    FM_inner_29 N l1 l2 l3 y2 J4
  else
    let J6 := zu J4 0 49 0
    FM_inner_29 N l1 l2 l3 y2 J6
theorem SM_inner {g : zg} {d N : Nat} {M0 : zM} {A : Nat} {r : Unit} {J1 : zJ} {J : zJ} {l1 : Int32} {l2 : Int32} {l3 : Int32} (hL : zLy M0 A mShL mRf) (h : FM_inner N l1 l2 l3 J = some (r, J1)) (hd : 4 ≤ d) : zEv g d mM_inner [va_rf (some (A + 0)), .int l1, .int l2, .int l3] (zmm M0 A 40 J) (fun Mq => Mq = zmm M0 A 40 J1) := by
  unfold FM_inner at h
  refine zEu_q (r := r) (lv := [(0, va_rf (some (A + 0))), (1, .int l1), (2, .int l2), (3, .int l3)]) ⟨by decide +kernel, by decide, by decide +kernel⟩ (by simp [z_cr, z_ci]) (Nat.le_of_ble_eq_true rfl) rfl ?_
  refine zi_aload_n 0 (dq dM_inner 0 rfl) rfl ?_
  refine ri_getr (zLs hL 0 rfl) (zLr hL 3 rfl) fM_20 (dq dM_inner 1 rfl) ?_
  refine zi_aload_n 0 (dq dM_inner 2 rfl) rfl ?_
  refine ri_geti (zLs hL 0 rfl) (by decide) fM_222 (dq dM_inner 3 rfl) ?_
  obtain ⟨c1, h⟩ := q_k h
  refine ri_iald (zLs hL 4 rfl) (by decide) rfl c1 (dq dM_inner 4 rfl) ?_
  refine zi_istC (lv' := [(4, _), (0, _), (1, _), (2, _), (3, _)]) (dq dM_inner 5 rfl) (by decide) (by simp [z_cr, z_ci]) rfl ?_
  refine zi_aload_n 1 (dq dM_inner 6 rfl) rfl ?_
  obtain ⟨v3, J4, hv3, h⟩ := q_b h
  refine zi_cVi0 (SM_next hL hv3 (d := d - 1) (by omega)) wM_next aM_276 iM_next sM_next (by omega) (zLs hL 0 rfl) rfl (Nat.le_of_ble_eq_true rfl) (dq dM_inner 7 rfl) (fun _ _ hh => ?_)
  obtain ⟨rfl, rfl⟩ := hh
  refine zi_aload_n 1 (dq dM_inner 8 rfl) rfl ?_
  refine ri_getr (zLs hL 0 rfl) (zLr hL 15 rfl) fM_57 (dq dM_inner 9 rfl) ?_
  refine zi_iconst (v := 0) (dq dM_inner 10 rfl) (by decide) ?_
  obtain ⟨c5, h⟩ := q_k h
  refine ri_iald (zLs hL 16 rfl) (by decide) rfl c5 (dq dM_inner 11 rfl) ?_
  refine zi_icmp_eq (tgt := 29) (dq dM_inner 12 rfl) (by decide) (fun c => ?_) (fun c => ?_)
  · have h := q_t c h
    exact zG_lv (zs_c 1 rfl (zs_c 2 rfl (zs_c 3 rfl (zs_c 4 rfl (zs_c 0 rfl zs_n))))) (SM_inner_29 hL h hd )
  · have h := q_f c h
    refine zi_aload_n 1 (dq dM_inner 13 rfl) rfl ?_
    refine zi_iconst (v := 0) (dq dM_inner 14 rfl) (by decide) ?_
    refine ri_puti (zLs hL 0 rfl) (by decide) fM_236 (fun h => by cases h) (by decide) (by decide) (dq dM_inner 15 rfl) ?_
    exact zG_lv (zs_c 1 rfl (zs_c 2 rfl (zs_c 3 rfl (zs_c 4 rfl (zs_c 0 rfl zs_n))))) (SM_inner_29 hL h hd )
def FM_element_304 (N : Nat) (l4 : Int32) (l5 : Int32) (l6 : Int32) (J : zJ) : Option (Unit × zJ) :=
  if (J 0 49) = 0 then
    some ((), J)
  else
    qb (FM_inner N l4 l5 l6 J) fun v1 J2 =>
    some ((), J2)
theorem SM_element_304 {g : zg} {d N : Nat} {M0 : zM} {A : Nat} {r : Unit} {J1 : zJ} {J : zJ}  {l4 : Int32} {l5 : Int32} {l6 : Int32} (hL : zLy M0 A mShL mRf) (h : FM_element_304 N l4 l5 l6 J = some (r, J1)) (hd : 5 ≤ d)  : zG g d mM_element (zPq (rU r) (zmm M0 A 40 J1)) (zmm M0 A 40 J) 304 [(0, va_rf (some (A + 0))), (4, .int l4), (5, .int l5), (6, .int l6)] [] := by
  unfold FM_element_304 at h
  refine zi_aload_n 0 (dq dM_element 154 rfl) rfl ?_
  refine ri_geti (zLs hL 0 rfl) (by decide) fM_236 (dq dM_element 155 rfl) ?_
  refine zi_if_eq (tgt := 321) (dq dM_element 156 rfl) (by decide) (fun c => ?_) (fun c => ?_)
  · have h := q_t c h
    exact zi_return rfl (dq dM_element 162 rfl) (q_ru h)
  · have h := q_f c h
    refine zi_aload_n 0 (dq dM_element 157 rfl) rfl ?_
    refine zi_iload 1 (dq dM_element 158 rfl) rfl ?_
    refine zi_iload 2 (dq dM_element 159 rfl) rfl ?_
    refine zi_iload 3 (dq dM_element 160 rfl) rfl ?_
    obtain ⟨v1, J2, hv1, h⟩ := q_b h
    refine zi_cVv3 (SM_inner hL hv1 (d := d - 1) (by omega)) wM_inner aM_297 iM_inner sM_inner (by omega) (zLs hL 0 rfl) rfl (Nat.le_of_ble_eq_true rfl) (dq dM_element 161 rfl) (fun _ hh => ?_)
    subst hh
    exact zi_return rfl (dq dM_element 162 rfl) (q_ru h)
def FM_element_252 (N : Nat) (K12 : (Int32 × Int32 × Int32 × Int32 × zJ) → Option (Unit × zJ)) (l4 : Int32) (l5 : Int32) (l6 : Int32) (l7 : Int32) (l10 : Int32) (t1 : Int32) (J : zJ) : Option (Unit × zJ) :=
  qz t1 fun b1 =>
  let J2 := zu J 0 49 (bI b1)
  qb (FM_adds N l4 l5 l6 l10 J2) fun v3 J4 =>
  if (J4 0 49) = 0 then
    K12 (l4, v3, 0, l7, J4)
  else
    qk (qi ((6 * (J4 0 23)) + l10) 960) <|
    let y6 := J4 13 ((6 * (J4 0 23)) + l10).toNatClampNeg
    K12 (y6, v3, 0, l7, J4)
theorem SM_element_252 {g : zg} {d N : Nat} {M0 : zM} {A : Nat} {r : Unit} {J1 : zJ} {J : zJ} {K12 : (Int32 × Int32 × Int32 × Int32 × zJ) → Option (Unit × zJ)} {l4 : Int32} {l5 : Int32} {l6 : Int32} {l7 : Int32} {l10 : Int32} {t1 : Int32} (hL : zLy M0 A mShL mRf) (h : FM_element_252 N K12 l4 l5 l6 l7 l10 t1 J = some (r, J1)) (hd : 5 ≤ d) (hK12 : ∀ s, K12 s = some (r, J1) → zG g d mM_element (zPq (rU r) (zmm M0 A 40 J1)) (zmm M0 A 40 s.2.2.2.2) 12 [(0, va_rf (some (A + 0))), (4, .int s.1), (5, .int s.2.1), (6, .int s.2.2.1), (7, .int s.2.2.2.1)] []) : zG g d mM_element (zPq (rU r) (zmm M0 A 40 J1)) (zmm M0 A 40 J) 252 [(0, va_rf (some (A + 0))), (4, .int l4), (5, .int l5), (6, .int l6), (7, .int l7), (10, .int l10)] [.int t1, va_rf (some (A + 0))] := by
  unfold FM_element_252 at h
  obtain ⟨b1, eb1, h⟩ := q_z h
  refine zi_top eb1 ?_
  refine ri_puti (zLs hL 0 rfl) (by decide) fM_236 (fun h => by cases h) (bI_nar _) (bI_fit _) (dq dM_element 128 rfl) ?_
  refine zi_aload_n 0 (dq dM_element 129 rfl) rfl ?_
  refine zi_iload 1 (dq dM_element 130 rfl) rfl ?_
  refine zi_iload 2 (dq dM_element 131 rfl) rfl ?_
  refine zi_iload 3 (dq dM_element 132 rfl) rfl ?_
  refine zi_iload 5 (dq dM_element 133 rfl) rfl ?_
  obtain ⟨v3, J4, hv3, h⟩ := q_b h
  refine zi_cVi4 (SM_adds hL hv3 (d := d - 1) (by omega)) wM_adds aM_293 iM_adds sM_adds (by omega) (zLs hL 0 rfl) rfl (Nat.le_of_ble_eq_true rfl) (dq dM_element 134 rfl) (fun _ _ hh => ?_)
  obtain ⟨rfl, rfl⟩ := hh
  refine zi_istC (lv' := [(5, _), (0, _), (4, _), (6, _), (7, _), (10, _)]) (dq dM_element 135 rfl) (by decide) (by simp [z_cr, z_ci]) rfl ?_
  refine zi_iconst (v := 0) (dq dM_element 136 rfl) (by decide) ?_
  refine zi_istC (lv' := [(6, _), (5, _), (0, _), (4, _), (7, _), (10, _)]) (dq dM_element 137 rfl) (by decide) (by simp [z_cr, z_ci]) rfl ?_
  refine zi_aload_n 2 (dq dM_element 138 rfl) rfl ?_
  refine ri_geti (zLs hL 0 rfl) (by decide) fM_236 (dq dM_element 139 rfl) ?_
  refine zi_if_eq (tgt := 297) (dq dM_element 140 rfl) (by decide) (fun c => ?_) (fun c => ?_)
  · have h := q_t c h
    refine zi_iload 3 (dq dM_element 151 rfl) rfl ?_
    refine zi_istC (lv' := [(4, _), (6, _), (5, _), (0, _), (7, _), (10, _)]) (dq dM_element 152 rfl) (by decide) (by simp [z_cr, z_ci]) rfl ?_
    refine zi_goto (tgt := 12) (dq dM_element 153 rfl) (by decide) ?_
    exact zG_lv (zs_c 3 rfl (zs_c 0 rfl (zs_c 2 rfl (zs_c 1 rfl (zs_c 4 rfl zs_n))))) (hK12 _ h)
  · have h := q_f c h
    refine zi_aload_n 2 (dq dM_element 141 rfl) rfl ?_
    refine ri_getr (zLs hL 0 rfl) (zLr hL 12 rfl) fM_48 (dq dM_element 142 rfl) ?_
    refine zi_bipush (v := 6) (dq dM_element 143 rfl) (by decide) ?_
    refine zi_aload_n 2 (dq dM_element 144 rfl) rfl ?_
    refine ri_geti (zLs hL 0 rfl) (by decide) fM_222 (dq dM_element 145 rfl) ?_
    refine zi_imul (dq dM_element 146 rfl) ?_
    refine zi_iload 5 (dq dM_element 147 rfl) rfl ?_
    refine zi_iadd (dq dM_element 148 rfl) ?_
    obtain ⟨c5, h⟩ := q_k h
    refine ri_iald (zLs hL 13 rfl) (by decide) rfl c5 (dq dM_element 149 rfl) ?_
    refine zi_goto (tgt := 299) (dq dM_element 150 rfl) (by decide) ?_
    refine zi_istC (lv' := [(4, _), (6, _), (5, _), (0, _), (7, _), (10, _)]) (dq dM_element 152 rfl) (by decide) (by simp [z_cr, z_ci]) rfl ?_
    refine zi_goto (tgt := 12) (dq dM_element 153 rfl) (by decide) ?_
    exact zG_lv (zs_c 3 rfl (zs_c 0 rfl (zs_c 2 rfl (zs_c 1 rfl (zs_c 4 rfl zs_n))))) (hK12 _ h)
def FM_element_232 (N : Nat) (K12 : (Int32 × Int32 × Int32 × Int32 × zJ) → Option (Unit × zJ)) (l4 : Int32) (l5 : Int32) (l6 : Int32) (l7 : Int32) (l10 : Int32) (J : zJ) : Option (Unit × zJ) :=
  qk (qi (J 0 23) 160) <|
  if (J 8 (J 0 23).toNatClampNeg) ≤ l10 then
    FM_element_252 N K12 l4 l5 l6 l7 l10 0 J
  else
    FM_element_252 N K12 l4 l5 l6 l7 l10 1 J
theorem SM_element_232 {g : zg} {d N : Nat} {M0 : zM} {A : Nat} {r : Unit} {J1 : zJ} {J : zJ} {K12 : (Int32 × Int32 × Int32 × Int32 × zJ) → Option (Unit × zJ)} {l4 : Int32} {l5 : Int32} {l6 : Int32} {l7 : Int32} {l10 : Int32} (hL : zLy M0 A mShL mRf) (h : FM_element_232 N K12 l4 l5 l6 l7 l10 J = some (r, J1)) (hd : 5 ≤ d) (hK12 : ∀ s, K12 s = some (r, J1) → zG g d mM_element (zPq (rU r) (zmm M0 A 40 J1)) (zmm M0 A 40 s.2.2.2.2) 12 [(0, va_rf (some (A + 0))), (4, .int s.1), (5, .int s.2.1), (6, .int s.2.2.1), (7, .int s.2.2.2.1)] []) : zG g d mM_element (zPq (rU r) (zmm M0 A 40 J1)) (zmm M0 A 40 J) 232 [(0, va_rf (some (A + 0))), (4, .int l4), (5, .int l5), (6, .int l6), (7, .int l7), (10, .int l10)] [] := by
  unfold FM_element_232 at h
  refine zi_aload_n 0 (dq dM_element 117 rfl) rfl ?_
  refine zi_iload 5 (dq dM_element 118 rfl) rfl ?_
  refine zi_aload_n 0 (dq dM_element 119 rfl) rfl ?_
  refine ri_getr (zLs hL 0 rfl) (zLr hL 7 rfl) fM_32 (dq dM_element 120 rfl) ?_
  refine zi_aload_n 0 (dq dM_element 121 rfl) rfl ?_
  refine ri_geti (zLs hL 0 rfl) (by decide) fM_222 (dq dM_element 122 rfl) ?_
  obtain ⟨c1, h⟩ := q_k h
  refine ri_iald (zLs hL 8 rfl) (by decide) rfl c1 (dq dM_element 123 rfl) ?_
  refine zi_icmp_ge (tgt := 251) (dq dM_element 124 rfl) (by decide) (fun c => ?_) (fun c => ?_)
  · have h := q_t c h
    refine zi_iconst (v := 0) (dq dM_element 127 rfl) (by decide) ?_
    exact zG_lv (zs_c 0 rfl (zs_c 1 rfl (zs_c 2 rfl (zs_c 3 rfl (zs_c 4 rfl (zs_c 5 rfl zs_n)))))) (SM_element_252 hL h hd hK12)
  · have h := q_f c h
    refine zi_iconst (v := 1) (dq dM_element 125 rfl) (by decide) ?_
    refine zi_goto (tgt := 252) (dq dM_element 126 rfl) (by decide) ?_
    exact zG_lv (zs_c 0 rfl (zs_c 1 rfl (zs_c 2 rfl (zs_c 3 rfl (zs_c 4 rfl (zs_c 5 rfl zs_n)))))) (SM_element_252 hL h hd hK12)
def FM_element_186 (N : Nat) (K12 : (Int32 × Int32 × Int32 × Int32 × zJ) → Option (Unit × zJ)) (l4 : Int32) (l5 : Int32) (l6 : Int32) (l7 : Int32) (l9 : Int32) (K186 : (Int32 × zJ) → Option (Unit × zJ)) (s : Int32 × zJ) : Option (Unit × zJ) :=
  let l10 := s.1
  let J := s.2
  qk (qi (J 0 23) 160) <|
  if (J 8 (J 0 23).toNatClampNeg) ≤ l10 then
    FM_element_232 N K12 l4 l5 l6 l7 l10 J
  else
    qk (qi ((6 * (J 0 23)) + l10) 960) <|
    qk (qi (J 13 ((6 * (J 0 23)) + l10).toNatClampNeg) 160) <|
    if ((J 9 (J 13 ((6 * (J 0 23)) + l10).toNatClampNeg).toNatClampNeg) &&& l9) = 0 then
      let y4 := l10 + (1)
      K186 (y4, J)
    else
      FM_element_232 N K12 l4 l5 l6 l7 l10 J
theorem SM_element_186 {g : zg} {d N : Nat} {M0 : zM} {A : Nat} {r : Unit} {J1 : zJ} {K12 : (Int32 × Int32 × Int32 × Int32 × zJ) → Option (Unit × zJ)} {l4 : Int32} {l5 : Int32} {l6 : Int32} {l7 : Int32} {l9 : Int32} (hL : zLy M0 A mShL mRf) (hd : 5 ≤ d) (hK12 : ∀ s, K12 s = some (r, J1) → zG g d mM_element (zPq (rU r) (zmm M0 A 40 J1)) (zmm M0 A 40 s.2.2.2.2) 12 [(0, va_rf (some (A + 0))), (4, .int s.1), (5, .int s.2.1), (6, .int s.2.2.1), (7, .int s.2.2.2.1)] []) : ∀ n s, qfix (FM_element_186 N K12 l4 l5 l6 l7 l9) n s = some (r, J1) → zG g d mM_element (zPq (rU r) (zmm M0 A 40 J1)) (zmm M0 A 40 s.2) 186 [(0, va_rf (some (A + 0))), (4, .int l4), (5, .int l5), (6, .int l6), (7, .int l7), (9, .int l9), (10, .int s.1)] [] := by
  refine qfix_sound (fun K186 hK186 s h => ?_)
  unfold FM_element_186 at h
  refine zi_iload 6 (dq dM_element 93 rfl) rfl ?_
  refine zi_aload_n 0 (dq dM_element 94 rfl) rfl ?_
  refine ri_getr (zLs hL 0 rfl) (zLr hL 7 rfl) fM_32 (dq dM_element 95 rfl) ?_
  refine zi_aload_n 0 (dq dM_element 96 rfl) rfl ?_
  refine ri_geti (zLs hL 0 rfl) (by decide) fM_222 (dq dM_element 97 rfl) ?_
  obtain ⟨c1, h⟩ := q_k h
  refine ri_iald (zLs hL 8 rfl) (by decide) rfl c1 (dq dM_element 98 rfl) ?_
  refine zi_icmp_ge (tgt := 232) (dq dM_element 99 rfl) (by decide) (fun c => ?_) (fun c => ?_)
  · have h := q_t c h
    exact zG_lv (zs_c 0 rfl (zs_c 1 rfl (zs_c 2 rfl (zs_c 3 rfl (zs_c 4 rfl (zs_c 6 rfl zs_n)))))) (SM_element_232 hL h hd hK12)
  · have h := q_f c h
    refine zi_aload_n 0 (dq dM_element 100 rfl) rfl ?_
    refine ri_getr (zLs hL 0 rfl) (zLr hL 8 rfl) fM_35 (dq dM_element 101 rfl) ?_
    refine zi_aload_n 0 (dq dM_element 102 rfl) rfl ?_
    refine ri_getr (zLs hL 0 rfl) (zLr hL 12 rfl) fM_48 (dq dM_element 103 rfl) ?_
    refine zi_bipush (v := 6) (dq dM_element 104 rfl) (by decide) ?_
    refine zi_aload_n 0 (dq dM_element 105 rfl) rfl ?_
    refine ri_geti (zLs hL 0 rfl) (by decide) fM_222 (dq dM_element 106 rfl) ?_
    refine zi_imul (dq dM_element 107 rfl) ?_
    refine zi_iload 6 (dq dM_element 108 rfl) rfl ?_
    refine zi_iadd (dq dM_element 109 rfl) ?_
    obtain ⟨c2, h⟩ := q_k h
    refine ri_iald (zLs hL 13 rfl) (by decide) rfl c2 (dq dM_element 110 rfl) ?_
    obtain ⟨c3, h⟩ := q_k h
    refine ri_iald (zLs hL 9 rfl) (by decide) rfl c3 (dq dM_element 111 rfl) ?_
    refine zi_iload 5 (dq dM_element 112 rfl) rfl ?_
    refine zi_iand (dq dM_element 113 rfl) ?_
    refine zi_if_ne (tgt := 232) (dq dM_element 114 rfl) (by decide) (fun c => ?_) (fun c => ?_)
    · have h := q_f c h
      exact zG_lv (zs_c 0 rfl (zs_c 1 rfl (zs_c 2 rfl (zs_c 3 rfl (zs_c 4 rfl (zs_c 6 rfl zs_n)))))) (SM_element_232 hL h hd hK12)
    · have h := q_t c h
      refine zi_iincC (v := _ + (1)) (lv' := [(10, _), (0, _), (4, _), (5, _), (6, _), (7, _), (9, _)]) 6 (dq dM_element 115 rfl) rfl rfl (by decide) (by simp [z_cr, z_ci]) rfl ?_
      refine zi_goto (tgt := 186) (dq dM_element 116 rfl) (by decide) ?_
      exact zG_lv (zs_c 1 rfl (zs_c 2 rfl (zs_c 3 rfl (zs_c 4 rfl (zs_c 5 rfl (zs_c 6 rfl (zs_c 0 rfl zs_n))))))) (hK186 _ h)
def FM_element_147 (N : Nat) (K12 : (Int32 × Int32 × Int32 × Int32 × zJ) → Option (Unit × zJ)) (l4 : Int32) (l5 : Int32) (l6 : Int32) (t0 : Int32) (J : zJ) : Option (Unit × zJ) :=
  if t0 = 0 then
    K12 (l4, l5, l6, t0, J)
  else
    qb (FM_bound N J) fun v1 J2 =>
    if v1 ≤ (J 0 47) then
      qfix (FM_element_186 N K12 l4 l5 l6 t0 0) N (0, J2)
    else
      qk (qi (J2 0 47) 120) <|
      qc (FM_bitOf N (J2 19 (J2 0 47).toNatClampNeg)) fun v4 =>
      qfix (FM_element_186 N K12 l4 l5 l6 t0 v4) N (0, J2)
theorem SM_element_147 {g : zg} {d N : Nat} {M0 : zM} {A : Nat} {r : Unit} {J1 : zJ} {J : zJ} {K12 : (Int32 × Int32 × Int32 × Int32 × zJ) → Option (Unit × zJ)} {l4 : Int32} {l5 : Int32} {l6 : Int32} {t0 : Int32} (hL : zLy M0 A mShL mRf) (h : FM_element_147 N K12 l4 l5 l6 t0 J = some (r, J1)) (hd : 5 ≤ d) (hK12 : ∀ s, K12 s = some (r, J1) → zG g d mM_element (zPq (rU r) (zmm M0 A 40 J1)) (zmm M0 A 40 s.2.2.2.2) 12 [(0, va_rf (some (A + 0))), (4, .int s.1), (5, .int s.2.1), (6, .int s.2.2.1), (7, .int s.2.2.2.1)] []) : zG g d mM_element (zPq (rU r) (zmm M0 A 40 J1)) (zmm M0 A 40 J) 147 [(0, va_rf (some (A + 0))), (4, .int l4), (5, .int l5), (6, .int l6)] [.int t0] := by
  unfold FM_element_147 at h
  refine zi_istC (lv' := [(7, _), (0, _), (4, _), (5, _), (6, _)]) (dq dM_element 74 rfl) (by decide) (by simp [z_cr, z_ci]) rfl ?_
  refine zi_iload 0 (dq dM_element 75 rfl) rfl ?_
  refine zi_if_eq (tgt := 301) (dq dM_element 76 rfl) (by decide) (fun c => ?_) (fun c => ?_)
  · have h := q_t c h
    refine zi_goto (tgt := 12) (dq dM_element 153 rfl) (by decide) ?_
    exact zG_lv (zs_c 1 rfl (zs_c 2 rfl (zs_c 3 rfl (zs_c 4 rfl (zs_c 0 rfl zs_n))))) (hK12 _ h)
  · have h := q_f c h
    refine zi_aload_n 1 (dq dM_element 77 rfl) rfl ?_
    refine ri_geti (zLs hL 0 rfl) (by decide) fM_245 (dq dM_element 78 rfl) ?_
    refine zi_aload_n 1 (dq dM_element 79 rfl) rfl ?_
    obtain ⟨v1, J2, hv1, h⟩ := q_b h
    refine zi_cVi0 (SM_bound hL hv1 (d := d - 1) (by omega)) wM_bound aM_273 iM_bound sM_bound (by omega) (zLs hL 0 rfl) rfl (Nat.le_of_ble_eq_true rfl) (dq dM_element 80 rfl) (fun _ _ hh => ?_)
    obtain ⟨rfl, rfl⟩ := hh
    refine zi_icmp_ge (tgt := 180) (dq dM_element 81 rfl) (by decide) (fun c => ?_) (fun c => ?_)
    · have h := q_t c h
      refine zi_iconst (v := 0) (dq dM_element 89 rfl) (by decide) ?_
      refine zi_istC (lv' := [(9, _), (7, _), (0, _), (4, _), (5, _), (6, _)]) (dq dM_element 90 rfl) (by decide) (by simp [z_cr, z_ci]) rfl ?_
      refine zi_iconst (v := 0) (dq dM_element 91 rfl) (by decide) ?_
      refine zi_istC (lv' := [(10, _), (9, _), (7, _), (0, _), (4, _), (5, _), (6, _)]) (dq dM_element 92 rfl) (by decide) (by simp [z_cr, z_ci]) rfl ?_
      exact zG_lv (zs_c 3 rfl (zs_c 4 rfl (zs_c 5 rfl (zs_c 6 rfl (zs_c 2 rfl (zs_c 1 rfl (zs_c 0 rfl zs_n))))))) (SM_element_186 hL hd hK12 _ _ h)
    · have h := q_f c h
      refine zi_aload_n 1 (dq dM_element 82 rfl) rfl ?_
      refine ri_getr (zLs hL 0 rfl) (zLr hL 18 rfl) fM_66 (dq dM_element 83 rfl) ?_
      refine zi_aload_n 1 (dq dM_element 84 rfl) rfl ?_
      refine ri_geti (zLs hL 0 rfl) (by decide) fM_245 (dq dM_element 85 rfl) ?_
      obtain ⟨c3, h⟩ := q_k h
      refine ri_iald (zLs hL 19 rfl) (by decide) rfl c3 (dq dM_element 86 rfl) ?_
      obtain ⟨v4, hv4, h⟩ := q_c h
      refine zi_cSi1 (SM_bitOf  hv4 (d := d - 1) (by omega)) wM_bitOf aM_290 tM_bitOf (by omega) (Nat.le_of_ble_eq_true rfl) (dq dM_element 87 rfl) (fun _ _ hh => ?_)
      obtain ⟨rfl, rfl⟩ := hh
      refine zi_goto (tgt := 181) (dq dM_element 88 rfl) (by decide) ?_
      refine zi_istC (lv' := [(9, _), (7, _), (0, _), (4, _), (5, _), (6, _)]) (dq dM_element 90 rfl) (by decide) (by simp [z_cr, z_ci]) rfl ?_
      refine zi_iconst (v := 0) (dq dM_element 91 rfl) (by decide) ?_
      refine zi_istC (lv' := [(10, _), (9, _), (7, _), (0, _), (4, _), (5, _), (6, _)]) (dq dM_element 92 rfl) (by decide) (by simp [z_cr, z_ci]) rfl ?_
      exact zG_lv (zs_c 3 rfl (zs_c 4 rfl (zs_c 5 rfl (zs_c 6 rfl (zs_c 2 rfl (zs_c 1 rfl (zs_c 0 rfl zs_n))))))) (SM_element_186 hL hd hK12 _ _ h)
def FM_element_121 (N : Nat) (K12 : (Int32 × Int32 × Int32 × Int32 × zJ) → Option (Unit × zJ)) (l4 : Int32) (l5 : Int32) (l6 : Int32) (J : zJ) : Option (Unit × zJ) :=
  if (J 0 49) = 0 then
    FM_element_147 N K12 l4 l5 l6 0 J
  else
    qk (qi (J 0 23) 160) <|
    if (J 4 (J 0 23).toNatClampNeg) = 9 then
      FM_element_147 N K12 l4 l5 l6 1 J
    else
      FM_element_147 N K12 l4 l5 l6 0 J
theorem SM_element_121 {g : zg} {d N : Nat} {M0 : zM} {A : Nat} {r : Unit} {J1 : zJ} {J : zJ} {K12 : (Int32 × Int32 × Int32 × Int32 × zJ) → Option (Unit × zJ)} {l4 : Int32} {l5 : Int32} {l6 : Int32} (hL : zLy M0 A mShL mRf) (h : FM_element_121 N K12 l4 l5 l6 J = some (r, J1)) (hd : 5 ≤ d) (hK12 : ∀ s, K12 s = some (r, J1) → zG g d mM_element (zPq (rU r) (zmm M0 A 40 J1)) (zmm M0 A 40 s.2.2.2.2) 12 [(0, va_rf (some (A + 0))), (4, .int s.1), (5, .int s.2.1), (6, .int s.2.2.1), (7, .int s.2.2.2.1)] []) : zG g d mM_element (zPq (rU r) (zmm M0 A 40 J1)) (zmm M0 A 40 J) 121 [(0, va_rf (some (A + 0))), (4, .int l4), (5, .int l5), (6, .int l6)] [] := by
  unfold FM_element_121 at h
  refine zi_aload_n 0 (dq dM_element 61 rfl) rfl ?_
  refine ri_geti (zLs hL 0 rfl) (by decide) fM_236 (dq dM_element 62 rfl) ?_
  refine zi_if_eq (tgt := 146) (dq dM_element 63 rfl) (by decide) (fun c => ?_) (fun c => ?_)
  · have h := q_t c h
    refine zi_iconst (v := 0) (dq dM_element 73 rfl) (by decide) ?_
    exact zG_lv (zs_c 0 rfl (zs_c 1 rfl (zs_c 2 rfl (zs_c 3 rfl zs_n)))) (SM_element_147 hL h hd hK12)
  · have h := q_f c h
    refine zi_aload_n 0 (dq dM_element 64 rfl) rfl ?_
    refine ri_getr (zLs hL 0 rfl) (zLr hL 3 rfl) fM_20 (dq dM_element 65 rfl) ?_
    refine zi_aload_n 0 (dq dM_element 66 rfl) rfl ?_
    refine ri_geti (zLs hL 0 rfl) (by decide) fM_222 (dq dM_element 67 rfl) ?_
    obtain ⟨c1, h⟩ := q_k h
    refine ri_iald (zLs hL 4 rfl) (by decide) rfl c1 (dq dM_element 68 rfl) ?_
    refine zi_bipush (v := 9) (dq dM_element 69 rfl) (by decide) ?_
    refine zi_icmp_ne (tgt := 146) (dq dM_element 70 rfl) (by decide) (fun c => ?_) (fun c => ?_)
    · have h := q_f c h
      refine zi_iconst (v := 0) (dq dM_element 73 rfl) (by decide) ?_
      exact zG_lv (zs_c 0 rfl (zs_c 1 rfl (zs_c 2 rfl (zs_c 3 rfl zs_n)))) (SM_element_147 hL h hd hK12)
    · have h := q_t c h
      refine zi_iconst (v := 1) (dq dM_element 71 rfl) (by decide) ?_
      refine zi_goto (tgt := 147) (dq dM_element 72 rfl) (by decide) ?_
      exact zG_lv (zs_c 0 rfl (zs_c 1 rfl (zs_c 2 rfl (zs_c 3 rfl zs_n)))) (SM_element_147 hL h hd hK12)
def FM_element_100 (N : Nat) (K12 : (Int32 × Int32 × Int32 × Int32 × zJ) → Option (Unit × zJ)) (K59 : (Int32 × zJ) → Option (Unit × zJ)) (l4 : Int32) (l5 : Int32) (l6 : Int32) (l8 : Int32) (l9 : Int32) (t1 : Int32) (J : zJ) : Option (Unit × zJ) :=
  qz t1 fun b1 =>
  let J2 := zu J 0 49 (bI b1)
  if (J2 0 49) = 0 then
    let y3 := l9 + (-1)
    K59 (y3, J2)
  else
    qb (FM_enter N ((-1)) J2) fun v4 J5 =>
    let y6 := l9 + (-1)
    K59 (y6, J5)
theorem SM_element_100 {g : zg} {d N : Nat} {M0 : zM} {A : Nat} {r : Unit} {J1 : zJ} {J : zJ} {K12 : (Int32 × Int32 × Int32 × Int32 × zJ) → Option (Unit × zJ)} {K59 : (Int32 × zJ) → Option (Unit × zJ)} {l4 : Int32} {l5 : Int32} {l6 : Int32} {l8 : Int32} {l9 : Int32} {t1 : Int32} (hL : zLy M0 A mShL mRf) (h : FM_element_100 N K12 K59 l4 l5 l6 l8 l9 t1 J = some (r, J1)) (hd : 5 ≤ d) (hK12 : ∀ s, K12 s = some (r, J1) → zG g d mM_element (zPq (rU r) (zmm M0 A 40 J1)) (zmm M0 A 40 s.2.2.2.2) 12 [(0, va_rf (some (A + 0))), (4, .int s.1), (5, .int s.2.1), (6, .int s.2.2.1), (7, .int s.2.2.2.1)] []) (hK59 : ∀ s, K59 s = some (r, J1) → zG g d mM_element (zPq (rU r) (zmm M0 A 40 J1)) (zmm M0 A 40 s.2) 59 [(0, va_rf (some (A + 0))), (4, .int l4), (5, .int l5), (6, .int l6), (8, .int l8), (9, .int s.1)] []) : zG g d mM_element (zPq (rU r) (zmm M0 A 40 J1)) (zmm M0 A 40 J) 100 [(0, va_rf (some (A + 0))), (4, .int l4), (5, .int l5), (6, .int l6), (8, .int l8), (9, .int l9)] [.int t1, va_rf (some (A + 0))] := by
  unfold FM_element_100 at h
  obtain ⟨b1, eb1, h⟩ := q_z h
  refine zi_top eb1 ?_
  refine ri_puti (zLs hL 0 rfl) (by decide) fM_236 (fun h => by cases h) (bI_nar _) (bI_fit _) (dq dM_element 52 rfl) ?_
  refine zi_aload_n 0 (dq dM_element 53 rfl) rfl ?_
  refine ri_geti (zLs hL 0 rfl) (by decide) fM_236 (dq dM_element 54 rfl) ?_
  refine zi_if_eq (tgt := 115) (dq dM_element 55 rfl) (by decide) (fun c => ?_) (fun c => ?_)
  · have h := q_t c h
    refine zi_iincC (v := _ + (-1)) (lv' := [(9, _), (0, _), (4, _), (5, _), (6, _), (8, _)]) 5 (dq dM_element 59 rfl) rfl rfl (by decide) (by simp [z_cr, z_ci]) rfl ?_
    refine zi_goto (tgt := 59) (dq dM_element 60 rfl) (by decide) ?_
    exact zG_lv (zs_c 1 rfl (zs_c 2 rfl (zs_c 3 rfl (zs_c 4 rfl (zs_c 5 rfl (zs_c 0 rfl zs_n)))))) (hK59 _ h)
  · have h := q_f c h
    refine zi_aload_n 0 (dq dM_element 56 rfl) rfl ?_
    refine zi_iconst (v := (-1)) (dq dM_element 57 rfl) (by decide) ?_
    obtain ⟨v4, J5, hv4, h⟩ := q_b h
    refine zi_cVv1 (SM_enter hL hv4 (d := d - 1) (by omega)) wM_enter aM_287 iM_enter sM_enter (by omega) (zLs hL 0 rfl) rfl (Nat.le_of_ble_eq_true rfl) (dq dM_element 58 rfl) (fun _ hh => ?_)
    subst hh
    refine zi_iincC (v := _ + (-1)) (lv' := [(9, _), (0, _), (4, _), (5, _), (6, _), (8, _)]) 5 (dq dM_element 59 rfl) rfl rfl (by decide) (by simp [z_cr, z_ci]) rfl ?_
    refine zi_goto (tgt := 59) (dq dM_element 60 rfl) (by decide) ?_
    exact zG_lv (zs_c 1 rfl (zs_c 2 rfl (zs_c 3 rfl (zs_c 4 rfl (zs_c 5 rfl (zs_c 0 rfl zs_n)))))) (hK59 _ h)
def FM_element_59 (N : Nat) (K12 : (Int32 × Int32 × Int32 × Int32 × zJ) → Option (Unit × zJ)) (l4 : Int32) (l5 : Int32) (l6 : Int32) (l8 : Int32) (K59 : (Int32 × zJ) → Option (Unit × zJ)) (s : Int32 × zJ) : Option (Unit × zJ) :=
  let l9 := s.1
  let J := s.2
  if l9 < l8 then
    FM_element_121 N K12 l4 l5 l6 J
  else
    if (J 0 49) = 0 then
      FM_element_121 N K12 l4 l5 l6 J
    else
      qb (FM_next N J) fun v1 J2 =>
      qk (qi l9 16) <|
      if v1 = (J2 16 l9.toNatClampNeg) then
        if (J2 0 49) = 0 then
          FM_element_100 N K12 K59 l4 l5 l6 l8 l9 0 J2
        else
          FM_element_100 N K12 K59 l4 l5 l6 l8 l9 1 J2
      else
        FM_element_100 N K12 K59 l4 l5 l6 l8 l9 0 J2
theorem SM_element_59 {g : zg} {d N : Nat} {M0 : zM} {A : Nat} {r : Unit} {J1 : zJ} {K12 : (Int32 × Int32 × Int32 × Int32 × zJ) → Option (Unit × zJ)} {l4 : Int32} {l5 : Int32} {l6 : Int32} {l8 : Int32} (hL : zLy M0 A mShL mRf) (hd : 5 ≤ d) (hK12 : ∀ s, K12 s = some (r, J1) → zG g d mM_element (zPq (rU r) (zmm M0 A 40 J1)) (zmm M0 A 40 s.2.2.2.2) 12 [(0, va_rf (some (A + 0))), (4, .int s.1), (5, .int s.2.1), (6, .int s.2.2.1), (7, .int s.2.2.2.1)] []) : ∀ n s, qfix (FM_element_59 N K12 l4 l5 l6 l8) n s = some (r, J1) → zG g d mM_element (zPq (rU r) (zmm M0 A 40 J1)) (zmm M0 A 40 s.2) 59 [(0, va_rf (some (A + 0))), (4, .int l4), (5, .int l5), (6, .int l6), (8, .int l8), (9, .int s.1)] [] := by
  refine qfix_sound (fun K59 hK59 s h => ?_)
  unfold FM_element_59 at h
  refine zi_iload 5 (dq dM_element 32 rfl) rfl ?_
  refine zi_iload 4 (dq dM_element 33 rfl) rfl ?_
  refine zi_icmp_lt (tgt := 121) (dq dM_element 34 rfl) (by decide) (fun c => ?_) (fun c => ?_)
  · have h := q_t c h
    exact zG_lv (zs_c 0 rfl (zs_c 1 rfl (zs_c 2 rfl (zs_c 3 rfl zs_n)))) (SM_element_121 hL h hd hK12)
  · have h := q_f c h
    refine zi_aload_n 0 (dq dM_element 35 rfl) rfl ?_
    refine ri_geti (zLs hL 0 rfl) (by decide) fM_236 (dq dM_element 36 rfl) ?_
    refine zi_if_eq (tgt := 121) (dq dM_element 37 rfl) (by decide) (fun c => ?_) (fun c => ?_)
    · have h := q_t c h
      exact zG_lv (zs_c 0 rfl (zs_c 1 rfl (zs_c 2 rfl (zs_c 3 rfl zs_n)))) (SM_element_121 hL h hd hK12)
    · have h := q_f c h
      refine zi_aload_n 0 (dq dM_element 38 rfl) rfl ?_
      refine zi_aload_n 0 (dq dM_element 39 rfl) rfl ?_
      obtain ⟨v1, J2, hv1, h⟩ := q_b h
      refine zi_cVi0 (SM_next hL hv1 (d := d - 1) (by omega)) wM_next aM_276 iM_next sM_next (by omega) (zLs hL 0 rfl) rfl (Nat.le_of_ble_eq_true rfl) (dq dM_element 40 rfl) (fun _ _ hh => ?_)
      obtain ⟨rfl, rfl⟩ := hh
      refine zi_aload_n 0 (dq dM_element 41 rfl) rfl ?_
      refine ri_getr (zLs hL 0 rfl) (zLr hL 15 rfl) fM_57 (dq dM_element 42 rfl) ?_
      refine zi_iload 5 (dq dM_element 43 rfl) rfl ?_
      obtain ⟨c3, h⟩ := q_k h
      refine ri_iald (zLs hL 16 rfl) (by decide) rfl c3 (dq dM_element 44 rfl) ?_
      refine zi_icmp_ne (tgt := 99) (dq dM_element 45 rfl) (by decide) (fun c => ?_) (fun c => ?_)
      · have h := q_f c h
        refine zi_iconst (v := 0) (dq dM_element 51 rfl) (by decide) ?_
        exact zG_lv (zs_c 0 rfl (zs_c 1 rfl (zs_c 2 rfl (zs_c 3 rfl (zs_c 4 rfl (zs_c 5 rfl zs_n)))))) (SM_element_100 hL h hd hK12 hK59)
      · have h := q_t c h
        refine zi_aload_n 0 (dq dM_element 46 rfl) rfl ?_
        refine ri_geti (zLs hL 0 rfl) (by decide) fM_236 (dq dM_element 47 rfl) ?_
        refine zi_if_eq (tgt := 99) (dq dM_element 48 rfl) (by decide) (fun c => ?_) (fun c => ?_)
        · have h := q_t c h
          refine zi_iconst (v := 0) (dq dM_element 51 rfl) (by decide) ?_
          exact zG_lv (zs_c 0 rfl (zs_c 1 rfl (zs_c 2 rfl (zs_c 3 rfl (zs_c 4 rfl (zs_c 5 rfl zs_n)))))) (SM_element_100 hL h hd hK12 hK59)
        · have h := q_f c h
          refine zi_iconst (v := 1) (dq dM_element 49 rfl) (by decide) ?_
          refine zi_goto (tgt := 100) (dq dM_element 50 rfl) (by decide) ?_
          exact zG_lv (zs_c 0 rfl (zs_c 1 rfl (zs_c 2 rfl (zs_c 3 rfl (zs_c 4 rfl (zs_c 5 rfl zs_n)))))) (SM_element_100 hL h hd hK12 hK59)
def FM_element_49 (N : Nat) (K12 : (Int32 × Int32 × Int32 × Int32 × zJ) → Option (Unit × zJ)) (l4 : Int32) (l5 : Int32) (l6 : Int32) (t0 : Int32) (J : zJ) : Option (Unit × zJ) :=
  let y1 := (J 0 24) - 1
  qfix (FM_element_59 N K12 l4 l5 l6 t0) N (y1, J)
theorem SM_element_49 {g : zg} {d N : Nat} {M0 : zM} {A : Nat} {r : Unit} {J1 : zJ} {J : zJ} {K12 : (Int32 × Int32 × Int32 × Int32 × zJ) → Option (Unit × zJ)} {l4 : Int32} {l5 : Int32} {l6 : Int32} {t0 : Int32} (hL : zLy M0 A mShL mRf) (h : FM_element_49 N K12 l4 l5 l6 t0 J = some (r, J1)) (hd : 5 ≤ d) (hK12 : ∀ s, K12 s = some (r, J1) → zG g d mM_element (zPq (rU r) (zmm M0 A 40 J1)) (zmm M0 A 40 s.2.2.2.2) 12 [(0, va_rf (some (A + 0))), (4, .int s.1), (5, .int s.2.1), (6, .int s.2.2.1), (7, .int s.2.2.2.1)] []) : zG g d mM_element (zPq (rU r) (zmm M0 A 40 J1)) (zmm M0 A 40 J) 49 [(0, va_rf (some (A + 0))), (4, .int l4), (5, .int l5), (6, .int l6)] [.int t0] := by
  unfold FM_element_49 at h
  refine zi_istC (lv' := [(8, _), (0, _), (4, _), (5, _), (6, _)]) (dq dM_element 26 rfl) (by decide) (by simp [z_cr, z_ci]) rfl ?_
  refine zi_aload_n 1 (dq dM_element 27 rfl) rfl ?_
  refine ri_geti (zLs hL 0 rfl) (by decide) fM_225 (dq dM_element 28 rfl) ?_
  refine zi_iconst (v := 1) (dq dM_element 29 rfl) (by decide) ?_
  refine zi_isub (dq dM_element 30 rfl) ?_
  refine zi_istC (lv' := [(9, _), (8, _), (0, _), (4, _), (5, _), (6, _)]) (dq dM_element 31 rfl) (by decide) (by simp [z_cr, z_ci]) rfl ?_
  exact zG_lv (zs_c 2 rfl (zs_c 3 rfl (zs_c 4 rfl (zs_c 5 rfl (zs_c 1 rfl (zs_c 0 rfl zs_n)))))) (SM_element_59 hL hd hK12 _ _ h)
def FM_element_12 (N : Nat) (K12 : (Int32 × Int32 × Int32 × Int32 × zJ) → Option (Unit × zJ)) (s : Int32 × Int32 × Int32 × Int32 × zJ) : Option (Unit × zJ) :=
  let l4 := s.1
  let l5 := s.2.1
  let l6 := s.2.2.1
  let l7 := s.2.2.2.1
  let J := s.2.2.2.2
  if l7 = 0 then
    FM_element_304 N l4 l5 l6 J
  else
    if (J 0 49) = 0 then
      FM_element_304 N l4 l5 l6 J
    else
      qb (FM_unwrap N l4 J) fun v1 J2 =>
      qk (qi (J2 0 23) 160) <|
      if (J2 4 (J2 0 23).toNatClampNeg) = 9 then
        FM_element_49 N K12 l4 l5 l6 0 J2
      else
        FM_element_49 N K12 l4 l5 l6 1 J2
theorem SM_element_12 {g : zg} {d N : Nat} {M0 : zM} {A : Nat} {r : Unit} {J1 : zJ}   (hL : zLy M0 A mShL mRf) (hd : 5 ≤ d)  : ∀ n s, qfix (FM_element_12 N) n s = some (r, J1) → zG g d mM_element (zPq (rU r) (zmm M0 A 40 J1)) (zmm M0 A 40 s.2.2.2.2) 12 [(0, va_rf (some (A + 0))), (4, .int s.1), (5, .int s.2.1), (6, .int s.2.2.1), (7, .int s.2.2.2.1)] [] := by
  refine qfix_sound (fun K12 hK12 s h => ?_)
  unfold FM_element_12 at h
  refine zi_iload 4 (dq dM_element 8 rfl) rfl ?_
  refine zi_if_eq (tgt := 304) (dq dM_element 9 rfl) (by decide) (fun c => ?_) (fun c => ?_)
  · have h := q_t c h
    exact zG_lv (zs_c 0 rfl (zs_c 1 rfl (zs_c 2 rfl (zs_c 3 rfl zs_n)))) (SM_element_304 hL h hd )
  · have h := q_f c h
    refine zi_aload_n 0 (dq dM_element 10 rfl) rfl ?_
    refine ri_geti (zLs hL 0 rfl) (by decide) fM_236 (dq dM_element 11 rfl) ?_
    refine zi_if_eq (tgt := 304) (dq dM_element 12 rfl) (by decide) (fun c => ?_) (fun c => ?_)
    · have h := q_t c h
      exact zG_lv (zs_c 0 rfl (zs_c 1 rfl (zs_c 2 rfl (zs_c 3 rfl zs_n)))) (SM_element_304 hL h hd )
    · have h := q_f c h
      refine zi_aload_n 0 (dq dM_element 13 rfl) rfl ?_
      refine zi_iload 1 (dq dM_element 14 rfl) rfl ?_
      obtain ⟨v1, J2, hv1, h⟩ := q_b h
      refine zi_cVv1 (SM_unwrap hL hv1 (d := d - 1) (by omega)) wM_unwrap aM_218 iM_unwrap sM_unwrap (by omega) (zLs hL 0 rfl) rfl (Nat.le_of_ble_eq_true rfl) (dq dM_element 15 rfl) (fun _ hh => ?_)
      subst hh
      refine zi_aload_n 0 (dq dM_element 16 rfl) rfl ?_
      refine ri_getr (zLs hL 0 rfl) (zLr hL 3 rfl) fM_20 (dq dM_element 17 rfl) ?_
      refine zi_aload_n 0 (dq dM_element 18 rfl) rfl ?_
      refine ri_geti (zLs hL 0 rfl) (by decide) fM_222 (dq dM_element 19 rfl) ?_
      obtain ⟨c3, h⟩ := q_k h
      refine ri_iald (zLs hL 4 rfl) (by decide) rfl c3 (dq dM_element 20 rfl) ?_
      refine zi_bipush (v := 9) (dq dM_element 21 rfl) (by decide) ?_
      refine zi_icmp_ne (tgt := 48) (dq dM_element 22 rfl) (by decide) (fun c => ?_) (fun c => ?_)
      · have h := q_f c h
        refine zi_iconst (v := 1) (dq dM_element 25 rfl) (by decide) ?_
        exact zG_lv (zs_c 0 rfl (zs_c 1 rfl (zs_c 2 rfl (zs_c 3 rfl zs_n)))) (SM_element_49 hL h hd hK12)
      · have h := q_t c h
        refine zi_iconst (v := 0) (dq dM_element 23 rfl) (by decide) ?_
        refine zi_goto (tgt := 49) (dq dM_element 24 rfl) (by decide) ?_
        exact zG_lv (zs_c 0 rfl (zs_c 1 rfl (zs_c 2 rfl (zs_c 3 rfl zs_n)))) (SM_element_49 hL h hd hK12)
def FM_element (N : Nat) (l1 : Int32) (l2 : Int32) (l3 : Int32) (J : zJ) : Option (Unit × zJ) :=
  qfix (FM_element_12 N) N (l1, l2, l3, 1, J)
theorem SM_element {g : zg} {d N : Nat} {M0 : zM} {A : Nat} {r : Unit} {J1 : zJ} {J : zJ} {l1 : Int32} {l2 : Int32} {l3 : Int32} (hL : zLy M0 A mShL mRf) (h : FM_element N l1 l2 l3 J = some (r, J1)) (hd : 5 ≤ d) : zEv g d mM_element [va_rf (some (A + 0)), .int l1, .int l2, .int l3] (zmm M0 A 40 J) (fun Mq => Mq = zmm M0 A 40 J1) := by
  unfold FM_element at h
  refine zEu_q (r := r) (lv := [(0, va_rf (some (A + 0))), (1, .int l1), (2, .int l2), (3, .int l3)]) ⟨by decide +kernel, by decide, by decide +kernel⟩ (by simp [z_cr, z_ci]) (Nat.le_of_ble_eq_true rfl) rfl ?_
  refine zi_iload_n 1 (dq dM_element 0 rfl) rfl ?_
  refine zi_istC (lv' := [(4, _), (0, _), (1, _), (2, _), (3, _)]) (dq dM_element 1 rfl) (by decide) (by simp [z_cr, z_ci]) rfl ?_
  refine zi_iload_n 3 (dq dM_element 2 rfl) rfl ?_
  refine zi_istC (lv' := [(5, _), (4, _), (0, _), (1, _), (2, _), (3, _)]) (dq dM_element 3 rfl) (by decide) (by simp [z_cr, z_ci]) rfl ?_
  refine zi_iload_n 5 (dq dM_element 4 rfl) rfl ?_
  refine zi_istC (lv' := [(6, _), (5, _), (4, _), (0, _), (1, _), (2, _), (3, _)]) (dq dM_element 5 rfl) (by decide) (by simp [z_cr, z_ci]) rfl ?_
  refine zi_iconst (v := 1) (dq dM_element 6 rfl) (by decide) ?_
  refine zi_istC (lv' := [(7, _), (6, _), (5, _), (4, _), (0, _), (1, _), (2, _), (3, _)]) (dq dM_element 7 rfl) (by decide) (by simp [z_cr, z_ci]) rfl ?_
  exact zG_lv (zs_c 4 rfl (zs_c 3 rfl (zs_c 2 rfl (zs_c 1 rfl (zs_c 0 rfl zs_n))))) (SM_element_12 hL hd  _ _ h)
