/-! THE REFERENCE AS FUNCTIONS, 4 (tools/genM.py) -/
def FM_settle_45 (N : Nat) (K7 : (Int32 × zJ) → Option (Unit × zJ)) (l1 : Int32) (l2 : Int32) (J : zJ) : Option (Unit × zJ) :=
  qk (qi l1 100) <|
  let J2 := zu J 26 l1.toNatClampNeg (l2 - l1)
  let y3 := l1 + (-1)
  K7 (y3, J2)
theorem SM_settle_45 {g : zg} {d N : Nat} {M0 : zM} {A : Nat} {r : Unit} {J1 : zJ} {J : zJ} {K7 : (Int32 × zJ) → Option (Unit × zJ)} {l1 : Int32} {l2 : Int32} (hL : zLy M0 A mShL mRf) (h : FM_settle_45 N K7 l1 l2 J = some (r, J1)) (hd : 0 ≤ d) (hK7 : ∀ s, K7 s = some (r, J1) → zG g d mM_settle (zPq (rU r) (zmm M0 A 40 J1)) (zmm M0 A 40 s.2) 7 [(0, va_rf (some (A + 0))), (1, .int s.1)] []) : zG g d mM_settle (zPq (rU r) (zmm M0 A 40 J1)) (zmm M0 A 40 J) 45 [(0, va_rf (some (A + 0))), (1, .int l1), (2, .int l2)] [] := by
  unfold FM_settle_45 at h
  refine zi_aload_n 0 (dq dM_settle 29 rfl) rfl ?_
  refine ri_getr (zLs hL 0 rfl) (zLr hL 25 rfl) fM_87 (dq dM_settle 30 rfl) ?_
  refine zi_iload_n 1 (dq dM_settle 31 rfl) rfl ?_
  refine zi_iload_n 2 (dq dM_settle 32 rfl) rfl ?_
  refine zi_iload_n 1 (dq dM_settle 33 rfl) rfl ?_
  refine zi_isub (dq dM_settle 34 rfl) ?_
  obtain ⟨c1, h⟩ := q_k h
  refine ri_iast (zLs hL 26 rfl) (by decide) rfl c1 (dq dM_settle 35 rfl) ?_
  refine zi_iincC (v := _ + (-1)) (lv' := [(1, _), (0, _), (2, _)]) 1 (dq dM_settle 36 rfl) rfl rfl (by decide) (by simp [z_cr, z_ci]) rfl ?_
  refine zi_goto (tgt := 7) (dq dM_settle 37 rfl) (by decide) ?_
  exact zG_lv (zs_c 1 rfl (zs_c 0 rfl zs_n)) (hK7 _ h)
def FM_settle_15 (N : Nat) (K7 : (Int32 × zJ) → Option (Unit × zJ)) (l1 : Int32) (K15 : (Int32 × zJ) → Option (Unit × zJ)) (s : Int32 × zJ) : Option (Unit × zJ) :=
  let l2 := s.1
  let J := s.2
  if (J 0 34) ≤ l2 then
    FM_settle_45 N K7 l1 l2 J
  else
    qk (qi l2 100) <|
    if (J 24 l2.toNatClampNeg) = l1 then
      qk (qi l2 100) <|
      let y3 := l2 + (J 26 l2.toNatClampNeg)
      K15 (y3, J)
    else
      FM_settle_45 N K7 l1 l2 J
theorem SM_settle_15 {g : zg} {d N : Nat} {M0 : zM} {A : Nat} {r : Unit} {J1 : zJ} {K7 : (Int32 × zJ) → Option (Unit × zJ)} {l1 : Int32} (hL : zLy M0 A mShL mRf) (hd : 0 ≤ d) (hK7 : ∀ s, K7 s = some (r, J1) → zG g d mM_settle (zPq (rU r) (zmm M0 A 40 J1)) (zmm M0 A 40 s.2) 7 [(0, va_rf (some (A + 0))), (1, .int s.1)] []) : ∀ n s, qfix (FM_settle_15 N K7 l1) n s = some (r, J1) → zG g d mM_settle (zPq (rU r) (zmm M0 A 40 J1)) (zmm M0 A 40 s.2) 15 [(0, va_rf (some (A + 0))), (1, .int l1), (2, .int s.1)] [] := by
  refine qfix_sound (fun K15 hK15 s h => ?_)
  unfold FM_settle_15 at h
  refine zi_iload_n 2 (dq dM_settle 11 rfl) rfl ?_
  refine zi_aload_n 0 (dq dM_settle 12 rfl) rfl ?_
  refine ri_geti (zLs hL 0 rfl) (by decide) fM_233 (dq dM_settle 13 rfl) ?_
  refine zi_icmp_ge (tgt := 45) (dq dM_settle 14 rfl) (by decide) (fun c => ?_) (fun c => ?_)
  · have h := q_t c h
    exact zG_lv (zs_c 0 rfl (zs_c 1 rfl (zs_c 2 rfl zs_n))) (SM_settle_45 hL h hd hK7)
  · have h := q_f c h
    refine zi_aload_n 0 (dq dM_settle 15 rfl) rfl ?_
    refine ri_getr (zLs hL 0 rfl) (zLr hL 23 rfl) fM_81 (dq dM_settle 16 rfl) ?_
    refine zi_iload_n 2 (dq dM_settle 17 rfl) rfl ?_
    obtain ⟨c1, h⟩ := q_k h
    refine ri_iald (zLs hL 24 rfl) (by decide) rfl c1 (dq dM_settle 18 rfl) ?_
    refine zi_iload_n 1 (dq dM_settle 19 rfl) rfl ?_
    refine zi_icmp_ne (tgt := 45) (dq dM_settle 20 rfl) (by decide) (fun c => ?_) (fun c => ?_)
    · have h := q_f c h
      exact zG_lv (zs_c 0 rfl (zs_c 1 rfl (zs_c 2 rfl zs_n))) (SM_settle_45 hL h hd hK7)
    · have h := q_t c h
      refine zi_iload_n 2 (dq dM_settle 21 rfl) rfl ?_
      refine zi_aload_n 0 (dq dM_settle 22 rfl) rfl ?_
      refine ri_getr (zLs hL 0 rfl) (zLr hL 25 rfl) fM_87 (dq dM_settle 23 rfl) ?_
      refine zi_iload_n 2 (dq dM_settle 24 rfl) rfl ?_
      obtain ⟨c2, h⟩ := q_k h
      refine ri_iald (zLs hL 26 rfl) (by decide) rfl c2 (dq dM_settle 25 rfl) ?_
      refine zi_iadd (dq dM_settle 26 rfl) ?_
      refine zi_istC_n (lv' := [(2, _), (0, _), (1, _)]) (dq dM_settle 27 rfl) (by decide) (by simp [z_cr, z_ci]) rfl ?_
      refine zi_goto (tgt := 15) (dq dM_settle 28 rfl) (by decide) ?_
      exact zG_lv (zs_c 1 rfl (zs_c 2 rfl (zs_c 0 rfl zs_n))) (hK15 _ h)
def FM_settle_7 (N : Nat) (K7 : (Int32 × zJ) → Option (Unit × zJ)) (s : Int32 × zJ) : Option (Unit × zJ) :=
  let l1 := s.1
  let J := s.2
  if l1 < 0 then
    some ((), J)
  else
    let y1 := l1 + 1
    qfix (FM_settle_15 N K7 l1) N (y1, J)
theorem SM_settle_7 {g : zg} {d N : Nat} {M0 : zM} {A : Nat} {r : Unit} {J1 : zJ}   (hL : zLy M0 A mShL mRf) (hd : 0 ≤ d)  : ∀ n s, qfix (FM_settle_7 N) n s = some (r, J1) → zG g d mM_settle (zPq (rU r) (zmm M0 A 40 J1)) (zmm M0 A 40 s.2) 7 [(0, va_rf (some (A + 0))), (1, .int s.1)] [] := by
  refine qfix_sound (fun K7 hK7 s h => ?_)
  unfold FM_settle_7 at h
  refine zi_iload_n 1 (dq dM_settle 5 rfl) rfl ?_
  refine zi_if_lt (tgt := 60) (dq dM_settle 6 rfl) (by decide) (fun c => ?_) (fun c => ?_)
  · have h := q_t c h
    exact zi_return rfl (dq dM_settle 38 rfl) (q_ru h)
  · have h := q_f c h
    refine zi_iload_n 1 (dq dM_settle 7 rfl) rfl ?_
    refine zi_iconst (v := 1) (dq dM_settle 8 rfl) (by decide) ?_
    refine zi_iadd (dq dM_settle 9 rfl) ?_
    refine zi_istC_n (lv' := [(2, _), (0, _), (1, _)]) (dq dM_settle 10 rfl) (by decide) (by simp [z_cr, z_ci]) rfl ?_
    exact zG_lv (zs_c 1 rfl (zs_c 2 rfl (zs_c 0 rfl zs_n))) (SM_settle_15 hL hd hK7 _ _ h)
def FM_settle (N : Nat) (J : zJ) : Option (Unit × zJ) :=
  let y1 := (J 0 34) - 1
  qfix (FM_settle_7 N) N (y1, J)
theorem SM_settle {g : zg} {d N : Nat} {M0 : zM} {A : Nat} {r : Unit} {J1 : zJ} {J : zJ}  (hL : zLy M0 A mShL mRf) (h : FM_settle N J = some (r, J1)) (hd : 0 ≤ d) : zEv g d mM_settle [va_rf (some (A + 0))] (zmm M0 A 40 J) (fun Mq => Mq = zmm M0 A 40 J1) := by
  unfold FM_settle at h
  refine zEu_q (r := r) (lv := [(0, va_rf (some (A + 0)))]) ⟨by decide +kernel, by decide, by decide +kernel⟩ (by simp [z_cr, z_ci]) (Nat.le_of_ble_eq_true rfl) rfl ?_
  refine zi_aload_n 0 (dq dM_settle 0 rfl) rfl ?_
  refine ri_geti (zLs hL 0 rfl) (by decide) fM_233 (dq dM_settle 1 rfl) ?_
  refine zi_iconst (v := 1) (dq dM_settle 2 rfl) (by decide) ?_
  refine zi_isub (dq dM_settle 3 rfl) ?_
  refine zi_istC_n (lv' := [(1, _), (0, _)]) (dq dM_settle 4 rfl) (by decide) (by simp [z_cr, z_ci]) rfl ?_
  exact zG_lv (zs_c 1 rfl (zs_c 0 rfl zs_n)) (SM_settle_7 hL hd  _ _ h)
def FM_bring_31 (N : Nat) (K4 : (Int32 × zJ) → Option (Unit × zJ)) (l1 : Int32) (l3 : Int32) (J : zJ) : Option (Unit × zJ) :=
  qk (qi ((J 0 30) / 8) 4000) <|
  qk (qi ((J 0 30) / 8) 4000) <|
  let J3 := zu J 20 ((J 0 30) / 8).toNatClampNeg ((J 20 ((J 0 30) / 8).toNatClampNeg) ||| (((l1 >>> (l3 &&& 31)) &&& 1) <<< ((7 - ((J 0 30) - (J 0 30) / 8 * 8)) &&& 31)))
  let J4 := zu J3 0 30 ((J3 0 30) + 1)
  let y5 := l3 + (-1)
  K4 (y5, J4)
theorem SM_bring_31 {g : zg} {d N : Nat} {M0 : zM} {A : Nat} {r : Unit} {J1 : zJ} {J : zJ} {K4 : (Int32 × zJ) → Option (Unit × zJ)} {l1 : Int32} {l3 : Int32} (hL : zLy M0 A mShL mRf) (h : FM_bring_31 N K4 l1 l3 J = some (r, J1)) (hd : 0 ≤ d) (hK4 : ∀ s, K4 s = some (r, J1) → zG g d mM_bring (zPq (rU r) (zmm M0 A 40 J1)) (zmm M0 A 40 s.2) 4 [(0, va_rf (some (A + 0))), (1, .int l1), (3, .int s.1)] []) : zG g d mM_bring (zPq (rU r) (zmm M0 A 40 J1)) (zmm M0 A 40 J) 31 [(0, va_rf (some (A + 0))), (1, .int l1), (3, .int l3)] [] := by
  unfold FM_bring_31 at h
  refine zi_aload_n 0 (dq dM_bring 19 rfl) rfl ?_
  refine ri_getr (zLs hL 0 rfl) (zLr hL 19 rfl) fM_69 (dq dM_bring 20 rfl) ?_
  refine zi_aload_n 0 (dq dM_bring 21 rfl) rfl ?_
  refine ri_geti (zLs hL 0 rfl) (by decide) fM_341 (dq dM_bring 22 rfl) ?_
  refine zi_bipush (v := 8) (dq dM_bring 23 rfl) (by decide) ?_
  refine zi_idiv (by decide) (dq dM_bring 24 rfl) ?_
  refine zi_aload_n 0 (dq dM_bring 25 rfl) rfl ?_
  refine ri_getr (zLs hL 0 rfl) (zLr hL 19 rfl) fM_69 (dq dM_bring 26 rfl) ?_
  refine zi_aload_n 0 (dq dM_bring 27 rfl) rfl ?_
  refine ri_geti (zLs hL 0 rfl) (by decide) fM_341 (dq dM_bring 28 rfl) ?_
  refine zi_bipush (v := 8) (dq dM_bring 29 rfl) (by decide) ?_
  refine zi_idiv (by decide) (dq dM_bring 30 rfl) ?_
  obtain ⟨c1, h⟩ := q_k h
  refine ri_iald (zLs hL 20 rfl) (by decide) rfl c1 (dq dM_bring 31 rfl) ?_
  refine zi_iload_n 1 (dq dM_bring 32 rfl) rfl ?_
  refine zi_iload_n 2 (dq dM_bring 33 rfl) rfl ?_
  refine zi_ishr (dq dM_bring 34 rfl) ?_
  refine zi_iconst (v := 1) (dq dM_bring 35 rfl) (by decide) ?_
  refine zi_iand (dq dM_bring 36 rfl) ?_
  refine zi_bipush (v := 7) (dq dM_bring 37 rfl) (by decide) ?_
  refine zi_aload_n 0 (dq dM_bring 38 rfl) rfl ?_
  refine ri_geti (zLs hL 0 rfl) (by decide) fM_341 (dq dM_bring 39 rfl) ?_
  refine zi_bipush (v := 8) (dq dM_bring 40 rfl) (by decide) ?_
  refine zi_irem (by decide) (dq dM_bring 41 rfl) ?_
  refine zi_isub (dq dM_bring 42 rfl) ?_
  refine zi_ishl (dq dM_bring 43 rfl) ?_
  refine zi_ior (dq dM_bring 44 rfl) ?_
  obtain ⟨c2, h⟩ := q_k h
  refine ri_iast (zLs hL 20 rfl) (by decide) rfl c2 (dq dM_bring 45 rfl) ?_
  refine zi_aload_n 0 (dq dM_bring 46 rfl) rfl ?_
  refine zi_dup (dq dM_bring 47 rfl) (by first | rfl | exact z_cr _) ?_
  refine ri_geti (zLs hL 0 rfl) (by decide) fM_341 (dq dM_bring 48 rfl) ?_
  refine zi_iconst (v := 1) (dq dM_bring 49 rfl) (by decide) ?_
  refine zi_iadd (dq dM_bring 50 rfl) ?_
  refine ri_puti (zLs hL 0 rfl) (by decide) fM_341 (fun h => by cases h) rfl rfl (dq dM_bring 51 rfl) ?_
  refine zi_iincC (v := _ + (-1)) (lv' := [(3, _), (0, _), (1, _)]) 2 (dq dM_bring 52 rfl) rfl rfl (by decide) (by simp [z_cr, z_ci]) rfl ?_
  refine zi_goto (tgt := 4) (dq dM_bring 53 rfl) (by decide) ?_
  exact zG_lv (zs_c 1 rfl (zs_c 2 rfl (zs_c 0 rfl zs_n))) (hK4 _ h)
def FM_bring_4 (N : Nat) (l1 : Int32) (K4 : (Int32 × zJ) → Option (Unit × zJ)) (s : Int32 × zJ) : Option (Unit × zJ) :=
  let l3 := s.1
  let J := s.2
  if l3 < 0 then
    some ((), J)
  else
    if ((J 0 30) - (J 0 30) / 8 * 8) = 0 then
      qk (qi ((J 0 30) / 8) 4000) <|
      let J2 := zu J 20 ((J 0 30) / 8).toNatClampNeg 0
      FM_bring_31 N K4 l1 l3 J2
    else
      FM_bring_31 N K4 l1 l3 J
theorem SM_bring_4 {g : zg} {d N : Nat} {M0 : zM} {A : Nat} {r : Unit} {J1 : zJ}  {l1 : Int32} (hL : zLy M0 A mShL mRf) (hd : 0 ≤ d)  : ∀ n s, qfix (FM_bring_4 N l1) n s = some (r, J1) → zG g d mM_bring (zPq (rU r) (zmm M0 A 40 J1)) (zmm M0 A 40 s.2) 4 [(0, va_rf (some (A + 0))), (1, .int l1), (3, .int s.1)] [] := by
  refine qfix_sound (fun K4 hK4 s h => ?_)
  unfold FM_bring_4 at h
  refine zi_iload_n 2 (dq dM_bring 4 rfl) rfl ?_
  refine zi_if_lt (tgt := 88) (dq dM_bring 5 rfl) (by decide) (fun c => ?_) (fun c => ?_)
  · have h := q_t c h
    exact zi_return rfl (dq dM_bring 54 rfl) (q_ru h)
  · have h := q_f c h
    refine zi_aload_n 0 (dq dM_bring 6 rfl) rfl ?_
    refine ri_geti (zLs hL 0 rfl) (by decide) fM_341 (dq dM_bring 7 rfl) ?_
    refine zi_bipush (v := 8) (dq dM_bring 8 rfl) (by decide) ?_
    refine zi_irem (by decide) (dq dM_bring 9 rfl) ?_
    refine zi_if_ne (tgt := 31) (dq dM_bring 10 rfl) (by decide) (fun c => ?_) (fun c => ?_)
    · have h := q_f c h
      exact zG_lv (zs_c 0 rfl (zs_c 1 rfl (zs_c 2 rfl zs_n))) (SM_bring_31 hL h hd hK4)
    · have h := q_t c h
      refine zi_aload_n 0 (dq dM_bring 11 rfl) rfl ?_
      refine ri_getr (zLs hL 0 rfl) (zLr hL 19 rfl) fM_69 (dq dM_bring 12 rfl) ?_
      refine zi_aload_n 0 (dq dM_bring 13 rfl) rfl ?_
      refine ri_geti (zLs hL 0 rfl) (by decide) fM_341 (dq dM_bring 14 rfl) ?_
      refine zi_bipush (v := 8) (dq dM_bring 15 rfl) (by decide) ?_
      refine zi_idiv (by decide) (dq dM_bring 16 rfl) ?_
      refine zi_iconst (v := 0) (dq dM_bring 17 rfl) (by decide) ?_
      obtain ⟨c1, h⟩ := q_k h
      refine ri_iast (zLs hL 20 rfl) (by decide) rfl c1 (dq dM_bring 18 rfl) ?_
      exact zG_lv (zs_c 0 rfl (zs_c 1 rfl (zs_c 2 rfl zs_n))) (SM_bring_31 hL h hd hK4)
def FM_bring (N : Nat) (l1 : Int32) (l2 : Int32) (J : zJ) : Option (Unit × zJ) :=
  let y1 := l2 - 1
  qfix (FM_bring_4 N l1) N (y1, J)
theorem SM_bring {g : zg} {d N : Nat} {M0 : zM} {A : Nat} {r : Unit} {J1 : zJ} {J : zJ} {l1 : Int32} {l2 : Int32} (hL : zLy M0 A mShL mRf) (h : FM_bring N l1 l2 J = some (r, J1)) (hd : 0 ≤ d) : zEv g d mM_bring [va_rf (some (A + 0)), .int l1, .int l2] (zmm M0 A 40 J) (fun Mq => Mq = zmm M0 A 40 J1) := by
  unfold FM_bring at h
  refine zEu_q (r := r) (lv := [(0, va_rf (some (A + 0))), (1, .int l1), (2, .int l2)]) ⟨by decide +kernel, by decide, by decide +kernel⟩ (by simp [z_cr, z_ci]) (Nat.le_of_ble_eq_true rfl) rfl ?_
  refine zi_iload_n 2 (dq dM_bring 0 rfl) rfl ?_
  refine zi_iconst (v := 1) (dq dM_bring 1 rfl) (by decide) ?_
  refine zi_isub (dq dM_bring 2 rfl) ?_
  refine zi_istC_n (lv' := [(3, _), (0, _), (1, _), (2, _)]) (dq dM_bring 3 rfl) (by decide) (by simp [z_cr, z_ci]) rfl ?_
  exact zG_lv (zs_c 1 rfl (zs_c 2 rfl (zs_c 0 rfl zs_n))) (SM_bring_4 hL hd  _ _ h)
def FM_make (N : Nat) (l1 : Int32) (J : zJ) : Option (Unit × zJ) :=
  let J1 := zu J 0 29 ((J 0 29) - 1)
  qk (qi (J1 0 29) 4000) <|
  let J3 := zu J1 20 (J1 0 29).toNatClampNeg l1
  some ((), J3)
theorem SM_make {g : zg} {d N : Nat} {M0 : zM} {A : Nat} {r : Unit} {J1 : zJ} {J : zJ} {l1 : Int32} (hL : zLy M0 A mShL mRf) (h : FM_make N l1 J = some (r, J1)) (hd : 0 ≤ d) : zEv g d mM_make [va_rf (some (A + 0)), .int l1] (zmm M0 A 40 J) (fun Mq => Mq = zmm M0 A 40 J1) := by
  unfold FM_make at h
  refine zEu_q (r := r) (lv := [(0, va_rf (some (A + 0))), (1, .int l1)]) ⟨by decide +kernel, by decide, by decide +kernel⟩ (by simp [z_cr, z_ci]) (Nat.le_of_ble_eq_true rfl) rfl ?_
  refine zi_aload_n 0 (dq dM_make 0 rfl) rfl ?_
  refine zi_dup (dq dM_make 1 rfl) (by first | rfl | exact z_cr _) ?_
  refine ri_geti (zLs hL 0 rfl) (by decide) fM_270 (dq dM_make 2 rfl) ?_
  refine zi_iconst (v := 1) (dq dM_make 3 rfl) (by decide) ?_
  refine zi_isub (dq dM_make 4 rfl) ?_
  refine ri_puti (zLs hL 0 rfl) (by decide) fM_270 (fun h => by cases h) rfl rfl (dq dM_make 5 rfl) ?_
  refine zi_aload_n 0 (dq dM_make 6 rfl) rfl ?_
  refine ri_getr (zLs hL 0 rfl) (zLr hL 19 rfl) fM_69 (dq dM_make 7 rfl) ?_
  refine zi_aload_n 0 (dq dM_make 8 rfl) rfl ?_
  refine ri_geti (zLs hL 0 rfl) (by decide) fM_270 (dq dM_make 9 rfl) ?_
  refine zi_iload_n 1 (dq dM_make 10 rfl) rfl ?_
  obtain ⟨c2, h⟩ := q_k h
  refine ri_iast (zLs hL 20 rfl) (by decide) rfl c2 (dq dM_make 11 rfl) ?_
  exact zi_return rfl (dq dM_make 12 rfl) (q_ru h)
def FM_encode_202 (N : Nat) (K118 : (Int32 × zJ) → Option (Unit × zJ)) (l1 : Int32) (l3 : Int32) (J : zJ) : Option (Unit × zJ) :=
  qk (qi l3 16) <|
  qb (FM_make N (J 16 l3.toNatClampNeg) J) fun v2 J3 =>
  let y4 := l3 + (1)
  K118 (y4, J3)
theorem SM_encode_202 {g : zg} {d N : Nat} {M0 : zM} {A : Nat} {r : Unit} {J1 : zJ} {J : zJ} {K118 : (Int32 × zJ) → Option (Unit × zJ)} {l1 : Int32} {l3 : Int32} (hL : zLy M0 A mShL mRf) (h : FM_encode_202 N K118 l1 l3 J = some (r, J1)) (hd : 3 ≤ d) (hK118 : ∀ s, K118 s = some (r, J1) → zG g d mM_encode (zPq (rU r) (zmm M0 A 40 J1)) (zmm M0 A 40 s.2) 118 [(0, va_rf (some (A + 0))), (1, .int l1), (3, .int s.1)] []) : zG g d mM_encode (zPq (rU r) (zmm M0 A 40 J1)) (zmm M0 A 40 J) 202 [(0, va_rf (some (A + 0))), (1, .int l1), (3, .int l3)] [] := by
  unfold FM_encode_202 at h
  refine zi_aload_n 0 (dq dM_encode 112 rfl) rfl ?_
  refine zi_aload_n 0 (dq dM_encode 113 rfl) rfl ?_
  refine ri_getr (zLs hL 0 rfl) (zLr hL 15 rfl) fM_57 (dq dM_encode 114 rfl) ?_
  refine zi_iload_n 2 (dq dM_encode 115 rfl) rfl ?_
  obtain ⟨c1, h⟩ := q_k h
  refine ri_iald (zLs hL 16 rfl) (by decide) rfl c1 (dq dM_encode 116 rfl) ?_
  obtain ⟨v2, J3, hv2, h⟩ := q_b h
  refine zi_cVv1 (SM_make hL hv2 (d := d - 1) (by omega)) wM_make aM_338 iM_make sM_make (by omega) (zLs hL 0 rfl) rfl (Nat.le_of_ble_eq_true rfl) (dq dM_encode 117 rfl) (fun _ hh => ?_)
  subst hh
  refine zi_iincC (v := _ + (1)) (lv' := [(3, _), (0, _), (1, _)]) 2 (dq dM_encode 118 rfl) rfl rfl (by decide) (by simp [z_cr, z_ci]) rfl ?_
  refine zi_goto (tgt := 118) (dq dM_encode 119 rfl) (by decide) ?_
  exact zG_lv (zs_c 1 rfl (zs_c 2 rfl (zs_c 0 rfl zs_n))) (hK118 _ h)
def FM_encode_187 (N : Nat) (K118 : (Int32 × zJ) → Option (Unit × zJ)) (l1 : Int32) (l3 : Int32) (l4 : Int32) (J : zJ) : Option (Unit × zJ) :=
  if l4 ≤ 255 then
    FM_encode_202 N K118 l1 l3 J
  else
    qb (FM_make N 130 J) fun v1 J2 =>
    FM_encode_202 N K118 l1 l3 J2
theorem SM_encode_187 {g : zg} {d N : Nat} {M0 : zM} {A : Nat} {r : Unit} {J1 : zJ} {J : zJ} {K118 : (Int32 × zJ) → Option (Unit × zJ)} {l1 : Int32} {l3 : Int32} {l4 : Int32} (hL : zLy M0 A mShL mRf) (h : FM_encode_187 N K118 l1 l3 l4 J = some (r, J1)) (hd : 3 ≤ d) (hK118 : ∀ s, K118 s = some (r, J1) → zG g d mM_encode (zPq (rU r) (zmm M0 A 40 J1)) (zmm M0 A 40 s.2) 118 [(0, va_rf (some (A + 0))), (1, .int l1), (3, .int s.1)] []) : zG g d mM_encode (zPq (rU r) (zmm M0 A 40 J1)) (zmm M0 A 40 J) 187 [(0, va_rf (some (A + 0))), (1, .int l1), (3, .int l3), (4, .int l4)] [] := by
  unfold FM_encode_187 at h
  refine zi_iload 3 (dq dM_encode 106 rfl) rfl ?_
  refine zi_sipush (v := 255) (dq dM_encode 107 rfl) (by decide) ?_
  refine zi_icmp_le (tgt := 202) (dq dM_encode 108 rfl) (by decide) (fun c => ?_) (fun c => ?_)
  · have h := q_t c h
    exact zG_lv (zs_c 0 rfl (zs_c 1 rfl (zs_c 2 rfl zs_n))) (SM_encode_202 hL h hd hK118)
  · have h := q_f c h
    refine zi_aload_n 0 (dq dM_encode 109 rfl) rfl ?_
    refine zi_sipush (v := 130) (dq dM_encode 110 rfl) (by decide) ?_
    obtain ⟨v1, J2, hv1, h⟩ := q_b h
    refine zi_cVv1 (SM_make hL hv1 (d := d - 1) (by omega)) wM_make aM_338 iM_make sM_make (by omega) (zLs hL 0 rfl) rfl (Nat.le_of_ble_eq_true rfl) (dq dM_encode 111 rfl) (fun _ hh => ?_)
    subst hh
    exact zG_lv (zs_c 0 rfl (zs_c 1 rfl (zs_c 2 rfl zs_n))) (SM_encode_202 hL h hd hK118)
def FM_encode_184 (N : Nat) (K118 : (Int32 × zJ) → Option (Unit × zJ)) (l1 : Int32) (l3 : Int32) (l4 : Int32) (t1 : Int32) (J : zJ) : Option (Unit × zJ) :=
  qb (FM_make N t1 J) fun v1 J2 =>
  FM_encode_187 N K118 l1 l3 l4 J2
theorem SM_encode_184 {g : zg} {d N : Nat} {M0 : zM} {A : Nat} {r : Unit} {J1 : zJ} {J : zJ} {K118 : (Int32 × zJ) → Option (Unit × zJ)} {l1 : Int32} {l3 : Int32} {l4 : Int32} {t1 : Int32} (hL : zLy M0 A mShL mRf) (h : FM_encode_184 N K118 l1 l3 l4 t1 J = some (r, J1)) (hd : 3 ≤ d) (hK118 : ∀ s, K118 s = some (r, J1) → zG g d mM_encode (zPq (rU r) (zmm M0 A 40 J1)) (zmm M0 A 40 s.2) 118 [(0, va_rf (some (A + 0))), (1, .int l1), (3, .int s.1)] []) : zG g d mM_encode (zPq (rU r) (zmm M0 A 40 J1)) (zmm M0 A 40 J) 184 [(0, va_rf (some (A + 0))), (1, .int l1), (3, .int l3), (4, .int l4)] [.int t1, va_rf (some (A + 0))] := by
  unfold FM_encode_184 at h
  obtain ⟨v1, J2, hv1, h⟩ := q_b h
  refine zi_cVv1 (SM_make hL hv1 (d := d - 1) (by omega)) wM_make aM_338 iM_make sM_make (by omega) (zLs hL 0 rfl) rfl (Nat.le_of_ble_eq_true rfl) (dq dM_encode 105 rfl) (fun _ hh => ?_)
  subst hh
  exact zG_lv (zs_c 0 rfl (zs_c 1 rfl (zs_c 2 rfl (zs_c 3 rfl zs_n)))) (SM_encode_187 hL h hd hK118)
def FM_encode_118 (N : Nat) (l1 : Int32) (K118 : (Int32 × zJ) → Option (Unit × zJ)) (s : Int32 × zJ) : Option (Unit × zJ) :=
  let l3 := s.1
  let J := s.2
  if (J 0 24) ≤ l3 then
    some ((), J)
  else
    qk (qi l1 100) <|
    qk (qi (l1 + (J 26 l1.toNatClampNeg)) 101) <|
    let y3 := (J 27 (l1 + (J 26 l1.toNatClampNeg)).toNatClampNeg) - (J 0 29)
    qb (FM_make N (y3 - y3 / 256 * 256) J) fun v4 J5 =>
    if y3 ≤ 127 then
      FM_encode_187 N K118 l1 l3 y3 J5
    else
      if y3 ≤ 255 then
        FM_encode_184 N K118 l1 l3 y3 129 J5
      else
        FM_encode_184 N K118 l1 l3 y3 (y3 / 256) J5
theorem SM_encode_118 {g : zg} {d N : Nat} {M0 : zM} {A : Nat} {r : Unit} {J1 : zJ}  {l1 : Int32} (hL : zLy M0 A mShL mRf) (hd : 3 ≤ d)  : ∀ n s, qfix (FM_encode_118 N l1) n s = some (r, J1) → zG g d mM_encode (zPq (rU r) (zmm M0 A 40 J1)) (zmm M0 A 40 s.2) 118 [(0, va_rf (some (A + 0))), (1, .int l1), (3, .int s.1)] [] := by
  refine qfix_sound (fun K118 hK118 s h => ?_)
  unfold FM_encode_118 at h
  refine zi_iload_n 2 (dq dM_encode 71 rfl) rfl ?_
  refine zi_aload_n 0 (dq dM_encode 72 rfl) rfl ?_
  refine ri_geti (zLs hL 0 rfl) (by decide) fM_225 (dq dM_encode 73 rfl) ?_
  refine zi_icmp_ge (tgt := 218) (dq dM_encode 74 rfl) (by decide) (fun c => ?_) (fun c => ?_)
  · have h := q_t c h
    exact zi_return rfl (dq dM_encode 120 rfl) (q_ru h)
  · have h := q_f c h
    refine zi_aload_n 0 (dq dM_encode 75 rfl) rfl ?_
    refine ri_getr (zLs hL 0 rfl) (zLr hL 26 rfl) fM_90 (dq dM_encode 76 rfl) ?_
    refine zi_iload_n 1 (dq dM_encode 77 rfl) rfl ?_
    refine zi_aload_n 0 (dq dM_encode 78 rfl) rfl ?_
    refine ri_getr (zLs hL 0 rfl) (zLr hL 25 rfl) fM_87 (dq dM_encode 79 rfl) ?_
    refine zi_iload_n 1 (dq dM_encode 80 rfl) rfl ?_
    obtain ⟨c1, h⟩ := q_k h
    refine ri_iald (zLs hL 26 rfl) (by decide) rfl c1 (dq dM_encode 81 rfl) ?_
    refine zi_iadd (dq dM_encode 82 rfl) ?_
    obtain ⟨c2, h⟩ := q_k h
    refine ri_iald (zLs hL 27 rfl) (by decide) rfl c2 (dq dM_encode 83 rfl) ?_
    refine zi_aload_n 0 (dq dM_encode 84 rfl) rfl ?_
    refine ri_geti (zLs hL 0 rfl) (by decide) fM_270 (dq dM_encode 85 rfl) ?_
    refine zi_isub (dq dM_encode 86 rfl) ?_
    refine zi_istC (lv' := [(4, _), (0, _), (1, _), (3, _)]) (dq dM_encode 87 rfl) (by decide) (by simp [z_cr, z_ci]) rfl ?_
    refine zi_aload_n 1 (dq dM_encode 88 rfl) rfl ?_
    refine zi_iload 0 (dq dM_encode 89 rfl) rfl ?_
    refine zi_sipush (v := 256) (dq dM_encode 90 rfl) (by decide) ?_
    refine zi_irem (by decide) (dq dM_encode 91 rfl) ?_
    obtain ⟨v4, J5, hv4, h⟩ := q_b h
    refine zi_cVv1 (SM_make hL hv4 (d := d - 1) (by omega)) wM_make aM_338 iM_make sM_make (by omega) (zLs hL 0 rfl) rfl (Nat.le_of_ble_eq_true rfl) (dq dM_encode 92 rfl) (fun _ hh => ?_)
    subst hh
    refine zi_iload 0 (dq dM_encode 93 rfl) rfl ?_
    refine zi_bipush (v := 127) (dq dM_encode 94 rfl) (by decide) ?_
    refine zi_icmp_le (tgt := 187) (dq dM_encode 95 rfl) (by decide) (fun c => ?_) (fun c => ?_)
    · have h := q_t c h
      exact zG_lv (zs_c 1 rfl (zs_c 2 rfl (zs_c 3 rfl (zs_c 0 rfl zs_n)))) (SM_encode_187 hL h hd hK118)
    · have h := q_f c h
      refine zi_aload_n 1 (dq dM_encode 96 rfl) rfl ?_
      refine zi_iload 0 (dq dM_encode 97 rfl) rfl ?_
      refine zi_sipush (v := 255) (dq dM_encode 98 rfl) (by decide) ?_
      refine zi_icmp_le (tgt := 181) (dq dM_encode 99 rfl) (by decide) (fun c => ?_) (fun c => ?_)
      · have h := q_t c h
        refine zi_sipush (v := 129) (dq dM_encode 104 rfl) (by decide) ?_
        exact zG_lv (zs_c 1 rfl (zs_c 2 rfl (zs_c 3 rfl (zs_c 0 rfl zs_n)))) (SM_encode_184 hL h hd hK118)
      · have h := q_f c h
        refine zi_iload 0 (dq dM_encode 100 rfl) rfl ?_
        refine zi_sipush (v := 256) (dq dM_encode 101 rfl) (by decide) ?_
        refine zi_idiv (by decide) (dq dM_encode 102 rfl) ?_
        refine zi_goto (tgt := 184) (dq dM_encode 103 rfl) (by decide) ?_
        exact zG_lv (zs_c 1 rfl (zs_c 2 rfl (zs_c 3 rfl (zs_c 0 rfl zs_n)))) (SM_encode_184 hL h hd hK118)
def FM_encode_97 (N : Nat) (l1 : Int32) (l2 : Int32) (J : zJ) : Option (Unit × zJ) :=
  if l2 = 1 then
    qk (qi l1 100) <|
    qb (FM_make N (255 * (J 22 l1.toNatClampNeg)) J) fun v2 J3 =>
    qfix (FM_encode_118 N l1) N (0, J3)
  else
    qfix (FM_encode_118 N l1) N (0, J)
theorem SM_encode_97 {g : zg} {d N : Nat} {M0 : zM} {A : Nat} {r : Unit} {J1 : zJ} {J : zJ}  {l1 : Int32} {l2 : Int32} (hL : zLy M0 A mShL mRf) (h : FM_encode_97 N l1 l2 J = some (r, J1)) (hd : 3 ≤ d)  : zG g d mM_encode (zPq (rU r) (zmm M0 A 40 J1)) (zmm M0 A 40 J) 97 [(0, va_rf (some (A + 0))), (1, .int l1), (2, .int l2)] [] := by
  unfold FM_encode_97 at h
  refine zi_iload_n 2 (dq dM_encode 58 rfl) rfl ?_
  refine zi_iconst (v := 1) (dq dM_encode 59 rfl) (by decide) ?_
  refine zi_icmp_ne (tgt := 116) (dq dM_encode 60 rfl) (by decide) (fun c => ?_) (fun c => ?_)
  · have h := q_f c h
    refine zi_iconst (v := 0) (dq dM_encode 69 rfl) (by decide) ?_
    refine zi_istC_n (lv' := [(3, _), (0, _), (1, _), (2, _)]) (dq dM_encode 70 rfl) (by decide) (by simp [z_cr, z_ci]) rfl ?_
    exact zG_lv (zs_c 1 rfl (zs_c 2 rfl (zs_c 0 rfl zs_n))) (SM_encode_118 hL hd  _ _ h)
  · have h := q_t c h
    refine zi_aload_n 0 (dq dM_encode 61 rfl) rfl ?_
    refine zi_sipush (v := 255) (dq dM_encode 62 rfl) (by decide) ?_
    refine zi_aload_n 0 (dq dM_encode 63 rfl) rfl ?_
    refine ri_getr (zLs hL 0 rfl) (zLr hL 21 rfl) fM_75 (dq dM_encode 64 rfl) ?_
    refine zi_iload_n 1 (dq dM_encode 65 rfl) rfl ?_
    obtain ⟨c1, h⟩ := q_k h
    refine ri_iald (zLs hL 22 rfl) (by decide) rfl c1 (dq dM_encode 66 rfl) ?_
    refine zi_imul (dq dM_encode 67 rfl) ?_
    obtain ⟨v2, J3, hv2, h⟩ := q_b h
    refine zi_cVv1 (SM_make hL hv2 (d := d - 1) (by omega)) wM_make aM_338 iM_make sM_make (by omega) (zLs hL 0 rfl) rfl (Nat.le_of_ble_eq_true rfl) (dq dM_encode 68 rfl) (fun _ hh => ?_)
    subst hh
    refine zi_iconst (v := 0) (dq dM_encode 69 rfl) (by decide) ?_
    refine zi_istC_n (lv' := [(3, _), (0, _), (1, _), (2, _)]) (dq dM_encode 70 rfl) (by decide) (by simp [z_cr, z_ci]) rfl ?_
    exact zG_lv (zs_c 1 rfl (zs_c 2 rfl (zs_c 0 rfl zs_n))) (SM_encode_118 hL hd  _ _ h)
def FM_encode_54 (N : Nat) (l1 : Int32) (l2 : Int32) (K54 : (Int32 × zJ) → Option (Unit × zJ)) (s : Int32 × zJ) : Option (Unit × zJ) :=
  let l3 := s.1
  let J := s.2
  qk (qi l1 100) <|
  qc (FM_bytesOf N (J 22 l1.toNatClampNeg)) fun v2 =>
  if v2 ≤ l3 then
    FM_encode_97 N l1 l2 J
  else
    if l2 = 2 then
      qk (qi l1 100) <|
      qb (FM_make N (((J 22 l1.toNatClampNeg) >>> ((8 * l3) &&& 31)) &&& 255) J) fun v4 J5 =>
      let y6 := l3 + (1)
      K54 (y6, J5)
    else
      FM_encode_97 N l1 l2 J
theorem SM_encode_54 {g : zg} {d N : Nat} {M0 : zM} {A : Nat} {r : Unit} {J1 : zJ}  {l1 : Int32} {l2 : Int32} (hL : zLy M0 A mShL mRf) (hd : 3 ≤ d)  : ∀ n s, qfix (FM_encode_54 N l1 l2) n s = some (r, J1) → zG g d mM_encode (zPq (rU r) (zmm M0 A 40 J1)) (zmm M0 A 40 s.2) 54 [(0, va_rf (some (A + 0))), (1, .int l1), (2, .int l2), (3, .int s.1)] [] := by
  refine qfix_sound (fun K54 hK54 s h => ?_)
  unfold FM_encode_54 at h
  refine zi_iload_n 3 (dq dM_encode 34 rfl) rfl ?_
  refine zi_aload_n 0 (dq dM_encode 35 rfl) rfl ?_
  refine ri_getr (zLs hL 0 rfl) (zLr hL 21 rfl) fM_75 (dq dM_encode 36 rfl) ?_
  refine zi_iload_n 1 (dq dM_encode 37 rfl) rfl ?_
  obtain ⟨c1, h⟩ := q_k h
  refine ri_iald (zLs hL 22 rfl) (by decide) rfl c1 (dq dM_encode 38 rfl) ?_
  obtain ⟨v2, hv2, h⟩ := q_c h
  refine zi_cSi1 (SM_bytesOf  hv2 (d := d - 1) (by omega)) wM_bytesOf aM_300 tM_bytesOf (by omega) (Nat.le_of_ble_eq_true rfl) (dq dM_encode 39 rfl) (fun _ _ hh => ?_)
  obtain ⟨rfl, rfl⟩ := hh
  refine zi_icmp_ge (tgt := 97) (dq dM_encode 40 rfl) (by decide) (fun c => ?_) (fun c => ?_)
  · have h := q_t c h
    exact zG_lv (zs_c 0 rfl (zs_c 1 rfl (zs_c 2 rfl zs_n))) (SM_encode_97 hL h hd )
  · have h := q_f c h
    refine zi_iload_n 2 (dq dM_encode 41 rfl) rfl ?_
    refine zi_iconst (v := 2) (dq dM_encode 42 rfl) (by decide) ?_
    refine zi_icmp_ne (tgt := 97) (dq dM_encode 43 rfl) (by decide) (fun c => ?_) (fun c => ?_)
    · have h := q_f c h
      exact zG_lv (zs_c 0 rfl (zs_c 1 rfl (zs_c 2 rfl zs_n))) (SM_encode_97 hL h hd )
    · have h := q_t c h
      refine zi_aload_n 0 (dq dM_encode 44 rfl) rfl ?_
      refine zi_aload_n 0 (dq dM_encode 45 rfl) rfl ?_
      refine ri_getr (zLs hL 0 rfl) (zLr hL 21 rfl) fM_75 (dq dM_encode 46 rfl) ?_
      refine zi_iload_n 1 (dq dM_encode 47 rfl) rfl ?_
      obtain ⟨c3, h⟩ := q_k h
      refine ri_iald (zLs hL 22 rfl) (by decide) rfl c3 (dq dM_encode 48 rfl) ?_
      refine zi_bipush (v := 8) (dq dM_encode 49 rfl) (by decide) ?_
      refine zi_iload_n 3 (dq dM_encode 50 rfl) rfl ?_
      refine zi_imul (dq dM_encode 51 rfl) ?_
      refine zi_ishr (dq dM_encode 52 rfl) ?_
      refine zi_sipush (v := 255) (dq dM_encode 53 rfl) (by decide) ?_
      refine zi_iand (dq dM_encode 54 rfl) ?_
      obtain ⟨v4, J5, hv4, h⟩ := q_b h
      refine zi_cVv1 (SM_make hL hv4 (d := d - 1) (by omega)) wM_make aM_338 iM_make sM_make (by omega) (zLs hL 0 rfl) rfl (Nat.le_of_ble_eq_true rfl) (dq dM_encode 55 rfl) (fun _ hh => ?_)
      subst hh
      refine zi_iincC (v := _ + (1)) (lv' := [(3, _), (0, _), (1, _), (2, _)]) 3 (dq dM_encode 56 rfl) rfl rfl (by decide) (by simp [z_cr, z_ci]) rfl ?_
      refine zi_goto (tgt := 54) (dq dM_encode 57 rfl) (by decide) ?_
      exact zG_lv (zs_c 1 rfl (zs_c 2 rfl (zs_c 3 rfl (zs_c 0 rfl zs_n)))) (hK54 _ h)
def FM_encode_20 (N : Nat) (l1 : Int32) (l2 : Int32) (K20 : (Int32 × zJ) → Option (Unit × zJ)) (s : Int32 × zJ) : Option (Unit × zJ) :=
  let l3 := s.1
  let J := s.2
  if l3 < 0 then
    qfix (FM_encode_54 N l1 l2) N (0, J)
  else
    if l2 = 4 then
      qk (qi l1 100) <|
      qk (qi ((J 25 l1.toNatClampNeg) + l3) 240) <|
      qb (FM_make N (J 28 ((J 25 l1.toNatClampNeg) + l3).toNatClampNeg) J) fun v3 J4 =>
      let y5 := l3 + (-1)
      K20 (y5, J4)
    else
      qfix (FM_encode_54 N l1 l2) N (0, J)
theorem SM_encode_20 {g : zg} {d N : Nat} {M0 : zM} {A : Nat} {r : Unit} {J1 : zJ}  {l1 : Int32} {l2 : Int32} (hL : zLy M0 A mShL mRf) (hd : 3 ≤ d)  : ∀ n s, qfix (FM_encode_20 N l1 l2) n s = some (r, J1) → zG g d mM_encode (zPq (rU r) (zmm M0 A 40 J1)) (zmm M0 A 40 s.2) 20 [(0, va_rf (some (A + 0))), (1, .int l1), (2, .int l2), (3, .int s.1)] [] := by
  refine qfix_sound (fun K20 hK20 s h => ?_)
  unfold FM_encode_20 at h
  refine zi_iload_n 3 (dq dM_encode 14 rfl) rfl ?_
  refine zi_if_lt (tgt := 52) (dq dM_encode 15 rfl) (by decide) (fun c => ?_) (fun c => ?_)
  · have h := q_t c h
    refine zi_iconst (v := 0) (dq dM_encode 32 rfl) (by decide) ?_
    refine zi_istC_n (lv' := [(3, _), (0, _), (1, _), (2, _)]) (dq dM_encode 33 rfl) (by decide) (by simp [z_cr, z_ci]) rfl ?_
    exact zG_lv (zs_c 1 rfl (zs_c 2 rfl (zs_c 3 rfl (zs_c 0 rfl zs_n)))) (SM_encode_54 hL hd  _ _ h)
  · have h := q_f c h
    refine zi_iload_n 2 (dq dM_encode 16 rfl) rfl ?_
    refine zi_iconst (v := 4) (dq dM_encode 17 rfl) (by decide) ?_
    refine zi_icmp_ne (tgt := 52) (dq dM_encode 18 rfl) (by decide) (fun c => ?_) (fun c => ?_)
    · have h := q_f c h
      refine zi_iconst (v := 0) (dq dM_encode 32 rfl) (by decide) ?_
      refine zi_istC_n (lv' := [(3, _), (0, _), (1, _), (2, _)]) (dq dM_encode 33 rfl) (by decide) (by simp [z_cr, z_ci]) rfl ?_
      exact zG_lv (zs_c 1 rfl (zs_c 2 rfl (zs_c 3 rfl (zs_c 0 rfl zs_n)))) (SM_encode_54 hL hd  _ _ h)
    · have h := q_t c h
      refine zi_aload_n 0 (dq dM_encode 19 rfl) rfl ?_
      refine zi_aload_n 0 (dq dM_encode 20 rfl) rfl ?_
      refine ri_getr (zLs hL 0 rfl) (zLr hL 27 rfl) fM_93 (dq dM_encode 21 rfl) ?_
      refine zi_aload_n 0 (dq dM_encode 22 rfl) rfl ?_
      refine ri_getr (zLs hL 0 rfl) (zLr hL 24 rfl) fM_84 (dq dM_encode 23 rfl) ?_
      refine zi_iload_n 1 (dq dM_encode 24 rfl) rfl ?_
      obtain ⟨c1, h⟩ := q_k h
      refine ri_iald (zLs hL 25 rfl) (by decide) rfl c1 (dq dM_encode 25 rfl) ?_
      refine zi_iload_n 3 (dq dM_encode 26 rfl) rfl ?_
      refine zi_iadd (dq dM_encode 27 rfl) ?_
      obtain ⟨c2, h⟩ := q_k h
      refine ri_iald (zLs hL 28 rfl) (by decide) rfl c2 (dq dM_encode 28 rfl) ?_
      obtain ⟨v3, J4, hv3, h⟩ := q_b h
      refine zi_cVv1 (SM_make hL hv3 (d := d - 1) (by omega)) wM_make aM_338 iM_make sM_make (by omega) (zLs hL 0 rfl) rfl (Nat.le_of_ble_eq_true rfl) (dq dM_encode 29 rfl) (fun _ hh => ?_)
      subst hh
      refine zi_iincC (v := _ + (-1)) (lv' := [(3, _), (0, _), (1, _), (2, _)]) 3 (dq dM_encode 30 rfl) rfl rfl (by decide) (by simp [z_cr, z_ci]) rfl ?_
      refine zi_goto (tgt := 20) (dq dM_encode 31 rfl) (by decide) ?_
      exact zG_lv (zs_c 1 rfl (zs_c 2 rfl (zs_c 3 rfl (zs_c 0 rfl zs_n)))) (hK20 _ h)
def FM_encode (N : Nat) (l1 : Int32) (J : zJ) : Option (Unit × zJ) :=
  qb (FM_baseOf N l1 J) fun v1 J2 =>
  qk (qi v1 160) <|
  let y4 := J2 4 v1.toNatClampNeg
  qk (qi l1 100) <|
  let y6 := (J2 22 l1.toNatClampNeg) - 1
  qfix (FM_encode_20 N l1 y4) N (y6, J2)
theorem SM_encode {g : zg} {d N : Nat} {M0 : zM} {A : Nat} {r : Unit} {J1 : zJ} {J : zJ} {l1 : Int32} (hL : zLy M0 A mShL mRf) (h : FM_encode N l1 J = some (r, J1)) (hd : 3 ≤ d) : zEv g d mM_encode [va_rf (some (A + 0)), .int l1] (zmm M0 A 40 J) (fun Mq => Mq = zmm M0 A 40 J1) := by
  unfold FM_encode at h
  refine zEu_q (r := r) (lv := [(0, va_rf (some (A + 0))), (1, .int l1)]) ⟨by decide +kernel, by decide, by decide +kernel⟩ (by simp [z_cr, z_ci]) (Nat.le_of_ble_eq_true rfl) rfl ?_
  refine zi_aload_n 0 (dq dM_encode 0 rfl) rfl ?_
  refine ri_getr (zLs hL 0 rfl) (zLr hL 3 rfl) fM_20 (dq dM_encode 1 rfl) ?_
  refine zi_aload_n 0 (dq dM_encode 2 rfl) rfl ?_
  refine zi_iload_n 1 (dq dM_encode 3 rfl) rfl ?_
  obtain ⟨v1, J2, hv1, h⟩ := q_b h
  refine zi_cVi1 (SM_baseOf hL hv1 (d := d - 1) (by omega)) wM_baseOf aM_308 iM_baseOf sM_baseOf (by omega) (zLs hL 0 rfl) rfl (Nat.le_of_ble_eq_true rfl) (dq dM_encode 4 rfl) (fun _ _ hh => ?_)
  obtain ⟨rfl, rfl⟩ := hh
  obtain ⟨c3, h⟩ := q_k h
  refine ri_iald (zLs hL 4 rfl) (by decide) rfl c3 (dq dM_encode 5 rfl) ?_
  refine zi_istC_n (lv' := [(2, _), (0, _), (1, _)]) (dq dM_encode 6 rfl) (by decide) (by simp [z_cr, z_ci]) rfl ?_
  refine zi_aload_n 1 (dq dM_encode 7 rfl) rfl ?_
  refine ri_getr (zLs hL 0 rfl) (zLr hL 21 rfl) fM_75 (dq dM_encode 8 rfl) ?_
  refine zi_iload_n 2 (dq dM_encode 9 rfl) rfl ?_
  obtain ⟨c5, h⟩ := q_k h
  refine ri_iald (zLs hL 22 rfl) (by decide) rfl c5 (dq dM_encode 10 rfl) ?_
  refine zi_iconst (v := 1) (dq dM_encode 11 rfl) (by decide) ?_
  refine zi_isub (dq dM_encode 12 rfl) ?_
  refine zi_istC_n (lv' := [(3, _), (2, _), (0, _), (1, _)]) (dq dM_encode 13 rfl) (by decide) (by simp [z_cr, z_ci]) rfl ?_
  exact zG_lv (zs_c 2 rfl (zs_c 3 rfl (zs_c 1 rfl (zs_c 0 rfl zs_n)))) (SM_encode_20 hL hd  _ _ h)
def FM_isLeft (N : Nat) (l1 : Int32) (J : zJ) : Option (Bool × zJ) :=
  qk (qi l1 100) <|
  if 0 ≤ (J 24 l1.toNatClampNeg) then
    qk (qi l1 100) <|
    qb (FM_baseOf N (J 24 l1.toNatClampNeg) J) fun v3 J4 =>
    qk (qi l1 100) <|
    let y6 := (6 * v3) + (J4 23 l1.toNatClampNeg)
    qk (qi v3 160) <|
    if (J4 4 v3.toNatClampNeg) = 6 then
      qk (qi y6 960) <|
      if (J4 14 y6.toNatClampNeg) = 2 then
        qk (qi y6 960) <|
        qk (qi l1 100) <|
        if (J4 15 y6.toNatClampNeg) = (J4 22 l1.toNatClampNeg) then
          some (true, J4)
        else
          some (false, J4)
      else
        some (false, J4)
    else
      some (false, J4)
  else
    some (false, J)
theorem SM_isLeft {g : zg} {d N : Nat} {M0 : zM} {A : Nat} {r : Bool} {J1 : zJ} {J : zJ} {l1 : Int32} (hL : zLy M0 A mShL mRf) (h : FM_isLeft N l1 J = some (r, J1)) (hd : 3 ≤ d) : zEi g d mM_isLeft [va_rf (some (A + 0)), .int l1] (zmm M0 A 40 J) (fun v Mq => v = bI r ∧ Mq = zmm M0 A 40 J1) := by
  unfold FM_isLeft at h
  refine zEb_q (r := r) (lv := [(0, va_rf (some (A + 0))), (1, .int l1)]) ⟨by decide +kernel, by decide, by decide +kernel⟩ (by simp [z_cr, z_ci]) (Nat.le_of_ble_eq_true rfl) rfl ?_
  refine zi_aload_n 0 (dq dM_isLeft 0 rfl) rfl ?_
  refine ri_getr (zLs hL 0 rfl) (zLr hL 23 rfl) fM_81 (dq dM_isLeft 1 rfl) ?_
  refine zi_iload_n 1 (dq dM_isLeft 2 rfl) rfl ?_
  obtain ⟨c1, h⟩ := q_k h
  refine ri_iald (zLs hL 24 rfl) (by decide) rfl c1 (dq dM_isLeft 3 rfl) ?_
  refine zi_if_ge (tgt := 11) (dq dM_isLeft 4 rfl) (by decide) (fun c => ?_) (fun c => ?_)
  · have h := q_t c h
    refine zi_aload_n 0 (dq dM_isLeft 7 rfl) rfl ?_
    refine zi_aload_n 0 (dq dM_isLeft 8 rfl) rfl ?_
    refine ri_getr (zLs hL 0 rfl) (zLr hL 23 rfl) fM_81 (dq dM_isLeft 9 rfl) ?_
    refine zi_iload_n 1 (dq dM_isLeft 10 rfl) rfl ?_
    obtain ⟨c2, h⟩ := q_k h
    refine ri_iald (zLs hL 24 rfl) (by decide) rfl c2 (dq dM_isLeft 11 rfl) ?_
    obtain ⟨v3, J4, hv3, h⟩ := q_b h
    refine zi_cVi1 (SM_baseOf hL hv3 (d := d - 1) (by omega)) wM_baseOf aM_308 iM_baseOf sM_baseOf (by omega) (zLs hL 0 rfl) rfl (Nat.le_of_ble_eq_true rfl) (dq dM_isLeft 12 rfl) (fun _ _ hh => ?_)
    obtain ⟨rfl, rfl⟩ := hh
    refine zi_istC_n (lv' := [(2, _), (0, _), (1, _)]) (dq dM_isLeft 13 rfl) (by decide) (by simp [z_cr, z_ci]) rfl ?_
    refine zi_bipush (v := 6) (dq dM_isLeft 14 rfl) (by decide) ?_
    refine zi_iload_n 0 (dq dM_isLeft 15 rfl) rfl ?_
    refine zi_imul (dq dM_isLeft 16 rfl) ?_
    refine zi_aload_n 1 (dq dM_isLeft 17 rfl) rfl ?_
    refine ri_getr (zLs hL 0 rfl) (zLr hL 22 rfl) fM_78 (dq dM_isLeft 18 rfl) ?_
    refine zi_iload_n 2 (dq dM_isLeft 19 rfl) rfl ?_
    obtain ⟨c5, h⟩ := q_k h
    refine ri_iald (zLs hL 23 rfl) (by decide) rfl c5 (dq dM_isLeft 20 rfl) ?_
    refine zi_iadd (dq dM_isLeft 21 rfl) ?_
    refine zi_istC_n (lv' := [(3, _), (2, _), (0, _), (1, _)]) (dq dM_isLeft 22 rfl) (by decide) (by simp [z_cr, z_ci]) rfl ?_
    refine zi_aload_n 2 (dq dM_isLeft 23 rfl) rfl ?_
    refine ri_getr (zLs hL 0 rfl) (zLr hL 3 rfl) fM_20 (dq dM_isLeft 24 rfl) ?_
    refine zi_iload_n 1 (dq dM_isLeft 25 rfl) rfl ?_
    obtain ⟨c7, h⟩ := q_k h
    refine ri_iald (zLs hL 4 rfl) (by decide) rfl c7 (dq dM_isLeft 26 rfl) ?_
    refine zi_bipush (v := 6) (dq dM_isLeft 27 rfl) (by decide) ?_
    refine zi_icmp_ne (tgt := 74) (dq dM_isLeft 28 rfl) (by decide) (fun c => ?_) (fun c => ?_)
    · have h := q_f c h
      refine zi_iconst (v := 0) (dq dM_isLeft 46 rfl) (by decide) ?_
      exact zi_ireturn rfl (by decide) (dq dM_isLeft 47 rfl) (q_rb (b := false) h)
    · have h := q_t c h
      refine zi_aload_n 2 (dq dM_isLeft 29 rfl) rfl ?_
      refine ri_getr (zLs hL 0 rfl) (zLr hL 13 rfl) fM_51 (dq dM_isLeft 30 rfl) ?_
      refine zi_iload_n 0 (dq dM_isLeft 31 rfl) rfl ?_
      obtain ⟨c8, h⟩ := q_k h
      refine ri_iald (zLs hL 14 rfl) (by decide) rfl c8 (dq dM_isLeft 32 rfl) ?_
      refine zi_iconst (v := 2) (dq dM_isLeft 33 rfl) (by decide) ?_
      refine zi_icmp_ne (tgt := 74) (dq dM_isLeft 34 rfl) (by decide) (fun c => ?_) (fun c => ?_)
      · have h := q_f c h
        refine zi_iconst (v := 0) (dq dM_isLeft 46 rfl) (by decide) ?_
        exact zi_ireturn rfl (by decide) (dq dM_isLeft 47 rfl) (q_rb (b := false) h)
      · have h := q_t c h
        refine zi_aload_n 2 (dq dM_isLeft 35 rfl) rfl ?_
        refine ri_getr (zLs hL 0 rfl) (zLr hL 14 rfl) fM_54 (dq dM_isLeft 36 rfl) ?_
        refine zi_iload_n 0 (dq dM_isLeft 37 rfl) rfl ?_
        obtain ⟨c9, h⟩ := q_k h
        refine ri_iald (zLs hL 15 rfl) (by decide) rfl c9 (dq dM_isLeft 38 rfl) ?_
        refine zi_aload_n 2 (dq dM_isLeft 39 rfl) rfl ?_
        refine ri_getr (zLs hL 0 rfl) (zLr hL 21 rfl) fM_75 (dq dM_isLeft 40 rfl) ?_
        refine zi_iload_n 3 (dq dM_isLeft 41 rfl) rfl ?_
        obtain ⟨c10, h⟩ := q_k h
        refine ri_iald (zLs hL 22 rfl) (by decide) rfl c10 (dq dM_isLeft 42 rfl) ?_
        refine zi_icmp_ne (tgt := 74) (dq dM_isLeft 43 rfl) (by decide) (fun c => ?_) (fun c => ?_)
        · have h := q_f c h
          refine zi_iconst (v := 0) (dq dM_isLeft 46 rfl) (by decide) ?_
          exact zi_ireturn rfl (by decide) (dq dM_isLeft 47 rfl) (q_rb (b := false) h)
        · have h := q_t c h
          refine zi_iconst (v := 1) (dq dM_isLeft 44 rfl) (by decide) ?_
          refine zi_goto (tgt := 75) (dq dM_isLeft 45 rfl) (by decide) ?_
          exact zi_ireturn rfl (by decide) (dq dM_isLeft 47 rfl) (q_rb (b := true) h)
  · have h := q_f c h
    refine zi_iconst (v := 0) (dq dM_isLeft 5 rfl) (by decide) ?_
    exact zi_ireturn rfl (by decide) (dq dM_isLeft 6 rfl) (q_rb (b := false) h)
def FM_fill (N : Nat) (J : zJ) : Option (Unit × zJ) :=
  if ((J 0 30) - (J 0 30) / 8 * 8) ≤ 0 then
    some ((), J)
  else
    let J1 := zu J 0 30 ((J 0 30) + (8 - ((J 0 30) - (J 0 30) / 8 * 8)))
    some ((), J1)
theorem SM_fill {g : zg} {d N : Nat} {M0 : zM} {A : Nat} {r : Unit} {J1 : zJ} {J : zJ}  (hL : zLy M0 A mShL mRf) (h : FM_fill N J = some (r, J1)) (hd : 0 ≤ d) : zEv g d mM_fill [va_rf (some (A + 0))] (zmm M0 A 40 J) (fun Mq => Mq = zmm M0 A 40 J1) := by
  unfold FM_fill at h
  refine zEu_q (r := r) (lv := [(0, va_rf (some (A + 0)))]) ⟨by decide +kernel, by decide, by decide +kernel⟩ (by simp [z_cr, z_ci]) (Nat.le_of_ble_eq_true rfl) rfl ?_
  refine zi_aload_n 0 (dq dM_fill 0 rfl) rfl ?_
  refine ri_geti (zLs hL 0 rfl) (by decide) fM_341 (dq dM_fill 1 rfl) ?_
  refine zi_bipush (v := 8) (dq dM_fill 2 rfl) (by decide) ?_
  refine zi_irem (by decide) (dq dM_fill 3 rfl) ?_
  refine zi_if_le (tgt := 29) (dq dM_fill 4 rfl) (by decide) (fun c => ?_) (fun c => ?_)
  · have h := q_t c h
    exact zi_return rfl (dq dM_fill 16 rfl) (q_ru h)
  · have h := q_f c h
    refine zi_aload_n 0 (dq dM_fill 5 rfl) rfl ?_
    refine zi_dup (dq dM_fill 6 rfl) (by first | rfl | exact z_cr _) ?_
    refine ri_geti (zLs hL 0 rfl) (by decide) fM_341 (dq dM_fill 7 rfl) ?_
    refine zi_bipush (v := 8) (dq dM_fill 8 rfl) (by decide) ?_
    refine zi_aload_n 0 (dq dM_fill 9 rfl) rfl ?_
    refine ri_geti (zLs hL 0 rfl) (by decide) fM_341 (dq dM_fill 10 rfl) ?_
    refine zi_bipush (v := 8) (dq dM_fill 11 rfl) (by decide) ?_
    refine zi_irem (by decide) (dq dM_fill 12 rfl) ?_
    refine zi_isub (dq dM_fill 13 rfl) ?_
    refine zi_iadd (dq dM_fill 14 rfl) ?_
    refine ri_puti (zLs hL 0 rfl) (by decide) fM_341 (fun h => by cases h) rfl rfl (dq dM_fill 15 rfl) ?_
    exact zi_return rfl (dq dM_fill 16 rfl) (q_ru h)
def FM_bringOf_52 (N : Nat) (t1 : Int32) (t2 : Int32) (J : zJ) : Option (Unit × zJ) :=
  qb (FM_bring N t1 t2 J) fun v1 J2 =>
  some ((), J2)
theorem SM_bringOf_52 {g : zg} {d N : Nat} {M0 : zM} {A : Nat} {r : Unit} {J1 : zJ} {J : zJ}  {t1 : Int32} {t2 : Int32} (hL : zLy M0 A mShL mRf) (h : FM_bringOf_52 N t1 t2 J = some (r, J1)) (hd : 1 ≤ d)  : zG g d mM_bringOf (zPq (rU r) (zmm M0 A 40 J1)) (zmm M0 A 40 J) 52 [] [.int t2, .int t1, va_rf (some (A + 0))] := by
  unfold FM_bringOf_52 at h
  obtain ⟨v1, J2, hv1, h⟩ := q_b h
  refine zi_cVv2 (SM_bring hL hv1 (d := d - 1) (by omega)) wM_bring aM_353 iM_bring sM_bring (by omega) (zLs hL 0 rfl) rfl (Nat.le_of_ble_eq_true rfl) (dq dM_bringOf 25 rfl) (fun _ hh => ?_)
  subst hh
  exact zi_return rfl (dq dM_bringOf 26 rfl) (q_ru h)
def FM_bringOf_17 (N : Nat) (l1 : Int32) (l2 : Int32) (l4 : Int32) (J : zJ) : Option (Unit × zJ) :=
  if 255 ≤ l4 then
    if l4 = 255 then
      FM_bringOf_52 N (l1 - l2) 8 J
    else
      FM_bringOf_52 N (l1 - l2) 16 J
  else
    qc (FM_width N l4) fun v1 =>
    FM_bringOf_52 N (l1 - l2) v1 J
theorem SM_bringOf_17 {g : zg} {d N : Nat} {M0 : zM} {A : Nat} {r : Unit} {J1 : zJ} {J : zJ}  {l1 : Int32} {l2 : Int32} {l4 : Int32} (hL : zLy M0 A mShL mRf) (h : FM_bringOf_17 N l1 l2 l4 J = some (r, J1)) (hd : 1 ≤ d)  : zG g d mM_bringOf (zPq (rU r) (zmm M0 A 40 J1)) (zmm M0 A 40 J) 17 [(0, va_rf (some (A + 0))), (1, .int l1), (2, .int l2), (4, .int l4)] [] := by
  unfold FM_bringOf_17 at h
  refine zi_aload_n 0 (dq dM_bringOf 9 rfl) rfl ?_
  refine zi_iload_n 1 (dq dM_bringOf 10 rfl) rfl ?_
  refine zi_iload_n 2 (dq dM_bringOf 11 rfl) rfl ?_
  refine zi_isub (dq dM_bringOf 12 rfl) ?_
  refine zi_iload 3 (dq dM_bringOf 13 rfl) rfl ?_
  refine zi_sipush (v := 255) (dq dM_bringOf 14 rfl) (by decide) ?_
  refine zi_icmp_ge (tgt := 37) (dq dM_bringOf 15 rfl) (by decide) (fun c => ?_) (fun c => ?_)
  · have h := q_t c h
    refine zi_iload 3 (dq dM_bringOf 19 rfl) rfl ?_
    refine zi_sipush (v := 255) (dq dM_bringOf 20 rfl) (by decide) ?_
    refine zi_icmp_ne (tgt := 50) (dq dM_bringOf 21 rfl) (by decide) (fun c => ?_) (fun c => ?_)
    · have h := q_f c h
      refine zi_bipush (v := 16) (dq dM_bringOf 24 rfl) (by decide) ?_
      exact zG_lv zs_n (SM_bringOf_52 hL h hd )
    · have h := q_t c h
      refine zi_bipush (v := 8) (dq dM_bringOf 22 rfl) (by decide) ?_
      refine zi_goto (tgt := 52) (dq dM_bringOf 23 rfl) (by decide) ?_
      exact zG_lv zs_n (SM_bringOf_52 hL h hd )
  · have h := q_f c h
    refine zi_iload 3 (dq dM_bringOf 16 rfl) rfl ?_
    obtain ⟨v1, hv1, h⟩ := q_c h
    refine zi_cSi1 (SM_width  hv1 (d := d - 1) (by omega)) wM_width aM_323 tM_width (by omega) (Nat.le_of_ble_eq_true rfl) (dq dM_bringOf 17 rfl) (fun _ _ hh => ?_)
    obtain ⟨rfl, rfl⟩ := hh
    refine zi_goto (tgt := 52) (dq dM_bringOf 18 rfl) (by decide) ?_
    exact zG_lv zs_n (SM_bringOf_52 hL h hd )
def FM_bringOf (N : Nat) (l1 : Int32) (l2 : Int32) (l3 : Int32) (J : zJ) : Option (Unit × zJ) :=
  let y1 := l3 - l2
  if y1 ≤ 254 then
    FM_bringOf_17 N l1 l2 y1 J
  else
    qb (FM_fill N J) fun v2 J3 =>
    FM_bringOf_17 N l1 l2 y1 J3
theorem SM_bringOf {g : zg} {d N : Nat} {M0 : zM} {A : Nat} {r : Unit} {J1 : zJ} {J : zJ} {l1 : Int32} {l2 : Int32} {l3 : Int32} (hL : zLy M0 A mShL mRf) (h : FM_bringOf N l1 l2 l3 J = some (r, J1)) (hd : 1 ≤ d) : zEv g d mM_bringOf [va_rf (some (A + 0)), .int l1, .int l2, .int l3] (zmm M0 A 40 J) (fun Mq => Mq = zmm M0 A 40 J1) := by
  unfold FM_bringOf at h
  refine zEu_q (r := r) (lv := [(0, va_rf (some (A + 0))), (1, .int l1), (2, .int l2), (3, .int l3)]) ⟨by decide +kernel, by decide, by decide +kernel⟩ (by simp [z_cr, z_ci]) (Nat.le_of_ble_eq_true rfl) rfl ?_
  refine zi_iload_n 3 (dq dM_bringOf 0 rfl) rfl ?_
  refine zi_iload_n 2 (dq dM_bringOf 1 rfl) rfl ?_
  refine zi_isub (dq dM_bringOf 2 rfl) ?_
  refine zi_istC (lv' := [(4, _), (0, _), (1, _), (2, _), (3, _)]) (dq dM_bringOf 3 rfl) (by decide) (by simp [z_cr, z_ci]) rfl ?_
  refine zi_iload 0 (dq dM_bringOf 4 rfl) rfl ?_
  refine zi_sipush (v := 254) (dq dM_bringOf 5 rfl) (by decide) ?_
  refine zi_icmp_le (tgt := 17) (dq dM_bringOf 6 rfl) (by decide) (fun c => ?_) (fun c => ?_)
  · have h := q_t c h
    exact zG_lv (zs_c 1 rfl (zs_c 2 rfl (zs_c 3 rfl (zs_c 0 rfl zs_n)))) (SM_bringOf_17 hL h hd )
  · have h := q_f c h
    refine zi_aload_n 1 (dq dM_bringOf 7 rfl) rfl ?_
    obtain ⟨v2, J3, hv2, h⟩ := q_b h
    refine zi_cVv0 (SM_fill hL hv2 (d := d - 1) (by omega)) wM_fill aM_356 iM_fill sM_fill (by omega) (zLs hL 0 rfl) rfl (Nat.le_of_ble_eq_true rfl) (dq dM_bringOf 8 rfl) (fun _ hh => ?_)
    subst hh
    exact zG_lv (zs_c 1 rfl (zs_c 2 rfl (zs_c 3 rfl (zs_c 0 rfl zs_n)))) (SM_bringOf_17 hL h hd )
def FM_bringCount_13 (N : Nat) (l1 : Int32) (l2 : Int32) (J : zJ) : Option (Unit × zJ) :=
  qk (qi l2 160) <|
  if (J 11 l2.toNatClampNeg) = 0 then
    qb (FM_bring N l1 8 J) fun v2 J3 =>
    some ((), J3)
  else
    qk (qi l2 160) <|
    qk (qi l2 160) <|
    qb (FM_bringOf N l1 (J 5 l2.toNatClampNeg) (J 6 l2.toNatClampNeg) J) fun v6 J7 =>
    some ((), J7)
theorem SM_bringCount_13 {g : zg} {d N : Nat} {M0 : zM} {A : Nat} {r : Unit} {J1 : zJ} {J : zJ}  {l1 : Int32} {l2 : Int32} (hL : zLy M0 A mShL mRf) (h : FM_bringCount_13 N l1 l2 J = some (r, J1)) (hd : 2 ≤ d)  : zG g d mM_bringCount (zPq (rU r) (zmm M0 A 40 J1)) (zmm M0 A 40 J) 13 [(0, va_rf (some (A + 0))), (1, .int l1), (2, .int l2)] [] := by
  unfold FM_bringCount_13 at h
  refine zi_aload_n 0 (dq dM_bringCount 7 rfl) rfl ?_
  refine ri_getr (zLs hL 0 rfl) (zLr hL 10 rfl) fM_41 (dq dM_bringCount 8 rfl) ?_
  refine zi_iload_n 2 (dq dM_bringCount 9 rfl) rfl ?_
  obtain ⟨c1, h⟩ := q_k h
  refine ri_zald (zLs hL 11 rfl) (by decide) rfl c1 (dq dM_bringCount 10 rfl) ?_
  refine zi_if_eq (tgt := 42) (dq dM_bringCount 11 rfl) (by decide) (fun c => ?_) (fun c => ?_)
  · have h := q_t c h
    refine zi_aload_n 0 (dq dM_bringCount 24 rfl) rfl ?_
    refine zi_iload_n 1 (dq dM_bringCount 25 rfl) rfl ?_
    refine zi_bipush (v := 8) (dq dM_bringCount 26 rfl) (by decide) ?_
    obtain ⟨v2, J3, hv2, h⟩ := q_b h
    refine zi_cVv2 (SM_bring hL hv2 (d := d - 1) (by omega)) wM_bring aM_353 iM_bring sM_bring (by omega) (zLs hL 0 rfl) rfl (Nat.le_of_ble_eq_true rfl) (dq dM_bringCount 27 rfl) (fun _ hh => ?_)
    subst hh
    exact zi_return rfl (dq dM_bringCount 28 rfl) (q_ru h)
  · have h := q_f c h
    refine zi_aload_n 0 (dq dM_bringCount 12 rfl) rfl ?_
    refine zi_iload_n 1 (dq dM_bringCount 13 rfl) rfl ?_
    refine zi_aload_n 0 (dq dM_bringCount 14 rfl) rfl ?_
    refine ri_getr (zLs hL 0 rfl) (zLr hL 4 rfl) fM_23 (dq dM_bringCount 15 rfl) ?_
    refine zi_iload_n 2 (dq dM_bringCount 16 rfl) rfl ?_
    obtain ⟨c4, h⟩ := q_k h
    refine ri_iald (zLs hL 5 rfl) (by decide) rfl c4 (dq dM_bringCount 17 rfl) ?_
    refine zi_aload_n 0 (dq dM_bringCount 18 rfl) rfl ?_
    refine ri_getr (zLs hL 0 rfl) (zLr hL 5 rfl) fM_26 (dq dM_bringCount 19 rfl) ?_
    refine zi_iload_n 2 (dq dM_bringCount 20 rfl) rfl ?_
    obtain ⟨c5, h⟩ := q_k h
    refine ri_iald (zLs hL 6 rfl) (by decide) rfl c5 (dq dM_bringCount 21 rfl) ?_
    obtain ⟨v6, J7, hv6, h⟩ := q_b h
    refine zi_cVv3 (SM_bringOf hL hv6 (d := d - 1) (by omega)) wM_bringOf aM_359 iM_bringOf sM_bringOf (by omega) (zLs hL 0 rfl) rfl (Nat.le_of_ble_eq_true rfl) (dq dM_bringCount 22 rfl) (fun _ hh => ?_)
    subst hh
    refine zi_goto (tgt := 49) (dq dM_bringCount 23 rfl) (by decide) ?_
    exact zi_return rfl (dq dM_bringCount 28 rfl) (q_ru h)
def FM_bringCount (N : Nat) (l1 : Int32) (l2 : Int32) (J : zJ) : Option (Unit × zJ) :=
  qk (qi l2 160) <|
  if (J 11 l2.toNatClampNeg) = 0 then
    qb (FM_fill N J) fun v2 J3 =>
    FM_bringCount_13 N l1 l2 J3
  else
    FM_bringCount_13 N l1 l2 J
theorem SM_bringCount {g : zg} {d N : Nat} {M0 : zM} {A : Nat} {r : Unit} {J1 : zJ} {J : zJ} {l1 : Int32} {l2 : Int32} (hL : zLy M0 A mShL mRf) (h : FM_bringCount N l1 l2 J = some (r, J1)) (hd : 2 ≤ d) : zEv g d mM_bringCount [va_rf (some (A + 0)), .int l1, .int l2] (zmm M0 A 40 J) (fun Mq => Mq = zmm M0 A 40 J1) := by
  unfold FM_bringCount at h
  refine zEu_q (r := r) (lv := [(0, va_rf (some (A + 0))), (1, .int l1), (2, .int l2)]) ⟨by decide +kernel, by decide, by decide +kernel⟩ (by simp [z_cr, z_ci]) (Nat.le_of_ble_eq_true rfl) rfl ?_
  refine zi_aload_n 0 (dq dM_bringCount 0 rfl) rfl ?_
  refine ri_getr (zLs hL 0 rfl) (zLr hL 10 rfl) fM_41 (dq dM_bringCount 1 rfl) ?_
  refine zi_iload_n 2 (dq dM_bringCount 2 rfl) rfl ?_
  obtain ⟨c1, h⟩ := q_k h
  refine ri_zald (zLs hL 11 rfl) (by decide) rfl c1 (dq dM_bringCount 3 rfl) ?_
  refine zi_if_ne (tgt := 13) (dq dM_bringCount 4 rfl) (by decide) (fun c => ?_) (fun c => ?_)
  · have h := q_f c h
    exact zG_lv (zs_c 0 rfl (zs_c 1 rfl (zs_c 2 rfl zs_n))) (SM_bringCount_13 hL h hd )
  · have h := q_t c h
    refine zi_aload_n 0 (dq dM_bringCount 5 rfl) rfl ?_
    obtain ⟨v2, J3, hv2, h⟩ := q_b h
    refine zi_cVv0 (SM_fill hL hv2 (d := d - 1) (by omega)) wM_fill aM_356 iM_fill sM_fill (by omega) (zLs hL 0 rfl) rfl (Nat.le_of_ble_eq_true rfl) (dq dM_bringCount 6 rfl) (fun _ hh => ?_)
    subst hh
    exact zG_lv (zs_c 0 rfl (zs_c 1 rfl (zs_c 2 rfl zs_n))) (SM_bringCount_13 hL h hd )
def FM_marks_86 (N : Nat) (K7 : (Int32 × Int32 × zJ) → Option (Unit × zJ)) (l1 : Int32) (l2 : Int32) (l3 : Int32) (l4 : Int32) (l5 : Int32) (J : zJ) : Option (Unit × zJ) :=
  if l5 = 0 then
    let y1 := l3 + 0
    let y2 := l4 + (1)
    K7 (y1, y2, J)
  else
    qk (qi l3 100) <|
    let y4 := l3 + (J 26 l3.toNatClampNeg)
    let y5 := l4 + (1)
    K7 (y4, y5, J)
theorem SM_marks_86 {g : zg} {d N : Nat} {M0 : zM} {A : Nat} {r : Unit} {J1 : zJ} {J : zJ} {K7 : (Int32 × Int32 × zJ) → Option (Unit × zJ)} {l1 : Int32} {l2 : Int32} {l3 : Int32} {l4 : Int32} {l5 : Int32} (hL : zLy M0 A mShL mRf) (h : FM_marks_86 N K7 l1 l2 l3 l4 l5 J = some (r, J1)) (hd : 4 ≤ d) (hK7 : ∀ s, K7 s = some (r, J1) → zG g d mM_marks (zPq (rU r) (zmm M0 A 40 J1)) (zmm M0 A 40 s.2.2) 7 [(0, va_rf (some (A + 0))), (1, .int l1), (2, .int l2), (3, .int s.1), (4, .int s.2.1)] []) : zG g d mM_marks (zPq (rU r) (zmm M0 A 40 J1)) (zmm M0 A 40 J) 86 [(0, va_rf (some (A + 0))), (1, .int l1), (2, .int l2), (3, .int l3), (4, .int l4), (5, .int l5)] [] := by
  unfold FM_marks_86 at h
  refine zi_iload_n 3 (dq dM_marks 51 rfl) rfl ?_
  refine zi_iload 5 (dq dM_marks 52 rfl) rfl ?_
  refine zi_if_eq (tgt := 101) (dq dM_marks 53 rfl) (by decide) (fun c => ?_) (fun c => ?_)
  · have h := q_t c h
    refine zi_iconst (v := 0) (dq dM_marks 59 rfl) (by decide) ?_
    refine zi_iadd (dq dM_marks 60 rfl) ?_
    refine zi_istC_n (lv' := [(3, _), (0, _), (1, _), (2, _), (4, _), (5, _)]) (dq dM_marks 61 rfl) (by decide) (by simp [z_cr, z_ci]) rfl ?_
    refine zi_iincC (v := _ + (1)) (lv' := [(4, _), (3, _), (0, _), (1, _), (2, _), (5, _)]) 4 (dq dM_marks 62 rfl) rfl rfl (by decide) (by simp [z_cr, z_ci]) rfl ?_
    refine zi_goto (tgt := 7) (dq dM_marks 63 rfl) (by decide) ?_
    exact zG_lv (zs_c 2 rfl (zs_c 3 rfl (zs_c 4 rfl (zs_c 1 rfl (zs_c 0 rfl zs_n))))) (hK7 _ h)
  · have h := q_f c h
    refine zi_aload_n 0 (dq dM_marks 54 rfl) rfl ?_
    refine ri_getr (zLs hL 0 rfl) (zLr hL 25 rfl) fM_87 (dq dM_marks 55 rfl) ?_
    refine zi_iload_n 3 (dq dM_marks 56 rfl) rfl ?_
    obtain ⟨c3, h⟩ := q_k h
    refine ri_iald (zLs hL 26 rfl) (by decide) rfl c3 (dq dM_marks 57 rfl) ?_
    refine zi_goto (tgt := 102) (dq dM_marks 58 rfl) (by decide) ?_
    refine zi_iadd (dq dM_marks 60 rfl) ?_
    refine zi_istC_n (lv' := [(3, _), (0, _), (1, _), (2, _), (4, _), (5, _)]) (dq dM_marks 61 rfl) (by decide) (by simp [z_cr, z_ci]) rfl ?_
    refine zi_iincC (v := _ + (1)) (lv' := [(4, _), (3, _), (0, _), (1, _), (2, _), (5, _)]) 4 (dq dM_marks 62 rfl) rfl rfl (by decide) (by simp [z_cr, z_ci]) rfl ?_
    refine zi_goto (tgt := 7) (dq dM_marks 63 rfl) (by decide) ?_
    exact zG_lv (zs_c 2 rfl (zs_c 3 rfl (zs_c 4 rfl (zs_c 1 rfl (zs_c 0 rfl zs_n))))) (hK7 _ h)
def FM_marks_82 (N : Nat) (K7 : (Int32 × Int32 × zJ) → Option (Unit × zJ)) (l1 : Int32) (l2 : Int32) (l3 : Int32) (l4 : Int32) (l5 : Int32) (t1 : Int32) (J : zJ) : Option (Unit × zJ) :=
  qb (FM_bring N t1 1 J) fun v1 J2 =>
  FM_marks_86 N K7 l1 l2 l3 l4 l5 J2
theorem SM_marks_82 {g : zg} {d N : Nat} {M0 : zM} {A : Nat} {r : Unit} {J1 : zJ} {J : zJ} {K7 : (Int32 × Int32 × zJ) → Option (Unit × zJ)} {l1 : Int32} {l2 : Int32} {l3 : Int32} {l4 : Int32} {l5 : Int32} {t1 : Int32} (hL : zLy M0 A mShL mRf) (h : FM_marks_82 N K7 l1 l2 l3 l4 l5 t1 J = some (r, J1)) (hd : 4 ≤ d) (hK7 : ∀ s, K7 s = some (r, J1) → zG g d mM_marks (zPq (rU r) (zmm M0 A 40 J1)) (zmm M0 A 40 s.2.2) 7 [(0, va_rf (some (A + 0))), (1, .int l1), (2, .int l2), (3, .int s.1), (4, .int s.2.1)] []) : zG g d mM_marks (zPq (rU r) (zmm M0 A 40 J1)) (zmm M0 A 40 J) 82 [(0, va_rf (some (A + 0))), (1, .int l1), (2, .int l2), (3, .int l3), (4, .int l4), (5, .int l5)] [.int t1, va_rf (some (A + 0))] := by
  unfold FM_marks_82 at h
  refine zi_iconst (v := 1) (dq dM_marks 49 rfl) (by decide) ?_
  obtain ⟨v1, J2, hv1, h⟩ := q_b h
  refine zi_cVv2 (SM_bring hL hv1 (d := d - 1) (by omega)) wM_bring aM_353 iM_bring sM_bring (by omega) (zLs hL 0 rfl) rfl (Nat.le_of_ble_eq_true rfl) (dq dM_marks 50 rfl) (fun _ hh => ?_)
  subst hh
  exact zG_lv (zs_c 0 rfl (zs_c 1 rfl (zs_c 2 rfl (zs_c 3 rfl (zs_c 4 rfl (zs_c 5 rfl zs_n)))))) (SM_marks_86 hL h hd hK7)
def FM_marks_46 (N : Nat) (K7 : (Int32 × Int32 × zJ) → Option (Unit × zJ)) (l1 : Int32) (l2 : Int32) (l3 : Int32) (l4 : Int32) (t0 : Int32) (J : zJ) : Option (Unit × zJ) :=
  qk (qi ((6 * l2) + l4) 960) <|
  if (J 14 ((6 * l2) + l4).toNatClampNeg) = 0 then
    FM_marks_86 N K7 l1 l2 l3 l4 t0 J
  else
    if t0 = 0 then
      FM_marks_82 N K7 l1 l2 l3 l4 t0 0 J
    else
      qb (FM_isLeft N l3 J) fun v2 J3 =>
      if (bI v2) = 0 then
        FM_marks_82 N K7 l1 l2 l3 l4 t0 1 J3
      else
        FM_marks_82 N K7 l1 l2 l3 l4 t0 0 J3
theorem SM_marks_46 {g : zg} {d N : Nat} {M0 : zM} {A : Nat} {r : Unit} {J1 : zJ} {J : zJ} {K7 : (Int32 × Int32 × zJ) → Option (Unit × zJ)} {l1 : Int32} {l2 : Int32} {l3 : Int32} {l4 : Int32} {t0 : Int32} (hL : zLy M0 A mShL mRf) (h : FM_marks_46 N K7 l1 l2 l3 l4 t0 J = some (r, J1)) (hd : 4 ≤ d) (hK7 : ∀ s, K7 s = some (r, J1) → zG g d mM_marks (zPq (rU r) (zmm M0 A 40 J1)) (zmm M0 A 40 s.2.2) 7 [(0, va_rf (some (A + 0))), (1, .int l1), (2, .int l2), (3, .int s.1), (4, .int s.2.1)] []) : zG g d mM_marks (zPq (rU r) (zmm M0 A 40 J1)) (zmm M0 A 40 J) 46 [(0, va_rf (some (A + 0))), (1, .int l1), (2, .int l2), (3, .int l3), (4, .int l4)] [.int t0] := by
  unfold FM_marks_46 at h
  refine zi_istC (lv' := [(5, _), (0, _), (1, _), (2, _), (3, _), (4, _)]) (dq dM_marks 29 rfl) (by decide) (by simp [z_cr, z_ci]) rfl ?_
  refine zi_aload_n 1 (dq dM_marks 30 rfl) rfl ?_
  refine ri_getr (zLs hL 0 rfl) (zLr hL 13 rfl) fM_51 (dq dM_marks 31 rfl) ?_
  refine zi_bipush (v := 6) (dq dM_marks 32 rfl) (by decide) ?_
  refine zi_iload_n 3 (dq dM_marks 33 rfl) rfl ?_
  refine zi_imul (dq dM_marks 34 rfl) ?_
  refine zi_iload 5 (dq dM_marks 35 rfl) rfl ?_
  refine zi_iadd (dq dM_marks 36 rfl) ?_
  obtain ⟨c1, h⟩ := q_k h
  refine ri_iald (zLs hL 14 rfl) (by decide) rfl c1 (dq dM_marks 37 rfl) ?_
  refine zi_if_eq (tgt := 86) (dq dM_marks 38 rfl) (by decide) (fun c => ?_) (fun c => ?_)
  · have h := q_t c h
    exact zG_lv (zs_c 1 rfl (zs_c 2 rfl (zs_c 3 rfl (zs_c 4 rfl (zs_c 5 rfl (zs_c 0 rfl zs_n)))))) (SM_marks_86 hL h hd hK7)
  · have h := q_f c h
    refine zi_aload_n 1 (dq dM_marks 39 rfl) rfl ?_
    refine zi_iload 0 (dq dM_marks 40 rfl) rfl ?_
    refine zi_if_eq (tgt := 81) (dq dM_marks 41 rfl) (by decide) (fun c => ?_) (fun c => ?_)
    · have h := q_t c h
      refine zi_iconst (v := 0) (dq dM_marks 48 rfl) (by decide) ?_
      exact zG_lv (zs_c 1 rfl (zs_c 2 rfl (zs_c 3 rfl (zs_c 4 rfl (zs_c 5 rfl (zs_c 0 rfl zs_n)))))) (SM_marks_82 hL h hd hK7)
    · have h := q_f c h
      refine zi_aload_n 1 (dq dM_marks 42 rfl) rfl ?_
      refine zi_iload_n 4 (dq dM_marks 43 rfl) rfl ?_
      obtain ⟨v2, J3, hv2, h⟩ := q_b h
      refine zi_cVi1 (SM_isLeft hL hv2 (d := d - 1) (by omega)) wM_isLeft aM_344 iM_isLeft sM_isLeft (by omega) (zLs hL 0 rfl) rfl (Nat.le_of_ble_eq_true rfl) (dq dM_marks 44 rfl) (fun _ _ hh => ?_)
      obtain ⟨rfl, rfl⟩ := hh
      refine zi_if_ne (tgt := 81) (dq dM_marks 45 rfl) (by decide) (fun c => ?_) (fun c => ?_)
      · have h := q_f c h
        refine zi_iconst (v := 0) (dq dM_marks 48 rfl) (by decide) ?_
        exact zG_lv (zs_c 1 rfl (zs_c 2 rfl (zs_c 3 rfl (zs_c 4 rfl (zs_c 5 rfl (zs_c 0 rfl zs_n)))))) (SM_marks_82 hL h hd hK7)
      · have h := q_t c h
        refine zi_iconst (v := 1) (dq dM_marks 46 rfl) (by decide) ?_
        refine zi_goto (tgt := 82) (dq dM_marks 47 rfl) (by decide) ?_
        exact zG_lv (zs_c 1 rfl (zs_c 2 rfl (zs_c 3 rfl (zs_c 4 rfl (zs_c 5 rfl (zs_c 0 rfl zs_n)))))) (SM_marks_82 hL h hd hK7)
def FM_marks_7 (N : Nat) (l1 : Int32) (l2 : Int32) (K7 : (Int32 × Int32 × zJ) → Option (Unit × zJ)) (s : Int32 × Int32 × zJ) : Option (Unit × zJ) :=
  let l3 := s.1
  let l4 := s.2.1
  let J := s.2.2
  qk (qi l2 160) <|
  if (J 8 l2.toNatClampNeg) ≤ l4 then
    some ((), J)
  else
    qk (qi l1 100) <|
    if (l1 + (J 26 l1.toNatClampNeg)) ≤ l3 then
      FM_marks_46 N K7 l1 l2 l3 l4 0 J
    else
      qk (qi l3 100) <|
      if (J 23 l3.toNatClampNeg) = l4 then
        FM_marks_46 N K7 l1 l2 l3 l4 1 J
      else
        FM_marks_46 N K7 l1 l2 l3 l4 0 J
theorem SM_marks_7 {g : zg} {d N : Nat} {M0 : zM} {A : Nat} {r : Unit} {J1 : zJ}  {l1 : Int32} {l2 : Int32} (hL : zLy M0 A mShL mRf) (hd : 4 ≤ d)  : ∀ n s, qfix (FM_marks_7 N l1 l2) n s = some (r, J1) → zG g d mM_marks (zPq (rU r) (zmm M0 A 40 J1)) (zmm M0 A 40 s.2.2) 7 [(0, va_rf (some (A + 0))), (1, .int l1), (2, .int l2), (3, .int s.1), (4, .int s.2.1)] [] := by
  refine qfix_sound (fun K7 hK7 s h => ?_)
  unfold FM_marks_7 at h
  refine zi_iload 4 (dq dM_marks 6 rfl) rfl ?_
  refine zi_aload_n 0 (dq dM_marks 7 rfl) rfl ?_
  refine ri_getr (zLs hL 0 rfl) (zLr hL 7 rfl) fM_32 (dq dM_marks 8 rfl) ?_
  refine zi_iload_n 2 (dq dM_marks 9 rfl) rfl ?_
  obtain ⟨c1, h⟩ := q_k h
  refine ri_iald (zLs hL 8 rfl) (by decide) rfl c1 (dq dM_marks 10 rfl) ?_
  refine zi_icmp_ge (tgt := 110) (dq dM_marks 11 rfl) (by decide) (fun c => ?_) (fun c => ?_)
  · have h := q_t c h
    exact zi_return rfl (dq dM_marks 64 rfl) (q_ru h)
  · have h := q_f c h
    refine zi_iload_n 3 (dq dM_marks 12 rfl) rfl ?_
    refine zi_iload_n 1 (dq dM_marks 13 rfl) rfl ?_
    refine zi_aload_n 0 (dq dM_marks 14 rfl) rfl ?_
    refine ri_getr (zLs hL 0 rfl) (zLr hL 25 rfl) fM_87 (dq dM_marks 15 rfl) ?_
    refine zi_iload_n 1 (dq dM_marks 16 rfl) rfl ?_
    obtain ⟨c2, h⟩ := q_k h
    refine ri_iald (zLs hL 26 rfl) (by decide) rfl c2 (dq dM_marks 17 rfl) ?_
    refine zi_iadd (dq dM_marks 18 rfl) ?_
    refine zi_icmp_ge (tgt := 45) (dq dM_marks 19 rfl) (by decide) (fun c => ?_) (fun c => ?_)
    · have h := q_t c h
      refine zi_iconst (v := 0) (dq dM_marks 28 rfl) (by decide) ?_
      exact zG_lv (zs_c 0 rfl (zs_c 1 rfl (zs_c 2 rfl (zs_c 3 rfl (zs_c 4 rfl zs_n))))) (SM_marks_46 hL h hd hK7)
    · have h := q_f c h
      refine zi_aload_n 0 (dq dM_marks 20 rfl) rfl ?_
      refine ri_getr (zLs hL 0 rfl) (zLr hL 22 rfl) fM_78 (dq dM_marks 21 rfl) ?_
      refine zi_iload_n 3 (dq dM_marks 22 rfl) rfl ?_
      obtain ⟨c3, h⟩ := q_k h
      refine ri_iald (zLs hL 23 rfl) (by decide) rfl c3 (dq dM_marks 23 rfl) ?_
      refine zi_iload 4 (dq dM_marks 24 rfl) rfl ?_
      refine zi_icmp_ne (tgt := 45) (dq dM_marks 25 rfl) (by decide) (fun c => ?_) (fun c => ?_)
      · have h := q_f c h
        refine zi_iconst (v := 0) (dq dM_marks 28 rfl) (by decide) ?_
        exact zG_lv (zs_c 0 rfl (zs_c 1 rfl (zs_c 2 rfl (zs_c 3 rfl (zs_c 4 rfl zs_n))))) (SM_marks_46 hL h hd hK7)
      · have h := q_t c h
        refine zi_iconst (v := 1) (dq dM_marks 26 rfl) (by decide) ?_
        refine zi_goto (tgt := 46) (dq dM_marks 27 rfl) (by decide) ?_
        exact zG_lv (zs_c 0 rfl (zs_c 1 rfl (zs_c 2 rfl (zs_c 3 rfl (zs_c 4 rfl zs_n))))) (SM_marks_46 hL h hd hK7)
def FM_marks (N : Nat) (l1 : Int32) (l2 : Int32) (J : zJ) : Option (Unit × zJ) :=
  let y1 := l1 + 1
  qfix (FM_marks_7 N l1 l2) N (y1, 0, J)
theorem SM_marks {g : zg} {d N : Nat} {M0 : zM} {A : Nat} {r : Unit} {J1 : zJ} {J : zJ} {l1 : Int32} {l2 : Int32} (hL : zLy M0 A mShL mRf) (h : FM_marks N l1 l2 J = some (r, J1)) (hd : 4 ≤ d) : zEv g d mM_marks [va_rf (some (A + 0)), .int l1, .int l2] (zmm M0 A 40 J) (fun Mq => Mq = zmm M0 A 40 J1) := by
  unfold FM_marks at h
  refine zEu_q (r := r) (lv := [(0, va_rf (some (A + 0))), (1, .int l1), (2, .int l2)]) ⟨by decide +kernel, by decide, by decide +kernel⟩ (by simp [z_cr, z_ci]) (Nat.le_of_ble_eq_true rfl) rfl ?_
  refine zi_iload_n 1 (dq dM_marks 0 rfl) rfl ?_
  refine zi_iconst (v := 1) (dq dM_marks 1 rfl) (by decide) ?_
  refine zi_iadd (dq dM_marks 2 rfl) ?_
  refine zi_istC_n (lv' := [(3, _), (0, _), (1, _), (2, _)]) (dq dM_marks 3 rfl) (by decide) (by simp [z_cr, z_ci]) rfl ?_
  refine zi_iconst (v := 0) (dq dM_marks 4 rfl) (by decide) ?_
  refine zi_istC (lv' := [(4, _), (3, _), (0, _), (1, _), (2, _)]) (dq dM_marks 5 rfl) (by decide) (by simp [z_cr, z_ci]) rfl ?_
  exact zG_lv (zs_c 2 rfl (zs_c 3 rfl (zs_c 4 rfl (zs_c 1 rfl (zs_c 0 rfl zs_n))))) (SM_marks_7 hL hd  _ _ h)
def FM_packed_225 (N : Nat) (l3 : Int32) (l4 : Int32) (J : zJ) : Option (Unit × zJ) :=
  if l3 = 5 then
    some ((), J)
  else
    qb (FM_fill N J) fun v1 J2 =>
    qc (FM_bytesOf N l4) fun v3 =>
    qb (FM_bring N v3 8 J2) fun v4 J5 =>
    qc (FM_bytesOf N l4) fun v6 =>
    qb (FM_bring N l4 (8 * v6) J5) fun v7 J8 =>
    some ((), J8)
theorem SM_packed_225 {g : zg} {d N : Nat} {M0 : zM} {A : Nat} {r : Unit} {J1 : zJ} {J : zJ}  {l3 : Int32} {l4 : Int32} (hL : zLy M0 A mShL mRf) (h : FM_packed_225 N l3 l4 J = some (r, J1)) (hd : 5 ≤ d)  : zG g d mM_packed (zPq (rU r) (zmm M0 A 40 J1)) (zmm M0 A 40 J) 225 [(0, va_rf (some (A + 0))), (3, .int l3), (4, .int l4)] [] := by
  unfold FM_packed_225 at h
  refine zi_iload_n 1 (dq dM_packed 126 rfl) rfl ?_
  refine zi_iconst (v := 5) (dq dM_packed 127 rfl) (by decide) ?_
  refine zi_icmp_eq (tgt := 259) (dq dM_packed 128 rfl) (by decide) (fun c => ?_) (fun c => ?_)
  · have h := q_t c h
    exact zi_return rfl (dq dM_packed 143 rfl) (q_ru h)
  · have h := q_f c h
    refine zi_aload_n 0 (dq dM_packed 129 rfl) rfl ?_
    obtain ⟨v1, J2, hv1, h⟩ := q_b h
    refine zi_cVv0 (SM_fill hL hv1 (d := d - 1) (by omega)) wM_fill aM_356 iM_fill sM_fill (by omega) (zLs hL 0 rfl) rfl (Nat.le_of_ble_eq_true rfl) (dq dM_packed 130 rfl) (fun _ hh => ?_)
    subst hh
    refine zi_aload_n 0 (dq dM_packed 131 rfl) rfl ?_
    refine zi_iload 2 (dq dM_packed 132 rfl) rfl ?_
    obtain ⟨v3, hv3, h⟩ := q_c h
    refine zi_cSi1 (SM_bytesOf  hv3 (d := d - 1) (by omega)) wM_bytesOf aM_300 tM_bytesOf (by omega) (Nat.le_of_ble_eq_true rfl) (dq dM_packed 133 rfl) (fun _ _ hh => ?_)
    obtain ⟨rfl, rfl⟩ := hh
    refine zi_bipush (v := 8) (dq dM_packed 134 rfl) (by decide) ?_
    obtain ⟨v4, J5, hv4, h⟩ := q_b h
    refine zi_cVv2 (SM_bring hL hv4 (d := d - 1) (by omega)) wM_bring aM_353 iM_bring sM_bring (by omega) (zLs hL 0 rfl) rfl (Nat.le_of_ble_eq_true rfl) (dq dM_packed 135 rfl) (fun _ hh => ?_)
    subst hh
    refine zi_aload_n 0 (dq dM_packed 136 rfl) rfl ?_
    refine zi_iload 2 (dq dM_packed 137 rfl) rfl ?_
    refine zi_bipush (v := 8) (dq dM_packed 138 rfl) (by decide) ?_
    refine zi_iload 2 (dq dM_packed 139 rfl) rfl ?_
    obtain ⟨v6, hv6, h⟩ := q_c h
    refine zi_cSi1 (SM_bytesOf  hv6 (d := d - 1) (by omega)) wM_bytesOf aM_300 tM_bytesOf (by omega) (Nat.le_of_ble_eq_true rfl) (dq dM_packed 140 rfl) (fun _ _ hh => ?_)
    obtain ⟨rfl, rfl⟩ := hh
    refine zi_imul (dq dM_packed 141 rfl) ?_
    obtain ⟨v7, J8, hv7, h⟩ := q_b h
    refine zi_cVv2 (SM_bring hL hv7 (d := d - 1) (by omega)) wM_bring aM_353 iM_bring sM_bring (by omega) (zLs hL 0 rfl) rfl (Nat.le_of_ble_eq_true rfl) (dq dM_packed 142 rfl) (fun _ hh => ?_)
    subst hh
    exact zi_return rfl (dq dM_packed 143 rfl) (q_ru h)
def FM_packed_94 (N : Nat) (l1 : Int32) (l4 : Int32) (K94 : (Int32 × zJ) → Option (Unit × zJ)) (s : Int32 × zJ) : Option (Unit × zJ) :=
  let l5 := s.1
  let J := s.2
  if l4 ≤ l5 then
    some ((), J)
  else
    qk (qi l1 100) <|
    qk (qi ((J 25 l1.toNatClampNeg) + l5) 240) <|
    qb (FM_bring N (J 28 ((J 25 l1.toNatClampNeg) + l5).toNatClampNeg) 8 J) fun v3 J4 =>
    let y5 := l5 + (1)
    K94 (y5, J4)
theorem SM_packed_94 {g : zg} {d N : Nat} {M0 : zM} {A : Nat} {r : Unit} {J1 : zJ}  {l1 : Int32} {l4 : Int32} (hL : zLy M0 A mShL mRf) (hd : 5 ≤ d)  : ∀ n s, qfix (FM_packed_94 N l1 l4) n s = some (r, J1) → zG g d mM_packed (zPq (rU r) (zmm M0 A 40 J1)) (zmm M0 A 40 s.2) 94 [(0, va_rf (some (A + 0))), (1, .int l1), (4, .int l4), (5, .int s.1)] [] := by
  refine qfix_sound (fun K94 hK94 s h => ?_)
  unfold FM_packed_94 at h
  refine zi_iload 3 (dq dM_packed 55 rfl) rfl ?_
  refine zi_iload 2 (dq dM_packed 56 rfl) rfl ?_
  refine zi_icmp_ge (tgt := 127) (dq dM_packed 57 rfl) (by decide) (fun c => ?_) (fun c => ?_)
  · have h := q_t c h
    refine zi_goto (tgt := 259) (dq dM_packed 72 rfl) (by decide) ?_
    exact zi_return rfl (dq dM_packed 143 rfl) (q_ru h)
  · have h := q_f c h
    refine zi_aload_n 0 (dq dM_packed 58 rfl) rfl ?_
    refine zi_aload_n 0 (dq dM_packed 59 rfl) rfl ?_
    refine ri_getr (zLs hL 0 rfl) (zLr hL 27 rfl) fM_93 (dq dM_packed 60 rfl) ?_
    refine zi_aload_n 0 (dq dM_packed 61 rfl) rfl ?_
    refine ri_getr (zLs hL 0 rfl) (zLr hL 24 rfl) fM_84 (dq dM_packed 62 rfl) ?_
    refine zi_iload_n 1 (dq dM_packed 63 rfl) rfl ?_
    obtain ⟨c1, h⟩ := q_k h
    refine ri_iald (zLs hL 25 rfl) (by decide) rfl c1 (dq dM_packed 64 rfl) ?_
    refine zi_iload 3 (dq dM_packed 65 rfl) rfl ?_
    refine zi_iadd (dq dM_packed 66 rfl) ?_
    obtain ⟨c2, h⟩ := q_k h
    refine ri_iald (zLs hL 28 rfl) (by decide) rfl c2 (dq dM_packed 67 rfl) ?_
    refine zi_bipush (v := 8) (dq dM_packed 68 rfl) (by decide) ?_
    obtain ⟨v3, J4, hv3, h⟩ := q_b h
    refine zi_cVv2 (SM_bring hL hv3 (d := d - 1) (by omega)) wM_bring aM_353 iM_bring sM_bring (by omega) (zLs hL 0 rfl) rfl (Nat.le_of_ble_eq_true rfl) (dq dM_packed 69 rfl) (fun _ hh => ?_)
    subst hh
    refine zi_iincC (v := _ + (1)) (lv' := [(5, _), (0, _), (1, _), (4, _)]) 3 (dq dM_packed 70 rfl) rfl rfl (by decide) (by simp [z_cr, z_ci]) rfl ?_
    refine zi_goto (tgt := 94) (dq dM_packed 71 rfl) (by decide) ?_
    exact zG_lv (zs_c 1 rfl (zs_c 2 rfl (zs_c 3 rfl (zs_c 0 rfl zs_n)))) (hK94 _ h)
def FM_packed_87 (N : Nat) (l1 : Int32) (l4 : Int32) (J : zJ) : Option (Unit × zJ) :=
  qb (FM_fill N J) fun v1 J2 =>
  qfix (FM_packed_94 N l1 l4) N (0, J2)
theorem SM_packed_87 {g : zg} {d N : Nat} {M0 : zM} {A : Nat} {r : Unit} {J1 : zJ} {J : zJ}  {l1 : Int32} {l4 : Int32} (hL : zLy M0 A mShL mRf) (h : FM_packed_87 N l1 l4 J = some (r, J1)) (hd : 5 ≤ d)  : zG g d mM_packed (zPq (rU r) (zmm M0 A 40 J1)) (zmm M0 A 40 J) 87 [(0, va_rf (some (A + 0))), (1, .int l1), (4, .int l4)] [] := by
  unfold FM_packed_87 at h
  refine zi_aload_n 0 (dq dM_packed 51 rfl) rfl ?_
  obtain ⟨v1, J2, hv1, h⟩ := q_b h
  refine zi_cVv0 (SM_fill hL hv1 (d := d - 1) (by omega)) wM_fill aM_356 iM_fill sM_fill (by omega) (zLs hL 0 rfl) rfl (Nat.le_of_ble_eq_true rfl) (dq dM_packed 52 rfl) (fun _ hh => ?_)
  subst hh
  refine zi_iconst (v := 0) (dq dM_packed 53 rfl) (by decide) ?_
  refine zi_istC (lv' := [(5, _), (0, _), (1, _), (4, _)]) (dq dM_packed 54 rfl) (by decide) (by simp [z_cr, z_ci]) rfl ?_
  exact zG_lv (zs_c 1 rfl (zs_c 2 rfl (zs_c 3 rfl (zs_c 0 rfl zs_n)))) (SM_packed_94 hL hd  _ _ h)
def FM_packed (N : Nat) (l1 : Int32) (J : zJ) : Option (Unit × zJ) :=
  qb (FM_baseOf N l1 J) fun v1 J2 =>
  qk (qi v1 160) <|
  let y4 := J2 4 v1.toNatClampNeg
  qk (qi l1 100) <|
  let y6 := J2 22 l1.toNatClampNeg
  if y4 = 1 then
    qb (FM_bring N y6 1 J2) fun v27 J28 =>
    some ((), J28)
  else
    if y4 = 4 then
      qb (FM_bringCount N y6 v1 J2) fun v21 J22 =>
      qk (qi v1 160) <|
      if (J22 11 v1.toNatClampNeg) = 0 then
        qfix (FM_packed_94 N l1 y6) N (0, J22)
      else
        if y6 ≤ 0 then
          qfix (FM_packed_94 N l1 y6) N (0, J22)
        else
          qk (qi v1 160) <|
          qk (qi v1 160) <|
          if (J22 5 v1.toNatClampNeg) = (J22 6 v1.toNatClampNeg) then
            qk (qi v1 160) <|
            if (J22 6 v1.toNatClampNeg) ≤ 2 then
              qfix (FM_packed_94 N l1 y6) N (0, J22)
            else
              FM_packed_87 N l1 y6 J22
          else
            FM_packed_87 N l1 y6 J22
    else
      if y4 = 7 then
        qb (FM_bringCount N y6 v1 J2) fun v19 J20 =>
        some ((), J20)
      else
        if y4 = 9 then
          qb (FM_rank N v1 y6 J2) fun v14 J15 =>
          qk (qi v1 160) <|
          qb (FM_bringOf N v14 0 ((J15 8 v1.toNatClampNeg) - 1) J15) fun v17 J18 =>
          some ((), J18)
        else
          if y4 = 6 then
            qb (FM_marks N l1 v1 J2) fun v12 J13 =>
            some ((), J13)
          else
            if y4 = 5 then
              FM_packed_225 N y4 y6 J2
            else
              qk (qi v1 160) <|
              if (J2 11 v1.toNatClampNeg) = 0 then
                FM_packed_225 N y4 y6 J2
              else
                qk (qi v1 160) <|
                qk (qi v1 160) <|
                qb (FM_bringOf N y6 (J2 5 v1.toNatClampNeg) (J2 6 v1.toNatClampNeg) J2) fun v10 J11 =>
                some ((), J11)
theorem SM_packed {g : zg} {d N : Nat} {M0 : zM} {A : Nat} {r : Unit} {J1 : zJ} {J : zJ} {l1 : Int32} (hL : zLy M0 A mShL mRf) (h : FM_packed N l1 J = some (r, J1)) (hd : 5 ≤ d) : zEv g d mM_packed [va_rf (some (A + 0)), .int l1] (zmm M0 A 40 J) (fun Mq => Mq = zmm M0 A 40 J1) := by
  unfold FM_packed at h
  refine zEu_q (r := r) (lv := [(0, va_rf (some (A + 0))), (1, .int l1)]) ⟨by decide +kernel, by decide, by decide +kernel⟩ (by simp [z_cr, z_ci]) (Nat.le_of_ble_eq_true rfl) rfl ?_
  refine zi_aload_n 0 (dq dM_packed 0 rfl) rfl ?_
  refine zi_iload_n 1 (dq dM_packed 1 rfl) rfl ?_
  obtain ⟨v1, J2, hv1, h⟩ := q_b h
  refine zi_cVi1 (SM_baseOf hL hv1 (d := d - 1) (by omega)) wM_baseOf aM_308 iM_baseOf sM_baseOf (by omega) (zLs hL 0 rfl) rfl (Nat.le_of_ble_eq_true rfl) (dq dM_packed 2 rfl) (fun _ _ hh => ?_)
  obtain ⟨rfl, rfl⟩ := hh
  refine zi_istC_n (lv' := [(2, _), (0, _), (1, _)]) (dq dM_packed 3 rfl) (by decide) (by simp [z_cr, z_ci]) rfl ?_
  refine zi_aload_n 1 (dq dM_packed 4 rfl) rfl ?_
  refine ri_getr (zLs hL 0 rfl) (zLr hL 3 rfl) fM_20 (dq dM_packed 5 rfl) ?_
  refine zi_iload_n 0 (dq dM_packed 6 rfl) rfl ?_
  obtain ⟨c3, h⟩ := q_k h
  refine ri_iald (zLs hL 4 rfl) (by decide) rfl c3 (dq dM_packed 7 rfl) ?_
  refine zi_istC_n (lv' := [(3, _), (2, _), (0, _), (1, _)]) (dq dM_packed 8 rfl) (by decide) (by simp [z_cr, z_ci]) rfl ?_
  refine zi_aload_n 2 (dq dM_packed 9 rfl) rfl ?_
  refine ri_getr (zLs hL 0 rfl) (zLr hL 21 rfl) fM_75 (dq dM_packed 10 rfl) ?_
  refine zi_iload_n 3 (dq dM_packed 11 rfl) rfl ?_
  obtain ⟨c5, h⟩ := q_k h
  refine ri_iald (zLs hL 22 rfl) (by decide) rfl c5 (dq dM_packed 12 rfl) ?_
  refine zi_istC (lv' := [(4, _), (3, _), (2, _), (0, _), (1, _)]) (dq dM_packed 13 rfl) (by decide) (by simp [z_cr, z_ci]) rfl ?_
  refine zi_iload_n 1 (dq dM_packed 14 rfl) rfl ?_
  refine zi_iconst (v := 1) (dq dM_packed 15 rfl) (by decide) ?_
  refine zi_icmp_ne (tgt := 36) (dq dM_packed 16 rfl) (by decide) (fun c => ?_) (fun c => ?_)
  · have h := q_f c h
    refine zi_iload_n 1 (dq dM_packed 22 rfl) rfl ?_
    refine zi_iconst (v := 4) (dq dM_packed 23 rfl) (by decide) ?_
    refine zi_icmp_ne (tgt := 130) (dq dM_packed 24 rfl) (by decide) (fun c => ?_) (fun c => ?_)
    · have h := q_f c h
      refine zi_iload_n 1 (dq dM_packed 73 rfl) rfl ?_
      refine zi_bipush (v := 7) (dq dM_packed 74 rfl) (by decide) ?_
      refine zi_icmp_ne (tgt := 146) (dq dM_packed 75 rfl) (by decide) (fun c => ?_) (fun c => ?_)
      · have h := q_f c h
        refine zi_iload_n 1 (dq dM_packed 81 rfl) rfl ?_
        refine zi_bipush (v := 9) (dq dM_packed 82 rfl) (by decide) ?_
        refine zi_icmp_ne (tgt := 175) (dq dM_packed 83 rfl) (by decide) (fun c => ?_) (fun c => ?_)
        · have h := q_f c h
          refine zi_iload_n 1 (dq dM_packed 98 rfl) rfl ?_
          refine zi_bipush (v := 6) (dq dM_packed 99 rfl) (by decide) ?_
          refine zi_icmp_ne (tgt := 190) (dq dM_packed 100 rfl) (by decide) (fun c => ?_) (fun c => ?_)
          · have h := q_f c h
            refine zi_iload_n 1 (dq dM_packed 106 rfl) rfl ?_
            refine zi_iconst (v := 5) (dq dM_packed 107 rfl) (by decide) ?_
            refine zi_icmp_eq (tgt := 225) (dq dM_packed 108 rfl) (by decide) (fun c => ?_) (fun c => ?_)
            · have h := q_t c h
              exact zG_lv (zs_c 3 rfl (zs_c 1 rfl (zs_c 0 rfl zs_n))) (SM_packed_225 hL h hd )
            · have h := q_f c h
              refine zi_aload_n 3 (dq dM_packed 109 rfl) rfl ?_
              refine ri_getr (zLs hL 0 rfl) (zLr hL 10 rfl) fM_41 (dq dM_packed 110 rfl) ?_
              refine zi_iload_n 2 (dq dM_packed 111 rfl) rfl ?_
              obtain ⟨c7, h⟩ := q_k h
              refine ri_zald (zLs hL 11 rfl) (by decide) rfl c7 (dq dM_packed 112 rfl) ?_
              refine zi_if_eq (tgt := 225) (dq dM_packed 113 rfl) (by decide) (fun c => ?_) (fun c => ?_)
              · have h := q_t c h
                exact zG_lv (zs_c 3 rfl (zs_c 1 rfl (zs_c 0 rfl zs_n))) (SM_packed_225 hL h hd )
              · have h := q_f c h
                refine zi_aload_n 3 (dq dM_packed 114 rfl) rfl ?_
                refine zi_iload 0 (dq dM_packed 115 rfl) rfl ?_
                refine zi_aload_n 3 (dq dM_packed 116 rfl) rfl ?_
                refine ri_getr (zLs hL 0 rfl) (zLr hL 4 rfl) fM_23 (dq dM_packed 117 rfl) ?_
                refine zi_iload_n 2 (dq dM_packed 118 rfl) rfl ?_
                obtain ⟨c8, h⟩ := q_k h
                refine ri_iald (zLs hL 5 rfl) (by decide) rfl c8 (dq dM_packed 119 rfl) ?_
                refine zi_aload_n 3 (dq dM_packed 120 rfl) rfl ?_
                refine ri_getr (zLs hL 0 rfl) (zLr hL 5 rfl) fM_26 (dq dM_packed 121 rfl) ?_
                refine zi_iload_n 2 (dq dM_packed 122 rfl) rfl ?_
                obtain ⟨c9, h⟩ := q_k h
                refine ri_iald (zLs hL 6 rfl) (by decide) rfl c9 (dq dM_packed 123 rfl) ?_
                obtain ⟨v10, J11, hv10, h⟩ := q_b h
                refine zi_cVv3 (SM_bringOf hL hv10 (d := d - 1) (by omega)) wM_bringOf aM_359 iM_bringOf sM_bringOf (by omega) (zLs hL 0 rfl) rfl (Nat.le_of_ble_eq_true rfl) (dq dM_packed 124 rfl) (fun _ hh => ?_)
                subst hh
                refine zi_goto (tgt := 259) (dq dM_packed 125 rfl) (by decide) ?_
                exact zi_return rfl (dq dM_packed 143 rfl) (q_ru h)
          · have h := q_t c h
            refine zi_aload_n 3 (dq dM_packed 101 rfl) rfl ?_
            refine zi_iload_n 4 (dq dM_packed 102 rfl) rfl ?_
            refine zi_iload_n 2 (dq dM_packed 103 rfl) rfl ?_
            obtain ⟨v12, J13, hv12, h⟩ := q_b h
            refine zi_cVv2 (SM_marks hL hv12 (d := d - 1) (by omega)) wM_marks aM_365 iM_marks sM_marks (by omega) (zLs hL 0 rfl) rfl (Nat.le_of_ble_eq_true rfl) (dq dM_packed 104 rfl) (fun _ hh => ?_)
            subst hh
            refine zi_goto (tgt := 259) (dq dM_packed 105 rfl) (by decide) ?_
            exact zi_return rfl (dq dM_packed 143 rfl) (q_ru h)
        · have h := q_t c h
          refine zi_aload_n 3 (dq dM_packed 84 rfl) rfl ?_
          refine zi_aload_n 3 (dq dM_packed 85 rfl) rfl ?_
          refine zi_iload_n 2 (dq dM_packed 86 rfl) rfl ?_
          refine zi_iload 0 (dq dM_packed 87 rfl) rfl ?_
          obtain ⟨v14, J15, hv14, h⟩ := q_b h
          refine zi_cVi2 (SM_rank hL hv14 (d := d - 1) (by omega)) wM_rank aM_332 iM_rank sM_rank (by omega) (zLs hL 0 rfl) rfl (Nat.le_of_ble_eq_true rfl) (dq dM_packed 88 rfl) (fun _ _ hh => ?_)
          obtain ⟨rfl, rfl⟩ := hh
          refine zi_iconst (v := 0) (dq dM_packed 89 rfl) (by decide) ?_
          refine zi_aload_n 3 (dq dM_packed 90 rfl) rfl ?_
          refine ri_getr (zLs hL 0 rfl) (zLr hL 7 rfl) fM_32 (dq dM_packed 91 rfl) ?_
          refine zi_iload_n 2 (dq dM_packed 92 rfl) rfl ?_
          obtain ⟨c16, h⟩ := q_k h
          refine ri_iald (zLs hL 8 rfl) (by decide) rfl c16 (dq dM_packed 93 rfl) ?_
          refine zi_iconst (v := 1) (dq dM_packed 94 rfl) (by decide) ?_
          refine zi_isub (dq dM_packed 95 rfl) ?_
          obtain ⟨v17, J18, hv17, h⟩ := q_b h
          refine zi_cVv3 (SM_bringOf hL hv17 (d := d - 1) (by omega)) wM_bringOf aM_359 iM_bringOf sM_bringOf (by omega) (zLs hL 0 rfl) rfl (Nat.le_of_ble_eq_true rfl) (dq dM_packed 96 rfl) (fun _ hh => ?_)
          subst hh
          refine zi_goto (tgt := 259) (dq dM_packed 97 rfl) (by decide) ?_
          exact zi_return rfl (dq dM_packed 143 rfl) (q_ru h)
      · have h := q_t c h
        refine zi_aload_n 3 (dq dM_packed 76 rfl) rfl ?_
        refine zi_iload 0 (dq dM_packed 77 rfl) rfl ?_
        refine zi_iload_n 2 (dq dM_packed 78 rfl) rfl ?_
        obtain ⟨v19, J20, hv19, h⟩ := q_b h
        refine zi_cVv2 (SM_bringCount hL hv19 (d := d - 1) (by omega)) wM_bringCount aM_362 iM_bringCount sM_bringCount (by omega) (zLs hL 0 rfl) rfl (Nat.le_of_ble_eq_true rfl) (dq dM_packed 79 rfl) (fun _ hh => ?_)
        subst hh
        refine zi_goto (tgt := 259) (dq dM_packed 80 rfl) (by decide) ?_
        exact zi_return rfl (dq dM_packed 143 rfl) (q_ru h)
    · have h := q_t c h
      refine zi_aload_n 3 (dq dM_packed 25 rfl) rfl ?_
      refine zi_iload 0 (dq dM_packed 26 rfl) rfl ?_
      refine zi_iload_n 2 (dq dM_packed 27 rfl) rfl ?_
      obtain ⟨v21, J22, hv21, h⟩ := q_b h
      refine zi_cVv2 (SM_bringCount hL hv21 (d := d - 1) (by omega)) wM_bringCount aM_362 iM_bringCount sM_bringCount (by omega) (zLs hL 0 rfl) rfl (Nat.le_of_ble_eq_true rfl) (dq dM_packed 28 rfl) (fun _ hh => ?_)
      subst hh
      refine zi_aload_n 3 (dq dM_packed 29 rfl) rfl ?_
      refine ri_getr (zLs hL 0 rfl) (zLr hL 10 rfl) fM_41 (dq dM_packed 30 rfl) ?_
      refine zi_iload_n 2 (dq dM_packed 31 rfl) rfl ?_
      obtain ⟨c23, h⟩ := q_k h
      refine ri_zald (zLs hL 11 rfl) (by decide) rfl c23 (dq dM_packed 32 rfl) ?_
      refine zi_if_eq (tgt := 91) (dq dM_packed 33 rfl) (by decide) (fun c => ?_) (fun c => ?_)
      · have h := q_t c h
        refine zi_iconst (v := 0) (dq dM_packed 53 rfl) (by decide) ?_
        refine zi_istC (lv' := [(5, _), (4, _), (3, _), (2, _), (0, _), (1, _)]) (dq dM_packed 54 rfl) (by decide) (by simp [z_cr, z_ci]) rfl ?_
        exact zG_lv (zs_c 4 rfl (zs_c 5 rfl (zs_c 1 rfl (zs_c 0 rfl zs_n)))) (SM_packed_94 hL hd  _ _ h)
      · have h := q_f c h
        refine zi_iload 0 (dq dM_packed 34 rfl) rfl ?_
        refine zi_if_le (tgt := 91) (dq dM_packed 35 rfl) (by decide) (fun c => ?_) (fun c => ?_)
        · have h := q_t c h
          refine zi_iconst (v := 0) (dq dM_packed 53 rfl) (by decide) ?_
          refine zi_istC (lv' := [(5, _), (4, _), (3, _), (2, _), (0, _), (1, _)]) (dq dM_packed 54 rfl) (by decide) (by simp [z_cr, z_ci]) rfl ?_
          exact zG_lv (zs_c 4 rfl (zs_c 5 rfl (zs_c 1 rfl (zs_c 0 rfl zs_n)))) (SM_packed_94 hL hd  _ _ h)
        · have h := q_f c h
          refine zi_aload_n 3 (dq dM_packed 36 rfl) rfl ?_
          refine ri_getr (zLs hL 0 rfl) (zLr hL 4 rfl) fM_23 (dq dM_packed 37 rfl) ?_
          refine zi_iload_n 2 (dq dM_packed 38 rfl) rfl ?_
          obtain ⟨c24, h⟩ := q_k h
          refine ri_iald (zLs hL 5 rfl) (by decide) rfl c24 (dq dM_packed 39 rfl) ?_
          refine zi_aload_n 3 (dq dM_packed 40 rfl) rfl ?_
          refine ri_getr (zLs hL 0 rfl) (zLr hL 5 rfl) fM_26 (dq dM_packed 41 rfl) ?_
          refine zi_iload_n 2 (dq dM_packed 42 rfl) rfl ?_
          obtain ⟨c25, h⟩ := q_k h
          refine ri_iald (zLs hL 6 rfl) (by decide) rfl c25 (dq dM_packed 43 rfl) ?_
          refine zi_icmp_ne (tgt := 87) (dq dM_packed 44 rfl) (by decide) (fun c => ?_) (fun c => ?_)
          · have h := q_f c h
            exact zG_lv (zs_c 3 rfl (zs_c 4 rfl (zs_c 0 rfl zs_n))) (SM_packed_87 hL h hd )
          · have h := q_t c h
            refine zi_aload_n 3 (dq dM_packed 45 rfl) rfl ?_
            refine ri_getr (zLs hL 0 rfl) (zLr hL 5 rfl) fM_26 (dq dM_packed 46 rfl) ?_
            refine zi_iload_n 2 (dq dM_packed 47 rfl) rfl ?_
            obtain ⟨c26, h⟩ := q_k h
            refine ri_iald (zLs hL 6 rfl) (by decide) rfl c26 (dq dM_packed 48 rfl) ?_
            refine zi_iconst (v := 2) (dq dM_packed 49 rfl) (by decide) ?_
            refine zi_icmp_le (tgt := 91) (dq dM_packed 50 rfl) (by decide) (fun c => ?_) (fun c => ?_)
            · have h := q_t c h
              refine zi_iconst (v := 0) (dq dM_packed 53 rfl) (by decide) ?_
              refine zi_istC (lv' := [(5, _), (4, _), (3, _), (2, _), (0, _), (1, _)]) (dq dM_packed 54 rfl) (by decide) (by simp [z_cr, z_ci]) rfl ?_
              exact zG_lv (zs_c 4 rfl (zs_c 5 rfl (zs_c 1 rfl (zs_c 0 rfl zs_n)))) (SM_packed_94 hL hd  _ _ h)
            · have h := q_f c h
              exact zG_lv (zs_c 3 rfl (zs_c 4 rfl (zs_c 0 rfl zs_n))) (SM_packed_87 hL h hd )
  · have h := q_t c h
    refine zi_aload_n 3 (dq dM_packed 17 rfl) rfl ?_
    refine zi_iload 0 (dq dM_packed 18 rfl) rfl ?_
    refine zi_iconst (v := 1) (dq dM_packed 19 rfl) (by decide) ?_
    obtain ⟨v27, J28, hv27, h⟩ := q_b h
    refine zi_cVv2 (SM_bring hL hv27 (d := d - 1) (by omega)) wM_bring aM_353 iM_bring sM_bring (by omega) (zLs hL 0 rfl) rfl (Nat.le_of_ble_eq_true rfl) (dq dM_packed 20 rfl) (fun _ hh => ?_)
    subst hh
    refine zi_goto (tgt := 259) (dq dM_packed 21 rfl) (by decide) ?_
    exact zi_return rfl (dq dM_packed 143 rfl) (q_ru h)
def FM_write_166 (N : Nat) (J : zJ) : Option (Unit × zJ) :=
  let J1 := zu J 0 29 (((J 0 30) + 7) / 8)
  some ((), J1)
theorem SM_write_166 {g : zg} {d N : Nat} {M0 : zM} {A : Nat} {r : Unit} {J1 : zJ} {J : zJ}   (hL : zLy M0 A mShL mRf) (h : FM_write_166 N J = some (r, J1)) (hd : 6 ≤ d)  : zG g d mM_write (zPq (rU r) (zmm M0 A 40 J1)) (zmm M0 A 40 J) 166 [(0, va_rf (some (A + 0)))] [] := by
  unfold FM_write_166 at h
  refine zi_aload_n 0 (dq dM_write 89 rfl) rfl ?_
  refine zi_aload_n 0 (dq dM_write 90 rfl) rfl ?_
  refine ri_geti (zLs hL 0 rfl) (by decide) fM_341 (dq dM_write 91 rfl) ?_
  refine zi_bipush (v := 7) (dq dM_write 92 rfl) (by decide) ?_
  refine zi_iadd (dq dM_write 93 rfl) ?_
  refine zi_bipush (v := 8) (dq dM_write 94 rfl) (by decide) ?_
  refine zi_idiv (by decide) (dq dM_write 95 rfl) ?_
  refine ri_puti (zLs hL 0 rfl) (by decide) fM_270 (fun h => by cases h) rfl rfl (dq dM_write 96 rfl) ?_
  exact zi_return rfl (dq dM_write 97 rfl) (q_ru h)
def FM_write_125 (N : Nat) (K125 : (Int32 × zJ) → Option (Unit × zJ)) (s : Int32 × zJ) : Option (Unit × zJ) :=
  let l2 := s.1
  let J := s.2
  if (J 0 34) ≤ l2 then
    if (J 0 30) = 0 then
      qb (FM_bring N 0 8 J) fun v1 J2 =>
      FM_write_166 N J2
    else
      FM_write_166 N J
  else
    qb (FM_isLeft N l2 J) fun v3 J4 =>
    if (bI v3) = 0 then
      qb (FM_packed N l2 J4) fun v6 J7 =>
      let y8 := l2 + (1)
      K125 (y8, J7)
    else
      let y5 := l2 + (1)
      K125 (y5, J4)
theorem SM_write_125 {g : zg} {d N : Nat} {M0 : zM} {A : Nat} {r : Unit} {J1 : zJ}   (hL : zLy M0 A mShL mRf) (hd : 6 ≤ d)  : ∀ n s, qfix (FM_write_125 N) n s = some (r, J1) → zG g d mM_write (zPq (rU r) (zmm M0 A 40 J1)) (zmm M0 A 40 s.2) 125 [(0, va_rf (some (A + 0))), (2, .int s.1)] [] := by
  refine qfix_sound (fun K125 hK125 s h => ?_)
  unfold FM_write_125 at h
  refine zi_iload_n 1 (dq dM_write 69 rfl) rfl ?_
  refine zi_aload_n 0 (dq dM_write 70 rfl) rfl ?_
  refine ri_geti (zLs hL 0 rfl) (by decide) fM_233 (dq dM_write 71 rfl) ?_
  refine zi_icmp_ge (tgt := 152) (dq dM_write 72 rfl) (by decide) (fun c => ?_) (fun c => ?_)
  · have h := q_t c h
    refine zi_aload_n 0 (dq dM_write 82 rfl) rfl ?_
    refine ri_geti (zLs hL 0 rfl) (by decide) fM_341 (dq dM_write 83 rfl) ?_
    refine zi_if_ne (tgt := 166) (dq dM_write 84 rfl) (by decide) (fun c => ?_) (fun c => ?_)
    · have h := q_f c h
      exact zG_lv (zs_c 0 rfl zs_n) (SM_write_166 hL h hd )
    · have h := q_t c h
      refine zi_aload_n 0 (dq dM_write 85 rfl) rfl ?_
      refine zi_iconst (v := 0) (dq dM_write 86 rfl) (by decide) ?_
      refine zi_bipush (v := 8) (dq dM_write 87 rfl) (by decide) ?_
      obtain ⟨v1, J2, hv1, h⟩ := q_b h
      refine zi_cVv2 (SM_bring hL hv1 (d := d - 1) (by omega)) wM_bring aM_353 iM_bring sM_bring (by omega) (zLs hL 0 rfl) rfl (Nat.le_of_ble_eq_true rfl) (dq dM_write 88 rfl) (fun _ hh => ?_)
      subst hh
      exact zG_lv (zs_c 0 rfl zs_n) (SM_write_166 hL h hd )
  · have h := q_f c h
    refine zi_aload_n 0 (dq dM_write 73 rfl) rfl ?_
    refine zi_iload_n 1 (dq dM_write 74 rfl) rfl ?_
    obtain ⟨v3, J4, hv3, h⟩ := q_b h
    refine zi_cVi1 (SM_isLeft hL hv3 (d := d - 1) (by omega)) wM_isLeft aM_344 iM_isLeft sM_isLeft (by omega) (zLs hL 0 rfl) rfl (Nat.le_of_ble_eq_true rfl) (dq dM_write 75 rfl) (fun _ _ hh => ?_)
    obtain ⟨rfl, rfl⟩ := hh
    refine zi_if_ne (tgt := 146) (dq dM_write 76 rfl) (by decide) (fun c => ?_) (fun c => ?_)
    · have h := q_f c h
      refine zi_iincC (v := _ + (1)) (lv' := [(2, _), (0, _)]) 1 (dq dM_write 80 rfl) rfl rfl (by decide) (by simp [z_cr, z_ci]) rfl ?_
      refine zi_goto (tgt := 125) (dq dM_write 81 rfl) (by decide) ?_
      exact zG_lv (zs_c 1 rfl (zs_c 0 rfl zs_n)) (hK125 _ h)
    · have h := q_t c h
      refine zi_aload_n 0 (dq dM_write 77 rfl) rfl ?_
      refine zi_iload_n 1 (dq dM_write 78 rfl) rfl ?_
      obtain ⟨v6, J7, hv6, h⟩ := q_b h
      refine zi_cVv1 (SM_packed hL hv6 (d := d - 1) (by omega)) wM_packed aM_350 iM_packed sM_packed (by omega) (zLs hL 0 rfl) rfl (Nat.le_of_ble_eq_true rfl) (dq dM_write 79 rfl) (fun _ hh => ?_)
      subst hh
      refine zi_iincC (v := _ + (1)) (lv' := [(2, _), (0, _)]) 1 (dq dM_write 80 rfl) rfl rfl (by decide) (by simp [z_cr, z_ci]) rfl ?_
      refine zi_goto (tgt := 125) (dq dM_write 81 rfl) (by decide) ?_
      exact zG_lv (zs_c 1 rfl (zs_c 0 rfl zs_n)) (hK125 _ h)
def FM_write_75 (N : Nat) (l1 : Int32) (K75 : (Int32 × zJ) → Option (Unit × zJ)) (s : Int32 × zJ) : Option (Unit × zJ) :=
  let l2 := s.1
  let J := s.2
  if 4000 ≤ l2 then
    let J1 := zu J 0 29 (4000 - (J 0 29))
    if l1 = 1 then
      some ((), J1)
    else
      qfix (FM_write_125 N) N (0, J1)
  else
    qk (qi l2 4000) <|
    qk (qi (l2 - (J 0 29)) 4000) <|
    let J4 := zu J 20 (l2 - (J 0 29)).toNatClampNeg (J 20 l2.toNatClampNeg)
    let y5 := l2 + (1)
    K75 (y5, J4)
theorem SM_write_75 {g : zg} {d N : Nat} {M0 : zM} {A : Nat} {r : Unit} {J1 : zJ}  {l1 : Int32} (hL : zLy M0 A mShL mRf) (hd : 6 ≤ d)  : ∀ n s, qfix (FM_write_75 N l1) n s = some (r, J1) → zG g d mM_write (zPq (rU r) (zmm M0 A 40 J1)) (zmm M0 A 40 s.2) 75 [(0, va_rf (some (A + 0))), (1, .int l1), (2, .int s.1)] [] := by
  refine qfix_sound (fun K75 hK75 s h => ?_)
  unfold FM_write_75 at h
  refine zi_iload_n 2 (dq dM_write 41 rfl) rfl ?_
  refine zi_sipush (v := 4000) (dq dM_write 42 rfl) (by decide) ?_
  refine zi_icmp_ge (tgt := 105) (dq dM_write 43 rfl) (by decide) (fun c => ?_) (fun c => ?_)
  · have h := q_t c h
    refine zi_aload_n 0 (dq dM_write 57 rfl) rfl ?_
    refine zi_sipush (v := 4000) (dq dM_write 58 rfl) (by decide) ?_
    refine zi_aload_n 0 (dq dM_write 59 rfl) rfl ?_
    refine ri_geti (zLs hL 0 rfl) (by decide) fM_270 (dq dM_write 60 rfl) ?_
    refine zi_isub (dq dM_write 61 rfl) ?_
    refine ri_puti (zLs hL 0 rfl) (by decide) fM_270 (fun h => by cases h) rfl rfl (dq dM_write 62 rfl) ?_
    refine zi_iload_n 1 (dq dM_write 63 rfl) rfl ?_
    refine zi_iconst (v := 1) (dq dM_write 64 rfl) (by decide) ?_
    refine zi_icmp_ne (tgt := 123) (dq dM_write 65 rfl) (by decide) (fun c => ?_) (fun c => ?_)
    · have h := q_f c h
      refine zi_iconst (v := 0) (dq dM_write 67 rfl) (by decide) ?_
      refine zi_istC_n (lv' := [(2, _), (0, _), (1, _)]) (dq dM_write 68 rfl) (by decide) (by simp [z_cr, z_ci]) rfl ?_
      exact zG_lv (zs_c 1 rfl (zs_c 0 rfl zs_n)) (SM_write_125 hL hd  _ _ h)
    · have h := q_t c h
      exact zi_return rfl (dq dM_write 66 rfl) (q_ru h)
  · have h := q_f c h
    refine zi_aload_n 0 (dq dM_write 44 rfl) rfl ?_
    refine ri_getr (zLs hL 0 rfl) (zLr hL 19 rfl) fM_69 (dq dM_write 45 rfl) ?_
    refine zi_iload_n 2 (dq dM_write 46 rfl) rfl ?_
    refine zi_aload_n 0 (dq dM_write 47 rfl) rfl ?_
    refine ri_geti (zLs hL 0 rfl) (by decide) fM_270 (dq dM_write 48 rfl) ?_
    refine zi_isub (dq dM_write 49 rfl) ?_
    refine zi_aload_n 0 (dq dM_write 50 rfl) rfl ?_
    refine ri_getr (zLs hL 0 rfl) (zLr hL 19 rfl) fM_69 (dq dM_write 51 rfl) ?_
    refine zi_iload_n 2 (dq dM_write 52 rfl) rfl ?_
    obtain ⟨c2, h⟩ := q_k h
    refine ri_iald (zLs hL 20 rfl) (by decide) rfl c2 (dq dM_write 53 rfl) ?_
    obtain ⟨c3, h⟩ := q_k h
    refine ri_iast (zLs hL 20 rfl) (by decide) rfl c3 (dq dM_write 54 rfl) ?_
    refine zi_iincC (v := _ + (1)) (lv' := [(2, _), (0, _), (1, _)]) 2 (dq dM_write 55 rfl) rfl rfl (by decide) (by simp [z_cr, z_ci]) rfl ?_
    refine zi_goto (tgt := 75) (dq dM_write 56 rfl) (by decide) ?_
    exact zG_lv (zs_c 1 rfl (zs_c 2 rfl (zs_c 0 rfl zs_n))) (hK75 _ h)
def FM_write_54 (N : Nat) (K32 : (Int32 × zJ) → Option (Unit × zJ)) (l1 : Int32) (l2 : Int32) (J : zJ) : Option (Unit × zJ) :=
  qk (qi l2 101) <|
  let J2 := zu J 27 l2.toNatClampNeg (J 0 29)
  let y3 := l2 + (-1)
  K32 (y3, J2)
theorem SM_write_54 {g : zg} {d N : Nat} {M0 : zM} {A : Nat} {r : Unit} {J1 : zJ} {J : zJ} {K32 : (Int32 × zJ) → Option (Unit × zJ)} {l1 : Int32} {l2 : Int32} (hL : zLy M0 A mShL mRf) (h : FM_write_54 N K32 l1 l2 J = some (r, J1)) (hd : 6 ≤ d) (hK32 : ∀ s, K32 s = some (r, J1) → zG g d mM_write (zPq (rU r) (zmm M0 A 40 J1)) (zmm M0 A 40 s.2) 32 [(0, va_rf (some (A + 0))), (1, .int l1), (2, .int s.1)] []) : zG g d mM_write (zPq (rU r) (zmm M0 A 40 J1)) (zmm M0 A 40 J) 54 [(0, va_rf (some (A + 0))), (1, .int l1), (2, .int l2)] [] := by
  unfold FM_write_54 at h
  refine zi_aload_n 0 (dq dM_write 30 rfl) rfl ?_
  refine ri_getr (zLs hL 0 rfl) (zLr hL 26 rfl) fM_90 (dq dM_write 31 rfl) ?_
  refine zi_iload_n 2 (dq dM_write 32 rfl) rfl ?_
  refine zi_aload_n 0 (dq dM_write 33 rfl) rfl ?_
  refine ri_geti (zLs hL 0 rfl) (by decide) fM_270 (dq dM_write 34 rfl) ?_
  obtain ⟨c1, h⟩ := q_k h
  refine ri_iast (zLs hL 27 rfl) (by decide) rfl c1 (dq dM_write 35 rfl) ?_
  refine zi_iincC (v := _ + (-1)) (lv' := [(2, _), (0, _), (1, _)]) 2 (dq dM_write 36 rfl) rfl rfl (by decide) (by simp [z_cr, z_ci]) rfl ?_
  refine zi_goto (tgt := 32) (dq dM_write 37 rfl) (by decide) ?_
  exact zG_lv (zs_c 1 rfl (zs_c 2 rfl (zs_c 0 rfl zs_n))) (hK32 _ h)
def FM_write_32 (N : Nat) (l1 : Int32) (K32 : (Int32 × zJ) → Option (Unit × zJ)) (s : Int32 × zJ) : Option (Unit × zJ) :=
  let l2 := s.1
  let J := s.2
  if l2 < 0 then
    let y1 := J 0 29
    qfix (FM_write_75 N l1) N (y1, J)
  else
    if l1 = 1 then
      qb (FM_isLeft N l2 J) fun v3 J4 =>
      if (bI v3) = 0 then
        qb (FM_encode N l2 J4) fun v5 J6 =>
        FM_write_54 N K32 l1 l2 J6
      else
        FM_write_54 N K32 l1 l2 J4
    else
      let y2 := J 0 29
      qfix (FM_write_75 N l1) N (y2, J)
theorem SM_write_32 {g : zg} {d N : Nat} {M0 : zM} {A : Nat} {r : Unit} {J1 : zJ}  {l1 : Int32} (hL : zLy M0 A mShL mRf) (hd : 6 ≤ d)  : ∀ n s, qfix (FM_write_32 N l1) n s = some (r, J1) → zG g d mM_write (zPq (rU r) (zmm M0 A 40 J1)) (zmm M0 A 40 s.2) 32 [(0, va_rf (some (A + 0))), (1, .int l1), (2, .int s.1)] [] := by
  refine qfix_sound (fun K32 hK32 s h => ?_)
  unfold FM_write_32 at h
  refine zi_iload_n 2 (dq dM_write 18 rfl) rfl ?_
  refine zi_if_lt (tgt := 70) (dq dM_write 19 rfl) (by decide) (fun c => ?_) (fun c => ?_)
  · have h := q_t c h
    refine zi_aload_n 0 (dq dM_write 38 rfl) rfl ?_
    refine ri_geti (zLs hL 0 rfl) (by decide) fM_270 (dq dM_write 39 rfl) ?_
    refine zi_istC_n (lv' := [(2, _), (0, _), (1, _)]) (dq dM_write 40 rfl) (by decide) (by simp [z_cr, z_ci]) rfl ?_
    exact zG_lv (zs_c 1 rfl (zs_c 2 rfl (zs_c 0 rfl zs_n))) (SM_write_75 hL hd  _ _ h)
  · have h := q_f c h
    refine zi_iload_n 1 (dq dM_write 20 rfl) rfl ?_
    refine zi_iconst (v := 1) (dq dM_write 21 rfl) (by decide) ?_
    refine zi_icmp_ne (tgt := 70) (dq dM_write 22 rfl) (by decide) (fun c => ?_) (fun c => ?_)
    · have h := q_f c h
      refine zi_aload_n 0 (dq dM_write 38 rfl) rfl ?_
      refine ri_geti (zLs hL 0 rfl) (by decide) fM_270 (dq dM_write 39 rfl) ?_
      refine zi_istC_n (lv' := [(2, _), (0, _), (1, _)]) (dq dM_write 40 rfl) (by decide) (by simp [z_cr, z_ci]) rfl ?_
      exact zG_lv (zs_c 1 rfl (zs_c 2 rfl (zs_c 0 rfl zs_n))) (SM_write_75 hL hd  _ _ h)
    · have h := q_t c h
      refine zi_aload_n 0 (dq dM_write 23 rfl) rfl ?_
      refine zi_iload_n 2 (dq dM_write 24 rfl) rfl ?_
      obtain ⟨v3, J4, hv3, h⟩ := q_b h
      refine zi_cVi1 (SM_isLeft hL hv3 (d := d - 1) (by omega)) wM_isLeft aM_344 iM_isLeft sM_isLeft (by omega) (zLs hL 0 rfl) rfl (Nat.le_of_ble_eq_true rfl) (dq dM_write 25 rfl) (fun _ _ hh => ?_)
      obtain ⟨rfl, rfl⟩ := hh
      refine zi_if_ne (tgt := 54) (dq dM_write 26 rfl) (by decide) (fun c => ?_) (fun c => ?_)
      · have h := q_f c h
        exact zG_lv (zs_c 0 rfl (zs_c 1 rfl (zs_c 2 rfl zs_n))) (SM_write_54 hL h hd hK32)
      · have h := q_t c h
        refine zi_aload_n 0 (dq dM_write 27 rfl) rfl ?_
        refine zi_iload_n 2 (dq dM_write 28 rfl) rfl ?_
        obtain ⟨v5, J6, hv5, h⟩ := q_b h
        refine zi_cVv1 (SM_encode hL hv5 (d := d - 1) (by omega)) wM_encode aM_347 iM_encode sM_encode (by omega) (zLs hL 0 rfl) rfl (Nat.le_of_ble_eq_true rfl) (dq dM_write 29 rfl) (fun _ hh => ?_)
        subst hh
        exact zG_lv (zs_c 0 rfl (zs_c 1 rfl (zs_c 2 rfl zs_n))) (SM_write_54 hL h hd hK32)
def FM_write (N : Nat) (l1 : Int32) (J : zJ) : Option (Unit × zJ) :=
  let J1 := zu J 0 30 0
  let J2 := zu J1 0 29 4000
  qk (qi (J2 0 34) 101) <|
  let J4 := zu J2 27 (J2 0 34).toNatClampNeg (J2 0 29)
  let y5 := (J4 0 34) - 1
  qfix (FM_write_32 N l1) N (y5, J4)
theorem SM_write {g : zg} {d N : Nat} {M0 : zM} {A : Nat} {r : Unit} {J1 : zJ} {J : zJ} {l1 : Int32} (hL : zLy M0 A mShL mRf) (h : FM_write N l1 J = some (r, J1)) (hd : 6 ≤ d) : zEv g d mM_write [va_rf (some (A + 0)), .int l1] (zmm M0 A 40 J) (fun Mq => Mq = zmm M0 A 40 J1) := by
  unfold FM_write at h
  refine zEu_q (r := r) (lv := [(0, va_rf (some (A + 0))), (1, .int l1)]) ⟨by decide +kernel, by decide, by decide +kernel⟩ (by simp [z_cr, z_ci]) (Nat.le_of_ble_eq_true rfl) rfl ?_
  refine zi_aload_n 0 (dq dM_write 0 rfl) rfl ?_
  refine zi_iconst (v := 0) (dq dM_write 1 rfl) (by decide) ?_
  refine ri_puti (zLs hL 0 rfl) (by decide) fM_341 (fun h => by cases h) rfl rfl (dq dM_write 2 rfl) ?_
  refine zi_aload_n 0 (dq dM_write 3 rfl) rfl ?_
  refine zi_sipush (v := 4000) (dq dM_write 4 rfl) (by decide) ?_
  refine ri_puti (zLs hL 0 rfl) (by decide) fM_270 (fun h => by cases h) rfl rfl (dq dM_write 5 rfl) ?_
  refine zi_aload_n 0 (dq dM_write 6 rfl) rfl ?_
  refine ri_getr (zLs hL 0 rfl) (zLr hL 26 rfl) fM_90 (dq dM_write 7 rfl) ?_
  refine zi_aload_n 0 (dq dM_write 8 rfl) rfl ?_
  refine ri_geti (zLs hL 0 rfl) (by decide) fM_233 (dq dM_write 9 rfl) ?_
  refine zi_aload_n 0 (dq dM_write 10 rfl) rfl ?_
  refine ri_geti (zLs hL 0 rfl) (by decide) fM_270 (dq dM_write 11 rfl) ?_
  obtain ⟨c3, h⟩ := q_k h
  refine ri_iast (zLs hL 27 rfl) (by decide) rfl c3 (dq dM_write 12 rfl) ?_
  refine zi_aload_n 0 (dq dM_write 13 rfl) rfl ?_
  refine ri_geti (zLs hL 0 rfl) (by decide) fM_233 (dq dM_write 14 rfl) ?_
  refine zi_iconst (v := 1) (dq dM_write 15 rfl) (by decide) ?_
  refine zi_isub (dq dM_write 16 rfl) ?_
  refine zi_istC_n (lv' := [(2, _), (0, _), (1, _)]) (dq dM_write 17 rfl) (by decide) (by simp [z_cr, z_ci]) rfl ?_
  exact zG_lv (zs_c 1 rfl (zs_c 2 rfl (zs_c 0 rfl zs_n))) (SM_write_32 hL hd  _ _ h)
def FM_isValue_158 (N : Nat) (K158 : (Int32 × zJ) → Option (Bool × zJ)) (s : Int32 × zJ) : Option (Bool × zJ) :=
  let l3 := s.1
  let J := s.2
  if (J 0 29) ≤ l3 then
    qz (J 0 49) fun b1 =>
    some (b1, J)
  else
    if (J 0 49) = 0 then
      qz (J 0 49) fun b2 =>
      some (b2, J)
    else
      qk (qi l3 4000) <|
      qk (qi l3 120) <|
      if (J 20 l3.toNatClampNeg) = (J 19 l3.toNatClampNeg) then
        let J7 := zu J 0 49 1
        let y8 := l3 + (1)
        K158 (y8, J7)
      else
        let J5 := zu J 0 49 0
        let y6 := l3 + (1)
        K158 (y6, J5)
theorem SM_isValue_158 {g : zg} {d N : Nat} {M0 : zM} {A : Nat} {r : Bool} {J1 : zJ}   (hL : zLy M0 A mShL mRf) (hd : 7 ≤ d)  : ∀ n s, qfix (FM_isValue_158 N) n s = some (r, J1) → zG g d mM_isValue (zPq (rB r) (zmm M0 A 40 J1)) (zmm M0 A 40 s.2) 158 [(0, va_rf (some (A + 0))), (3, .int s.1)] [] := by
  refine qfix_sound (fun K158 hK158 s h => ?_)
  unfold FM_isValue_158 at h
  refine zi_iload_n 1 (dq dM_isValue 86 rfl) rfl ?_
  refine zi_aload_n 0 (dq dM_isValue 87 rfl) rfl ?_
  refine ri_geti (zLs hL 0 rfl) (by decide) fM_270 (dq dM_isValue 88 rfl) ?_
  refine zi_icmp_ge (tgt := 203) (dq dM_isValue 89 rfl) (by decide) (fun c => ?_) (fun c => ?_)
  · have h := q_t c h
    refine zi_aload_n 0 (dq dM_isValue 109 rfl) rfl ?_
    refine ri_geti (zLs hL 0 rfl) (by decide) fM_236 (dq dM_isValue 110 rfl) ?_
    obtain ⟨b1, eb1, h⟩ := q_z h
    refine zi_top eb1 ?_
    exact zi_ireturn rfl (bI_nar _) (dq dM_isValue 111 rfl) (q_rb h)
  · have h := q_f c h
    refine zi_aload_n 0 (dq dM_isValue 90 rfl) rfl ?_
    refine ri_geti (zLs hL 0 rfl) (by decide) fM_236 (dq dM_isValue 91 rfl) ?_
    refine zi_if_eq (tgt := 203) (dq dM_isValue 92 rfl) (by decide) (fun c => ?_) (fun c => ?_)
    · have h := q_t c h
      refine zi_aload_n 0 (dq dM_isValue 109 rfl) rfl ?_
      refine ri_geti (zLs hL 0 rfl) (by decide) fM_236 (dq dM_isValue 110 rfl) ?_
      obtain ⟨b2, eb2, h⟩ := q_z h
      refine zi_top eb2 ?_
      exact zi_ireturn rfl (bI_nar _) (dq dM_isValue 111 rfl) (q_rb h)
    · have h := q_f c h
      refine zi_aload_n 0 (dq dM_isValue 93 rfl) rfl ?_
      refine zi_aload_n 0 (dq dM_isValue 94 rfl) rfl ?_
      refine ri_getr (zLs hL 0 rfl) (zLr hL 19 rfl) fM_69 (dq dM_isValue 95 rfl) ?_
      refine zi_iload_n 1 (dq dM_isValue 96 rfl) rfl ?_
      obtain ⟨c3, h⟩ := q_k h
      refine ri_iald (zLs hL 20 rfl) (by decide) rfl c3 (dq dM_isValue 97 rfl) ?_
      refine zi_aload_n 0 (dq dM_isValue 98 rfl) rfl ?_
      refine ri_getr (zLs hL 0 rfl) (zLr hL 18 rfl) fM_66 (dq dM_isValue 99 rfl) ?_
      refine zi_iload_n 1 (dq dM_isValue 100 rfl) rfl ?_
      obtain ⟨c4, h⟩ := q_k h
      refine ri_iald (zLs hL 19 rfl) (by decide) rfl c4 (dq dM_isValue 101 rfl) ?_
      refine zi_icmp_ne (tgt := 193) (dq dM_isValue 102 rfl) (by decide) (fun c => ?_) (fun c => ?_)
      · have h := q_f c h
        refine zi_iconst (v := 0) (dq dM_isValue 105 rfl) (by decide) ?_
        refine ri_puti (zLs hL 0 rfl) (by decide) fM_236 (fun h => by cases h) (by decide) (by decide) (dq dM_isValue 106 rfl) ?_
        refine zi_iincC (v := _ + (1)) (lv' := [(3, _), (0, _)]) 1 (dq dM_isValue 107 rfl) rfl rfl (by decide) (by simp [z_cr, z_ci]) rfl ?_
        refine zi_goto (tgt := 158) (dq dM_isValue 108 rfl) (by decide) ?_
        exact zG_lv (zs_c 1 rfl (zs_c 0 rfl zs_n)) (hK158 _ h)
      · have h := q_t c h
        refine zi_iconst (v := 1) (dq dM_isValue 103 rfl) (by decide) ?_
        refine zi_goto (tgt := 194) (dq dM_isValue 104 rfl) (by decide) ?_
        refine ri_puti (zLs hL 0 rfl) (by decide) fM_236 (fun h => by cases h) (by decide) (by decide) (dq dM_isValue 106 rfl) ?_
        refine zi_iincC (v := _ + (1)) (lv' := [(3, _), (0, _)]) 1 (dq dM_isValue 107 rfl) rfl rfl (by decide) (by simp [z_cr, z_ci]) rfl ?_
        refine zi_goto (tgt := 158) (dq dM_isValue 108 rfl) (by decide) ?_
        exact zG_lv (zs_c 1 rfl (zs_c 0 rfl zs_n)) (hK158 _ h)
def FM_isValue_109 (N : Nat) (l2 : Int32) (t1 : Int32) (J : zJ) : Option (Bool × zJ) :=
  qz t1 fun b1 =>
  let J2 := zu J 0 49 (bI b1)
  if (J2 0 49) = 0 then
    some (false, J2)
  else
    qb (FM_settle N J2) fun v3 J4 =>
    if l2 = 0 then
      some (true, J4)
    else
      qb (FM_write N l2 J4) fun v5 J6 =>
      if (J6 0 29) = (J6 0 28) then
        let J8 := zu J6 0 49 1
        qfix (FM_isValue_158 N) N (0, J8)
      else
        let J7 := zu J6 0 49 0
        qfix (FM_isValue_158 N) N (0, J7)
theorem SM_isValue_109 {g : zg} {d N : Nat} {M0 : zM} {A : Nat} {r : Bool} {J1 : zJ} {J : zJ}  {l2 : Int32} {t1 : Int32} (hL : zLy M0 A mShL mRf) (h : FM_isValue_109 N l2 t1 J = some (r, J1)) (hd : 7 ≤ d)  : zG g d mM_isValue (zPq (rB r) (zmm M0 A 40 J1)) (zmm M0 A 40 J) 109 [(0, va_rf (some (A + 0))), (2, .int l2)] [.int t1, va_rf (some (A + 0))] := by
  unfold FM_isValue_109 at h
  obtain ⟨b1, eb1, h⟩ := q_z h
  refine zi_top eb1 ?_
  refine ri_puti (zLs hL 0 rfl) (by decide) fM_236 (fun h => by cases h) (bI_nar _) (bI_fit _) (dq dM_isValue 59 rfl) ?_
  refine zi_aload_n 0 (dq dM_isValue 60 rfl) rfl ?_
  refine ri_geti (zLs hL 0 rfl) (by decide) fM_236 (dq dM_isValue 61 rfl) ?_
  refine zi_if_ne (tgt := 121) (dq dM_isValue 62 rfl) (by decide) (fun c => ?_) (fun c => ?_)
  · have h := q_f c h
    refine zi_aload_n 0 (dq dM_isValue 65 rfl) rfl ?_
    obtain ⟨v3, J4, hv3, h⟩ := q_b h
    refine zi_cVv0 (SM_settle hL hv3 (d := d - 1) (by omega)) wM_settle aM_264 iM_settle sM_settle (by omega) (zLs hL 0 rfl) rfl (Nat.le_of_ble_eq_true rfl) (dq dM_isValue 66 rfl) (fun _ hh => ?_)
    subst hh
    refine zi_iload_n 1 (dq dM_isValue 67 rfl) rfl ?_
    refine zi_if_ne (tgt := 131) (dq dM_isValue 68 rfl) (by decide) (fun c => ?_) (fun c => ?_)
    · have h := q_f c h
      refine zi_aload_n 0 (dq dM_isValue 71 rfl) rfl ?_
      refine zi_iload_n 1 (dq dM_isValue 72 rfl) rfl ?_
      obtain ⟨v5, J6, hv5, h⟩ := q_b h
      refine zi_cVv1 (SM_write hL hv5 (d := d - 1) (by omega)) wM_write aM_267 iM_write sM_write (by omega) (zLs hL 0 rfl) rfl (Nat.le_of_ble_eq_true rfl) (dq dM_isValue 73 rfl) (fun _ hh => ?_)
      subst hh
      refine zi_aload_n 0 (dq dM_isValue 74 rfl) rfl ?_
      refine zi_aload_n 0 (dq dM_isValue 75 rfl) rfl ?_
      refine ri_geti (zLs hL 0 rfl) (by decide) fM_270 (dq dM_isValue 76 rfl) ?_
      refine zi_aload_n 0 (dq dM_isValue 77 rfl) rfl ?_
      refine ri_geti (zLs hL 0 rfl) (by decide) fM_261 (dq dM_isValue 78 rfl) ?_
      refine zi_icmp_ne (tgt := 152) (dq dM_isValue 79 rfl) (by decide) (fun c => ?_) (fun c => ?_)
      · have h := q_f c h
        refine zi_iconst (v := 0) (dq dM_isValue 82 rfl) (by decide) ?_
        refine ri_puti (zLs hL 0 rfl) (by decide) fM_236 (fun h => by cases h) (by decide) (by decide) (dq dM_isValue 83 rfl) ?_
        refine zi_iconst (v := 0) (dq dM_isValue 84 rfl) (by decide) ?_
        refine zi_istC_n (lv' := [(3, _), (0, _), (2, _)]) (dq dM_isValue 85 rfl) (by decide) (by simp [z_cr, z_ci]) rfl ?_
        exact zG_lv (zs_c 1 rfl (zs_c 0 rfl zs_n)) (SM_isValue_158 hL hd  _ _ h)
      · have h := q_t c h
        refine zi_iconst (v := 1) (dq dM_isValue 80 rfl) (by decide) ?_
        refine zi_goto (tgt := 153) (dq dM_isValue 81 rfl) (by decide) ?_
        refine ri_puti (zLs hL 0 rfl) (by decide) fM_236 (fun h => by cases h) (by decide) (by decide) (dq dM_isValue 83 rfl) ?_
        refine zi_iconst (v := 0) (dq dM_isValue 84 rfl) (by decide) ?_
        refine zi_istC_n (lv' := [(3, _), (0, _), (2, _)]) (dq dM_isValue 85 rfl) (by decide) (by simp [z_cr, z_ci]) rfl ?_
        exact zG_lv (zs_c 1 rfl (zs_c 0 rfl zs_n)) (SM_isValue_158 hL hd  _ _ h)
    · have h := q_t c h
      refine zi_iconst (v := 1) (dq dM_isValue 69 rfl) (by decide) ?_
      exact zi_ireturn rfl (by decide) (dq dM_isValue 70 rfl) (q_rb (b := true) h)
  · have h := q_t c h
    refine zi_iconst (v := 0) (dq dM_isValue 63 rfl) (by decide) ?_
    exact zi_ireturn rfl (by decide) (dq dM_isValue 64 rfl) (q_rb (b := false) h)
def FM_isValue_80 (N : Nat) (l2 : Int32) (J : zJ) : Option (Bool × zJ) :=
  if (J 0 49) = 0 then
    FM_isValue_109 N l2 0 J
  else
    if l2 = 2 then
      FM_isValue_109 N l2 1 J
    else
      if (J 0 47) = (J 0 28) then
        FM_isValue_109 N l2 1 J
      else
        FM_isValue_109 N l2 0 J
theorem SM_isValue_80 {g : zg} {d N : Nat} {M0 : zM} {A : Nat} {r : Bool} {J1 : zJ} {J : zJ}  {l2 : Int32} (hL : zLy M0 A mShL mRf) (h : FM_isValue_80 N l2 J = some (r, J1)) (hd : 7 ≤ d)  : zG g d mM_isValue (zPq (rB r) (zmm M0 A 40 J1)) (zmm M0 A 40 J) 80 [(0, va_rf (some (A + 0))), (2, .int l2)] [] := by
  unfold FM_isValue_80 at h
  refine zi_aload_n 0 (dq dM_isValue 44 rfl) rfl ?_
  refine zi_aload_n 0 (dq dM_isValue 45 rfl) rfl ?_
  refine ri_geti (zLs hL 0 rfl) (by decide) fM_236 (dq dM_isValue 46 rfl) ?_
  refine zi_if_eq (tgt := 108) (dq dM_isValue 47 rfl) (by decide) (fun c => ?_) (fun c => ?_)
  · have h := q_t c h
    refine zi_iconst (v := 0) (dq dM_isValue 58 rfl) (by decide) ?_
    exact zG_lv (zs_c 0 rfl (zs_c 1 rfl zs_n)) (SM_isValue_109 hL h hd )
  · have h := q_f c h
    refine zi_iload_n 1 (dq dM_isValue 48 rfl) rfl ?_
    refine zi_iconst (v := 2) (dq dM_isValue 49 rfl) (by decide) ?_
    refine zi_icmp_eq (tgt := 104) (dq dM_isValue 50 rfl) (by decide) (fun c => ?_) (fun c => ?_)
    · have h := q_t c h
      refine zi_iconst (v := 1) (dq dM_isValue 56 rfl) (by decide) ?_
      refine zi_goto (tgt := 109) (dq dM_isValue 57 rfl) (by decide) ?_
      exact zG_lv (zs_c 0 rfl (zs_c 1 rfl zs_n)) (SM_isValue_109 hL h hd )
    · have h := q_f c h
      refine zi_aload_n 0 (dq dM_isValue 51 rfl) rfl ?_
      refine ri_geti (zLs hL 0 rfl) (by decide) fM_245 (dq dM_isValue 52 rfl) ?_
      refine zi_aload_n 0 (dq dM_isValue 53 rfl) rfl ?_
      refine ri_geti (zLs hL 0 rfl) (by decide) fM_261 (dq dM_isValue 54 rfl) ?_
      refine zi_icmp_ne (tgt := 108) (dq dM_isValue 55 rfl) (by decide) (fun c => ?_) (fun c => ?_)
      · have h := q_f c h
        refine zi_iconst (v := 0) (dq dM_isValue 58 rfl) (by decide) ?_
        exact zG_lv (zs_c 0 rfl (zs_c 1 rfl zs_n)) (SM_isValue_109 hL h hd )
      · have h := q_t c h
        refine zi_iconst (v := 1) (dq dM_isValue 56 rfl) (by decide) ?_
        refine zi_goto (tgt := 109) (dq dM_isValue 57 rfl) (by decide) ?_
        exact zG_lv (zs_c 0 rfl (zs_c 1 rfl zs_n)) (SM_isValue_109 hL h hd )
def FM_isValue_47 (N : Nat) (l2 : Int32) (K47 : (zJ) → Option (Bool × zJ)) (s : zJ) : Option (Bool × zJ) :=
  let J := s
  if (J 0 49) = 0 then
    FM_isValue_80 N l2 J
  else
    if (J 0 48) ≤ 0 then
      FM_isValue_80 N l2 J
    else
      if 2 ≤ l2 then
        qb (FM_goOnPacked N J) fun v1 J2 =>
        K47 J2
      else
        qb (FM_goOn N J) fun v3 J4 =>
        K47 J4
theorem SM_isValue_47 {g : zg} {d N : Nat} {M0 : zM} {A : Nat} {r : Bool} {J1 : zJ}  {l2 : Int32} (hL : zLy M0 A mShL mRf) (hd : 7 ≤ d)  : ∀ n s, qfix (FM_isValue_47 N l2) n s = some (r, J1) → zG g d mM_isValue (zPq (rB r) (zmm M0 A 40 J1)) (zmm M0 A 40 s) 47 [(0, va_rf (some (A + 0))), (2, .int l2)] [] := by
  refine qfix_sound (fun K47 hK47 s h => ?_)
  unfold FM_isValue_47 at h
  refine zi_aload_n 0 (dq dM_isValue 29 rfl) rfl ?_
  refine ri_geti (zLs hL 0 rfl) (by decide) fM_236 (dq dM_isValue 30 rfl) ?_
  refine zi_if_eq (tgt := 80) (dq dM_isValue 31 rfl) (by decide) (fun c => ?_) (fun c => ?_)
  · have h := q_t c h
    exact zG_lv (zs_c 0 rfl (zs_c 1 rfl zs_n)) (SM_isValue_80 hL h hd )
  · have h := q_f c h
    refine zi_aload_n 0 (dq dM_isValue 32 rfl) rfl ?_
    refine ri_geti (zLs hL 0 rfl) (by decide) fM_242 (dq dM_isValue 33 rfl) ?_
    refine zi_if_le (tgt := 80) (dq dM_isValue 34 rfl) (by decide) (fun c => ?_) (fun c => ?_)
    · have h := q_t c h
      exact zG_lv (zs_c 0 rfl (zs_c 1 rfl zs_n)) (SM_isValue_80 hL h hd )
    · have h := q_f c h
      refine zi_iload_n 1 (dq dM_isValue 35 rfl) rfl ?_
      refine zi_iconst (v := 2) (dq dM_isValue 36 rfl) (by decide) ?_
      refine zi_icmp_ge (tgt := 73) (dq dM_isValue 37 rfl) (by decide) (fun c => ?_) (fun c => ?_)
      · have h := q_t c h
        refine zi_aload_n 0 (dq dM_isValue 41 rfl) rfl ?_
        obtain ⟨v1, J2, hv1, h⟩ := q_b h
        refine zi_cVv0 (SM_goOnPacked hL hv1 (d := d - 1) (by omega)) wM_goOnPacked aM_258 iM_goOnPacked sM_goOnPacked (by omega) (zLs hL 0 rfl) rfl (Nat.le_of_ble_eq_true rfl) (dq dM_isValue 42 rfl) (fun _ hh => ?_)
        subst hh
        refine zi_goto (tgt := 47) (dq dM_isValue 43 rfl) (by decide) ?_
        exact zG_lv (zs_c 0 rfl (zs_c 1 rfl zs_n)) (hK47 _ h)
      · have h := q_f c h
        refine zi_aload_n 0 (dq dM_isValue 38 rfl) rfl ?_
        obtain ⟨v3, J4, hv3, h⟩ := q_b h
        refine zi_cVv0 (SM_goOn hL hv3 (d := d - 1) (by omega)) wM_goOn aM_255 iM_goOn sM_goOn (by omega) (zLs hL 0 rfl) rfl (Nat.le_of_ble_eq_true rfl) (dq dM_isValue 39 rfl) (fun _ hh => ?_)
        subst hh
        refine zi_goto (tgt := 47) (dq dM_isValue 40 rfl) (by decide) ?_
        exact zG_lv (zs_c 0 rfl (zs_c 1 rfl zs_n)) (hK47 _ h)
def FM_isValue (N : Nat) (l1 : Int32) (l2 : Int32) (J : zJ) : Option (Bool × zJ) :=
  let J1 := zu J 0 34 0
  let J2 := zu J1 0 35 0
  let J3 := zu J2 0 48 0
  let J4 := zu J3 0 47 0
  let J5 := zu J4 0 49 1
  if 2 ≤ l2 then
    qb (FM_want N l1 ((-1)) 0 J5) fun v6 J7 =>
    qfix (FM_isValue_47 N l2) N J7
  else
    qb (FM_element N l1 ((-1)) 0 J5) fun v8 J9 =>
    qfix (FM_isValue_47 N l2) N J9
theorem SM_isValue {g : zg} {d N : Nat} {M0 : zM} {A : Nat} {r : Bool} {J1 : zJ} {J : zJ} {l1 : Int32} {l2 : Int32} (hL : zLy M0 A mShL mRf) (h : FM_isValue N l1 l2 J = some (r, J1)) (hd : 7 ≤ d) : zEi g d mM_isValue [va_rf (some (A + 0)), .int l1, .int l2] (zmm M0 A 40 J) (fun v Mq => v = bI r ∧ Mq = zmm M0 A 40 J1) := by
  unfold FM_isValue at h
  refine zEb_q (r := r) (lv := [(0, va_rf (some (A + 0))), (1, .int l1), (2, .int l2)]) ⟨by decide +kernel, by decide, by decide +kernel⟩ (by simp [z_cr, z_ci]) (Nat.le_of_ble_eq_true rfl) rfl ?_
  refine zi_aload_n 0 (dq dM_isValue 0 rfl) rfl ?_
  refine zi_iconst (v := 0) (dq dM_isValue 1 rfl) (by decide) ?_
  refine ri_puti (zLs hL 0 rfl) (by decide) fM_233 (fun h => by cases h) rfl rfl (dq dM_isValue 2 rfl) ?_
  refine zi_aload_n 0 (dq dM_isValue 3 rfl) rfl ?_
  refine zi_iconst (v := 0) (dq dM_isValue 4 rfl) (by decide) ?_
  refine ri_puti (zLs hL 0 rfl) (by decide) fM_239 (fun h => by cases h) rfl rfl (dq dM_isValue 5 rfl) ?_
  refine zi_aload_n 0 (dq dM_isValue 6 rfl) rfl ?_
  refine zi_iconst (v := 0) (dq dM_isValue 7 rfl) (by decide) ?_
  refine ri_puti (zLs hL 0 rfl) (by decide) fM_242 (fun h => by cases h) rfl rfl (dq dM_isValue 8 rfl) ?_
  refine zi_aload_n 0 (dq dM_isValue 9 rfl) rfl ?_
  refine zi_iconst (v := 0) (dq dM_isValue 10 rfl) (by decide) ?_
  refine ri_puti (zLs hL 0 rfl) (by decide) fM_245 (fun h => by cases h) rfl rfl (dq dM_isValue 11 rfl) ?_
  refine zi_aload_n 0 (dq dM_isValue 12 rfl) rfl ?_
  refine zi_iconst (v := 1) (dq dM_isValue 13 rfl) (by decide) ?_
  refine ri_puti (zLs hL 0 rfl) (by decide) fM_236 (fun h => by cases h) (by decide) (by decide) (dq dM_isValue 14 rfl) ?_
  refine zi_iload_n 2 (dq dM_isValue 15 rfl) rfl ?_
  refine zi_iconst (v := 2) (dq dM_isValue 16 rfl) (by decide) ?_
  refine zi_icmp_ge (tgt := 40) (dq dM_isValue 17 rfl) (by decide) (fun c => ?_) (fun c => ?_)
  · have h := q_t c h
    refine zi_aload_n 0 (dq dM_isValue 24 rfl) rfl ?_
    refine zi_iload_n 1 (dq dM_isValue 25 rfl) rfl ?_
    refine zi_iconst (v := (-1)) (dq dM_isValue 26 rfl) (by decide) ?_
    refine zi_iconst (v := 0) (dq dM_isValue 27 rfl) (by decide) ?_
    obtain ⟨v6, J7, hv6, h⟩ := q_b h
    refine zi_cVv3 (SM_want hL hv6 (d := d - 1) (by omega)) wM_want aM_252 iM_want sM_want (by omega) (zLs hL 0 rfl) rfl (Nat.le_of_ble_eq_true rfl) (dq dM_isValue 28 rfl) (fun _ hh => ?_)
    subst hh
    exact zG_lv (zs_c 0 rfl (zs_c 2 rfl zs_n)) (SM_isValue_47 hL hd  _ _ h)
  · have h := q_f c h
    refine zi_aload_n 0 (dq dM_isValue 18 rfl) rfl ?_
    refine zi_iload_n 1 (dq dM_isValue 19 rfl) rfl ?_
    refine zi_iconst (v := (-1)) (dq dM_isValue 20 rfl) (by decide) ?_
    refine zi_iconst (v := 0) (dq dM_isValue 21 rfl) (by decide) ?_
    obtain ⟨v8, J9, hv8, h⟩ := q_b h
    refine zi_cVv3 (SM_element hL hv8 (d := d - 1) (by omega)) wM_element aM_248 iM_element sM_element (by omega) (zLs hL 0 rfl) rfl (Nat.le_of_ble_eq_true rfl) (dq dM_isValue 22 rfl) (fun _ hh => ?_)
    subst hh
    refine zi_goto (tgt := 47) (dq dM_isValue 23 rfl) (by decide) ?_
    exact zG_lv (zs_c 0 rfl (zs_c 2 rfl zs_n)) (SM_isValue_47 hL hd  _ _ h)
