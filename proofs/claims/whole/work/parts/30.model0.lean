/-! THE REFERENCE AS FUNCTIONS, 0 (tools/genM.py) -/
def FM_thrown (N : Nat) (J : zJ) : Option (Int32 × zJ) :=
  some ((J 0 0), J)
theorem SM_thrown {g : zg} {d N : Nat} {M0 : zM} {A : Nat} {r : Int32} {J1 : zJ} {J : zJ}  (hL : zLy M0 A mShL mRf) (h : FM_thrown N J = some (r, J1)) (hd : 0 ≤ d) : zEi g d mM_thrown [va_rf (some (A + 0))] (zmm M0 A 40 J) (fun v Mq => v = r ∧ Mq = zmm M0 A 40 J1) := by
  unfold FM_thrown at h
  refine zEi_q (r := r) (lv := [(0, va_rf (some (A + 0)))]) ⟨by decide +kernel, by decide, by decide +kernel⟩ (by simp [z_cr, z_ci]) (Nat.le_of_ble_eq_true rfl) rfl ?_
  refine zi_aload_n 0 (dq dM_thrown 0 rfl) rfl ?_
  refine ri_geti (zLs hL 0 rfl) (by decide) fM_132 (dq dM_thrown 1 rfl) ?_
  exact zi_ireturn rfl rfl (dq dM_thrown 2 rfl) (q_ri h)
def FM_fails (N : Nat) (l1 : Int32) (J : zJ) : Option (Int32 × zJ) :=
  let J1 := zu J 0 0 l1
  some (0, J1)
theorem SM_fails {g : zg} {d N : Nat} {M0 : zM} {A : Nat} {r : Int32} {J1 : zJ} {J : zJ} {l1 : Int32} (hL : zLy M0 A mShL mRf) (h : FM_fails N l1 J = some (r, J1)) (hd : 0 ≤ d) : zEi g d mM_fails [va_rf (some (A + 0)), .int l1] (zmm M0 A 40 J) (fun v Mq => v = r ∧ Mq = zmm M0 A 40 J1) := by
  unfold FM_fails at h
  refine zEi_q (r := r) (lv := [(0, va_rf (some (A + 0))), (1, .int l1)]) ⟨by decide +kernel, by decide, by decide +kernel⟩ (by simp [z_cr, z_ci]) (Nat.le_of_ble_eq_true rfl) rfl ?_
  refine zi_aload_n 0 (dq dM_fails 0 rfl) rfl ?_
  refine zi_iload_n 1 (dq dM_fails 1 rfl) rfl ?_
  refine ri_puti (zLs hL 0 rfl) (by decide) fM_132 (fun h => by cases h) rfl rfl (dq dM_fails 2 rfl) ?_
  refine zi_iconst (v := 0) (dq dM_fails 3 rfl) (by decide) ?_
  exact zi_ireturn rfl rfl (dq dM_fails 4 rfl) (q_ri h)
def FM_in (N : Nat) (l0 : Int32) (l1 : Int32) (l2 : Int32)  : Option (Bool) :=
  if l0 < l1 then
    some false
  else
    if l2 < l0 then
      some false
    else
      some true
theorem SM_in {g : zg} {d N : Nat} {M : zM} {r : Bool} {l0 : Int32} {l1 : Int32} {l2 : Int32}  (h : FM_in N l0 l1 l2 = some r) (hd : 0 ≤ d) : zEi g d mM_in [.int l0, .int l1, .int l2] (M) (fun v Mq => v = bI r ∧ Mq = M) := by
  unfold FM_in at h
  refine zEb_q (r := r) (lv := [(0, .int l0), (1, .int l1), (2, .int l2)]) ⟨by decide +kernel, by decide, by decide +kernel⟩ (by simp [z_cr, z_ci]) (Nat.le_of_ble_eq_true rfl) rfl ?_
  refine zi_iload_n 0 (dq dM_in 0 rfl) rfl ?_
  refine zi_iload_n 1 (dq dM_in 1 rfl) rfl ?_
  refine zi_icmp_lt (tgt := 14) (dq dM_in 2 rfl) (by decide) (fun c => ?_) (fun c => ?_)
  · have h := q_t c h
    refine zi_iconst (v := 0) (dq dM_in 8 rfl) (by decide) ?_
    exact zi_ireturn rfl (by decide) (dq dM_in 9 rfl) (q_rbT (b := false) h)
  · have h := q_f c h
    refine zi_iload_n 0 (dq dM_in 3 rfl) rfl ?_
    refine zi_iload_n 2 (dq dM_in 4 rfl) rfl ?_
    refine zi_icmp_gt (tgt := 14) (dq dM_in 5 rfl) (by decide) (fun c => ?_) (fun c => ?_)
    · have h := q_t c h
      refine zi_iconst (v := 0) (dq dM_in 8 rfl) (by decide) ?_
      exact zi_ireturn rfl (by decide) (dq dM_in 9 rfl) (q_rbT (b := false) h)
    · have h := q_f c h
      refine zi_iconst (v := 1) (dq dM_in 6 rfl) (by decide) ?_
      refine zi_goto (tgt := 15) (dq dM_in 7 rfl) (by decide) ?_
      exact zi_ireturn rfl (by decide) (dq dM_in 9 rfl) (q_rbT (b := true) h)
def FM_leave_33 (N : Nat) (K33 : (Int32 × zJ) → Option (Unit × zJ)) (s : Int32 × zJ) : Option (Unit × zJ) :=
  let l1 := s.1
  let J := s.2
  if 256 ≤ l1 then
    some ((), J)
  else
    qk (qi l1 256) <|
    let J2 := zu J 39 l1.toNatClampNeg 0
    let y3 := l1 + (1)
    K33 (y3, J2)
theorem SM_leave_33 {g : zg} {d N : Nat} {M0 : zM} {A : Nat} {r : Unit} {J1 : zJ}   (hL : zLy M0 A mShL mRf) (hd : 0 ≤ d)  : ∀ n s, qfix (FM_leave_33 N) n s = some (r, J1) → zG g d mM_leave (zPq (rU r) (zmm M0 A 40 J1)) (zmm M0 A 40 s.2) 33 [(0, va_rf (some (A + 0))), (1, .int s.1)] [] := by
  refine qfix_sound (fun K33 hK33 s h => ?_)
  unfold FM_leave_33 at h
  refine zi_iload_n 1 (dq dM_leave 20 rfl) rfl ?_
  refine zi_sipush (v := 256) (dq dM_leave 21 rfl) (by decide) ?_
  refine zi_icmp_ge (tgt := 53) (dq dM_leave 22 rfl) (by decide) (fun c => ?_) (fun c => ?_)
  · have h := q_t c h
    exact zi_return rfl (dq dM_leave 30 rfl) (q_ru h)
  · have h := q_f c h
    refine zi_aload_n 0 (dq dM_leave 23 rfl) rfl ?_
    refine ri_getr (zLs hL 0 rfl) (zLr hL 38 rfl) fM_126 (dq dM_leave 24 rfl) ?_
    refine zi_iload_n 1 (dq dM_leave 25 rfl) rfl ?_
    refine zi_iconst (v := 0) (dq dM_leave 26 rfl) (by decide) ?_
    obtain ⟨c1, h⟩ := q_k h
    refine ri_zast (zLs hL 39 rfl) (by decide) rfl c1 (by decide) (dq dM_leave 27 rfl) ?_
    refine zi_iincC (v := _ + (1)) (lv' := [(1, _), (0, _)]) 1 (dq dM_leave 28 rfl) rfl rfl (by decide) (by simp [z_cr, z_ci]) rfl ?_
    refine zi_goto (tgt := 33) (dq dM_leave 29 rfl) (by decide) ?_
    exact zG_lv (zs_c 1 rfl (zs_c 0 rfl zs_n)) (hK33 _ h)
def FM_leave_12 (N : Nat) (K12 : (Int32 × zJ) → Option (Unit × zJ)) (s : Int32 × zJ) : Option (Unit × zJ) :=
  let l1 := s.1
  let J := s.2
  if 8 ≤ l1 then
    qfix (FM_leave_33 N) N (0, J)
  else
    qk (qi l1 8) <|
    let J2 := zu J 36 l1.toNatClampNeg ((-1))
    let y3 := l1 + (1)
    K12 (y3, J2)
theorem SM_leave_12 {g : zg} {d N : Nat} {M0 : zM} {A : Nat} {r : Unit} {J1 : zJ}   (hL : zLy M0 A mShL mRf) (hd : 0 ≤ d)  : ∀ n s, qfix (FM_leave_12 N) n s = some (r, J1) → zG g d mM_leave (zPq (rU r) (zmm M0 A 40 J1)) (zmm M0 A 40 s.2) 12 [(0, va_rf (some (A + 0))), (1, .int s.1)] [] := by
  refine qfix_sound (fun K12 hK12 s h => ?_)
  unfold FM_leave_12 at h
  refine zi_iload_n 1 (dq dM_leave 8 rfl) rfl ?_
  refine zi_bipush (v := 8) (dq dM_leave 9 rfl) (by decide) ?_
  refine zi_icmp_ge (tgt := 31) (dq dM_leave 10 rfl) (by decide) (fun c => ?_) (fun c => ?_)
  · have h := q_t c h
    refine zi_iconst (v := 0) (dq dM_leave 18 rfl) (by decide) ?_
    refine zi_istC_n (lv' := [(1, _), (0, _)]) (dq dM_leave 19 rfl) (by decide) (by simp [z_cr, z_ci]) rfl ?_
    exact zG_lv (zs_c 1 rfl (zs_c 0 rfl zs_n)) (SM_leave_33 hL hd  _ _ h)
  · have h := q_f c h
    refine zi_aload_n 0 (dq dM_leave 11 rfl) rfl ?_
    refine ri_getr (zLs hL 0 rfl) (zLr hL 35 rfl) fM_117 (dq dM_leave 12 rfl) ?_
    refine zi_iload_n 1 (dq dM_leave 13 rfl) rfl ?_
    refine zi_iconst (v := (-1)) (dq dM_leave 14 rfl) (by decide) ?_
    obtain ⟨c1, h⟩ := q_k h
    refine ri_iast (zLs hL 36 rfl) (by decide) rfl c1 (dq dM_leave 15 rfl) ?_
    refine zi_iincC (v := _ + (1)) (lv' := [(1, _), (0, _)]) 1 (dq dM_leave 16 rfl) rfl rfl (by decide) (by simp [z_cr, z_ci]) rfl ?_
    refine zi_goto (tgt := 12) (dq dM_leave 17 rfl) (by decide) ?_
    exact zG_lv (zs_c 1 rfl (zs_c 0 rfl zs_n)) (hK12 _ h)
def FM_leave (N : Nat) (J : zJ) : Option (Unit × zJ) :=
  let J1 := zu J 0 1 0
  let J2 := zu J1 0 44 0
  qfix (FM_leave_12 N) N (0, J2)
theorem SM_leave {g : zg} {d N : Nat} {M0 : zM} {A : Nat} {r : Unit} {J1 : zJ} {J : zJ}  (hL : zLy M0 A mShL mRf) (h : FM_leave N J = some (r, J1)) (hd : 0 ≤ d) : zEv g d mM_leave [va_rf (some (A + 0))] (zmm M0 A 40 J) (fun Mq => Mq = zmm M0 A 40 J1) := by
  unfold FM_leave at h
  refine zEu_q (r := r) (lv := [(0, va_rf (some (A + 0)))]) ⟨by decide +kernel, by decide, by decide +kernel⟩ (by simp [z_cr, z_ci]) (Nat.le_of_ble_eq_true rfl) rfl ?_
  refine zi_aload_n 0 (dq dM_leave 0 rfl) rfl ?_
  refine zi_iconst (v := 0) (dq dM_leave 1 rfl) (by decide) ?_
  refine ri_puti (zLs hL 0 rfl) (by decide) fM_136 (fun h => by cases h) (by decide) (by decide) (dq dM_leave 2 rfl) ?_
  refine zi_aload_n 0 (dq dM_leave 3 rfl) rfl ?_
  refine zi_iconst (v := 0) (dq dM_leave 4 rfl) (by decide) ?_
  refine ri_puti (zLs hL 0 rfl) (by decide) fM_140 (fun h => by cases h) rfl rfl (dq dM_leave 5 rfl) ?_
  refine zi_iconst (v := 0) (dq dM_leave 6 rfl) (by decide) ?_
  refine zi_istC_n (lv' := [(1, _), (0, _)]) (dq dM_leave 7 rfl) (by decide) (by simp [z_cr, z_ci]) rfl ?_
  exact zG_lv (zs_c 1 rfl (zs_c 0 rfl zs_n)) (SM_leave_12 hL hd  _ _ h)
def FM_type (N : Nat) (l1 : Int32) (J : zJ) : Option (Bool × zJ) :=
  let J1 := zu J 0 0 0
  if (J1 0 2) = 150 then
    some (false, J1)
  else
    qk (decide (0 ≤ l1) && decide (l1 ≤ 65535)) <|
    qk (qi (J1 0 2) 150) <|
    let J4 := zu J1 1 (J1 0 2).toNatClampNeg l1
    let J5 := zu J4 0 2 ((J4 0 2) + 1)
    qb (FM_leave N J5) fun v6 J7 =>
    some (true, J7)
theorem SM_type {g : zg} {d N : Nat} {M0 : zM} {A : Nat} {r : Bool} {J1 : zJ} {J : zJ} {l1 : Int32} (hL : zLy M0 A mShL mRf) (h : FM_type N l1 J = some (r, J1)) (hd : 1 ≤ d) : zEi g d mM_type [va_rf (some (A + 0)), .int l1] (zmm M0 A 40 J) (fun v Mq => v = bI r ∧ Mq = zmm M0 A 40 J1) := by
  unfold FM_type at h
  refine zEb_q (r := r) (lv := [(0, va_rf (some (A + 0))), (1, .int l1)]) ⟨by decide +kernel, by decide, by decide +kernel⟩ (by simp [z_cr, z_ci]) (Nat.le_of_ble_eq_true rfl) rfl ?_
  refine zi_aload_n 0 (dq dM_type 0 rfl) rfl ?_
  refine zi_iconst (v := 0) (dq dM_type 1 rfl) (by decide) ?_
  refine ri_puti (zLs hL 0 rfl) (by decide) fM_132 (fun h => by cases h) rfl rfl (dq dM_type 2 rfl) ?_
  refine zi_aload_n 0 (dq dM_type 3 rfl) rfl ?_
  refine ri_geti (zLs hL 0 rfl) (by decide) fM_143 (dq dM_type 4 rfl) ?_
  refine zi_sipush (v := 150) (dq dM_type 5 rfl) (by decide) ?_
  refine zi_icmp_ne (tgt := 17) (dq dM_type 6 rfl) (by decide) (fun c => ?_) (fun c => ?_)
  · have h := q_f c h
    refine zi_aload_n 0 (dq dM_type 9 rfl) rfl ?_
    refine ri_getr (zLs hL 0 rfl) (zLr hL 0 rfl) fM_7 (dq dM_type 10 rfl) ?_
    refine zi_aload_n 0 (dq dM_type 11 rfl) rfl ?_
    refine ri_geti (zLs hL 0 rfl) (by decide) fM_143 (dq dM_type 12 rfl) ?_
    refine zi_iload_n 1 (dq dM_type 13 rfl) rfl ?_
    obtain ⟨c2, h⟩ := q_k h
    obtain ⟨c3, h⟩ := q_k h
    refine ri_cast (zLs hL 1 rfl) (by decide) rfl c3 (q_char c2) (dq dM_type 14 rfl) ?_
    refine zi_aload_n 0 (dq dM_type 15 rfl) rfl ?_
    refine zi_dup (dq dM_type 16 rfl) (by first | rfl | exact z_cr _) ?_
    refine ri_geti (zLs hL 0 rfl) (by decide) fM_143 (dq dM_type 17 rfl) ?_
    refine zi_iconst (v := 1) (dq dM_type 18 rfl) (by decide) ?_
    refine zi_iadd (dq dM_type 19 rfl) ?_
    refine ri_puti (zLs hL 0 rfl) (by decide) fM_143 (fun h => by cases h) rfl rfl (dq dM_type 20 rfl) ?_
    refine zi_aload_n 0 (dq dM_type 21 rfl) rfl ?_
    obtain ⟨v6, J7, hv6, h⟩ := q_b h
    refine zi_cVv0 (SM_leave hL hv6 (d := d - 1) (by omega)) wM_leave aM_129 iM_leave sM_leave (by omega) (zLs hL 0 rfl) rfl (Nat.le_of_ble_eq_true rfl) (dq dM_type 22 rfl) (fun _ hh => ?_)
    subst hh
    refine zi_iconst (v := 1) (dq dM_type 23 rfl) (by decide) ?_
    exact zi_ireturn rfl (by decide) (dq dM_type 24 rfl) (q_rb (b := true) h)
  · have h := q_t c h
    refine zi_iconst (v := 0) (dq dM_type 7 rfl) (by decide) ?_
    exact zi_ireturn rfl (by decide) (dq dM_type 8 rfl) (q_rb (b := false) h)
def FM_clear (N : Nat) (J : zJ) : Option (Int32 × zJ) :=
  let y1 := J 0 2
  let J2 := zu J 0 0 0
  let J3 := zu J2 0 2 0
  qb (FM_leave N J3) fun v4 J5 =>
  some (y1, J5)
theorem SM_clear {g : zg} {d N : Nat} {M0 : zM} {A : Nat} {r : Int32} {J1 : zJ} {J : zJ}  (hL : zLy M0 A mShL mRf) (h : FM_clear N J = some (r, J1)) (hd : 1 ≤ d) : zEi g d mM_clear [va_rf (some (A + 0))] (zmm M0 A 40 J) (fun v Mq => v = r ∧ Mq = zmm M0 A 40 J1) := by
  unfold FM_clear at h
  refine zEi_q (r := r) (lv := [(0, va_rf (some (A + 0)))]) ⟨by decide +kernel, by decide, by decide +kernel⟩ (by simp [z_cr, z_ci]) (Nat.le_of_ble_eq_true rfl) rfl ?_
  refine zi_aload_n 0 (dq dM_clear 0 rfl) rfl ?_
  refine ri_geti (zLs hL 0 rfl) (by decide) fM_143 (dq dM_clear 1 rfl) ?_
  refine zi_istC_n (lv' := [(1, _), (0, _)]) (dq dM_clear 2 rfl) (by decide) (by simp [z_cr, z_ci]) rfl ?_
  refine zi_aload_n 1 (dq dM_clear 3 rfl) rfl ?_
  refine zi_iconst (v := 0) (dq dM_clear 4 rfl) (by decide) ?_
  refine ri_puti (zLs hL 0 rfl) (by decide) fM_132 (fun h => by cases h) rfl rfl (dq dM_clear 5 rfl) ?_
  refine zi_aload_n 1 (dq dM_clear 6 rfl) rfl ?_
  refine zi_iconst (v := 0) (dq dM_clear 7 rfl) (by decide) ?_
  refine ri_puti (zLs hL 0 rfl) (by decide) fM_143 (fun h => by cases h) rfl rfl (dq dM_clear 8 rfl) ?_
  refine zi_aload_n 1 (dq dM_clear 9 rfl) rfl ?_
  obtain ⟨v4, J5, hv4, h⟩ := q_b h
  refine zi_cVv0 (SM_leave hL hv4 (d := d - 1) (by omega)) wM_leave aM_129 iM_leave sM_leave (by omega) (zLs hL 0 rfl) rfl (Nat.le_of_ble_eq_true rfl) (dq dM_clear 10 rfl) (fun _ hh => ?_)
  subst hh
  refine zi_iload_n 0 (dq dM_clear 11 rfl) rfl ?_
  exact zi_ireturn rfl rfl (dq dM_clear 12 rfl) (q_ri h)
def FM_look (N : Nat) (J : zJ) : Option (Int32 × zJ) :=
  if (J 0 2) ≤ (J 0 3) then
    some (((-1)), J)
  else
    qk (qi (J 0 3) 150) <|
    some ((J 1 (J 0 3).toNatClampNeg), J)
theorem SM_look {g : zg} {d N : Nat} {M0 : zM} {A : Nat} {r : Int32} {J1 : zJ} {J : zJ}  (hL : zLy M0 A mShL mRf) (h : FM_look N J = some (r, J1)) (hd : 0 ≤ d) : zEi g d mM_look [va_rf (some (A + 0))] (zmm M0 A 40 J) (fun v Mq => v = r ∧ Mq = zmm M0 A 40 J1) := by
  unfold FM_look at h
  refine zEi_q (r := r) (lv := [(0, va_rf (some (A + 0)))]) ⟨by decide +kernel, by decide, by decide +kernel⟩ (by simp [z_cr, z_ci]) (Nat.le_of_ble_eq_true rfl) rfl ?_
  refine zi_aload_n 0 (dq dM_look 0 rfl) rfl ?_
  refine ri_geti (zLs hL 0 rfl) (by decide) fM_146 (dq dM_look 1 rfl) ?_
  refine zi_aload_n 0 (dq dM_look 2 rfl) rfl ?_
  refine ri_geti (zLs hL 0 rfl) (by decide) fM_143 (dq dM_look 3 rfl) ?_
  refine zi_icmp_ge (tgt := 23) (dq dM_look 4 rfl) (by decide) (fun c => ?_) (fun c => ?_)
  · have h := q_t c h
    refine zi_iconst (v := (-1)) (dq dM_look 11 rfl) (by decide) ?_
    exact zi_ireturn rfl rfl (dq dM_look 12 rfl) (q_ri h)
  · have h := q_f c h
    refine zi_aload_n 0 (dq dM_look 5 rfl) rfl ?_
    refine ri_getr (zLs hL 0 rfl) (zLr hL 0 rfl) fM_7 (dq dM_look 6 rfl) ?_
    refine zi_aload_n 0 (dq dM_look 7 rfl) rfl ?_
    refine ri_geti (zLs hL 0 rfl) (by decide) fM_146 (dq dM_look 8 rfl) ?_
    obtain ⟨c1, h⟩ := q_k h
    refine ri_cald (zLs hL 1 rfl) (by decide) rfl c1 (dq dM_look 9 rfl) ?_
    refine zi_goto (tgt := 24) (dq dM_look 10 rfl) (by decide) ?_
    exact zi_ireturn rfl rfl (dq dM_look 12 rfl) (q_ri h)
def FM_stop (N : Nat) (l1 : Int32) (l2 : Int32) (J : zJ) : Option (Int32 × zJ) :=
  if (J 0 4) = 0 then
    let J1 := zu J 0 4 (l1 + (16 * l2))
    some (((-1)), J1)
  else
    some (((-1)), J)
theorem SM_stop {g : zg} {d N : Nat} {M0 : zM} {A : Nat} {r : Int32} {J1 : zJ} {J : zJ} {l1 : Int32} {l2 : Int32} (hL : zLy M0 A mShL mRf) (h : FM_stop N l1 l2 J = some (r, J1)) (hd : 0 ≤ d) : zEi g d mM_stop [va_rf (some (A + 0)), .int l1, .int l2] (zmm M0 A 40 J) (fun v Mq => v = r ∧ Mq = zmm M0 A 40 J1) := by
  unfold FM_stop at h
  refine zEi_q (r := r) (lv := [(0, va_rf (some (A + 0))), (1, .int l1), (2, .int l2)]) ⟨by decide +kernel, by decide, by decide +kernel⟩ (by simp [z_cr, z_ci]) (Nat.le_of_ble_eq_true rfl) rfl ?_
  refine zi_aload_n 0 (dq dM_stop 0 rfl) rfl ?_
  refine ri_geti (zLs hL 0 rfl) (by decide) fM_149 (dq dM_stop 1 rfl) ?_
  refine zi_if_ne (tgt := 17) (dq dM_stop 2 rfl) (by decide) (fun c => ?_) (fun c => ?_)
  · have h := q_f c h
    refine zi_iconst (v := (-1)) (dq dM_stop 10 rfl) (by decide) ?_
    exact zi_ireturn rfl rfl (dq dM_stop 11 rfl) (q_ri h)
  · have h := q_t c h
    refine zi_aload_n 0 (dq dM_stop 3 rfl) rfl ?_
    refine zi_iload_n 1 (dq dM_stop 4 rfl) rfl ?_
    refine zi_bipush (v := 16) (dq dM_stop 5 rfl) (by decide) ?_
    refine zi_iload_n 2 (dq dM_stop 6 rfl) rfl ?_
    refine zi_imul (dq dM_stop 7 rfl) ?_
    refine zi_iadd (dq dM_stop 8 rfl) ?_
    refine ri_puti (zLs hL 0 rfl) (by decide) fM_149 (fun h => by cases h) rfl rfl (dq dM_stop 9 rfl) ?_
    refine zi_iconst (v := (-1)) (dq dM_stop 10 rfl) (by decide) ?_
    exact zi_ireturn rfl rfl (dq dM_stop 11 rfl) (q_ri h)
def FM_need_31 (N : Nat) (J : zJ) : Option (Bool × zJ) :=
  if (J 0 4) = 0 then
    some (true, J)
  else
    some (false, J)
theorem SM_need_31 {g : zg} {d N : Nat} {M0 : zM} {A : Nat} {r : Bool} {J1 : zJ} {J : zJ}   (hL : zLy M0 A mShL mRf) (h : FM_need_31 N J = some (r, J1)) (hd : 1 ≤ d)  : zG g d mM_need (zPq (rB r) (zmm M0 A 40 J1)) (zmm M0 A 40 J) 31 [(0, va_rf (some (A + 0)))] [] := by
  unfold FM_need_31 at h
  refine zi_aload_n 0 (dq dM_need 17 rfl) rfl ?_
  refine ri_geti (zLs hL 0 rfl) (by decide) fM_149 (dq dM_need 18 rfl) ?_
  refine zi_if_ne (tgt := 42) (dq dM_need 19 rfl) (by decide) (fun c => ?_) (fun c => ?_)
  · have h := q_f c h
    refine zi_iconst (v := 0) (dq dM_need 22 rfl) (by decide) ?_
    exact zi_ireturn rfl (by decide) (dq dM_need 23 rfl) (q_rb (b := false) h)
  · have h := q_t c h
    refine zi_iconst (v := 1) (dq dM_need 20 rfl) (by decide) ?_
    refine zi_goto (tgt := 43) (dq dM_need 21 rfl) (by decide) ?_
    exact zi_ireturn rfl (by decide) (dq dM_need 23 rfl) (q_rb (b := true) h)
def FM_need (N : Nat) (l1 : Int32) (J : zJ) : Option (Bool × zJ) :=
  qb (FM_look N J) fun v1 J2 =>
  if v1 = l1 then
    let J5 := zu J2 0 3 ((J2 0 3) + 1)
    FM_need_31 N J5
  else
    qb (FM_stop N 1 (J2 0 3) J2) fun v3 J4 =>
    FM_need_31 N J4
theorem SM_need {g : zg} {d N : Nat} {M0 : zM} {A : Nat} {r : Bool} {J1 : zJ} {J : zJ} {l1 : Int32} (hL : zLy M0 A mShL mRf) (h : FM_need N l1 J = some (r, J1)) (hd : 1 ≤ d) : zEi g d mM_need [va_rf (some (A + 0)), .int l1] (zmm M0 A 40 J) (fun v Mq => v = bI r ∧ Mq = zmm M0 A 40 J1) := by
  unfold FM_need at h
  refine zEb_q (r := r) (lv := [(0, va_rf (some (A + 0))), (1, .int l1)]) ⟨by decide +kernel, by decide, by decide +kernel⟩ (by simp [z_cr, z_ci]) (Nat.le_of_ble_eq_true rfl) rfl ?_
  refine zi_aload_n 0 (dq dM_need 0 rfl) rfl ?_
  obtain ⟨v1, J2, hv1, h⟩ := q_b h
  refine zi_cVi0 (SM_look hL hv1 (d := d - 1) (by omega)) wM_look aM_152 iM_look sM_look (by omega) (zLs hL 0 rfl) rfl (Nat.le_of_ble_eq_true rfl) (dq dM_need 1 rfl) (fun _ _ hh => ?_)
  obtain ⟨rfl, rfl⟩ := hh
  refine zi_iload_n 1 (dq dM_need 2 rfl) rfl ?_
  refine zi_icmp_ne (tgt := 21) (dq dM_need 3 rfl) (by decide) (fun c => ?_) (fun c => ?_)
  · have h := q_f c h
    refine zi_aload_n 0 (dq dM_need 11 rfl) rfl ?_
    refine zi_iconst (v := 1) (dq dM_need 12 rfl) (by decide) ?_
    refine zi_aload_n 0 (dq dM_need 13 rfl) rfl ?_
    refine ri_geti (zLs hL 0 rfl) (by decide) fM_146 (dq dM_need 14 rfl) ?_
    obtain ⟨v3, J4, hv3, h⟩ := q_b h
    refine zi_cVi2 (SM_stop hL hv3 (d := d - 1) (by omega)) wM_stop aM_156 iM_stop sM_stop (by omega) (zLs hL 0 rfl) rfl (Nat.le_of_ble_eq_true rfl) (dq dM_need 15 rfl) (fun _ _ hh => ?_)
    obtain ⟨rfl, rfl⟩ := hh
    refine zi_pop (dq dM_need 16 rfl) (by first | rfl | exact z_cr _) ?_
    exact zG_lv (zs_c 0 rfl zs_n) (SM_need_31 hL h hd )
  · have h := q_t c h
    refine zi_aload_n 0 (dq dM_need 4 rfl) rfl ?_
    refine zi_dup (dq dM_need 5 rfl) (by first | rfl | exact z_cr _) ?_
    refine ri_geti (zLs hL 0 rfl) (by decide) fM_146 (dq dM_need 6 rfl) ?_
    refine zi_iconst (v := 1) (dq dM_need 7 rfl) (by decide) ?_
    refine zi_iadd (dq dM_need 8 rfl) ?_
    refine ri_puti (zLs hL 0 rfl) (by decide) fM_146 (fun h => by cases h) rfl rfl (dq dM_need 9 rfl) ?_
    refine zi_goto (tgt := 31) (dq dM_need 10 rfl) (by decide) ?_
    exact zG_lv (zs_c 0 rfl zs_n) (SM_need_31 hL h hd )
def FM_add_97 (N : Nat) (l2 : Int32) (t0 : Int32) (J : zJ) : Option (Int32 × zJ) :=
  if t0 = 0 then
    qk (qi l2 160) <|
    let J4 := zu J 9 l2.toNatClampNeg 0
    some (l2, J4)
  else
    qk (qi l2 160) <|
    let J2 := zu J 9 l2.toNatClampNeg (1 <<< (t0 &&& 31))
    some (l2, J2)
theorem SM_add_97 {g : zg} {d N : Nat} {M0 : zM} {A : Nat} {r : Int32} {J1 : zJ} {J : zJ}  {l2 : Int32} {t0 : Int32} (hL : zLy M0 A mShL mRf) (h : FM_add_97 N l2 t0 J = some (r, J1)) (hd : 0 ≤ d)  : zG g d mM_add (zPq (rI r) (zmm M0 A 40 J1)) (zmm M0 A 40 J) 97 [(0, va_rf (some (A + 0))), (2, .int l2)] [.int t0] := by
  unfold FM_add_97 at h
  refine zi_istC_n (lv' := [(3, _), (0, _), (2, _)]) (dq dM_add 58 rfl) (by decide) (by simp [z_cr, z_ci]) rfl ?_
  refine zi_aload_n 1 (dq dM_add 59 rfl) rfl ?_
  refine ri_getr (zLs hL 0 rfl) (zLr hL 8 rfl) fM_35 (dq dM_add 60 rfl) ?_
  refine zi_iload_n 2 (dq dM_add 61 rfl) rfl ?_
  refine zi_iload_n 0 (dq dM_add 62 rfl) rfl ?_
  refine zi_if_ne (tgt := 111) (dq dM_add 63 rfl) (by decide) (fun c => ?_) (fun c => ?_)
  · have h := q_f c h
    refine zi_iconst (v := 1) (dq dM_add 66 rfl) (by decide) ?_
    refine zi_iload_n 0 (dq dM_add 67 rfl) rfl ?_
    refine zi_ishl (dq dM_add 68 rfl) ?_
    obtain ⟨c1, h⟩ := q_k h
    refine ri_iast (zLs hL 9 rfl) (by decide) rfl c1 (dq dM_add 69 rfl) ?_
    refine zi_iload_n 2 (dq dM_add 70 rfl) rfl ?_
    exact zi_ireturn rfl rfl (dq dM_add 71 rfl) (q_ri h)
  · have h := q_t c h
    refine zi_iconst (v := 0) (dq dM_add 64 rfl) (by decide) ?_
    refine zi_goto (tgt := 114) (dq dM_add 65 rfl) (by decide) ?_
    obtain ⟨c3, h⟩ := q_k h
    refine ri_iast (zLs hL 9 rfl) (by decide) rfl c3 (dq dM_add 69 rfl) ?_
    refine zi_iload_n 2 (dq dM_add 70 rfl) rfl ?_
    exact zi_ireturn rfl rfl (dq dM_add 71 rfl) (q_ri h)
def FM_add (N : Nat) (l1 : Int32) (J : zJ) : Option (Int32 × zJ) :=
  let y1 := J 0 10
  let J2 := zu J 0 10 ((J 0 10) + 1)
  qk (qi y1 160) <|
  let J4 := zu J2 4 y1.toNatClampNeg l1
  qk (qi y1 160) <|
  let J6 := zu J4 8 y1.toNatClampNeg 0
  qk (qi y1 160) <|
  let J8 := zu J6 10 y1.toNatClampNeg 0
  qk (qi y1 160) <|
  let J10 := zu J8 11 y1.toNatClampNeg 0
  if l1 = 1 then
    FM_add_97 N y1 1 J10
  else
    if l1 = 2 then
      FM_add_97 N y1 2 J10
    else
      if l1 = 4 then
        FM_add_97 N y1 4 J10
      else
        if l1 = 5 then
          FM_add_97 N y1 5 J10
        else
          if l1 = 9 then
            FM_add_97 N y1 0 J10
          else
            if l1 = 10 then
              FM_add_97 N y1 0 J10
            else
              FM_add_97 N y1 16 J10
theorem SM_add {g : zg} {d N : Nat} {M0 : zM} {A : Nat} {r : Int32} {J1 : zJ} {J : zJ} {l1 : Int32} (hL : zLy M0 A mShL mRf) (h : FM_add N l1 J = some (r, J1)) (hd : 0 ≤ d) : zEi g d mM_add [va_rf (some (A + 0)), .int l1] (zmm M0 A 40 J) (fun v Mq => v = r ∧ Mq = zmm M0 A 40 J1) := by
  unfold FM_add at h
  refine zEi_q (r := r) (lv := [(0, va_rf (some (A + 0))), (1, .int l1)]) ⟨by decide +kernel, by decide, by decide +kernel⟩ (by simp [z_cr, z_ci]) (Nat.le_of_ble_eq_true rfl) rfl ?_
  refine zi_aload_n 0 (dq dM_add 0 rfl) rfl ?_
  refine ri_geti (zLs hL 0 rfl) (by decide) fM_160 (dq dM_add 1 rfl) ?_
  refine zi_istC_n (lv' := [(2, _), (0, _), (1, _)]) (dq dM_add 2 rfl) (by decide) (by simp [z_cr, z_ci]) rfl ?_
  refine zi_aload_n 1 (dq dM_add 3 rfl) rfl ?_
  refine zi_dup (dq dM_add 4 rfl) (by first | rfl | exact z_cr _) ?_
  refine ri_geti (zLs hL 0 rfl) (by decide) fM_160 (dq dM_add 5 rfl) ?_
  refine zi_iconst (v := 1) (dq dM_add 6 rfl) (by decide) ?_
  refine zi_iadd (dq dM_add 7 rfl) ?_
  refine ri_puti (zLs hL 0 rfl) (by decide) fM_160 (fun h => by cases h) rfl rfl (dq dM_add 8 rfl) ?_
  refine zi_aload_n 1 (dq dM_add 9 rfl) rfl ?_
  refine ri_getr (zLs hL 0 rfl) (zLr hL 3 rfl) fM_20 (dq dM_add 10 rfl) ?_
  refine zi_iload_n 0 (dq dM_add 11 rfl) rfl ?_
  refine zi_iload_n 2 (dq dM_add 12 rfl) rfl ?_
  obtain ⟨c3, h⟩ := q_k h
  refine ri_iast (zLs hL 4 rfl) (by decide) rfl c3 (dq dM_add 13 rfl) ?_
  refine zi_aload_n 1 (dq dM_add 14 rfl) rfl ?_
  refine ri_getr (zLs hL 0 rfl) (zLr hL 7 rfl) fM_32 (dq dM_add 15 rfl) ?_
  refine zi_iload_n 0 (dq dM_add 16 rfl) rfl ?_
  refine zi_iconst (v := 0) (dq dM_add 17 rfl) (by decide) ?_
  obtain ⟨c5, h⟩ := q_k h
  refine ri_iast (zLs hL 8 rfl) (by decide) rfl c5 (dq dM_add 18 rfl) ?_
  refine zi_aload_n 1 (dq dM_add 19 rfl) rfl ?_
  refine ri_getr (zLs hL 0 rfl) (zLr hL 9 rfl) fM_38 (dq dM_add 20 rfl) ?_
  refine zi_iload_n 0 (dq dM_add 21 rfl) rfl ?_
  refine zi_iconst (v := 0) (dq dM_add 22 rfl) (by decide) ?_
  obtain ⟨c7, h⟩ := q_k h
  refine ri_iast (zLs hL 10 rfl) (by decide) rfl c7 (dq dM_add 23 rfl) ?_
  refine zi_aload_n 1 (dq dM_add 24 rfl) rfl ?_
  refine ri_getr (zLs hL 0 rfl) (zLr hL 10 rfl) fM_41 (dq dM_add 25 rfl) ?_
  refine zi_iload_n 0 (dq dM_add 26 rfl) rfl ?_
  refine zi_iconst (v := 0) (dq dM_add 27 rfl) (by decide) ?_
  obtain ⟨c9, h⟩ := q_k h
  refine ri_zast (zLs hL 11 rfl) (by decide) rfl c9 (by decide) (dq dM_add 28 rfl) ?_
  refine zi_iload_n 2 (dq dM_add 29 rfl) rfl ?_
  refine zi_iconst (v := 1) (dq dM_add 30 rfl) (by decide) ?_
  refine zi_icmp_ne (tgt := 52) (dq dM_add 31 rfl) (by decide) (fun c => ?_) (fun c => ?_)
  · have h := q_f c h
    refine zi_iload_n 2 (dq dM_add 34 rfl) rfl ?_
    refine zi_iconst (v := 2) (dq dM_add 35 rfl) (by decide) ?_
    refine zi_icmp_ne (tgt := 61) (dq dM_add 36 rfl) (by decide) (fun c => ?_) (fun c => ?_)
    · have h := q_f c h
      refine zi_iload_n 2 (dq dM_add 39 rfl) rfl ?_
      refine zi_iconst (v := 4) (dq dM_add 40 rfl) (by decide) ?_
      refine zi_icmp_ne (tgt := 70) (dq dM_add 41 rfl) (by decide) (fun c => ?_) (fun c => ?_)
      · have h := q_f c h
        refine zi_iload_n 2 (dq dM_add 44 rfl) rfl ?_
        refine zi_iconst (v := 5) (dq dM_add 45 rfl) (by decide) ?_
        refine zi_icmp_ne (tgt := 79) (dq dM_add 46 rfl) (by decide) (fun c => ?_) (fun c => ?_)
        · have h := q_f c h
          refine zi_iload_n 2 (dq dM_add 49 rfl) rfl ?_
          refine zi_bipush (v := 9) (dq dM_add 50 rfl) (by decide) ?_
          refine zi_icmp_eq (tgt := 91) (dq dM_add 51 rfl) (by decide) (fun c => ?_) (fun c => ?_)
          · have h := q_t c h
            refine zi_iconst (v := 0) (dq dM_add 55 rfl) (by decide) ?_
            refine zi_goto (tgt := 97) (dq dM_add 56 rfl) (by decide) ?_
            exact zG_lv (zs_c 1 rfl (zs_c 0 rfl zs_n)) (SM_add_97 hL h hd )
          · have h := q_f c h
            refine zi_iload_n 2 (dq dM_add 52 rfl) rfl ?_
            refine zi_bipush (v := 10) (dq dM_add 53 rfl) (by decide) ?_
            refine zi_icmp_ne (tgt := 95) (dq dM_add 54 rfl) (by decide) (fun c => ?_) (fun c => ?_)
            · have h := q_f c h
              refine zi_bipush (v := 16) (dq dM_add 57 rfl) (by decide) ?_
              exact zG_lv (zs_c 1 rfl (zs_c 0 rfl zs_n)) (SM_add_97 hL h hd )
            · have h := q_t c h
              refine zi_iconst (v := 0) (dq dM_add 55 rfl) (by decide) ?_
              refine zi_goto (tgt := 97) (dq dM_add 56 rfl) (by decide) ?_
              exact zG_lv (zs_c 1 rfl (zs_c 0 rfl zs_n)) (SM_add_97 hL h hd )
        · have h := q_t c h
          refine zi_iconst (v := 5) (dq dM_add 47 rfl) (by decide) ?_
          refine zi_goto (tgt := 97) (dq dM_add 48 rfl) (by decide) ?_
          exact zG_lv (zs_c 1 rfl (zs_c 0 rfl zs_n)) (SM_add_97 hL h hd )
      · have h := q_t c h
        refine zi_iconst (v := 4) (dq dM_add 42 rfl) (by decide) ?_
        refine zi_goto (tgt := 97) (dq dM_add 43 rfl) (by decide) ?_
        exact zG_lv (zs_c 1 rfl (zs_c 0 rfl zs_n)) (SM_add_97 hL h hd )
    · have h := q_t c h
      refine zi_iconst (v := 2) (dq dM_add 37 rfl) (by decide) ?_
      refine zi_goto (tgt := 97) (dq dM_add 38 rfl) (by decide) ?_
      exact zG_lv (zs_c 1 rfl (zs_c 0 rfl zs_n)) (SM_add_97 hL h hd )
  · have h := q_t c h
    refine zi_iconst (v := 1) (dq dM_add 32 rfl) (by decide) ?_
    refine zi_goto (tgt := 97) (dq dM_add 33 rfl) (by decide) ?_
    exact zG_lv (zs_c 1 rfl (zs_c 0 rfl zs_n)) (SM_add_97 hL h hd )
def FM_named (N : Nat) (l1 : Int32) (J : zJ) : Option (Int32 × zJ) :=
  qk (qi l1 26) <|
  if 0 ≤ (J 3 l1.toNatClampNeg) then
    qk (qi l1 26) <|
    qk (qi (J 3 l1.toNatClampNeg) 160) <|
    if ((J 0 5) + (J 10 (J 3 l1.toNatClampNeg).toNatClampNeg)) < 6 then
      let J4 := zu J 0 3 ((J 0 3) + 1)
      qk (qi l1 26) <|
      some ((J4 3 l1.toNatClampNeg), J4)
    else
      qb (FM_stop N 5 (J 0 3) J) fun v6 J7 =>
      some (v6, J7)
  else
    qb (FM_stop N 3 (J 0 3) J) fun v8 J9 =>
    some (v8, J9)
theorem SM_named {g : zg} {d N : Nat} {M0 : zM} {A : Nat} {r : Int32} {J1 : zJ} {J : zJ} {l1 : Int32} (hL : zLy M0 A mShL mRf) (h : FM_named N l1 J = some (r, J1)) (hd : 1 ≤ d) : zEi g d mM_named [va_rf (some (A + 0)), .int l1] (zmm M0 A 40 J) (fun v Mq => v = r ∧ Mq = zmm M0 A 40 J1) := by
  unfold FM_named at h
  refine zEi_q (r := r) (lv := [(0, va_rf (some (A + 0))), (1, .int l1)]) ⟨by decide +kernel, by decide, by decide +kernel⟩ (by simp [z_cr, z_ci]) (Nat.le_of_ble_eq_true rfl) rfl ?_
  refine zi_aload_n 0 (dq dM_named 0 rfl) rfl ?_
  refine ri_getr (zLs hL 0 rfl) (zLr hL 2 rfl) fM_17 (dq dM_named 1 rfl) ?_
  refine zi_iload_n 1 (dq dM_named 2 rfl) rfl ?_
  obtain ⟨c1, h⟩ := q_k h
  refine ri_iald (zLs hL 3 rfl) (by decide) rfl c1 (dq dM_named 3 rfl) ?_
  refine zi_if_ge (tgt := 19) (dq dM_named 4 rfl) (by decide) (fun c => ?_) (fun c => ?_)
  · have h := q_t c h
    refine zi_aload_n 0 (dq dM_named 11 rfl) rfl ?_
    refine ri_geti (zLs hL 0 rfl) (by decide) fM_177 (dq dM_named 12 rfl) ?_
    refine zi_aload_n 0 (dq dM_named 13 rfl) rfl ?_
    refine ri_getr (zLs hL 0 rfl) (zLr hL 9 rfl) fM_38 (dq dM_named 14 rfl) ?_
    refine zi_aload_n 0 (dq dM_named 15 rfl) rfl ?_
    refine ri_getr (zLs hL 0 rfl) (zLr hL 2 rfl) fM_17 (dq dM_named 16 rfl) ?_
    refine zi_iload_n 1 (dq dM_named 17 rfl) rfl ?_
    obtain ⟨c2, h⟩ := q_k h
    refine ri_iald (zLs hL 3 rfl) (by decide) rfl c2 (dq dM_named 18 rfl) ?_
    obtain ⟨c3, h⟩ := q_k h
    refine ri_iald (zLs hL 10 rfl) (by decide) rfl c3 (dq dM_named 19 rfl) ?_
    refine zi_iadd (dq dM_named 20 rfl) ?_
    refine zi_bipush (v := 6) (dq dM_named 21 rfl) (by decide) ?_
    refine zi_icmp_lt (tgt := 50) (dq dM_named 22 rfl) (by decide) (fun c => ?_) (fun c => ?_)
    · have h := q_t c h
      refine zi_aload_n 0 (dq dM_named 29 rfl) rfl ?_
      refine zi_dup (dq dM_named 30 rfl) (by first | rfl | exact z_cr _) ?_
      refine ri_geti (zLs hL 0 rfl) (by decide) fM_146 (dq dM_named 31 rfl) ?_
      refine zi_iconst (v := 1) (dq dM_named 32 rfl) (by decide) ?_
      refine zi_iadd (dq dM_named 33 rfl) ?_
      refine ri_puti (zLs hL 0 rfl) (by decide) fM_146 (fun h => by cases h) rfl rfl (dq dM_named 34 rfl) ?_
      refine zi_aload_n 0 (dq dM_named 35 rfl) rfl ?_
      refine ri_getr (zLs hL 0 rfl) (zLr hL 2 rfl) fM_17 (dq dM_named 36 rfl) ?_
      refine zi_iload_n 1 (dq dM_named 37 rfl) rfl ?_
      obtain ⟨c5, h⟩ := q_k h
      refine ri_iald (zLs hL 3 rfl) (by decide) rfl c5 (dq dM_named 38 rfl) ?_
      exact zi_ireturn rfl rfl (dq dM_named 39 rfl) (q_ri h)
    · have h := q_f c h
      refine zi_aload_n 0 (dq dM_named 23 rfl) rfl ?_
      refine zi_iconst (v := 5) (dq dM_named 24 rfl) (by decide) ?_
      refine zi_aload_n 0 (dq dM_named 25 rfl) rfl ?_
      refine ri_geti (zLs hL 0 rfl) (by decide) fM_146 (dq dM_named 26 rfl) ?_
      obtain ⟨v6, J7, hv6, h⟩ := q_b h
      refine zi_cVi2 (SM_stop hL hv6 (d := d - 1) (by omega)) wM_stop aM_156 iM_stop sM_stop (by omega) (zLs hL 0 rfl) rfl (Nat.le_of_ble_eq_true rfl) (dq dM_named 27 rfl) (fun _ _ hh => ?_)
      obtain ⟨rfl, rfl⟩ := hh
      exact zi_ireturn rfl rfl (dq dM_named 28 rfl) (q_ri h)
  · have h := q_f c h
    refine zi_aload_n 0 (dq dM_named 5 rfl) rfl ?_
    refine zi_iconst (v := 3) (dq dM_named 6 rfl) (by decide) ?_
    refine zi_aload_n 0 (dq dM_named 7 rfl) rfl ?_
    refine ri_geti (zLs hL 0 rfl) (by decide) fM_146 (dq dM_named 8 rfl) ?_
    obtain ⟨v8, J9, hv8, h⟩ := q_b h
    refine zi_cVi2 (SM_stop hL hv8 (d := d - 1) (by omega)) wM_stop aM_156 iM_stop sM_stop (by omega) (zLs hL 0 rfl) rfl (Nat.le_of_ble_eq_true rfl) (dq dM_named 9 rfl) (fun _ _ hh => ?_)
    obtain ⟨rfl, rfl⟩ := hh
    exact zi_ireturn rfl rfl (dq dM_named 10 rfl) (q_ri h)
def FM_push (N : Nat) (l1 : Int32) (J : zJ) : Option (Int32 × zJ) :=
  qk (qi (J 0 5) 150) <|
  let J2 := zu J 2 (J 0 5).toNatClampNeg l1
  let J3 := zu J2 0 5 ((J2 0 5) + 1)
  some (((-1)), J3)
theorem SM_push {g : zg} {d N : Nat} {M0 : zM} {A : Nat} {r : Int32} {J1 : zJ} {J : zJ} {l1 : Int32} (hL : zLy M0 A mShL mRf) (h : FM_push N l1 J = some (r, J1)) (hd : 0 ≤ d) : zEi g d mM_push [va_rf (some (A + 0)), .int l1] (zmm M0 A 40 J) (fun v Mq => v = r ∧ Mq = zmm M0 A 40 J1) := by
  unfold FM_push at h
  refine zEi_q (r := r) (lv := [(0, va_rf (some (A + 0))), (1, .int l1)]) ⟨by decide +kernel, by decide, by decide +kernel⟩ (by simp [z_cr, z_ci]) (Nat.le_of_ble_eq_true rfl) rfl ?_
  refine zi_aload_n 0 (dq dM_push 0 rfl) rfl ?_
  refine ri_getr (zLs hL 0 rfl) (zLr hL 1 rfl) fM_13 (dq dM_push 1 rfl) ?_
  refine zi_aload_n 0 (dq dM_push 2 rfl) rfl ?_
  refine ri_geti (zLs hL 0 rfl) (by decide) fM_177 (dq dM_push 3 rfl) ?_
  refine zi_iload_n 1 (dq dM_push 4 rfl) rfl ?_
  obtain ⟨c1, h⟩ := q_k h
  refine ri_iast (zLs hL 2 rfl) (by decide) rfl c1 (dq dM_push 5 rfl) ?_
  refine zi_aload_n 0 (dq dM_push 6 rfl) rfl ?_
  refine zi_dup (dq dM_push 7 rfl) (by first | rfl | exact z_cr _) ?_
  refine ri_geti (zLs hL 0 rfl) (by decide) fM_177 (dq dM_push 8 rfl) ?_
  refine zi_iconst (v := 1) (dq dM_push 9 rfl) (by decide) ?_
  refine zi_iadd (dq dM_push 10 rfl) ?_
  refine ri_puti (zLs hL 0 rfl) (by decide) fM_177 (fun h => by cases h) rfl rfl (dq dM_push 11 rfl) ?_
  refine zi_iconst (v := (-1)) (dq dM_push 12 rfl) (by decide) ?_
  exact zi_ireturn rfl rfl (dq dM_push 13 rfl) (q_ri h)
