/-! THE REFERENCE AS FUNCTIONS, 3 (tools/genM.py) -/
def FM_absent_23 (N : Nat) (l1 : Int32) (l3 : Int32) (l4 : Int32) (J : zJ) : Option (Unit × zJ) :=
  qk (qi l4 960) <|
  if (J 14 l4.toNatClampNeg) = 2 then
    qk (qi l1 100) <|
    qk (qi l1 100) <|
    let J4 := zu J 22 l1.toNatClampNeg ((J 22 l1.toNatClampNeg) + 1)
    qk (qi l4 960) <|
    qk (qi l4 960) <|
    qb (FM_adds N (J4 13 l4.toNatClampNeg) l1 l3 (J4 15 l4.toNatClampNeg) J4) fun v7 J8 =>
    some ((), J8)
  else
    some ((), J)
theorem SM_absent_23 {g : zg} {d N : Nat} {M0 : zM} {A : Nat} {r : Unit} {J1 : zJ} {J : zJ}  {l1 : Int32} {l3 : Int32} {l4 : Int32} (hL : zLy M0 A mShL mRf) (h : FM_absent_23 N l1 l3 l4 J = some (r, J1)) (hd : 1 ≤ d)  : zG g d mM_absent (zPq (rU r) (zmm M0 A 40 J1)) (zmm M0 A 40 J) 23 [(0, va_rf (some (A + 0))), (1, .int l1), (3, .int l3), (4, .int l4)] [] := by
  unfold FM_absent_23 at h
  refine zi_aload_n 0 (dq dM_absent 14 rfl) rfl ?_
  refine ri_getr (zLs hL 0 rfl) (zLr hL 13 rfl) fM_51 (dq dM_absent 15 rfl) ?_
  refine zi_iload 3 (dq dM_absent 16 rfl) rfl ?_
  obtain ⟨c1, h⟩ := q_k h
  refine ri_iald (zLs hL 14 rfl) (by decide) rfl c1 (dq dM_absent 17 rfl) ?_
  refine zi_iconst (v := 2) (dq dM_absent 18 rfl) (by decide) ?_
  refine zi_icmp_eq (tgt := 35) (dq dM_absent 19 rfl) (by decide) (fun c => ?_) (fun c => ?_)
  · have h := q_t c h
    refine zi_aload_n 0 (dq dM_absent 21 rfl) rfl ?_
    refine ri_getr (zLs hL 0 rfl) (zLr hL 21 rfl) fM_75 (dq dM_absent 22 rfl) ?_
    refine zi_iload_n 1 (dq dM_absent 23 rfl) rfl ?_
    refine zi_dup2 (dq dM_absent 24 rfl) (by first | rfl | exact z_cr _) (by first | rfl | exact z_cr _) ?_
    obtain ⟨c2, h⟩ := q_k h
    refine ri_iald (zLs hL 22 rfl) (by decide) rfl c2 (dq dM_absent 25 rfl) ?_
    refine zi_iconst (v := 1) (dq dM_absent 26 rfl) (by decide) ?_
    refine zi_iadd (dq dM_absent 27 rfl) ?_
    obtain ⟨c3, h⟩ := q_k h
    refine ri_iast (zLs hL 22 rfl) (by decide) rfl c3 (dq dM_absent 28 rfl) ?_
    refine zi_aload_n 0 (dq dM_absent 29 rfl) rfl ?_
    refine zi_aload_n 0 (dq dM_absent 30 rfl) rfl ?_
    refine ri_getr (zLs hL 0 rfl) (zLr hL 12 rfl) fM_48 (dq dM_absent 31 rfl) ?_
    refine zi_iload 3 (dq dM_absent 32 rfl) rfl ?_
    obtain ⟨c5, h⟩ := q_k h
    refine ri_iald (zLs hL 13 rfl) (by decide) rfl c5 (dq dM_absent 33 rfl) ?_
    refine zi_iload_n 1 (dq dM_absent 34 rfl) rfl ?_
    refine zi_iload_n 2 (dq dM_absent 35 rfl) rfl ?_
    refine zi_aload_n 0 (dq dM_absent 36 rfl) rfl ?_
    refine ri_getr (zLs hL 0 rfl) (zLr hL 14 rfl) fM_54 (dq dM_absent 37 rfl) ?_
    refine zi_iload 3 (dq dM_absent 38 rfl) rfl ?_
    obtain ⟨c6, h⟩ := q_k h
    refine ri_iald (zLs hL 15 rfl) (by decide) rfl c6 (dq dM_absent 39 rfl) ?_
    obtain ⟨v7, J8, hv7, h⟩ := q_b h
    refine zi_cVi4 (SM_adds hL hv7 (d := d - 1) (by omega)) wM_adds aM_293 iM_adds sM_adds (by omega) (zLs hL 0 rfl) rfl (Nat.le_of_ble_eq_true rfl) (dq dM_absent 40 rfl) (fun _ _ hh => ?_)
    obtain ⟨rfl, rfl⟩ := hh
    refine zi_pop (dq dM_absent 41 rfl) (by first | rfl | exact z_cr _) ?_
    exact zi_return rfl (dq dM_absent 42 rfl) (q_ru h)
  · have h := q_f c h
    exact zi_return rfl (dq dM_absent 20 rfl) (q_ru h)
def FM_absent (N : Nat) (l1 : Int32) (l2 : Int32) (l3 : Int32) (J : zJ) : Option (Unit × zJ) :=
  let y1 := (6 * l2) + l3
  qk (qi y1 960) <|
  if (J 14 y1.toNatClampNeg) = 0 then
    let J3 := zu J 0 49 0
    FM_absent_23 N l1 l3 y1 J3
  else
    FM_absent_23 N l1 l3 y1 J
theorem SM_absent {g : zg} {d N : Nat} {M0 : zM} {A : Nat} {r : Unit} {J1 : zJ} {J : zJ} {l1 : Int32} {l2 : Int32} {l3 : Int32} (hL : zLy M0 A mShL mRf) (h : FM_absent N l1 l2 l3 J = some (r, J1)) (hd : 1 ≤ d) : zEv g d mM_absent [va_rf (some (A + 0)), .int l1, .int l2, .int l3] (zmm M0 A 40 J) (fun Mq => Mq = zmm M0 A 40 J1) := by
  unfold FM_absent at h
  refine zEu_q (r := r) (lv := [(0, va_rf (some (A + 0))), (1, .int l1), (2, .int l2), (3, .int l3)]) ⟨by decide +kernel, by decide, by decide +kernel⟩ (by simp [z_cr, z_ci]) (Nat.le_of_ble_eq_true rfl) rfl ?_
  refine zi_bipush (v := 6) (dq dM_absent 0 rfl) (by decide) ?_
  refine zi_iload_n 2 (dq dM_absent 1 rfl) rfl ?_
  refine zi_imul (dq dM_absent 2 rfl) ?_
  refine zi_iload_n 3 (dq dM_absent 3 rfl) rfl ?_
  refine zi_iadd (dq dM_absent 4 rfl) ?_
  refine zi_istC (lv' := [(4, _), (0, _), (1, _), (2, _), (3, _)]) (dq dM_absent 5 rfl) (by decide) (by simp [z_cr, z_ci]) rfl ?_
  refine zi_aload_n 1 (dq dM_absent 6 rfl) rfl ?_
  refine ri_getr (zLs hL 0 rfl) (zLr hL 13 rfl) fM_51 (dq dM_absent 7 rfl) ?_
  refine zi_iload 0 (dq dM_absent 8 rfl) rfl ?_
  obtain ⟨c2, h⟩ := q_k h
  refine ri_iald (zLs hL 14 rfl) (by decide) rfl c2 (dq dM_absent 9 rfl) ?_
  refine zi_if_ne (tgt := 23) (dq dM_absent 10 rfl) (by decide) (fun c => ?_) (fun c => ?_)
  · have h := q_f c h
    exact zG_lv (zs_c 1 rfl (zs_c 2 rfl (zs_c 4 rfl (zs_c 0 rfl zs_n)))) (SM_absent_23 hL h hd )
  · have h := q_t c h
    refine zi_aload_n 1 (dq dM_absent 11 rfl) rfl ?_
    refine zi_iconst (v := 0) (dq dM_absent 12 rfl) (by decide) ?_
    refine ri_puti (zLs hL 0 rfl) (by decide) fM_236 (fun h => by cases h) (by decide) (by decide) (dq dM_absent 13 rfl) ?_
    exact zG_lv (zs_c 1 rfl (zs_c 2 rfl (zs_c 4 rfl (zs_c 0 rfl zs_n)))) (SM_absent_23 hL h hd )
def FM_baseOf (N : Nat) (l1 : Int32) (J : zJ) : Option (Int32 × zJ) :=
  qk (qi l1 100) <|
  qb (FM_unwrap N (J 21 l1.toNatClampNeg) J) fun v2 J3 =>
  some ((J3 0 23), J3)
theorem SM_baseOf {g : zg} {d N : Nat} {M0 : zM} {A : Nat} {r : Int32} {J1 : zJ} {J : zJ} {l1 : Int32} (hL : zLy M0 A mShL mRf) (h : FM_baseOf N l1 J = some (r, J1)) (hd : 2 ≤ d) : zEi g d mM_baseOf [va_rf (some (A + 0)), .int l1] (zmm M0 A 40 J) (fun v Mq => v = r ∧ Mq = zmm M0 A 40 J1) := by
  unfold FM_baseOf at h
  refine zEi_q (r := r) (lv := [(0, va_rf (some (A + 0))), (1, .int l1)]) ⟨by decide +kernel, by decide, by decide +kernel⟩ (by simp [z_cr, z_ci]) (Nat.le_of_ble_eq_true rfl) rfl ?_
  refine zi_aload_n 0 (dq dM_baseOf 0 rfl) rfl ?_
  refine zi_aload_n 0 (dq dM_baseOf 1 rfl) rfl ?_
  refine ri_getr (zLs hL 0 rfl) (zLr hL 20 rfl) fM_72 (dq dM_baseOf 2 rfl) ?_
  refine zi_iload_n 1 (dq dM_baseOf 3 rfl) rfl ?_
  obtain ⟨c1, h⟩ := q_k h
  refine ri_iald (zLs hL 21 rfl) (by decide) rfl c1 (dq dM_baseOf 4 rfl) ?_
  obtain ⟨v2, J3, hv2, h⟩ := q_b h
  refine zi_cVv1 (SM_unwrap hL hv2 (d := d - 1) (by omega)) wM_unwrap aM_218 iM_unwrap sM_unwrap (by omega) (zLs hL 0 rfl) rfl (Nat.le_of_ble_eq_true rfl) (dq dM_baseOf 5 rfl) (fun _ hh => ?_)
  subst hh
  refine zi_aload_n 0 (dq dM_baseOf 6 rfl) rfl ?_
  refine ri_geti (zLs hL 0 rfl) (by decide) fM_222 (dq dM_baseOf 7 rfl) ?_
  exact zi_ireturn rfl rfl (dq dM_baseOf 8 rfl) (q_ri h)
def FM_isEnd (N : Nat) (J : zJ) : Option (Bool × zJ) :=
  qk (qi ((J 0 48) - 1) 160) <|
  if (J 35 ((J 0 48) - 1).toNatClampNeg) = 0 then
    qb (FM_bound N J) fun v6 J7 =>
    if (J 0 47) = v6 then
      some (true, J7)
    else
      some (false, J7)
  else
    qb (FM_bound N J) fun v2 J3 =>
    if v2 ≤ ((J 0 47) + 1) then
      some (false, J3)
    else
      qk (qi (J3 0 47) 120) <|
      if (J3 19 (J3 0 47).toNatClampNeg) = 0 then
        qk (qi ((J3 0 47) + 1) 120) <|
        if (J3 19 ((J3 0 47) + 1).toNatClampNeg) = 0 then
          some (true, J3)
        else
          some (false, J3)
      else
        some (false, J3)
theorem SM_isEnd {g : zg} {d N : Nat} {M0 : zM} {A : Nat} {r : Bool} {J1 : zJ} {J : zJ}  (hL : zLy M0 A mShL mRf) (h : FM_isEnd N J = some (r, J1)) (hd : 1 ≤ d) : zEi g d mM_isEnd [va_rf (some (A + 0))] (zmm M0 A 40 J) (fun v Mq => v = bI r ∧ Mq = zmm M0 A 40 J1) := by
  unfold FM_isEnd at h
  refine zEb_q (r := r) (lv := [(0, va_rf (some (A + 0)))]) ⟨by decide +kernel, by decide, by decide +kernel⟩ (by simp [z_cr, z_ci]) (Nat.le_of_ble_eq_true rfl) rfl ?_
  refine zi_aload_n 0 (dq dM_isEnd 0 rfl) rfl ?_
  refine ri_getr (zLs hL 0 rfl) (zLr hL 34 rfl) fM_114 (dq dM_isEnd 1 rfl) ?_
  refine zi_aload_n 0 (dq dM_isEnd 2 rfl) rfl ?_
  refine ri_geti (zLs hL 0 rfl) (by decide) fM_242 (dq dM_isEnd 3 rfl) ?_
  refine zi_iconst (v := 1) (dq dM_isEnd 4 rfl) (by decide) ?_
  refine zi_isub (dq dM_isEnd 5 rfl) ?_
  obtain ⟨c1, h⟩ := q_k h
  refine ri_zald (zLs hL 35 rfl) (by decide) rfl c1 (dq dM_isEnd 6 rfl) ?_
  refine zi_if_ne (tgt := 31) (dq dM_isEnd 7 rfl) (by decide) (fun c => ?_) (fun c => ?_)
  · have h := q_f c h
    refine zi_aload_n 0 (dq dM_isEnd 17 rfl) rfl ?_
    refine ri_geti (zLs hL 0 rfl) (by decide) fM_245 (dq dM_isEnd 18 rfl) ?_
    refine zi_iconst (v := 1) (dq dM_isEnd 19 rfl) (by decide) ?_
    refine zi_iadd (dq dM_isEnd 20 rfl) ?_
    refine zi_aload_n 0 (dq dM_isEnd 21 rfl) rfl ?_
    obtain ⟨v2, J3, hv2, h⟩ := q_b h
    refine zi_cVi0 (SM_bound hL hv2 (d := d - 1) (by omega)) wM_bound aM_273 iM_bound sM_bound (by omega) (zLs hL 0 rfl) rfl (Nat.le_of_ble_eq_true rfl) (dq dM_isEnd 22 rfl) (fun _ _ hh => ?_)
    obtain ⟨rfl, rfl⟩ := hh
    refine zi_icmp_ge (tgt := 74) (dq dM_isEnd 23 rfl) (by decide) (fun c => ?_) (fun c => ?_)
    · have h := q_t c h
      refine zi_iconst (v := 0) (dq dM_isEnd 40 rfl) (by decide) ?_
      exact zi_ireturn rfl (by decide) (dq dM_isEnd 41 rfl) (q_rb (b := false) h)
    · have h := q_f c h
      refine zi_aload_n 0 (dq dM_isEnd 24 rfl) rfl ?_
      refine ri_getr (zLs hL 0 rfl) (zLr hL 18 rfl) fM_66 (dq dM_isEnd 25 rfl) ?_
      refine zi_aload_n 0 (dq dM_isEnd 26 rfl) rfl ?_
      refine ri_geti (zLs hL 0 rfl) (by decide) fM_245 (dq dM_isEnd 27 rfl) ?_
      obtain ⟨c4, h⟩ := q_k h
      refine ri_iald (zLs hL 19 rfl) (by decide) rfl c4 (dq dM_isEnd 28 rfl) ?_
      refine zi_if_ne (tgt := 74) (dq dM_isEnd 29 rfl) (by decide) (fun c => ?_) (fun c => ?_)
      · have h := q_f c h
        refine zi_iconst (v := 0) (dq dM_isEnd 40 rfl) (by decide) ?_
        exact zi_ireturn rfl (by decide) (dq dM_isEnd 41 rfl) (q_rb (b := false) h)
      · have h := q_t c h
        refine zi_aload_n 0 (dq dM_isEnd 30 rfl) rfl ?_
        refine ri_getr (zLs hL 0 rfl) (zLr hL 18 rfl) fM_66 (dq dM_isEnd 31 rfl) ?_
        refine zi_aload_n 0 (dq dM_isEnd 32 rfl) rfl ?_
        refine ri_geti (zLs hL 0 rfl) (by decide) fM_245 (dq dM_isEnd 33 rfl) ?_
        refine zi_iconst (v := 1) (dq dM_isEnd 34 rfl) (by decide) ?_
        refine zi_iadd (dq dM_isEnd 35 rfl) ?_
        obtain ⟨c5, h⟩ := q_k h
        refine ri_iald (zLs hL 19 rfl) (by decide) rfl c5 (dq dM_isEnd 36 rfl) ?_
        refine zi_if_ne (tgt := 74) (dq dM_isEnd 37 rfl) (by decide) (fun c => ?_) (fun c => ?_)
        · have h := q_f c h
          refine zi_iconst (v := 0) (dq dM_isEnd 40 rfl) (by decide) ?_
          exact zi_ireturn rfl (by decide) (dq dM_isEnd 41 rfl) (q_rb (b := false) h)
        · have h := q_t c h
          refine zi_iconst (v := 1) (dq dM_isEnd 38 rfl) (by decide) ?_
          refine zi_goto (tgt := 75) (dq dM_isEnd 39 rfl) (by decide) ?_
          exact zi_ireturn rfl (by decide) (dq dM_isEnd 41 rfl) (q_rb (b := true) h)
  · have h := q_t c h
    refine zi_aload_n 0 (dq dM_isEnd 8 rfl) rfl ?_
    refine ri_geti (zLs hL 0 rfl) (by decide) fM_245 (dq dM_isEnd 9 rfl) ?_
    refine zi_aload_n 0 (dq dM_isEnd 10 rfl) rfl ?_
    obtain ⟨v6, J7, hv6, h⟩ := q_b h
    refine zi_cVi0 (SM_bound hL hv6 (d := d - 1) (by omega)) wM_bound aM_273 iM_bound sM_bound (by omega) (zLs hL 0 rfl) rfl (Nat.le_of_ble_eq_true rfl) (dq dM_isEnd 11 rfl) (fun _ _ hh => ?_)
    obtain ⟨rfl, rfl⟩ := hh
    refine zi_icmp_ne (tgt := 29) (dq dM_isEnd 12 rfl) (by decide) (fun c => ?_) (fun c => ?_)
    · have h := q_f c h
      refine zi_iconst (v := 0) (dq dM_isEnd 15 rfl) (by decide) ?_
      exact zi_ireturn rfl (by decide) (dq dM_isEnd 16 rfl) (q_rb (b := false) h)
    · have h := q_t c h
      refine zi_iconst (v := 1) (dq dM_isEnd 13 rfl) (by decide) ?_
      refine zi_goto (tgt := 30) (dq dM_isEnd 14 rfl) (by decide) ?_
      exact zi_ireturn rfl (by decide) (dq dM_isEnd 16 rfl) (q_rb (b := true) h)
def FM_leaveFrame_43 (N : Nat) (t1 : Int32) (t2 : Int32) (J : zJ) : Option (Unit × zJ) :=
  let J1 := zu J 0 47 (t1 + t2)
  let J2 := zu J1 0 48 ((J1 0 48) - 1)
  some ((), J2)
theorem SM_leaveFrame_43 {g : zg} {d N : Nat} {M0 : zM} {A : Nat} {r : Unit} {J1 : zJ} {J : zJ}  {t1 : Int32} {t2 : Int32} (hL : zLy M0 A mShL mRf) (h : FM_leaveFrame_43 N t1 t2 J = some (r, J1)) (hd : 2 ≤ d)  : zG g d mM_leaveFrame (zPq (rU r) (zmm M0 A 40 J1)) (zmm M0 A 40 J) 43 [(0, va_rf (some (A + 0)))] [.int t2, .int t1, va_rf (some (A + 0))] := by
  unfold FM_leaveFrame_43 at h
  refine zi_iadd (dq dM_leaveFrame 23 rfl) ?_
  refine ri_puti (zLs hL 0 rfl) (by decide) fM_245 (fun h => by cases h) rfl rfl (dq dM_leaveFrame 24 rfl) ?_
  refine zi_aload_n 0 (dq dM_leaveFrame 25 rfl) rfl ?_
  refine zi_dup (dq dM_leaveFrame 26 rfl) (by first | rfl | exact z_cr _) ?_
  refine ri_geti (zLs hL 0 rfl) (by decide) fM_242 (dq dM_leaveFrame 27 rfl) ?_
  refine zi_iconst (v := 1) (dq dM_leaveFrame 28 rfl) (by decide) ?_
  refine zi_isub (dq dM_leaveFrame 29 rfl) ?_
  refine ri_puti (zLs hL 0 rfl) (by decide) fM_242 (fun h => by cases h) rfl rfl (dq dM_leaveFrame 30 rfl) ?_
  exact zi_return rfl (dq dM_leaveFrame 31 rfl) (q_ru h)
def FM_leaveFrame_19 (N : Nat) (J : zJ) : Option (Unit × zJ) :=
  qk (qi ((J 0 48) - 1) 160) <|
  if (J 35 ((J 0 48) - 1).toNatClampNeg) = 0 then
    FM_leaveFrame_43 N (J 0 47) 0 J
  else
    FM_leaveFrame_43 N (J 0 47) 2 J
theorem SM_leaveFrame_19 {g : zg} {d N : Nat} {M0 : zM} {A : Nat} {r : Unit} {J1 : zJ} {J : zJ}   (hL : zLy M0 A mShL mRf) (h : FM_leaveFrame_19 N J = some (r, J1)) (hd : 2 ≤ d)  : zG g d mM_leaveFrame (zPq (rU r) (zmm M0 A 40 J1)) (zmm M0 A 40 J) 19 [(0, va_rf (some (A + 0)))] [] := by
  unfold FM_leaveFrame_19 at h
  refine zi_aload_n 0 (dq dM_leaveFrame 9 rfl) rfl ?_
  refine zi_dup (dq dM_leaveFrame 10 rfl) (by first | rfl | exact z_cr _) ?_
  refine ri_geti (zLs hL 0 rfl) (by decide) fM_245 (dq dM_leaveFrame 11 rfl) ?_
  refine zi_aload_n 0 (dq dM_leaveFrame 12 rfl) rfl ?_
  refine ri_getr (zLs hL 0 rfl) (zLr hL 34 rfl) fM_114 (dq dM_leaveFrame 13 rfl) ?_
  refine zi_aload_n 0 (dq dM_leaveFrame 14 rfl) rfl ?_
  refine ri_geti (zLs hL 0 rfl) (by decide) fM_242 (dq dM_leaveFrame 15 rfl) ?_
  refine zi_iconst (v := 1) (dq dM_leaveFrame 16 rfl) (by decide) ?_
  refine zi_isub (dq dM_leaveFrame 17 rfl) ?_
  obtain ⟨c1, h⟩ := q_k h
  refine ri_zald (zLs hL 35 rfl) (by decide) rfl c1 (dq dM_leaveFrame 18 rfl) ?_
  refine zi_if_eq (tgt := 42) (dq dM_leaveFrame 19 rfl) (by decide) (fun c => ?_) (fun c => ?_)
  · have h := q_t c h
    refine zi_iconst (v := 0) (dq dM_leaveFrame 22 rfl) (by decide) ?_
    exact zG_lv (zs_c 0 rfl zs_n) (SM_leaveFrame_43 hL h hd )
  · have h := q_f c h
    refine zi_iconst (v := 2) (dq dM_leaveFrame 20 rfl) (by decide) ?_
    refine zi_goto (tgt := 43) (dq dM_leaveFrame 21 rfl) (by decide) ?_
    exact zG_lv (zs_c 0 rfl zs_n) (SM_leaveFrame_43 hL h hd )
def FM_leaveFrame (N : Nat) (J : zJ) : Option (Unit × zJ) :=
  if (J 0 49) = 0 then
    FM_leaveFrame_19 N J
  else
    qb (FM_isEnd N J) fun v1 J2 =>
    if (bI v1) = 0 then
      let J3 := zu J2 0 49 0
      FM_leaveFrame_19 N J3
    else
      FM_leaveFrame_19 N J2
theorem SM_leaveFrame {g : zg} {d N : Nat} {M0 : zM} {A : Nat} {r : Unit} {J1 : zJ} {J : zJ}  (hL : zLy M0 A mShL mRf) (h : FM_leaveFrame N J = some (r, J1)) (hd : 2 ≤ d) : zEv g d mM_leaveFrame [va_rf (some (A + 0))] (zmm M0 A 40 J) (fun Mq => Mq = zmm M0 A 40 J1) := by
  unfold FM_leaveFrame at h
  refine zEu_q (r := r) (lv := [(0, va_rf (some (A + 0)))]) ⟨by decide +kernel, by decide, by decide +kernel⟩ (by simp [z_cr, z_ci]) (Nat.le_of_ble_eq_true rfl) rfl ?_
  refine zi_aload_n 0 (dq dM_leaveFrame 0 rfl) rfl ?_
  refine ri_geti (zLs hL 0 rfl) (by decide) fM_236 (dq dM_leaveFrame 1 rfl) ?_
  refine zi_if_eq (tgt := 19) (dq dM_leaveFrame 2 rfl) (by decide) (fun c => ?_) (fun c => ?_)
  · have h := q_t c h
    exact zG_lv (zs_c 0 rfl zs_n) (SM_leaveFrame_19 hL h hd )
  · have h := q_f c h
    refine zi_aload_n 0 (dq dM_leaveFrame 3 rfl) rfl ?_
    obtain ⟨v1, J2, hv1, h⟩ := q_b h
    refine zi_cVi0 (SM_isEnd hL hv1 (d := d - 1) (by omega)) wM_isEnd aM_305 iM_isEnd sM_isEnd (by omega) (zLs hL 0 rfl) rfl (Nat.le_of_ble_eq_true rfl) (dq dM_leaveFrame 4 rfl) (fun _ _ hh => ?_)
    obtain ⟨rfl, rfl⟩ := hh
    refine zi_if_ne (tgt := 19) (dq dM_leaveFrame 5 rfl) (by decide) (fun c => ?_) (fun c => ?_)
    · have h := q_f c h
      exact zG_lv (zs_c 0 rfl zs_n) (SM_leaveFrame_19 hL h hd )
    · have h := q_t c h
      refine zi_aload_n 0 (dq dM_leaveFrame 6 rfl) rfl ?_
      refine zi_iconst (v := 0) (dq dM_leaveFrame 7 rfl) (by decide) ?_
      refine ri_puti (zLs hL 0 rfl) (by decide) fM_236 (fun h => by cases h) (by decide) (by decide) (dq dM_leaveFrame 8 rfl) ?_
      exact zG_lv (zs_c 0 rfl zs_n) (SM_leaveFrame_19 hL h hd )
def FM_goOn_112 (N : Nat) (t1 : Int32) (J : zJ) : Option (Unit × zJ) :=
  qz t1 fun b1 =>
  let J2 := zu J 0 49 (bI b1)
  qb (FM_leaveFrame N J2) fun v3 J4 =>
  some ((), J4)
theorem SM_goOn_112 {g : zg} {d N : Nat} {M0 : zM} {A : Nat} {r : Unit} {J1 : zJ} {J : zJ}  {t1 : Int32} (hL : zLy M0 A mShL mRf) (h : FM_goOn_112 N t1 J = some (r, J1)) (hd : 6 ≤ d)  : zG g d mM_goOn (zPq (rU r) (zmm M0 A 40 J1)) (zmm M0 A 40 J) 112 [(0, va_rf (some (A + 0)))] [.int t1, va_rf (some (A + 0))] := by
  unfold FM_goOn_112 at h
  obtain ⟨b1, eb1, h⟩ := q_z h
  refine zi_top eb1 ?_
  refine ri_puti (zLs hL 0 rfl) (by decide) fM_236 (fun h => by cases h) (bI_nar _) (bI_fit _) (dq dM_goOn 62 rfl) ?_
  refine zi_aload_n 0 (dq dM_goOn 63 rfl) rfl ?_
  obtain ⟨v3, J4, hv3, h⟩ := q_b h
  refine zi_cVv0 (SM_leaveFrame hL hv3 (d := d - 1) (by omega)) wM_leaveFrame aM_311 iM_leaveFrame sM_leaveFrame (by omega) (zLs hL 0 rfl) rfl (Nat.le_of_ble_eq_true rfl) (dq dM_goOn 64 rfl) (fun _ hh => ?_)
  subst hh
  exact zi_return rfl (dq dM_goOn 65 rfl) (q_ru h)
def FM_goOn_66 (N : Nat) (l2 : Int32) (l4 : Int32) (J : zJ) : Option (Unit × zJ) :=
  if l2 < 0 then
    FM_goOn_112 N 1 J
  else
    qk (qi l4 160) <|
    if (J 11 l4.toNatClampNeg) = 0 then
      FM_goOn_112 N 1 J
    else
      qk (qi l2 100) <|
      qk (qi l4 160) <|
      qk (qi l4 160) <|
      qc (FM_in N (J 22 l2.toNatClampNeg) (J 5 l4.toNatClampNeg) (J 6 l4.toNatClampNeg)) fun v5 =>
      if (bI v5) = 0 then
        FM_goOn_112 N 0 J
      else
        FM_goOn_112 N 1 J
theorem SM_goOn_66 {g : zg} {d N : Nat} {M0 : zM} {A : Nat} {r : Unit} {J1 : zJ} {J : zJ}  {l2 : Int32} {l4 : Int32} (hL : zLy M0 A mShL mRf) (h : FM_goOn_66 N l2 l4 J = some (r, J1)) (hd : 6 ≤ d)  : zG g d mM_goOn (zPq (rU r) (zmm M0 A 40 J1)) (zmm M0 A 40 J) 66 [(0, va_rf (some (A + 0))), (2, .int l2), (4, .int l4)] [] := by
  unfold FM_goOn_66 at h
  refine zi_aload_n 0 (dq dM_goOn 37 rfl) rfl ?_
  refine zi_iload_n 1 (dq dM_goOn 38 rfl) rfl ?_
  refine zi_if_lt (tgt := 107) (dq dM_goOn 39 rfl) (by decide) (fun c => ?_) (fun c => ?_)
  · have h := q_t c h
    refine zi_iconst (v := 1) (dq dM_goOn 59 rfl) (by decide) ?_
    refine zi_goto (tgt := 112) (dq dM_goOn 60 rfl) (by decide) ?_
    exact zG_lv (zs_c 0 rfl zs_n) (SM_goOn_112 hL h hd )
  · have h := q_f c h
    refine zi_aload_n 0 (dq dM_goOn 40 rfl) rfl ?_
    refine ri_getr (zLs hL 0 rfl) (zLr hL 10 rfl) fM_41 (dq dM_goOn 41 rfl) ?_
    refine zi_iload 2 (dq dM_goOn 42 rfl) rfl ?_
    obtain ⟨c1, h⟩ := q_k h
    refine ri_zald (zLs hL 11 rfl) (by decide) rfl c1 (dq dM_goOn 43 rfl) ?_
    refine zi_if_eq (tgt := 107) (dq dM_goOn 44 rfl) (by decide) (fun c => ?_) (fun c => ?_)
    · have h := q_t c h
      refine zi_iconst (v := 1) (dq dM_goOn 59 rfl) (by decide) ?_
      refine zi_goto (tgt := 112) (dq dM_goOn 60 rfl) (by decide) ?_
      exact zG_lv (zs_c 0 rfl zs_n) (SM_goOn_112 hL h hd )
    · have h := q_f c h
      refine zi_aload_n 0 (dq dM_goOn 45 rfl) rfl ?_
      refine ri_getr (zLs hL 0 rfl) (zLr hL 21 rfl) fM_75 (dq dM_goOn 46 rfl) ?_
      refine zi_iload_n 1 (dq dM_goOn 47 rfl) rfl ?_
      obtain ⟨c2, h⟩ := q_k h
      refine ri_iald (zLs hL 22 rfl) (by decide) rfl c2 (dq dM_goOn 48 rfl) ?_
      refine zi_aload_n 0 (dq dM_goOn 49 rfl) rfl ?_
      refine ri_getr (zLs hL 0 rfl) (zLr hL 4 rfl) fM_23 (dq dM_goOn 50 rfl) ?_
      refine zi_iload 2 (dq dM_goOn 51 rfl) rfl ?_
      obtain ⟨c3, h⟩ := q_k h
      refine ri_iald (zLs hL 5 rfl) (by decide) rfl c3 (dq dM_goOn 52 rfl) ?_
      refine zi_aload_n 0 (dq dM_goOn 53 rfl) rfl ?_
      refine ri_getr (zLs hL 0 rfl) (zLr hL 5 rfl) fM_26 (dq dM_goOn 54 rfl) ?_
      refine zi_iload 2 (dq dM_goOn 55 rfl) rfl ?_
      obtain ⟨c4, h⟩ := q_k h
      refine ri_iald (zLs hL 6 rfl) (by decide) rfl c4 (dq dM_goOn 56 rfl) ?_
      obtain ⟨v5, hv5, h⟩ := q_c h
      refine zi_cSi3 (SM_in  hv5 (d := d - 1) (by omega)) wM_in aM_166 tM_in (by omega) (Nat.le_of_ble_eq_true rfl) (dq dM_goOn 57 rfl) (fun _ _ hh => ?_)
      obtain ⟨rfl, rfl⟩ := hh
      refine zi_if_eq (tgt := 111) (dq dM_goOn 58 rfl) (by decide) (fun c => ?_) (fun c => ?_)
      · have h := q_t c h
        refine zi_iconst (v := 0) (dq dM_goOn 61 rfl) (by decide) ?_
        exact zG_lv (zs_c 0 rfl zs_n) (SM_goOn_112 hL h hd )
      · have h := q_f c h
        refine zi_iconst (v := 1) (dq dM_goOn 59 rfl) (by decide) ?_
        refine zi_goto (tgt := 112) (dq dM_goOn 60 rfl) (by decide) ?_
        exact zG_lv (zs_c 0 rfl zs_n) (SM_goOn_112 hL h hd )
def FM_goOn_265 (N : Nat) (l1 : Int32) (l2 : Int32) (l4 : Int32) (l6 : Int32) (J : zJ) : Option (Unit × zJ) :=
  qk (qi l1 160) <|
  let J2 := zu J 33 l1.toNatClampNeg (l6 + 1)
  qk (qi l4 160) <|
  if l6 = (J2 8 l4.toNatClampNeg) then
    qb (FM_leaveFrame N J2) fun v10 J11 =>
    some ((), J11)
  else
    if (J2 0 49) = 0 then
      some ((), J2)
    else
      qk (qi l2 100) <|
      qk (qi l2 100) <|
      let J6 := zu J2 22 l2.toNatClampNeg ((J2 22 l2.toNatClampNeg) + 1)
      qk (qi ((6 * l4) + l6) 960) <|
      qb (FM_element N (J6 13 ((6 * l4) + l6).toNatClampNeg) l2 l6 J6) fun v8 J9 =>
      some ((), J9)
theorem SM_goOn_265 {g : zg} {d N : Nat} {M0 : zM} {A : Nat} {r : Unit} {J1 : zJ} {J : zJ}  {l1 : Int32} {l2 : Int32} {l4 : Int32} {l6 : Int32} (hL : zLy M0 A mShL mRf) (h : FM_goOn_265 N l1 l2 l4 l6 J = some (r, J1)) (hd : 6 ≤ d)  : zG g d mM_goOn (zPq (rU r) (zmm M0 A 40 J1)) (zmm M0 A 40 J) 265 [(0, va_rf (some (A + 0))), (1, .int l1), (2, .int l2), (4, .int l4), (6, .int l6)] [] := by
  unfold FM_goOn_265 at h
  refine zi_aload_n 0 (dq dM_goOn 147 rfl) rfl ?_
  refine ri_getr (zLs hL 0 rfl) (zLr hL 32 rfl) fM_108 (dq dM_goOn 148 rfl) ?_
  refine zi_iload_n 1 (dq dM_goOn 149 rfl) rfl ?_
  refine zi_iload 4 (dq dM_goOn 150 rfl) rfl ?_
  refine zi_iconst (v := 1) (dq dM_goOn 151 rfl) (by decide) ?_
  refine zi_iadd (dq dM_goOn 152 rfl) ?_
  obtain ⟨c1, h⟩ := q_k h
  refine ri_iast (zLs hL 33 rfl) (by decide) rfl c1 (dq dM_goOn 153 rfl) ?_
  refine zi_iload 4 (dq dM_goOn 154 rfl) rfl ?_
  refine zi_aload_n 0 (dq dM_goOn 155 rfl) rfl ?_
  refine ri_getr (zLs hL 0 rfl) (zLr hL 7 rfl) fM_32 (dq dM_goOn 156 rfl) ?_
  refine zi_iload 3 (dq dM_goOn 157 rfl) rfl ?_
  obtain ⟨c3, h⟩ := q_k h
  refine ri_iald (zLs hL 8 rfl) (by decide) rfl c3 (dq dM_goOn 158 rfl) ?_
  refine zi_icmp_ne (tgt := 294) (dq dM_goOn 159 rfl) (by decide) (fun c => ?_) (fun c => ?_)
  · have h := q_f c h
    refine zi_aload_n 0 (dq dM_goOn 163 rfl) rfl ?_
    refine ri_geti (zLs hL 0 rfl) (by decide) fM_236 (dq dM_goOn 164 rfl) ?_
    refine zi_if_eq (tgt := 331) (dq dM_goOn 165 rfl) (by decide) (fun c => ?_) (fun c => ?_)
    · have h := q_t c h
      exact zi_return rfl (dq dM_goOn 186 rfl) (q_ru h)
    · have h := q_f c h
      refine zi_aload_n 0 (dq dM_goOn 166 rfl) rfl ?_
      refine ri_getr (zLs hL 0 rfl) (zLr hL 21 rfl) fM_75 (dq dM_goOn 167 rfl) ?_
      refine zi_iload_n 2 (dq dM_goOn 168 rfl) rfl ?_
      refine zi_dup2 (dq dM_goOn 169 rfl) (by first | rfl | exact z_cr _) (by first | rfl | exact z_cr _) ?_
      obtain ⟨c4, h⟩ := q_k h
      refine ri_iald (zLs hL 22 rfl) (by decide) rfl c4 (dq dM_goOn 170 rfl) ?_
      refine zi_iconst (v := 1) (dq dM_goOn 171 rfl) (by decide) ?_
      refine zi_iadd (dq dM_goOn 172 rfl) ?_
      obtain ⟨c5, h⟩ := q_k h
      refine ri_iast (zLs hL 22 rfl) (by decide) rfl c5 (dq dM_goOn 173 rfl) ?_
      refine zi_aload_n 0 (dq dM_goOn 174 rfl) rfl ?_
      refine zi_aload_n 0 (dq dM_goOn 175 rfl) rfl ?_
      refine ri_getr (zLs hL 0 rfl) (zLr hL 12 rfl) fM_48 (dq dM_goOn 176 rfl) ?_
      refine zi_bipush (v := 6) (dq dM_goOn 177 rfl) (by decide) ?_
      refine zi_iload 3 (dq dM_goOn 178 rfl) rfl ?_
      refine zi_imul (dq dM_goOn 179 rfl) ?_
      refine zi_iload 4 (dq dM_goOn 180 rfl) rfl ?_
      refine zi_iadd (dq dM_goOn 181 rfl) ?_
      obtain ⟨c7, h⟩ := q_k h
      refine ri_iald (zLs hL 13 rfl) (by decide) rfl c7 (dq dM_goOn 182 rfl) ?_
      refine zi_iload_n 2 (dq dM_goOn 183 rfl) rfl ?_
      refine zi_iload 4 (dq dM_goOn 184 rfl) rfl ?_
      obtain ⟨v8, J9, hv8, h⟩ := q_b h
      refine zi_cVv3 (SM_element hL hv8 (d := d - 1) (by omega)) wM_element aM_248 iM_element sM_element (by omega) (zLs hL 0 rfl) rfl (Nat.le_of_ble_eq_true rfl) (dq dM_goOn 185 rfl) (fun _ hh => ?_)
      subst hh
      exact zi_return rfl (dq dM_goOn 186 rfl) (q_ru h)
  · have h := q_t c h
    refine zi_aload_n 0 (dq dM_goOn 160 rfl) rfl ?_
    obtain ⟨v10, J11, hv10, h⟩ := q_b h
    refine zi_cVv0 (SM_leaveFrame hL hv10 (d := d - 1) (by omega)) wM_leaveFrame aM_311 iM_leaveFrame sM_leaveFrame (by omega) (zLs hL 0 rfl) rfl (Nat.le_of_ble_eq_true rfl) (dq dM_goOn 161 rfl) (fun _ hh => ?_)
    subst hh
    refine zi_goto (tgt := 331) (dq dM_goOn 162 rfl) (by decide) ?_
    exact zi_return rfl (dq dM_goOn 186 rfl) (q_ru h)
def FM_goOn_207 (N : Nat) (l1 : Int32) (l2 : Int32) (l4 : Int32) (l5 : Int32) (K207 : (Int32 × zJ) → Option (Unit × zJ)) (s : Int32 × zJ) : Option (Unit × zJ) :=
  let l6 := s.1
  let J := s.2
  if (J 0 49) = 0 then
    FM_goOn_265 N l1 l2 l4 l6 J
  else
    qk (qi l4 160) <|
    if (J 8 l4.toNatClampNeg) ≤ l6 then
      FM_goOn_265 N l1 l2 l4 l6 J
    else
      qk (qi ((6 * l4) + l6) 960) <|
      qk (qi (J 13 ((6 * l4) + l6).toNatClampNeg) 160) <|
      if ((J 9 (J 13 ((6 * l4) + l6).toNatClampNeg).toNatClampNeg) &&& l5) = 0 then
        qb (FM_absent N l2 l4 l6 J) fun v4 J5 =>
        let y6 := l6 + (1)
        K207 (y6, J5)
      else
        FM_goOn_265 N l1 l2 l4 l6 J
theorem SM_goOn_207 {g : zg} {d N : Nat} {M0 : zM} {A : Nat} {r : Unit} {J1 : zJ}  {l1 : Int32} {l2 : Int32} {l4 : Int32} {l5 : Int32} (hL : zLy M0 A mShL mRf) (hd : 6 ≤ d)  : ∀ n s, qfix (FM_goOn_207 N l1 l2 l4 l5) n s = some (r, J1) → zG g d mM_goOn (zPq (rU r) (zmm M0 A 40 J1)) (zmm M0 A 40 s.2) 207 [(0, va_rf (some (A + 0))), (1, .int l1), (2, .int l2), (4, .int l4), (5, .int l5), (6, .int s.1)] [] := by
  refine qfix_sound (fun K207 hK207 s h => ?_)
  unfold FM_goOn_207 at h
  refine zi_aload_n 0 (dq dM_goOn 117 rfl) rfl ?_
  refine ri_geti (zLs hL 0 rfl) (by decide) fM_236 (dq dM_goOn 118 rfl) ?_
  refine zi_if_eq (tgt := 265) (dq dM_goOn 119 rfl) (by decide) (fun c => ?_) (fun c => ?_)
  · have h := q_t c h
    exact zG_lv (zs_c 0 rfl (zs_c 1 rfl (zs_c 2 rfl (zs_c 3 rfl (zs_c 5 rfl zs_n))))) (SM_goOn_265 hL h hd )
  · have h := q_f c h
    refine zi_iload 5 (dq dM_goOn 120 rfl) rfl ?_
    refine zi_aload_n 0 (dq dM_goOn 121 rfl) rfl ?_
    refine ri_getr (zLs hL 0 rfl) (zLr hL 7 rfl) fM_32 (dq dM_goOn 122 rfl) ?_
    refine zi_iload 3 (dq dM_goOn 123 rfl) rfl ?_
    obtain ⟨c1, h⟩ := q_k h
    refine ri_iald (zLs hL 8 rfl) (by decide) rfl c1 (dq dM_goOn 124 rfl) ?_
    refine zi_icmp_ge (tgt := 265) (dq dM_goOn 125 rfl) (by decide) (fun c => ?_) (fun c => ?_)
    · have h := q_t c h
      exact zG_lv (zs_c 0 rfl (zs_c 1 rfl (zs_c 2 rfl (zs_c 3 rfl (zs_c 5 rfl zs_n))))) (SM_goOn_265 hL h hd )
    · have h := q_f c h
      refine zi_aload_n 0 (dq dM_goOn 126 rfl) rfl ?_
      refine ri_getr (zLs hL 0 rfl) (zLr hL 8 rfl) fM_35 (dq dM_goOn 127 rfl) ?_
      refine zi_aload_n 0 (dq dM_goOn 128 rfl) rfl ?_
      refine ri_getr (zLs hL 0 rfl) (zLr hL 12 rfl) fM_48 (dq dM_goOn 129 rfl) ?_
      refine zi_bipush (v := 6) (dq dM_goOn 130 rfl) (by decide) ?_
      refine zi_iload 3 (dq dM_goOn 131 rfl) rfl ?_
      refine zi_imul (dq dM_goOn 132 rfl) ?_
      refine zi_iload 5 (dq dM_goOn 133 rfl) rfl ?_
      refine zi_iadd (dq dM_goOn 134 rfl) ?_
      obtain ⟨c2, h⟩ := q_k h
      refine ri_iald (zLs hL 13 rfl) (by decide) rfl c2 (dq dM_goOn 135 rfl) ?_
      obtain ⟨c3, h⟩ := q_k h
      refine ri_iald (zLs hL 9 rfl) (by decide) rfl c3 (dq dM_goOn 136 rfl) ?_
      refine zi_iload 4 (dq dM_goOn 137 rfl) rfl ?_
      refine zi_iand (dq dM_goOn 138 rfl) ?_
      refine zi_if_ne (tgt := 265) (dq dM_goOn 139 rfl) (by decide) (fun c => ?_) (fun c => ?_)
      · have h := q_f c h
        exact zG_lv (zs_c 0 rfl (zs_c 1 rfl (zs_c 2 rfl (zs_c 3 rfl (zs_c 5 rfl zs_n))))) (SM_goOn_265 hL h hd )
      · have h := q_t c h
        refine zi_aload_n 0 (dq dM_goOn 140 rfl) rfl ?_
        refine zi_iload_n 2 (dq dM_goOn 141 rfl) rfl ?_
        refine zi_iload 3 (dq dM_goOn 142 rfl) rfl ?_
        refine zi_iload 5 (dq dM_goOn 143 rfl) rfl ?_
        obtain ⟨v4, J5, hv4, h⟩ := q_b h
        refine zi_cVv3 (SM_absent hL hv4 (d := d - 1) (by omega)) wM_absent aM_314 iM_absent sM_absent (by omega) (zLs hL 0 rfl) rfl (Nat.le_of_ble_eq_true rfl) (dq dM_goOn 144 rfl) (fun _ hh => ?_)
        subst hh
        refine zi_iincC (v := _ + (1)) (lv' := [(6, _), (0, _), (1, _), (2, _), (4, _), (5, _)]) 5 (dq dM_goOn 145 rfl) rfl rfl (by decide) (by simp [z_cr, z_ci]) rfl ?_
        refine zi_goto (tgt := 207) (dq dM_goOn 146 rfl) (by decide) ?_
        exact zG_lv (zs_c 1 rfl (zs_c 2 rfl (zs_c 3 rfl (zs_c 4 rfl (zs_c 5 rfl (zs_c 0 rfl zs_n)))))) (hK207 _ h)
def FM_goOn_197 (N : Nat) (l1 : Int32) (l2 : Int32) (l4 : Int32) (t0 : Int32) (J : zJ) : Option (Unit × zJ) :=
  qk (qi l1 160) <|
  let y2 := J 33 l1.toNatClampNeg
  qfix (FM_goOn_207 N l1 l2 l4 t0) N (y2, J)
theorem SM_goOn_197 {g : zg} {d N : Nat} {M0 : zM} {A : Nat} {r : Unit} {J1 : zJ} {J : zJ}  {l1 : Int32} {l2 : Int32} {l4 : Int32} {t0 : Int32} (hL : zLy M0 A mShL mRf) (h : FM_goOn_197 N l1 l2 l4 t0 J = some (r, J1)) (hd : 6 ≤ d)  : zG g d mM_goOn (zPq (rU r) (zmm M0 A 40 J1)) (zmm M0 A 40 J) 197 [(0, va_rf (some (A + 0))), (1, .int l1), (2, .int l2), (4, .int l4)] [.int t0] := by
  unfold FM_goOn_197 at h
  refine zi_istC (lv' := [(5, _), (0, _), (1, _), (2, _), (4, _)]) (dq dM_goOn 111 rfl) (by decide) (by simp [z_cr, z_ci]) rfl ?_
  refine zi_aload_n 1 (dq dM_goOn 112 rfl) rfl ?_
  refine ri_getr (zLs hL 0 rfl) (zLr hL 32 rfl) fM_108 (dq dM_goOn 113 rfl) ?_
  refine zi_iload_n 2 (dq dM_goOn 114 rfl) rfl ?_
  obtain ⟨c1, h⟩ := q_k h
  refine ri_iald (zLs hL 33 rfl) (by decide) rfl c1 (dq dM_goOn 115 rfl) ?_
  refine zi_istC (lv' := [(6, _), (5, _), (0, _), (1, _), (2, _), (4, _)]) (dq dM_goOn 116 rfl) (by decide) (by simp [z_cr, z_ci]) rfl ?_
  exact zG_lv (zs_c 2 rfl (zs_c 3 rfl (zs_c 4 rfl (zs_c 5 rfl (zs_c 1 rfl (zs_c 0 rfl zs_n)))))) (SM_goOn_207 hL hd  _ _ h)
def FM_goOn_120 (N : Nat) (l1 : Int32) (l2 : Int32) (l3 : Int32) (l4 : Int32) (J : zJ) : Option (Unit × zJ) :=
  qk (qi l4 160) <|
  if (J 4 l4.toNatClampNeg) = 7 then
    qk (qi l2 100) <|
    qk (qi l2 100) <|
    let J8 := zu J 22 l2.toNatClampNeg ((J 22 l2.toNatClampNeg) + 1)
    qk (qi (6 * l4) 960) <|
    qk (qi l2 100) <|
    qb (FM_element N (J8 13 (6 * l4).toNatClampNeg) l2 ((J8 22 l2.toNatClampNeg) - 1) J8) fun v11 J12 =>
    some ((), J12)
  else
    if l3 = 0 then
      qb (FM_bound N J) fun v2 J3 =>
      if v2 ≤ (J 0 47) then
        FM_goOn_197 N l1 l2 l4 0 J3
      else
        qk (qi (J3 0 47) 120) <|
        qc (FM_bitOf N (J3 19 (J3 0 47).toNatClampNeg)) fun v5 =>
        FM_goOn_197 N l1 l2 l4 v5 J3
    else
      FM_goOn_197 N l1 l2 l4 0 J
theorem SM_goOn_120 {g : zg} {d N : Nat} {M0 : zM} {A : Nat} {r : Unit} {J1 : zJ} {J : zJ}  {l1 : Int32} {l2 : Int32} {l3 : Int32} {l4 : Int32} (hL : zLy M0 A mShL mRf) (h : FM_goOn_120 N l1 l2 l3 l4 J = some (r, J1)) (hd : 6 ≤ d)  : zG g d mM_goOn (zPq (rU r) (zmm M0 A 40 J1)) (zmm M0 A 40 J) 120 [(0, va_rf (some (A + 0))), (1, .int l1), (2, .int l2), (3, .int l3), (4, .int l4)] [] := by
  unfold FM_goOn_120 at h
  refine zi_aload_n 0 (dq dM_goOn 66 rfl) rfl ?_
  refine ri_getr (zLs hL 0 rfl) (zLr hL 3 rfl) fM_20 (dq dM_goOn 67 rfl) ?_
  refine zi_iload 4 (dq dM_goOn 68 rfl) rfl ?_
  obtain ⟨c1, h⟩ := q_k h
  refine ri_iald (zLs hL 4 rfl) (by decide) rfl c1 (dq dM_goOn 69 rfl) ?_
  refine zi_bipush (v := 7) (dq dM_goOn 70 rfl) (by decide) ?_
  refine zi_icmp_ne (tgt := 166) (dq dM_goOn 71 rfl) (by decide) (fun c => ?_) (fun c => ?_)
  · have h := q_f c h
    refine zi_iload_n 3 (dq dM_goOn 96 rfl) rfl ?_
    refine zi_if_ne (tgt := 196) (dq dM_goOn 97 rfl) (by decide) (fun c => ?_) (fun c => ?_)
    · have h := q_f c h
      refine zi_iconst (v := 0) (dq dM_goOn 110 rfl) (by decide) ?_
      exact zG_lv (zs_c 0 rfl (zs_c 1 rfl (zs_c 2 rfl (zs_c 4 rfl zs_n)))) (SM_goOn_197 hL h hd )
    · have h := q_t c h
      refine zi_aload_n 0 (dq dM_goOn 98 rfl) rfl ?_
      refine ri_geti (zLs hL 0 rfl) (by decide) fM_245 (dq dM_goOn 99 rfl) ?_
      refine zi_aload_n 0 (dq dM_goOn 100 rfl) rfl ?_
      obtain ⟨v2, J3, hv2, h⟩ := q_b h
      refine zi_cVi0 (SM_bound hL hv2 (d := d - 1) (by omega)) wM_bound aM_273 iM_bound sM_bound (by omega) (zLs hL 0 rfl) rfl (Nat.le_of_ble_eq_true rfl) (dq dM_goOn 101 rfl) (fun _ _ hh => ?_)
      obtain ⟨rfl, rfl⟩ := hh
      refine zi_icmp_ge (tgt := 196) (dq dM_goOn 102 rfl) (by decide) (fun c => ?_) (fun c => ?_)
      · have h := q_t c h
        refine zi_iconst (v := 0) (dq dM_goOn 110 rfl) (by decide) ?_
        exact zG_lv (zs_c 0 rfl (zs_c 1 rfl (zs_c 2 rfl (zs_c 4 rfl zs_n)))) (SM_goOn_197 hL h hd )
      · have h := q_f c h
        refine zi_aload_n 0 (dq dM_goOn 103 rfl) rfl ?_
        refine ri_getr (zLs hL 0 rfl) (zLr hL 18 rfl) fM_66 (dq dM_goOn 104 rfl) ?_
        refine zi_aload_n 0 (dq dM_goOn 105 rfl) rfl ?_
        refine ri_geti (zLs hL 0 rfl) (by decide) fM_245 (dq dM_goOn 106 rfl) ?_
        obtain ⟨c4, h⟩ := q_k h
        refine ri_iald (zLs hL 19 rfl) (by decide) rfl c4 (dq dM_goOn 107 rfl) ?_
        obtain ⟨v5, hv5, h⟩ := q_c h
        refine zi_cSi1 (SM_bitOf  hv5 (d := d - 1) (by omega)) wM_bitOf aM_290 tM_bitOf (by omega) (Nat.le_of_ble_eq_true rfl) (dq dM_goOn 108 rfl) (fun _ _ hh => ?_)
        obtain ⟨rfl, rfl⟩ := hh
        refine zi_goto (tgt := 197) (dq dM_goOn 109 rfl) (by decide) ?_
        exact zG_lv (zs_c 0 rfl (zs_c 1 rfl (zs_c 2 rfl (zs_c 4 rfl zs_n)))) (SM_goOn_197 hL h hd )
  · have h := q_t c h
    refine zi_aload_n 0 (dq dM_goOn 72 rfl) rfl ?_
    refine ri_getr (zLs hL 0 rfl) (zLr hL 21 rfl) fM_75 (dq dM_goOn 73 rfl) ?_
    refine zi_iload_n 2 (dq dM_goOn 74 rfl) rfl ?_
    refine zi_dup2 (dq dM_goOn 75 rfl) (by first | rfl | exact z_cr _) (by first | rfl | exact z_cr _) ?_
    obtain ⟨c6, h⟩ := q_k h
    refine ri_iald (zLs hL 22 rfl) (by decide) rfl c6 (dq dM_goOn 76 rfl) ?_
    refine zi_iconst (v := 1) (dq dM_goOn 77 rfl) (by decide) ?_
    refine zi_iadd (dq dM_goOn 78 rfl) ?_
    obtain ⟨c7, h⟩ := q_k h
    refine ri_iast (zLs hL 22 rfl) (by decide) rfl c7 (dq dM_goOn 79 rfl) ?_
    refine zi_aload_n 0 (dq dM_goOn 80 rfl) rfl ?_
    refine zi_aload_n 0 (dq dM_goOn 81 rfl) rfl ?_
    refine ri_getr (zLs hL 0 rfl) (zLr hL 12 rfl) fM_48 (dq dM_goOn 82 rfl) ?_
    refine zi_bipush (v := 6) (dq dM_goOn 83 rfl) (by decide) ?_
    refine zi_iload 4 (dq dM_goOn 84 rfl) rfl ?_
    refine zi_imul (dq dM_goOn 85 rfl) ?_
    obtain ⟨c9, h⟩ := q_k h
    refine ri_iald (zLs hL 13 rfl) (by decide) rfl c9 (dq dM_goOn 86 rfl) ?_
    refine zi_iload_n 2 (dq dM_goOn 87 rfl) rfl ?_
    refine zi_aload_n 0 (dq dM_goOn 88 rfl) rfl ?_
    refine ri_getr (zLs hL 0 rfl) (zLr hL 21 rfl) fM_75 (dq dM_goOn 89 rfl) ?_
    refine zi_iload_n 2 (dq dM_goOn 90 rfl) rfl ?_
    obtain ⟨c10, h⟩ := q_k h
    refine ri_iald (zLs hL 22 rfl) (by decide) rfl c10 (dq dM_goOn 91 rfl) ?_
    refine zi_iconst (v := 1) (dq dM_goOn 92 rfl) (by decide) ?_
    refine zi_isub (dq dM_goOn 93 rfl) ?_
    obtain ⟨v11, J12, hv11, h⟩ := q_b h
    refine zi_cVv3 (SM_element hL hv11 (d := d - 1) (by omega)) wM_element aM_248 iM_element sM_element (by omega) (zLs hL 0 rfl) rfl (Nat.le_of_ble_eq_true rfl) (dq dM_goOn 94 rfl) (fun _ hh => ?_)
    subst hh
    exact zi_return rfl (dq dM_goOn 95 rfl) (q_ru h)
def FM_goOn_44 (N : Nat) (l1 : Int32) (l2 : Int32) (l3 : Int32) (t0 : Int32) (J : zJ) : Option (Unit × zJ) :=
  if l2 < 0 then
    FM_goOn_66 N l2 t0 J
  else
    qk (qi t0 160) <|
    if (J 4 t0.toNatClampNeg) = 7 then
      if l3 = 0 then
        FM_goOn_120 N l1 l2 l3 t0 J
      else
        FM_goOn_66 N l2 t0 J
    else
      FM_goOn_120 N l1 l2 l3 t0 J
theorem SM_goOn_44 {g : zg} {d N : Nat} {M0 : zM} {A : Nat} {r : Unit} {J1 : zJ} {J : zJ}  {l1 : Int32} {l2 : Int32} {l3 : Int32} {t0 : Int32} (hL : zLy M0 A mShL mRf) (h : FM_goOn_44 N l1 l2 l3 t0 J = some (r, J1)) (hd : 6 ≤ d)  : zG g d mM_goOn (zPq (rU r) (zmm M0 A 40 J1)) (zmm M0 A 40 J) 44 [(0, va_rf (some (A + 0))), (1, .int l1), (2, .int l2), (3, .int l3)] [.int t0] := by
  unfold FM_goOn_44 at h
  refine zi_istC (lv' := [(4, _), (0, _), (1, _), (2, _), (3, _)]) (dq dM_goOn 26 rfl) (by decide) (by simp [z_cr, z_ci]) rfl ?_
  refine zi_iload_n 3 (dq dM_goOn 27 rfl) rfl ?_
  refine zi_if_lt (tgt := 66) (dq dM_goOn 28 rfl) (by decide) (fun c => ?_) (fun c => ?_)
  · have h := q_t c h
    exact zG_lv (zs_c 1 rfl (zs_c 3 rfl (zs_c 0 rfl zs_n))) (SM_goOn_66 hL h hd )
  · have h := q_f c h
    refine zi_aload_n 1 (dq dM_goOn 29 rfl) rfl ?_
    refine ri_getr (zLs hL 0 rfl) (zLr hL 3 rfl) fM_20 (dq dM_goOn 30 rfl) ?_
    refine zi_iload 0 (dq dM_goOn 31 rfl) rfl ?_
    obtain ⟨c1, h⟩ := q_k h
    refine ri_iald (zLs hL 4 rfl) (by decide) rfl c1 (dq dM_goOn 32 rfl) ?_
    refine zi_bipush (v := 7) (dq dM_goOn 33 rfl) (by decide) ?_
    refine zi_icmp_ne (tgt := 120) (dq dM_goOn 34 rfl) (by decide) (fun c => ?_) (fun c => ?_)
    · have h := q_f c h
      exact zG_lv (zs_c 1 rfl (zs_c 2 rfl (zs_c 3 rfl (zs_c 4 rfl (zs_c 0 rfl zs_n))))) (SM_goOn_120 hL h hd )
    · have h := q_t c h
      refine zi_iload_n 4 (dq dM_goOn 35 rfl) rfl ?_
      refine zi_if_eq (tgt := 120) (dq dM_goOn 36 rfl) (by decide) (fun c => ?_) (fun c => ?_)
      · have h := q_t c h
        exact zG_lv (zs_c 1 rfl (zs_c 2 rfl (zs_c 3 rfl (zs_c 4 rfl (zs_c 0 rfl zs_n))))) (SM_goOn_120 hL h hd )
      · have h := q_f c h
        exact zG_lv (zs_c 1 rfl (zs_c 3 rfl (zs_c 0 rfl zs_n))) (SM_goOn_66 hL h hd )
def FM_goOn_30 (N : Nat) (l1 : Int32) (l2 : Int32) (t0 : Int32) (J : zJ) : Option (Unit × zJ) :=
  if 0 ≤ l2 then
    qb (FM_baseOf N l2 J) fun v1 J2 =>
    FM_goOn_44 N l1 l2 t0 v1 J2
  else
    FM_goOn_44 N l1 l2 t0 ((-1)) J
theorem SM_goOn_30 {g : zg} {d N : Nat} {M0 : zM} {A : Nat} {r : Unit} {J1 : zJ} {J : zJ}  {l1 : Int32} {l2 : Int32} {t0 : Int32} (hL : zLy M0 A mShL mRf) (h : FM_goOn_30 N l1 l2 t0 J = some (r, J1)) (hd : 6 ≤ d)  : zG g d mM_goOn (zPq (rU r) (zmm M0 A 40 J1)) (zmm M0 A 40 J) 30 [(0, va_rf (some (A + 0))), (1, .int l1), (2, .int l2)] [.int t0] := by
  unfold FM_goOn_30 at h
  refine zi_istC_n (lv' := [(3, _), (0, _), (1, _), (2, _)]) (dq dM_goOn 18 rfl) (by decide) (by simp [z_cr, z_ci]) rfl ?_
  refine zi_iload_n 3 (dq dM_goOn 19 rfl) rfl ?_
  refine zi_if_ge (tgt := 39) (dq dM_goOn 20 rfl) (by decide) (fun c => ?_) (fun c => ?_)
  · have h := q_t c h
    refine zi_aload_n 1 (dq dM_goOn 23 rfl) rfl ?_
    refine zi_iload_n 3 (dq dM_goOn 24 rfl) rfl ?_
    obtain ⟨v1, J2, hv1, h⟩ := q_b h
    refine zi_cVi1 (SM_baseOf hL hv1 (d := d - 1) (by omega)) wM_baseOf aM_308 iM_baseOf sM_baseOf (by omega) (zLs hL 0 rfl) rfl (Nat.le_of_ble_eq_true rfl) (dq dM_goOn 25 rfl) (fun _ _ hh => ?_)
    obtain ⟨rfl, rfl⟩ := hh
    exact zG_lv (zs_c 1 rfl (zs_c 2 rfl (zs_c 3 rfl (zs_c 0 rfl zs_n)))) (SM_goOn_44 hL h hd )
  · have h := q_f c h
    refine zi_iconst (v := (-1)) (dq dM_goOn 21 rfl) (by decide) ?_
    refine zi_goto (tgt := 44) (dq dM_goOn 22 rfl) (by decide) ?_
    exact zG_lv (zs_c 1 rfl (zs_c 2 rfl (zs_c 3 rfl (zs_c 0 rfl zs_n)))) (SM_goOn_44 hL h hd )
def FM_goOn (N : Nat) (J : zJ) : Option (Unit × zJ) :=
  let y1 := (J 0 48) - 1
  qk (qi y1 160) <|
  let y3 := J 31 y1.toNatClampNeg
  if y3 < 0 then
    FM_goOn_30 N y1 y3 1 J
  else
    qb (FM_isEnd N J) fun v4 J5 =>
    if (bI v4) = 0 then
      FM_goOn_30 N y1 y3 0 J5
    else
      FM_goOn_30 N y1 y3 1 J5
theorem SM_goOn {g : zg} {d N : Nat} {M0 : zM} {A : Nat} {r : Unit} {J1 : zJ} {J : zJ}  (hL : zLy M0 A mShL mRf) (h : FM_goOn N J = some (r, J1)) (hd : 6 ≤ d) : zEv g d mM_goOn [va_rf (some (A + 0))] (zmm M0 A 40 J) (fun Mq => Mq = zmm M0 A 40 J1) := by
  unfold FM_goOn at h
  refine zEu_q (r := r) (lv := [(0, va_rf (some (A + 0)))]) ⟨by decide +kernel, by decide, by decide +kernel⟩ (by simp [z_cr, z_ci]) (Nat.le_of_ble_eq_true rfl) rfl ?_
  refine zi_aload_n 0 (dq dM_goOn 0 rfl) rfl ?_
  refine ri_geti (zLs hL 0 rfl) (by decide) fM_242 (dq dM_goOn 1 rfl) ?_
  refine zi_iconst (v := 1) (dq dM_goOn 2 rfl) (by decide) ?_
  refine zi_isub (dq dM_goOn 3 rfl) ?_
  refine zi_istC_n (lv' := [(1, _), (0, _)]) (dq dM_goOn 4 rfl) (by decide) (by simp [z_cr, z_ci]) rfl ?_
  refine zi_aload_n 1 (dq dM_goOn 5 rfl) rfl ?_
  refine ri_getr (zLs hL 0 rfl) (zLr hL 30 rfl) fM_102 (dq dM_goOn 6 rfl) ?_
  refine zi_iload_n 0 (dq dM_goOn 7 rfl) rfl ?_
  obtain ⟨c2, h⟩ := q_k h
  refine ri_iald (zLs hL 31 rfl) (by decide) rfl c2 (dq dM_goOn 8 rfl) ?_
  refine zi_istC_n (lv' := [(2, _), (1, _), (0, _)]) (dq dM_goOn 9 rfl) (by decide) (by simp [z_cr, z_ci]) rfl ?_
  refine zi_iload_n 0 (dq dM_goOn 10 rfl) rfl ?_
  refine zi_if_lt (tgt := 25) (dq dM_goOn 11 rfl) (by decide) (fun c => ?_) (fun c => ?_)
  · have h := q_t c h
    refine zi_iconst (v := 1) (dq dM_goOn 15 rfl) (by decide) ?_
    refine zi_goto (tgt := 30) (dq dM_goOn 16 rfl) (by decide) ?_
    exact zG_lv (zs_c 2 rfl (zs_c 1 rfl (zs_c 0 rfl zs_n))) (SM_goOn_30 hL h hd )
  · have h := q_f c h
    refine zi_aload_n 2 (dq dM_goOn 12 rfl) rfl ?_
    obtain ⟨v4, J5, hv4, h⟩ := q_b h
    refine zi_cVi0 (SM_isEnd hL hv4 (d := d - 1) (by omega)) wM_isEnd aM_305 iM_isEnd sM_isEnd (by omega) (zLs hL 0 rfl) rfl (Nat.le_of_ble_eq_true rfl) (dq dM_goOn 13 rfl) (fun _ _ hh => ?_)
    obtain ⟨rfl, rfl⟩ := hh
    refine zi_if_eq (tgt := 29) (dq dM_goOn 14 rfl) (by decide) (fun c => ?_) (fun c => ?_)
    · have h := q_t c h
      refine zi_iconst (v := 0) (dq dM_goOn 17 rfl) (by decide) ?_
      exact zG_lv (zs_c 2 rfl (zs_c 1 rfl (zs_c 0 rfl zs_n))) (SM_goOn_30 hL h hd )
    · have h := q_f c h
      refine zi_iconst (v := 1) (dq dM_goOn 15 rfl) (by decide) ?_
      refine zi_goto (tgt := 30) (dq dM_goOn 16 rfl) (by decide) ?_
      exact zG_lv (zs_c 2 rfl (zs_c 1 rfl (zs_c 0 rfl zs_n))) (SM_goOn_30 hL h hd )
def FM_align (N : Nat) (J : zJ) : Option (Unit × zJ) :=
  let J1 := zu J 0 47 ((((J 0 47) + 7) / 8) * 8)
  some ((), J1)
theorem SM_align {g : zg} {d N : Nat} {M0 : zM} {A : Nat} {r : Unit} {J1 : zJ} {J : zJ}  (hL : zLy M0 A mShL mRf) (h : FM_align N J = some (r, J1)) (hd : 0 ≤ d) : zEv g d mM_align [va_rf (some (A + 0))] (zmm M0 A 40 J) (fun Mq => Mq = zmm M0 A 40 J1) := by
  unfold FM_align at h
  refine zEu_q (r := r) (lv := [(0, va_rf (some (A + 0)))]) ⟨by decide +kernel, by decide, by decide +kernel⟩ (by simp [z_cr, z_ci]) (Nat.le_of_ble_eq_true rfl) rfl ?_
  refine zi_aload_n 0 (dq dM_align 0 rfl) rfl ?_
  refine zi_aload_n 0 (dq dM_align 1 rfl) rfl ?_
  refine ri_geti (zLs hL 0 rfl) (by decide) fM_245 (dq dM_align 2 rfl) ?_
  refine zi_bipush (v := 7) (dq dM_align 3 rfl) (by decide) ?_
  refine zi_iadd (dq dM_align 4 rfl) ?_
  refine zi_bipush (v := 8) (dq dM_align 5 rfl) (by decide) ?_
  refine zi_idiv (by decide) (dq dM_align 6 rfl) ?_
  refine zi_bipush (v := 8) (dq dM_align 7 rfl) (by decide) ?_
  refine zi_imul (dq dM_align 8 rfl) ?_
  refine ri_puti (zLs hL 0 rfl) (by decide) fM_245 (fun h => by cases h) rfl rfl (dq dM_align 9 rfl) ?_
  exact zi_return rfl (dq dM_align 10 rfl) (q_ru h)
def FM_bit_19 (N : Nat) (J : zJ) : Option (Int32 × zJ) :=
  let J1 := zu J 0 47 ((J 0 47) + 1)
  if (J1 0 49) = 0 then
    some (0, J1)
  else
    qk (qi (((J1 0 47) - 1) / 8) 120) <|
    some ((((J1 19 (((J1 0 47) - 1) / 8).toNatClampNeg) >>> ((7 - (((J1 0 47) - 1) - ((J1 0 47) - 1) / 8 * 8)) &&& 31)) &&& 1), J1)
theorem SM_bit_19 {g : zg} {d N : Nat} {M0 : zM} {A : Nat} {r : Int32} {J1 : zJ} {J : zJ}   (hL : zLy M0 A mShL mRf) (h : FM_bit_19 N J = some (r, J1)) (hd : 0 ≤ d)  : zG g d mM_bit (zPq (rI r) (zmm M0 A 40 J1)) (zmm M0 A 40 J) 19 [(0, va_rf (some (A + 0)))] [] := by
  unfold FM_bit_19 at h
  refine zi_aload_n 0 (dq dM_bit 10 rfl) rfl ?_
  refine zi_dup (dq dM_bit 11 rfl) (by first | rfl | exact z_cr _) ?_
  refine ri_geti (zLs hL 0 rfl) (by decide) fM_245 (dq dM_bit 12 rfl) ?_
  refine zi_iconst (v := 1) (dq dM_bit 13 rfl) (by decide) ?_
  refine zi_iadd (dq dM_bit 14 rfl) ?_
  refine ri_puti (zLs hL 0 rfl) (by decide) fM_245 (fun h => by cases h) rfl rfl (dq dM_bit 15 rfl) ?_
  refine zi_aload_n 0 (dq dM_bit 16 rfl) rfl ?_
  refine ri_geti (zLs hL 0 rfl) (by decide) fM_236 (dq dM_bit 17 rfl) ?_
  refine zi_if_eq (tgt := 68) (dq dM_bit 18 rfl) (by decide) (fun c => ?_) (fun c => ?_)
  · have h := q_t c h
    refine zi_iconst (v := 0) (dq dM_bit 40 rfl) (by decide) ?_
    exact zi_ireturn rfl rfl (dq dM_bit 41 rfl) (q_ri h)
  · have h := q_f c h
    refine zi_aload_n 0 (dq dM_bit 19 rfl) rfl ?_
    refine ri_getr (zLs hL 0 rfl) (zLr hL 18 rfl) fM_66 (dq dM_bit 20 rfl) ?_
    refine zi_aload_n 0 (dq dM_bit 21 rfl) rfl ?_
    refine ri_geti (zLs hL 0 rfl) (by decide) fM_245 (dq dM_bit 22 rfl) ?_
    refine zi_iconst (v := 1) (dq dM_bit 23 rfl) (by decide) ?_
    refine zi_isub (dq dM_bit 24 rfl) ?_
    refine zi_bipush (v := 8) (dq dM_bit 25 rfl) (by decide) ?_
    refine zi_idiv (by decide) (dq dM_bit 26 rfl) ?_
    obtain ⟨c2, h⟩ := q_k h
    refine ri_iald (zLs hL 19 rfl) (by decide) rfl c2 (dq dM_bit 27 rfl) ?_
    refine zi_bipush (v := 7) (dq dM_bit 28 rfl) (by decide) ?_
    refine zi_aload_n 0 (dq dM_bit 29 rfl) rfl ?_
    refine ri_geti (zLs hL 0 rfl) (by decide) fM_245 (dq dM_bit 30 rfl) ?_
    refine zi_iconst (v := 1) (dq dM_bit 31 rfl) (by decide) ?_
    refine zi_isub (dq dM_bit 32 rfl) ?_
    refine zi_bipush (v := 8) (dq dM_bit 33 rfl) (by decide) ?_
    refine zi_irem (by decide) (dq dM_bit 34 rfl) ?_
    refine zi_isub (dq dM_bit 35 rfl) ?_
    refine zi_ishr (dq dM_bit 36 rfl) ?_
    refine zi_iconst (v := 1) (dq dM_bit 37 rfl) (by decide) ?_
    refine zi_iand (dq dM_bit 38 rfl) ?_
    refine zi_goto (tgt := 69) (dq dM_bit 39 rfl) (by decide) ?_
    exact zi_ireturn rfl rfl (dq dM_bit 41 rfl) (q_ri h)
def FM_bit (N : Nat) (J : zJ) : Option (Int32 × zJ) :=
  if (J 0 47) < (8 * (J 0 28)) then
    FM_bit_19 N J
  else
    let J1 := zu J 0 49 0
    FM_bit_19 N J1
theorem SM_bit {g : zg} {d N : Nat} {M0 : zM} {A : Nat} {r : Int32} {J1 : zJ} {J : zJ}  (hL : zLy M0 A mShL mRf) (h : FM_bit N J = some (r, J1)) (hd : 0 ≤ d) : zEi g d mM_bit [va_rf (some (A + 0))] (zmm M0 A 40 J) (fun v Mq => v = r ∧ Mq = zmm M0 A 40 J1) := by
  unfold FM_bit at h
  refine zEi_q (r := r) (lv := [(0, va_rf (some (A + 0)))]) ⟨by decide +kernel, by decide, by decide +kernel⟩ (by simp [z_cr, z_ci]) (Nat.le_of_ble_eq_true rfl) rfl ?_
  refine zi_aload_n 0 (dq dM_bit 0 rfl) rfl ?_
  refine ri_geti (zLs hL 0 rfl) (by decide) fM_245 (dq dM_bit 1 rfl) ?_
  refine zi_bipush (v := 8) (dq dM_bit 2 rfl) (by decide) ?_
  refine zi_aload_n 0 (dq dM_bit 3 rfl) rfl ?_
  refine ri_geti (zLs hL 0 rfl) (by decide) fM_261 (dq dM_bit 4 rfl) ?_
  refine zi_imul (dq dM_bit 5 rfl) ?_
  refine zi_icmp_lt (tgt := 19) (dq dM_bit 6 rfl) (by decide) (fun c => ?_) (fun c => ?_)
  · have h := q_t c h
    exact zG_lv (zs_c 0 rfl zs_n) (SM_bit_19 hL h hd )
  · have h := q_f c h
    refine zi_aload_n 0 (dq dM_bit 7 rfl) rfl ?_
    refine zi_iconst (v := 0) (dq dM_bit 8 rfl) (by decide) ?_
    refine ri_puti (zLs hL 0 rfl) (by decide) fM_236 (fun h => by cases h) (by decide) (by decide) (dq dM_bit 9 rfl) ?_
    exact zG_lv (zs_c 0 rfl zs_n) (SM_bit_19 hL h hd )
def FM_some_4 (N : Nat) (l1 : Int32) (K4 : (Int32 × Int32 × zJ) → Option (Int32 × zJ)) (s : Int32 × Int32 × zJ) : Option (Int32 × zJ) :=
  let l2 := s.1
  let l3 := s.2.1
  let J := s.2.2
  if l1 ≤ l3 then
    some (l2, J)
  else
    if (J 0 49) = 0 then
      some (l2, J)
    else
      qb (FM_bit N J) fun v1 J2 =>
      let y3 := (2 * l2) + v1
      let y4 := l3 + (1)
      K4 (y3, y4, J2)
theorem SM_some_4 {g : zg} {d N : Nat} {M0 : zM} {A : Nat} {r : Int32} {J1 : zJ}  {l1 : Int32} (hL : zLy M0 A mShL mRf) (hd : 1 ≤ d)  : ∀ n s, qfix (FM_some_4 N l1) n s = some (r, J1) → zG g d mM_some (zPq (rI r) (zmm M0 A 40 J1)) (zmm M0 A 40 s.2.2) 4 [(0, va_rf (some (A + 0))), (1, .int l1), (2, .int s.1), (3, .int s.2.1)] [] := by
  refine qfix_sound (fun K4 hK4 s h => ?_)
  unfold FM_some_4 at h
  refine zi_iload_n 3 (dq dM_some 4 rfl) rfl ?_
  refine zi_iload_n 1 (dq dM_some 5 rfl) rfl ?_
  refine zi_icmp_ge (tgt := 31) (dq dM_some 6 rfl) (by decide) (fun c => ?_) (fun c => ?_)
  · have h := q_t c h
    refine zi_iload_n 2 (dq dM_some 19 rfl) rfl ?_
    exact zi_ireturn rfl rfl (dq dM_some 20 rfl) (q_ri h)
  · have h := q_f c h
    refine zi_aload_n 0 (dq dM_some 7 rfl) rfl ?_
    refine ri_geti (zLs hL 0 rfl) (by decide) fM_236 (dq dM_some 8 rfl) ?_
    refine zi_if_eq (tgt := 31) (dq dM_some 9 rfl) (by decide) (fun c => ?_) (fun c => ?_)
    · have h := q_t c h
      refine zi_iload_n 2 (dq dM_some 19 rfl) rfl ?_
      exact zi_ireturn rfl rfl (dq dM_some 20 rfl) (q_ri h)
    · have h := q_f c h
      refine zi_iconst (v := 2) (dq dM_some 10 rfl) (by decide) ?_
      refine zi_iload_n 2 (dq dM_some 11 rfl) rfl ?_
      refine zi_imul (dq dM_some 12 rfl) ?_
      refine zi_aload_n 0 (dq dM_some 13 rfl) rfl ?_
      obtain ⟨v1, J2, hv1, h⟩ := q_b h
      refine zi_cVi0 (SM_bit hL hv1 (d := d - 1) (by omega)) wM_bit aM_317 iM_bit sM_bit (by omega) (zLs hL 0 rfl) rfl (Nat.le_of_ble_eq_true rfl) (dq dM_some 14 rfl) (fun _ _ hh => ?_)
      obtain ⟨rfl, rfl⟩ := hh
      refine zi_iadd (dq dM_some 15 rfl) ?_
      refine zi_istC_n (lv' := [(2, _), (0, _), (1, _), (3, _)]) (dq dM_some 16 rfl) (by decide) (by simp [z_cr, z_ci]) rfl ?_
      refine zi_iincC (v := _ + (1)) (lv' := [(3, _), (2, _), (0, _), (1, _)]) 3 (dq dM_some 17 rfl) rfl rfl (by decide) (by simp [z_cr, z_ci]) rfl ?_
      refine zi_goto (tgt := 4) (dq dM_some 18 rfl) (by decide) ?_
      exact zG_lv (zs_c 2 rfl (zs_c 3 rfl (zs_c 1 rfl (zs_c 0 rfl zs_n)))) (hK4 _ h)
def FM_some (N : Nat) (l1 : Int32) (J : zJ) : Option (Int32 × zJ) :=
  qfix (FM_some_4 N l1) N (0, 0, J)
theorem SM_some {g : zg} {d N : Nat} {M0 : zM} {A : Nat} {r : Int32} {J1 : zJ} {J : zJ} {l1 : Int32} (hL : zLy M0 A mShL mRf) (h : FM_some N l1 J = some (r, J1)) (hd : 1 ≤ d) : zEi g d mM_some [va_rf (some (A + 0)), .int l1] (zmm M0 A 40 J) (fun v Mq => v = r ∧ Mq = zmm M0 A 40 J1) := by
  unfold FM_some at h
  refine zEi_q (r := r) (lv := [(0, va_rf (some (A + 0))), (1, .int l1)]) ⟨by decide +kernel, by decide, by decide +kernel⟩ (by simp [z_cr, z_ci]) (Nat.le_of_ble_eq_true rfl) rfl ?_
  refine zi_iconst (v := 0) (dq dM_some 0 rfl) (by decide) ?_
  refine zi_istC_n (lv' := [(2, _), (0, _), (1, _)]) (dq dM_some 1 rfl) (by decide) (by simp [z_cr, z_ci]) rfl ?_
  refine zi_iconst (v := 0) (dq dM_some 2 rfl) (by decide) ?_
  refine zi_istC_n (lv' := [(3, _), (2, _), (0, _), (1, _)]) (dq dM_some 3 rfl) (by decide) (by simp [z_cr, z_ci]) rfl ?_
  exact zG_lv (zs_c 2 rfl (zs_c 3 rfl (zs_c 1 rfl (zs_c 0 rfl zs_n)))) (SM_some_4 hL hd  _ _ h)
def FM_width_2 (N : Nat) (l0 : Int32) (K2 : (Int32) → Option (Int32)) (s : Int32) : Option (Int32) :=
  let l1 := s
  if (l0 >>> (l1 &&& 31)) ≤ 0 then
    some l1
  else
    let y1 := l1 + (1)
    K2 y1
theorem SM_width_2 {g : zg} {d N : Nat} {M : zM} {r : Int32}  {l0 : Int32}  (hd : 0 ≤ d)  : ∀ n s, qfix (FM_width_2 N l0) n s = some r → zG g d mM_width (zPq (rI r) (M)) (M) 2 [(0, .int l0), (1, .int s)] [] := by
  refine qfix_sound (fun K2 hK2 s h => ?_)
  unfold FM_width_2 at h
  refine zi_iload_n 0 (dq dM_width 2 rfl) rfl ?_
  refine zi_iload_n 1 (dq dM_width 3 rfl) rfl ?_
  refine zi_ishr (dq dM_width 4 rfl) ?_
  refine zi_if_le (tgt := 14) (dq dM_width 5 rfl) (by decide) (fun c => ?_) (fun c => ?_)
  · have h := q_t c h
    refine zi_iload_n 1 (dq dM_width 8 rfl) rfl ?_
    exact zi_ireturn rfl rfl (dq dM_width 9 rfl) (q_riT h)
  · have h := q_f c h
    refine zi_iincC (v := _ + (1)) (lv' := [(1, _), (0, _)]) 1 (dq dM_width 6 rfl) rfl rfl (by decide) (by simp [z_cr, z_ci]) rfl ?_
    refine zi_goto (tgt := 2) (dq dM_width 7 rfl) (by decide) ?_
    exact zG_lv (zs_c 1 rfl (zs_c 0 rfl zs_n)) (hK2 _ h)
def FM_width (N : Nat) (l0 : Int32)  : Option (Int32) :=
  qfix (FM_width_2 N l0) N 0
theorem SM_width {g : zg} {d N : Nat} {M : zM} {r : Int32} {l0 : Int32}  (h : FM_width N l0 = some r) (hd : 0 ≤ d) : zEi g d mM_width [.int l0] (M) (fun v Mq => v = r ∧ Mq = M) := by
  unfold FM_width at h
  refine zEi_q (r := r) (lv := [(0, .int l0)]) ⟨by decide +kernel, by decide, by decide +kernel⟩ (by simp [z_cr, z_ci]) (Nat.le_of_ble_eq_true rfl) rfl ?_
  refine zi_iconst (v := 0) (dq dM_width 0 rfl) (by decide) ?_
  refine zi_istC_n (lv' := [(1, _), (0, _)]) (dq dM_width 1 rfl) (by decide) (by simp [z_cr, z_ci]) rfl ?_
  exact zG_lv (zs_c 1 rfl (zs_c 0 rfl zs_n)) (SM_width_2  hd  _ _ h)
def FM_ranging_44 (N : Nat) (l1 : Int32) (l3 : Int32) (t1 : Int32) (J : zJ) : Option (Int32 × zJ) :=
  qb (FM_some N t1 J) fun v1 J2 =>
  if v1 ≤ l3 then
    some ((l1 + v1), J2)
  else
    let J3 := zu J2 0 49 0
    some ((l1 + v1), J3)
theorem SM_ranging_44 {g : zg} {d N : Nat} {M0 : zM} {A : Nat} {r : Int32} {J1 : zJ} {J : zJ}  {l1 : Int32} {l3 : Int32} {t1 : Int32} (hL : zLy M0 A mShL mRf) (h : FM_ranging_44 N l1 l3 t1 J = some (r, J1)) (hd : 2 ≤ d)  : zG g d mM_ranging (zPq (rI r) (zmm M0 A 40 J1)) (zmm M0 A 40 J) 44 [(0, va_rf (some (A + 0))), (1, .int l1), (3, .int l3)] [.int t1, va_rf (some (A + 0))] := by
  unfold FM_ranging_44 at h
  obtain ⟨v1, J2, hv1, h⟩ := q_b h
  refine zi_cVi1 (SM_some hL hv1 (d := d - 1) (by omega)) wM_some aM_326 iM_some sM_some (by omega) (zLs hL 0 rfl) rfl (Nat.le_of_ble_eq_true rfl) (dq dM_ranging 22 rfl) (fun _ _ hh => ?_)
  obtain ⟨rfl, rfl⟩ := hh
  refine zi_istC (lv' := [(4, _), (0, _), (1, _), (3, _)]) (dq dM_ranging 23 rfl) (by decide) (by simp [z_cr, z_ci]) rfl ?_
  refine zi_iload 0 (dq dM_ranging 24 rfl) rfl ?_
  refine zi_iload_n 3 (dq dM_ranging 25 rfl) rfl ?_
  refine zi_icmp_le (tgt := 60) (dq dM_ranging 26 rfl) (by decide) (fun c => ?_) (fun c => ?_)
  · have h := q_t c h
    refine zi_iload_n 2 (dq dM_ranging 30 rfl) rfl ?_
    refine zi_iload 0 (dq dM_ranging 31 rfl) rfl ?_
    refine zi_iadd (dq dM_ranging 32 rfl) ?_
    exact zi_ireturn rfl rfl (dq dM_ranging 33 rfl) (q_ri h)
  · have h := q_f c h
    refine zi_aload_n 1 (dq dM_ranging 27 rfl) rfl ?_
    refine zi_iconst (v := 0) (dq dM_ranging 28 rfl) (by decide) ?_
    refine ri_puti (zLs hL 0 rfl) (by decide) fM_236 (fun h => by cases h) (by decide) (by decide) (dq dM_ranging 29 rfl) ?_
    refine zi_iload_n 2 (dq dM_ranging 30 rfl) rfl ?_
    refine zi_iload 0 (dq dM_ranging 31 rfl) rfl ?_
    refine zi_iadd (dq dM_ranging 32 rfl) ?_
    exact zi_ireturn rfl rfl (dq dM_ranging 33 rfl) (q_ri h)
def FM_ranging_15 (N : Nat) (l1 : Int32) (l3 : Int32) (J : zJ) : Option (Int32 × zJ) :=
  if 255 ≤ l3 then
    if l3 = 255 then
      FM_ranging_44 N l1 l3 8 J
    else
      FM_ranging_44 N l1 l3 16 J
  else
    qc (FM_width N l3) fun v1 =>
    FM_ranging_44 N l1 l3 v1 J
theorem SM_ranging_15 {g : zg} {d N : Nat} {M0 : zM} {A : Nat} {r : Int32} {J1 : zJ} {J : zJ}  {l1 : Int32} {l3 : Int32} (hL : zLy M0 A mShL mRf) (h : FM_ranging_15 N l1 l3 J = some (r, J1)) (hd : 2 ≤ d)  : zG g d mM_ranging (zPq (rI r) (zmm M0 A 40 J1)) (zmm M0 A 40 J) 15 [(0, va_rf (some (A + 0))), (1, .int l1), (3, .int l3)] [] := by
  unfold FM_ranging_15 at h
  refine zi_aload_n 0 (dq dM_ranging 9 rfl) rfl ?_
  refine zi_iload_n 2 (dq dM_ranging 10 rfl) rfl ?_
  refine zi_sipush (v := 255) (dq dM_ranging 11 rfl) (by decide) ?_
  refine zi_icmp_ge (tgt := 30) (dq dM_ranging 12 rfl) (by decide) (fun c => ?_) (fun c => ?_)
  · have h := q_t c h
    refine zi_iload_n 2 (dq dM_ranging 16 rfl) rfl ?_
    refine zi_sipush (v := 255) (dq dM_ranging 17 rfl) (by decide) ?_
    refine zi_icmp_ne (tgt := 42) (dq dM_ranging 18 rfl) (by decide) (fun c => ?_) (fun c => ?_)
    · have h := q_f c h
      refine zi_bipush (v := 16) (dq dM_ranging 21 rfl) (by decide) ?_
      exact zG_lv (zs_c 0 rfl (zs_c 1 rfl (zs_c 2 rfl zs_n))) (SM_ranging_44 hL h hd )
    · have h := q_t c h
      refine zi_bipush (v := 8) (dq dM_ranging 19 rfl) (by decide) ?_
      refine zi_goto (tgt := 44) (dq dM_ranging 20 rfl) (by decide) ?_
      exact zG_lv (zs_c 0 rfl (zs_c 1 rfl (zs_c 2 rfl zs_n))) (SM_ranging_44 hL h hd )
  · have h := q_f c h
    refine zi_iload_n 2 (dq dM_ranging 13 rfl) rfl ?_
    obtain ⟨v1, hv1, h⟩ := q_c h
    refine zi_cSi1 (SM_width  hv1 (d := d - 1) (by omega)) wM_width aM_323 tM_width (by omega) (Nat.le_of_ble_eq_true rfl) (dq dM_ranging 14 rfl) (fun _ _ hh => ?_)
    obtain ⟨rfl, rfl⟩ := hh
    refine zi_goto (tgt := 44) (dq dM_ranging 15 rfl) (by decide) ?_
    exact zG_lv (zs_c 0 rfl (zs_c 1 rfl (zs_c 2 rfl zs_n))) (SM_ranging_44 hL h hd )
def FM_ranging (N : Nat) (l1 : Int32) (l2 : Int32) (J : zJ) : Option (Int32 × zJ) :=
  let y1 := l2 - l1
  if y1 ≤ 254 then
    FM_ranging_15 N l1 y1 J
  else
    qb (FM_align N J) fun v2 J3 =>
    FM_ranging_15 N l1 y1 J3
theorem SM_ranging {g : zg} {d N : Nat} {M0 : zM} {A : Nat} {r : Int32} {J1 : zJ} {J : zJ} {l1 : Int32} {l2 : Int32} (hL : zLy M0 A mShL mRf) (h : FM_ranging N l1 l2 J = some (r, J1)) (hd : 2 ≤ d) : zEi g d mM_ranging [va_rf (some (A + 0)), .int l1, .int l2] (zmm M0 A 40 J) (fun v Mq => v = r ∧ Mq = zmm M0 A 40 J1) := by
  unfold FM_ranging at h
  refine zEi_q (r := r) (lv := [(0, va_rf (some (A + 0))), (1, .int l1), (2, .int l2)]) ⟨by decide +kernel, by decide, by decide +kernel⟩ (by simp [z_cr, z_ci]) (Nat.le_of_ble_eq_true rfl) rfl ?_
  refine zi_iload_n 2 (dq dM_ranging 0 rfl) rfl ?_
  refine zi_iload_n 1 (dq dM_ranging 1 rfl) rfl ?_
  refine zi_isub (dq dM_ranging 2 rfl) ?_
  refine zi_istC_n (lv' := [(3, _), (0, _), (1, _), (2, _)]) (dq dM_ranging 3 rfl) (by decide) (by simp [z_cr, z_ci]) rfl ?_
  refine zi_iload_n 0 (dq dM_ranging 4 rfl) rfl ?_
  refine zi_sipush (v := 254) (dq dM_ranging 5 rfl) (by decide) ?_
  refine zi_icmp_le (tgt := 15) (dq dM_ranging 6 rfl) (by decide) (fun c => ?_) (fun c => ?_)
  · have h := q_t c h
    exact zG_lv (zs_c 1 rfl (zs_c 2 rfl (zs_c 0 rfl zs_n))) (SM_ranging_15 hL h hd )
  · have h := q_f c h
    refine zi_aload_n 1 (dq dM_ranging 7 rfl) rfl ?_
    obtain ⟨v2, J3, hv2, h⟩ := q_b h
    refine zi_cVv0 (SM_align hL hv2 (d := d - 1) (by omega)) wM_align aM_320 iM_align sM_align (by omega) (zLs hL 0 rfl) rfl (Nat.le_of_ble_eq_true rfl) (dq dM_ranging 8 rfl) (fun _ hh => ?_)
    subst hh
    exact zG_lv (zs_c 1 rfl (zs_c 2 rfl (zs_c 0 rfl zs_n))) (SM_ranging_15 hL h hd )
def FM_counted (N : Nat) (l1 : Int32) (J : zJ) : Option (Int32 × zJ) :=
  qk (qi l1 160) <|
  if (J 11 l1.toNatClampNeg) = 0 then
    qb (FM_align N J) fun v2 J3 =>
    qb (FM_some N 8 J3) fun v4 J5 =>
    if v4 ≤ 127 then
      some (v4, J5)
    else
      let J6 := zu J5 0 49 0
      some (v4, J6)
  else
    qk (qi l1 160) <|
    qk (qi l1 160) <|
    qb (FM_ranging N (J 5 l1.toNatClampNeg) (J 6 l1.toNatClampNeg) J) fun v9 J10 =>
    some (v9, J10)
theorem SM_counted {g : zg} {d N : Nat} {M0 : zM} {A : Nat} {r : Int32} {J1 : zJ} {J : zJ} {l1 : Int32} (hL : zLy M0 A mShL mRf) (h : FM_counted N l1 J = some (r, J1)) (hd : 3 ≤ d) : zEi g d mM_counted [va_rf (some (A + 0)), .int l1] (zmm M0 A 40 J) (fun v Mq => v = r ∧ Mq = zmm M0 A 40 J1) := by
  unfold FM_counted at h
  refine zEi_q (r := r) (lv := [(0, va_rf (some (A + 0))), (1, .int l1)]) ⟨by decide +kernel, by decide, by decide +kernel⟩ (by simp [z_cr, z_ci]) (Nat.le_of_ble_eq_true rfl) rfl ?_
  refine zi_aload_n 0 (dq dM_counted 0 rfl) rfl ?_
  refine ri_getr (zLs hL 0 rfl) (zLr hL 10 rfl) fM_41 (dq dM_counted 1 rfl) ?_
  refine zi_iload_n 1 (dq dM_counted 2 rfl) rfl ?_
  obtain ⟨c1, h⟩ := q_k h
  refine ri_zald (zLs hL 11 rfl) (by decide) rfl c1 (dq dM_counted 3 rfl) ?_
  refine zi_if_eq (tgt := 26) (dq dM_counted 4 rfl) (by decide) (fun c => ?_) (fun c => ?_)
  · have h := q_t c h
    refine zi_aload_n 0 (dq dM_counted 16 rfl) rfl ?_
    obtain ⟨v2, J3, hv2, h⟩ := q_b h
    refine zi_cVv0 (SM_align hL hv2 (d := d - 1) (by omega)) wM_align aM_320 iM_align sM_align (by omega) (zLs hL 0 rfl) rfl (Nat.le_of_ble_eq_true rfl) (dq dM_counted 17 rfl) (fun _ hh => ?_)
    subst hh
    refine zi_aload_n 0 (dq dM_counted 18 rfl) rfl ?_
    refine zi_bipush (v := 8) (dq dM_counted 19 rfl) (by decide) ?_
    obtain ⟨v4, J5, hv4, h⟩ := q_b h
    refine zi_cVi1 (SM_some hL hv4 (d := d - 1) (by omega)) wM_some aM_326 iM_some sM_some (by omega) (zLs hL 0 rfl) rfl (Nat.le_of_ble_eq_true rfl) (dq dM_counted 20 rfl) (fun _ _ hh => ?_)
    obtain ⟨rfl, rfl⟩ := hh
    refine zi_istC_n (lv' := [(2, _), (0, _), (1, _)]) (dq dM_counted 21 rfl) (by decide) (by simp [z_cr, z_ci]) rfl ?_
    refine zi_iload_n 0 (dq dM_counted 22 rfl) rfl ?_
    refine zi_bipush (v := 127) (dq dM_counted 23 rfl) (by decide) ?_
    refine zi_icmp_le (tgt := 48) (dq dM_counted 24 rfl) (by decide) (fun c => ?_) (fun c => ?_)
    · have h := q_t c h
      refine zi_iload_n 0 (dq dM_counted 28 rfl) rfl ?_
      exact zi_ireturn rfl rfl (dq dM_counted 29 rfl) (q_ri h)
    · have h := q_f c h
      refine zi_aload_n 1 (dq dM_counted 25 rfl) rfl ?_
      refine zi_iconst (v := 0) (dq dM_counted 26 rfl) (by decide) ?_
      refine ri_puti (zLs hL 0 rfl) (by decide) fM_236 (fun h => by cases h) (by decide) (by decide) (dq dM_counted 27 rfl) ?_
      refine zi_iload_n 0 (dq dM_counted 28 rfl) rfl ?_
      exact zi_ireturn rfl rfl (dq dM_counted 29 rfl) (q_ri h)
  · have h := q_f c h
    refine zi_aload_n 0 (dq dM_counted 5 rfl) rfl ?_
    refine zi_aload_n 0 (dq dM_counted 6 rfl) rfl ?_
    refine ri_getr (zLs hL 0 rfl) (zLr hL 4 rfl) fM_23 (dq dM_counted 7 rfl) ?_
    refine zi_iload_n 1 (dq dM_counted 8 rfl) rfl ?_
    obtain ⟨c7, h⟩ := q_k h
    refine ri_iald (zLs hL 5 rfl) (by decide) rfl c7 (dq dM_counted 9 rfl) ?_
    refine zi_aload_n 0 (dq dM_counted 10 rfl) rfl ?_
    refine ri_getr (zLs hL 0 rfl) (zLr hL 5 rfl) fM_26 (dq dM_counted 11 rfl) ?_
    refine zi_iload_n 1 (dq dM_counted 12 rfl) rfl ?_
    obtain ⟨c8, h⟩ := q_k h
    refine ri_iald (zLs hL 6 rfl) (by decide) rfl c8 (dq dM_counted 13 rfl) ?_
    obtain ⟨v9, J10, hv9, h⟩ := q_b h
    refine zi_cVi2 (SM_ranging hL hv9 (d := d - 1) (by omega)) wM_ranging aM_329 iM_ranging sM_ranging (by omega) (zLs hL 0 rfl) rfl (Nat.le_of_ble_eq_true rfl) (dq dM_counted 14 rfl) (fun _ _ hh => ?_)
    obtain ⟨rfl, rfl⟩ := hh
    exact zi_ireturn rfl rfl (dq dM_counted 15 rfl) (q_ri h)
def FM_rank_26 (N : Nat) (l1 : Int32) (l4 : Int32) (K26 : (Int32 × Int32 × zJ) → Option (Int32 × zJ)) (s : Int32 × Int32 × zJ) : Option (Int32 × zJ) :=
  let l3 := s.1
  let l5 := s.2.1
  let J := s.2.2
  qk (qi l1 160) <|
  if ((6 * l1) + (J 8 l1.toNatClampNeg)) ≤ l5 then
    some (l3, J)
  else
    qk (qi l5 960) <|
    qk (qi (J 13 l5.toNatClampNeg) 160) <|
    qk (qi l5 960) <|
    qk (qi (J 13 l5.toNatClampNeg) 160) <|
    if (l4 &&& (-l4)) ≤ ((J 9 (J 13 l5.toNatClampNeg).toNatClampNeg) &&& (-(J 9 (J 13 l5.toNatClampNeg).toNatClampNeg))) then
      let y6 := l3 + 0
      let y7 := l5 + (1)
      K26 (y6, y7, J)
    else
      let y8 := l3 + 1
      let y9 := l5 + (1)
      K26 (y8, y9, J)
theorem SM_rank_26 {g : zg} {d N : Nat} {M0 : zM} {A : Nat} {r : Int32} {J1 : zJ}  {l1 : Int32} {l4 : Int32} (hL : zLy M0 A mShL mRf) (hd : 0 ≤ d)  : ∀ n s, qfix (FM_rank_26 N l1 l4) n s = some (r, J1) → zG g d mM_rank (zPq (rI r) (zmm M0 A 40 J1)) (zmm M0 A 40 s.2.2) 26 [(0, va_rf (some (A + 0))), (1, .int l1), (3, .int s.1), (4, .int l4), (5, .int s.2.1)] [] := by
  refine qfix_sound (fun K26 hK26 s h => ?_)
  unfold FM_rank_26 at h
  refine zi_iload 4 (dq dM_rank 18 rfl) rfl ?_
  refine zi_bipush (v := 6) (dq dM_rank 19 rfl) (by decide) ?_
  refine zi_iload_n 1 (dq dM_rank 20 rfl) rfl ?_
  refine zi_imul (dq dM_rank 21 rfl) ?_
  refine zi_aload_n 0 (dq dM_rank 22 rfl) rfl ?_
  refine ri_getr (zLs hL 0 rfl) (zLr hL 7 rfl) fM_32 (dq dM_rank 23 rfl) ?_
  refine zi_iload_n 1 (dq dM_rank 24 rfl) rfl ?_
  obtain ⟨c1, h⟩ := q_k h
  refine ri_iald (zLs hL 8 rfl) (by decide) rfl c1 (dq dM_rank 25 rfl) ?_
  refine zi_iadd (dq dM_rank 26 rfl) ?_
  refine zi_icmp_ge (tgt := 91) (dq dM_rank 27 rfl) (by decide) (fun c => ?_) (fun c => ?_)
  · have h := q_t c h
    refine zi_iload_n 2 (dq dM_rank 57 rfl) rfl ?_
    exact zi_ireturn rfl rfl (dq dM_rank 58 rfl) (q_ri h)
  · have h := q_f c h
    refine zi_iload_n 2 (dq dM_rank 28 rfl) rfl ?_
    refine zi_aload_n 0 (dq dM_rank 29 rfl) rfl ?_
    refine ri_getr (zLs hL 0 rfl) (zLr hL 8 rfl) fM_35 (dq dM_rank 30 rfl) ?_
    refine zi_aload_n 0 (dq dM_rank 31 rfl) rfl ?_
    refine ri_getr (zLs hL 0 rfl) (zLr hL 12 rfl) fM_48 (dq dM_rank 32 rfl) ?_
    refine zi_iload 4 (dq dM_rank 33 rfl) rfl ?_
    obtain ⟨c2, h⟩ := q_k h
    refine ri_iald (zLs hL 13 rfl) (by decide) rfl c2 (dq dM_rank 34 rfl) ?_
    obtain ⟨c3, h⟩ := q_k h
    refine ri_iald (zLs hL 9 rfl) (by decide) rfl c3 (dq dM_rank 35 rfl) ?_
    refine zi_aload_n 0 (dq dM_rank 36 rfl) rfl ?_
    refine ri_getr (zLs hL 0 rfl) (zLr hL 8 rfl) fM_35 (dq dM_rank 37 rfl) ?_
    refine zi_aload_n 0 (dq dM_rank 38 rfl) rfl ?_
    refine ri_getr (zLs hL 0 rfl) (zLr hL 12 rfl) fM_48 (dq dM_rank 39 rfl) ?_
    refine zi_iload 4 (dq dM_rank 40 rfl) rfl ?_
    obtain ⟨c4, h⟩ := q_k h
    refine ri_iald (zLs hL 13 rfl) (by decide) rfl c4 (dq dM_rank 41 rfl) ?_
    obtain ⟨c5, h⟩ := q_k h
    refine ri_iald (zLs hL 9 rfl) (by decide) rfl c5 (dq dM_rank 42 rfl) ?_
    refine zi_ineg (dq dM_rank 43 rfl) ?_
    refine zi_iand (dq dM_rank 44 rfl) ?_
    refine zi_iload 3 (dq dM_rank 45 rfl) rfl ?_
    refine zi_iload 3 (dq dM_rank 46 rfl) rfl ?_
    refine zi_ineg (dq dM_rank 47 rfl) ?_
    refine zi_iand (dq dM_rank 48 rfl) ?_
    refine zi_icmp_ge (tgt := 82) (dq dM_rank 49 rfl) (by decide) (fun c => ?_) (fun c => ?_)
    · have h := q_t c h
      refine zi_iconst (v := 0) (dq dM_rank 52 rfl) (by decide) ?_
      refine zi_iadd (dq dM_rank 53 rfl) ?_
      refine zi_istC_n (lv' := [(3, _), (0, _), (1, _), (4, _), (5, _)]) (dq dM_rank 54 rfl) (by decide) (by simp [z_cr, z_ci]) rfl ?_
      refine zi_iincC (v := _ + (1)) (lv' := [(5, _), (3, _), (0, _), (1, _), (4, _)]) 4 (dq dM_rank 55 rfl) rfl rfl (by decide) (by simp [z_cr, z_ci]) rfl ?_
      refine zi_goto (tgt := 26) (dq dM_rank 56 rfl) (by decide) ?_
      exact zG_lv (zs_c 2 rfl (zs_c 3 rfl (zs_c 1 rfl (zs_c 4 rfl (zs_c 0 rfl zs_n))))) (hK26 _ h)
    · have h := q_f c h
      refine zi_iconst (v := 1) (dq dM_rank 50 rfl) (by decide) ?_
      refine zi_goto (tgt := 83) (dq dM_rank 51 rfl) (by decide) ?_
      refine zi_iadd (dq dM_rank 53 rfl) ?_
      refine zi_istC_n (lv' := [(3, _), (0, _), (1, _), (4, _), (5, _)]) (dq dM_rank 54 rfl) (by decide) (by simp [z_cr, z_ci]) rfl ?_
      refine zi_iincC (v := _ + (1)) (lv' := [(5, _), (3, _), (0, _), (1, _), (4, _)]) 4 (dq dM_rank 55 rfl) rfl rfl (by decide) (by simp [z_cr, z_ci]) rfl ?_
      refine zi_goto (tgt := 26) (dq dM_rank 56 rfl) (by decide) ?_
      exact zG_lv (zs_c 2 rfl (zs_c 3 rfl (zs_c 1 rfl (zs_c 4 rfl (zs_c 0 rfl zs_n))))) (hK26 _ h)
def FM_rank (N : Nat) (l1 : Int32) (l2 : Int32) (J : zJ) : Option (Int32 × zJ) :=
  qk (qi ((6 * l1) + l2) 960) <|
  qk (qi (J 13 ((6 * l1) + l2).toNatClampNeg) 160) <|
  let y3 := J 9 (J 13 ((6 * l1) + l2).toNatClampNeg).toNatClampNeg
  let y4 := 6 * l1
  qfix (FM_rank_26 N l1 y3) N (0, y4, J)
theorem SM_rank {g : zg} {d N : Nat} {M0 : zM} {A : Nat} {r : Int32} {J1 : zJ} {J : zJ} {l1 : Int32} {l2 : Int32} (hL : zLy M0 A mShL mRf) (h : FM_rank N l1 l2 J = some (r, J1)) (hd : 0 ≤ d) : zEi g d mM_rank [va_rf (some (A + 0)), .int l1, .int l2] (zmm M0 A 40 J) (fun v Mq => v = r ∧ Mq = zmm M0 A 40 J1) := by
  unfold FM_rank at h
  refine zEi_q (r := r) (lv := [(0, va_rf (some (A + 0))), (1, .int l1), (2, .int l2)]) ⟨by decide +kernel, by decide, by decide +kernel⟩ (by simp [z_cr, z_ci]) (Nat.le_of_ble_eq_true rfl) rfl ?_
  refine zi_iconst (v := 0) (dq dM_rank 0 rfl) (by decide) ?_
  refine zi_istC_n (lv' := [(3, _), (0, _), (1, _), (2, _)]) (dq dM_rank 1 rfl) (by decide) (by simp [z_cr, z_ci]) rfl ?_
  refine zi_aload_n 1 (dq dM_rank 2 rfl) rfl ?_
  refine ri_getr (zLs hL 0 rfl) (zLr hL 8 rfl) fM_35 (dq dM_rank 3 rfl) ?_
  refine zi_aload_n 1 (dq dM_rank 4 rfl) rfl ?_
  refine ri_getr (zLs hL 0 rfl) (zLr hL 12 rfl) fM_48 (dq dM_rank 5 rfl) ?_
  refine zi_bipush (v := 6) (dq dM_rank 6 rfl) (by decide) ?_
  refine zi_iload_n 2 (dq dM_rank 7 rfl) rfl ?_
  refine zi_imul (dq dM_rank 8 rfl) ?_
  refine zi_iload_n 3 (dq dM_rank 9 rfl) rfl ?_
  refine zi_iadd (dq dM_rank 10 rfl) ?_
  obtain ⟨c1, h⟩ := q_k h
  refine ri_iald (zLs hL 13 rfl) (by decide) rfl c1 (dq dM_rank 11 rfl) ?_
  obtain ⟨c2, h⟩ := q_k h
  refine ri_iald (zLs hL 9 rfl) (by decide) rfl c2 (dq dM_rank 12 rfl) ?_
  refine zi_istC (lv' := [(4, _), (3, _), (0, _), (1, _), (2, _)]) (dq dM_rank 13 rfl) (by decide) (by simp [z_cr, z_ci]) rfl ?_
  refine zi_bipush (v := 6) (dq dM_rank 14 rfl) (by decide) ?_
  refine zi_iload_n 3 (dq dM_rank 15 rfl) rfl ?_
  refine zi_imul (dq dM_rank 16 rfl) ?_
  refine zi_istC (lv' := [(5, _), (4, _), (3, _), (0, _), (1, _), (2, _)]) (dq dM_rank 17 rfl) (by decide) (by simp [z_cr, z_ci]) rfl ?_
  exact zG_lv (zs_c 3 rfl (zs_c 4 rfl (zs_c 2 rfl (zs_c 1 rfl (zs_c 0 rfl zs_n))))) (SM_rank_26 hL hd  _ _ h)
def FM_want_461 (N : Nat) (l7 : Int32) (l8 : Int32) (J : zJ) : Option (Unit × zJ) :=
  qk (qi l8 160) <|
  if (J 4 l8.toNatClampNeg) = 7 then
    qb (FM_counted N l8 J) fun v4 J5 =>
    qk (qi l7 100) <|
    let J7 := zu J5 22 l7.toNatClampNeg v4
    some ((), J7)
  else
    qk (qi l7 100) <|
    let J3 := zu J 22 l7.toNatClampNeg 0
    some ((), J3)
theorem SM_want_461 {g : zg} {d N : Nat} {M0 : zM} {A : Nat} {r : Unit} {J1 : zJ} {J : zJ}  {l7 : Int32} {l8 : Int32} (hL : zLy M0 A mShL mRf) (h : FM_want_461 N l7 l8 J = some (r, J1)) (hd : 4 ≤ d)  : zG g d mM_want (zPq (rU r) (zmm M0 A 40 J1)) (zmm M0 A 40 J) 461 [(0, va_rf (some (A + 0))), (7, .int l7), (8, .int l8)] [] := by
  unfold FM_want_461 at h
  refine zi_aload_n 0 (dq dM_want 243 rfl) rfl ?_
  refine ri_getr (zLs hL 0 rfl) (zLr hL 21 rfl) fM_75 (dq dM_want 244 rfl) ?_
  refine zi_iload 1 (dq dM_want 245 rfl) rfl ?_
  refine zi_aload_n 0 (dq dM_want 246 rfl) rfl ?_
  refine ri_getr (zLs hL 0 rfl) (zLr hL 3 rfl) fM_20 (dq dM_want 247 rfl) ?_
  refine zi_iload 2 (dq dM_want 248 rfl) rfl ?_
  obtain ⟨c1, h⟩ := q_k h
  refine ri_iald (zLs hL 4 rfl) (by decide) rfl c1 (dq dM_want 249 rfl) ?_
  refine zi_bipush (v := 7) (dq dM_want 250 rfl) (by decide) ?_
  refine zi_icmp_ne (tgt := 488) (dq dM_want 251 rfl) (by decide) (fun c => ?_) (fun c => ?_)
  · have h := q_f c h
    refine zi_iconst (v := 0) (dq dM_want 256 rfl) (by decide) ?_
    obtain ⟨c2, h⟩ := q_k h
    refine ri_iast (zLs hL 22 rfl) (by decide) rfl c2 (dq dM_want 257 rfl) ?_
    refine zi_goto (tgt := 623) (dq dM_want 258 rfl) (by decide) ?_
    exact zi_return rfl (dq dM_want 330 rfl) (q_ru h)
  · have h := q_t c h
    refine zi_aload_n 0 (dq dM_want 252 rfl) rfl ?_
    refine zi_iload 2 (dq dM_want 253 rfl) rfl ?_
    obtain ⟨v4, J5, hv4, h⟩ := q_b h
    refine zi_cVi1 (SM_counted hL hv4 (d := d - 1) (by omega)) wM_counted aM_335 iM_counted sM_counted (by omega) (zLs hL 0 rfl) rfl (Nat.le_of_ble_eq_true rfl) (dq dM_want 254 rfl) (fun _ _ hh => ?_)
    obtain ⟨rfl, rfl⟩ := hh
    refine zi_goto (tgt := 489) (dq dM_want 255 rfl) (by decide) ?_
    obtain ⟨c6, h⟩ := q_k h
    refine ri_iast (zLs hL 22 rfl) (by decide) rfl c6 (dq dM_want 257 rfl) ?_
    refine zi_goto (tgt := 623) (dq dM_want 258 rfl) (by decide) ?_
    exact zi_return rfl (dq dM_want 330 rfl) (q_ru h)
def FM_want_382 (N : Nat) (l7 : Int32) (l8 : Int32) (K382 : (Int32 × zJ) → Option (Unit × zJ)) (s : Int32 × zJ) : Option (Unit × zJ) :=
  let l9 := s.1
  let J := s.2
  qk (qi l8 160) <|
  if ((6 * l8) + (J 8 l8.toNatClampNeg)) ≤ l9 then
    FM_want_461 N l7 l8 J
  else
    qk (qi l8 160) <|
    if (J 4 l8.toNatClampNeg) = 6 then
      qk (qi ((J 0 48) - 1) 160) <|
      qk (qi l9 960) <|
      if (J 14 l9.toNatClampNeg) = 0 then
        qk (qi ((J 0 48) - 1) 160) <|
        let J11 := zu J 34 ((J 0 48) - 1).toNatClampNeg ((2 * (J 34 ((J 0 48) - 1).toNatClampNeg)) + 1)
        let y12 := l9 + (1)
        K382 (y12, J11)
      else
        qb (FM_bit N J) fun v5 J6 =>
        qk (qi ((J 0 48) - 1) 160) <|
        let J8 := zu J6 34 ((J 0 48) - 1).toNatClampNeg ((2 * (J 34 ((J 0 48) - 1).toNatClampNeg)) + v5)
        let y9 := l9 + (1)
        K382 (y9, J8)
    else
      FM_want_461 N l7 l8 J
theorem SM_want_382 {g : zg} {d N : Nat} {M0 : zM} {A : Nat} {r : Unit} {J1 : zJ}  {l7 : Int32} {l8 : Int32} (hL : zLy M0 A mShL mRf) (hd : 4 ≤ d)  : ∀ n s, qfix (FM_want_382 N l7 l8) n s = some (r, J1) → zG g d mM_want (zPq (rU r) (zmm M0 A 40 J1)) (zmm M0 A 40 s.2) 382 [(0, va_rf (some (A + 0))), (7, .int l7), (8, .int l8), (9, .int s.1)] [] := by
  refine qfix_sound (fun K382 hK382 s h => ?_)
  unfold FM_want_382 at h
  refine zi_iload 3 (dq dM_want 199 rfl) rfl ?_
  refine zi_bipush (v := 6) (dq dM_want 200 rfl) (by decide) ?_
  refine zi_iload 2 (dq dM_want 201 rfl) rfl ?_
  refine zi_imul (dq dM_want 202 rfl) ?_
  refine zi_aload_n 0 (dq dM_want 203 rfl) rfl ?_
  refine ri_getr (zLs hL 0 rfl) (zLr hL 7 rfl) fM_32 (dq dM_want 204 rfl) ?_
  refine zi_iload 2 (dq dM_want 205 rfl) rfl ?_
  obtain ⟨c1, h⟩ := q_k h
  refine ri_iald (zLs hL 8 rfl) (by decide) rfl c1 (dq dM_want 206 rfl) ?_
  refine zi_iadd (dq dM_want 207 rfl) ?_
  refine zi_icmp_ge (tgt := 461) (dq dM_want 208 rfl) (by decide) (fun c => ?_) (fun c => ?_)
  · have h := q_t c h
    exact zG_lv (zs_c 0 rfl (zs_c 1 rfl (zs_c 2 rfl zs_n))) (SM_want_461 hL h hd )
  · have h := q_f c h
    refine zi_aload_n 0 (dq dM_want 209 rfl) rfl ?_
    refine ri_getr (zLs hL 0 rfl) (zLr hL 3 rfl) fM_20 (dq dM_want 210 rfl) ?_
    refine zi_iload 2 (dq dM_want 211 rfl) rfl ?_
    obtain ⟨c2, h⟩ := q_k h
    refine ri_iald (zLs hL 4 rfl) (by decide) rfl c2 (dq dM_want 212 rfl) ?_
    refine zi_bipush (v := 6) (dq dM_want 213 rfl) (by decide) ?_
    refine zi_icmp_ne (tgt := 461) (dq dM_want 214 rfl) (by decide) (fun c => ?_) (fun c => ?_)
    · have h := q_f c h
      exact zG_lv (zs_c 0 rfl (zs_c 1 rfl (zs_c 2 rfl zs_n))) (SM_want_461 hL h hd )
    · have h := q_t c h
      refine zi_aload_n 0 (dq dM_want 215 rfl) rfl ?_
      refine ri_getr (zLs hL 0 rfl) (zLr hL 33 rfl) fM_111 (dq dM_want 216 rfl) ?_
      refine zi_aload_n 0 (dq dM_want 217 rfl) rfl ?_
      refine ri_geti (zLs hL 0 rfl) (by decide) fM_242 (dq dM_want 218 rfl) ?_
      refine zi_iconst (v := 1) (dq dM_want 219 rfl) (by decide) ?_
      refine zi_isub (dq dM_want 220 rfl) ?_
      refine zi_iconst (v := 2) (dq dM_want 221 rfl) (by decide) ?_
      refine zi_aload_n 0 (dq dM_want 222 rfl) rfl ?_
      refine ri_getr (zLs hL 0 rfl) (zLr hL 33 rfl) fM_111 (dq dM_want 223 rfl) ?_
      refine zi_aload_n 0 (dq dM_want 224 rfl) rfl ?_
      refine ri_geti (zLs hL 0 rfl) (by decide) fM_242 (dq dM_want 225 rfl) ?_
      refine zi_iconst (v := 1) (dq dM_want 226 rfl) (by decide) ?_
      refine zi_isub (dq dM_want 227 rfl) ?_
      obtain ⟨c3, h⟩ := q_k h
      refine ri_iald (zLs hL 34 rfl) (by decide) rfl c3 (dq dM_want 228 rfl) ?_
      refine zi_imul (dq dM_want 229 rfl) ?_
      refine zi_aload_n 0 (dq dM_want 230 rfl) rfl ?_
      refine ri_getr (zLs hL 0 rfl) (zLr hL 13 rfl) fM_51 (dq dM_want 231 rfl) ?_
      refine zi_iload 3 (dq dM_want 232 rfl) rfl ?_
      obtain ⟨c4, h⟩ := q_k h
      refine ri_iald (zLs hL 14 rfl) (by decide) rfl c4 (dq dM_want 233 rfl) ?_
      refine zi_if_ne (tgt := 449) (dq dM_want 234 rfl) (by decide) (fun c => ?_) (fun c => ?_)
      · have h := q_f c h
        refine zi_aload_n 0 (dq dM_want 237 rfl) rfl ?_
        obtain ⟨v5, J6, hv5, h⟩ := q_b h
        refine zi_cVi0 (SM_bit hL hv5 (d := d - 1) (by omega)) wM_bit aM_317 iM_bit sM_bit (by omega) (zLs hL 0 rfl) rfl (Nat.le_of_ble_eq_true rfl) (dq dM_want 238 rfl) (fun _ _ hh => ?_)
        obtain ⟨rfl, rfl⟩ := hh
        refine zi_iadd (dq dM_want 239 rfl) ?_
        obtain ⟨c7, h⟩ := q_k h
        refine ri_iast (zLs hL 34 rfl) (by decide) rfl c7 (dq dM_want 240 rfl) ?_
        refine zi_iincC (v := _ + (1)) (lv' := [(9, _), (0, _), (7, _), (8, _)]) 3 (dq dM_want 241 rfl) rfl rfl (by decide) (by simp [z_cr, z_ci]) rfl ?_
        refine zi_goto (tgt := 382) (dq dM_want 242 rfl) (by decide) ?_
        exact zG_lv (zs_c 1 rfl (zs_c 2 rfl (zs_c 3 rfl (zs_c 0 rfl zs_n)))) (hK382 _ h)
      · have h := q_t c h
        refine zi_iconst (v := 1) (dq dM_want 235 rfl) (by decide) ?_
        refine zi_goto (tgt := 453) (dq dM_want 236 rfl) (by decide) ?_
        refine zi_iadd (dq dM_want 239 rfl) ?_
        obtain ⟨c10, h⟩ := q_k h
        refine ri_iast (zLs hL 34 rfl) (by decide) rfl c10 (dq dM_want 240 rfl) ?_
        refine zi_iincC (v := _ + (1)) (lv' := [(9, _), (0, _), (7, _), (8, _)]) 3 (dq dM_want 241 rfl) rfl rfl (by decide) (by simp [z_cr, z_ci]) rfl ?_
        refine zi_goto (tgt := 382) (dq dM_want 242 rfl) (by decide) ?_
        exact zG_lv (zs_c 1 rfl (zs_c 2 rfl (zs_c 3 rfl (zs_c 0 rfl zs_n)))) (hK382 _ h)
def FM_want_367 (N : Nat) (l7 : Int32) (l8 : Int32) (J : zJ) : Option (Unit × zJ) :=
  qb (FM_frame N l7 0 0 J) fun v1 J2 =>
  let y3 := 6 * l8
  qfix (FM_want_382 N l7 l8) N (y3, J2)
theorem SM_want_367 {g : zg} {d N : Nat} {M0 : zM} {A : Nat} {r : Unit} {J1 : zJ} {J : zJ}  {l7 : Int32} {l8 : Int32} (hL : zLy M0 A mShL mRf) (h : FM_want_367 N l7 l8 J = some (r, J1)) (hd : 4 ≤ d)  : zG g d mM_want (zPq (rU r) (zmm M0 A 40 J1)) (zmm M0 A 40 J) 367 [(0, va_rf (some (A + 0))), (7, .int l7), (8, .int l8)] [] := by
  unfold FM_want_367 at h
  refine zi_aload_n 0 (dq dM_want 190 rfl) rfl ?_
  refine zi_iload 1 (dq dM_want 191 rfl) rfl ?_
  refine zi_iconst (v := 0) (dq dM_want 192 rfl) (by decide) ?_
  refine zi_iconst (v := 0) (dq dM_want 193 rfl) (by decide) ?_
  obtain ⟨v1, J2, hv1, h⟩ := q_b h
  refine zi_cVv3 (SM_frame hL hv1 (d := d - 1) (by omega)) wM_frame aM_283 iM_frame sM_frame (by omega) (zLs hL 0 rfl) rfl (Nat.le_of_ble_eq_true rfl) (dq dM_want 194 rfl) (fun _ hh => ?_)
  subst hh
  refine zi_bipush (v := 6) (dq dM_want 195 rfl) (by decide) ?_
  refine zi_iload 2 (dq dM_want 196 rfl) rfl ?_
  refine zi_imul (dq dM_want 197 rfl) ?_
  refine zi_istC (lv' := [(9, _), (0, _), (7, _), (8, _)]) (dq dM_want 198 rfl) (by decide) (by simp [z_cr, z_ci]) rfl ?_
  exact zG_lv (zs_c 1 rfl (zs_c 2 rfl (zs_c 3 rfl (zs_c 0 rfl zs_n)))) (SM_want_382 hL hd  _ _ h)
def FM_want_578 (N : Nat) (l7 : Int32) (l9 : Int32) (J : zJ) : Option (Unit × zJ) :=
  if (J 0 49) = 0 then
    qk (qi l7 100) <|
    let J2 := zu J 22 l7.toNatClampNeg 0
    some ((), J2)
  else
    qb (FM_some N (8 * l9) J) fun v3 J4 =>
    qk (qi l7 100) <|
    let J6 := zu J4 22 l7.toNatClampNeg ((v3 <<< ((32 - (8 * l9)) &&& 31)) >>> ((32 - (8 * l9)) &&& 31))
    some ((), J6)
theorem SM_want_578 {g : zg} {d N : Nat} {M0 : zM} {A : Nat} {r : Unit} {J1 : zJ} {J : zJ}  {l7 : Int32} {l9 : Int32} (hL : zLy M0 A mShL mRf) (h : FM_want_578 N l7 l9 J = some (r, J1)) (hd : 4 ≤ d)  : zG g d mM_want (zPq (rU r) (zmm M0 A 40 J1)) (zmm M0 A 40 J) 578 [(0, va_rf (some (A + 0))), (7, .int l7), (9, .int l9)] [] := by
  unfold FM_want_578 at h
  refine zi_aload_n 0 (dq dM_want 304 rfl) rfl ?_
  refine ri_getr (zLs hL 0 rfl) (zLr hL 21 rfl) fM_75 (dq dM_want 305 rfl) ?_
  refine zi_iload 1 (dq dM_want 306 rfl) rfl ?_
  refine zi_aload_n 0 (dq dM_want 307 rfl) rfl ?_
  refine ri_geti (zLs hL 0 rfl) (by decide) fM_236 (dq dM_want 308 rfl) ?_
  refine zi_if_eq (tgt := 621) (dq dM_want 309 rfl) (by decide) (fun c => ?_) (fun c => ?_)
  · have h := q_t c h
    refine zi_iconst (v := 0) (dq dM_want 328 rfl) (by decide) ?_
    obtain ⟨c1, h⟩ := q_k h
    refine ri_iast (zLs hL 22 rfl) (by decide) rfl c1 (dq dM_want 329 rfl) ?_
    exact zi_return rfl (dq dM_want 330 rfl) (q_ru h)
  · have h := q_f c h
    refine zi_aload_n 0 (dq dM_want 310 rfl) rfl ?_
    refine zi_bipush (v := 8) (dq dM_want 311 rfl) (by decide) ?_
    refine zi_iload 2 (dq dM_want 312 rfl) rfl ?_
    refine zi_imul (dq dM_want 313 rfl) ?_
    obtain ⟨v3, J4, hv3, h⟩ := q_b h
    refine zi_cVi1 (SM_some hL hv3 (d := d - 1) (by omega)) wM_some aM_326 iM_some sM_some (by omega) (zLs hL 0 rfl) rfl (Nat.le_of_ble_eq_true rfl) (dq dM_want 314 rfl) (fun _ _ hh => ?_)
    obtain ⟨rfl, rfl⟩ := hh
    refine zi_bipush (v := 32) (dq dM_want 315 rfl) (by decide) ?_
    refine zi_bipush (v := 8) (dq dM_want 316 rfl) (by decide) ?_
    refine zi_iload 2 (dq dM_want 317 rfl) rfl ?_
    refine zi_imul (dq dM_want 318 rfl) ?_
    refine zi_isub (dq dM_want 319 rfl) ?_
    refine zi_ishl (dq dM_want 320 rfl) ?_
    refine zi_bipush (v := 32) (dq dM_want 321 rfl) (by decide) ?_
    refine zi_bipush (v := 8) (dq dM_want 322 rfl) (by decide) ?_
    refine zi_iload 2 (dq dM_want 323 rfl) rfl ?_
    refine zi_imul (dq dM_want 324 rfl) ?_
    refine zi_isub (dq dM_want 325 rfl) ?_
    refine zi_ishr (dq dM_want 326 rfl) ?_
    refine zi_goto (tgt := 622) (dq dM_want 327 rfl) (by decide) ?_
    obtain ⟨c5, h⟩ := q_k h
    refine ri_iast (zLs hL 22 rfl) (by decide) rfl c5 (dq dM_want 329 rfl) ?_
    exact zi_return rfl (dq dM_want 330 rfl) (q_ru h)
def FM_want_313 (N : Nat) (l7 : Int32) (J : zJ) : Option (Unit × zJ) :=
  if (J 0 49) = 0 then
    let J1 := zu J 0 35 ((J 0 35) + 0)
    some ((), J1)
  else
    qk (qi l7 100) <|
    let J3 := zu J 0 35 ((J 0 35) + (J 22 l7.toNatClampNeg))
    some ((), J3)
theorem SM_want_313 {g : zg} {d N : Nat} {M0 : zM} {A : Nat} {r : Unit} {J1 : zJ} {J : zJ}  {l7 : Int32} (hL : zLy M0 A mShL mRf) (h : FM_want_313 N l7 J = some (r, J1)) (hd : 4 ≤ d)  : zG g d mM_want (zPq (rU r) (zmm M0 A 40 J1)) (zmm M0 A 40 J) 313 [(0, va_rf (some (A + 0))), (7, .int l7)] [] := by
  unfold FM_want_313 at h
  refine zi_aload_n 0 (dq dM_want 163 rfl) rfl ?_
  refine zi_dup (dq dM_want 164 rfl) (by first | rfl | exact z_cr _) ?_
  refine ri_geti (zLs hL 0 rfl) (by decide) fM_239 (dq dM_want 165 rfl) ?_
  refine zi_aload_n 0 (dq dM_want 166 rfl) rfl ?_
  refine ri_geti (zLs hL 0 rfl) (by decide) fM_236 (dq dM_want 167 rfl) ?_
  refine zi_if_eq (tgt := 335) (dq dM_want 168 rfl) (by decide) (fun c => ?_) (fun c => ?_)
  · have h := q_t c h
    refine zi_iconst (v := 0) (dq dM_want 174 rfl) (by decide) ?_
    refine zi_iadd (dq dM_want 175 rfl) ?_
    refine ri_puti (zLs hL 0 rfl) (by decide) fM_239 (fun h => by cases h) rfl rfl (dq dM_want 176 rfl) ?_
    refine zi_goto (tgt := 623) (dq dM_want 177 rfl) (by decide) ?_
    exact zi_return rfl (dq dM_want 330 rfl) (q_ru h)
  · have h := q_f c h
    refine zi_aload_n 0 (dq dM_want 169 rfl) rfl ?_
    refine ri_getr (zLs hL 0 rfl) (zLr hL 21 rfl) fM_75 (dq dM_want 170 rfl) ?_
    refine zi_iload 1 (dq dM_want 171 rfl) rfl ?_
    obtain ⟨c2, h⟩ := q_k h
    refine ri_iald (zLs hL 22 rfl) (by decide) rfl c2 (dq dM_want 172 rfl) ?_
    refine zi_goto (tgt := 336) (dq dM_want 173 rfl) (by decide) ?_
    refine zi_iadd (dq dM_want 175 rfl) ?_
    refine ri_puti (zLs hL 0 rfl) (by decide) fM_239 (fun h => by cases h) rfl rfl (dq dM_want 176 rfl) ?_
    refine zi_goto (tgt := 623) (dq dM_want 177 rfl) (by decide) ?_
    exact zi_return rfl (dq dM_want 330 rfl) (q_ru h)
def FM_want_270 (N : Nat) (l7 : Int32) (K270 : (Int32 × zJ) → Option (Unit × zJ)) (s : Int32 × zJ) : Option (Unit × zJ) :=
  let l9 := s.1
  let J := s.2
  qk (qi l7 100) <|
  if (J 22 l7.toNatClampNeg) ≤ l9 then
    FM_want_313 N l7 J
  else
    if (J 0 49) = 0 then
      FM_want_313 N l7 J
    else
      qb (FM_some N 8 J) fun v2 J3 =>
      qk (qi ((J 0 35) + l9) 240) <|
      let J5 := zu J3 28 ((J 0 35) + l9).toNatClampNeg v2
      let y6 := l9 + (1)
      K270 (y6, J5)
theorem SM_want_270 {g : zg} {d N : Nat} {M0 : zM} {A : Nat} {r : Unit} {J1 : zJ}  {l7 : Int32} (hL : zLy M0 A mShL mRf) (hd : 4 ≤ d)  : ∀ n s, qfix (FM_want_270 N l7) n s = some (r, J1) → zG g d mM_want (zPq (rU r) (zmm M0 A 40 J1)) (zmm M0 A 40 s.2) 270 [(0, va_rf (some (A + 0))), (7, .int l7), (9, .int s.1)] [] := by
  refine qfix_sound (fun K270 hK270 s h => ?_)
  unfold FM_want_270 at h
  refine zi_iload 2 (dq dM_want 142 rfl) rfl ?_
  refine zi_aload_n 0 (dq dM_want 143 rfl) rfl ?_
  refine ri_getr (zLs hL 0 rfl) (zLr hL 21 rfl) fM_75 (dq dM_want 144 rfl) ?_
  refine zi_iload 1 (dq dM_want 145 rfl) rfl ?_
  obtain ⟨c1, h⟩ := q_k h
  refine ri_iald (zLs hL 22 rfl) (by decide) rfl c1 (dq dM_want 146 rfl) ?_
  refine zi_icmp_ge (tgt := 313) (dq dM_want 147 rfl) (by decide) (fun c => ?_) (fun c => ?_)
  · have h := q_t c h
    exact zG_lv (zs_c 0 rfl (zs_c 1 rfl zs_n)) (SM_want_313 hL h hd )
  · have h := q_f c h
    refine zi_aload_n 0 (dq dM_want 148 rfl) rfl ?_
    refine ri_geti (zLs hL 0 rfl) (by decide) fM_236 (dq dM_want 149 rfl) ?_
    refine zi_if_eq (tgt := 313) (dq dM_want 150 rfl) (by decide) (fun c => ?_) (fun c => ?_)
    · have h := q_t c h
      exact zG_lv (zs_c 0 rfl (zs_c 1 rfl zs_n)) (SM_want_313 hL h hd )
    · have h := q_f c h
      refine zi_aload_n 0 (dq dM_want 151 rfl) rfl ?_
      refine ri_getr (zLs hL 0 rfl) (zLr hL 27 rfl) fM_93 (dq dM_want 152 rfl) ?_
      refine zi_aload_n 0 (dq dM_want 153 rfl) rfl ?_
      refine ri_geti (zLs hL 0 rfl) (by decide) fM_239 (dq dM_want 154 rfl) ?_
      refine zi_iload 2 (dq dM_want 155 rfl) rfl ?_
      refine zi_iadd (dq dM_want 156 rfl) ?_
      refine zi_aload_n 0 (dq dM_want 157 rfl) rfl ?_
      refine zi_bipush (v := 8) (dq dM_want 158 rfl) (by decide) ?_
      obtain ⟨v2, J3, hv2, h⟩ := q_b h
      refine zi_cVi1 (SM_some hL hv2 (d := d - 1) (by omega)) wM_some aM_326 iM_some sM_some (by omega) (zLs hL 0 rfl) rfl (Nat.le_of_ble_eq_true rfl) (dq dM_want 159 rfl) (fun _ _ hh => ?_)
      obtain ⟨rfl, rfl⟩ := hh
      obtain ⟨c4, h⟩ := q_k h
      refine ri_iast (zLs hL 28 rfl) (by decide) rfl c4 (dq dM_want 160 rfl) ?_
      refine zi_iincC (v := _ + (1)) (lv' := [(9, _), (0, _), (7, _)]) 2 (dq dM_want 161 rfl) rfl rfl (by decide) (by simp [z_cr, z_ci]) rfl ?_
      refine zi_goto (tgt := 270) (dq dM_want 162 rfl) (by decide) ?_
      exact zG_lv (zs_c 1 rfl (zs_c 2 rfl (zs_c 0 rfl zs_n))) (hK270 _ h)
def FM_want_263 (N : Nat) (l7 : Int32) (J : zJ) : Option (Unit × zJ) :=
  qb (FM_align N J) fun v1 J2 =>
  qfix (FM_want_270 N l7) N (0, J2)
theorem SM_want_263 {g : zg} {d N : Nat} {M0 : zM} {A : Nat} {r : Unit} {J1 : zJ} {J : zJ}  {l7 : Int32} (hL : zLy M0 A mShL mRf) (h : FM_want_263 N l7 J = some (r, J1)) (hd : 4 ≤ d)  : zG g d mM_want (zPq (rU r) (zmm M0 A 40 J1)) (zmm M0 A 40 J) 263 [(0, va_rf (some (A + 0))), (7, .int l7)] [] := by
  unfold FM_want_263 at h
  refine zi_aload_n 0 (dq dM_want 138 rfl) rfl ?_
  obtain ⟨v1, J2, hv1, h⟩ := q_b h
  refine zi_cVv0 (SM_align hL hv1 (d := d - 1) (by omega)) wM_align aM_320 iM_align sM_align (by omega) (zLs hL 0 rfl) rfl (Nat.le_of_ble_eq_true rfl) (dq dM_want 139 rfl) (fun _ hh => ?_)
  subst hh
  refine zi_iconst (v := 0) (dq dM_want 140 rfl) (by decide) ?_
  refine zi_istC (lv' := [(9, _), (0, _), (7, _)]) (dq dM_want 141 rfl) (by decide) (by simp [z_cr, z_ci]) rfl ?_
  exact zG_lv (zs_c 1 rfl (zs_c 2 rfl (zs_c 0 rfl zs_n))) (SM_want_270 hL hd  _ _ h)
def FM_want_128 (N : Nat) (l4 : Int32) (l5 : Int32) (l6 : Int32) (J : zJ) : Option (Unit × zJ) :=
  qb (FM_adds N l4 l5 l6 0 J) fun v1 J2 =>
  let y3 := J2 0 23
  if (J2 0 49) = 0 then
    some ((), J2)
  else
    qk (qi y3 160) <|
    if (J2 4 y3.toNatClampNeg) = 5 then
      some ((), J2)
    else
      qk (qi y3 160) <|
      if (J2 4 y3.toNatClampNeg) = 1 then
        qb (FM_bit N J2) fun v32 J33 =>
        qk (qi v1 100) <|
        let J35 := zu J33 22 v1.toNatClampNeg v32
        some ((), J35)
      else
        qk (qi y3 160) <|
        if (J2 4 y3.toNatClampNeg) = 4 then
          qb (FM_counted N y3 J2) fun v23 J24 =>
          qk (qi v1 100) <|
          let J26 := zu J24 22 v1.toNatClampNeg v23
          qk (qi y3 160) <|
          if (J26 11 y3.toNatClampNeg) = 0 then
            qfix (FM_want_270 N v1) N (0, J26)
          else
            qk (qi v1 100) <|
            if (J26 22 v1.toNatClampNeg) ≤ 0 then
              qfix (FM_want_270 N v1) N (0, J26)
            else
              qk (qi y3 160) <|
              qk (qi y3 160) <|
              if (J26 5 y3.toNatClampNeg) = (J26 6 y3.toNatClampNeg) then
                qk (qi y3 160) <|
                if (J26 6 y3.toNatClampNeg) ≤ 2 then
                  qfix (FM_want_270 N v1) N (0, J26)
                else
                  FM_want_263 N v1 J26
              else
                FM_want_263 N v1 J26
        else
          qk (qi y3 160) <|
          if (J2 4 y3.toNatClampNeg) = 6 then
            FM_want_367 N v1 y3 J2
          else
            qk (qi y3 160) <|
            if (J2 4 y3.toNatClampNeg) = 7 then
              FM_want_367 N v1 y3 J2
            else
              qk (qi y3 160) <|
              if (J2 11 y3.toNatClampNeg) = 0 then
                qb (FM_align N J2) fun v10 J11 =>
                qb (FM_some N 8 J11) fun v12 J13 =>
                qc (FM_in N v12 1 4) fun v14 =>
                if (bI v14) = 0 then
                  let J15 := zu J13 0 49 0
                  FM_want_578 N v1 v12 J15
                else
                  if ((J13 0 47) + (8 * v12)) ≤ (8 * (J13 0 28)) then
                    FM_want_578 N v1 v12 J13
                  else
                    let J16 := zu J13 0 49 0
                    FM_want_578 N v1 v12 J16
              else
                qk (qi y3 160) <|
                qk (qi y3 160) <|
                qb (FM_ranging N (J2 5 y3.toNatClampNeg) (J2 6 y3.toNatClampNeg) J2) fun v19 J20 =>
                qk (qi v1 100) <|
                let J22 := zu J20 22 v1.toNatClampNeg v19
                some ((), J22)
theorem SM_want_128 {g : zg} {d N : Nat} {M0 : zM} {A : Nat} {r : Unit} {J1 : zJ} {J : zJ}  {l4 : Int32} {l5 : Int32} {l6 : Int32} (hL : zLy M0 A mShL mRf) (h : FM_want_128 N l4 l5 l6 J = some (r, J1)) (hd : 4 ≤ d)  : zG g d mM_want (zPq (rU r) (zmm M0 A 40 J1)) (zmm M0 A 40 J) 128 [(0, va_rf (some (A + 0))), (4, .int l4), (5, .int l5), (6, .int l6)] [] := by
  unfold FM_want_128 at h
  refine zi_aload_n 0 (dq dM_want 67 rfl) rfl ?_
  refine zi_iload 1 (dq dM_want 68 rfl) rfl ?_
  refine zi_iload 2 (dq dM_want 69 rfl) rfl ?_
  refine zi_iload 3 (dq dM_want 70 rfl) rfl ?_
  refine zi_iconst (v := 0) (dq dM_want 71 rfl) (by decide) ?_
  obtain ⟨v1, J2, hv1, h⟩ := q_b h
  refine zi_cVi4 (SM_adds hL hv1 (d := d - 1) (by omega)) wM_adds aM_293 iM_adds sM_adds (by omega) (zLs hL 0 rfl) rfl (Nat.le_of_ble_eq_true rfl) (dq dM_want 72 rfl) (fun _ _ hh => ?_)
  obtain ⟨rfl, rfl⟩ := hh
  refine zi_istC (lv' := [(7, _), (0, _), (4, _), (5, _), (6, _)]) (dq dM_want 73 rfl) (by decide) (by simp [z_cr, z_ci]) rfl ?_
  refine zi_aload_n 1 (dq dM_want 74 rfl) rfl ?_
  refine ri_geti (zLs hL 0 rfl) (by decide) fM_222 (dq dM_want 75 rfl) ?_
  refine zi_istC (lv' := [(8, _), (7, _), (0, _), (4, _), (5, _), (6, _)]) (dq dM_want 76 rfl) (by decide) (by simp [z_cr, z_ci]) rfl ?_
  refine zi_aload_n 2 (dq dM_want 77 rfl) rfl ?_
  refine ri_geti (zLs hL 0 rfl) (by decide) fM_236 (dq dM_want 78 rfl) ?_
  refine zi_if_eq (tgt := 165) (dq dM_want 79 rfl) (by decide) (fun c => ?_) (fun c => ?_)
  · have h := q_t c h
    exact zi_return rfl (dq dM_want 86 rfl) (q_ru h)
  · have h := q_f c h
    refine zi_aload_n 2 (dq dM_want 80 rfl) rfl ?_
    refine ri_getr (zLs hL 0 rfl) (zLr hL 3 rfl) fM_20 (dq dM_want 81 rfl) ?_
    refine zi_iload 0 (dq dM_want 82 rfl) rfl ?_
    obtain ⟨c4, h⟩ := q_k h
    refine ri_iald (zLs hL 4 rfl) (by decide) rfl c4 (dq dM_want 83 rfl) ?_
    refine zi_iconst (v := 5) (dq dM_want 84 rfl) (by decide) ?_
    refine zi_icmp_ne (tgt := 166) (dq dM_want 85 rfl) (by decide) (fun c => ?_) (fun c => ?_)
    · have h := q_f c h
      refine zi_aload_n 2 (dq dM_want 87 rfl) rfl ?_
      refine ri_getr (zLs hL 0 rfl) (zLr hL 3 rfl) fM_20 (dq dM_want 88 rfl) ?_
      refine zi_iload 0 (dq dM_want 89 rfl) rfl ?_
      obtain ⟨c5, h⟩ := q_k h
      refine ri_iald (zLs hL 4 rfl) (by decide) rfl c5 (dq dM_want 90 rfl) ?_
      refine zi_iconst (v := 1) (dq dM_want 91 rfl) (by decide) ?_
      refine zi_icmp_ne (tgt := 191) (dq dM_want 92 rfl) (by decide) (fun c => ?_) (fun c => ?_)
      · have h := q_f c h
        refine zi_aload_n 2 (dq dM_want 100 rfl) rfl ?_
        refine ri_getr (zLs hL 0 rfl) (zLr hL 3 rfl) fM_20 (dq dM_want 101 rfl) ?_
        refine zi_iload 0 (dq dM_want 102 rfl) rfl ?_
        obtain ⟨c6, h⟩ := q_k h
        refine ri_iald (zLs hL 4 rfl) (by decide) rfl c6 (dq dM_want 103 rfl) ?_
        refine zi_iconst (v := 4) (dq dM_want 104 rfl) (by decide) ?_
        refine zi_icmp_ne (tgt := 343) (dq dM_want 105 rfl) (by decide) (fun c => ?_) (fun c => ?_)
        · have h := q_f c h
          refine zi_aload_n 2 (dq dM_want 178 rfl) rfl ?_
          refine ri_getr (zLs hL 0 rfl) (zLr hL 3 rfl) fM_20 (dq dM_want 179 rfl) ?_
          refine zi_iload 0 (dq dM_want 180 rfl) rfl ?_
          obtain ⟨c7, h⟩ := q_k h
          refine ri_iald (zLs hL 4 rfl) (by decide) rfl c7 (dq dM_want 181 rfl) ?_
          refine zi_bipush (v := 6) (dq dM_want 182 rfl) (by decide) ?_
          refine zi_icmp_eq (tgt := 367) (dq dM_want 183 rfl) (by decide) (fun c => ?_) (fun c => ?_)
          · have h := q_t c h
            exact zG_lv (zs_c 2 rfl (zs_c 1 rfl (zs_c 0 rfl zs_n))) (SM_want_367 hL h hd )
          · have h := q_f c h
            refine zi_aload_n 2 (dq dM_want 184 rfl) rfl ?_
            refine ri_getr (zLs hL 0 rfl) (zLr hL 3 rfl) fM_20 (dq dM_want 185 rfl) ?_
            refine zi_iload 0 (dq dM_want 186 rfl) rfl ?_
            obtain ⟨c8, h⟩ := q_k h
            refine ri_iald (zLs hL 4 rfl) (by decide) rfl c8 (dq dM_want 187 rfl) ?_
            refine zi_bipush (v := 7) (dq dM_want 188 rfl) (by decide) ?_
            refine zi_icmp_ne (tgt := 493) (dq dM_want 189 rfl) (by decide) (fun c => ?_) (fun c => ?_)
            · have h := q_f c h
              refine zi_aload_n 2 (dq dM_want 259 rfl) rfl ?_
              refine ri_getr (zLs hL 0 rfl) (zLr hL 10 rfl) fM_41 (dq dM_want 260 rfl) ?_
              refine zi_iload 0 (dq dM_want 261 rfl) rfl ?_
              obtain ⟨c9, h⟩ := q_k h
              refine ri_zald (zLs hL 11 rfl) (by decide) rfl c9 (dq dM_want 262 rfl) ?_
              refine zi_if_eq (tgt := 531) (dq dM_want 263 rfl) (by decide) (fun c => ?_) (fun c => ?_)
              · have h := q_t c h
                refine zi_aload_n 2 (dq dM_want 279 rfl) rfl ?_
                obtain ⟨v10, J11, hv10, h⟩ := q_b h
                refine zi_cVv0 (SM_align hL hv10 (d := d - 1) (by omega)) wM_align aM_320 iM_align sM_align (by omega) (zLs hL 0 rfl) rfl (Nat.le_of_ble_eq_true rfl) (dq dM_want 280 rfl) (fun _ hh => ?_)
                subst hh
                refine zi_aload_n 2 (dq dM_want 281 rfl) rfl ?_
                refine zi_bipush (v := 8) (dq dM_want 282 rfl) (by decide) ?_
                obtain ⟨v12, J13, hv12, h⟩ := q_b h
                refine zi_cVi1 (SM_some hL hv12 (d := d - 1) (by omega)) wM_some aM_326 iM_some sM_some (by omega) (zLs hL 0 rfl) rfl (Nat.le_of_ble_eq_true rfl) (dq dM_want 283 rfl) (fun _ _ hh => ?_)
                obtain ⟨rfl, rfl⟩ := hh
                refine zi_istC (lv' := [(9, _), (8, _), (7, _), (0, _), (4, _), (5, _), (6, _)]) (dq dM_want 284 rfl) (by decide) (by simp [z_cr, z_ci]) rfl ?_
                refine zi_iload 0 (dq dM_want 285 rfl) rfl ?_
                refine zi_iconst (v := 1) (dq dM_want 286 rfl) (by decide) ?_
                refine zi_iconst (v := 4) (dq dM_want 287 rfl) (by decide) ?_
                obtain ⟨v14, hv14, h⟩ := q_c h
                refine zi_cSi3 (SM_in  hv14 (d := d - 1) (by omega)) wM_in aM_166 tM_in (by omega) (Nat.le_of_ble_eq_true rfl) (dq dM_want 288 rfl) (fun _ _ hh => ?_)
                obtain ⟨rfl, rfl⟩ := hh
                refine zi_if_eq (tgt := 573) (dq dM_want 289 rfl) (by decide) (fun c => ?_) (fun c => ?_)
                · have h := q_t c h
                  refine zi_aload_n 3 (dq dM_want 301 rfl) rfl ?_
                  refine zi_iconst (v := 0) (dq dM_want 302 rfl) (by decide) ?_
                  refine ri_puti (zLs hL 0 rfl) (by decide) fM_236 (fun h => by cases h) (by decide) (by decide) (dq dM_want 303 rfl) ?_
                  exact zG_lv (zs_c 3 rfl (zs_c 2 rfl (zs_c 0 rfl zs_n))) (SM_want_578 hL h hd )
                · have h := q_f c h
                  refine zi_aload_n 3 (dq dM_want 290 rfl) rfl ?_
                  refine ri_geti (zLs hL 0 rfl) (by decide) fM_245 (dq dM_want 291 rfl) ?_
                  refine zi_bipush (v := 8) (dq dM_want 292 rfl) (by decide) ?_
                  refine zi_iload 0 (dq dM_want 293 rfl) rfl ?_
                  refine zi_imul (dq dM_want 294 rfl) ?_
                  refine zi_iadd (dq dM_want 295 rfl) ?_
                  refine zi_bipush (v := 8) (dq dM_want 296 rfl) (by decide) ?_
                  refine zi_aload_n 3 (dq dM_want 297 rfl) rfl ?_
                  refine ri_geti (zLs hL 0 rfl) (by decide) fM_261 (dq dM_want 298 rfl) ?_
                  refine zi_imul (dq dM_want 299 rfl) ?_
                  refine zi_icmp_le (tgt := 578) (dq dM_want 300 rfl) (by decide) (fun c => ?_) (fun c => ?_)
                  · have h := q_t c h
                    exact zG_lv (zs_c 3 rfl (zs_c 2 rfl (zs_c 0 rfl zs_n))) (SM_want_578 hL h hd )
                  · have h := q_f c h
                    refine zi_aload_n 3 (dq dM_want 301 rfl) rfl ?_
                    refine zi_iconst (v := 0) (dq dM_want 302 rfl) (by decide) ?_
                    refine ri_puti (zLs hL 0 rfl) (by decide) fM_236 (fun h => by cases h) (by decide) (by decide) (dq dM_want 303 rfl) ?_
                    exact zG_lv (zs_c 3 rfl (zs_c 2 rfl (zs_c 0 rfl zs_n))) (SM_want_578 hL h hd )
              · have h := q_f c h
                refine zi_aload_n 2 (dq dM_want 264 rfl) rfl ?_
                refine ri_getr (zLs hL 0 rfl) (zLr hL 21 rfl) fM_75 (dq dM_want 265 rfl) ?_
                refine zi_iload 1 (dq dM_want 266 rfl) rfl ?_
                refine zi_aload_n 2 (dq dM_want 267 rfl) rfl ?_
                refine zi_aload_n 2 (dq dM_want 268 rfl) rfl ?_
                refine ri_getr (zLs hL 0 rfl) (zLr hL 4 rfl) fM_23 (dq dM_want 269 rfl) ?_
                refine zi_iload 0 (dq dM_want 270 rfl) rfl ?_
                obtain ⟨c17, h⟩ := q_k h
                refine ri_iald (zLs hL 5 rfl) (by decide) rfl c17 (dq dM_want 271 rfl) ?_
                refine zi_aload_n 2 (dq dM_want 272 rfl) rfl ?_
                refine ri_getr (zLs hL 0 rfl) (zLr hL 5 rfl) fM_26 (dq dM_want 273 rfl) ?_
                refine zi_iload 0 (dq dM_want 274 rfl) rfl ?_
                obtain ⟨c18, h⟩ := q_k h
                refine ri_iald (zLs hL 6 rfl) (by decide) rfl c18 (dq dM_want 275 rfl) ?_
                obtain ⟨v19, J20, hv19, h⟩ := q_b h
                refine zi_cVi2 (SM_ranging hL hv19 (d := d - 1) (by omega)) wM_ranging aM_329 iM_ranging sM_ranging (by omega) (zLs hL 0 rfl) rfl (Nat.le_of_ble_eq_true rfl) (dq dM_want 276 rfl) (fun _ _ hh => ?_)
                obtain ⟨rfl, rfl⟩ := hh
                obtain ⟨c21, h⟩ := q_k h
                refine ri_iast (zLs hL 22 rfl) (by decide) rfl c21 (dq dM_want 277 rfl) ?_
                refine zi_goto (tgt := 623) (dq dM_want 278 rfl) (by decide) ?_
                exact zi_return rfl (dq dM_want 330 rfl) (q_ru h)
            · have h := q_t c h
              exact zG_lv (zs_c 2 rfl (zs_c 1 rfl (zs_c 0 rfl zs_n))) (SM_want_367 hL h hd )
        · have h := q_t c h
          refine zi_aload_n 2 (dq dM_want 106 rfl) rfl ?_
          refine ri_getr (zLs hL 0 rfl) (zLr hL 21 rfl) fM_75 (dq dM_want 107 rfl) ?_
          refine zi_iload 1 (dq dM_want 108 rfl) rfl ?_
          refine zi_aload_n 2 (dq dM_want 109 rfl) rfl ?_
          refine zi_iload 0 (dq dM_want 110 rfl) rfl ?_
          obtain ⟨v23, J24, hv23, h⟩ := q_b h
          refine zi_cVi1 (SM_counted hL hv23 (d := d - 1) (by omega)) wM_counted aM_335 iM_counted sM_counted (by omega) (zLs hL 0 rfl) rfl (Nat.le_of_ble_eq_true rfl) (dq dM_want 111 rfl) (fun _ _ hh => ?_)
          obtain ⟨rfl, rfl⟩ := hh
          obtain ⟨c25, h⟩ := q_k h
          refine ri_iast (zLs hL 22 rfl) (by decide) rfl c25 (dq dM_want 112 rfl) ?_
          refine zi_aload_n 2 (dq dM_want 113 rfl) rfl ?_
          refine ri_getr (zLs hL 0 rfl) (zLr hL 10 rfl) fM_41 (dq dM_want 114 rfl) ?_
          refine zi_iload 0 (dq dM_want 115 rfl) rfl ?_
          obtain ⟨c27, h⟩ := q_k h
          refine ri_zald (zLs hL 11 rfl) (by decide) rfl c27 (dq dM_want 116 rfl) ?_
          refine zi_if_eq (tgt := 267) (dq dM_want 117 rfl) (by decide) (fun c => ?_) (fun c => ?_)
          · have h := q_t c h
            refine zi_iconst (v := 0) (dq dM_want 140 rfl) (by decide) ?_
            refine zi_istC (lv' := [(9, _), (8, _), (7, _), (0, _), (4, _), (5, _), (6, _)]) (dq dM_want 141 rfl) (by decide) (by simp [z_cr, z_ci]) rfl ?_
            exact zG_lv (zs_c 3 rfl (zs_c 2 rfl (zs_c 0 rfl zs_n))) (SM_want_270 hL hd  _ _ h)
          · have h := q_f c h
            refine zi_aload_n 2 (dq dM_want 118 rfl) rfl ?_
            refine ri_getr (zLs hL 0 rfl) (zLr hL 21 rfl) fM_75 (dq dM_want 119 rfl) ?_
            refine zi_iload 1 (dq dM_want 120 rfl) rfl ?_
            obtain ⟨c28, h⟩ := q_k h
            refine ri_iald (zLs hL 22 rfl) (by decide) rfl c28 (dq dM_want 121 rfl) ?_
            refine zi_if_le (tgt := 267) (dq dM_want 122 rfl) (by decide) (fun c => ?_) (fun c => ?_)
            · have h := q_t c h
              refine zi_iconst (v := 0) (dq dM_want 140 rfl) (by decide) ?_
              refine zi_istC (lv' := [(9, _), (8, _), (7, _), (0, _), (4, _), (5, _), (6, _)]) (dq dM_want 141 rfl) (by decide) (by simp [z_cr, z_ci]) rfl ?_
              exact zG_lv (zs_c 3 rfl (zs_c 2 rfl (zs_c 0 rfl zs_n))) (SM_want_270 hL hd  _ _ h)
            · have h := q_f c h
              refine zi_aload_n 2 (dq dM_want 123 rfl) rfl ?_
              refine ri_getr (zLs hL 0 rfl) (zLr hL 4 rfl) fM_23 (dq dM_want 124 rfl) ?_
              refine zi_iload 0 (dq dM_want 125 rfl) rfl ?_
              obtain ⟨c29, h⟩ := q_k h
              refine ri_iald (zLs hL 5 rfl) (by decide) rfl c29 (dq dM_want 126 rfl) ?_
              refine zi_aload_n 2 (dq dM_want 127 rfl) rfl ?_
              refine ri_getr (zLs hL 0 rfl) (zLr hL 5 rfl) fM_26 (dq dM_want 128 rfl) ?_
              refine zi_iload 0 (dq dM_want 129 rfl) rfl ?_
              obtain ⟨c30, h⟩ := q_k h
              refine ri_iald (zLs hL 6 rfl) (by decide) rfl c30 (dq dM_want 130 rfl) ?_
              refine zi_icmp_ne (tgt := 263) (dq dM_want 131 rfl) (by decide) (fun c => ?_) (fun c => ?_)
              · have h := q_f c h
                exact zG_lv (zs_c 2 rfl (zs_c 1 rfl zs_n)) (SM_want_263 hL h hd )
              · have h := q_t c h
                refine zi_aload_n 2 (dq dM_want 132 rfl) rfl ?_
                refine ri_getr (zLs hL 0 rfl) (zLr hL 5 rfl) fM_26 (dq dM_want 133 rfl) ?_
                refine zi_iload 0 (dq dM_want 134 rfl) rfl ?_
                obtain ⟨c31, h⟩ := q_k h
                refine ri_iald (zLs hL 6 rfl) (by decide) rfl c31 (dq dM_want 135 rfl) ?_
                refine zi_iconst (v := 2) (dq dM_want 136 rfl) (by decide) ?_
                refine zi_icmp_le (tgt := 267) (dq dM_want 137 rfl) (by decide) (fun c => ?_) (fun c => ?_)
                · have h := q_t c h
                  refine zi_iconst (v := 0) (dq dM_want 140 rfl) (by decide) ?_
                  refine zi_istC (lv' := [(9, _), (8, _), (7, _), (0, _), (4, _), (5, _), (6, _)]) (dq dM_want 141 rfl) (by decide) (by simp [z_cr, z_ci]) rfl ?_
                  exact zG_lv (zs_c 3 rfl (zs_c 2 rfl (zs_c 0 rfl zs_n))) (SM_want_270 hL hd  _ _ h)
                · have h := q_f c h
                  exact zG_lv (zs_c 2 rfl (zs_c 1 rfl zs_n)) (SM_want_263 hL h hd )
      · have h := q_t c h
        refine zi_aload_n 2 (dq dM_want 93 rfl) rfl ?_
        refine ri_getr (zLs hL 0 rfl) (zLr hL 21 rfl) fM_75 (dq dM_want 94 rfl) ?_
        refine zi_iload 1 (dq dM_want 95 rfl) rfl ?_
        refine zi_aload_n 2 (dq dM_want 96 rfl) rfl ?_
        obtain ⟨v32, J33, hv32, h⟩ := q_b h
        refine zi_cVi0 (SM_bit hL hv32 (d := d - 1) (by omega)) wM_bit aM_317 iM_bit sM_bit (by omega) (zLs hL 0 rfl) rfl (Nat.le_of_ble_eq_true rfl) (dq dM_want 97 rfl) (fun _ _ hh => ?_)
        obtain ⟨rfl, rfl⟩ := hh
        obtain ⟨c34, h⟩ := q_k h
        refine ri_iast (zLs hL 22 rfl) (by decide) rfl c34 (dq dM_want 98 rfl) ?_
        refine zi_goto (tgt := 623) (dq dM_want 99 rfl) (by decide) ?_
        exact zi_return rfl (dq dM_want 330 rfl) (q_ru h)
    · have h := q_t c h
      exact zi_return rfl (dq dM_want 86 rfl) (q_ru h)
def FM_want_85 (N : Nat) (K15 : (Int32 × Int32 × Int32 × zJ) → Option (Unit × zJ)) (l4 : Int32) (l5 : Int32) (l6 : Int32) (l8 : Int32) (J : zJ) : Option (Unit × zJ) :=
  qb (FM_adds N l4 l5 l6 l8 J) fun v1 J2 =>
  qk (qi ((6 * (J2 0 23)) + l8) 960) <|
  let y4 := J2 13 ((6 * (J2 0 23)) + l8).toNatClampNeg
  qb (FM_unwrap N y4 J2) fun v5 J6 =>
  K15 (y4, v1, 0, J6)
theorem SM_want_85 {g : zg} {d N : Nat} {M0 : zM} {A : Nat} {r : Unit} {J1 : zJ} {J : zJ} {K15 : (Int32 × Int32 × Int32 × zJ) → Option (Unit × zJ)} {l4 : Int32} {l5 : Int32} {l6 : Int32} {l8 : Int32} (hL : zLy M0 A mShL mRf) (h : FM_want_85 N K15 l4 l5 l6 l8 J = some (r, J1)) (hd : 4 ≤ d) (hK15 : ∀ s, K15 s = some (r, J1) → zG g d mM_want (zPq (rU r) (zmm M0 A 40 J1)) (zmm M0 A 40 s.2.2.2) 15 [(0, va_rf (some (A + 0))), (4, .int s.1), (5, .int s.2.1), (6, .int s.2.2.1)] []) : zG g d mM_want (zPq (rU r) (zmm M0 A 40 J1)) (zmm M0 A 40 J) 85 [(0, va_rf (some (A + 0))), (4, .int l4), (5, .int l5), (6, .int l6), (8, .int l8)] [] := by
  unfold FM_want_85 at h
  refine zi_aload_n 0 (dq dM_want 44 rfl) rfl ?_
  refine zi_iload 1 (dq dM_want 45 rfl) rfl ?_
  refine zi_iload 2 (dq dM_want 46 rfl) rfl ?_
  refine zi_iload 3 (dq dM_want 47 rfl) rfl ?_
  refine zi_iload 4 (dq dM_want 48 rfl) rfl ?_
  obtain ⟨v1, J2, hv1, h⟩ := q_b h
  refine zi_cVi4 (SM_adds hL hv1 (d := d - 1) (by omega)) wM_adds aM_293 iM_adds sM_adds (by omega) (zLs hL 0 rfl) rfl (Nat.le_of_ble_eq_true rfl) (dq dM_want 49 rfl) (fun _ _ hh => ?_)
  obtain ⟨rfl, rfl⟩ := hh
  refine zi_istC (lv' := [(5, _), (0, _), (4, _), (6, _), (8, _)]) (dq dM_want 50 rfl) (by decide) (by simp [z_cr, z_ci]) rfl ?_
  refine zi_iconst (v := 0) (dq dM_want 51 rfl) (by decide) ?_
  refine zi_istC (lv' := [(6, _), (5, _), (0, _), (4, _), (8, _)]) (dq dM_want 52 rfl) (by decide) (by simp [z_cr, z_ci]) rfl ?_
  refine zi_aload_n 2 (dq dM_want 53 rfl) rfl ?_
  refine ri_getr (zLs hL 0 rfl) (zLr hL 12 rfl) fM_48 (dq dM_want 54 rfl) ?_
  refine zi_bipush (v := 6) (dq dM_want 55 rfl) (by decide) ?_
  refine zi_aload_n 2 (dq dM_want 56 rfl) rfl ?_
  refine ri_geti (zLs hL 0 rfl) (by decide) fM_222 (dq dM_want 57 rfl) ?_
  refine zi_imul (dq dM_want 58 rfl) ?_
  refine zi_iload 4 (dq dM_want 59 rfl) rfl ?_
  refine zi_iadd (dq dM_want 60 rfl) ?_
  obtain ⟨c3, h⟩ := q_k h
  refine ri_iald (zLs hL 13 rfl) (by decide) rfl c3 (dq dM_want 61 rfl) ?_
  refine zi_istC (lv' := [(4, _), (6, _), (5, _), (0, _), (8, _)]) (dq dM_want 62 rfl) (by decide) (by simp [z_cr, z_ci]) rfl ?_
  refine zi_aload_n 3 (dq dM_want 63 rfl) rfl ?_
  refine zi_iload 0 (dq dM_want 64 rfl) rfl ?_
  obtain ⟨v5, J6, hv5, h⟩ := q_b h
  refine zi_cVv1 (SM_unwrap hL hv5 (d := d - 1) (by omega)) wM_unwrap aM_218 iM_unwrap sM_unwrap (by omega) (zLs hL 0 rfl) rfl (Nat.le_of_ble_eq_true rfl) (dq dM_want 65 rfl) (fun _ hh => ?_)
  subst hh
  refine zi_goto (tgt := 15) (dq dM_want 66 rfl) (by decide) ?_
  exact zG_lv (zs_c 3 rfl (zs_c 0 rfl (zs_c 2 rfl (zs_c 1 rfl zs_n)))) (hK15 _ h)
def FM_want_57 (N : Nat) (K15 : (Int32 × Int32 × Int32 × zJ) → Option (Unit × zJ)) (l4 : Int32) (l5 : Int32) (l6 : Int32) (l7 : Int32) (K57 : (Int32 × zJ) → Option (Unit × zJ)) (s : Int32 × zJ) : Option (Unit × zJ) :=
  let l8 := s.1
  let J := s.2
  if (J 0 49) = 0 then
    FM_want_85 N K15 l4 l5 l6 l8 J
  else
    qb (FM_rank N (J 0 23) l8 J) fun v1 J2 =>
    if v1 = l7 then
      FM_want_85 N K15 l4 l5 l6 l8 J2
    else
      let y3 := l8 + (1)
      K57 (y3, J2)
theorem SM_want_57 {g : zg} {d N : Nat} {M0 : zM} {A : Nat} {r : Unit} {J1 : zJ} {K15 : (Int32 × Int32 × Int32 × zJ) → Option (Unit × zJ)} {l4 : Int32} {l5 : Int32} {l6 : Int32} {l7 : Int32} (hL : zLy M0 A mShL mRf) (hd : 4 ≤ d) (hK15 : ∀ s, K15 s = some (r, J1) → zG g d mM_want (zPq (rU r) (zmm M0 A 40 J1)) (zmm M0 A 40 s.2.2.2) 15 [(0, va_rf (some (A + 0))), (4, .int s.1), (5, .int s.2.1), (6, .int s.2.2.1)] []) : ∀ n s, qfix (FM_want_57 N K15 l4 l5 l6 l7) n s = some (r, J1) → zG g d mM_want (zPq (rU r) (zmm M0 A 40 J1)) (zmm M0 A 40 s.2) 57 [(0, va_rf (some (A + 0))), (4, .int l4), (5, .int l5), (6, .int l6), (7, .int l7), (8, .int s.1)] [] := by
  refine qfix_sound (fun K57 hK57 s h => ?_)
  unfold FM_want_57 at h
  refine zi_aload_n 0 (dq dM_want 32 rfl) rfl ?_
  refine ri_geti (zLs hL 0 rfl) (by decide) fM_236 (dq dM_want 33 rfl) ?_
  refine zi_if_eq (tgt := 85) (dq dM_want 34 rfl) (by decide) (fun c => ?_) (fun c => ?_)
  · have h := q_t c h
    exact zG_lv (zs_c 0 rfl (zs_c 1 rfl (zs_c 2 rfl (zs_c 3 rfl (zs_c 5 rfl zs_n))))) (SM_want_85 hL h hd hK15)
  · have h := q_f c h
    refine zi_aload_n 0 (dq dM_want 35 rfl) rfl ?_
    refine zi_aload_n 0 (dq dM_want 36 rfl) rfl ?_
    refine ri_geti (zLs hL 0 rfl) (by decide) fM_222 (dq dM_want 37 rfl) ?_
    refine zi_iload 5 (dq dM_want 38 rfl) rfl ?_
    obtain ⟨v1, J2, hv1, h⟩ := q_b h
    refine zi_cVi2 (SM_rank hL hv1 (d := d - 1) (by omega)) wM_rank aM_332 iM_rank sM_rank (by omega) (zLs hL 0 rfl) rfl (Nat.le_of_ble_eq_true rfl) (dq dM_want 39 rfl) (fun _ _ hh => ?_)
    obtain ⟨rfl, rfl⟩ := hh
    refine zi_iload 4 (dq dM_want 40 rfl) rfl ?_
    refine zi_icmp_eq (tgt := 85) (dq dM_want 41 rfl) (by decide) (fun c => ?_) (fun c => ?_)
    · have h := q_t c h
      exact zG_lv (zs_c 0 rfl (zs_c 1 rfl (zs_c 2 rfl (zs_c 3 rfl (zs_c 5 rfl zs_n))))) (SM_want_85 hL h hd hK15)
    · have h := q_f c h
      refine zi_iincC (v := _ + (1)) (lv' := [(8, _), (0, _), (4, _), (5, _), (6, _), (7, _)]) 5 (dq dM_want 42 rfl) rfl rfl (by decide) (by simp [z_cr, z_ci]) rfl ?_
      refine zi_goto (tgt := 57) (dq dM_want 43 rfl) (by decide) ?_
      exact zG_lv (zs_c 1 rfl (zs_c 2 rfl (zs_c 3 rfl (zs_c 4 rfl (zs_c 5 rfl (zs_c 0 rfl zs_n)))))) (hK57 _ h)
def FM_want_15 (N : Nat) (K15 : (Int32 × Int32 × Int32 × zJ) → Option (Unit × zJ)) (s : Int32 × Int32 × Int32 × zJ) : Option (Unit × zJ) :=
  let l4 := s.1
  let l5 := s.2.1
  let l6 := s.2.2.1
  let J := s.2.2.2
  if (J 0 49) = 0 then
    FM_want_128 N l4 l5 l6 J
  else
    qk (qi (J 0 23) 160) <|
    if (J 4 (J 0 23).toNatClampNeg) = 9 then
      qk (qi (J 0 23) 160) <|
      qb (FM_ranging N 0 ((J 8 (J 0 23).toNatClampNeg) - 1) J) fun v3 J4 =>
      qfix (FM_want_57 N K15 l4 l5 l6 v3) N (0, J4)
    else
      FM_want_128 N l4 l5 l6 J
theorem SM_want_15 {g : zg} {d N : Nat} {M0 : zM} {A : Nat} {r : Unit} {J1 : zJ}   (hL : zLy M0 A mShL mRf) (hd : 4 ≤ d)  : ∀ n s, qfix (FM_want_15 N) n s = some (r, J1) → zG g d mM_want (zPq (rU r) (zmm M0 A 40 J1)) (zmm M0 A 40 s.2.2.2) 15 [(0, va_rf (some (A + 0))), (4, .int s.1), (5, .int s.2.1), (6, .int s.2.2.1)] [] := by
  refine qfix_sound (fun K15 hK15 s h => ?_)
  unfold FM_want_15 at h
  refine zi_aload_n 0 (dq dM_want 9 rfl) rfl ?_
  refine ri_geti (zLs hL 0 rfl) (by decide) fM_236 (dq dM_want 10 rfl) ?_
  refine zi_if_eq (tgt := 128) (dq dM_want 11 rfl) (by decide) (fun c => ?_) (fun c => ?_)
  · have h := q_t c h
    exact zG_lv (zs_c 0 rfl (zs_c 1 rfl (zs_c 2 rfl (zs_c 3 rfl zs_n)))) (SM_want_128 hL h hd )
  · have h := q_f c h
    refine zi_aload_n 0 (dq dM_want 12 rfl) rfl ?_
    refine ri_getr (zLs hL 0 rfl) (zLr hL 3 rfl) fM_20 (dq dM_want 13 rfl) ?_
    refine zi_aload_n 0 (dq dM_want 14 rfl) rfl ?_
    refine ri_geti (zLs hL 0 rfl) (by decide) fM_222 (dq dM_want 15 rfl) ?_
    obtain ⟨c1, h⟩ := q_k h
    refine ri_iald (zLs hL 4 rfl) (by decide) rfl c1 (dq dM_want 16 rfl) ?_
    refine zi_bipush (v := 9) (dq dM_want 17 rfl) (by decide) ?_
    refine zi_icmp_ne (tgt := 128) (dq dM_want 18 rfl) (by decide) (fun c => ?_) (fun c => ?_)
    · have h := q_f c h
      exact zG_lv (zs_c 0 rfl (zs_c 1 rfl (zs_c 2 rfl (zs_c 3 rfl zs_n)))) (SM_want_128 hL h hd )
    · have h := q_t c h
      refine zi_aload_n 0 (dq dM_want 19 rfl) rfl ?_
      refine zi_iconst (v := 0) (dq dM_want 20 rfl) (by decide) ?_
      refine zi_aload_n 0 (dq dM_want 21 rfl) rfl ?_
      refine ri_getr (zLs hL 0 rfl) (zLr hL 7 rfl) fM_32 (dq dM_want 22 rfl) ?_
      refine zi_aload_n 0 (dq dM_want 23 rfl) rfl ?_
      refine ri_geti (zLs hL 0 rfl) (by decide) fM_222 (dq dM_want 24 rfl) ?_
      obtain ⟨c2, h⟩ := q_k h
      refine ri_iald (zLs hL 8 rfl) (by decide) rfl c2 (dq dM_want 25 rfl) ?_
      refine zi_iconst (v := 1) (dq dM_want 26 rfl) (by decide) ?_
      refine zi_isub (dq dM_want 27 rfl) ?_
      obtain ⟨v3, J4, hv3, h⟩ := q_b h
      refine zi_cVi2 (SM_ranging hL hv3 (d := d - 1) (by omega)) wM_ranging aM_329 iM_ranging sM_ranging (by omega) (zLs hL 0 rfl) rfl (Nat.le_of_ble_eq_true rfl) (dq dM_want 28 rfl) (fun _ _ hh => ?_)
      obtain ⟨rfl, rfl⟩ := hh
      refine zi_istC (lv' := [(7, _), (0, _), (4, _), (5, _), (6, _)]) (dq dM_want 29 rfl) (by decide) (by simp [z_cr, z_ci]) rfl ?_
      refine zi_iconst (v := 0) (dq dM_want 30 rfl) (by decide) ?_
      refine zi_istC (lv' := [(8, _), (7, _), (0, _), (4, _), (5, _), (6, _)]) (dq dM_want 31 rfl) (by decide) (by simp [z_cr, z_ci]) rfl ?_
      exact zG_lv (zs_c 2 rfl (zs_c 3 rfl (zs_c 4 rfl (zs_c 5 rfl (zs_c 1 rfl (zs_c 0 rfl zs_n)))))) (SM_want_57 hL hd hK15 _ _ h)
def FM_want (N : Nat) (l1 : Int32) (l2 : Int32) (l3 : Int32) (J : zJ) : Option (Unit × zJ) :=
  qb (FM_unwrap N l1 J) fun v1 J2 =>
  qfix (FM_want_15 N) N (l1, l2, l3, J2)
theorem SM_want {g : zg} {d N : Nat} {M0 : zM} {A : Nat} {r : Unit} {J1 : zJ} {J : zJ} {l1 : Int32} {l2 : Int32} {l3 : Int32} (hL : zLy M0 A mShL mRf) (h : FM_want N l1 l2 l3 J = some (r, J1)) (hd : 4 ≤ d) : zEv g d mM_want [va_rf (some (A + 0)), .int l1, .int l2, .int l3] (zmm M0 A 40 J) (fun Mq => Mq = zmm M0 A 40 J1) := by
  unfold FM_want at h
  refine zEu_q (r := r) (lv := [(0, va_rf (some (A + 0))), (1, .int l1), (2, .int l2), (3, .int l3)]) ⟨by decide +kernel, by decide, by decide +kernel⟩ (by simp [z_cr, z_ci]) (Nat.le_of_ble_eq_true rfl) rfl ?_
  refine zi_iload_n 1 (dq dM_want 0 rfl) rfl ?_
  refine zi_istC (lv' := [(4, _), (0, _), (1, _), (2, _), (3, _)]) (dq dM_want 1 rfl) (by decide) (by simp [z_cr, z_ci]) rfl ?_
  refine zi_iload_n 3 (dq dM_want 2 rfl) rfl ?_
  refine zi_istC (lv' := [(5, _), (4, _), (0, _), (1, _), (2, _), (3, _)]) (dq dM_want 3 rfl) (by decide) (by simp [z_cr, z_ci]) rfl ?_
  refine zi_iload_n 5 (dq dM_want 4 rfl) rfl ?_
  refine zi_istC (lv' := [(6, _), (5, _), (4, _), (0, _), (1, _), (2, _), (3, _)]) (dq dM_want 5 rfl) (by decide) (by simp [z_cr, z_ci]) rfl ?_
  refine zi_aload_n 3 (dq dM_want 6 rfl) rfl ?_
  refine zi_iload 2 (dq dM_want 7 rfl) rfl ?_
  obtain ⟨v1, J2, hv1, h⟩ := q_b h
  refine zi_cVv1 (SM_unwrap hL hv1 (d := d - 1) (by omega)) wM_unwrap aM_218 iM_unwrap sM_unwrap (by omega) (zLs hL 0 rfl) rfl (Nat.le_of_ble_eq_true rfl) (dq dM_want 8 rfl) (fun _ hh => ?_)
  subst hh
  exact zG_lv (zs_c 3 rfl (zs_c 2 rfl (zs_c 1 rfl (zs_c 0 rfl zs_n)))) (SM_want_15 hL hd  _ _ h)
def FM_goOnPacked_66 (N : Nat) (l1 : Int32) (l2 : Int32) (l3 : Int32) (l4 : Int32) (t0 : Int32) (t1 : Int32) (J : zJ) : Option (Unit × zJ) :=
  if t0 = t1 then
    let J15 := zu J 0 48 ((J 0 48) - 1)
    some ((), J15)
  else
    qk (qi l3 160) <|
    if (J 4 l3.toNatClampNeg) = 6 then
      qk (qi l1 160) <|
      qk (qi l3 160) <|
      if (((J 34 l1.toNatClampNeg) >>> ((((J 8 l3.toNatClampNeg) - 1) - l4) &&& 31)) &&& 1) = 0 then
        qb (FM_absent N l2 l3 l4 J) fun v10 J11 =>
        some ((), J11)
      else
        qk (qi l2 100) <|
        qk (qi l2 100) <|
        let J6 := zu J 22 l2.toNatClampNeg ((J 22 l2.toNatClampNeg) + 1)
        qk (qi ((6 * l3) + l4) 960) <|
        qb (FM_want N (J6 13 ((6 * l3) + l4).toNatClampNeg) l2 l4 J6) fun v8 J9 =>
        some ((), J9)
    else
      qk (qi (6 * l3) 960) <|
      qb (FM_want N (J 13 (6 * l3).toNatClampNeg) l2 l4 J) fun v13 J14 =>
      some ((), J14)
theorem SM_goOnPacked_66 {g : zg} {d N : Nat} {M0 : zM} {A : Nat} {r : Unit} {J1 : zJ} {J : zJ}  {l1 : Int32} {l2 : Int32} {l3 : Int32} {l4 : Int32} {t0 : Int32} {t1 : Int32} (hL : zLy M0 A mShL mRf) (h : FM_goOnPacked_66 N l1 l2 l3 l4 t0 t1 J = some (r, J1)) (hd : 5 ≤ d)  : zG g d mM_goOnPacked (zPq (rU r) (zmm M0 A 40 J1)) (zmm M0 A 40 J) 66 [(0, va_rf (some (A + 0))), (1, .int l1), (2, .int l2), (3, .int l3), (4, .int l4)] [.int t1, .int t0] := by
  unfold FM_goOnPacked_66 at h
  refine zi_icmp_ne (tgt := 82) (dq dM_goOnPacked 43 rfl) (by decide) (fun c => ?_) (fun c => ?_)
  · have h := q_f c h
    refine zi_aload_n 0 (dq dM_goOnPacked 51 rfl) rfl ?_
    refine ri_getr (zLs hL 0 rfl) (zLr hL 3 rfl) fM_20 (dq dM_goOnPacked 52 rfl) ?_
    refine zi_iload_n 3 (dq dM_goOnPacked 53 rfl) rfl ?_
    obtain ⟨c1, h⟩ := q_k h
    refine ri_iald (zLs hL 4 rfl) (by decide) rfl c1 (dq dM_goOnPacked 54 rfl) ?_
    refine zi_bipush (v := 6) (dq dM_goOnPacked 55 rfl) (by decide) ?_
    refine zi_icmp_eq (tgt := 112) (dq dM_goOnPacked 56 rfl) (by decide) (fun c => ?_) (fun c => ?_)
    · have h := q_t c h
      refine zi_aload_n 0 (dq dM_goOnPacked 68 rfl) rfl ?_
      refine ri_getr (zLs hL 0 rfl) (zLr hL 33 rfl) fM_111 (dq dM_goOnPacked 69 rfl) ?_
      refine zi_iload_n 1 (dq dM_goOnPacked 70 rfl) rfl ?_
      obtain ⟨c2, h⟩ := q_k h
      refine ri_iald (zLs hL 34 rfl) (by decide) rfl c2 (dq dM_goOnPacked 71 rfl) ?_
      refine zi_aload_n 0 (dq dM_goOnPacked 72 rfl) rfl ?_
      refine ri_getr (zLs hL 0 rfl) (zLr hL 7 rfl) fM_32 (dq dM_goOnPacked 73 rfl) ?_
      refine zi_iload_n 3 (dq dM_goOnPacked 74 rfl) rfl ?_
      obtain ⟨c3, h⟩ := q_k h
      refine ri_iald (zLs hL 8 rfl) (by decide) rfl c3 (dq dM_goOnPacked 75 rfl) ?_
      refine zi_iconst (v := 1) (dq dM_goOnPacked 76 rfl) (by decide) ?_
      refine zi_isub (dq dM_goOnPacked 77 rfl) ?_
      refine zi_iload 4 (dq dM_goOnPacked 78 rfl) rfl ?_
      refine zi_isub (dq dM_goOnPacked 79 rfl) ?_
      refine zi_ishr (dq dM_goOnPacked 80 rfl) ?_
      refine zi_iconst (v := 1) (dq dM_goOnPacked 81 rfl) (by decide) ?_
      refine zi_iand (dq dM_goOnPacked 82 rfl) ?_
      refine zi_if_ne (tgt := 146) (dq dM_goOnPacked 83 rfl) (by decide) (fun c => ?_) (fun c => ?_)
      · have h := q_f c h
        refine zi_aload_n 0 (dq dM_goOnPacked 90 rfl) rfl ?_
        refine ri_getr (zLs hL 0 rfl) (zLr hL 21 rfl) fM_75 (dq dM_goOnPacked 91 rfl) ?_
        refine zi_iload_n 2 (dq dM_goOnPacked 92 rfl) rfl ?_
        refine zi_dup2 (dq dM_goOnPacked 93 rfl) (by first | rfl | exact z_cr _) (by first | rfl | exact z_cr _) ?_
        obtain ⟨c4, h⟩ := q_k h
        refine ri_iald (zLs hL 22 rfl) (by decide) rfl c4 (dq dM_goOnPacked 94 rfl) ?_
        refine zi_iconst (v := 1) (dq dM_goOnPacked 95 rfl) (by decide) ?_
        refine zi_iadd (dq dM_goOnPacked 96 rfl) ?_
        obtain ⟨c5, h⟩ := q_k h
        refine ri_iast (zLs hL 22 rfl) (by decide) rfl c5 (dq dM_goOnPacked 97 rfl) ?_
        refine zi_aload_n 0 (dq dM_goOnPacked 98 rfl) rfl ?_
        refine zi_aload_n 0 (dq dM_goOnPacked 99 rfl) rfl ?_
        refine ri_getr (zLs hL 0 rfl) (zLr hL 12 rfl) fM_48 (dq dM_goOnPacked 100 rfl) ?_
        refine zi_bipush (v := 6) (dq dM_goOnPacked 101 rfl) (by decide) ?_
        refine zi_iload_n 3 (dq dM_goOnPacked 102 rfl) rfl ?_
        refine zi_imul (dq dM_goOnPacked 103 rfl) ?_
        refine zi_iload 4 (dq dM_goOnPacked 104 rfl) rfl ?_
        refine zi_iadd (dq dM_goOnPacked 105 rfl) ?_
        obtain ⟨c7, h⟩ := q_k h
        refine ri_iald (zLs hL 13 rfl) (by decide) rfl c7 (dq dM_goOnPacked 106 rfl) ?_
        refine zi_iload_n 2 (dq dM_goOnPacked 107 rfl) rfl ?_
        refine zi_iload 4 (dq dM_goOnPacked 108 rfl) rfl ?_
        obtain ⟨v8, J9, hv8, h⟩ := q_b h
        refine zi_cVv3 (SM_want hL hv8 (d := d - 1) (by omega)) wM_want aM_252 iM_want sM_want (by omega) (zLs hL 0 rfl) rfl (Nat.le_of_ble_eq_true rfl) (dq dM_goOnPacked 109 rfl) (fun _ hh => ?_)
        subst hh
        exact zi_return rfl (dq dM_goOnPacked 110 rfl) (q_ru h)
      · have h := q_t c h
        refine zi_aload_n 0 (dq dM_goOnPacked 84 rfl) rfl ?_
        refine zi_iload_n 2 (dq dM_goOnPacked 85 rfl) rfl ?_
        refine zi_iload_n 3 (dq dM_goOnPacked 86 rfl) rfl ?_
        refine zi_iload 4 (dq dM_goOnPacked 87 rfl) rfl ?_
        obtain ⟨v10, J11, hv10, h⟩ := q_b h
        refine zi_cVv3 (SM_absent hL hv10 (d := d - 1) (by omega)) wM_absent aM_314 iM_absent sM_absent (by omega) (zLs hL 0 rfl) rfl (Nat.le_of_ble_eq_true rfl) (dq dM_goOnPacked 88 rfl) (fun _ hh => ?_)
        subst hh
        refine zi_goto (tgt := 175) (dq dM_goOnPacked 89 rfl) (by decide) ?_
        exact zi_return rfl (dq dM_goOnPacked 110 rfl) (q_ru h)
    · have h := q_f c h
      refine zi_aload_n 0 (dq dM_goOnPacked 57 rfl) rfl ?_
      refine zi_aload_n 0 (dq dM_goOnPacked 58 rfl) rfl ?_
      refine ri_getr (zLs hL 0 rfl) (zLr hL 12 rfl) fM_48 (dq dM_goOnPacked 59 rfl) ?_
      refine zi_bipush (v := 6) (dq dM_goOnPacked 60 rfl) (by decide) ?_
      refine zi_iload_n 3 (dq dM_goOnPacked 61 rfl) rfl ?_
      refine zi_imul (dq dM_goOnPacked 62 rfl) ?_
      obtain ⟨c12, h⟩ := q_k h
      refine ri_iald (zLs hL 13 rfl) (by decide) rfl c12 (dq dM_goOnPacked 63 rfl) ?_
      refine zi_iload_n 2 (dq dM_goOnPacked 64 rfl) rfl ?_
      refine zi_iload 4 (dq dM_goOnPacked 65 rfl) rfl ?_
      obtain ⟨v13, J14, hv13, h⟩ := q_b h
      refine zi_cVv3 (SM_want hL hv13 (d := d - 1) (by omega)) wM_want aM_252 iM_want sM_want (by omega) (zLs hL 0 rfl) rfl (Nat.le_of_ble_eq_true rfl) (dq dM_goOnPacked 66 rfl) (fun _ hh => ?_)
      subst hh
      refine zi_goto (tgt := 175) (dq dM_goOnPacked 67 rfl) (by decide) ?_
      exact zi_return rfl (dq dM_goOnPacked 110 rfl) (q_ru h)
  · have h := q_t c h
    refine zi_aload_n 0 (dq dM_goOnPacked 44 rfl) rfl ?_
    refine zi_dup (dq dM_goOnPacked 45 rfl) (by first | rfl | exact z_cr _) ?_
    refine ri_geti (zLs hL 0 rfl) (by decide) fM_242 (dq dM_goOnPacked 46 rfl) ?_
    refine zi_iconst (v := 1) (dq dM_goOnPacked 47 rfl) (by decide) ?_
    refine zi_isub (dq dM_goOnPacked 48 rfl) ?_
    refine ri_puti (zLs hL 0 rfl) (by decide) fM_242 (fun h => by cases h) rfl rfl (dq dM_goOnPacked 49 rfl) ?_
    refine zi_goto (tgt := 175) (dq dM_goOnPacked 50 rfl) (by decide) ?_
    exact zi_return rfl (dq dM_goOnPacked 110 rfl) (q_ru h)
def FM_goOnPacked (N : Nat) (J : zJ) : Option (Unit × zJ) :=
  let y1 := (J 0 48) - 1
  qk (qi y1 160) <|
  let y3 := J 31 y1.toNatClampNeg
  qb (FM_baseOf N y3 J) fun v4 J5 =>
  qk (qi y1 160) <|
  let y7 := J5 33 y1.toNatClampNeg
  qk (qi y1 160) <|
  qk (qi y1 160) <|
  let J10 := zu J5 33 y1.toNatClampNeg ((J5 33 y1.toNatClampNeg) + 1)
  qk (qi v4 160) <|
  if (J10 4 v4.toNatClampNeg) = 6 then
    qk (qi v4 160) <|
    FM_goOnPacked_66 N y1 y3 v4 y7 y7 (J10 8 v4.toNatClampNeg) J10
  else
    qk (qi y3 100) <|
    FM_goOnPacked_66 N y1 y3 v4 y7 y7 (J10 22 y3.toNatClampNeg) J10
theorem SM_goOnPacked {g : zg} {d N : Nat} {M0 : zM} {A : Nat} {r : Unit} {J1 : zJ} {J : zJ}  (hL : zLy M0 A mShL mRf) (h : FM_goOnPacked N J = some (r, J1)) (hd : 5 ≤ d) : zEv g d mM_goOnPacked [va_rf (some (A + 0))] (zmm M0 A 40 J) (fun Mq => Mq = zmm M0 A 40 J1) := by
  unfold FM_goOnPacked at h
  refine zEu_q (r := r) (lv := [(0, va_rf (some (A + 0)))]) ⟨by decide +kernel, by decide, by decide +kernel⟩ (by simp [z_cr, z_ci]) (Nat.le_of_ble_eq_true rfl) rfl ?_
  refine zi_aload_n 0 (dq dM_goOnPacked 0 rfl) rfl ?_
  refine ri_geti (zLs hL 0 rfl) (by decide) fM_242 (dq dM_goOnPacked 1 rfl) ?_
  refine zi_iconst (v := 1) (dq dM_goOnPacked 2 rfl) (by decide) ?_
  refine zi_isub (dq dM_goOnPacked 3 rfl) ?_
  refine zi_istC_n (lv' := [(1, _), (0, _)]) (dq dM_goOnPacked 4 rfl) (by decide) (by simp [z_cr, z_ci]) rfl ?_
  refine zi_aload_n 1 (dq dM_goOnPacked 5 rfl) rfl ?_
  refine ri_getr (zLs hL 0 rfl) (zLr hL 30 rfl) fM_102 (dq dM_goOnPacked 6 rfl) ?_
  refine zi_iload_n 0 (dq dM_goOnPacked 7 rfl) rfl ?_
  obtain ⟨c2, h⟩ := q_k h
  refine ri_iald (zLs hL 31 rfl) (by decide) rfl c2 (dq dM_goOnPacked 8 rfl) ?_
  refine zi_istC_n (lv' := [(2, _), (1, _), (0, _)]) (dq dM_goOnPacked 9 rfl) (by decide) (by simp [z_cr, z_ci]) rfl ?_
  refine zi_aload_n 2 (dq dM_goOnPacked 10 rfl) rfl ?_
  refine zi_iload_n 0 (dq dM_goOnPacked 11 rfl) rfl ?_
  obtain ⟨v4, J5, hv4, h⟩ := q_b h
  refine zi_cVi1 (SM_baseOf hL hv4 (d := d - 1) (by omega)) wM_baseOf aM_308 iM_baseOf sM_baseOf (by omega) (zLs hL 0 rfl) rfl (Nat.le_of_ble_eq_true rfl) (dq dM_goOnPacked 12 rfl) (fun _ _ hh => ?_)
  obtain ⟨rfl, rfl⟩ := hh
  refine zi_istC_n (lv' := [(3, _), (2, _), (1, _), (0, _)]) (dq dM_goOnPacked 13 rfl) (by decide) (by simp [z_cr, z_ci]) rfl ?_
  refine zi_aload_n 3 (dq dM_goOnPacked 14 rfl) rfl ?_
  refine ri_getr (zLs hL 0 rfl) (zLr hL 32 rfl) fM_108 (dq dM_goOnPacked 15 rfl) ?_
  refine zi_iload_n 2 (dq dM_goOnPacked 16 rfl) rfl ?_
  obtain ⟨c6, h⟩ := q_k h
  refine ri_iald (zLs hL 33 rfl) (by decide) rfl c6 (dq dM_goOnPacked 17 rfl) ?_
  refine zi_istC (lv' := [(4, _), (3, _), (2, _), (1, _), (0, _)]) (dq dM_goOnPacked 18 rfl) (by decide) (by simp [z_cr, z_ci]) rfl ?_
  refine zi_aload_n 4 (dq dM_goOnPacked 19 rfl) rfl ?_
  refine ri_getr (zLs hL 0 rfl) (zLr hL 32 rfl) fM_108 (dq dM_goOnPacked 20 rfl) ?_
  refine zi_iload_n 3 (dq dM_goOnPacked 21 rfl) rfl ?_
  refine zi_dup2 (dq dM_goOnPacked 22 rfl) (by first | rfl | exact z_cr _) (by first | rfl | exact z_cr _) ?_
  obtain ⟨c8, h⟩ := q_k h
  refine ri_iald (zLs hL 33 rfl) (by decide) rfl c8 (dq dM_goOnPacked 23 rfl) ?_
  refine zi_iconst (v := 1) (dq dM_goOnPacked 24 rfl) (by decide) ?_
  refine zi_iadd (dq dM_goOnPacked 25 rfl) ?_
  obtain ⟨c9, h⟩ := q_k h
  refine ri_iast (zLs hL 33 rfl) (by decide) rfl c9 (dq dM_goOnPacked 26 rfl) ?_
  refine zi_iload 0 (dq dM_goOnPacked 27 rfl) rfl ?_
  refine zi_aload_n 4 (dq dM_goOnPacked 28 rfl) rfl ?_
  refine ri_getr (zLs hL 0 rfl) (zLr hL 3 rfl) fM_20 (dq dM_goOnPacked 29 rfl) ?_
  refine zi_iload_n 1 (dq dM_goOnPacked 30 rfl) rfl ?_
  obtain ⟨c11, h⟩ := q_k h
  refine ri_iald (zLs hL 4 rfl) (by decide) rfl c11 (dq dM_goOnPacked 31 rfl) ?_
  refine zi_bipush (v := 6) (dq dM_goOnPacked 32 rfl) (by decide) ?_
  refine zi_icmp_ne (tgt := 60) (dq dM_goOnPacked 33 rfl) (by decide) (fun c => ?_) (fun c => ?_)
  · have h := q_f c h
    refine zi_aload_n 4 (dq dM_goOnPacked 39 rfl) rfl ?_
    refine ri_getr (zLs hL 0 rfl) (zLr hL 21 rfl) fM_75 (dq dM_goOnPacked 40 rfl) ?_
    refine zi_iload_n 2 (dq dM_goOnPacked 41 rfl) rfl ?_
    obtain ⟨c12, h⟩ := q_k h
    refine ri_iald (zLs hL 22 rfl) (by decide) rfl c12 (dq dM_goOnPacked 42 rfl) ?_
    exact zG_lv (zs_c 4 rfl (zs_c 3 rfl (zs_c 2 rfl (zs_c 1 rfl (zs_c 0 rfl zs_n))))) (SM_goOnPacked_66 hL h hd )
  · have h := q_t c h
    refine zi_aload_n 4 (dq dM_goOnPacked 34 rfl) rfl ?_
    refine ri_getr (zLs hL 0 rfl) (zLr hL 7 rfl) fM_32 (dq dM_goOnPacked 35 rfl) ?_
    refine zi_iload_n 1 (dq dM_goOnPacked 36 rfl) rfl ?_
    obtain ⟨c13, h⟩ := q_k h
    refine ri_iald (zLs hL 8 rfl) (by decide) rfl c13 (dq dM_goOnPacked 37 rfl) ?_
    refine zi_goto (tgt := 66) (dq dM_goOnPacked 38 rfl) (by decide) ?_
    exact zG_lv (zs_c 4 rfl (zs_c 3 rfl (zs_c 2 rfl (zs_c 1 rfl (zs_c 0 rfl zs_n))))) (SM_goOnPacked_66 hL h hd )
