/-! THE REFERENCE AS FUNCTIONS, 1 (tools/genM.py) -/
def FM_numeral_149 (N : Nat) (t1 : Int32) (J : zJ) : Option (Bool × zJ) :=
  let J1 := zu J 0 6 t1
  if (J1 0 4) = 0 then
    some (true, J1)
  else
    some (false, J1)
theorem SM_numeral_149 {g : zg} {d N : Nat} {M0 : zM} {A : Nat} {r : Bool} {J1 : zJ} {J : zJ}  {t1 : Int32} (hL : zLy M0 A mShL mRf) (h : FM_numeral_149 N t1 J = some (r, J1)) (hd : 1 ≤ d)  : zG g d mM_numeral (zPq (rB r) (zmm M0 A 40 J1)) (zmm M0 A 40 J) 149 [(0, va_rf (some (A + 0)))] [.int t1, va_rf (some (A + 0))] := by
  unfold FM_numeral_149 at h
  refine ri_puti (zLs hL 0 rfl) (by decide) fM_203 (fun h => by cases h) rfl rfl (dq dM_numeral 82 rfl) ?_
  refine zi_aload_n 0 (dq dM_numeral 83 rfl) rfl ?_
  refine ri_geti (zLs hL 0 rfl) (by decide) fM_149 (dq dM_numeral 84 rfl) ?_
  refine zi_if_ne (tgt := 163) (dq dM_numeral 85 rfl) (by decide) (fun c => ?_) (fun c => ?_)
  · have h := q_f c h
    refine zi_iconst (v := 0) (dq dM_numeral 88 rfl) (by decide) ?_
    exact zi_ireturn rfl (by decide) (dq dM_numeral 89 rfl) (q_rb (b := false) h)
  · have h := q_t c h
    refine zi_iconst (v := 1) (dq dM_numeral 86 rfl) (by decide) ?_
    refine zi_goto (tgt := 164) (dq dM_numeral 87 rfl) (by decide) ?_
    exact zi_ireturn rfl (by decide) (dq dM_numeral 89 rfl) (q_rb (b := true) h)
def FM_numeral_138 (N : Nat) (l1 : Int32) (l2 : Int32) (J : zJ) : Option (Bool × zJ) :=
  if l1 = 0 then
    FM_numeral_149 N l2 J
  else
    FM_numeral_149 N (-l2) J
theorem SM_numeral_138 {g : zg} {d N : Nat} {M0 : zM} {A : Nat} {r : Bool} {J1 : zJ} {J : zJ}  {l1 : Int32} {l2 : Int32} (hL : zLy M0 A mShL mRf) (h : FM_numeral_138 N l1 l2 J = some (r, J1)) (hd : 1 ≤ d)  : zG g d mM_numeral (zPq (rB r) (zmm M0 A 40 J1)) (zmm M0 A 40 J) 138 [(0, va_rf (some (A + 0))), (1, .int l1), (2, .int l2)] [] := by
  unfold FM_numeral_138 at h
  refine zi_aload_n 0 (dq dM_numeral 75 rfl) rfl ?_
  refine zi_iload_n 1 (dq dM_numeral 76 rfl) rfl ?_
  refine zi_if_eq (tgt := 148) (dq dM_numeral 77 rfl) (by decide) (fun c => ?_) (fun c => ?_)
  · have h := q_t c h
    refine zi_iload_n 2 (dq dM_numeral 81 rfl) rfl ?_
    exact zG_lv (zs_c 0 rfl zs_n) (SM_numeral_149 hL h hd )
  · have h := q_f c h
    refine zi_iload_n 2 (dq dM_numeral 78 rfl) rfl ?_
    refine zi_ineg (dq dM_numeral 79 rfl) ?_
    refine zi_goto (tgt := 149) (dq dM_numeral 80 rfl) (by decide) ?_
    exact zG_lv (zs_c 0 rfl zs_n) (SM_numeral_149 hL h hd )
def FM_numeral_114 (N : Nat) (l1 : Int32) (l2 : Int32) (J : zJ) : Option (Bool × zJ) :=
  qb (FM_look N J) fun v1 J2 =>
  qc (FM_in N v1 48 57) fun v3 =>
  if (bI v3) = 0 then
    FM_numeral_138 N l1 l2 J2
  else
    qb (FM_stop N 1 (J2 0 3) J2) fun v4 J5 =>
    FM_numeral_138 N l1 l2 J5
theorem SM_numeral_114 {g : zg} {d N : Nat} {M0 : zM} {A : Nat} {r : Bool} {J1 : zJ} {J : zJ}  {l1 : Int32} {l2 : Int32} (hL : zLy M0 A mShL mRf) (h : FM_numeral_114 N l1 l2 J = some (r, J1)) (hd : 1 ≤ d)  : zG g d mM_numeral (zPq (rB r) (zmm M0 A 40 J1)) (zmm M0 A 40 J) 114 [(0, va_rf (some (A + 0))), (1, .int l1), (2, .int l2)] [] := by
  unfold FM_numeral_114 at h
  refine zi_aload_n 0 (dq dM_numeral 63 rfl) rfl ?_
  obtain ⟨v1, J2, hv1, h⟩ := q_b h
  refine zi_cVi0 (SM_look hL hv1 (d := d - 1) (by omega)) wM_look aM_152 iM_look sM_look (by omega) (zLs hL 0 rfl) rfl (Nat.le_of_ble_eq_true rfl) (dq dM_numeral 64 rfl) (fun _ _ hh => ?_)
  obtain ⟨rfl, rfl⟩ := hh
  refine zi_bipush (v := 48) (dq dM_numeral 65 rfl) (by decide) ?_
  refine zi_bipush (v := 57) (dq dM_numeral 66 rfl) (by decide) ?_
  obtain ⟨v3, hv3, h⟩ := q_c h
  refine zi_cSi3 (SM_in  hv3 (d := d - 1) (by omega)) wM_in aM_166 tM_in (by omega) (Nat.le_of_ble_eq_true rfl) (dq dM_numeral 67 rfl) (fun _ _ hh => ?_)
  obtain ⟨rfl, rfl⟩ := hh
  refine zi_if_eq (tgt := 138) (dq dM_numeral 68 rfl) (by decide) (fun c => ?_) (fun c => ?_)
  · have h := q_t c h
    exact zG_lv (zs_c 0 rfl (zs_c 1 rfl (zs_c 2 rfl zs_n))) (SM_numeral_138 hL h hd )
  · have h := q_f c h
    refine zi_aload_n 0 (dq dM_numeral 69 rfl) rfl ?_
    refine zi_iconst (v := 1) (dq dM_numeral 70 rfl) (by decide) ?_
    refine zi_aload_n 0 (dq dM_numeral 71 rfl) rfl ?_
    refine ri_geti (zLs hL 0 rfl) (by decide) fM_146 (dq dM_numeral 72 rfl) ?_
    obtain ⟨v4, J5, hv4, h⟩ := q_b h
    refine zi_cVi2 (SM_stop hL hv4 (d := d - 1) (by omega)) wM_stop aM_156 iM_stop sM_stop (by omega) (zLs hL 0 rfl) rfl (Nat.le_of_ble_eq_true rfl) (dq dM_numeral 73 rfl) (fun _ _ hh => ?_)
    obtain ⟨rfl, rfl⟩ := hh
    refine zi_pop (dq dM_numeral 74 rfl) (by first | rfl | exact z_cr _) ?_
    exact zG_lv (zs_c 0 rfl (zs_c 1 rfl (zs_c 2 rfl zs_n))) (SM_numeral_138 hL h hd )
def FM_numeral_66 (N : Nat) (l1 : Int32) (l3 : Int32) (K66 : (Int32 × zJ) → Option (Bool × zJ)) (s : Int32 × zJ) : Option (Bool × zJ) :=
  let l2 := s.1
  let J := s.2
  qb (FM_look N J) fun v1 J2 =>
  qc (FM_in N v1 48 57) fun v3 =>
  if (bI v3) = 0 then
    FM_numeral_114 N l1 l2 J2
  else
    if l3 ≤ (J2 0 3) then
      FM_numeral_114 N l1 l2 J2
    else
      qb (FM_look N J2) fun v4 J5 =>
      let y6 := ((10 * l2) + v4) - 48
      let J7 := zu J5 0 3 ((J5 0 3) + 1)
      K66 (y6, J7)
theorem SM_numeral_66 {g : zg} {d N : Nat} {M0 : zM} {A : Nat} {r : Bool} {J1 : zJ}  {l1 : Int32} {l3 : Int32} (hL : zLy M0 A mShL mRf) (hd : 1 ≤ d)  : ∀ n s, qfix (FM_numeral_66 N l1 l3) n s = some (r, J1) → zG g d mM_numeral (zPq (rB r) (zmm M0 A 40 J1)) (zmm M0 A 40 s.2) 66 [(0, va_rf (some (A + 0))), (1, .int l1), (2, .int s.1), (3, .int l3)] [] := by
  refine qfix_sound (fun K66 hK66 s h => ?_)
  unfold FM_numeral_66 at h
  refine zi_aload_n 0 (dq dM_numeral 37 rfl) rfl ?_
  obtain ⟨v1, J2, hv1, h⟩ := q_b h
  refine zi_cVi0 (SM_look hL hv1 (d := d - 1) (by omega)) wM_look aM_152 iM_look sM_look (by omega) (zLs hL 0 rfl) rfl (Nat.le_of_ble_eq_true rfl) (dq dM_numeral 38 rfl) (fun _ _ hh => ?_)
  obtain ⟨rfl, rfl⟩ := hh
  refine zi_bipush (v := 48) (dq dM_numeral 39 rfl) (by decide) ?_
  refine zi_bipush (v := 57) (dq dM_numeral 40 rfl) (by decide) ?_
  obtain ⟨v3, hv3, h⟩ := q_c h
  refine zi_cSi3 (SM_in  hv3 (d := d - 1) (by omega)) wM_in aM_166 tM_in (by omega) (Nat.le_of_ble_eq_true rfl) (dq dM_numeral 41 rfl) (fun _ _ hh => ?_)
  obtain ⟨rfl, rfl⟩ := hh
  refine zi_if_eq (tgt := 114) (dq dM_numeral 42 rfl) (by decide) (fun c => ?_) (fun c => ?_)
  · have h := q_t c h
    exact zG_lv (zs_c 0 rfl (zs_c 1 rfl (zs_c 2 rfl zs_n))) (SM_numeral_114 hL h hd )
  · have h := q_f c h
    refine zi_aload_n 0 (dq dM_numeral 43 rfl) rfl ?_
    refine ri_geti (zLs hL 0 rfl) (by decide) fM_146 (dq dM_numeral 44 rfl) ?_
    refine zi_iload_n 3 (dq dM_numeral 45 rfl) rfl ?_
    refine zi_icmp_ge (tgt := 114) (dq dM_numeral 46 rfl) (by decide) (fun c => ?_) (fun c => ?_)
    · have h := q_t c h
      exact zG_lv (zs_c 0 rfl (zs_c 1 rfl (zs_c 2 rfl zs_n))) (SM_numeral_114 hL h hd )
    · have h := q_f c h
      refine zi_bipush (v := 10) (dq dM_numeral 47 rfl) (by decide) ?_
      refine zi_iload_n 2 (dq dM_numeral 48 rfl) rfl ?_
      refine zi_imul (dq dM_numeral 49 rfl) ?_
      refine zi_aload_n 0 (dq dM_numeral 50 rfl) rfl ?_
      obtain ⟨v4, J5, hv4, h⟩ := q_b h
      refine zi_cVi0 (SM_look hL hv4 (d := d - 1) (by omega)) wM_look aM_152 iM_look sM_look (by omega) (zLs hL 0 rfl) rfl (Nat.le_of_ble_eq_true rfl) (dq dM_numeral 51 rfl) (fun _ _ hh => ?_)
      obtain ⟨rfl, rfl⟩ := hh
      refine zi_iadd (dq dM_numeral 52 rfl) ?_
      refine zi_bipush (v := 48) (dq dM_numeral 53 rfl) (by decide) ?_
      refine zi_isub (dq dM_numeral 54 rfl) ?_
      refine zi_istC_n (lv' := [(2, _), (0, _), (1, _), (3, _)]) (dq dM_numeral 55 rfl) (by decide) (by simp [z_cr, z_ci]) rfl ?_
      refine zi_aload_n 1 (dq dM_numeral 56 rfl) rfl ?_
      refine zi_dup (dq dM_numeral 57 rfl) (by first | rfl | exact z_cr _) ?_
      refine ri_geti (zLs hL 0 rfl) (by decide) fM_146 (dq dM_numeral 58 rfl) ?_
      refine zi_iconst (v := 1) (dq dM_numeral 59 rfl) (by decide) ?_
      refine zi_iadd (dq dM_numeral 60 rfl) ?_
      refine ri_puti (zLs hL 0 rfl) (by decide) fM_146 (fun h => by cases h) rfl rfl (dq dM_numeral 61 rfl) ?_
      refine zi_goto (tgt := 66) (dq dM_numeral 62 rfl) (by decide) ?_
      exact zG_lv (zs_c 1 rfl (zs_c 2 rfl (zs_c 0 rfl (zs_c 3 rfl zs_n)))) (hK66 _ h)
def FM_numeral_57 (N : Nat) (l1 : Int32) (J : zJ) : Option (Bool × zJ) :=
  let y1 := (J 0 3) + 5
  qfix (FM_numeral_66 N l1 y1) N (0, J)
theorem SM_numeral_57 {g : zg} {d N : Nat} {M0 : zM} {A : Nat} {r : Bool} {J1 : zJ} {J : zJ}  {l1 : Int32} (hL : zLy M0 A mShL mRf) (h : FM_numeral_57 N l1 J = some (r, J1)) (hd : 1 ≤ d)  : zG g d mM_numeral (zPq (rB r) (zmm M0 A 40 J1)) (zmm M0 A 40 J) 57 [(0, va_rf (some (A + 0))), (1, .int l1)] [] := by
  unfold FM_numeral_57 at h
  refine zi_iconst (v := 0) (dq dM_numeral 30 rfl) (by decide) ?_
  refine zi_istC_n (lv' := [(2, _), (0, _), (1, _)]) (dq dM_numeral 31 rfl) (by decide) (by simp [z_cr, z_ci]) rfl ?_
  refine zi_aload_n 1 (dq dM_numeral 32 rfl) rfl ?_
  refine ri_geti (zLs hL 0 rfl) (by decide) fM_146 (dq dM_numeral 33 rfl) ?_
  refine zi_iconst (v := 5) (dq dM_numeral 34 rfl) (by decide) ?_
  refine zi_iadd (dq dM_numeral 35 rfl) ?_
  refine zi_istC_n (lv' := [(3, _), (2, _), (0, _), (1, _)]) (dq dM_numeral 36 rfl) (by decide) (by simp [z_cr, z_ci]) rfl ?_
  exact zG_lv (zs_c 2 rfl (zs_c 3 rfl (zs_c 1 rfl (zs_c 0 rfl zs_n)))) (SM_numeral_66 hL hd  _ _ h)
def FM_numeral_29 (N : Nat) (l1 : Int32) (t1 : Int32) (t2 : Int32) (J : zJ) : Option (Bool × zJ) :=
  let J1 := zu J 0 3 (t1 + t2)
  qb (FM_look N J1) fun v2 J3 =>
  qc (FM_in N v2 48 57) fun v4 =>
  if (bI v4) = 0 then
    qb (FM_stop N 1 (J3 0 3) J3) fun v5 J6 =>
    FM_numeral_57 N l1 J6
  else
    FM_numeral_57 N l1 J3
theorem SM_numeral_29 {g : zg} {d N : Nat} {M0 : zM} {A : Nat} {r : Bool} {J1 : zJ} {J : zJ}  {l1 : Int32} {t1 : Int32} {t2 : Int32} (hL : zLy M0 A mShL mRf) (h : FM_numeral_29 N l1 t1 t2 J = some (r, J1)) (hd : 1 ≤ d)  : zG g d mM_numeral (zPq (rB r) (zmm M0 A 40 J1)) (zmm M0 A 40 J) 29 [(0, va_rf (some (A + 0))), (1, .int l1)] [.int t2, .int t1, va_rf (some (A + 0))] := by
  unfold FM_numeral_29 at h
  refine zi_iadd (dq dM_numeral 16 rfl) ?_
  refine ri_puti (zLs hL 0 rfl) (by decide) fM_146 (fun h => by cases h) rfl rfl (dq dM_numeral 17 rfl) ?_
  refine zi_aload_n 0 (dq dM_numeral 18 rfl) rfl ?_
  obtain ⟨v2, J3, hv2, h⟩ := q_b h
  refine zi_cVi0 (SM_look hL hv2 (d := d - 1) (by omega)) wM_look aM_152 iM_look sM_look (by omega) (zLs hL 0 rfl) rfl (Nat.le_of_ble_eq_true rfl) (dq dM_numeral 19 rfl) (fun _ _ hh => ?_)
  obtain ⟨rfl, rfl⟩ := hh
  refine zi_bipush (v := 48) (dq dM_numeral 20 rfl) (by decide) ?_
  refine zi_bipush (v := 57) (dq dM_numeral 21 rfl) (by decide) ?_
  obtain ⟨v4, hv4, h⟩ := q_c h
  refine zi_cSi3 (SM_in  hv4 (d := d - 1) (by omega)) wM_in aM_166 tM_in (by omega) (Nat.le_of_ble_eq_true rfl) (dq dM_numeral 22 rfl) (fun _ _ hh => ?_)
  obtain ⟨rfl, rfl⟩ := hh
  refine zi_if_ne (tgt := 57) (dq dM_numeral 23 rfl) (by decide) (fun c => ?_) (fun c => ?_)
  · have h := q_f c h
    exact zG_lv (zs_c 0 rfl (zs_c 1 rfl zs_n)) (SM_numeral_57 hL h hd )
  · have h := q_t c h
    refine zi_aload_n 0 (dq dM_numeral 24 rfl) rfl ?_
    refine zi_iconst (v := 1) (dq dM_numeral 25 rfl) (by decide) ?_
    refine zi_aload_n 0 (dq dM_numeral 26 rfl) rfl ?_
    refine ri_geti (zLs hL 0 rfl) (by decide) fM_146 (dq dM_numeral 27 rfl) ?_
    obtain ⟨v5, J6, hv5, h⟩ := q_b h
    refine zi_cVi2 (SM_stop hL hv5 (d := d - 1) (by omega)) wM_stop aM_156 iM_stop sM_stop (by omega) (zLs hL 0 rfl) rfl (Nat.le_of_ble_eq_true rfl) (dq dM_numeral 28 rfl) (fun _ _ hh => ?_)
    obtain ⟨rfl, rfl⟩ := hh
    refine zi_pop (dq dM_numeral 29 rfl) (by first | rfl | exact z_cr _) ?_
    exact zG_lv (zs_c 0 rfl (zs_c 1 rfl zs_n)) (SM_numeral_57 hL h hd )
def FM_numeral_14 (N : Nat) (t0 : Int32) (J : zJ) : Option (Bool × zJ) :=
  if t0 = 0 then
    FM_numeral_29 N t0 (J 0 3) 0 J
  else
    FM_numeral_29 N t0 (J 0 3) 1 J
theorem SM_numeral_14 {g : zg} {d N : Nat} {M0 : zM} {A : Nat} {r : Bool} {J1 : zJ} {J : zJ}  {t0 : Int32} (hL : zLy M0 A mShL mRf) (h : FM_numeral_14 N t0 J = some (r, J1)) (hd : 1 ≤ d)  : zG g d mM_numeral (zPq (rB r) (zmm M0 A 40 J1)) (zmm M0 A 40 J) 14 [(0, va_rf (some (A + 0)))] [.int t0] := by
  unfold FM_numeral_14 at h
  refine zi_istC_n (lv' := [(1, _), (0, _)]) (dq dM_numeral 7 rfl) (by decide) (by simp [z_cr, z_ci]) rfl ?_
  refine zi_aload_n 1 (dq dM_numeral 8 rfl) rfl ?_
  refine zi_dup (dq dM_numeral 9 rfl) (by first | rfl | exact z_cr _) ?_
  refine ri_geti (zLs hL 0 rfl) (by decide) fM_146 (dq dM_numeral 10 rfl) ?_
  refine zi_iload_n 0 (dq dM_numeral 11 rfl) rfl ?_
  refine zi_if_eq (tgt := 28) (dq dM_numeral 12 rfl) (by decide) (fun c => ?_) (fun c => ?_)
  · have h := q_t c h
    refine zi_iconst (v := 0) (dq dM_numeral 15 rfl) (by decide) ?_
    exact zG_lv (zs_c 1 rfl (zs_c 0 rfl zs_n)) (SM_numeral_29 hL h hd )
  · have h := q_f c h
    refine zi_iconst (v := 1) (dq dM_numeral 13 rfl) (by decide) ?_
    refine zi_goto (tgt := 29) (dq dM_numeral 14 rfl) (by decide) ?_
    exact zG_lv (zs_c 1 rfl (zs_c 0 rfl zs_n)) (SM_numeral_29 hL h hd )
def FM_numeral (N : Nat) (J : zJ) : Option (Bool × zJ) :=
  qb (FM_look N J) fun v1 J2 =>
  if v1 = 45 then
    FM_numeral_14 N 1 J2
  else
    FM_numeral_14 N 0 J2
theorem SM_numeral {g : zg} {d N : Nat} {M0 : zM} {A : Nat} {r : Bool} {J1 : zJ} {J : zJ}  (hL : zLy M0 A mShL mRf) (h : FM_numeral N J = some (r, J1)) (hd : 1 ≤ d) : zEi g d mM_numeral [va_rf (some (A + 0))] (zmm M0 A 40 J) (fun v Mq => v = bI r ∧ Mq = zmm M0 A 40 J1) := by
  unfold FM_numeral at h
  refine zEb_q (r := r) (lv := [(0, va_rf (some (A + 0)))]) ⟨by decide +kernel, by decide, by decide +kernel⟩ (by simp [z_cr, z_ci]) (Nat.le_of_ble_eq_true rfl) rfl ?_
  refine zi_aload_n 0 (dq dM_numeral 0 rfl) rfl ?_
  obtain ⟨v1, J2, hv1, h⟩ := q_b h
  refine zi_cVi0 (SM_look hL hv1 (d := d - 1) (by omega)) wM_look aM_152 iM_look sM_look (by omega) (zLs hL 0 rfl) rfl (Nat.le_of_ble_eq_true rfl) (dq dM_numeral 1 rfl) (fun _ _ hh => ?_)
  obtain ⟨rfl, rfl⟩ := hh
  refine zi_bipush (v := 45) (dq dM_numeral 2 rfl) (by decide) ?_
  refine zi_icmp_ne (tgt := 13) (dq dM_numeral 3 rfl) (by decide) (fun c => ?_) (fun c => ?_)
  · have h := q_f c h
    refine zi_iconst (v := 0) (dq dM_numeral 6 rfl) (by decide) ?_
    exact zG_lv (zs_c 0 rfl zs_n) (SM_numeral_14 hL h hd )
  · have h := q_t c h
    refine zi_iconst (v := 1) (dq dM_numeral 4 rfl) (by decide) ?_
    refine zi_goto (tgt := 14) (dq dM_numeral 5 rfl) (by decide) ?_
    exact zG_lv (zs_c 0 rfl zs_n) (SM_numeral_14 hL h hd )
def FM_ranged_159 (N : Nat) (J : zJ) : Option (Unit × zJ) :=
  qb (FM_need N 41 J) fun v1 J2 =>
  some ((), J2)
theorem SM_ranged_159 {g : zg} {d N : Nat} {M0 : zM} {A : Nat} {r : Unit} {J1 : zJ} {J : zJ}   (hL : zLy M0 A mShL mRf) (h : FM_ranged_159 N J = some (r, J1)) (hd : 2 ≤ d)  : zG g d mM_ranged (zPq (rU r) (zmm M0 A 40 J1)) (zmm M0 A 40 J) 159 [(0, va_rf (some (A + 0)))] [] := by
  unfold FM_ranged_159 at h
  refine zi_aload_n 0 (dq dM_ranged 89 rfl) rfl ?_
  refine zi_bipush (v := 41) (dq dM_ranged 90 rfl) (by decide) ?_
  obtain ⟨v1, J2, hv1, h⟩ := q_b h
  refine zi_cVi1 (SM_need hL hv1 (d := d - 1) (by omega)) wM_need aM_170 iM_need sM_need (by omega) (zLs hL 0 rfl) rfl (Nat.le_of_ble_eq_true rfl) (dq dM_ranged 91 rfl) (fun _ _ hh => ?_)
  obtain ⟨rfl, rfl⟩ := hh
  refine zi_pop (dq dM_ranged 92 rfl) (by first | rfl | exact z_cr _) ?_
  exact zi_return rfl (dq dM_ranged 93 rfl) (q_ru h)
def FM_ranged_146 (N : Nat) (J : zJ) : Option (Unit × zJ) :=
  qb (FM_stop N 4 (J 0 3) J) fun v1 J2 =>
  some ((), J2)
theorem SM_ranged_146 {g : zg} {d N : Nat} {M0 : zM} {A : Nat} {r : Unit} {J1 : zJ} {J : zJ}   (hL : zLy M0 A mShL mRf) (h : FM_ranged_146 N J = some (r, J1)) (hd : 2 ≤ d)  : zG g d mM_ranged (zPq (rU r) (zmm M0 A 40 J1)) (zmm M0 A 40 J) 146 [(0, va_rf (some (A + 0)))] [] := by
  unfold FM_ranged_146 at h
  refine zi_aload_n 0 (dq dM_ranged 82 rfl) rfl ?_
  refine zi_iconst (v := 4) (dq dM_ranged 83 rfl) (by decide) ?_
  refine zi_aload_n 0 (dq dM_ranged 84 rfl) rfl ?_
  refine ri_geti (zLs hL 0 rfl) (by decide) fM_146 (dq dM_ranged 85 rfl) ?_
  obtain ⟨v1, J2, hv1, h⟩ := q_b h
  refine zi_cVi2 (SM_stop hL hv1 (d := d - 1) (by omega)) wM_stop aM_156 iM_stop sM_stop (by omega) (zLs hL 0 rfl) rfl (Nat.le_of_ble_eq_true rfl) (dq dM_ranged 86 rfl) (fun _ _ hh => ?_)
  obtain ⟨rfl, rfl⟩ := hh
  refine zi_pop (dq dM_ranged 87 rfl) (by first | rfl | exact z_cr _) ?_
  refine zi_goto (tgt := 166) (dq dM_ranged 88 rfl) (by decide) ?_
  exact zi_return rfl (dq dM_ranged 93 rfl) (q_ru h)
def FM_ranged_117 (N : Nat) (l1 : Int32) (t0 : Int32) (J : zJ) : Option (Unit × zJ) :=
  qb (FM_look N J) fun v1 J2 =>
  if v1 = 41 then
    qk (qi l1 160) <|
    qk (qi l1 160) <|
    if (J2 6 l1.toNatClampNeg) < (J2 5 l1.toNatClampNeg) then
      FM_ranged_146 N J2
    else
      if t0 = 0 then
        FM_ranged_146 N J2
      else
        FM_ranged_159 N J2
  else
    FM_ranged_159 N J2
theorem SM_ranged_117 {g : zg} {d N : Nat} {M0 : zM} {A : Nat} {r : Unit} {J1 : zJ} {J : zJ}  {l1 : Int32} {t0 : Int32} (hL : zLy M0 A mShL mRf) (h : FM_ranged_117 N l1 t0 J = some (r, J1)) (hd : 2 ≤ d)  : zG g d mM_ranged (zPq (rU r) (zmm M0 A 40 J1)) (zmm M0 A 40 J) 117 [(0, va_rf (some (A + 0))), (1, .int l1)] [.int t0] := by
  unfold FM_ranged_117 at h
  refine zi_istC_n (lv' := [(3, _), (0, _), (1, _)]) (dq dM_ranged 66 rfl) (by decide) (by simp [z_cr, z_ci]) rfl ?_
  refine zi_aload_n 1 (dq dM_ranged 67 rfl) rfl ?_
  obtain ⟨v1, J2, hv1, h⟩ := q_b h
  refine zi_cVi0 (SM_look hL hv1 (d := d - 1) (by omega)) wM_look aM_152 iM_look sM_look (by omega) (zLs hL 0 rfl) rfl (Nat.le_of_ble_eq_true rfl) (dq dM_ranged 68 rfl) (fun _ _ hh => ?_)
  obtain ⟨rfl, rfl⟩ := hh
  refine zi_bipush (v := 41) (dq dM_ranged 69 rfl) (by decide) ?_
  refine zi_icmp_ne (tgt := 159) (dq dM_ranged 70 rfl) (by decide) (fun c => ?_) (fun c => ?_)
  · have h := q_f c h
    exact zG_lv (zs_c 1 rfl zs_n) (SM_ranged_159 hL h hd )
  · have h := q_t c h
    refine zi_aload_n 1 (dq dM_ranged 71 rfl) rfl ?_
    refine ri_getr (zLs hL 0 rfl) (zLr hL 4 rfl) fM_23 (dq dM_ranged 72 rfl) ?_
    refine zi_iload_n 2 (dq dM_ranged 73 rfl) rfl ?_
    obtain ⟨c3, h⟩ := q_k h
    refine ri_iald (zLs hL 5 rfl) (by decide) rfl c3 (dq dM_ranged 74 rfl) ?_
    refine zi_aload_n 1 (dq dM_ranged 75 rfl) rfl ?_
    refine ri_getr (zLs hL 0 rfl) (zLr hL 5 rfl) fM_26 (dq dM_ranged 76 rfl) ?_
    refine zi_iload_n 2 (dq dM_ranged 77 rfl) rfl ?_
    obtain ⟨c4, h⟩ := q_k h
    refine ri_iald (zLs hL 6 rfl) (by decide) rfl c4 (dq dM_ranged 78 rfl) ?_
    refine zi_icmp_gt (tgt := 146) (dq dM_ranged 79 rfl) (by decide) (fun c => ?_) (fun c => ?_)
    · have h := q_t c h
      exact zG_lv (zs_c 1 rfl zs_n) (SM_ranged_146 hL h hd )
    · have h := q_f c h
      refine zi_iload_n 0 (dq dM_ranged 80 rfl) rfl ?_
      refine zi_if_ne (tgt := 159) (dq dM_ranged 81 rfl) (by decide) (fun c => ?_) (fun c => ?_)
      · have h := q_f c h
        exact zG_lv (zs_c 1 rfl zs_n) (SM_ranged_159 hL h hd )
      · have h := q_t c h
        exact zG_lv (zs_c 1 rfl zs_n) (SM_ranged_146 hL h hd )
def FM_ranged (N : Nat) (l1 : Int32) (l2 : Int32) (J : zJ) : Option (Unit × zJ) :=
  let J1 := zu J 0 3 ((J 0 3) + 1)
  qb (FM_numeral N J1) fun v2 J3 =>
  if (bI v2) = 0 then
    some ((), J3)
  else
    qk (qi l1 160) <|
    let J5 := zu J3 5 l1.toNatClampNeg (J3 0 6)
    qb (FM_need N 44 J5) fun v6 J7 =>
    if (bI v6) = 0 then
      some ((), J7)
    else
      qb (FM_numeral N J7) fun v8 J9 =>
      if (bI v8) = 0 then
        some ((), J9)
      else
        qk (qi l1 160) <|
        let J11 := zu J9 6 l1.toNatClampNeg (J9 0 6)
        qk (qi l1 160) <|
        let J13 := zu J11 11 l1.toNatClampNeg 1
        if l2 = 0 then
          qk (qi l1 160) <|
          if (J13 5 l1.toNatClampNeg) < 0 then
            FM_ranged_117 N l1 0 J13
          else
            qk (qi l1 160) <|
            if 20 < (J13 6 l1.toNatClampNeg) then
              FM_ranged_117 N l1 0 J13
            else
              FM_ranged_117 N l1 1 J13
        else
          qk (qi l1 160) <|
          qk (qi l1 160) <|
          if 65536 ≤ ((J13 6 l1.toNatClampNeg) - (J13 5 l1.toNatClampNeg)) then
            FM_ranged_117 N l1 0 J13
          else
            FM_ranged_117 N l1 1 J13
theorem SM_ranged {g : zg} {d N : Nat} {M0 : zM} {A : Nat} {r : Unit} {J1 : zJ} {J : zJ} {l1 : Int32} {l2 : Int32} (hL : zLy M0 A mShL mRf) (h : FM_ranged N l1 l2 J = some (r, J1)) (hd : 2 ≤ d) : zEv g d mM_ranged [va_rf (some (A + 0)), .int l1, .int l2] (zmm M0 A 40 J) (fun Mq => Mq = zmm M0 A 40 J1) := by
  unfold FM_ranged at h
  refine zEu_q (r := r) (lv := [(0, va_rf (some (A + 0))), (1, .int l1), (2, .int l2)]) ⟨by decide +kernel, by decide, by decide +kernel⟩ (by simp [z_cr, z_ci]) (Nat.le_of_ble_eq_true rfl) rfl ?_
  refine zi_aload_n 0 (dq dM_ranged 0 rfl) rfl ?_
  refine zi_dup (dq dM_ranged 1 rfl) (by first | rfl | exact z_cr _) ?_
  refine ri_geti (zLs hL 0 rfl) (by decide) fM_146 (dq dM_ranged 2 rfl) ?_
  refine zi_iconst (v := 1) (dq dM_ranged 3 rfl) (by decide) ?_
  refine zi_iadd (dq dM_ranged 4 rfl) ?_
  refine ri_puti (zLs hL 0 rfl) (by decide) fM_146 (fun h => by cases h) rfl rfl (dq dM_ranged 5 rfl) ?_
  refine zi_aload_n 0 (dq dM_ranged 6 rfl) rfl ?_
  obtain ⟨v2, J3, hv2, h⟩ := q_b h
  refine zi_cVi0 (SM_numeral hL hv2 (d := d - 1) (by omega)) wM_numeral aM_206 iM_numeral sM_numeral (by omega) (zLs hL 0 rfl) rfl (Nat.le_of_ble_eq_true rfl) (dq dM_ranged 7 rfl) (fun _ _ hh => ?_)
  obtain ⟨rfl, rfl⟩ := hh
  refine zi_if_ne (tgt := 18) (dq dM_ranged 8 rfl) (by decide) (fun c => ?_) (fun c => ?_)
  · have h := q_f c h
    refine zi_aload_n 0 (dq dM_ranged 10 rfl) rfl ?_
    refine ri_getr (zLs hL 0 rfl) (zLr hL 4 rfl) fM_23 (dq dM_ranged 11 rfl) ?_
    refine zi_iload_n 1 (dq dM_ranged 12 rfl) rfl ?_
    refine zi_aload_n 0 (dq dM_ranged 13 rfl) rfl ?_
    refine ri_geti (zLs hL 0 rfl) (by decide) fM_203 (dq dM_ranged 14 rfl) ?_
    obtain ⟨c4, h⟩ := q_k h
    refine ri_iast (zLs hL 5 rfl) (by decide) rfl c4 (dq dM_ranged 15 rfl) ?_
    refine zi_aload_n 0 (dq dM_ranged 16 rfl) rfl ?_
    refine zi_bipush (v := 44) (dq dM_ranged 17 rfl) (by decide) ?_
    obtain ⟨v6, J7, hv6, h⟩ := q_b h
    refine zi_cVi1 (SM_need hL hv6 (d := d - 1) (by omega)) wM_need aM_170 iM_need sM_need (by omega) (zLs hL 0 rfl) rfl (Nat.le_of_ble_eq_true rfl) (dq dM_ranged 18 rfl) (fun _ _ hh => ?_)
    obtain ⟨rfl, rfl⟩ := hh
    refine zi_if_eq (tgt := 44) (dq dM_ranged 19 rfl) (by decide) (fun c => ?_) (fun c => ?_)
    · have h := q_t c h
      exact zi_return rfl (dq dM_ranged 23 rfl) (q_ru h)
    · have h := q_f c h
      refine zi_aload_n 0 (dq dM_ranged 20 rfl) rfl ?_
      obtain ⟨v8, J9, hv8, h⟩ := q_b h
      refine zi_cVi0 (SM_numeral hL hv8 (d := d - 1) (by omega)) wM_numeral aM_206 iM_numeral sM_numeral (by omega) (zLs hL 0 rfl) rfl (Nat.le_of_ble_eq_true rfl) (dq dM_ranged 21 rfl) (fun _ _ hh => ?_)
      obtain ⟨rfl, rfl⟩ := hh
      refine zi_if_ne (tgt := 45) (dq dM_ranged 22 rfl) (by decide) (fun c => ?_) (fun c => ?_)
      · have h := q_f c h
        refine zi_aload_n 0 (dq dM_ranged 24 rfl) rfl ?_
        refine ri_getr (zLs hL 0 rfl) (zLr hL 5 rfl) fM_26 (dq dM_ranged 25 rfl) ?_
        refine zi_iload_n 1 (dq dM_ranged 26 rfl) rfl ?_
        refine zi_aload_n 0 (dq dM_ranged 27 rfl) rfl ?_
        refine ri_geti (zLs hL 0 rfl) (by decide) fM_203 (dq dM_ranged 28 rfl) ?_
        obtain ⟨c10, h⟩ := q_k h
        refine ri_iast (zLs hL 6 rfl) (by decide) rfl c10 (dq dM_ranged 29 rfl) ?_
        refine zi_aload_n 0 (dq dM_ranged 30 rfl) rfl ?_
        refine ri_getr (zLs hL 0 rfl) (zLr hL 10 rfl) fM_41 (dq dM_ranged 31 rfl) ?_
        refine zi_iload_n 1 (dq dM_ranged 32 rfl) rfl ?_
        refine zi_iconst (v := 1) (dq dM_ranged 33 rfl) (by decide) ?_
        obtain ⟨c12, h⟩ := q_k h
        refine ri_zast (zLs hL 11 rfl) (by decide) rfl c12 (by decide) (dq dM_ranged 34 rfl) ?_
        refine zi_iload_n 2 (dq dM_ranged 35 rfl) rfl ?_
        refine zi_if_eq (tgt := 92) (dq dM_ranged 36 rfl) (by decide) (fun c => ?_) (fun c => ?_)
        · have h := q_t c h
          refine zi_aload_n 0 (dq dM_ranged 52 rfl) rfl ?_
          refine ri_getr (zLs hL 0 rfl) (zLr hL 4 rfl) fM_23 (dq dM_ranged 53 rfl) ?_
          refine zi_iload_n 1 (dq dM_ranged 54 rfl) rfl ?_
          obtain ⟨c14, h⟩ := q_k h
          refine ri_iald (zLs hL 5 rfl) (by decide) rfl c14 (dq dM_ranged 55 rfl) ?_
          refine zi_if_lt (tgt := 116) (dq dM_ranged 56 rfl) (by decide) (fun c => ?_) (fun c => ?_)
          · have h := q_t c h
            refine zi_iconst (v := 0) (dq dM_ranged 65 rfl) (by decide) ?_
            exact zG_lv (zs_c 0 rfl (zs_c 1 rfl zs_n)) (SM_ranged_117 hL h hd )
          · have h := q_f c h
            refine zi_aload_n 0 (dq dM_ranged 57 rfl) rfl ?_
            refine ri_getr (zLs hL 0 rfl) (zLr hL 5 rfl) fM_26 (dq dM_ranged 58 rfl) ?_
            refine zi_iload_n 1 (dq dM_ranged 59 rfl) rfl ?_
            obtain ⟨c15, h⟩ := q_k h
            refine ri_iald (zLs hL 6 rfl) (by decide) rfl c15 (dq dM_ranged 60 rfl) ?_
            refine zi_bipush (v := 20) (dq dM_ranged 61 rfl) (by decide) ?_
            refine zi_icmp_gt (tgt := 116) (dq dM_ranged 62 rfl) (by decide) (fun c => ?_) (fun c => ?_)
            · have h := q_t c h
              refine zi_iconst (v := 0) (dq dM_ranged 65 rfl) (by decide) ?_
              exact zG_lv (zs_c 0 rfl (zs_c 1 rfl zs_n)) (SM_ranged_117 hL h hd )
            · have h := q_f c h
              refine zi_iconst (v := 1) (dq dM_ranged 63 rfl) (by decide) ?_
              refine zi_goto (tgt := 117) (dq dM_ranged 64 rfl) (by decide) ?_
              exact zG_lv (zs_c 0 rfl (zs_c 1 rfl zs_n)) (SM_ranged_117 hL h hd )
        · have h := q_f c h
          refine zi_aload_n 0 (dq dM_ranged 37 rfl) rfl ?_
          refine ri_getr (zLs hL 0 rfl) (zLr hL 5 rfl) fM_26 (dq dM_ranged 38 rfl) ?_
          refine zi_iload_n 1 (dq dM_ranged 39 rfl) rfl ?_
          obtain ⟨c16, h⟩ := q_k h
          refine ri_iald (zLs hL 6 rfl) (by decide) rfl c16 (dq dM_ranged 40 rfl) ?_
          refine zi_aload_n 0 (dq dM_ranged 41 rfl) rfl ?_
          refine ri_getr (zLs hL 0 rfl) (zLr hL 4 rfl) fM_23 (dq dM_ranged 42 rfl) ?_
          refine zi_iload_n 1 (dq dM_ranged 43 rfl) rfl ?_
          obtain ⟨c17, h⟩ := q_k h
          refine ri_iald (zLs hL 5 rfl) (by decide) rfl c17 (dq dM_ranged 44 rfl) ?_
          refine zi_isub (dq dM_ranged 45 rfl) ?_
          refine zi_ldc (v := 65536) cM_210 (dq dM_ranged 46 rfl) ?_
          refine zi_icmp_ge (tgt := 88) (dq dM_ranged 47 rfl) (by decide) (fun c => ?_) (fun c => ?_)
          · have h := q_t c h
            refine zi_iconst (v := 0) (dq dM_ranged 50 rfl) (by decide) ?_
            refine zi_goto (tgt := 117) (dq dM_ranged 51 rfl) (by decide) ?_
            exact zG_lv (zs_c 0 rfl (zs_c 1 rfl zs_n)) (SM_ranged_117 hL h hd )
          · have h := q_f c h
            refine zi_iconst (v := 1) (dq dM_ranged 48 rfl) (by decide) ?_
            refine zi_goto (tgt := 117) (dq dM_ranged 49 rfl) (by decide) ?_
            exact zG_lv (zs_c 0 rfl (zs_c 1 rfl zs_n)) (SM_ranged_117 hL h hd )
      · have h := q_t c h
        exact zi_return rfl (dq dM_ranged 23 rfl) (q_ru h)
  · have h := q_t c h
    exact zi_return rfl (dq dM_ranged 9 rfl) (q_ru h)
def FM_tagged_104 (N : Nat) (l1 : Int32) (t1 : Int32) (t2 : Int32) (J : zJ) : Option (Int32 × zJ) :=
  let J1 := zu J 0 3 (t1 + t2)
  qk (qi l1 160) <|
  qk (qi l1 160) <|
  let J4 := zu J1 9 l1.toNatClampNeg (1 <<< ((20 + (J1 7 l1.toNatClampNeg)) &&& 31))
  qb (FM_need N 93 J4) fun v5 J6 =>
  if (bI v5) = 0 then
    some (((-1)), J6)
  else
    qb (FM_push N l1 J6) fun v7 J8 =>
    some (v7, J8)
theorem SM_tagged_104 {g : zg} {d N : Nat} {M0 : zM} {A : Nat} {r : Int32} {J1 : zJ} {J : zJ}  {l1 : Int32} {t1 : Int32} {t2 : Int32} (hL : zLy M0 A mShL mRf) (h : FM_tagged_104 N l1 t1 t2 J = some (r, J1)) (hd : 2 ≤ d)  : zG g d mM_tagged (zPq (rI r) (zmm M0 A 40 J1)) (zmm M0 A 40 J) 104 [(0, va_rf (some (A + 0))), (1, .int l1)] [.int t2, .int t1, va_rf (some (A + 0))] := by
  unfold FM_tagged_104 at h
  refine zi_iadd (dq dM_tagged 60 rfl) ?_
  refine ri_puti (zLs hL 0 rfl) (by decide) fM_146 (fun h => by cases h) rfl rfl (dq dM_tagged 61 rfl) ?_
  refine zi_aload_n 0 (dq dM_tagged 62 rfl) rfl ?_
  refine ri_getr (zLs hL 0 rfl) (zLr hL 8 rfl) fM_35 (dq dM_tagged 63 rfl) ?_
  refine zi_iload_n 1 (dq dM_tagged 64 rfl) rfl ?_
  refine zi_iconst (v := 1) (dq dM_tagged 65 rfl) (by decide) ?_
  refine zi_bipush (v := 20) (dq dM_tagged 66 rfl) (by decide) ?_
  refine zi_aload_n 0 (dq dM_tagged 67 rfl) rfl ?_
  refine ri_getr (zLs hL 0 rfl) (zLr hL 6 rfl) fM_29 (dq dM_tagged 68 rfl) ?_
  refine zi_iload_n 1 (dq dM_tagged 69 rfl) rfl ?_
  obtain ⟨c2, h⟩ := q_k h
  refine ri_iald (zLs hL 7 rfl) (by decide) rfl c2 (dq dM_tagged 70 rfl) ?_
  refine zi_iadd (dq dM_tagged 71 rfl) ?_
  refine zi_ishl (dq dM_tagged 72 rfl) ?_
  obtain ⟨c3, h⟩ := q_k h
  refine ri_iast (zLs hL 9 rfl) (by decide) rfl c3 (dq dM_tagged 73 rfl) ?_
  refine zi_aload_n 0 (dq dM_tagged 74 rfl) rfl ?_
  refine zi_bipush (v := 93) (dq dM_tagged 75 rfl) (by decide) ?_
  obtain ⟨v5, J6, hv5, h⟩ := q_b h
  refine zi_cVi1 (SM_need hL hv5 (d := d - 1) (by omega)) wM_need aM_170 iM_need sM_need (by omega) (zLs hL 0 rfl) rfl (Nat.le_of_ble_eq_true rfl) (dq dM_tagged 76 rfl) (fun _ _ hh => ?_)
  obtain ⟨rfl, rfl⟩ := hh
  refine zi_if_eq (tgt := 142) (dq dM_tagged 77 rfl) (by decide) (fun c => ?_) (fun c => ?_)
  · have h := q_t c h
    refine zi_iconst (v := (-1)) (dq dM_tagged 82 rfl) (by decide) ?_
    exact zi_ireturn rfl rfl (dq dM_tagged 83 rfl) (q_ri h)
  · have h := q_f c h
    refine zi_aload_n 0 (dq dM_tagged 78 rfl) rfl ?_
    refine zi_iload_n 1 (dq dM_tagged 79 rfl) rfl ?_
    obtain ⟨v7, J8, hv7, h⟩ := q_b h
    refine zi_cVi1 (SM_push hL hv7 (d := d - 1) (by omega)) wM_push aM_196 iM_push sM_push (by omega) (zLs hL 0 rfl) rfl (Nat.le_of_ble_eq_true rfl) (dq dM_tagged 80 rfl) (fun _ _ hh => ?_)
    obtain ⟨rfl, rfl⟩ := hh
    refine zi_goto (tgt := 143) (dq dM_tagged 81 rfl) (by decide) ?_
    exact zi_ireturn rfl rfl (dq dM_tagged 83 rfl) (q_ri h)
def FM_tagged_84 (N : Nat) (l1 : Int32) (t1 : Int32) (t2 : Int32) (J : zJ) : Option (Int32 × zJ) :=
  qz t2 fun b1 =>
  qk (qi t1 160) <|
  let J3 := zu J 12 t1.toNatClampNeg (bI b1)
  qk (qi l1 160) <|
  if (J3 12 l1.toNatClampNeg) = 0 then
    FM_tagged_104 N l1 (J3 0 3) 0 J3
  else
    FM_tagged_104 N l1 (J3 0 3) 1 J3
theorem SM_tagged_84 {g : zg} {d N : Nat} {M0 : zM} {A : Nat} {r : Int32} {J1 : zJ} {J : zJ}  {l1 : Int32} {t1 : Int32} {t2 : Int32} (hL : zLy M0 A mShL mRf) (h : FM_tagged_84 N l1 t1 t2 J = some (r, J1)) (hd : 2 ≤ d)  : zG g d mM_tagged (zPq (rI r) (zmm M0 A 40 J1)) (zmm M0 A 40 J) 84 [(0, va_rf (some (A + 0))), (1, .int l1)] [.int t2, .int t1, va_rf (some (A + 12))] := by
  unfold FM_tagged_84 at h
  obtain ⟨b1, eb1, h⟩ := q_z h
  refine zi_top eb1 ?_
  obtain ⟨c2, h⟩ := q_k h
  refine ri_zast (zLs hL 12 rfl) (by decide) rfl c2 (bI_nar _) (dq dM_tagged 48 rfl) ?_
  refine zi_aload_n 0 (dq dM_tagged 49 rfl) rfl ?_
  refine zi_dup (dq dM_tagged 50 rfl) (by first | rfl | exact z_cr _) ?_
  refine ri_geti (zLs hL 0 rfl) (by decide) fM_146 (dq dM_tagged 51 rfl) ?_
  refine zi_aload_n 0 (dq dM_tagged 52 rfl) rfl ?_
  refine ri_getr (zLs hL 0 rfl) (zLr hL 11 rfl) fM_45 (dq dM_tagged 53 rfl) ?_
  refine zi_iload_n 1 (dq dM_tagged 54 rfl) rfl ?_
  obtain ⟨c4, h⟩ := q_k h
  refine ri_zald (zLs hL 12 rfl) (by decide) rfl c4 (dq dM_tagged 55 rfl) ?_
  refine zi_if_eq (tgt := 103) (dq dM_tagged 56 rfl) (by decide) (fun c => ?_) (fun c => ?_)
  · have h := q_t c h
    refine zi_iconst (v := 0) (dq dM_tagged 59 rfl) (by decide) ?_
    exact zG_lv (zs_c 0 rfl (zs_c 1 rfl zs_n)) (SM_tagged_104 hL h hd )
  · have h := q_f c h
    refine zi_iconst (v := 1) (dq dM_tagged 57 rfl) (by decide) ?_
    refine zi_goto (tgt := 104) (dq dM_tagged 58 rfl) (by decide) ?_
    exact zG_lv (zs_c 0 rfl (zs_c 1 rfl zs_n)) (SM_tagged_104 hL h hd )
def FM_tagged (N : Nat) (J : zJ) : Option (Int32 × zJ) :=
  let J1 := zu J 0 3 ((J 0 3) + 1)
  qb (FM_add N 10 J1) fun v2 J3 =>
  qb (FM_look N J3) fun v4 J5 =>
  qk (qi v2 160) <|
  let J7 := zu J5 7 v2.toNatClampNeg (v4 - 48)
  qk (qi v2 160) <|
  qc (FM_in N (J7 7 v2.toNatClampNeg) 0 9) fun v9 =>
  if (bI v9) = 0 then
    qb (FM_stop N 1 (J7 0 3) J7) fun v13 J14 =>
    some (v13, J14)
  else
    let J10 := zu J7 0 3 ((J7 0 3) + 1)
    qb (FM_look N J10) fun v11 J12 =>
    if v11 = 33 then
      FM_tagged_84 N v2 v2 1 J12
    else
      FM_tagged_84 N v2 v2 0 J12
theorem SM_tagged {g : zg} {d N : Nat} {M0 : zM} {A : Nat} {r : Int32} {J1 : zJ} {J : zJ}  (hL : zLy M0 A mShL mRf) (h : FM_tagged N J = some (r, J1)) (hd : 2 ≤ d) : zEi g d mM_tagged [va_rf (some (A + 0))] (zmm M0 A 40 J) (fun v Mq => v = r ∧ Mq = zmm M0 A 40 J1) := by
  unfold FM_tagged at h
  refine zEi_q (r := r) (lv := [(0, va_rf (some (A + 0)))]) ⟨by decide +kernel, by decide, by decide +kernel⟩ (by simp [z_cr, z_ci]) (Nat.le_of_ble_eq_true rfl) rfl ?_
  refine zi_aload_n 0 (dq dM_tagged 0 rfl) rfl ?_
  refine zi_dup (dq dM_tagged 1 rfl) (by first | rfl | exact z_cr _) ?_
  refine ri_geti (zLs hL 0 rfl) (by decide) fM_146 (dq dM_tagged 2 rfl) ?_
  refine zi_iconst (v := 1) (dq dM_tagged 3 rfl) (by decide) ?_
  refine zi_iadd (dq dM_tagged 4 rfl) ?_
  refine ri_puti (zLs hL 0 rfl) (by decide) fM_146 (fun h => by cases h) rfl rfl (dq dM_tagged 5 rfl) ?_
  refine zi_aload_n 0 (dq dM_tagged 6 rfl) rfl ?_
  refine zi_bipush (v := 10) (dq dM_tagged 7 rfl) (by decide) ?_
  obtain ⟨v2, J3, hv2, h⟩ := q_b h
  refine zi_cVi1 (SM_add hL hv2 (d := d - 1) (by omega)) wM_add aM_193 iM_add sM_add (by omega) (zLs hL 0 rfl) rfl (Nat.le_of_ble_eq_true rfl) (dq dM_tagged 8 rfl) (fun _ _ hh => ?_)
  obtain ⟨rfl, rfl⟩ := hh
  refine zi_istC_n (lv' := [(1, _), (0, _)]) (dq dM_tagged 9 rfl) (by decide) (by simp [z_cr, z_ci]) rfl ?_
  refine zi_aload_n 1 (dq dM_tagged 10 rfl) rfl ?_
  refine ri_getr (zLs hL 0 rfl) (zLr hL 6 rfl) fM_29 (dq dM_tagged 11 rfl) ?_
  refine zi_iload_n 0 (dq dM_tagged 12 rfl) rfl ?_
  refine zi_aload_n 1 (dq dM_tagged 13 rfl) rfl ?_
  obtain ⟨v4, J5, hv4, h⟩ := q_b h
  refine zi_cVi0 (SM_look hL hv4 (d := d - 1) (by omega)) wM_look aM_152 iM_look sM_look (by omega) (zLs hL 0 rfl) rfl (Nat.le_of_ble_eq_true rfl) (dq dM_tagged 14 rfl) (fun _ _ hh => ?_)
  obtain ⟨rfl, rfl⟩ := hh
  refine zi_bipush (v := 48) (dq dM_tagged 15 rfl) (by decide) ?_
  refine zi_isub (dq dM_tagged 16 rfl) ?_
  obtain ⟨c6, h⟩ := q_k h
  refine ri_iast (zLs hL 7 rfl) (by decide) rfl c6 (dq dM_tagged 17 rfl) ?_
  refine zi_aload_n 1 (dq dM_tagged 18 rfl) rfl ?_
  refine ri_getr (zLs hL 0 rfl) (zLr hL 6 rfl) fM_29 (dq dM_tagged 19 rfl) ?_
  refine zi_iload_n 0 (dq dM_tagged 20 rfl) rfl ?_
  obtain ⟨c8, h⟩ := q_k h
  refine ri_iald (zLs hL 7 rfl) (by decide) rfl c8 (dq dM_tagged 21 rfl) ?_
  refine zi_iconst (v := 0) (dq dM_tagged 22 rfl) (by decide) ?_
  refine zi_bipush (v := 9) (dq dM_tagged 23 rfl) (by decide) ?_
  obtain ⟨v9, hv9, h⟩ := q_c h
  refine zi_cSi3 (SM_in  hv9 (d := d - 1) (by omega)) wM_in aM_166 tM_in (by omega) (Nat.le_of_ble_eq_true rfl) (dq dM_tagged 24 rfl) (fun _ _ hh => ?_)
  obtain ⟨rfl, rfl⟩ := hh
  refine zi_if_ne (tgt := 55) (dq dM_tagged 25 rfl) (by decide) (fun c => ?_) (fun c => ?_)
  · have h := q_f c h
    refine zi_aload_n 1 (dq dM_tagged 32 rfl) rfl ?_
    refine zi_dup (dq dM_tagged 33 rfl) (by first | rfl | exact z_cr _) ?_
    refine ri_geti (zLs hL 0 rfl) (by decide) fM_146 (dq dM_tagged 34 rfl) ?_
    refine zi_iconst (v := 1) (dq dM_tagged 35 rfl) (by decide) ?_
    refine zi_iadd (dq dM_tagged 36 rfl) ?_
    refine ri_puti (zLs hL 0 rfl) (by decide) fM_146 (fun h => by cases h) rfl rfl (dq dM_tagged 37 rfl) ?_
    refine zi_aload_n 1 (dq dM_tagged 38 rfl) rfl ?_
    refine ri_getr (zLs hL 0 rfl) (zLr hL 11 rfl) fM_45 (dq dM_tagged 39 rfl) ?_
    refine zi_iload_n 0 (dq dM_tagged 40 rfl) rfl ?_
    refine zi_aload_n 1 (dq dM_tagged 41 rfl) rfl ?_
    obtain ⟨v11, J12, hv11, h⟩ := q_b h
    refine zi_cVi0 (SM_look hL hv11 (d := d - 1) (by omega)) wM_look aM_152 iM_look sM_look (by omega) (zLs hL 0 rfl) rfl (Nat.le_of_ble_eq_true rfl) (dq dM_tagged 42 rfl) (fun _ _ hh => ?_)
    obtain ⟨rfl, rfl⟩ := hh
    refine zi_bipush (v := 33) (dq dM_tagged 43 rfl) (by decide) ?_
    refine zi_icmp_ne (tgt := 83) (dq dM_tagged 44 rfl) (by decide) (fun c => ?_) (fun c => ?_)
    · have h := q_f c h
      refine zi_iconst (v := 0) (dq dM_tagged 47 rfl) (by decide) ?_
      exact zG_lv (zs_c 1 rfl (zs_c 0 rfl zs_n)) (SM_tagged_84 hL h hd )
    · have h := q_t c h
      refine zi_iconst (v := 1) (dq dM_tagged 45 rfl) (by decide) ?_
      refine zi_goto (tgt := 84) (dq dM_tagged 46 rfl) (by decide) ?_
      exact zG_lv (zs_c 1 rfl (zs_c 0 rfl zs_n)) (SM_tagged_84 hL h hd )
  · have h := q_t c h
    refine zi_aload_n 1 (dq dM_tagged 26 rfl) rfl ?_
    refine zi_iconst (v := 1) (dq dM_tagged 27 rfl) (by decide) ?_
    refine zi_aload_n 1 (dq dM_tagged 28 rfl) rfl ?_
    refine ri_geti (zLs hL 0 rfl) (by decide) fM_146 (dq dM_tagged 29 rfl) ?_
    obtain ⟨v13, J14, hv13, h⟩ := q_b h
    refine zi_cVi2 (SM_stop hL hv13 (d := d - 1) (by omega)) wM_stop aM_156 iM_stop sM_stop (by omega) (zLs hL 0 rfl) rfl (Nat.le_of_ble_eq_true rfl) (dq dM_tagged 30 rfl) (fun _ _ hh => ?_)
    obtain ⟨rfl, rfl⟩ := hh
    exact zi_ireturn rfl rfl (dq dM_tagged 31 rfl) (q_ri h)
def FM_begin_198 (N : Nat) (l3 : Int32) (J : zJ) : Option (Int32 × zJ) :=
  qb (FM_push N l3 J) fun v1 J2 =>
  some (v1, J2)
theorem SM_begin_198 {g : zg} {d N : Nat} {M0 : zM} {A : Nat} {r : Int32} {J1 : zJ} {J : zJ}  {l3 : Int32} (hL : zLy M0 A mShL mRf) (h : FM_begin_198 N l3 J = some (r, J1)) (hd : 3 ≤ d)  : zG g d mM_begin (zPq (rI r) (zmm M0 A 40 J1)) (zmm M0 A 40 J) 198 [(0, va_rf (some (A + 0))), (3, .int l3)] [] := by
  unfold FM_begin_198 at h
  refine zi_aload_n 0 (dq dM_begin 104 rfl) rfl ?_
  refine zi_iload_n 1 (dq dM_begin 105 rfl) rfl ?_
  obtain ⟨v1, J2, hv1, h⟩ := q_b h
  refine zi_cVi1 (SM_push hL hv1 (d := d - 1) (by omega)) wM_push aM_196 iM_push sM_push (by omega) (zLs hL 0 rfl) rfl (Nat.le_of_ble_eq_true rfl) (dq dM_begin 106 rfl) (fun _ _ hh => ?_)
  obtain ⟨rfl, rfl⟩ := hh
  exact zi_ireturn rfl rfl (dq dM_begin 107 rfl) (q_ri h)
def FM_begin_172 (N : Nat) (l2 : Int32) (l3 : Int32) (J : zJ) : Option (Int32 × zJ) :=
  qb (FM_need N 123 J) fun v1 J2 =>
  if (bI v1) = 0 then
    some (((-1)), J2)
  else
    if l2 = 9 then
      FM_begin_198 N l3 J2
    else
      qb (FM_look N J2) fun v3 J4 =>
      if v3 = 125 then
        let J5 := zu J4 0 3 ((J4 0 3) + 1)
        some (l3, J5)
      else
        FM_begin_198 N l3 J4
theorem SM_begin_172 {g : zg} {d N : Nat} {M0 : zM} {A : Nat} {r : Int32} {J1 : zJ} {J : zJ}  {l2 : Int32} {l3 : Int32} (hL : zLy M0 A mShL mRf) (h : FM_begin_172 N l2 l3 J = some (r, J1)) (hd : 3 ≤ d)  : zG g d mM_begin (zPq (rI r) (zmm M0 A 40 J1)) (zmm M0 A 40 J) 172 [(0, va_rf (some (A + 0))), (2, .int l2), (3, .int l3)] [] := by
  unfold FM_begin_172 at h
  refine zi_aload_n 0 (dq dM_begin 91 rfl) rfl ?_
  refine zi_bipush (v := 123) (dq dM_begin 92 rfl) (by decide) ?_
  obtain ⟨v1, J2, hv1, h⟩ := q_b h
  refine zi_cVi1 (SM_need hL hv1 (d := d - 1) (by omega)) wM_need aM_170 iM_need sM_need (by omega) (zLs hL 0 rfl) rfl (Nat.le_of_ble_eq_true rfl) (dq dM_begin 93 rfl) (fun _ _ hh => ?_)
  obtain ⟨rfl, rfl⟩ := hh
  refine zi_if_ne (tgt := 183) (dq dM_begin 94 rfl) (by decide) (fun c => ?_) (fun c => ?_)
  · have h := q_f c h
    refine zi_iload_n 1 (dq dM_begin 97 rfl) rfl ?_
    refine zi_bipush (v := 9) (dq dM_begin 98 rfl) (by decide) ?_
    refine zi_icmp_eq (tgt := 198) (dq dM_begin 99 rfl) (by decide) (fun c => ?_) (fun c => ?_)
    · have h := q_t c h
      exact zG_lv (zs_c 0 rfl (zs_c 2 rfl zs_n)) (SM_begin_198 hL h hd )
    · have h := q_f c h
      refine zi_aload_n 0 (dq dM_begin 100 rfl) rfl ?_
      obtain ⟨v3, J4, hv3, h⟩ := q_b h
      refine zi_cVi0 (SM_look hL hv3 (d := d - 1) (by omega)) wM_look aM_152 iM_look sM_look (by omega) (zLs hL 0 rfl) rfl (Nat.le_of_ble_eq_true rfl) (dq dM_begin 101 rfl) (fun _ _ hh => ?_)
      obtain ⟨rfl, rfl⟩ := hh
      refine zi_bipush (v := 125) (dq dM_begin 102 rfl) (by decide) ?_
      refine zi_icmp_eq (tgt := 204) (dq dM_begin 103 rfl) (by decide) (fun c => ?_) (fun c => ?_)
      · have h := q_t c h
        refine zi_aload_n 0 (dq dM_begin 108 rfl) rfl ?_
        refine zi_dup (dq dM_begin 109 rfl) (by first | rfl | exact z_cr _) ?_
        refine ri_geti (zLs hL 0 rfl) (by decide) fM_146 (dq dM_begin 110 rfl) ?_
        refine zi_iconst (v := 1) (dq dM_begin 111 rfl) (by decide) ?_
        refine zi_iadd (dq dM_begin 112 rfl) ?_
        refine ri_puti (zLs hL 0 rfl) (by decide) fM_146 (fun h => by cases h) rfl rfl (dq dM_begin 113 rfl) ?_
        refine zi_iload_n 2 (dq dM_begin 114 rfl) rfl ?_
        exact zi_ireturn rfl rfl (dq dM_begin 115 rfl) (q_ri h)
      · have h := q_f c h
        exact zG_lv (zs_c 0 rfl (zs_c 2 rfl zs_n)) (SM_begin_198 hL h hd )
  · have h := q_t c h
    refine zi_iconst (v := (-1)) (dq dM_begin 95 rfl) (by decide) ?_
    exact zi_ireturn rfl rfl (dq dM_begin 96 rfl) (q_ri h)
def FM_begin_250 (N : Nat) (l2 : Int32) (l3 : Int32) (J : zJ) : Option (Int32 × zJ) :=
  if (J 0 4) ≤ 0 then
    if l2 = 7 then
      qb (FM_push N l3 J) fun v1 J2 =>
      some (v1, J2)
    else
      some (l3, J)
  else
    some (((-1)), J)
theorem SM_begin_250 {g : zg} {d N : Nat} {M0 : zM} {A : Nat} {r : Int32} {J1 : zJ} {J : zJ}  {l2 : Int32} {l3 : Int32} (hL : zLy M0 A mShL mRf) (h : FM_begin_250 N l2 l3 J = some (r, J1)) (hd : 3 ≤ d)  : zG g d mM_begin (zPq (rI r) (zmm M0 A 40 J1)) (zmm M0 A 40 J) 250 [(0, va_rf (some (A + 0))), (2, .int l2), (3, .int l3)] [] := by
  unfold FM_begin_250 at h
  refine zi_aload_n 0 (dq dM_begin 135 rfl) rfl ?_
  refine ri_geti (zLs hL 0 rfl) (by decide) fM_149 (dq dM_begin 136 rfl) ?_
  refine zi_if_le (tgt := 261) (dq dM_begin 137 rfl) (by decide) (fun c => ?_) (fun c => ?_)
  · have h := q_t c h
    refine zi_iload_n 1 (dq dM_begin 140 rfl) rfl ?_
    refine zi_bipush (v := 7) (dq dM_begin 141 rfl) (by decide) ?_
    refine zi_icmp_ne (tgt := 275) (dq dM_begin 142 rfl) (by decide) (fun c => ?_) (fun c => ?_)
    · have h := q_f c h
      refine zi_iload_n 2 (dq dM_begin 147 rfl) rfl ?_
      exact zi_ireturn rfl rfl (dq dM_begin 148 rfl) (q_ri h)
    · have h := q_t c h
      refine zi_aload_n 0 (dq dM_begin 143 rfl) rfl ?_
      refine zi_iload_n 2 (dq dM_begin 144 rfl) rfl ?_
      obtain ⟨v1, J2, hv1, h⟩ := q_b h
      refine zi_cVi1 (SM_push hL hv1 (d := d - 1) (by omega)) wM_push aM_196 iM_push sM_push (by omega) (zLs hL 0 rfl) rfl (Nat.le_of_ble_eq_true rfl) (dq dM_begin 145 rfl) (fun _ _ hh => ?_)
      obtain ⟨rfl, rfl⟩ := hh
      refine zi_goto (tgt := 276) (dq dM_begin 146 rfl) (by decide) ?_
      exact zi_ireturn rfl rfl (dq dM_begin 148 rfl) (q_ri h)
  · have h := q_f c h
    refine zi_iconst (v := (-1)) (dq dM_begin 138 rfl) (by decide) ?_
    refine zi_goto (tgt := 276) (dq dM_begin 139 rfl) (by decide) ?_
    exact zi_ireturn rfl rfl (dq dM_begin 148 rfl) (q_ri h)
def FM_begin_247 (N : Nat) (l2 : Int32) (l3 : Int32) (t1 : Int32) (t2 : Int32) (J : zJ) : Option (Int32 × zJ) :=
  qb (FM_ranged N t1 t2 J) fun v1 J2 =>
  FM_begin_250 N l2 l3 J2
theorem SM_begin_247 {g : zg} {d N : Nat} {M0 : zM} {A : Nat} {r : Int32} {J1 : zJ} {J : zJ}  {l2 : Int32} {l3 : Int32} {t1 : Int32} {t2 : Int32} (hL : zLy M0 A mShL mRf) (h : FM_begin_247 N l2 l3 t1 t2 J = some (r, J1)) (hd : 3 ≤ d)  : zG g d mM_begin (zPq (rI r) (zmm M0 A 40 J1)) (zmm M0 A 40 J) 247 [(0, va_rf (some (A + 0))), (2, .int l2), (3, .int l3)] [.int t2, .int t1, va_rf (some (A + 0))] := by
  unfold FM_begin_247 at h
  obtain ⟨v1, J2, hv1, h⟩ := q_b h
  refine zi_cVv2 (SM_ranged hL hv1 (d := d - 1) (by omega)) wM_ranged aM_199 iM_ranged sM_ranged (by omega) (zLs hL 0 rfl) rfl (Nat.le_of_ble_eq_true rfl) (dq dM_begin 134 rfl) (fun _ hh => ?_)
  subst hh
  exact zG_lv (zs_c 0 rfl (zs_c 1 rfl (zs_c 2 rfl zs_n))) (SM_begin_250 hL h hd )
def FM_begin_110 (N : Nat) (t0 : Int32) (J : zJ) : Option (Int32 × zJ) :=
  if t0 = 0 then
    qb (FM_stop N 1 (J 0 3) J) fun v8 J9 =>
    some (v8, J9)
  else
    if (J 0 5) < 6 then
      let J1 := zu J 0 3 ((J 0 3) + 1)
      qb (FM_add N t0 J1) fun v2 J3 =>
      if t0 = 6 then
        FM_begin_172 N t0 v2 J3
      else
        if t0 = 9 then
          FM_begin_172 N t0 v2 J3
        else
          if t0 = 1 then
            FM_begin_250 N t0 v2 J3
          else
            if t0 = 5 then
              FM_begin_250 N t0 v2 J3
            else
              qb (FM_look N J3) fun v4 J5 =>
              if v4 = 40 then
                if t0 = 2 then
                  FM_begin_247 N t0 v2 v2 1 J5
                else
                  FM_begin_247 N t0 v2 v2 0 J5
              else
                FM_begin_250 N t0 v2 J5
    else
      qb (FM_stop N 5 (J 0 3) J) fun v6 J7 =>
      some (v6, J7)
theorem SM_begin_110 {g : zg} {d N : Nat} {M0 : zM} {A : Nat} {r : Int32} {J1 : zJ} {J : zJ}  {t0 : Int32} (hL : zLy M0 A mShL mRf) (h : FM_begin_110 N t0 J = some (r, J1)) (hd : 3 ≤ d)  : zG g d mM_begin (zPq (rI r) (zmm M0 A 40 J1)) (zmm M0 A 40 J) 110 [(0, va_rf (some (A + 0)))] [.int t0] := by
  unfold FM_begin_110 at h
  refine zi_istC_n (lv' := [(2, _), (0, _)]) (dq dM_begin 56 rfl) (by decide) (by simp [z_cr, z_ci]) rfl ?_
  refine zi_iload_n 0 (dq dM_begin 57 rfl) rfl ?_
  refine zi_if_ne (tgt := 125) (dq dM_begin 58 rfl) (by decide) (fun c => ?_) (fun c => ?_)
  · have h := q_f c h
    refine zi_aload_n 1 (dq dM_begin 65 rfl) rfl ?_
    refine ri_geti (zLs hL 0 rfl) (by decide) fM_177 (dq dM_begin 66 rfl) ?_
    refine zi_bipush (v := 6) (dq dM_begin 67 rfl) (by decide) ?_
    refine zi_icmp_lt (tgt := 144) (dq dM_begin 68 rfl) (by decide) (fun c => ?_) (fun c => ?_)
    · have h := q_t c h
      refine zi_aload_n 1 (dq dM_begin 75 rfl) rfl ?_
      refine zi_dup (dq dM_begin 76 rfl) (by first | rfl | exact z_cr _) ?_
      refine ri_geti (zLs hL 0 rfl) (by decide) fM_146 (dq dM_begin 77 rfl) ?_
      refine zi_iconst (v := 1) (dq dM_begin 78 rfl) (by decide) ?_
      refine zi_iadd (dq dM_begin 79 rfl) ?_
      refine ri_puti (zLs hL 0 rfl) (by decide) fM_146 (fun h => by cases h) rfl rfl (dq dM_begin 80 rfl) ?_
      refine zi_aload_n 1 (dq dM_begin 81 rfl) rfl ?_
      refine zi_iload_n 0 (dq dM_begin 82 rfl) rfl ?_
      obtain ⟨v2, J3, hv2, h⟩ := q_b h
      refine zi_cVi1 (SM_add hL hv2 (d := d - 1) (by omega)) wM_add aM_193 iM_add sM_add (by omega) (zLs hL 0 rfl) rfl (Nat.le_of_ble_eq_true rfl) (dq dM_begin 83 rfl) (fun _ _ hh => ?_)
      obtain ⟨rfl, rfl⟩ := hh
      refine zi_istC_n (lv' := [(3, _), (2, _), (0, _)]) (dq dM_begin 84 rfl) (by decide) (by simp [z_cr, z_ci]) rfl ?_
      refine zi_iload_n 1 (dq dM_begin 85 rfl) rfl ?_
      refine zi_bipush (v := 6) (dq dM_begin 86 rfl) (by decide) ?_
      refine zi_icmp_eq (tgt := 172) (dq dM_begin 87 rfl) (by decide) (fun c => ?_) (fun c => ?_)
      · have h := q_t c h
        exact zG_lv (zs_c 2 rfl (zs_c 1 rfl (zs_c 0 rfl zs_n))) (SM_begin_172 hL h hd )
      · have h := q_f c h
        refine zi_iload_n 1 (dq dM_begin 88 rfl) rfl ?_
        refine zi_bipush (v := 9) (dq dM_begin 89 rfl) (by decide) ?_
        refine zi_icmp_ne (tgt := 216) (dq dM_begin 90 rfl) (by decide) (fun c => ?_) (fun c => ?_)
        · have h := q_f c h
          refine zi_iload_n 1 (dq dM_begin 116 rfl) rfl ?_
          refine zi_iconst (v := 1) (dq dM_begin 117 rfl) (by decide) ?_
          refine zi_icmp_eq (tgt := 250) (dq dM_begin 118 rfl) (by decide) (fun c => ?_) (fun c => ?_)
          · have h := q_t c h
            exact zG_lv (zs_c 2 rfl (zs_c 1 rfl (zs_c 0 rfl zs_n))) (SM_begin_250 hL h hd )
          · have h := q_f c h
            refine zi_iload_n 1 (dq dM_begin 119 rfl) rfl ?_
            refine zi_iconst (v := 5) (dq dM_begin 120 rfl) (by decide) ?_
            refine zi_icmp_eq (tgt := 250) (dq dM_begin 121 rfl) (by decide) (fun c => ?_) (fun c => ?_)
            · have h := q_t c h
              exact zG_lv (zs_c 2 rfl (zs_c 1 rfl (zs_c 0 rfl zs_n))) (SM_begin_250 hL h hd )
            · have h := q_f c h
              refine zi_aload_n 2 (dq dM_begin 122 rfl) rfl ?_
              obtain ⟨v4, J5, hv4, h⟩ := q_b h
              refine zi_cVi0 (SM_look hL hv4 (d := d - 1) (by omega)) wM_look aM_152 iM_look sM_look (by omega) (zLs hL 0 rfl) rfl (Nat.le_of_ble_eq_true rfl) (dq dM_begin 123 rfl) (fun _ _ hh => ?_)
              obtain ⟨rfl, rfl⟩ := hh
              refine zi_bipush (v := 40) (dq dM_begin 124 rfl) (by decide) ?_
              refine zi_icmp_ne (tgt := 250) (dq dM_begin 125 rfl) (by decide) (fun c => ?_) (fun c => ?_)
              · have h := q_f c h
                exact zG_lv (zs_c 2 rfl (zs_c 1 rfl (zs_c 0 rfl zs_n))) (SM_begin_250 hL h hd )
              · have h := q_t c h
                refine zi_aload_n 2 (dq dM_begin 126 rfl) rfl ?_
                refine zi_iload_n 0 (dq dM_begin 127 rfl) rfl ?_
                refine zi_iload_n 1 (dq dM_begin 128 rfl) rfl ?_
                refine zi_iconst (v := 2) (dq dM_begin 129 rfl) (by decide) ?_
                refine zi_icmp_ne (tgt := 246) (dq dM_begin 130 rfl) (by decide) (fun c => ?_) (fun c => ?_)
                · have h := q_f c h
                  refine zi_iconst (v := 0) (dq dM_begin 133 rfl) (by decide) ?_
                  exact zG_lv (zs_c 2 rfl (zs_c 1 rfl (zs_c 0 rfl zs_n))) (SM_begin_247 hL h hd )
                · have h := q_t c h
                  refine zi_iconst (v := 1) (dq dM_begin 131 rfl) (by decide) ?_
                  refine zi_goto (tgt := 247) (dq dM_begin 132 rfl) (by decide) ?_
                  exact zG_lv (zs_c 2 rfl (zs_c 1 rfl (zs_c 0 rfl zs_n))) (SM_begin_247 hL h hd )
        · have h := q_t c h
          exact zG_lv (zs_c 2 rfl (zs_c 1 rfl (zs_c 0 rfl zs_n))) (SM_begin_172 hL h hd )
    · have h := q_f c h
      refine zi_aload_n 1 (dq dM_begin 69 rfl) rfl ?_
      refine zi_iconst (v := 5) (dq dM_begin 70 rfl) (by decide) ?_
      refine zi_aload_n 1 (dq dM_begin 71 rfl) rfl ?_
      refine ri_geti (zLs hL 0 rfl) (by decide) fM_146 (dq dM_begin 72 rfl) ?_
      obtain ⟨v6, J7, hv6, h⟩ := q_b h
      refine zi_cVi2 (SM_stop hL hv6 (d := d - 1) (by omega)) wM_stop aM_156 iM_stop sM_stop (by omega) (zLs hL 0 rfl) rfl (Nat.le_of_ble_eq_true rfl) (dq dM_begin 73 rfl) (fun _ _ hh => ?_)
      obtain ⟨rfl, rfl⟩ := hh
      exact zi_ireturn rfl rfl (dq dM_begin 74 rfl) (q_ri h)
  · have h := q_t c h
    refine zi_aload_n 1 (dq dM_begin 59 rfl) rfl ?_
    refine zi_iconst (v := 1) (dq dM_begin 60 rfl) (by decide) ?_
    refine zi_aload_n 1 (dq dM_begin 61 rfl) rfl ?_
    refine ri_geti (zLs hL 0 rfl) (by decide) fM_146 (dq dM_begin 62 rfl) ?_
    obtain ⟨v8, J9, hv8, h⟩ := q_b h
    refine zi_cVi2 (SM_stop hL hv8 (d := d - 1) (by omega)) wM_stop aM_156 iM_stop sM_stop (by omega) (zLs hL 0 rfl) rfl (Nat.le_of_ble_eq_true rfl) (dq dM_begin 63 rfl) (fun _ _ hh => ?_)
    obtain ⟨rfl, rfl⟩ := hh
    exact zi_ireturn rfl rfl (dq dM_begin 64 rfl) (q_ri h)
def FM_begin (N : Nat) (J : zJ) : Option (Int32 × zJ) :=
  qb (FM_look N J) fun v1 J2 =>
  if v1 = 91 then
    qb (FM_tagged N J2) fun v6 J7 =>
    some (v6, J7)
  else
    qc (FM_in N v1 65 90) fun v3 =>
    if (bI v3) = 0 then
      if v1 = 98 then
        FM_begin_110 N 1 J2
      else
        if v1 = 105 then
          FM_begin_110 N 2 J2
        else
          if v1 = 111 then
            FM_begin_110 N 4 J2
          else
            if v1 = 110 then
              FM_begin_110 N 5 J2
            else
              if v1 = 113 then
                FM_begin_110 N 6 J2
              else
                if v1 = 108 then
                  FM_begin_110 N 7 J2
                else
                  if v1 = 99 then
                    FM_begin_110 N 9 J2
                  else
                    FM_begin_110 N 0 J2
    else
      qb (FM_named N (v1 - 65) J2) fun v4 J5 =>
      some (v4, J5)
theorem SM_begin {g : zg} {d N : Nat} {M0 : zM} {A : Nat} {r : Int32} {J1 : zJ} {J : zJ}  (hL : zLy M0 A mShL mRf) (h : FM_begin N J = some (r, J1)) (hd : 3 ≤ d) : zEi g d mM_begin [va_rf (some (A + 0))] (zmm M0 A 40 J) (fun v Mq => v = r ∧ Mq = zmm M0 A 40 J1) := by
  unfold FM_begin at h
  refine zEi_q (r := r) (lv := [(0, va_rf (some (A + 0)))]) ⟨by decide +kernel, by decide, by decide +kernel⟩ (by simp [z_cr, z_ci]) (Nat.le_of_ble_eq_true rfl) rfl ?_
  refine zi_aload_n 0 (dq dM_begin 0 rfl) rfl ?_
  obtain ⟨v1, J2, hv1, h⟩ := q_b h
  refine zi_cVi0 (SM_look hL hv1 (d := d - 1) (by omega)) wM_look aM_152 iM_look sM_look (by omega) (zLs hL 0 rfl) rfl (Nat.le_of_ble_eq_true rfl) (dq dM_begin 1 rfl) (fun _ _ hh => ?_)
  obtain ⟨rfl, rfl⟩ := hh
  refine zi_istC_n (lv' := [(1, _), (0, _)]) (dq dM_begin 2 rfl) (by decide) (by simp [z_cr, z_ci]) rfl ?_
  refine zi_iload_n 0 (dq dM_begin 3 rfl) rfl ?_
  refine zi_bipush (v := 91) (dq dM_begin 4 rfl) (by decide) ?_
  refine zi_icmp_ne (tgt := 16) (dq dM_begin 5 rfl) (by decide) (fun c => ?_) (fun c => ?_)
  · have h := q_f c h
    refine zi_iload_n 0 (dq dM_begin 9 rfl) rfl ?_
    refine zi_bipush (v := 65) (dq dM_begin 10 rfl) (by decide) ?_
    refine zi_bipush (v := 90) (dq dM_begin 11 rfl) (by decide) ?_
    obtain ⟨v3, hv3, h⟩ := q_c h
    refine zi_cSi3 (SM_in  hv3 (d := d - 1) (by omega)) wM_in aM_166 tM_in (by omega) (Nat.le_of_ble_eq_true rfl) (dq dM_begin 12 rfl) (fun _ _ hh => ?_)
    obtain ⟨rfl, rfl⟩ := hh
    refine zi_if_eq (tgt := 36) (dq dM_begin 13 rfl) (by decide) (fun c => ?_) (fun c => ?_)
    · have h := q_t c h
      refine zi_iload_n 0 (dq dM_begin 20 rfl) rfl ?_
      refine zi_bipush (v := 98) (dq dM_begin 21 rfl) (by decide) ?_
      refine zi_icmp_ne (tgt := 46) (dq dM_begin 22 rfl) (by decide) (fun c => ?_) (fun c => ?_)
      · have h := q_f c h
        refine zi_iload_n 0 (dq dM_begin 25 rfl) rfl ?_
        refine zi_bipush (v := 105) (dq dM_begin 26 rfl) (by decide) ?_
        refine zi_icmp_ne (tgt := 56) (dq dM_begin 27 rfl) (by decide) (fun c => ?_) (fun c => ?_)
        · have h := q_f c h
          refine zi_iload_n 0 (dq dM_begin 30 rfl) rfl ?_
          refine zi_bipush (v := 111) (dq dM_begin 31 rfl) (by decide) ?_
          refine zi_icmp_ne (tgt := 66) (dq dM_begin 32 rfl) (by decide) (fun c => ?_) (fun c => ?_)
          · have h := q_f c h
            refine zi_iload_n 0 (dq dM_begin 35 rfl) rfl ?_
            refine zi_bipush (v := 110) (dq dM_begin 36 rfl) (by decide) ?_
            refine zi_icmp_ne (tgt := 76) (dq dM_begin 37 rfl) (by decide) (fun c => ?_) (fun c => ?_)
            · have h := q_f c h
              refine zi_iload_n 0 (dq dM_begin 40 rfl) rfl ?_
              refine zi_bipush (v := 113) (dq dM_begin 41 rfl) (by decide) ?_
              refine zi_icmp_ne (tgt := 87) (dq dM_begin 42 rfl) (by decide) (fun c => ?_) (fun c => ?_)
              · have h := q_f c h
                refine zi_iload_n 0 (dq dM_begin 45 rfl) rfl ?_
                refine zi_bipush (v := 108) (dq dM_begin 46 rfl) (by decide) ?_
                refine zi_icmp_ne (tgt := 98) (dq dM_begin 47 rfl) (by decide) (fun c => ?_) (fun c => ?_)
                · have h := q_f c h
                  refine zi_iload_n 0 (dq dM_begin 50 rfl) rfl ?_
                  refine zi_bipush (v := 99) (dq dM_begin 51 rfl) (by decide) ?_
                  refine zi_icmp_ne (tgt := 109) (dq dM_begin 52 rfl) (by decide) (fun c => ?_) (fun c => ?_)
                  · have h := q_f c h
                    refine zi_iconst (v := 0) (dq dM_begin 55 rfl) (by decide) ?_
                    exact zG_lv (zs_c 1 rfl zs_n) (SM_begin_110 hL h hd )
                  · have h := q_t c h
                    refine zi_bipush (v := 9) (dq dM_begin 53 rfl) (by decide) ?_
                    refine zi_goto (tgt := 110) (dq dM_begin 54 rfl) (by decide) ?_
                    exact zG_lv (zs_c 1 rfl zs_n) (SM_begin_110 hL h hd )
                · have h := q_t c h
                  refine zi_bipush (v := 7) (dq dM_begin 48 rfl) (by decide) ?_
                  refine zi_goto (tgt := 110) (dq dM_begin 49 rfl) (by decide) ?_
                  exact zG_lv (zs_c 1 rfl zs_n) (SM_begin_110 hL h hd )
              · have h := q_t c h
                refine zi_bipush (v := 6) (dq dM_begin 43 rfl) (by decide) ?_
                refine zi_goto (tgt := 110) (dq dM_begin 44 rfl) (by decide) ?_
                exact zG_lv (zs_c 1 rfl zs_n) (SM_begin_110 hL h hd )
            · have h := q_t c h
              refine zi_iconst (v := 5) (dq dM_begin 38 rfl) (by decide) ?_
              refine zi_goto (tgt := 110) (dq dM_begin 39 rfl) (by decide) ?_
              exact zG_lv (zs_c 1 rfl zs_n) (SM_begin_110 hL h hd )
          · have h := q_t c h
            refine zi_iconst (v := 4) (dq dM_begin 33 rfl) (by decide) ?_
            refine zi_goto (tgt := 110) (dq dM_begin 34 rfl) (by decide) ?_
            exact zG_lv (zs_c 1 rfl zs_n) (SM_begin_110 hL h hd )
        · have h := q_t c h
          refine zi_iconst (v := 2) (dq dM_begin 28 rfl) (by decide) ?_
          refine zi_goto (tgt := 110) (dq dM_begin 29 rfl) (by decide) ?_
          exact zG_lv (zs_c 1 rfl zs_n) (SM_begin_110 hL h hd )
      · have h := q_t c h
        refine zi_iconst (v := 1) (dq dM_begin 23 rfl) (by decide) ?_
        refine zi_goto (tgt := 110) (dq dM_begin 24 rfl) (by decide) ?_
        exact zG_lv (zs_c 1 rfl zs_n) (SM_begin_110 hL h hd )
    · have h := q_f c h
      refine zi_aload_n 1 (dq dM_begin 14 rfl) rfl ?_
      refine zi_iload_n 0 (dq dM_begin 15 rfl) rfl ?_
      refine zi_bipush (v := 65) (dq dM_begin 16 rfl) (by decide) ?_
      refine zi_isub (dq dM_begin 17 rfl) ?_
      obtain ⟨v4, J5, hv4, h⟩ := q_b h
      refine zi_cVi1 (SM_named hL hv4 (d := d - 1) (by omega)) wM_named aM_190 iM_named sM_named (by omega) (zLs hL 0 rfl) rfl (Nat.le_of_ble_eq_true rfl) (dq dM_begin 18 rfl) (fun _ _ hh => ?_)
      obtain ⟨rfl, rfl⟩ := hh
      exact zi_ireturn rfl rfl (dq dM_begin 19 rfl) (q_ri h)
  · have h := q_t c h
    refine zi_aload_n 1 (dq dM_begin 6 rfl) rfl ?_
    obtain ⟨v6, J7, hv6, h⟩ := q_b h
    refine zi_cVi0 (SM_tagged hL hv6 (d := d - 1) (by omega)) wM_tagged aM_187 iM_tagged sM_tagged (by omega) (zLs hL 0 rfl) rfl (Nat.le_of_ble_eq_true rfl) (dq dM_begin 7 rfl) (fun _ _ hh => ?_)
    obtain ⟨rfl, rfl⟩ := hh
    exact zi_ireturn rfl rfl (dq dM_begin 8 rfl) (q_ri h)
def FM_clashes_78 (N : Nat) (K10 : (Int32 × Int32 × Int32 × zJ) → Option (Bool × zJ)) (l1 : Int32) (l2 : Int32) (l3 : Int32) (l4 : Int32) (J : zJ) : Option (Bool × zJ) :=
  qk (qi l4 960) <|
  qk (qi (J 13 l4.toNatClampNeg) 160) <|
  let y3 := l3 ||| (J 9 (J 13 l4.toNatClampNeg).toNatClampNeg)
  let y4 := l4 + (1)
  K10 (l2, y3, y4, J)
theorem SM_clashes_78 {g : zg} {d N : Nat} {M0 : zM} {A : Nat} {r : Bool} {J1 : zJ} {J : zJ} {K10 : (Int32 × Int32 × Int32 × zJ) → Option (Bool × zJ)} {l1 : Int32} {l2 : Int32} {l3 : Int32} {l4 : Int32} (hL : zLy M0 A mShL mRf) (h : FM_clashes_78 N K10 l1 l2 l3 l4 J = some (r, J1)) (hd : 0 ≤ d) (hK10 : ∀ s, K10 s = some (r, J1) → zG g d mM_clashes (zPq (rB r) (zmm M0 A 40 J1)) (zmm M0 A 40 s.2.2.2) 10 [(0, va_rf (some (A + 0))), (1, .int l1), (2, .int s.1), (3, .int s.2.1), (4, .int s.2.2.1)] []) : zG g d mM_clashes (zPq (rB r) (zmm M0 A 40 J1)) (zmm M0 A 40 J) 78 [(0, va_rf (some (A + 0))), (1, .int l1), (2, .int l2), (3, .int l3), (4, .int l4)] [] := by
  unfold FM_clashes_78 at h
  refine zi_iload_n 3 (dq dM_clashes 47 rfl) rfl ?_
  refine zi_aload_n 0 (dq dM_clashes 48 rfl) rfl ?_
  refine ri_getr (zLs hL 0 rfl) (zLr hL 8 rfl) fM_35 (dq dM_clashes 49 rfl) ?_
  refine zi_aload_n 0 (dq dM_clashes 50 rfl) rfl ?_
  refine ri_getr (zLs hL 0 rfl) (zLr hL 12 rfl) fM_48 (dq dM_clashes 51 rfl) ?_
  refine zi_iload 4 (dq dM_clashes 52 rfl) rfl ?_
  obtain ⟨c1, h⟩ := q_k h
  refine ri_iald (zLs hL 13 rfl) (by decide) rfl c1 (dq dM_clashes 53 rfl) ?_
  obtain ⟨c2, h⟩ := q_k h
  refine ri_iald (zLs hL 9 rfl) (by decide) rfl c2 (dq dM_clashes 54 rfl) ?_
  refine zi_ior (dq dM_clashes 55 rfl) ?_
  refine zi_istC_n (lv' := [(3, _), (0, _), (1, _), (2, _), (4, _)]) (dq dM_clashes 56 rfl) (by decide) (by simp [z_cr, z_ci]) rfl ?_
  refine zi_iincC (v := _ + (1)) (lv' := [(4, _), (3, _), (0, _), (1, _), (2, _)]) 4 (dq dM_clashes 57 rfl) rfl rfl (by decide) (by simp [z_cr, z_ci]) rfl ?_
  refine zi_goto (tgt := 10) (dq dM_clashes 58 rfl) (by decide) ?_
  exact zG_lv (zs_c 2 rfl (zs_c 3 rfl (zs_c 4 rfl (zs_c 1 rfl (zs_c 0 rfl zs_n))))) (hK10 _ h)
def FM_clashes_52 (N : Nat) (K10 : (Int32 × Int32 × Int32 × zJ) → Option (Bool × zJ)) (l1 : Int32) (l3 : Int32) (l4 : Int32) (t0 : Int32) (J : zJ) : Option (Bool × zJ) :=
  qk (qi l1 160) <|
  if (J 4 l1.toNatClampNeg) = 6 then
    qk (qi l4 960) <|
    if (J 14 l4.toNatClampNeg) = 0 then
      let y3 := l4 + (1)
      K10 (t0, 0, y3, J)
    else
      FM_clashes_78 N K10 l1 t0 l3 l4 J
  else
    FM_clashes_78 N K10 l1 t0 l3 l4 J
theorem SM_clashes_52 {g : zg} {d N : Nat} {M0 : zM} {A : Nat} {r : Bool} {J1 : zJ} {J : zJ} {K10 : (Int32 × Int32 × Int32 × zJ) → Option (Bool × zJ)} {l1 : Int32} {l3 : Int32} {l4 : Int32} {t0 : Int32} (hL : zLy M0 A mShL mRf) (h : FM_clashes_52 N K10 l1 l3 l4 t0 J = some (r, J1)) (hd : 0 ≤ d) (hK10 : ∀ s, K10 s = some (r, J1) → zG g d mM_clashes (zPq (rB r) (zmm M0 A 40 J1)) (zmm M0 A 40 s.2.2.2) 10 [(0, va_rf (some (A + 0))), (1, .int l1), (2, .int s.1), (3, .int s.2.1), (4, .int s.2.2.1)] []) : zG g d mM_clashes (zPq (rB r) (zmm M0 A 40 J1)) (zmm M0 A 40 J) 52 [(0, va_rf (some (A + 0))), (1, .int l1), (3, .int l3), (4, .int l4)] [.int t0] := by
  unfold FM_clashes_52 at h
  refine zi_istC_n (lv' := [(2, _), (0, _), (1, _), (3, _), (4, _)]) (dq dM_clashes 33 rfl) (by decide) (by simp [z_cr, z_ci]) rfl ?_
  refine zi_aload_n 1 (dq dM_clashes 34 rfl) rfl ?_
  refine ri_getr (zLs hL 0 rfl) (zLr hL 3 rfl) fM_20 (dq dM_clashes 35 rfl) ?_
  refine zi_iload_n 2 (dq dM_clashes 36 rfl) rfl ?_
  obtain ⟨c1, h⟩ := q_k h
  refine ri_iald (zLs hL 4 rfl) (by decide) rfl c1 (dq dM_clashes 37 rfl) ?_
  refine zi_bipush (v := 6) (dq dM_clashes 38 rfl) (by decide) ?_
  refine zi_icmp_ne (tgt := 78) (dq dM_clashes 39 rfl) (by decide) (fun c => ?_) (fun c => ?_)
  · have h := q_f c h
    exact zG_lv (zs_c 1 rfl (zs_c 2 rfl (zs_c 0 rfl (zs_c 3 rfl (zs_c 4 rfl zs_n))))) (SM_clashes_78 hL h hd hK10)
  · have h := q_t c h
    refine zi_aload_n 1 (dq dM_clashes 40 rfl) rfl ?_
    refine ri_getr (zLs hL 0 rfl) (zLr hL 13 rfl) fM_51 (dq dM_clashes 41 rfl) ?_
    refine zi_iload 4 (dq dM_clashes 42 rfl) rfl ?_
    obtain ⟨c2, h⟩ := q_k h
    refine ri_iald (zLs hL 14 rfl) (by decide) rfl c2 (dq dM_clashes 43 rfl) ?_
    refine zi_if_ne (tgt := 78) (dq dM_clashes 44 rfl) (by decide) (fun c => ?_) (fun c => ?_)
    · have h := q_f c h
      exact zG_lv (zs_c 1 rfl (zs_c 2 rfl (zs_c 0 rfl (zs_c 3 rfl (zs_c 4 rfl zs_n))))) (SM_clashes_78 hL h hd hK10)
    · have h := q_t c h
      refine zi_iconst (v := 0) (dq dM_clashes 45 rfl) (by decide) ?_
      refine zi_goto (tgt := 92) (dq dM_clashes 46 rfl) (by decide) ?_
      refine zi_istC_n (lv' := [(3, _), (2, _), (0, _), (1, _), (4, _)]) (dq dM_clashes 56 rfl) (by decide) (by simp [z_cr, z_ci]) rfl ?_
      refine zi_iincC (v := _ + (1)) (lv' := [(4, _), (3, _), (2, _), (0, _), (1, _)]) 4 (dq dM_clashes 57 rfl) rfl rfl (by decide) (by simp [z_cr, z_ci]) rfl ?_
      refine zi_goto (tgt := 10) (dq dM_clashes 58 rfl) (by decide) ?_
      exact zG_lv (zs_c 3 rfl (zs_c 4 rfl (zs_c 2 rfl (zs_c 1 rfl (zs_c 0 rfl zs_n))))) (hK10 _ h)
def FM_clashes_10 (N : Nat) (l1 : Int32) (K10 : (Int32 × Int32 × Int32 × zJ) → Option (Bool × zJ)) (s : Int32 × Int32 × Int32 × zJ) : Option (Bool × zJ) :=
  let l2 := s.1
  let l3 := s.2.1
  let l4 := s.2.2.1
  let J := s.2.2.2
  qk (qi l1 160) <|
  if ((6 * l1) + (J 8 l1.toNatClampNeg)) ≤ l4 then
    qk (qi l1 160) <|
    if (J 4 l1.toNatClampNeg) = 9 then
      qk (qi l1 160) <|
      let J5 := zu J 9 l1.toNatClampNeg l3
      qz l2 fun b6 =>
      some (b6, J5)
    else
      qz l2 fun b3 =>
      some (b3, J)
  else
    if l2 = 0 then
      qk (qi l4 960) <|
      qk (qi (J 13 l4.toNatClampNeg) 160) <|
      if (l3 &&& (J 9 (J 13 l4.toNatClampNeg).toNatClampNeg)) = 0 then
        FM_clashes_52 N K10 l1 l3 l4 0 J
      else
        FM_clashes_52 N K10 l1 l3 l4 1 J
    else
      FM_clashes_52 N K10 l1 l3 l4 1 J
theorem SM_clashes_10 {g : zg} {d N : Nat} {M0 : zM} {A : Nat} {r : Bool} {J1 : zJ}  {l1 : Int32} (hL : zLy M0 A mShL mRf) (hd : 0 ≤ d)  : ∀ n s, qfix (FM_clashes_10 N l1) n s = some (r, J1) → zG g d mM_clashes (zPq (rB r) (zmm M0 A 40 J1)) (zmm M0 A 40 s.2.2.2) 10 [(0, va_rf (some (A + 0))), (1, .int l1), (2, .int s.1), (3, .int s.2.1), (4, .int s.2.2.1)] [] := by
  refine qfix_sound (fun K10 hK10 s h => ?_)
  unfold FM_clashes_10 at h
  refine zi_iload 4 (dq dM_clashes 8 rfl) rfl ?_
  refine zi_bipush (v := 6) (dq dM_clashes 9 rfl) (by decide) ?_
  refine zi_iload_n 1 (dq dM_clashes 10 rfl) rfl ?_
  refine zi_imul (dq dM_clashes 11 rfl) ?_
  refine zi_aload_n 0 (dq dM_clashes 12 rfl) rfl ?_
  refine ri_getr (zLs hL 0 rfl) (zLr hL 7 rfl) fM_32 (dq dM_clashes 13 rfl) ?_
  refine zi_iload_n 1 (dq dM_clashes 14 rfl) rfl ?_
  obtain ⟨c1, h⟩ := q_k h
  refine ri_iald (zLs hL 8 rfl) (by decide) rfl c1 (dq dM_clashes 15 rfl) ?_
  refine zi_iadd (dq dM_clashes 16 rfl) ?_
  refine zi_icmp_ge (tgt := 99) (dq dM_clashes 17 rfl) (by decide) (fun c => ?_) (fun c => ?_)
  · have h := q_t c h
    refine zi_aload_n 0 (dq dM_clashes 59 rfl) rfl ?_
    refine ri_getr (zLs hL 0 rfl) (zLr hL 3 rfl) fM_20 (dq dM_clashes 60 rfl) ?_
    refine zi_iload_n 1 (dq dM_clashes 61 rfl) rfl ?_
    obtain ⟨c2, h⟩ := q_k h
    refine ri_iald (zLs hL 4 rfl) (by decide) rfl c2 (dq dM_clashes 62 rfl) ?_
    refine zi_bipush (v := 9) (dq dM_clashes 63 rfl) (by decide) ?_
    refine zi_icmp_ne (tgt := 117) (dq dM_clashes 64 rfl) (by decide) (fun c => ?_) (fun c => ?_)
    · have h := q_f c h
      refine zi_iload_n 2 (dq dM_clashes 70 rfl) rfl ?_
      obtain ⟨b3, eb3, h⟩ := q_z h
      refine zi_top eb3 ?_
      exact zi_ireturn rfl (bI_nar _) (dq dM_clashes 71 rfl) (q_rb h)
    · have h := q_t c h
      refine zi_aload_n 0 (dq dM_clashes 65 rfl) rfl ?_
      refine ri_getr (zLs hL 0 rfl) (zLr hL 8 rfl) fM_35 (dq dM_clashes 66 rfl) ?_
      refine zi_iload_n 1 (dq dM_clashes 67 rfl) rfl ?_
      refine zi_iload_n 3 (dq dM_clashes 68 rfl) rfl ?_
      obtain ⟨c4, h⟩ := q_k h
      refine ri_iast (zLs hL 9 rfl) (by decide) rfl c4 (dq dM_clashes 69 rfl) ?_
      refine zi_iload_n 2 (dq dM_clashes 70 rfl) rfl ?_
      obtain ⟨b6, eb6, h⟩ := q_z h
      refine zi_top eb6 ?_
      exact zi_ireturn rfl (bI_nar _) (dq dM_clashes 71 rfl) (q_rb h)
  · have h := q_f c h
    refine zi_iload_n 2 (dq dM_clashes 18 rfl) rfl ?_
    refine zi_if_ne (tgt := 47) (dq dM_clashes 19 rfl) (by decide) (fun c => ?_) (fun c => ?_)
    · have h := q_f c h
      refine zi_iconst (v := 1) (dq dM_clashes 30 rfl) (by decide) ?_
      refine zi_goto (tgt := 52) (dq dM_clashes 31 rfl) (by decide) ?_
      exact zG_lv (zs_c 0 rfl (zs_c 1 rfl (zs_c 3 rfl (zs_c 4 rfl zs_n)))) (SM_clashes_52 hL h hd hK10)
    · have h := q_t c h
      refine zi_iload_n 3 (dq dM_clashes 20 rfl) rfl ?_
      refine zi_aload_n 0 (dq dM_clashes 21 rfl) rfl ?_
      refine ri_getr (zLs hL 0 rfl) (zLr hL 8 rfl) fM_35 (dq dM_clashes 22 rfl) ?_
      refine zi_aload_n 0 (dq dM_clashes 23 rfl) rfl ?_
      refine ri_getr (zLs hL 0 rfl) (zLr hL 12 rfl) fM_48 (dq dM_clashes 24 rfl) ?_
      refine zi_iload 4 (dq dM_clashes 25 rfl) rfl ?_
      obtain ⟨c7, h⟩ := q_k h
      refine ri_iald (zLs hL 13 rfl) (by decide) rfl c7 (dq dM_clashes 26 rfl) ?_
      obtain ⟨c8, h⟩ := q_k h
      refine ri_iald (zLs hL 9 rfl) (by decide) rfl c8 (dq dM_clashes 27 rfl) ?_
      refine zi_iand (dq dM_clashes 28 rfl) ?_
      refine zi_if_eq (tgt := 51) (dq dM_clashes 29 rfl) (by decide) (fun c => ?_) (fun c => ?_)
      · have h := q_t c h
        refine zi_iconst (v := 0) (dq dM_clashes 32 rfl) (by decide) ?_
        exact zG_lv (zs_c 0 rfl (zs_c 1 rfl (zs_c 3 rfl (zs_c 4 rfl zs_n)))) (SM_clashes_52 hL h hd hK10)
      · have h := q_f c h
        refine zi_iconst (v := 1) (dq dM_clashes 30 rfl) (by decide) ?_
        refine zi_goto (tgt := 52) (dq dM_clashes 31 rfl) (by decide) ?_
        exact zG_lv (zs_c 0 rfl (zs_c 1 rfl (zs_c 3 rfl (zs_c 4 rfl zs_n)))) (SM_clashes_52 hL h hd hK10)
def FM_clashes (N : Nat) (l1 : Int32) (J : zJ) : Option (Bool × zJ) :=
  let y1 := 6 * l1
  qfix (FM_clashes_10 N l1) N (0, 0, y1, J)
theorem SM_clashes {g : zg} {d N : Nat} {M0 : zM} {A : Nat} {r : Bool} {J1 : zJ} {J : zJ} {l1 : Int32} (hL : zLy M0 A mShL mRf) (h : FM_clashes N l1 J = some (r, J1)) (hd : 0 ≤ d) : zEi g d mM_clashes [va_rf (some (A + 0)), .int l1] (zmm M0 A 40 J) (fun v Mq => v = bI r ∧ Mq = zmm M0 A 40 J1) := by
  unfold FM_clashes at h
  refine zEb_q (r := r) (lv := [(0, va_rf (some (A + 0))), (1, .int l1)]) ⟨by decide +kernel, by decide, by decide +kernel⟩ (by simp [z_cr, z_ci]) (Nat.le_of_ble_eq_true rfl) rfl ?_
  refine zi_iconst (v := 0) (dq dM_clashes 0 rfl) (by decide) ?_
  refine zi_istC_n (lv' := [(2, _), (0, _), (1, _)]) (dq dM_clashes 1 rfl) (by decide) (by simp [z_cr, z_ci]) rfl ?_
  refine zi_iconst (v := 0) (dq dM_clashes 2 rfl) (by decide) ?_
  refine zi_istC_n (lv' := [(3, _), (2, _), (0, _), (1, _)]) (dq dM_clashes 3 rfl) (by decide) (by simp [z_cr, z_ci]) rfl ?_
  refine zi_bipush (v := 6) (dq dM_clashes 4 rfl) (by decide) ?_
  refine zi_iload_n 3 (dq dM_clashes 5 rfl) rfl ?_
  refine zi_imul (dq dM_clashes 6 rfl) ?_
  refine zi_istC (lv' := [(4, _), (3, _), (2, _), (0, _), (1, _)]) (dq dM_clashes 7 rfl) (by decide) (by simp [z_cr, z_ci]) rfl ?_
  exact zG_lv (zs_c 3 rfl (zs_c 4 rfl (zs_c 2 rfl (zs_c 1 rfl (zs_c 0 rfl zs_n))))) (SM_clashes_10 hL hd  _ _ h)
def FM_unwrap_200 (N : Nat) (K102 : (Int32 × zJ) → Option (Unit × zJ)) (l2 : Int32) (l3 : Int32) (l4 : Int32) (J : zJ) : Option (Unit × zJ) :=
  qk (qi (J 0 24) 16) <|
  let J2 := zu J 16 (J 0 24).toNatClampNeg (160 + l4)
  let J3 := zu J2 0 24 ((J2 0 24) + 1)
  K102 (l2, J3)
theorem SM_unwrap_200 {g : zg} {d N : Nat} {M0 : zM} {A : Nat} {r : Unit} {J1 : zJ} {J : zJ} {K102 : (Int32 × zJ) → Option (Unit × zJ)} {l2 : Int32} {l3 : Int32} {l4 : Int32} (hL : zLy M0 A mShL mRf) (h : FM_unwrap_200 N K102 l2 l3 l4 J = some (r, J1)) (hd : 1 ≤ d) (hK102 : ∀ s, K102 s = some (r, J1) → zG g d mM_unwrap (zPq (rU r) (zmm M0 A 40 J1)) (zmm M0 A 40 s.2) 102 [(0, va_rf (some (A + 0))), (2, .int s.1), (3, .int l3)] []) : zG g d mM_unwrap (zPq (rU r) (zmm M0 A 40 J1)) (zmm M0 A 40 J) 200 [(0, va_rf (some (A + 0))), (2, .int l2), (3, .int l3), (4, .int l4)] [] := by
  unfold FM_unwrap_200 at h
  refine zi_aload_n 0 (dq dM_unwrap 106 rfl) rfl ?_
  refine ri_getr (zLs hL 0 rfl) (zLr hL 15 rfl) fM_57 (dq dM_unwrap 107 rfl) ?_
  refine zi_aload_n 0 (dq dM_unwrap 108 rfl) rfl ?_
  refine ri_geti (zLs hL 0 rfl) (by decide) fM_225 (dq dM_unwrap 109 rfl) ?_
  refine zi_sipush (v := 160) (dq dM_unwrap 110 rfl) (by decide) ?_
  refine zi_iload 3 (dq dM_unwrap 111 rfl) rfl ?_
  refine zi_iadd (dq dM_unwrap 112 rfl) ?_
  obtain ⟨c1, h⟩ := q_k h
  refine ri_iast (zLs hL 16 rfl) (by decide) rfl c1 (dq dM_unwrap 113 rfl) ?_
  refine zi_aload_n 0 (dq dM_unwrap 114 rfl) rfl ?_
  refine zi_dup (dq dM_unwrap 115 rfl) (by first | rfl | exact z_cr _) ?_
  refine ri_geti (zLs hL 0 rfl) (by decide) fM_225 (dq dM_unwrap 116 rfl) ?_
  refine zi_iconst (v := 1) (dq dM_unwrap 117 rfl) (by decide) ?_
  refine zi_iadd (dq dM_unwrap 118 rfl) ?_
  refine ri_puti (zLs hL 0 rfl) (by decide) fM_225 (fun h => by cases h) rfl rfl (dq dM_unwrap 119 rfl) ?_
  refine zi_goto (tgt := 102) (dq dM_unwrap 120 rfl) (by decide) ?_
  exact zG_lv (zs_c 0 rfl (zs_c 1 rfl (zs_c 2 rfl zs_n))) (hK102 _ h)
def FM_unwrap_146 (N : Nat) (K102 : (Int32 × zJ) → Option (Unit × zJ)) (l2 : Int32) (l3 : Int32) (l4 : Int32) (t0 : Int32) (J : zJ) : Option (Unit × zJ) :=
  qk (qi l2 150) <|
  qk (qi (J 17 l2.toNatClampNeg) 160) <|
  if (J 12 (J 17 l2.toNatClampNeg).toNatClampNeg) = 0 then
    FM_unwrap_200 N K102 l2 l3 l4 J
  else
    if (J 0 24) ≤ 0 then
      FM_unwrap_200 N K102 l2 l3 l4 J
    else
      if t0 = 0 then
        qk (qi ((J 0 24) - 1) 16) <|
        let J4 := zu J 16 ((J 0 24) - 1).toNatClampNeg (128 + l4)
        K102 (l2, J4)
      else
        qk (qi ((J 0 24) - 1) 16) <|
        let J6 := zu J 16 ((J 0 24) - 1).toNatClampNeg (160 + l4)
        K102 (l2, J6)
theorem SM_unwrap_146 {g : zg} {d N : Nat} {M0 : zM} {A : Nat} {r : Unit} {J1 : zJ} {J : zJ} {K102 : (Int32 × zJ) → Option (Unit × zJ)} {l2 : Int32} {l3 : Int32} {l4 : Int32} {t0 : Int32} (hL : zLy M0 A mShL mRf) (h : FM_unwrap_146 N K102 l2 l3 l4 t0 J = some (r, J1)) (hd : 1 ≤ d) (hK102 : ∀ s, K102 s = some (r, J1) → zG g d mM_unwrap (zPq (rU r) (zmm M0 A 40 J1)) (zmm M0 A 40 s.2) 102 [(0, va_rf (some (A + 0))), (2, .int s.1), (3, .int l3)] []) : zG g d mM_unwrap (zPq (rU r) (zmm M0 A 40 J1)) (zmm M0 A 40 J) 146 [(0, va_rf (some (A + 0))), (2, .int l2), (3, .int l3), (4, .int l4)] [.int t0] := by
  unfold FM_unwrap_146 at h
  refine zi_istC (lv' := [(5, _), (0, _), (2, _), (3, _), (4, _)]) (dq dM_unwrap 79 rfl) (by decide) (by simp [z_cr, z_ci]) rfl ?_
  refine zi_aload_n 1 (dq dM_unwrap 80 rfl) rfl ?_
  refine ri_getr (zLs hL 0 rfl) (zLr hL 11 rfl) fM_45 (dq dM_unwrap 81 rfl) ?_
  refine zi_aload_n 1 (dq dM_unwrap 82 rfl) rfl ?_
  refine ri_getr (zLs hL 0 rfl) (zLr hL 16 rfl) fM_60 (dq dM_unwrap 83 rfl) ?_
  refine zi_iload_n 2 (dq dM_unwrap 84 rfl) rfl ?_
  obtain ⟨c1, h⟩ := q_k h
  refine ri_iald (zLs hL 17 rfl) (by decide) rfl c1 (dq dM_unwrap 85 rfl) ?_
  obtain ⟨c2, h⟩ := q_k h
  refine ri_zald (zLs hL 12 rfl) (by decide) rfl c2 (dq dM_unwrap 86 rfl) ?_
  refine zi_if_eq (tgt := 200) (dq dM_unwrap 87 rfl) (by decide) (fun c => ?_) (fun c => ?_)
  · have h := q_t c h
    exact zG_lv (zs_c 1 rfl (zs_c 2 rfl (zs_c 3 rfl (zs_c 4 rfl zs_n)))) (SM_unwrap_200 hL h hd hK102)
  · have h := q_f c h
    refine zi_aload_n 1 (dq dM_unwrap 88 rfl) rfl ?_
    refine ri_geti (zLs hL 0 rfl) (by decide) fM_225 (dq dM_unwrap 89 rfl) ?_
    refine zi_if_le (tgt := 200) (dq dM_unwrap 90 rfl) (by decide) (fun c => ?_) (fun c => ?_)
    · have h := q_t c h
      exact zG_lv (zs_c 1 rfl (zs_c 2 rfl (zs_c 3 rfl (zs_c 4 rfl zs_n)))) (SM_unwrap_200 hL h hd hK102)
    · have h := q_f c h
      refine zi_aload_n 1 (dq dM_unwrap 91 rfl) rfl ?_
      refine ri_getr (zLs hL 0 rfl) (zLr hL 15 rfl) fM_57 (dq dM_unwrap 92 rfl) ?_
      refine zi_aload_n 1 (dq dM_unwrap 93 rfl) rfl ?_
      refine ri_geti (zLs hL 0 rfl) (by decide) fM_225 (dq dM_unwrap 94 rfl) ?_
      refine zi_iconst (v := 1) (dq dM_unwrap 95 rfl) (by decide) ?_
      refine zi_isub (dq dM_unwrap 96 rfl) ?_
      refine zi_iload 0 (dq dM_unwrap 97 rfl) rfl ?_
      refine zi_if_eq (tgt := 190) (dq dM_unwrap 98 rfl) (by decide) (fun c => ?_) (fun c => ?_)
      · have h := q_t c h
        refine zi_sipush (v := 128) (dq dM_unwrap 101 rfl) (by decide) ?_
        refine zi_iload 4 (dq dM_unwrap 102 rfl) rfl ?_
        refine zi_iadd (dq dM_unwrap 103 rfl) ?_
        obtain ⟨c3, h⟩ := q_k h
        refine ri_iast (zLs hL 16 rfl) (by decide) rfl c3 (dq dM_unwrap 104 rfl) ?_
        refine zi_goto (tgt := 225) (dq dM_unwrap 105 rfl) (by decide) ?_
        refine zi_goto (tgt := 102) (dq dM_unwrap 120 rfl) (by decide) ?_
        exact zG_lv (zs_c 1 rfl (zs_c 2 rfl (zs_c 3 rfl zs_n))) (hK102 _ h)
      · have h := q_f c h
        refine zi_sipush (v := 160) (dq dM_unwrap 99 rfl) (by decide) ?_
        refine zi_goto (tgt := 193) (dq dM_unwrap 100 rfl) (by decide) ?_
        refine zi_iload 4 (dq dM_unwrap 102 rfl) rfl ?_
        refine zi_iadd (dq dM_unwrap 103 rfl) ?_
        obtain ⟨c5, h⟩ := q_k h
        refine ri_iast (zLs hL 16 rfl) (by decide) rfl c5 (dq dM_unwrap 104 rfl) ?_
        refine zi_goto (tgt := 225) (dq dM_unwrap 105 rfl) (by decide) ?_
        refine zi_goto (tgt := 102) (dq dM_unwrap 120 rfl) (by decide) ?_
        exact zG_lv (zs_c 1 rfl (zs_c 2 rfl (zs_c 3 rfl zs_n))) (hK102 _ h)
def FM_unwrap_102 (N : Nat) (l3 : Int32) (K102 : (Int32 × zJ) → Option (Unit × zJ)) (s : Int32 × zJ) : Option (Unit × zJ) :=
  let l2 := s.1
  let J := s.2
  if l2 ≤ 0 then
    some ((), J)
  else
    let y1 := l2 + (-1)
    qk (qi y1 150) <|
    qk (qi (J 17 y1.toNatClampNeg) 160) <|
    let y4 := J 7 (J 17 y1.toNatClampNeg).toNatClampNeg
    if 1 < (J 0 24) then
      FM_unwrap_146 N K102 y1 l3 y4 1 J
    else
      qc (FM_in N l3 6 9) fun v5 =>
      if (bI v5) = 0 then
        FM_unwrap_146 N K102 y1 l3 y4 0 J
      else
        FM_unwrap_146 N K102 y1 l3 y4 1 J
theorem SM_unwrap_102 {g : zg} {d N : Nat} {M0 : zM} {A : Nat} {r : Unit} {J1 : zJ}  {l3 : Int32} (hL : zLy M0 A mShL mRf) (hd : 1 ≤ d)  : ∀ n s, qfix (FM_unwrap_102 N l3) n s = some (r, J1) → zG g d mM_unwrap (zPq (rU r) (zmm M0 A 40 J1)) (zmm M0 A 40 s.2) 102 [(0, va_rf (some (A + 0))), (2, .int s.1), (3, .int l3)] [] := by
  refine qfix_sound (fun K102 hK102 s h => ?_)
  unfold FM_unwrap_102 at h
  refine zi_iload_n 1 (dq dM_unwrap 56 rfl) rfl ?_
  refine zi_if_le (tgt := 228) (dq dM_unwrap 57 rfl) (by decide) (fun c => ?_) (fun c => ?_)
  · have h := q_t c h
    exact zi_return rfl (dq dM_unwrap 121 rfl) (q_ru h)
  · have h := q_f c h
    refine zi_iincC (v := _ + (-1)) (lv' := [(2, _), (0, _), (3, _)]) 1 (dq dM_unwrap 58 rfl) rfl rfl (by decide) (by simp [z_cr, z_ci]) rfl ?_
    refine zi_aload_n 1 (dq dM_unwrap 59 rfl) rfl ?_
    refine ri_getr (zLs hL 0 rfl) (zLr hL 6 rfl) fM_29 (dq dM_unwrap 60 rfl) ?_
    refine zi_aload_n 1 (dq dM_unwrap 61 rfl) rfl ?_
    refine ri_getr (zLs hL 0 rfl) (zLr hL 16 rfl) fM_60 (dq dM_unwrap 62 rfl) ?_
    refine zi_iload_n 0 (dq dM_unwrap 63 rfl) rfl ?_
    obtain ⟨c2, h⟩ := q_k h
    refine ri_iald (zLs hL 17 rfl) (by decide) rfl c2 (dq dM_unwrap 64 rfl) ?_
    obtain ⟨c3, h⟩ := q_k h
    refine ri_iald (zLs hL 7 rfl) (by decide) rfl c3 (dq dM_unwrap 65 rfl) ?_
    refine zi_istC (lv' := [(4, _), (2, _), (0, _), (3, _)]) (dq dM_unwrap 66 rfl) (by decide) (by simp [z_cr, z_ci]) rfl ?_
    refine zi_aload_n 2 (dq dM_unwrap 67 rfl) rfl ?_
    refine ri_geti (zLs hL 0 rfl) (by decide) fM_225 (dq dM_unwrap 68 rfl) ?_
    refine zi_iconst (v := 1) (dq dM_unwrap 69 rfl) (by decide) ?_
    refine zi_icmp_gt (tgt := 141) (dq dM_unwrap 70 rfl) (by decide) (fun c => ?_) (fun c => ?_)
    · have h := q_t c h
      refine zi_iconst (v := 1) (dq dM_unwrap 76 rfl) (by decide) ?_
      refine zi_goto (tgt := 146) (dq dM_unwrap 77 rfl) (by decide) ?_
      exact zG_lv (zs_c 2 rfl (zs_c 1 rfl (zs_c 3 rfl (zs_c 0 rfl zs_n)))) (SM_unwrap_146 hL h hd hK102)
    · have h := q_f c h
      refine zi_iload_n 3 (dq dM_unwrap 71 rfl) rfl ?_
      refine zi_bipush (v := 6) (dq dM_unwrap 72 rfl) (by decide) ?_
      refine zi_bipush (v := 9) (dq dM_unwrap 73 rfl) (by decide) ?_
      obtain ⟨v5, hv5, h⟩ := q_c h
      refine zi_cSi3 (SM_in  hv5 (d := d - 1) (by omega)) wM_in aM_166 tM_in (by omega) (Nat.le_of_ble_eq_true rfl) (dq dM_unwrap 74 rfl) (fun _ _ hh => ?_)
      obtain ⟨rfl, rfl⟩ := hh
      refine zi_if_eq (tgt := 145) (dq dM_unwrap 75 rfl) (by decide) (fun c => ?_) (fun c => ?_)
      · have h := q_t c h
        refine zi_iconst (v := 0) (dq dM_unwrap 78 rfl) (by decide) ?_
        exact zG_lv (zs_c 2 rfl (zs_c 1 rfl (zs_c 3 rfl (zs_c 0 rfl zs_n)))) (SM_unwrap_146 hL h hd hK102)
      · have h := q_f c h
        refine zi_iconst (v := 1) (dq dM_unwrap 76 rfl) (by decide) ?_
        refine zi_goto (tgt := 146) (dq dM_unwrap 77 rfl) (by decide) ?_
        exact zG_lv (zs_c 2 rfl (zs_c 1 rfl (zs_c 3 rfl (zs_c 0 rfl zs_n)))) (SM_unwrap_146 hL h hd hK102)
def FM_unwrap_75 (N : Nat) (l2 : Int32) (l3 : Int32) (t1 : Int32) (J : zJ) : Option (Unit × zJ) :=
  let J1 := zu J 0 24 t1
  if l3 = 6 then
    qk (qi 0 16) <|
    let J3 := zu J1 16 (0 : Int32).toNatClampNeg 48
    qfix (FM_unwrap_102 N l3) N (l2, J3)
  else
    if l3 = 7 then
      qk (qi 0 16) <|
      let J7 := zu J1 16 (0 : Int32).toNatClampNeg 48
      qfix (FM_unwrap_102 N l3) N (l2, J7)
    else
      qk (qi 0 16) <|
      let J5 := zu J1 16 (0 : Int32).toNatClampNeg l3
      qfix (FM_unwrap_102 N l3) N (l2, J5)
theorem SM_unwrap_75 {g : zg} {d N : Nat} {M0 : zM} {A : Nat} {r : Unit} {J1 : zJ} {J : zJ}  {l2 : Int32} {l3 : Int32} {t1 : Int32} (hL : zLy M0 A mShL mRf) (h : FM_unwrap_75 N l2 l3 t1 J = some (r, J1)) (hd : 1 ≤ d)  : zG g d mM_unwrap (zPq (rU r) (zmm M0 A 40 J1)) (zmm M0 A 40 J) 75 [(0, va_rf (some (A + 0))), (2, .int l2), (3, .int l3)] [.int t1, va_rf (some (A + 0))] := by
  unfold FM_unwrap_75 at h
  refine ri_puti (zLs hL 0 rfl) (by decide) fM_225 (fun h => by cases h) rfl rfl (dq dM_unwrap 42 rfl) ?_
  refine zi_aload_n 0 (dq dM_unwrap 43 rfl) rfl ?_
  refine ri_getr (zLs hL 0 rfl) (zLr hL 15 rfl) fM_57 (dq dM_unwrap 44 rfl) ?_
  refine zi_iconst (v := 0) (dq dM_unwrap 45 rfl) (by decide) ?_
  refine zi_iload_n 2 (dq dM_unwrap 46 rfl) rfl ?_
  refine zi_bipush (v := 6) (dq dM_unwrap 47 rfl) (by decide) ?_
  refine zi_icmp_eq (tgt := 95) (dq dM_unwrap 48 rfl) (by decide) (fun c => ?_) (fun c => ?_)
  · have h := q_t c h
    refine zi_bipush (v := 48) (dq dM_unwrap 52 rfl) (by decide) ?_
    refine zi_goto (tgt := 101) (dq dM_unwrap 53 rfl) (by decide) ?_
    obtain ⟨c2, h⟩ := q_k h
    refine ri_iast (zLs hL 16 rfl) (by decide) rfl c2 (dq dM_unwrap 55 rfl) ?_
    exact zG_lv (zs_c 0 rfl (zs_c 1 rfl (zs_c 2 rfl zs_n))) (SM_unwrap_102 hL hd  _ _ h)
  · have h := q_f c h
    refine zi_iload_n 2 (dq dM_unwrap 49 rfl) rfl ?_
    refine zi_bipush (v := 7) (dq dM_unwrap 50 rfl) (by decide) ?_
    refine zi_icmp_ne (tgt := 100) (dq dM_unwrap 51 rfl) (by decide) (fun c => ?_) (fun c => ?_)
    · have h := q_f c h
      refine zi_iload_n 2 (dq dM_unwrap 54 rfl) rfl ?_
      obtain ⟨c4, h⟩ := q_k h
      refine ri_iast (zLs hL 16 rfl) (by decide) rfl c4 (dq dM_unwrap 55 rfl) ?_
      exact zG_lv (zs_c 0 rfl (zs_c 1 rfl (zs_c 2 rfl zs_n))) (SM_unwrap_102 hL hd  _ _ h)
    · have h := q_t c h
      refine zi_bipush (v := 48) (dq dM_unwrap 52 rfl) (by decide) ?_
      refine zi_goto (tgt := 101) (dq dM_unwrap 53 rfl) (by decide) ?_
      obtain ⟨c6, h⟩ := q_k h
      refine ri_iast (zLs hL 16 rfl) (by decide) rfl c6 (dq dM_unwrap 55 rfl) ?_
      exact zG_lv (zs_c 0 rfl (zs_c 1 rfl (zs_c 2 rfl zs_n))) (SM_unwrap_102 hL hd  _ _ h)
def FM_unwrap_7 (N : Nat) (K7 : (Int32 × zJ) → Option (Unit × zJ)) (s : Int32 × zJ) : Option (Unit × zJ) :=
  let l2 := s.1
  let J := s.2
  qk (qi (J 0 23) 160) <|
  if (J 4 (J 0 23).toNatClampNeg) = 10 then
    qk (qi l2 150) <|
    let J5 := zu J 17 l2.toNatClampNeg (J 0 23)
    let y6 := l2 + (1)
    qk (qi (6 * (J5 0 23)) 960) <|
    let J8 := zu J5 0 23 (J5 13 (6 * (J5 0 23)).toNatClampNeg)
    K7 (y6, J8)
  else
    qk (qi (J 0 23) 160) <|
    let y3 := J 4 (J 0 23).toNatClampNeg
    if y3 = 9 then
      FM_unwrap_75 N l2 y3 0 J
    else
      FM_unwrap_75 N l2 y3 1 J
theorem SM_unwrap_7 {g : zg} {d N : Nat} {M0 : zM} {A : Nat} {r : Unit} {J1 : zJ}   (hL : zLy M0 A mShL mRf) (hd : 1 ≤ d)  : ∀ n s, qfix (FM_unwrap_7 N) n s = some (r, J1) → zG g d mM_unwrap (zPq (rU r) (zmm M0 A 40 J1)) (zmm M0 A 40 s.2) 7 [(0, va_rf (some (A + 0))), (2, .int s.1)] [] := by
  refine qfix_sound (fun K7 hK7 s h => ?_)
  unfold FM_unwrap_7 at h
  refine zi_aload_n 0 (dq dM_unwrap 5 rfl) rfl ?_
  refine ri_getr (zLs hL 0 rfl) (zLr hL 3 rfl) fM_20 (dq dM_unwrap 6 rfl) ?_
  refine zi_aload_n 0 (dq dM_unwrap 7 rfl) rfl ?_
  refine ri_geti (zLs hL 0 rfl) (by decide) fM_222 (dq dM_unwrap 8 rfl) ?_
  obtain ⟨c1, h⟩ := q_k h
  refine ri_iald (zLs hL 4 rfl) (by decide) rfl c1 (dq dM_unwrap 9 rfl) ?_
  refine zi_bipush (v := 10) (dq dM_unwrap 10 rfl) (by decide) ?_
  refine zi_icmp_ne (tgt := 53) (dq dM_unwrap 11 rfl) (by decide) (fun c => ?_) (fun c => ?_)
  · have h := q_f c h
    refine zi_aload_n 0 (dq dM_unwrap 29 rfl) rfl ?_
    refine ri_getr (zLs hL 0 rfl) (zLr hL 3 rfl) fM_20 (dq dM_unwrap 30 rfl) ?_
    refine zi_aload_n 0 (dq dM_unwrap 31 rfl) rfl ?_
    refine ri_geti (zLs hL 0 rfl) (by decide) fM_222 (dq dM_unwrap 32 rfl) ?_
    obtain ⟨c2, h⟩ := q_k h
    refine ri_iald (zLs hL 4 rfl) (by decide) rfl c2 (dq dM_unwrap 33 rfl) ?_
    refine zi_istC_n (lv' := [(3, _), (0, _), (2, _)]) (dq dM_unwrap 34 rfl) (by decide) (by simp [z_cr, z_ci]) rfl ?_
    refine zi_aload_n 1 (dq dM_unwrap 35 rfl) rfl ?_
    refine zi_iload_n 0 (dq dM_unwrap 36 rfl) rfl ?_
    refine zi_bipush (v := 9) (dq dM_unwrap 37 rfl) (by decide) ?_
    refine zi_icmp_ne (tgt := 74) (dq dM_unwrap 38 rfl) (by decide) (fun c => ?_) (fun c => ?_)
    · have h := q_f c h
      refine zi_iconst (v := 1) (dq dM_unwrap 41 rfl) (by decide) ?_
      exact zG_lv (zs_c 1 rfl (zs_c 2 rfl (zs_c 0 rfl zs_n))) (SM_unwrap_75 hL h hd )
    · have h := q_t c h
      refine zi_iconst (v := 0) (dq dM_unwrap 39 rfl) (by decide) ?_
      refine zi_goto (tgt := 75) (dq dM_unwrap 40 rfl) (by decide) ?_
      exact zG_lv (zs_c 1 rfl (zs_c 2 rfl (zs_c 0 rfl zs_n))) (SM_unwrap_75 hL h hd )
  · have h := q_t c h
    refine zi_aload_n 0 (dq dM_unwrap 12 rfl) rfl ?_
    refine ri_getr (zLs hL 0 rfl) (zLr hL 16 rfl) fM_60 (dq dM_unwrap 13 rfl) ?_
    refine zi_iload_n 1 (dq dM_unwrap 14 rfl) rfl ?_
    refine zi_aload_n 0 (dq dM_unwrap 15 rfl) rfl ?_
    refine ri_geti (zLs hL 0 rfl) (by decide) fM_222 (dq dM_unwrap 16 rfl) ?_
    obtain ⟨c4, h⟩ := q_k h
    refine ri_iast (zLs hL 17 rfl) (by decide) rfl c4 (dq dM_unwrap 17 rfl) ?_
    refine zi_iincC (v := _ + (1)) (lv' := [(2, _), (0, _)]) 1 (dq dM_unwrap 18 rfl) rfl rfl (by decide) (by simp [z_cr, z_ci]) rfl ?_
    refine zi_aload_n 1 (dq dM_unwrap 19 rfl) rfl ?_
    refine zi_aload_n 1 (dq dM_unwrap 20 rfl) rfl ?_
    refine ri_getr (zLs hL 0 rfl) (zLr hL 12 rfl) fM_48 (dq dM_unwrap 21 rfl) ?_
    refine zi_bipush (v := 6) (dq dM_unwrap 22 rfl) (by decide) ?_
    refine zi_aload_n 1 (dq dM_unwrap 23 rfl) rfl ?_
    refine ri_geti (zLs hL 0 rfl) (by decide) fM_222 (dq dM_unwrap 24 rfl) ?_
    refine zi_imul (dq dM_unwrap 25 rfl) ?_
    obtain ⟨c7, h⟩ := q_k h
    refine ri_iald (zLs hL 13 rfl) (by decide) rfl c7 (dq dM_unwrap 26 rfl) ?_
    refine ri_puti (zLs hL 0 rfl) (by decide) fM_222 (fun h => by cases h) rfl rfl (dq dM_unwrap 27 rfl) ?_
    refine zi_goto (tgt := 7) (dq dM_unwrap 28 rfl) (by decide) ?_
    exact zG_lv (zs_c 1 rfl (zs_c 0 rfl zs_n)) (hK7 _ h)
def FM_unwrap (N : Nat) (l1 : Int32) (J : zJ) : Option (Unit × zJ) :=
  let J1 := zu J 0 23 l1
  qfix (FM_unwrap_7 N) N (0, J1)
theorem SM_unwrap {g : zg} {d N : Nat} {M0 : zM} {A : Nat} {r : Unit} {J1 : zJ} {J : zJ} {l1 : Int32} (hL : zLy M0 A mShL mRf) (h : FM_unwrap N l1 J = some (r, J1)) (hd : 1 ≤ d) : zEv g d mM_unwrap [va_rf (some (A + 0)), .int l1] (zmm M0 A 40 J) (fun Mq => Mq = zmm M0 A 40 J1) := by
  unfold FM_unwrap at h
  refine zEu_q (r := r) (lv := [(0, va_rf (some (A + 0))), (1, .int l1)]) ⟨by decide +kernel, by decide, by decide +kernel⟩ (by simp [z_cr, z_ci]) (Nat.le_of_ble_eq_true rfl) rfl ?_
  refine zi_iconst (v := 0) (dq dM_unwrap 0 rfl) (by decide) ?_
  refine zi_istC_n (lv' := [(2, _), (0, _), (1, _)]) (dq dM_unwrap 1 rfl) (by decide) (by simp [z_cr, z_ci]) rfl ?_
  refine zi_aload_n 1 (dq dM_unwrap 2 rfl) rfl ?_
  refine zi_iload_n 2 (dq dM_unwrap 3 rfl) rfl ?_
  refine ri_puti (zLs hL 0 rfl) (by decide) fM_222 (fun h => by cases h) rfl rfl (dq dM_unwrap 4 rfl) ?_
  exact zG_lv (zs_c 1 rfl (zs_c 0 rfl zs_n)) (SM_unwrap_7 hL hd  _ _ h)
def FM_component_161 (N : Nat) (t0 : Int32) (J : zJ) : Option (Unit × zJ) :=
  if t0 = 0 then
    qb (FM_stop N 4 ((J 0 3) - 1) J) fun v1 J2 =>
    some ((), J2)
  else
    some ((), J)
theorem SM_component_161 {g : zg} {d N : Nat} {M0 : zM} {A : Nat} {r : Unit} {J1 : zJ} {J : zJ}  {t0 : Int32} (hL : zLy M0 A mShL mRf) (h : FM_component_161 N t0 J = some (r, J1)) (hd : 2 ≤ d)  : zG g d mM_component (zPq (rU r) (zmm M0 A 40 J1)) (zmm M0 A 40 J) 161 [(0, va_rf (some (A + 0)))] [.int t0] := by
  unfold FM_component_161 at h
  refine zi_istC_n (lv' := [(3, _), (0, _)]) (dq dM_component 87 rfl) (by decide) (by simp [z_cr, z_ci]) rfl ?_
  refine zi_iload_n 0 (dq dM_component 88 rfl) rfl ?_
  refine zi_if_ne (tgt := 178) (dq dM_component 89 rfl) (by decide) (fun c => ?_) (fun c => ?_)
  · have h := q_f c h
    exact zi_return rfl (dq dM_component 98 rfl) (q_ru h)
  · have h := q_t c h
    refine zi_aload_n 1 (dq dM_component 90 rfl) rfl ?_
    refine zi_iconst (v := 4) (dq dM_component 91 rfl) (by decide) ?_
    refine zi_aload_n 1 (dq dM_component 92 rfl) rfl ?_
    refine ri_geti (zLs hL 0 rfl) (by decide) fM_146 (dq dM_component 93 rfl) ?_
    refine zi_iconst (v := 1) (dq dM_component 94 rfl) (by decide) ?_
    refine zi_isub (dq dM_component 95 rfl) ?_
    obtain ⟨v1, J2, hv1, h⟩ := q_b h
    refine zi_cVi2 (SM_stop hL hv1 (d := d - 1) (by omega)) wM_stop aM_156 iM_stop sM_stop (by omega) (zLs hL 0 rfl) rfl (Nat.le_of_ble_eq_true rfl) (dq dM_component 96 rfl) (fun _ _ hh => ?_)
    obtain ⟨rfl, rfl⟩ := hh
    refine zi_pop (dq dM_component 97 rfl) (by first | rfl | exact z_cr _) ?_
    exact zi_return rfl (dq dM_component 98 rfl) (q_ru h)
def FM_component (N : Nat) (l1 : Int32) (l2 : Int32) (J : zJ) : Option (Unit × zJ) :=
  qb (FM_look N J) fun v1 J2 =>
  if v1 = 63 then
    qk (qi l1 960) <|
    let J22 := zu J2 14 l1.toNatClampNeg 1
    let J23 := zu J22 0 3 ((J22 0 3) + 1)
    some ((), J23)
  else
    qb (FM_look N J2) fun v3 J4 =>
    if v3 = 61 then
      qk (qi l1 960) <|
      let J6 := zu J4 14 l1.toNatClampNeg 2
      let J7 := zu J6 0 3 ((J6 0 3) + 1)
      qb (FM_numeral N J7) fun v8 J9 =>
      if (bI v8) = 0 then
        some ((), J9)
      else
        qk (qi l1 960) <|
        let J11 := zu J9 15 l1.toNatClampNeg (J9 0 6)
        qb (FM_unwrap N l2 J11) fun v12 J13 =>
        qk (qi (J13 0 23) 160) <|
        if (J13 4 (J13 0 23).toNatClampNeg) = 1 then
          qc (FM_in N (J13 0 6) 0 1) fun v20 =>
          FM_component_161 N (bI v20) J13
        else
          qk (qi (J13 0 23) 160) <|
          if (J13 4 (J13 0 23).toNatClampNeg) = 2 then
            qk (qi (J13 0 23) 160) <|
            if (J13 11 (J13 0 23).toNatClampNeg) = 0 then
              FM_component_161 N 1 J13
            else
              qk (qi (J13 0 23) 160) <|
              qk (qi (J13 0 23) 160) <|
              qc (FM_in N (J13 0 6) (J13 5 (J13 0 23).toNatClampNeg) (J13 6 (J13 0 23).toNatClampNeg)) fun v19 =>
              if (bI v19) = 0 then
                FM_component_161 N 0 J13
              else
                FM_component_161 N 1 J13
          else
            FM_component_161 N 0 J13
    else
      some ((), J4)
theorem SM_component {g : zg} {d N : Nat} {M0 : zM} {A : Nat} {r : Unit} {J1 : zJ} {J : zJ} {l1 : Int32} {l2 : Int32} (hL : zLy M0 A mShL mRf) (h : FM_component N l1 l2 J = some (r, J1)) (hd : 2 ≤ d) : zEv g d mM_component [va_rf (some (A + 0)), .int l1, .int l2] (zmm M0 A 40 J) (fun Mq => Mq = zmm M0 A 40 J1) := by
  unfold FM_component at h
  refine zEu_q (r := r) (lv := [(0, va_rf (some (A + 0))), (1, .int l1), (2, .int l2)]) ⟨by decide +kernel, by decide, by decide +kernel⟩ (by simp [z_cr, z_ci]) (Nat.le_of_ble_eq_true rfl) rfl ?_
  refine zi_aload_n 0 (dq dM_component 0 rfl) rfl ?_
  obtain ⟨v1, J2, hv1, h⟩ := q_b h
  refine zi_cVi0 (SM_look hL hv1 (d := d - 1) (by omega)) wM_look aM_152 iM_look sM_look (by omega) (zLs hL 0 rfl) rfl (Nat.le_of_ble_eq_true rfl) (dq dM_component 1 rfl) (fun _ _ hh => ?_)
  obtain ⟨rfl, rfl⟩ := hh
  refine zi_bipush (v := 63) (dq dM_component 2 rfl) (by decide) ?_
  refine zi_icmp_ne (tgt := 29) (dq dM_component 3 rfl) (by decide) (fun c => ?_) (fun c => ?_)
  · have h := q_f c h
    refine zi_aload_n 0 (dq dM_component 16 rfl) rfl ?_
    obtain ⟨v3, J4, hv3, h⟩ := q_b h
    refine zi_cVi0 (SM_look hL hv3 (d := d - 1) (by omega)) wM_look aM_152 iM_look sM_look (by omega) (zLs hL 0 rfl) rfl (Nat.le_of_ble_eq_true rfl) (dq dM_component 17 rfl) (fun _ _ hh => ?_)
    obtain ⟨rfl, rfl⟩ := hh
    refine zi_bipush (v := 61) (dq dM_component 18 rfl) (by decide) ?_
    refine zi_icmp_ne (tgt := 178) (dq dM_component 19 rfl) (by decide) (fun c => ?_) (fun c => ?_)
    · have h := q_f c h
      exact zi_return rfl (dq dM_component 98 rfl) (q_ru h)
    · have h := q_t c h
      refine zi_aload_n 0 (dq dM_component 20 rfl) rfl ?_
      refine ri_getr (zLs hL 0 rfl) (zLr hL 13 rfl) fM_51 (dq dM_component 21 rfl) ?_
      refine zi_iload_n 1 (dq dM_component 22 rfl) rfl ?_
      refine zi_iconst (v := 2) (dq dM_component 23 rfl) (by decide) ?_
      obtain ⟨c5, h⟩ := q_k h
      refine ri_iast (zLs hL 14 rfl) (by decide) rfl c5 (dq dM_component 24 rfl) ?_
      refine zi_aload_n 0 (dq dM_component 25 rfl) rfl ?_
      refine zi_dup (dq dM_component 26 rfl) (by first | rfl | exact z_cr _) ?_
      refine ri_geti (zLs hL 0 rfl) (by decide) fM_146 (dq dM_component 27 rfl) ?_
      refine zi_iconst (v := 1) (dq dM_component 28 rfl) (by decide) ?_
      refine zi_iadd (dq dM_component 29 rfl) ?_
      refine ri_puti (zLs hL 0 rfl) (by decide) fM_146 (fun h => by cases h) rfl rfl (dq dM_component 30 rfl) ?_
      refine zi_aload_n 0 (dq dM_component 31 rfl) rfl ?_
      obtain ⟨v8, J9, hv8, h⟩ := q_b h
      refine zi_cVi0 (SM_numeral hL hv8 (d := d - 1) (by omega)) wM_numeral aM_206 iM_numeral sM_numeral (by omega) (zLs hL 0 rfl) rfl (Nat.le_of_ble_eq_true rfl) (dq dM_component 32 rfl) (fun _ _ hh => ?_)
      obtain ⟨rfl, rfl⟩ := hh
      refine zi_if_ne (tgt := 63) (dq dM_component 33 rfl) (by decide) (fun c => ?_) (fun c => ?_)
      · have h := q_f c h
        refine zi_aload_n 0 (dq dM_component 35 rfl) rfl ?_
        refine ri_getr (zLs hL 0 rfl) (zLr hL 14 rfl) fM_54 (dq dM_component 36 rfl) ?_
        refine zi_iload_n 1 (dq dM_component 37 rfl) rfl ?_
        refine zi_aload_n 0 (dq dM_component 38 rfl) rfl ?_
        refine ri_geti (zLs hL 0 rfl) (by decide) fM_203 (dq dM_component 39 rfl) ?_
        obtain ⟨c10, h⟩ := q_k h
        refine ri_iast (zLs hL 15 rfl) (by decide) rfl c10 (dq dM_component 40 rfl) ?_
        refine zi_aload_n 0 (dq dM_component 41 rfl) rfl ?_
        refine zi_iload_n 2 (dq dM_component 42 rfl) rfl ?_
        obtain ⟨v12, J13, hv12, h⟩ := q_b h
        refine zi_cVv1 (SM_unwrap hL hv12 (d := d - 1) (by omega)) wM_unwrap aM_218 iM_unwrap sM_unwrap (by omega) (zLs hL 0 rfl) rfl (Nat.le_of_ble_eq_true rfl) (dq dM_component 43 rfl) (fun _ hh => ?_)
        subst hh
        refine zi_aload_n 0 (dq dM_component 44 rfl) rfl ?_
        refine ri_getr (zLs hL 0 rfl) (zLr hL 3 rfl) fM_20 (dq dM_component 45 rfl) ?_
        refine zi_aload_n 0 (dq dM_component 46 rfl) rfl ?_
        refine ri_geti (zLs hL 0 rfl) (by decide) fM_222 (dq dM_component 47 rfl) ?_
        obtain ⟨c14, h⟩ := q_k h
        refine ri_iald (zLs hL 4 rfl) (by decide) rfl c14 (dq dM_component 48 rfl) ?_
        refine zi_iconst (v := 1) (dq dM_component 49 rfl) (by decide) ?_
        refine zi_icmp_ne (tgt := 103) (dq dM_component 50 rfl) (by decide) (fun c => ?_) (fun c => ?_)
        · have h := q_f c h
          refine zi_aload_n 0 (dq dM_component 57 rfl) rfl ?_
          refine ri_getr (zLs hL 0 rfl) (zLr hL 3 rfl) fM_20 (dq dM_component 58 rfl) ?_
          refine zi_aload_n 0 (dq dM_component 59 rfl) rfl ?_
          refine ri_geti (zLs hL 0 rfl) (by decide) fM_222 (dq dM_component 60 rfl) ?_
          obtain ⟨c15, h⟩ := q_k h
          refine ri_iald (zLs hL 4 rfl) (by decide) rfl c15 (dq dM_component 61 rfl) ?_
          refine zi_iconst (v := 2) (dq dM_component 62 rfl) (by decide) ?_
          refine zi_icmp_ne (tgt := 160) (dq dM_component 63 rfl) (by decide) (fun c => ?_) (fun c => ?_)
          · have h := q_f c h
            refine zi_iconst (v := 0) (dq dM_component 86 rfl) (by decide) ?_
            exact zG_lv (zs_c 0 rfl zs_n) (SM_component_161 hL h hd )
          · have h := q_t c h
            refine zi_aload_n 0 (dq dM_component 64 rfl) rfl ?_
            refine ri_getr (zLs hL 0 rfl) (zLr hL 10 rfl) fM_41 (dq dM_component 65 rfl) ?_
            refine zi_aload_n 0 (dq dM_component 66 rfl) rfl ?_
            refine ri_geti (zLs hL 0 rfl) (by decide) fM_222 (dq dM_component 67 rfl) ?_
            obtain ⟨c16, h⟩ := q_k h
            refine ri_zald (zLs hL 11 rfl) (by decide) rfl c16 (dq dM_component 68 rfl) ?_
            refine zi_if_eq (tgt := 156) (dq dM_component 69 rfl) (by decide) (fun c => ?_) (fun c => ?_)
            · have h := q_t c h
              refine zi_iconst (v := 1) (dq dM_component 84 rfl) (by decide) ?_
              refine zi_goto (tgt := 161) (dq dM_component 85 rfl) (by decide) ?_
              exact zG_lv (zs_c 0 rfl zs_n) (SM_component_161 hL h hd )
            · have h := q_f c h
              refine zi_aload_n 0 (dq dM_component 70 rfl) rfl ?_
              refine ri_geti (zLs hL 0 rfl) (by decide) fM_203 (dq dM_component 71 rfl) ?_
              refine zi_aload_n 0 (dq dM_component 72 rfl) rfl ?_
              refine ri_getr (zLs hL 0 rfl) (zLr hL 4 rfl) fM_23 (dq dM_component 73 rfl) ?_
              refine zi_aload_n 0 (dq dM_component 74 rfl) rfl ?_
              refine ri_geti (zLs hL 0 rfl) (by decide) fM_222 (dq dM_component 75 rfl) ?_
              obtain ⟨c17, h⟩ := q_k h
              refine ri_iald (zLs hL 5 rfl) (by decide) rfl c17 (dq dM_component 76 rfl) ?_
              refine zi_aload_n 0 (dq dM_component 77 rfl) rfl ?_
              refine ri_getr (zLs hL 0 rfl) (zLr hL 5 rfl) fM_26 (dq dM_component 78 rfl) ?_
              refine zi_aload_n 0 (dq dM_component 79 rfl) rfl ?_
              refine ri_geti (zLs hL 0 rfl) (by decide) fM_222 (dq dM_component 80 rfl) ?_
              obtain ⟨c18, h⟩ := q_k h
              refine ri_iald (zLs hL 6 rfl) (by decide) rfl c18 (dq dM_component 81 rfl) ?_
              obtain ⟨v19, hv19, h⟩ := q_c h
              refine zi_cSi3 (SM_in  hv19 (d := d - 1) (by omega)) wM_in aM_166 tM_in (by omega) (Nat.le_of_ble_eq_true rfl) (dq dM_component 82 rfl) (fun _ _ hh => ?_)
              obtain ⟨rfl, rfl⟩ := hh
              refine zi_if_eq (tgt := 160) (dq dM_component 83 rfl) (by decide) (fun c => ?_) (fun c => ?_)
              · have h := q_t c h
                refine zi_iconst (v := 0) (dq dM_component 86 rfl) (by decide) ?_
                exact zG_lv (zs_c 0 rfl zs_n) (SM_component_161 hL h hd )
              · have h := q_f c h
                refine zi_iconst (v := 1) (dq dM_component 84 rfl) (by decide) ?_
                refine zi_goto (tgt := 161) (dq dM_component 85 rfl) (by decide) ?_
                exact zG_lv (zs_c 0 rfl zs_n) (SM_component_161 hL h hd )
        · have h := q_t c h
          refine zi_aload_n 0 (dq dM_component 51 rfl) rfl ?_
          refine ri_geti (zLs hL 0 rfl) (by decide) fM_203 (dq dM_component 52 rfl) ?_
          refine zi_iconst (v := 0) (dq dM_component 53 rfl) (by decide) ?_
          refine zi_iconst (v := 1) (dq dM_component 54 rfl) (by decide) ?_
          obtain ⟨v20, hv20, h⟩ := q_c h
          refine zi_cSi3 (SM_in  hv20 (d := d - 1) (by omega)) wM_in aM_166 tM_in (by omega) (Nat.le_of_ble_eq_true rfl) (dq dM_component 55 rfl) (fun _ _ hh => ?_)
          obtain ⟨rfl, rfl⟩ := hh
          refine zi_goto (tgt := 161) (dq dM_component 56 rfl) (by decide) ?_
          exact zG_lv (zs_c 0 rfl zs_n) (SM_component_161 hL h hd )
      · have h := q_t c h
        exact zi_return rfl (dq dM_component 34 rfl) (q_ru h)
  · have h := q_t c h
    refine zi_aload_n 0 (dq dM_component 4 rfl) rfl ?_
    refine ri_getr (zLs hL 0 rfl) (zLr hL 13 rfl) fM_51 (dq dM_component 5 rfl) ?_
    refine zi_iload_n 1 (dq dM_component 6 rfl) rfl ?_
    refine zi_iconst (v := 1) (dq dM_component 7 rfl) (by decide) ?_
    obtain ⟨c21, h⟩ := q_k h
    refine ri_iast (zLs hL 14 rfl) (by decide) rfl c21 (dq dM_component 8 rfl) ?_
    refine zi_aload_n 0 (dq dM_component 9 rfl) rfl ?_
    refine zi_dup (dq dM_component 10 rfl) (by first | rfl | exact z_cr _) ?_
    refine ri_geti (zLs hL 0 rfl) (by decide) fM_146 (dq dM_component 11 rfl) ?_
    refine zi_iconst (v := 1) (dq dM_component 12 rfl) (by decide) ?_
    refine zi_iadd (dq dM_component 13 rfl) ?_
    refine ri_puti (zLs hL 0 rfl) (by decide) fM_146 (fun h => by cases h) rfl rfl (dq dM_component 14 rfl) ?_
    refine zi_goto (tgt := 178) (dq dM_component 15 rfl) (by decide) ?_
    exact zi_return rfl (dq dM_component 98 rfl) (q_ru h)
def FM_end_242 (N : Nat) (l2 : Int32) (J : zJ) : Option (Int32 × zJ) :=
  let J1 := zu J 0 5 ((J 0 5) - 1)
  some (l2, J1)
theorem SM_end_242 {g : zg} {d N : Nat} {M0 : zM} {A : Nat} {r : Int32} {J1 : zJ} {J : zJ}  {l2 : Int32} (hL : zLy M0 A mShL mRf) (h : FM_end_242 N l2 J = some (r, J1)) (hd : 3 ≤ d)  : zG g d mM_end (zPq (rI r) (zmm M0 A 40 J1)) (zmm M0 A 40 J) 242 [(0, va_rf (some (A + 0))), (2, .int l2)] [] := by
  unfold FM_end_242 at h
  refine zi_aload_n 0 (dq dM_end 145 rfl) rfl ?_
  refine zi_dup (dq dM_end 146 rfl) (by first | rfl | exact z_cr _) ?_
  refine ri_geti (zLs hL 0 rfl) (by decide) fM_177 (dq dM_end 147 rfl) ?_
  refine zi_iconst (v := 1) (dq dM_end 148 rfl) (by decide) ?_
  refine zi_isub (dq dM_end 149 rfl) ?_
  refine ri_puti (zLs hL 0 rfl) (by decide) fM_177 (fun h => by cases h) rfl rfl (dq dM_end 150 rfl) ?_
  refine zi_iload_n 1 (dq dM_end 151 rfl) rfl ?_
  exact zi_ireturn rfl rfl (dq dM_end 152 rfl) (q_ri h)
def FM_end_193 (N : Nat) (l2 : Int32) (J : zJ) : Option (Int32 × zJ) :=
  let J1 := zu J 0 3 ((J 0 3) + 1)
  qk (qi ((J1 0 3) - 1) 150) <|
  if (J1 1 ((J1 0 3) - 1).toNatClampNeg) = 44 then
    some (((-1)), J1)
  else
    qb (FM_clashes N l2 J1) fun v3 J4 =>
    if (bI v3) = 0 then
      FM_end_242 N l2 J4
    else
      qb (FM_stop N 6 ((J4 0 3) - 1) J4) fun v5 J6 =>
      some (v5, J6)
theorem SM_end_193 {g : zg} {d N : Nat} {M0 : zM} {A : Nat} {r : Int32} {J1 : zJ} {J : zJ}  {l2 : Int32} (hL : zLy M0 A mShL mRf) (h : FM_end_193 N l2 J = some (r, J1)) (hd : 3 ≤ d)  : zG g d mM_end (zPq (rI r) (zmm M0 A 40 J1)) (zmm M0 A 40 J) 193 [(0, va_rf (some (A + 0))), (2, .int l2)] [] := by
  unfold FM_end_193 at h
  refine zi_aload_n 0 (dq dM_end 116 rfl) rfl ?_
  refine zi_dup (dq dM_end 117 rfl) (by first | rfl | exact z_cr _) ?_
  refine ri_geti (zLs hL 0 rfl) (by decide) fM_146 (dq dM_end 118 rfl) ?_
  refine zi_iconst (v := 1) (dq dM_end 119 rfl) (by decide) ?_
  refine zi_iadd (dq dM_end 120 rfl) ?_
  refine ri_puti (zLs hL 0 rfl) (by decide) fM_146 (fun h => by cases h) rfl rfl (dq dM_end 121 rfl) ?_
  refine zi_aload_n 0 (dq dM_end 122 rfl) rfl ?_
  refine ri_getr (zLs hL 0 rfl) (zLr hL 0 rfl) fM_7 (dq dM_end 123 rfl) ?_
  refine zi_aload_n 0 (dq dM_end 124 rfl) rfl ?_
  refine ri_geti (zLs hL 0 rfl) (by decide) fM_146 (dq dM_end 125 rfl) ?_
  refine zi_iconst (v := 1) (dq dM_end 126 rfl) (by decide) ?_
  refine zi_isub (dq dM_end 127 rfl) ?_
  obtain ⟨c2, h⟩ := q_k h
  refine ri_cald (zLs hL 1 rfl) (by decide) rfl c2 (dq dM_end 128 rfl) ?_
  refine zi_bipush (v := 44) (dq dM_end 129 rfl) (by decide) ?_
  refine zi_icmp_ne (tgt := 221) (dq dM_end 130 rfl) (by decide) (fun c => ?_) (fun c => ?_)
  · have h := q_f c h
    refine zi_aload_n 0 (dq dM_end 133 rfl) rfl ?_
    refine zi_iload_n 1 (dq dM_end 134 rfl) rfl ?_
    obtain ⟨v3, J4, hv3, h⟩ := q_b h
    refine zi_cVi1 (SM_clashes hL hv3 (d := d - 1) (by omega)) wM_clashes aM_215 iM_clashes sM_clashes (by omega) (zLs hL 0 rfl) rfl (Nat.le_of_ble_eq_true rfl) (dq dM_end 135 rfl) (fun _ _ hh => ?_)
    obtain ⟨rfl, rfl⟩ := hh
    refine zi_if_eq (tgt := 242) (dq dM_end 136 rfl) (by decide) (fun c => ?_) (fun c => ?_)
    · have h := q_t c h
      exact zG_lv (zs_c 0 rfl (zs_c 1 rfl zs_n)) (SM_end_242 hL h hd )
    · have h := q_f c h
      refine zi_aload_n 0 (dq dM_end 137 rfl) rfl ?_
      refine zi_bipush (v := 6) (dq dM_end 138 rfl) (by decide) ?_
      refine zi_aload_n 0 (dq dM_end 139 rfl) rfl ?_
      refine ri_geti (zLs hL 0 rfl) (by decide) fM_146 (dq dM_end 140 rfl) ?_
      refine zi_iconst (v := 1) (dq dM_end 141 rfl) (by decide) ?_
      refine zi_isub (dq dM_end 142 rfl) ?_
      obtain ⟨v5, J6, hv5, h⟩ := q_b h
      refine zi_cVi2 (SM_stop hL hv5 (d := d - 1) (by omega)) wM_stop aM_156 iM_stop sM_stop (by omega) (zLs hL 0 rfl) rfl (Nat.le_of_ble_eq_true rfl) (dq dM_end 143 rfl) (fun _ _ hh => ?_)
      obtain ⟨rfl, rfl⟩ := hh
      exact zi_ireturn rfl rfl (dq dM_end 144 rfl) (q_ri h)
  · have h := q_t c h
    refine zi_iconst (v := (-1)) (dq dM_end 131 rfl) (by decide) ?_
    exact zi_ireturn rfl rfl (dq dM_end 132 rfl) (q_ri h)
def FM_end_165 (N : Nat) (l2 : Int32) (J : zJ) : Option (Int32 × zJ) :=
  qb (FM_look N J) fun v1 J2 =>
  if v1 = 44 then
    FM_end_193 N l2 J2
  else
    qb (FM_look N J2) fun v3 J4 =>
    if v3 = 125 then
      FM_end_193 N l2 J4
    else
      qb (FM_stop N 1 (J4 0 3) J4) fun v5 J6 =>
      some (v5, J6)
theorem SM_end_165 {g : zg} {d N : Nat} {M0 : zM} {A : Nat} {r : Int32} {J1 : zJ} {J : zJ}  {l2 : Int32} (hL : zLy M0 A mShL mRf) (h : FM_end_165 N l2 J = some (r, J1)) (hd : 3 ≤ d)  : zG g d mM_end (zPq (rI r) (zmm M0 A 40 J1)) (zmm M0 A 40 J) 165 [(0, va_rf (some (A + 0))), (2, .int l2)] [] := by
  unfold FM_end_165 at h
  refine zi_aload_n 0 (dq dM_end 102 rfl) rfl ?_
  obtain ⟨v1, J2, hv1, h⟩ := q_b h
  refine zi_cVi0 (SM_look hL hv1 (d := d - 1) (by omega)) wM_look aM_152 iM_look sM_look (by omega) (zLs hL 0 rfl) rfl (Nat.le_of_ble_eq_true rfl) (dq dM_end 103 rfl) (fun _ _ hh => ?_)
  obtain ⟨rfl, rfl⟩ := hh
  refine zi_bipush (v := 44) (dq dM_end 104 rfl) (by decide) ?_
  refine zi_icmp_eq (tgt := 193) (dq dM_end 105 rfl) (by decide) (fun c => ?_) (fun c => ?_)
  · have h := q_t c h
    exact zG_lv (zs_c 0 rfl (zs_c 1 rfl zs_n)) (SM_end_193 hL h hd )
  · have h := q_f c h
    refine zi_aload_n 0 (dq dM_end 106 rfl) rfl ?_
    obtain ⟨v3, J4, hv3, h⟩ := q_b h
    refine zi_cVi0 (SM_look hL hv3 (d := d - 1) (by omega)) wM_look aM_152 iM_look sM_look (by omega) (zLs hL 0 rfl) rfl (Nat.le_of_ble_eq_true rfl) (dq dM_end 107 rfl) (fun _ _ hh => ?_)
    obtain ⟨rfl, rfl⟩ := hh
    refine zi_bipush (v := 125) (dq dM_end 108 rfl) (by decide) ?_
    refine zi_icmp_eq (tgt := 193) (dq dM_end 109 rfl) (by decide) (fun c => ?_) (fun c => ?_)
    · have h := q_t c h
      exact zG_lv (zs_c 0 rfl (zs_c 1 rfl zs_n)) (SM_end_193 hL h hd )
    · have h := q_f c h
      refine zi_aload_n 0 (dq dM_end 110 rfl) rfl ?_
      refine zi_iconst (v := 1) (dq dM_end 111 rfl) (by decide) ?_
      refine zi_aload_n 0 (dq dM_end 112 rfl) rfl ?_
      refine ri_geti (zLs hL 0 rfl) (by decide) fM_146 (dq dM_end 113 rfl) ?_
      obtain ⟨v5, J6, hv5, h⟩ := q_b h
      refine zi_cVi2 (SM_stop hL hv5 (d := d - 1) (by omega)) wM_stop aM_156 iM_stop sM_stop (by omega) (zLs hL 0 rfl) rfl (Nat.le_of_ble_eq_true rfl) (dq dM_end 114 rfl) (fun _ _ hh => ?_)
      obtain ⟨rfl, rfl⟩ := hh
      exact zi_ireturn rfl rfl (dq dM_end 115 rfl) (q_ri h)
def FM_end_134 (N : Nat) (l2 : Int32) (J : zJ) : Option (Int32 × zJ) :=
  qb (FM_look N J) fun v1 J2 =>
  if v1 = 44 then
    qk (qi l2 160) <|
    if (J2 8 l2.toNatClampNeg) = 6 then
      qb (FM_stop N 7 (J2 0 3) J2) fun v4 J5 =>
      some (v4, J5)
    else
      FM_end_165 N l2 J2
  else
    FM_end_165 N l2 J2
theorem SM_end_134 {g : zg} {d N : Nat} {M0 : zM} {A : Nat} {r : Int32} {J1 : zJ} {J : zJ}  {l2 : Int32} (hL : zLy M0 A mShL mRf) (h : FM_end_134 N l2 J = some (r, J1)) (hd : 3 ≤ d)  : zG g d mM_end (zPq (rI r) (zmm M0 A 40 J1)) (zmm M0 A 40 J) 134 [(0, va_rf (some (A + 0))), (2, .int l2)] [] := by
  unfold FM_end_134 at h
  refine zi_aload_n 0 (dq dM_end 86 rfl) rfl ?_
  obtain ⟨v1, J2, hv1, h⟩ := q_b h
  refine zi_cVi0 (SM_look hL hv1 (d := d - 1) (by omega)) wM_look aM_152 iM_look sM_look (by omega) (zLs hL 0 rfl) rfl (Nat.le_of_ble_eq_true rfl) (dq dM_end 87 rfl) (fun _ _ hh => ?_)
  obtain ⟨rfl, rfl⟩ := hh
  refine zi_bipush (v := 44) (dq dM_end 88 rfl) (by decide) ?_
  refine zi_icmp_ne (tgt := 165) (dq dM_end 89 rfl) (by decide) (fun c => ?_) (fun c => ?_)
  · have h := q_f c h
    exact zG_lv (zs_c 0 rfl (zs_c 1 rfl zs_n)) (SM_end_165 hL h hd )
  · have h := q_t c h
    refine zi_aload_n 0 (dq dM_end 90 rfl) rfl ?_
    refine ri_getr (zLs hL 0 rfl) (zLr hL 7 rfl) fM_32 (dq dM_end 91 rfl) ?_
    refine zi_iload_n 1 (dq dM_end 92 rfl) rfl ?_
    obtain ⟨c3, h⟩ := q_k h
    refine ri_iald (zLs hL 8 rfl) (by decide) rfl c3 (dq dM_end 93 rfl) ?_
    refine zi_bipush (v := 6) (dq dM_end 94 rfl) (by decide) ?_
    refine zi_icmp_ne (tgt := 165) (dq dM_end 95 rfl) (by decide) (fun c => ?_) (fun c => ?_)
    · have h := q_f c h
      exact zG_lv (zs_c 0 rfl (zs_c 1 rfl zs_n)) (SM_end_165 hL h hd )
    · have h := q_t c h
      refine zi_aload_n 0 (dq dM_end 96 rfl) rfl ?_
      refine zi_bipush (v := 7) (dq dM_end 97 rfl) (by decide) ?_
      refine zi_aload_n 0 (dq dM_end 98 rfl) rfl ?_
      refine ri_geti (zLs hL 0 rfl) (by decide) fM_146 (dq dM_end 99 rfl) ?_
      obtain ⟨v4, J5, hv4, h⟩ := q_b h
      refine zi_cVi2 (SM_stop hL hv4 (d := d - 1) (by omega)) wM_stop aM_156 iM_stop sM_stop (by omega) (zLs hL 0 rfl) rfl (Nat.le_of_ble_eq_true rfl) (dq dM_end 100 rfl) (fun _ _ hh => ?_)
      obtain ⟨rfl, rfl⟩ := hh
      exact zi_ireturn rfl rfl (dq dM_end 101 rfl) (q_ri h)
def FM_end_103 (N : Nat) (l2 : Int32) (J : zJ) : Option (Int32 × zJ) :=
  if (J 0 4) ≤ 0 then
    qk (qi l2 160) <|
    if (J 4 l2.toNatClampNeg) = 6 then
      FM_end_134 N l2 J
    else
      qk (qi l2 160) <|
      if (J 4 l2.toNatClampNeg) = 9 then
        FM_end_134 N l2 J
      else
        FM_end_242 N l2 J
  else
    some (((-1)), J)
theorem SM_end_103 {g : zg} {d N : Nat} {M0 : zM} {A : Nat} {r : Int32} {J1 : zJ} {J : zJ}  {l2 : Int32} (hL : zLy M0 A mShL mRf) (h : FM_end_103 N l2 J = some (r, J1)) (hd : 3 ≤ d)  : zG g d mM_end (zPq (rI r) (zmm M0 A 40 J1)) (zmm M0 A 40 J) 103 [(0, va_rf (some (A + 0))), (2, .int l2)] [] := by
  unfold FM_end_103 at h
  refine zi_aload_n 0 (dq dM_end 69 rfl) rfl ?_
  refine ri_geti (zLs hL 0 rfl) (by decide) fM_149 (dq dM_end 70 rfl) ?_
  refine zi_if_le (tgt := 112) (dq dM_end 71 rfl) (by decide) (fun c => ?_) (fun c => ?_)
  · have h := q_t c h
    refine zi_aload_n 0 (dq dM_end 74 rfl) rfl ?_
    refine ri_getr (zLs hL 0 rfl) (zLr hL 3 rfl) fM_20 (dq dM_end 75 rfl) ?_
    refine zi_iload_n 1 (dq dM_end 76 rfl) rfl ?_
    obtain ⟨c1, h⟩ := q_k h
    refine ri_iald (zLs hL 4 rfl) (by decide) rfl c1 (dq dM_end 77 rfl) ?_
    refine zi_bipush (v := 6) (dq dM_end 78 rfl) (by decide) ?_
    refine zi_icmp_eq (tgt := 134) (dq dM_end 79 rfl) (by decide) (fun c => ?_) (fun c => ?_)
    · have h := q_t c h
      exact zG_lv (zs_c 0 rfl (zs_c 1 rfl zs_n)) (SM_end_134 hL h hd )
    · have h := q_f c h
      refine zi_aload_n 0 (dq dM_end 80 rfl) rfl ?_
      refine ri_getr (zLs hL 0 rfl) (zLr hL 3 rfl) fM_20 (dq dM_end 81 rfl) ?_
      refine zi_iload_n 1 (dq dM_end 82 rfl) rfl ?_
      obtain ⟨c2, h⟩ := q_k h
      refine ri_iald (zLs hL 4 rfl) (by decide) rfl c2 (dq dM_end 83 rfl) ?_
      refine zi_bipush (v := 9) (dq dM_end 84 rfl) (by decide) ?_
      refine zi_icmp_ne (tgt := 242) (dq dM_end 85 rfl) (by decide) (fun c => ?_) (fun c => ?_)
      · have h := q_f c h
        exact zG_lv (zs_c 0 rfl (zs_c 1 rfl zs_n)) (SM_end_242 hL h hd )
      · have h := q_t c h
        exact zG_lv (zs_c 0 rfl (zs_c 1 rfl zs_n)) (SM_end_134 hL h hd )
  · have h := q_f c h
    refine zi_iconst (v := (-1)) (dq dM_end 72 rfl) (by decide) ?_
    exact zi_ireturn rfl rfl (dq dM_end 73 rfl) (q_ri h)
def FM_end_85 (N : Nat) (l1 : Int32) (l2 : Int32) (l3 : Int32) (t1 : Int32) (t2 : Int32) (J : zJ) : Option (Int32 × zJ) :=
  qk (qi t1 160) <|
  let J2 := zu J 10 t1.toNatClampNeg t2
  qk (qi l2 160) <|
  if (J2 4 l2.toNatClampNeg) = 6 then
    qb (FM_component N l3 l1 J2) fun v4 J5 =>
    FM_end_103 N l2 J5
  else
    FM_end_103 N l2 J2
theorem SM_end_85 {g : zg} {d N : Nat} {M0 : zM} {A : Nat} {r : Int32} {J1 : zJ} {J : zJ}  {l1 : Int32} {l2 : Int32} {l3 : Int32} {t1 : Int32} {t2 : Int32} (hL : zLy M0 A mShL mRf) (h : FM_end_85 N l1 l2 l3 t1 t2 J = some (r, J1)) (hd : 3 ≤ d)  : zG g d mM_end (zPq (rI r) (zmm M0 A 40 J1)) (zmm M0 A 40 J) 85 [(0, va_rf (some (A + 0))), (1, .int l1), (2, .int l2), (3, .int l3)] [.int t2, .int t1, va_rf (some (A + 10))] := by
  unfold FM_end_85 at h
  obtain ⟨c1, h⟩ := q_k h
  refine ri_iast (zLs hL 10 rfl) (by decide) rfl c1 (dq dM_end 58 rfl) ?_
  refine zi_aload_n 0 (dq dM_end 59 rfl) rfl ?_
  refine ri_getr (zLs hL 0 rfl) (zLr hL 3 rfl) fM_20 (dq dM_end 60 rfl) ?_
  refine zi_iload_n 2 (dq dM_end 61 rfl) rfl ?_
  obtain ⟨c3, h⟩ := q_k h
  refine ri_iald (zLs hL 4 rfl) (by decide) rfl c3 (dq dM_end 62 rfl) ?_
  refine zi_bipush (v := 6) (dq dM_end 63 rfl) (by decide) ?_
  refine zi_icmp_ne (tgt := 103) (dq dM_end 64 rfl) (by decide) (fun c => ?_) (fun c => ?_)
  · have h := q_f c h
    exact zG_lv (zs_c 0 rfl (zs_c 2 rfl zs_n)) (SM_end_103 hL h hd )
  · have h := q_t c h
    refine zi_aload_n 0 (dq dM_end 65 rfl) rfl ?_
    refine zi_iload_n 3 (dq dM_end 66 rfl) rfl ?_
    refine zi_iload_n 1 (dq dM_end 67 rfl) rfl ?_
    obtain ⟨v4, J5, hv4, h⟩ := q_b h
    refine zi_cVv2 (SM_component hL hv4 (d := d - 1) (by omega)) wM_component aM_211 iM_component sM_component (by omega) (zLs hL 0 rfl) rfl (Nat.le_of_ble_eq_true rfl) (dq dM_end 68 rfl) (fun _ hh => ?_)
    subst hh
    exact zG_lv (zs_c 0 rfl (zs_c 2 rfl zs_n)) (SM_end_103 hL h hd )
def FM_end (N : Nat) (l1 : Int32) (J : zJ) : Option (Int32 × zJ) :=
  qk (qi ((J 0 5) - 1) 150) <|
  let y2 := J 2 ((J 0 5) - 1).toNatClampNeg
  qk (qi y2 160) <|
  let y4 := (6 * y2) + (J 8 y2.toNatClampNeg)
  qk (qi y4 960) <|
  let J6 := zu J 13 y4.toNatClampNeg l1
  qk (qi y4 960) <|
  let J8 := zu J6 14 y4.toNatClampNeg 0
  qk (qi y2 160) <|
  qk (qi y2 160) <|
  let J11 := zu J8 8 y2.toNatClampNeg ((J8 8 y2.toNatClampNeg) + 1)
  qk (qi l1 160) <|
  qk (qi y2 160) <|
  if (J11 10 l1.toNatClampNeg) < (J11 10 y2.toNatClampNeg) then
    qk (qi y2 160) <|
    FM_end_85 N l1 y2 y4 y2 (J11 10 y2.toNatClampNeg) J11
  else
    qk (qi l1 160) <|
    FM_end_85 N l1 y2 y4 y2 ((J11 10 l1.toNatClampNeg) + 1) J11
theorem SM_end {g : zg} {d N : Nat} {M0 : zM} {A : Nat} {r : Int32} {J1 : zJ} {J : zJ} {l1 : Int32} (hL : zLy M0 A mShL mRf) (h : FM_end N l1 J = some (r, J1)) (hd : 3 ≤ d) : zEi g d mM_end [va_rf (some (A + 0)), .int l1] (zmm M0 A 40 J) (fun v Mq => v = r ∧ Mq = zmm M0 A 40 J1) := by
  unfold FM_end at h
  refine zEi_q (r := r) (lv := [(0, va_rf (some (A + 0))), (1, .int l1)]) ⟨by decide +kernel, by decide, by decide +kernel⟩ (by simp [z_cr, z_ci]) (Nat.le_of_ble_eq_true rfl) rfl ?_
  refine zi_aload_n 0 (dq dM_end 0 rfl) rfl ?_
  refine ri_getr (zLs hL 0 rfl) (zLr hL 1 rfl) fM_13 (dq dM_end 1 rfl) ?_
  refine zi_aload_n 0 (dq dM_end 2 rfl) rfl ?_
  refine ri_geti (zLs hL 0 rfl) (by decide) fM_177 (dq dM_end 3 rfl) ?_
  refine zi_iconst (v := 1) (dq dM_end 4 rfl) (by decide) ?_
  refine zi_isub (dq dM_end 5 rfl) ?_
  obtain ⟨c1, h⟩ := q_k h
  refine ri_iald (zLs hL 2 rfl) (by decide) rfl c1 (dq dM_end 6 rfl) ?_
  refine zi_istC_n (lv' := [(2, _), (0, _), (1, _)]) (dq dM_end 7 rfl) (by decide) (by simp [z_cr, z_ci]) rfl ?_
  refine zi_bipush (v := 6) (dq dM_end 8 rfl) (by decide) ?_
  refine zi_iload_n 0 (dq dM_end 9 rfl) rfl ?_
  refine zi_imul (dq dM_end 10 rfl) ?_
  refine zi_aload_n 1 (dq dM_end 11 rfl) rfl ?_
  refine ri_getr (zLs hL 0 rfl) (zLr hL 7 rfl) fM_32 (dq dM_end 12 rfl) ?_
  refine zi_iload_n 0 (dq dM_end 13 rfl) rfl ?_
  obtain ⟨c3, h⟩ := q_k h
  refine ri_iald (zLs hL 8 rfl) (by decide) rfl c3 (dq dM_end 14 rfl) ?_
  refine zi_iadd (dq dM_end 15 rfl) ?_
  refine zi_istC_n (lv' := [(3, _), (2, _), (0, _), (1, _)]) (dq dM_end 16 rfl) (by decide) (by simp [z_cr, z_ci]) rfl ?_
  refine zi_aload_n 2 (dq dM_end 17 rfl) rfl ?_
  refine ri_getr (zLs hL 0 rfl) (zLr hL 12 rfl) fM_48 (dq dM_end 18 rfl) ?_
  refine zi_iload_n 0 (dq dM_end 19 rfl) rfl ?_
  refine zi_iload_n 3 (dq dM_end 20 rfl) rfl ?_
  obtain ⟨c5, h⟩ := q_k h
  refine ri_iast (zLs hL 13 rfl) (by decide) rfl c5 (dq dM_end 21 rfl) ?_
  refine zi_aload_n 2 (dq dM_end 22 rfl) rfl ?_
  refine ri_getr (zLs hL 0 rfl) (zLr hL 13 rfl) fM_51 (dq dM_end 23 rfl) ?_
  refine zi_iload_n 0 (dq dM_end 24 rfl) rfl ?_
  refine zi_iconst (v := 0) (dq dM_end 25 rfl) (by decide) ?_
  obtain ⟨c7, h⟩ := q_k h
  refine ri_iast (zLs hL 14 rfl) (by decide) rfl c7 (dq dM_end 26 rfl) ?_
  refine zi_aload_n 2 (dq dM_end 27 rfl) rfl ?_
  refine ri_getr (zLs hL 0 rfl) (zLr hL 7 rfl) fM_32 (dq dM_end 28 rfl) ?_
  refine zi_iload_n 1 (dq dM_end 29 rfl) rfl ?_
  refine zi_dup2 (dq dM_end 30 rfl) (by first | rfl | exact z_cr _) (by first | rfl | exact z_cr _) ?_
  obtain ⟨c9, h⟩ := q_k h
  refine ri_iald (zLs hL 8 rfl) (by decide) rfl c9 (dq dM_end 31 rfl) ?_
  refine zi_iconst (v := 1) (dq dM_end 32 rfl) (by decide) ?_
  refine zi_iadd (dq dM_end 33 rfl) ?_
  obtain ⟨c10, h⟩ := q_k h
  refine ri_iast (zLs hL 8 rfl) (by decide) rfl c10 (dq dM_end 34 rfl) ?_
  refine zi_aload_n 2 (dq dM_end 35 rfl) rfl ?_
  refine ri_getr (zLs hL 0 rfl) (zLr hL 9 rfl) fM_38 (dq dM_end 36 rfl) ?_
  refine zi_iload_n 1 (dq dM_end 37 rfl) rfl ?_
  refine zi_aload_n 2 (dq dM_end 38 rfl) rfl ?_
  refine ri_getr (zLs hL 0 rfl) (zLr hL 9 rfl) fM_38 (dq dM_end 39 rfl) ?_
  refine zi_iload_n 3 (dq dM_end 40 rfl) rfl ?_
  obtain ⟨c12, h⟩ := q_k h
  refine ri_iald (zLs hL 10 rfl) (by decide) rfl c12 (dq dM_end 41 rfl) ?_
  refine zi_aload_n 2 (dq dM_end 42 rfl) rfl ?_
  refine ri_getr (zLs hL 0 rfl) (zLr hL 9 rfl) fM_38 (dq dM_end 43 rfl) ?_
  refine zi_iload_n 1 (dq dM_end 44 rfl) rfl ?_
  obtain ⟨c13, h⟩ := q_k h
  refine ri_iald (zLs hL 10 rfl) (by decide) rfl c13 (dq dM_end 45 rfl) ?_
  refine zi_icmp_lt (tgt := 79) (dq dM_end 46 rfl) (by decide) (fun c => ?_) (fun c => ?_)
  · have h := q_t c h
    refine zi_aload_n 2 (dq dM_end 54 rfl) rfl ?_
    refine ri_getr (zLs hL 0 rfl) (zLr hL 9 rfl) fM_38 (dq dM_end 55 rfl) ?_
    refine zi_iload_n 1 (dq dM_end 56 rfl) rfl ?_
    obtain ⟨c14, h⟩ := q_k h
    refine ri_iald (zLs hL 10 rfl) (by decide) rfl c14 (dq dM_end 57 rfl) ?_
    exact zG_lv (zs_c 2 rfl (zs_c 3 rfl (zs_c 1 rfl (zs_c 0 rfl zs_n)))) (SM_end_85 hL h hd )
  · have h := q_f c h
    refine zi_aload_n 2 (dq dM_end 47 rfl) rfl ?_
    refine ri_getr (zLs hL 0 rfl) (zLr hL 9 rfl) fM_38 (dq dM_end 48 rfl) ?_
    refine zi_iload_n 3 (dq dM_end 49 rfl) rfl ?_
    obtain ⟨c15, h⟩ := q_k h
    refine ri_iald (zLs hL 10 rfl) (by decide) rfl c15 (dq dM_end 50 rfl) ?_
    refine zi_iconst (v := 1) (dq dM_end 51 rfl) (by decide) ?_
    refine zi_iadd (dq dM_end 52 rfl) ?_
    refine zi_goto (tgt := 85) (dq dM_end 53 rfl) (by decide) ?_
    exact zG_lv (zs_c 2 rfl (zs_c 3 rfl (zs_c 1 rfl (zs_c 0 rfl zs_n)))) (SM_end_85 hL h hd )
def FM_whole_37 (N : Nat) (K5 : (zJ) → Option (Int32 × zJ)) (l1 : Int32) (J : zJ) : Option (Int32 × zJ) :=
  if l1 < 0 then
    K5 J
  else
    if (J 0 4) = 0 then
      some (l1, J)
    else
      K5 J
theorem SM_whole_37 {g : zg} {d N : Nat} {M0 : zM} {A : Nat} {r : Int32} {J1 : zJ} {J : zJ} {K5 : (zJ) → Option (Int32 × zJ)} {l1 : Int32} (hL : zLy M0 A mShL mRf) (h : FM_whole_37 N K5 l1 J = some (r, J1)) (hd : 4 ≤ d) (hK5 : ∀ s, K5 s = some (r, J1) → zG g d mM_whole (zPq (rI r) (zmm M0 A 40 J1)) (zmm M0 A 40 s) 5 [(0, va_rf (some (A + 0)))] []) : zG g d mM_whole (zPq (rI r) (zmm M0 A 40 J1)) (zmm M0 A 40 J) 37 [(0, va_rf (some (A + 0))), (1, .int l1)] [] := by
  unfold FM_whole_37 at h
  refine zi_iload_n 1 (dq dM_whole 19 rfl) rfl ?_
  refine zi_if_lt (tgt := 50) (dq dM_whole 20 rfl) (by decide) (fun c => ?_) (fun c => ?_)
  · have h := q_t c h
    refine zi_goto (tgt := 5) (dq dM_whole 26 rfl) (by decide) ?_
    exact zG_lv (zs_c 0 rfl zs_n) (hK5 _ h)
  · have h := q_f c h
    refine zi_aload_n 0 (dq dM_whole 21 rfl) rfl ?_
    refine ri_geti (zLs hL 0 rfl) (by decide) fM_149 (dq dM_whole 22 rfl) ?_
    refine zi_if_ne (tgt := 50) (dq dM_whole 23 rfl) (by decide) (fun c => ?_) (fun c => ?_)
    · have h := q_f c h
      refine zi_goto (tgt := 5) (dq dM_whole 26 rfl) (by decide) ?_
      exact zG_lv (zs_c 0 rfl zs_n) (hK5 _ h)
    · have h := q_t c h
      refine zi_iload_n 1 (dq dM_whole 24 rfl) rfl ?_
      exact zi_ireturn rfl rfl (dq dM_whole 25 rfl) (q_ri h)
def FM_whole_17 (N : Nat) (K5 : (zJ) → Option (Int32 × zJ)) (K17 : (Int32 × zJ) → Option (Int32 × zJ)) (s : Int32 × zJ) : Option (Int32 × zJ) :=
  let l1 := s.1
  let J := s.2
  if l1 < 0 then
    FM_whole_37 N K5 l1 J
  else
    if (J 0 5) ≤ 0 then
      FM_whole_37 N K5 l1 J
    else
      qb (FM_end N l1 J) fun v1 J2 =>
      K17 (v1, J2)
theorem SM_whole_17 {g : zg} {d N : Nat} {M0 : zM} {A : Nat} {r : Int32} {J1 : zJ} {K5 : (zJ) → Option (Int32 × zJ)}  (hL : zLy M0 A mShL mRf) (hd : 4 ≤ d) (hK5 : ∀ s, K5 s = some (r, J1) → zG g d mM_whole (zPq (rI r) (zmm M0 A 40 J1)) (zmm M0 A 40 s) 5 [(0, va_rf (some (A + 0)))] []) : ∀ n s, qfix (FM_whole_17 N K5) n s = some (r, J1) → zG g d mM_whole (zPq (rI r) (zmm M0 A 40 J1)) (zmm M0 A 40 s.2) 17 [(0, va_rf (some (A + 0))), (1, .int s.1)] [] := by
  refine qfix_sound (fun K17 hK17 s h => ?_)
  unfold FM_whole_17 at h
  refine zi_iload_n 1 (dq dM_whole 9 rfl) rfl ?_
  refine zi_if_lt (tgt := 37) (dq dM_whole 10 rfl) (by decide) (fun c => ?_) (fun c => ?_)
  · have h := q_t c h
    exact zG_lv (zs_c 0 rfl (zs_c 1 rfl zs_n)) (SM_whole_37 hL h hd hK5)
  · have h := q_f c h
    refine zi_aload_n 0 (dq dM_whole 11 rfl) rfl ?_
    refine ri_geti (zLs hL 0 rfl) (by decide) fM_177 (dq dM_whole 12 rfl) ?_
    refine zi_if_le (tgt := 37) (dq dM_whole 13 rfl) (by decide) (fun c => ?_) (fun c => ?_)
    · have h := q_t c h
      exact zG_lv (zs_c 0 rfl (zs_c 1 rfl zs_n)) (SM_whole_37 hL h hd hK5)
    · have h := q_f c h
      refine zi_aload_n 0 (dq dM_whole 14 rfl) rfl ?_
      refine zi_iload_n 1 (dq dM_whole 15 rfl) rfl ?_
      obtain ⟨v1, J2, hv1, h⟩ := q_b h
      refine zi_cVi1 (SM_end hL hv1 (d := d - 1) (by omega)) wM_end aM_183 iM_end sM_end (by omega) (zLs hL 0 rfl) rfl (Nat.le_of_ble_eq_true rfl) (dq dM_whole 16 rfl) (fun _ _ hh => ?_)
      obtain ⟨rfl, rfl⟩ := hh
      refine zi_istC_n (lv' := [(1, _), (0, _)]) (dq dM_whole 17 rfl) (by decide) (by simp [z_cr, z_ci]) rfl ?_
      refine zi_goto (tgt := 17) (dq dM_whole 18 rfl) (by decide) ?_
      exact zG_lv (zs_c 1 rfl (zs_c 0 rfl zs_n)) (hK17 _ h)
def FM_whole_5 (N : Nat) (K5 : (zJ) → Option (Int32 × zJ)) (s : zJ) : Option (Int32 × zJ) :=
  let J := s
  if (J 0 4) = 0 then
    qb (FM_begin N J) fun v1 J2 =>
    qfix (FM_whole_17 N K5) N (v1, J2)
  else
    some (((-1)), J)
theorem SM_whole_5 {g : zg} {d N : Nat} {M0 : zM} {A : Nat} {r : Int32} {J1 : zJ}   (hL : zLy M0 A mShL mRf) (hd : 4 ≤ d)  : ∀ n s, qfix (FM_whole_5 N) n s = some (r, J1) → zG g d mM_whole (zPq (rI r) (zmm M0 A 40 J1)) (zmm M0 A 40 s) 5 [(0, va_rf (some (A + 0)))] [] := by
  refine qfix_sound (fun K5 hK5 s h => ?_)
  unfold FM_whole_5 at h
  refine zi_aload_n 0 (dq dM_whole 3 rfl) rfl ?_
  refine ri_geti (zLs hL 0 rfl) (by decide) fM_149 (dq dM_whole 4 rfl) ?_
  refine zi_if_ne (tgt := 53) (dq dM_whole 5 rfl) (by decide) (fun c => ?_) (fun c => ?_)
  · have h := q_f c h
    refine zi_iconst (v := (-1)) (dq dM_whole 27 rfl) (by decide) ?_
    exact zi_ireturn rfl rfl (dq dM_whole 28 rfl) (q_ri h)
  · have h := q_t c h
    refine zi_aload_n 0 (dq dM_whole 6 rfl) rfl ?_
    obtain ⟨v1, J2, hv1, h⟩ := q_b h
    refine zi_cVi0 (SM_begin hL hv1 (d := d - 1) (by omega)) wM_begin aM_180 iM_begin sM_begin (by omega) (zLs hL 0 rfl) rfl (Nat.le_of_ble_eq_true rfl) (dq dM_whole 7 rfl) (fun _ _ hh => ?_)
    obtain ⟨rfl, rfl⟩ := hh
    refine zi_istC_n (lv' := [(1, _), (0, _)]) (dq dM_whole 8 rfl) (by decide) (by simp [z_cr, z_ci]) rfl ?_
    exact zG_lv (zs_c 1 rfl (zs_c 0 rfl zs_n)) (SM_whole_17 hL hd hK5 _ _ h)
def FM_whole (N : Nat) (J : zJ) : Option (Int32 × zJ) :=
  let J1 := zu J 0 5 0
  qfix (FM_whole_5 N) N J1
theorem SM_whole {g : zg} {d N : Nat} {M0 : zM} {A : Nat} {r : Int32} {J1 : zJ} {J : zJ}  (hL : zLy M0 A mShL mRf) (h : FM_whole N J = some (r, J1)) (hd : 4 ≤ d) : zEi g d mM_whole [va_rf (some (A + 0))] (zmm M0 A 40 J) (fun v Mq => v = r ∧ Mq = zmm M0 A 40 J1) := by
  unfold FM_whole at h
  refine zEi_q (r := r) (lv := [(0, va_rf (some (A + 0)))]) ⟨by decide +kernel, by decide, by decide +kernel⟩ (by simp [z_cr, z_ci]) (Nat.le_of_ble_eq_true rfl) rfl ?_
  refine zi_aload_n 0 (dq dM_whole 0 rfl) rfl ?_
  refine zi_iconst (v := 0) (dq dM_whole 1 rfl) (by decide) ?_
  refine ri_puti (zLs hL 0 rfl) (by decide) fM_177 (fun h => by cases h) rfl rfl (dq dM_whole 2 rfl) ?_
  exact zG_lv (zs_c 0 rfl zs_n) (SM_whole_5 hL hd  _ _ h)
def FM_definition_85 (N : Nat) (l1 : Int32) (t0 : Int32) (J : zJ) : Option (Unit × zJ) :=
  if t0 < 0 then
    some ((), J)
  else
    qb (FM_need N 59 J) fun v1 J2 =>
    if (bI v1) = 0 then
      some ((), J2)
    else
      qk (qi l1 26) <|
      let J4 := zu J2 3 l1.toNatClampNeg t0
      some ((), J4)
theorem SM_definition_85 {g : zg} {d N : Nat} {M0 : zM} {A : Nat} {r : Unit} {J1 : zJ} {J : zJ}  {l1 : Int32} {t0 : Int32} (hL : zLy M0 A mShL mRf) (h : FM_definition_85 N l1 t0 J = some (r, J1)) (hd : 5 ≤ d)  : zG g d mM_definition (zPq (rU r) (zmm M0 A 40 J1)) (zmm M0 A 40 J) 85 [(0, va_rf (some (A + 0))), (1, .int l1)] [.int t0] := by
  unfold FM_definition_85 at h
  refine zi_istC_n (lv' := [(2, _), (0, _), (1, _)]) (dq dM_definition 46 rfl) (by decide) (by simp [z_cr, z_ci]) rfl ?_
  refine zi_iload_n 0 (dq dM_definition 47 rfl) rfl ?_
  refine zi_if_lt (tgt := 106) (dq dM_definition 48 rfl) (by decide) (fun c => ?_) (fun c => ?_)
  · have h := q_t c h
    exact zi_return rfl (dq dM_definition 58 rfl) (q_ru h)
  · have h := q_f c h
    refine zi_aload_n 1 (dq dM_definition 49 rfl) rfl ?_
    refine zi_bipush (v := 59) (dq dM_definition 50 rfl) (by decide) ?_
    obtain ⟨v1, J2, hv1, h⟩ := q_b h
    refine zi_cVi1 (SM_need hL hv1 (d := d - 1) (by omega)) wM_need aM_170 iM_need sM_need (by omega) (zLs hL 0 rfl) rfl (Nat.le_of_ble_eq_true rfl) (dq dM_definition 51 rfl) (fun _ _ hh => ?_)
    obtain ⟨rfl, rfl⟩ := hh
    refine zi_if_eq (tgt := 106) (dq dM_definition 52 rfl) (by decide) (fun c => ?_) (fun c => ?_)
    · have h := q_t c h
      exact zi_return rfl (dq dM_definition 58 rfl) (q_ru h)
    · have h := q_f c h
      refine zi_aload_n 1 (dq dM_definition 53 rfl) rfl ?_
      refine ri_getr (zLs hL 0 rfl) (zLr hL 2 rfl) fM_17 (dq dM_definition 54 rfl) ?_
      refine zi_iload_n 2 (dq dM_definition 55 rfl) rfl ?_
      refine zi_iload_n 0 (dq dM_definition 56 rfl) rfl ?_
      obtain ⟨c3, h⟩ := q_k h
      refine ri_iast (zLs hL 3 rfl) (by decide) rfl c3 (dq dM_definition 57 rfl) ?_
      exact zi_return rfl (dq dM_definition 58 rfl) (q_ru h)
def FM_definition_50 (N : Nat) (l1 : Int32) (J : zJ) : Option (Unit × zJ) :=
  if (J 0 4) ≤ 0 then
    let J1 := zu J 0 3 ((J 0 3) + 1)
    qb (FM_need N 61 J1) fun v2 J3 =>
    if (bI v2) = 0 then
      FM_definition_85 N l1 ((-1)) J3
    else
      qb (FM_whole N J3) fun v4 J5 =>
      FM_definition_85 N l1 v4 J5
  else
    some ((), J)
theorem SM_definition_50 {g : zg} {d N : Nat} {M0 : zM} {A : Nat} {r : Unit} {J1 : zJ} {J : zJ}  {l1 : Int32} (hL : zLy M0 A mShL mRf) (h : FM_definition_50 N l1 J = some (r, J1)) (hd : 5 ≤ d)  : zG g d mM_definition (zPq (rU r) (zmm M0 A 40 J1)) (zmm M0 A 40 J) 50 [(0, va_rf (some (A + 0))), (1, .int l1)] [] := by
  unfold FM_definition_50 at h
  refine zi_aload_n 0 (dq dM_definition 28 rfl) rfl ?_
  refine ri_geti (zLs hL 0 rfl) (by decide) fM_149 (dq dM_definition 29 rfl) ?_
  refine zi_if_le (tgt := 58) (dq dM_definition 30 rfl) (by decide) (fun c => ?_) (fun c => ?_)
  · have h := q_t c h
    refine zi_aload_n 0 (dq dM_definition 32 rfl) rfl ?_
    refine zi_dup (dq dM_definition 33 rfl) (by first | rfl | exact z_cr _) ?_
    refine ri_geti (zLs hL 0 rfl) (by decide) fM_146 (dq dM_definition 34 rfl) ?_
    refine zi_iconst (v := 1) (dq dM_definition 35 rfl) (by decide) ?_
    refine zi_iadd (dq dM_definition 36 rfl) ?_
    refine ri_puti (zLs hL 0 rfl) (by decide) fM_146 (fun h => by cases h) rfl rfl (dq dM_definition 37 rfl) ?_
    refine zi_aload_n 0 (dq dM_definition 38 rfl) rfl ?_
    refine zi_bipush (v := 61) (dq dM_definition 39 rfl) (by decide) ?_
    obtain ⟨v2, J3, hv2, h⟩ := q_b h
    refine zi_cVi1 (SM_need hL hv2 (d := d - 1) (by omega)) wM_need aM_170 iM_need sM_need (by omega) (zLs hL 0 rfl) rfl (Nat.le_of_ble_eq_true rfl) (dq dM_definition 40 rfl) (fun _ _ hh => ?_)
    obtain ⟨rfl, rfl⟩ := hh
    refine zi_if_eq (tgt := 84) (dq dM_definition 41 rfl) (by decide) (fun c => ?_) (fun c => ?_)
    · have h := q_t c h
      refine zi_iconst (v := (-1)) (dq dM_definition 45 rfl) (by decide) ?_
      exact zG_lv (zs_c 0 rfl (zs_c 1 rfl zs_n)) (SM_definition_85 hL h hd )
    · have h := q_f c h
      refine zi_aload_n 0 (dq dM_definition 42 rfl) rfl ?_
      obtain ⟨v4, J5, hv4, h⟩ := q_b h
      refine zi_cVi0 (SM_whole hL hv4 (d := d - 1) (by omega)) wM_whole aM_174 iM_whole sM_whole (by omega) (zLs hL 0 rfl) rfl (Nat.le_of_ble_eq_true rfl) (dq dM_definition 43 rfl) (fun _ _ hh => ?_)
      obtain ⟨rfl, rfl⟩ := hh
      refine zi_goto (tgt := 85) (dq dM_definition 44 rfl) (by decide) ?_
      exact zG_lv (zs_c 0 rfl (zs_c 1 rfl zs_n)) (SM_definition_85 hL h hd )
  · have h := q_f c h
    exact zi_return rfl (dq dM_definition 31 rfl) (q_ru h)
def FM_definition (N : Nat) (J : zJ) : Option (Unit × zJ) :=
  qb (FM_look N J) fun v1 J2 =>
  let y3 := v1 - 65
  qc (FM_in N y3 0 25) fun v4 =>
  if (bI v4) = 0 then
    qb (FM_stop N 1 (J2 0 3) J2) fun v8 J9 =>
    FM_definition_50 N y3 J9
  else
    qk (qi y3 26) <|
    if (J2 3 y3.toNatClampNeg) < 0 then
      FM_definition_50 N y3 J2
    else
      qb (FM_stop N 2 (J2 0 3) J2) fun v6 J7 =>
      FM_definition_50 N y3 J7
theorem SM_definition {g : zg} {d N : Nat} {M0 : zM} {A : Nat} {r : Unit} {J1 : zJ} {J : zJ}  (hL : zLy M0 A mShL mRf) (h : FM_definition N J = some (r, J1)) (hd : 5 ≤ d) : zEv g d mM_definition [va_rf (some (A + 0))] (zmm M0 A 40 J) (fun Mq => Mq = zmm M0 A 40 J1) := by
  unfold FM_definition at h
  refine zEu_q (r := r) (lv := [(0, va_rf (some (A + 0)))]) ⟨by decide +kernel, by decide, by decide +kernel⟩ (by simp [z_cr, z_ci]) (Nat.le_of_ble_eq_true rfl) rfl ?_
  refine zi_aload_n 0 (dq dM_definition 0 rfl) rfl ?_
  obtain ⟨v1, J2, hv1, h⟩ := q_b h
  refine zi_cVi0 (SM_look hL hv1 (d := d - 1) (by omega)) wM_look aM_152 iM_look sM_look (by omega) (zLs hL 0 rfl) rfl (Nat.le_of_ble_eq_true rfl) (dq dM_definition 1 rfl) (fun _ _ hh => ?_)
  obtain ⟨rfl, rfl⟩ := hh
  refine zi_bipush (v := 65) (dq dM_definition 2 rfl) (by decide) ?_
  refine zi_isub (dq dM_definition 3 rfl) ?_
  refine zi_istC_n (lv' := [(1, _), (0, _)]) (dq dM_definition 4 rfl) (by decide) (by simp [z_cr, z_ci]) rfl ?_
  refine zi_iload_n 0 (dq dM_definition 5 rfl) rfl ?_
  refine zi_iconst (v := 0) (dq dM_definition 6 rfl) (by decide) ?_
  refine zi_bipush (v := 25) (dq dM_definition 7 rfl) (by decide) ?_
  obtain ⟨v4, hv4, h⟩ := q_c h
  refine zi_cSi3 (SM_in  hv4 (d := d - 1) (by omega)) wM_in aM_166 tM_in (by omega) (Nat.le_of_ble_eq_true rfl) (dq dM_definition 8 rfl) (fun _ _ hh => ?_)
  obtain ⟨rfl, rfl⟩ := hh
  refine zi_if_ne (tgt := 31) (dq dM_definition 9 rfl) (by decide) (fun c => ?_) (fun c => ?_)
  · have h := q_f c h
    refine zi_aload_n 1 (dq dM_definition 17 rfl) rfl ?_
    refine ri_getr (zLs hL 0 rfl) (zLr hL 2 rfl) fM_17 (dq dM_definition 18 rfl) ?_
    refine zi_iload_n 0 (dq dM_definition 19 rfl) rfl ?_
    obtain ⟨c5, h⟩ := q_k h
    refine ri_iald (zLs hL 3 rfl) (by decide) rfl c5 (dq dM_definition 20 rfl) ?_
    refine zi_if_lt (tgt := 50) (dq dM_definition 21 rfl) (by decide) (fun c => ?_) (fun c => ?_)
    · have h := q_t c h
      exact zG_lv (zs_c 1 rfl (zs_c 0 rfl zs_n)) (SM_definition_50 hL h hd )
    · have h := q_f c h
      refine zi_aload_n 1 (dq dM_definition 22 rfl) rfl ?_
      refine zi_iconst (v := 2) (dq dM_definition 23 rfl) (by decide) ?_
      refine zi_aload_n 1 (dq dM_definition 24 rfl) rfl ?_
      refine ri_geti (zLs hL 0 rfl) (by decide) fM_146 (dq dM_definition 25 rfl) ?_
      obtain ⟨v6, J7, hv6, h⟩ := q_b h
      refine zi_cVi2 (SM_stop hL hv6 (d := d - 1) (by omega)) wM_stop aM_156 iM_stop sM_stop (by omega) (zLs hL 0 rfl) rfl (Nat.le_of_ble_eq_true rfl) (dq dM_definition 26 rfl) (fun _ _ hh => ?_)
      obtain ⟨rfl, rfl⟩ := hh
      refine zi_pop (dq dM_definition 27 rfl) (by first | rfl | exact z_cr _) ?_
      exact zG_lv (zs_c 1 rfl (zs_c 0 rfl zs_n)) (SM_definition_50 hL h hd )
  · have h := q_t c h
    refine zi_aload_n 1 (dq dM_definition 10 rfl) rfl ?_
    refine zi_iconst (v := 1) (dq dM_definition 11 rfl) (by decide) ?_
    refine zi_aload_n 1 (dq dM_definition 12 rfl) rfl ?_
    refine ri_geti (zLs hL 0 rfl) (by decide) fM_146 (dq dM_definition 13 rfl) ?_
    obtain ⟨v8, J9, hv8, h⟩ := q_b h
    refine zi_cVi2 (SM_stop hL hv8 (d := d - 1) (by omega)) wM_stop aM_156 iM_stop sM_stop (by omega) (zLs hL 0 rfl) rfl (Nat.le_of_ble_eq_true rfl) (dq dM_definition 14 rfl) (fun _ _ hh => ?_)
    obtain ⟨rfl, rfl⟩ := hh
    refine zi_pop (dq dM_definition 15 rfl) (by first | rfl | exact z_cr _) ?_
    refine zi_goto (tgt := 50) (dq dM_definition 16 rfl) (by decide) ?_
    exact zG_lv (zs_c 1 rfl (zs_c 0 rfl zs_n)) (SM_definition_50 hL h hd )
