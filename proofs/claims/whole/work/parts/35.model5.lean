/-! THE REFERENCE AS FUNCTIONS, 5 (tools/genM.py) -/
def FM_keep_108 (N : Nat) (K108 : (Int32 × zJ) → Option (Unit × zJ)) (s : Int32 × zJ) : Option (Unit × zJ) :=
  let l1 := s.1
  let J := s.2
  if (J 0 35) ≤ l1 then
    some ((), J)
  else
    qk (qi l1 240) <|
    qk (qi l1 240) <|
    let J3 := zu J 30 l1.toNatClampNeg (J 28 l1.toNatClampNeg)
    let y4 := l1 + (1)
    K108 (y4, J3)
theorem SM_keep_108 {g : zg} {d N : Nat} {M0 : zM} {A : Nat} {r : Unit} {J1 : zJ}   (hL : zLy M0 A mShL mRf) (hd : 3 ≤ d)  : ∀ n s, qfix (FM_keep_108 N) n s = some (r, J1) → zG g d mM_keep (zPq (rU r) (zmm M0 A 40 J1)) (zmm M0 A 40 s.2) 108 [(0, va_rf (some (A + 0))), (1, .int s.1)] [] := by
  refine qfix_sound (fun K108 hK108 s h => ?_)
  unfold FM_keep_108 at h
  refine zi_iload_n 1 (dq dM_keep 74 rfl) rfl ?_
  refine zi_aload_n 0 (dq dM_keep 75 rfl) rfl ?_
  refine ri_geti (zLs hL 0 rfl) (by decide) fM_239 (dq dM_keep 76 rfl) ?_
  refine zi_icmp_ge (tgt := 134) (dq dM_keep 77 rfl) (by decide) (fun c => ?_) (fun c => ?_)
  · have h := q_t c h
    exact zi_return rfl (dq dM_keep 88 rfl) (q_ru h)
  · have h := q_f c h
    refine zi_aload_n 0 (dq dM_keep 78 rfl) rfl ?_
    refine ri_getr (zLs hL 0 rfl) (zLr hL 29 rfl) fM_99 (dq dM_keep 79 rfl) ?_
    refine zi_iload_n 1 (dq dM_keep 80 rfl) rfl ?_
    refine zi_aload_n 0 (dq dM_keep 81 rfl) rfl ?_
    refine ri_getr (zLs hL 0 rfl) (zLr hL 27 rfl) fM_93 (dq dM_keep 82 rfl) ?_
    refine zi_iload_n 1 (dq dM_keep 83 rfl) rfl ?_
    obtain ⟨c1, h⟩ := q_k h
    refine ri_iald (zLs hL 28 rfl) (by decide) rfl c1 (dq dM_keep 84 rfl) ?_
    obtain ⟨c2, h⟩ := q_k h
    refine ri_iast (zLs hL 30 rfl) (by decide) rfl c2 (dq dM_keep 85 rfl) ?_
    refine zi_iincC (v := _ + (1)) (lv' := [(1, _), (0, _)]) 1 (dq dM_keep 86 rfl) rfl rfl (by decide) (by simp [z_cr, z_ci]) rfl ?_
    refine zi_goto (tgt := 108) (dq dM_keep 87 rfl) (by decide) ?_
    exact zG_lv (zs_c 1 rfl (zs_c 0 rfl zs_n)) (hK108 _ h)
def FM_keep_10 (N : Nat) (K10 : (Int32 × zJ) → Option (Unit × zJ)) (s : Int32 × zJ) : Option (Unit × zJ) :=
  let l1 := s.1
  let J := s.2
  if (J 0 34) ≤ l1 then
    qfix (FM_keep_108 N) N (0, J)
  else
    qb (FM_baseOf N l1 J) fun v1 J2 =>
    qk (qi v1 160) <|
    qk (qi (5 * l1) 500) <|
    let J5 := zu J2 29 (5 * l1).toNatClampNeg (J2 4 v1.toNatClampNeg)
    qk (qi l1 100) <|
    qk (qi ((5 * l1) + 1) 500) <|
    let J8 := zu J5 29 ((5 * l1) + 1).toNatClampNeg (J5 22 l1.toNatClampNeg)
    qk (qi l1 100) <|
    qk (qi ((5 * l1) + 2) 500) <|
    let J11 := zu J8 29 ((5 * l1) + 2).toNatClampNeg (J8 23 l1.toNatClampNeg)
    qk (qi l1 100) <|
    qk (qi ((5 * l1) + 3) 500) <|
    let J14 := zu J11 29 ((5 * l1) + 3).toNatClampNeg (J11 24 l1.toNatClampNeg)
    qk (qi l1 100) <|
    qk (qi ((5 * l1) + 4) 500) <|
    let J17 := zu J14 29 ((5 * l1) + 4).toNatClampNeg (J14 25 l1.toNatClampNeg)
    let y18 := l1 + (1)
    K10 (y18, J17)
theorem SM_keep_10 {g : zg} {d N : Nat} {M0 : zM} {A : Nat} {r : Unit} {J1 : zJ}   (hL : zLy M0 A mShL mRf) (hd : 3 ≤ d)  : ∀ n s, qfix (FM_keep_10 N) n s = some (r, J1) → zG g d mM_keep (zPq (rU r) (zmm M0 A 40 J1)) (zmm M0 A 40 s.2) 10 [(0, va_rf (some (A + 0))), (1, .int s.1)] [] := by
  refine qfix_sound (fun K10 hK10 s h => ?_)
  unfold FM_keep_10 at h
  refine zi_iload_n 1 (dq dM_keep 6 rfl) rfl ?_
  refine zi_aload_n 0 (dq dM_keep 7 rfl) rfl ?_
  refine ri_geti (zLs hL 0 rfl) (by decide) fM_233 (dq dM_keep 8 rfl) ?_
  refine zi_icmp_ge (tgt := 106) (dq dM_keep 9 rfl) (by decide) (fun c => ?_) (fun c => ?_)
  · have h := q_t c h
    refine zi_iconst (v := 0) (dq dM_keep 72 rfl) (by decide) ?_
    refine zi_istC_n (lv' := [(1, _), (0, _)]) (dq dM_keep 73 rfl) (by decide) (by simp [z_cr, z_ci]) rfl ?_
    exact zG_lv (zs_c 1 rfl (zs_c 0 rfl zs_n)) (SM_keep_108 hL hd  _ _ h)
  · have h := q_f c h
    refine zi_aload_n 0 (dq dM_keep 10 rfl) rfl ?_
    refine ri_getr (zLs hL 0 rfl) (zLr hL 28 rfl) fM_96 (dq dM_keep 11 rfl) ?_
    refine zi_iconst (v := 5) (dq dM_keep 12 rfl) (by decide) ?_
    refine zi_iload_n 1 (dq dM_keep 13 rfl) rfl ?_
    refine zi_imul (dq dM_keep 14 rfl) ?_
    refine zi_aload_n 0 (dq dM_keep 15 rfl) rfl ?_
    refine ri_getr (zLs hL 0 rfl) (zLr hL 3 rfl) fM_20 (dq dM_keep 16 rfl) ?_
    refine zi_aload_n 0 (dq dM_keep 17 rfl) rfl ?_
    refine zi_iload_n 1 (dq dM_keep 18 rfl) rfl ?_
    obtain ⟨v1, J2, hv1, h⟩ := q_b h
    refine zi_cVi1 (SM_baseOf hL hv1 (d := d - 1) (by omega)) wM_baseOf aM_308 iM_baseOf sM_baseOf (by omega) (zLs hL 0 rfl) rfl (Nat.le_of_ble_eq_true rfl) (dq dM_keep 19 rfl) (fun _ _ hh => ?_)
    obtain ⟨rfl, rfl⟩ := hh
    obtain ⟨c3, h⟩ := q_k h
    refine ri_iald (zLs hL 4 rfl) (by decide) rfl c3 (dq dM_keep 20 rfl) ?_
    obtain ⟨c4, h⟩ := q_k h
    refine ri_iast (zLs hL 29 rfl) (by decide) rfl c4 (dq dM_keep 21 rfl) ?_
    refine zi_aload_n 0 (dq dM_keep 22 rfl) rfl ?_
    refine ri_getr (zLs hL 0 rfl) (zLr hL 28 rfl) fM_96 (dq dM_keep 23 rfl) ?_
    refine zi_iconst (v := 5) (dq dM_keep 24 rfl) (by decide) ?_
    refine zi_iload_n 1 (dq dM_keep 25 rfl) rfl ?_
    refine zi_imul (dq dM_keep 26 rfl) ?_
    refine zi_iconst (v := 1) (dq dM_keep 27 rfl) (by decide) ?_
    refine zi_iadd (dq dM_keep 28 rfl) ?_
    refine zi_aload_n 0 (dq dM_keep 29 rfl) rfl ?_
    refine ri_getr (zLs hL 0 rfl) (zLr hL 21 rfl) fM_75 (dq dM_keep 30 rfl) ?_
    refine zi_iload_n 1 (dq dM_keep 31 rfl) rfl ?_
    obtain ⟨c6, h⟩ := q_k h
    refine ri_iald (zLs hL 22 rfl) (by decide) rfl c6 (dq dM_keep 32 rfl) ?_
    obtain ⟨c7, h⟩ := q_k h
    refine ri_iast (zLs hL 29 rfl) (by decide) rfl c7 (dq dM_keep 33 rfl) ?_
    refine zi_aload_n 0 (dq dM_keep 34 rfl) rfl ?_
    refine ri_getr (zLs hL 0 rfl) (zLr hL 28 rfl) fM_96 (dq dM_keep 35 rfl) ?_
    refine zi_iconst (v := 5) (dq dM_keep 36 rfl) (by decide) ?_
    refine zi_iload_n 1 (dq dM_keep 37 rfl) rfl ?_
    refine zi_imul (dq dM_keep 38 rfl) ?_
    refine zi_iconst (v := 2) (dq dM_keep 39 rfl) (by decide) ?_
    refine zi_iadd (dq dM_keep 40 rfl) ?_
    refine zi_aload_n 0 (dq dM_keep 41 rfl) rfl ?_
    refine ri_getr (zLs hL 0 rfl) (zLr hL 22 rfl) fM_78 (dq dM_keep 42 rfl) ?_
    refine zi_iload_n 1 (dq dM_keep 43 rfl) rfl ?_
    obtain ⟨c9, h⟩ := q_k h
    refine ri_iald (zLs hL 23 rfl) (by decide) rfl c9 (dq dM_keep 44 rfl) ?_
    obtain ⟨c10, h⟩ := q_k h
    refine ri_iast (zLs hL 29 rfl) (by decide) rfl c10 (dq dM_keep 45 rfl) ?_
    refine zi_aload_n 0 (dq dM_keep 46 rfl) rfl ?_
    refine ri_getr (zLs hL 0 rfl) (zLr hL 28 rfl) fM_96 (dq dM_keep 47 rfl) ?_
    refine zi_iconst (v := 5) (dq dM_keep 48 rfl) (by decide) ?_
    refine zi_iload_n 1 (dq dM_keep 49 rfl) rfl ?_
    refine zi_imul (dq dM_keep 50 rfl) ?_
    refine zi_iconst (v := 3) (dq dM_keep 51 rfl) (by decide) ?_
    refine zi_iadd (dq dM_keep 52 rfl) ?_
    refine zi_aload_n 0 (dq dM_keep 53 rfl) rfl ?_
    refine ri_getr (zLs hL 0 rfl) (zLr hL 23 rfl) fM_81 (dq dM_keep 54 rfl) ?_
    refine zi_iload_n 1 (dq dM_keep 55 rfl) rfl ?_
    obtain ⟨c12, h⟩ := q_k h
    refine ri_iald (zLs hL 24 rfl) (by decide) rfl c12 (dq dM_keep 56 rfl) ?_
    obtain ⟨c13, h⟩ := q_k h
    refine ri_iast (zLs hL 29 rfl) (by decide) rfl c13 (dq dM_keep 57 rfl) ?_
    refine zi_aload_n 0 (dq dM_keep 58 rfl) rfl ?_
    refine ri_getr (zLs hL 0 rfl) (zLr hL 28 rfl) fM_96 (dq dM_keep 59 rfl) ?_
    refine zi_iconst (v := 5) (dq dM_keep 60 rfl) (by decide) ?_
    refine zi_iload_n 1 (dq dM_keep 61 rfl) rfl ?_
    refine zi_imul (dq dM_keep 62 rfl) ?_
    refine zi_iconst (v := 4) (dq dM_keep 63 rfl) (by decide) ?_
    refine zi_iadd (dq dM_keep 64 rfl) ?_
    refine zi_aload_n 0 (dq dM_keep 65 rfl) rfl ?_
    refine ri_getr (zLs hL 0 rfl) (zLr hL 24 rfl) fM_84 (dq dM_keep 66 rfl) ?_
    refine zi_iload_n 1 (dq dM_keep 67 rfl) rfl ?_
    obtain ⟨c15, h⟩ := q_k h
    refine ri_iald (zLs hL 25 rfl) (by decide) rfl c15 (dq dM_keep 68 rfl) ?_
    obtain ⟨c16, h⟩ := q_k h
    refine ri_iast (zLs hL 29 rfl) (by decide) rfl c16 (dq dM_keep 69 rfl) ?_
    refine zi_iincC (v := _ + (1)) (lv' := [(1, _), (0, _)]) 1 (dq dM_keep 70 rfl) rfl rfl (by decide) (by simp [z_cr, z_ci]) rfl ?_
    refine zi_goto (tgt := 10) (dq dM_keep 71 rfl) (by decide) ?_
    exact zG_lv (zs_c 1 rfl (zs_c 0 rfl zs_n)) (hK10 _ h)
def FM_keep (N : Nat) (J : zJ) : Option (Unit × zJ) :=
  let J1 := zu J 0 44 (J 0 34)
  qfix (FM_keep_10 N) N (0, J1)
theorem SM_keep {g : zg} {d N : Nat} {M0 : zM} {A : Nat} {r : Unit} {J1 : zJ} {J : zJ}  (hL : zLy M0 A mShL mRf) (h : FM_keep N J = some (r, J1)) (hd : 3 ≤ d) : zEv g d mM_keep [va_rf (some (A + 0))] (zmm M0 A 40 J) (fun Mq => Mq = zmm M0 A 40 J1) := by
  unfold FM_keep at h
  refine zEu_q (r := r) (lv := [(0, va_rf (some (A + 0)))]) ⟨by decide +kernel, by decide, by decide +kernel⟩ (by simp [z_cr, z_ci]) (Nat.le_of_ble_eq_true rfl) rfl ?_
  refine zi_aload_n 0 (dq dM_keep 0 rfl) rfl ?_
  refine zi_aload_n 0 (dq dM_keep 1 rfl) rfl ?_
  refine ri_geti (zLs hL 0 rfl) (by decide) fM_233 (dq dM_keep 2 rfl) ?_
  refine ri_puti (zLs hL 0 rfl) (by decide) fM_140 (fun h => by cases h) rfl rfl (dq dM_keep 3 rfl) ?_
  refine zi_iconst (v := 0) (dq dM_keep 4 rfl) (by decide) ?_
  refine zi_istC_n (lv' := [(1, _), (0, _)]) (dq dM_keep 5 rfl) (by decide) (by simp [z_cr, z_ci]) rfl ?_
  exact zG_lv (zs_c 1 rfl (zs_c 0 rfl zs_n)) (SM_keep_10 hL hd  _ _ h)
def FM_typeOf (N : Nat) (l1 : Int32) (J : zJ) : Option (Int32 × zJ) :=
  qc (FM_in N l1 65 90) fun v1 =>
  if (bI v1) = 0 then
    some (((-1)), J)
  else
    qk (qi (l1 - 65) 26) <|
    some ((J 3 (l1 - 65).toNatClampNeg), J)
theorem SM_typeOf {g : zg} {d N : Nat} {M0 : zM} {A : Nat} {r : Int32} {J1 : zJ} {J : zJ} {l1 : Int32} (hL : zLy M0 A mShL mRf) (h : FM_typeOf N l1 J = some (r, J1)) (hd : 1 ≤ d) : zEi g d mM_typeOf [va_rf (some (A + 0)), .int l1] (zmm M0 A 40 J) (fun v Mq => v = r ∧ Mq = zmm M0 A 40 J1) := by
  unfold FM_typeOf at h
  refine zEi_q (r := r) (lv := [(0, va_rf (some (A + 0))), (1, .int l1)]) ⟨by decide +kernel, by decide, by decide +kernel⟩ (by simp [z_cr, z_ci]) (Nat.le_of_ble_eq_true rfl) rfl ?_
  refine zi_iload_n 1 (dq dM_typeOf 0 rfl) rfl ?_
  refine zi_bipush (v := 65) (dq dM_typeOf 1 rfl) (by decide) ?_
  refine zi_bipush (v := 90) (dq dM_typeOf 2 rfl) (by decide) ?_
  obtain ⟨v1, hv1, h⟩ := q_c h
  refine zi_cSi3 (SM_in  hv1 (d := d - 1) (by omega)) wM_in aM_166 tM_in (by omega) (Nat.le_of_ble_eq_true rfl) (dq dM_typeOf 3 rfl) (fun _ _ hh => ?_)
  obtain ⟨rfl, rfl⟩ := hh
  refine zi_if_eq (tgt := 23) (dq dM_typeOf 4 rfl) (by decide) (fun c => ?_) (fun c => ?_)
  · have h := q_t c h
    refine zi_iconst (v := (-1)) (dq dM_typeOf 12 rfl) (by decide) ?_
    exact zi_ireturn rfl rfl (dq dM_typeOf 13 rfl) (q_ri h)
  · have h := q_f c h
    refine zi_aload_n 0 (dq dM_typeOf 5 rfl) rfl ?_
    refine ri_getr (zLs hL 0 rfl) (zLr hL 2 rfl) fM_17 (dq dM_typeOf 6 rfl) ?_
    refine zi_iload_n 1 (dq dM_typeOf 7 rfl) rfl ?_
    refine zi_bipush (v := 65) (dq dM_typeOf 8 rfl) (by decide) ?_
    refine zi_isub (dq dM_typeOf 9 rfl) ?_
    obtain ⟨c2, h⟩ := q_k h
    refine ri_iald (zLs hL 3 rfl) (by decide) rfl c2 (dq dM_typeOf 10 rfl) ?_
    refine zi_goto (tgt := 24) (dq dM_typeOf 11 rfl) (by decide) ?_
    exact zi_ireturn rfl rfl (dq dM_typeOf 13 rfl) (q_ri h)
def FM_asked (N : Nat) (l1 : Int32) (l2 : Int32) (J : zJ) : Option (Int32 × zJ) :=
  if l1 = 0 then
    some (1, J)
  else
    if (J 0 1) = 0 then
      some (2, J)
    else
      qb (FM_typeOf N l2 J) fun v1 J2 =>
      if 0 ≤ v1 then
        some (0, J2)
      else
        some (3, J2)
theorem SM_asked {g : zg} {d N : Nat} {M0 : zM} {A : Nat} {r : Int32} {J1 : zJ} {J : zJ} {l1 : Int32} {l2 : Int32} (hL : zLy M0 A mShL mRf) (h : FM_asked N l1 l2 J = some (r, J1)) (hd : 2 ≤ d) : zEi g d mM_asked [va_rf (some (A + 0)), .int l1, .int l2] (zmm M0 A 40 J) (fun v Mq => v = r ∧ Mq = zmm M0 A 40 J1) := by
  unfold FM_asked at h
  refine zEi_q (r := r) (lv := [(0, va_rf (some (A + 0))), (1, .int l1), (2, .int l2)]) ⟨by decide +kernel, by decide, by decide +kernel⟩ (by simp [z_cr, z_ci]) (Nat.le_of_ble_eq_true rfl) rfl ?_
  refine zi_iload_n 1 (dq dM_asked 0 rfl) rfl ?_
  refine zi_if_ne (tgt := 8) (dq dM_asked 1 rfl) (by decide) (fun c => ?_) (fun c => ?_)
  · have h := q_f c h
    refine zi_aload_n 0 (dq dM_asked 4 rfl) rfl ?_
    refine ri_geti (zLs hL 0 rfl) (by decide) fM_136 (dq dM_asked 5 rfl) ?_
    refine zi_if_ne (tgt := 19) (dq dM_asked 6 rfl) (by decide) (fun c => ?_) (fun c => ?_)
    · have h := q_f c h
      refine zi_aload_n 0 (dq dM_asked 9 rfl) rfl ?_
      refine zi_iload_n 2 (dq dM_asked 10 rfl) rfl ?_
      obtain ⟨v1, J2, hv1, h⟩ := q_b h
      refine zi_cVi1 (SM_typeOf hL hv1 (d := d - 1) (by omega)) wM_typeOf aM_368 iM_typeOf sM_typeOf (by omega) (zLs hL 0 rfl) rfl (Nat.le_of_ble_eq_true rfl) (dq dM_asked 11 rfl) (fun _ _ hh => ?_)
      obtain ⟨rfl, rfl⟩ := hh
      refine zi_if_ge (tgt := 31) (dq dM_asked 12 rfl) (by decide) (fun c => ?_) (fun c => ?_)
      · have h := q_t c h
        refine zi_iconst (v := 0) (dq dM_asked 15 rfl) (by decide) ?_
        exact zi_ireturn rfl rfl (dq dM_asked 16 rfl) (q_ri h)
      · have h := q_f c h
        refine zi_iconst (v := 3) (dq dM_asked 13 rfl) (by decide) ?_
        refine zi_goto (tgt := 32) (dq dM_asked 14 rfl) (by decide) ?_
        exact zi_ireturn rfl rfl (dq dM_asked 16 rfl) (q_ri h)
    · have h := q_t c h
      refine zi_iconst (v := 2) (dq dM_asked 7 rfl) (by decide) ?_
      refine zi_goto (tgt := 32) (dq dM_asked 8 rfl) (by decide) ?_
      exact zi_ireturn rfl rfl (dq dM_asked 16 rfl) (q_ri h)
  · have h := q_t c h
    refine zi_iconst (v := 1) (dq dM_asked 2 rfl) (by decide) ?_
    refine zi_goto (tgt := 32) (dq dM_asked 3 rfl) (by decide) ?_
    exact zi_ireturn rfl rfl (dq dM_asked 16 rfl) (q_ri h)
def FM_load_12 (N : Nat) (l1 : Int32) (K12 : (Int32 × zJ) → Option (Unit × zJ)) (s : Int32 × zJ) : Option (Unit × zJ) :=
  let l2 := s.1
  let J := s.2
  if (J 0 28) ≤ l2 then
    some ((), J)
  else
    qk (qi (l1 + l2) 120) <|
    qk (qi l2 120) <|
    let J3 := zu J 19 l2.toNatClampNeg (J 18 (l1 + l2).toNatClampNeg)
    let y4 := l2 + (1)
    K12 (y4, J3)
theorem SM_load_12 {g : zg} {d N : Nat} {M0 : zM} {A : Nat} {r : Unit} {J1 : zJ}  {l1 : Int32} (hL : zLy M0 A mShL mRf) (hd : 0 ≤ d)  : ∀ n s, qfix (FM_load_12 N l1) n s = some (r, J1) → zG g d mM_load (zPq (rU r) (zmm M0 A 40 J1)) (zmm M0 A 40 s.2) 12 [(0, va_rf (some (A + 0))), (1, .int l1), (2, .int s.1)] [] := by
  refine qfix_sound (fun K12 hK12 s h => ?_)
  unfold FM_load_12 at h
  refine zi_iload_n 2 (dq dM_load 8 rfl) rfl ?_
  refine zi_aload_n 0 (dq dM_load 9 rfl) rfl ?_
  refine ri_geti (zLs hL 0 rfl) (by decide) fM_261 (dq dM_load 10 rfl) ?_
  refine zi_icmp_ge (tgt := 40) (dq dM_load 11 rfl) (by decide) (fun c => ?_) (fun c => ?_)
  · have h := q_t c h
    exact zi_return rfl (dq dM_load 24 rfl) (q_ru h)
  · have h := q_f c h
    refine zi_aload_n 0 (dq dM_load 12 rfl) rfl ?_
    refine ri_getr (zLs hL 0 rfl) (zLr hL 18 rfl) fM_66 (dq dM_load 13 rfl) ?_
    refine zi_iload_n 2 (dq dM_load 14 rfl) rfl ?_
    refine zi_aload_n 0 (dq dM_load 15 rfl) rfl ?_
    refine ri_getr (zLs hL 0 rfl) (zLr hL 17 rfl) fM_63 (dq dM_load 16 rfl) ?_
    refine zi_iload_n 1 (dq dM_load 17 rfl) rfl ?_
    refine zi_iload_n 2 (dq dM_load 18 rfl) rfl ?_
    refine zi_iadd (dq dM_load 19 rfl) ?_
    obtain ⟨c1, h⟩ := q_k h
    refine ri_iald (zLs hL 18 rfl) (by decide) rfl c1 (dq dM_load 20 rfl) ?_
    obtain ⟨c2, h⟩ := q_k h
    refine ri_iast (zLs hL 19 rfl) (by decide) rfl c2 (dq dM_load 21 rfl) ?_
    refine zi_iincC (v := _ + (1)) (lv' := [(2, _), (0, _), (1, _)]) 2 (dq dM_load 22 rfl) rfl rfl (by decide) (by simp [z_cr, z_ci]) rfl ?_
    refine zi_goto (tgt := 12) (dq dM_load 23 rfl) (by decide) ?_
    exact zG_lv (zs_c 1 rfl (zs_c 2 rfl (zs_c 0 rfl zs_n))) (hK12 _ h)
def FM_load (N : Nat) (l1 : Int32) (J : zJ) : Option (Unit × zJ) :=
  let J1 := zu J 0 28 ((J 0 27) - l1)
  qfix (FM_load_12 N l1) N (0, J1)
theorem SM_load {g : zg} {d N : Nat} {M0 : zM} {A : Nat} {r : Unit} {J1 : zJ} {J : zJ} {l1 : Int32} (hL : zLy M0 A mShL mRf) (h : FM_load N l1 J = some (r, J1)) (hd : 0 ≤ d) : zEv g d mM_load [va_rf (some (A + 0)), .int l1] (zmm M0 A 40 J) (fun Mq => Mq = zmm M0 A 40 J1) := by
  unfold FM_load at h
  refine zEu_q (r := r) (lv := [(0, va_rf (some (A + 0))), (1, .int l1)]) ⟨by decide +kernel, by decide, by decide +kernel⟩ (by simp [z_cr, z_ci]) (Nat.le_of_ble_eq_true rfl) rfl ?_
  refine zi_aload_n 0 (dq dM_load 0 rfl) rfl ?_
  refine zi_aload_n 0 (dq dM_load 1 rfl) rfl ?_
  refine ri_geti (zLs hL 0 rfl) (by decide) fM_228 (dq dM_load 2 rfl) ?_
  refine zi_iload_n 1 (dq dM_load 3 rfl) rfl ?_
  refine zi_isub (dq dM_load 4 rfl) ?_
  refine ri_puti (zLs hL 0 rfl) (by decide) fM_261 (fun h => by cases h) rfl rfl (dq dM_load 5 rfl) ?_
  refine zi_iconst (v := 0) (dq dM_load 6 rfl) (by decide) ?_
  refine zi_istC_n (lv' := [(2, _), (0, _), (1, _)]) (dq dM_load 7 rfl) (by decide) (by simp [z_cr, z_ci]) rfl ?_
  exact zG_lv (zs_c 1 rfl (zs_c 2 rfl (zs_c 0 rfl zs_n))) (SM_load_12 hL hd  _ _ h)
def FM_transcode_88 (N : Nat) (K88 : (Int32 × zJ) → Option (Int32 × zJ)) (s : Int32 × zJ) : Option (Int32 × zJ) :=
  let l4 := s.1
  let J := s.2
  if (J 0 29) ≤ l4 then
    let J1 := zu J 0 27 (J 0 29)
    some ((J1 0 29), J1)
  else
    qk (qi l4 4000) <|
    qk (qi l4 120) <|
    let J4 := zu J 18 l4.toNatClampNeg (J 20 l4.toNatClampNeg)
    let y5 := l4 + (1)
    K88 (y5, J4)
theorem SM_transcode_88 {g : zg} {d N : Nat} {M0 : zM} {A : Nat} {r : Int32} {J1 : zJ}   (hL : zLy M0 A mShL mRf) (hd : 8 ≤ d)  : ∀ n s, qfix (FM_transcode_88 N) n s = some (r, J1) → zG g d mM_transcode (zPq (rI r) (zmm M0 A 40 J1)) (zmm M0 A 40 s.2) 88 [(0, va_rf (some (A + 0))), (4, .int s.1)] [] := by
  refine qfix_sound (fun K88 hK88 s h => ?_)
  unfold FM_transcode_88 at h
  refine zi_iload 1 (dq dM_transcode 50 rfl) rfl ?_
  refine zi_aload_n 0 (dq dM_transcode 51 rfl) rfl ?_
  refine ri_geti (zLs hL 0 rfl) (by decide) fM_270 (dq dM_transcode 52 rfl) ?_
  refine zi_icmp_ge (tgt := 117) (dq dM_transcode 53 rfl) (by decide) (fun c => ?_) (fun c => ?_)
  · have h := q_t c h
    refine zi_aload_n 0 (dq dM_transcode 64 rfl) rfl ?_
    refine zi_aload_n 0 (dq dM_transcode 65 rfl) rfl ?_
    refine ri_geti (zLs hL 0 rfl) (by decide) fM_270 (dq dM_transcode 66 rfl) ?_
    refine ri_puti (zLs hL 0 rfl) (by decide) fM_228 (fun h => by cases h) rfl rfl (dq dM_transcode 67 rfl) ?_
    refine zi_aload_n 0 (dq dM_transcode 68 rfl) rfl ?_
    refine ri_geti (zLs hL 0 rfl) (by decide) fM_270 (dq dM_transcode 69 rfl) ?_
    exact zi_ireturn rfl rfl (dq dM_transcode 70 rfl) (q_ri h)
  · have h := q_f c h
    refine zi_aload_n 0 (dq dM_transcode 54 rfl) rfl ?_
    refine ri_getr (zLs hL 0 rfl) (zLr hL 17 rfl) fM_63 (dq dM_transcode 55 rfl) ?_
    refine zi_iload 1 (dq dM_transcode 56 rfl) rfl ?_
    refine zi_aload_n 0 (dq dM_transcode 57 rfl) rfl ?_
    refine ri_getr (zLs hL 0 rfl) (zLr hL 19 rfl) fM_69 (dq dM_transcode 58 rfl) ?_
    refine zi_iload 1 (dq dM_transcode 59 rfl) rfl ?_
    obtain ⟨c2, h⟩ := q_k h
    refine ri_iald (zLs hL 20 rfl) (by decide) rfl c2 (dq dM_transcode 60 rfl) ?_
    obtain ⟨c3, h⟩ := q_k h
    refine ri_iast (zLs hL 18 rfl) (by decide) rfl c3 (dq dM_transcode 61 rfl) ?_
    refine zi_iincC (v := _ + (1)) (lv' := [(4, _), (0, _)]) 1 (dq dM_transcode 62 rfl) rfl rfl (by decide) (by simp [z_cr, z_ci]) rfl ?_
    refine zi_goto (tgt := 88) (dq dM_transcode 63 rfl) (by decide) ?_
    exact zG_lv (zs_c 1 rfl (zs_c 0 rfl zs_n)) (hK88 _ h)
def FM_transcode_25 (N : Nat) (l1 : Int32) (l2 : Int32) (l3 : Int32) (t2 : Int32) (J : zJ) : Option (Int32 × zJ) :=
  qb (FM_asked N t2 l1 J) fun v1 J2 =>
  let J3 := zu J2 0 0 v1
  if (J3 0 0) ≤ 0 then
    qb (FM_load N 0 J3) fun v4 J5 =>
    qb (FM_typeOf N l1 J5) fun v6 J7 =>
    qb (FM_isValue N v6 l2 J7) fun v8 J9 =>
    if (bI v8) = 0 then
      some (((-1)), J9)
    else
      qb (FM_write N l3 J9) fun v10 J11 =>
      if (J11 0 29) ≤ 120 then
        qb (FM_keep N J11) fun v12 J13 =>
        qfix (FM_transcode_88 N) N (0, J13)
      else
        qb (FM_fails N 4 J11) fun v14 J15 =>
        some (v14, J15)
  else
    some (0, J3)
theorem SM_transcode_25 {g : zg} {d N : Nat} {M0 : zM} {A : Nat} {r : Int32} {J1 : zJ} {J : zJ}  {l1 : Int32} {l2 : Int32} {l3 : Int32} {t2 : Int32} (hL : zLy M0 A mShL mRf) (h : FM_transcode_25 N l1 l2 l3 t2 J = some (r, J1)) (hd : 8 ≤ d)  : zG g d mM_transcode (zPq (rI r) (zmm M0 A 40 J1)) (zmm M0 A 40 J) 25 [(0, va_rf (some (A + 0))), (1, .int l1), (2, .int l2), (3, .int l3)] [.int t2, va_rf (some (A + 0)), va_rf (some (A + 0))] := by
  unfold FM_transcode_25 at h
  refine zi_iload_n 1 (dq dM_transcode 15 rfl) rfl ?_
  obtain ⟨v1, J2, hv1, h⟩ := q_b h
  refine zi_cVi2 (SM_asked hL hv1 (d := d - 1) (by omega)) wM_asked aM_372 iM_asked sM_asked (by omega) (zLs hL 0 rfl) rfl (Nat.le_of_ble_eq_true rfl) (dq dM_transcode 16 rfl) (fun _ _ hh => ?_)
  obtain ⟨rfl, rfl⟩ := hh
  refine ri_puti (zLs hL 0 rfl) (by decide) fM_132 (fun h => by cases h) rfl rfl (dq dM_transcode 17 rfl) ?_
  refine zi_aload_n 0 (dq dM_transcode 18 rfl) rfl ?_
  refine ri_geti (zLs hL 0 rfl) (by decide) fM_132 (dq dM_transcode 19 rfl) ?_
  refine zi_if_le (tgt := 41) (dq dM_transcode 20 rfl) (by decide) (fun c => ?_) (fun c => ?_)
  · have h := q_t c h
    refine zi_aload_n 0 (dq dM_transcode 23 rfl) rfl ?_
    refine zi_iconst (v := 0) (dq dM_transcode 24 rfl) (by decide) ?_
    obtain ⟨v4, J5, hv4, h⟩ := q_b h
    refine zi_cVv1 (SM_load hL hv4 (d := d - 1) (by omega)) wM_load aM_376 iM_load sM_load (by omega) (zLs hL 0 rfl) rfl (Nat.le_of_ble_eq_true rfl) (dq dM_transcode 25 rfl) (fun _ hh => ?_)
    subst hh
    refine zi_aload_n 0 (dq dM_transcode 26 rfl) rfl ?_
    refine zi_aload_n 0 (dq dM_transcode 27 rfl) rfl ?_
    refine zi_iload_n 1 (dq dM_transcode 28 rfl) rfl ?_
    obtain ⟨v6, J7, hv6, h⟩ := q_b h
    refine zi_cVi1 (SM_typeOf hL hv6 (d := d - 1) (by omega)) wM_typeOf aM_368 iM_typeOf sM_typeOf (by omega) (zLs hL 0 rfl) rfl (Nat.le_of_ble_eq_true rfl) (dq dM_transcode 29 rfl) (fun _ _ hh => ?_)
    obtain ⟨rfl, rfl⟩ := hh
    refine zi_iload_n 2 (dq dM_transcode 30 rfl) rfl ?_
    obtain ⟨v8, J9, hv8, h⟩ := q_b h
    refine zi_cVi2 (SM_isValue hL hv8 (d := d - 1) (by omega)) wM_isValue aM_379 iM_isValue sM_isValue (by omega) (zLs hL 0 rfl) rfl (Nat.le_of_ble_eq_true rfl) (dq dM_transcode 31 rfl) (fun _ _ hh => ?_)
    obtain ⟨rfl, rfl⟩ := hh
    refine zi_if_ne (tgt := 61) (dq dM_transcode 32 rfl) (by decide) (fun c => ?_) (fun c => ?_)
    · have h := q_f c h
      refine zi_aload_n 0 (dq dM_transcode 35 rfl) rfl ?_
      refine zi_iload_n 3 (dq dM_transcode 36 rfl) rfl ?_
      obtain ⟨v10, J11, hv10, h⟩ := q_b h
      refine zi_cVv1 (SM_write hL hv10 (d := d - 1) (by omega)) wM_write aM_267 iM_write sM_write (by omega) (zLs hL 0 rfl) rfl (Nat.le_of_ble_eq_true rfl) (dq dM_transcode 37 rfl) (fun _ hh => ?_)
      subst hh
      refine zi_aload_n 0 (dq dM_transcode 38 rfl) rfl ?_
      refine ri_geti (zLs hL 0 rfl) (by decide) fM_270 (dq dM_transcode 39 rfl) ?_
      refine zi_bipush (v := 120) (dq dM_transcode 40 rfl) (by decide) ?_
      refine zi_icmp_le (tgt := 81) (dq dM_transcode 41 rfl) (by decide) (fun c => ?_) (fun c => ?_)
      · have h := q_t c h
        refine zi_aload_n 0 (dq dM_transcode 46 rfl) rfl ?_
        obtain ⟨v12, J13, hv12, h⟩ := q_b h
        refine zi_cVv0 (SM_keep hL hv12 (d := d - 1) (by omega)) wM_keep aM_386 iM_keep sM_keep (by omega) (zLs hL 0 rfl) rfl (Nat.le_of_ble_eq_true rfl) (dq dM_transcode 47 rfl) (fun _ hh => ?_)
        subst hh
        refine zi_iconst (v := 0) (dq dM_transcode 48 rfl) (by decide) ?_
        refine zi_istC (lv' := [(4, _), (0, _), (1, _), (2, _), (3, _)]) (dq dM_transcode 49 rfl) (by decide) (by simp [z_cr, z_ci]) rfl ?_
        exact zG_lv (zs_c 1 rfl (zs_c 0 rfl zs_n)) (SM_transcode_88 hL hd  _ _ h)
      · have h := q_f c h
        refine zi_aload_n 0 (dq dM_transcode 42 rfl) rfl ?_
        refine zi_iconst (v := 4) (dq dM_transcode 43 rfl) (by decide) ?_
        obtain ⟨v14, J15, hv14, h⟩ := q_b h
        refine zi_cVi1 (SM_fails hL hv14 (d := d - 1) (by omega)) wM_fails aM_383 iM_fails sM_fails (by omega) (zLs hL 0 rfl) rfl (Nat.le_of_ble_eq_true rfl) (dq dM_transcode 44 rfl) (fun _ _ hh => ?_)
        obtain ⟨rfl, rfl⟩ := hh
        exact zi_ireturn rfl rfl (dq dM_transcode 45 rfl) (q_ri h)
    · have h := q_t c h
      refine zi_iconst (v := (-1)) (dq dM_transcode 33 rfl) (by decide) ?_
      exact zi_ireturn rfl rfl (dq dM_transcode 34 rfl) (q_ri h)
  · have h := q_f c h
    refine zi_iconst (v := 0) (dq dM_transcode 21 rfl) (by decide) ?_
    exact zi_ireturn rfl rfl (dq dM_transcode 22 rfl) (q_ri h)
def FM_transcode (N : Nat) (l1 : Int32) (l2 : Int32) (l3 : Int32) (J : zJ) : Option (Int32 × zJ) :=
  qc (FM_in N l2 0 2) fun v1 =>
  if (bI v1) = 0 then
    FM_transcode_25 N l1 l2 l3 0 J
  else
    qc (FM_in N l3 1 2) fun v2 =>
    if (bI v2) = 0 then
      FM_transcode_25 N l1 l2 l3 0 J
    else
      FM_transcode_25 N l1 l2 l3 1 J
theorem SM_transcode {g : zg} {d N : Nat} {M0 : zM} {A : Nat} {r : Int32} {J1 : zJ} {J : zJ} {l1 : Int32} {l2 : Int32} {l3 : Int32} (hL : zLy M0 A mShL mRf) (h : FM_transcode N l1 l2 l3 J = some (r, J1)) (hd : 8 ≤ d) : zEi g d mM_transcode [va_rf (some (A + 0)), .int l1, .int l2, .int l3] (zmm M0 A 40 J) (fun v Mq => v = r ∧ Mq = zmm M0 A 40 J1) := by
  unfold FM_transcode at h
  refine zEi_q (r := r) (lv := [(0, va_rf (some (A + 0))), (1, .int l1), (2, .int l2), (3, .int l3)]) ⟨by decide +kernel, by decide, by decide +kernel⟩ (by simp [z_cr, z_ci]) (Nat.le_of_ble_eq_true rfl) rfl ?_
  refine zi_aload_n 0 (dq dM_transcode 0 rfl) rfl ?_
  refine zi_aload_n 0 (dq dM_transcode 1 rfl) rfl ?_
  refine zi_iload_n 2 (dq dM_transcode 2 rfl) rfl ?_
  refine zi_iconst (v := 0) (dq dM_transcode 3 rfl) (by decide) ?_
  refine zi_iconst (v := 2) (dq dM_transcode 4 rfl) (by decide) ?_
  obtain ⟨v1, hv1, h⟩ := q_c h
  refine zi_cSi3 (SM_in  hv1 (d := d - 1) (by omega)) wM_in aM_166 tM_in (by omega) (Nat.le_of_ble_eq_true rfl) (dq dM_transcode 5 rfl) (fun _ _ hh => ?_)
  obtain ⟨rfl, rfl⟩ := hh
  refine zi_if_eq (tgt := 24) (dq dM_transcode 6 rfl) (by decide) (fun c => ?_) (fun c => ?_)
  · have h := q_t c h
    refine zi_iconst (v := 0) (dq dM_transcode 14 rfl) (by decide) ?_
    exact zG_lv (zs_c 0 rfl (zs_c 1 rfl (zs_c 2 rfl (zs_c 3 rfl zs_n)))) (SM_transcode_25 hL h hd )
  · have h := q_f c h
    refine zi_iload_n 3 (dq dM_transcode 7 rfl) rfl ?_
    refine zi_iconst (v := 1) (dq dM_transcode 8 rfl) (by decide) ?_
    refine zi_iconst (v := 2) (dq dM_transcode 9 rfl) (by decide) ?_
    obtain ⟨v2, hv2, h⟩ := q_c h
    refine zi_cSi3 (SM_in  hv2 (d := d - 1) (by omega)) wM_in aM_166 tM_in (by omega) (Nat.le_of_ble_eq_true rfl) (dq dM_transcode 10 rfl) (fun _ _ hh => ?_)
    obtain ⟨rfl, rfl⟩ := hh
    refine zi_if_eq (tgt := 24) (dq dM_transcode 11 rfl) (by decide) (fun c => ?_) (fun c => ?_)
    · have h := q_t c h
      refine zi_iconst (v := 0) (dq dM_transcode 14 rfl) (by decide) ?_
      exact zG_lv (zs_c 0 rfl (zs_c 1 rfl (zs_c 2 rfl (zs_c 3 rfl zs_n)))) (SM_transcode_25 hL h hd )
    · have h := q_f c h
      refine zi_iconst (v := 1) (dq dM_transcode 12 rfl) (by decide) ?_
      refine zi_goto (tgt := 25) (dq dM_transcode 13 rfl) (by decide) ?_
      exact zG_lv (zs_c 0 rfl (zs_c 1 rfl (zs_c 2 rfl (zs_c 3 rfl zs_n)))) (SM_transcode_25 hL h hd )
def FM_parts (N : Nat) (J : zJ) : Option (Int32 × zJ) :=
  let J1 := zu J 0 0 0
  some ((J1 0 44), J1)
theorem SM_parts {g : zg} {d N : Nat} {M0 : zM} {A : Nat} {r : Int32} {J1 : zJ} {J : zJ}  (hL : zLy M0 A mShL mRf) (h : FM_parts N J = some (r, J1)) (hd : 0 ≤ d) : zEi g d mM_parts [va_rf (some (A + 0))] (zmm M0 A 40 J) (fun v Mq => v = r ∧ Mq = zmm M0 A 40 J1) := by
  unfold FM_parts at h
  refine zEi_q (r := r) (lv := [(0, va_rf (some (A + 0)))]) ⟨by decide +kernel, by decide, by decide +kernel⟩ (by simp [z_cr, z_ci]) (Nat.le_of_ble_eq_true rfl) rfl ?_
  refine zi_aload_n 0 (dq dM_parts 0 rfl) rfl ?_
  refine zi_iconst (v := 0) (dq dM_parts 1 rfl) (by decide) ?_
  refine ri_puti (zLs hL 0 rfl) (by decide) fM_132 (fun h => by cases h) rfl rfl (dq dM_parts 2 rfl) ?_
  refine zi_aload_n 0 (dq dM_parts 3 rfl) rfl ?_
  refine ri_geti (zLs hL 0 rfl) (by decide) fM_140 (dq dM_parts 4 rfl) ?_
  exact zi_ireturn rfl rfl (dq dM_parts 5 rfl) (q_ri h)
def FM_part_33 (N : Nat) (l1 : Int32) (l2 : Int32) (t1 : Int32) (J : zJ) : Option (Int32 × zJ) :=
  let J1 := zu J 0 0 t1
  if (J1 0 0) ≤ 0 then
    qk (qi ((5 * l1) + l2) 500) <|
    some ((J1 29 ((5 * l1) + l2).toNatClampNeg), J1)
  else
    some (0, J1)
theorem SM_part_33 {g : zg} {d N : Nat} {M0 : zM} {A : Nat} {r : Int32} {J1 : zJ} {J : zJ}  {l1 : Int32} {l2 : Int32} {t1 : Int32} (hL : zLy M0 A mShL mRf) (h : FM_part_33 N l1 l2 t1 J = some (r, J1)) (hd : 1 ≤ d)  : zG g d mM_part (zPq (rI r) (zmm M0 A 40 J1)) (zmm M0 A 40 J) 33 [(0, va_rf (some (A + 0))), (1, .int l1), (2, .int l2)] [.int t1, va_rf (some (A + 0))] := by
  unfold FM_part_33 at h
  refine ri_puti (zLs hL 0 rfl) (by decide) fM_132 (fun h => by cases h) rfl rfl (dq dM_part 19 rfl) ?_
  refine zi_aload_n 0 (dq dM_part 20 rfl) rfl ?_
  refine ri_geti (zLs hL 0 rfl) (by decide) fM_132 (dq dM_part 21 rfl) ?_
  refine zi_if_le (tgt := 47) (dq dM_part 22 rfl) (by decide) (fun c => ?_) (fun c => ?_)
  · have h := q_t c h
    refine zi_aload_n 0 (dq dM_part 25 rfl) rfl ?_
    refine ri_getr (zLs hL 0 rfl) (zLr hL 28 rfl) fM_96 (dq dM_part 26 rfl) ?_
    refine zi_iconst (v := 5) (dq dM_part 27 rfl) (by decide) ?_
    refine zi_iload_n 1 (dq dM_part 28 rfl) rfl ?_
    refine zi_imul (dq dM_part 29 rfl) ?_
    refine zi_iload_n 2 (dq dM_part 30 rfl) rfl ?_
    refine zi_iadd (dq dM_part 31 rfl) ?_
    obtain ⟨c2, h⟩ := q_k h
    refine ri_iald (zLs hL 29 rfl) (by decide) rfl c2 (dq dM_part 32 rfl) ?_
    exact zi_ireturn rfl rfl (dq dM_part 33 rfl) (q_ri h)
  · have h := q_f c h
    refine zi_iconst (v := 0) (dq dM_part 23 rfl) (by decide) ?_
    refine zi_goto (tgt := 57) (dq dM_part 24 rfl) (by decide) ?_
    exact zi_ireturn rfl rfl (dq dM_part 33 rfl) (q_ri h)
def FM_part (N : Nat) (l1 : Int32) (l2 : Int32) (J : zJ) : Option (Int32 × zJ) :=
  qc (FM_in N l2 0 3) fun v1 =>
  if (bI v1) = 0 then
    FM_part_33 N l1 l2 1 J
  else
    qc (FM_in N l1 0 ((J 0 44) - 1)) fun v2 =>
    if (bI v2) = 0 then
      FM_part_33 N l1 l2 2 J
    else
      FM_part_33 N l1 l2 0 J
theorem SM_part {g : zg} {d N : Nat} {M0 : zM} {A : Nat} {r : Int32} {J1 : zJ} {J : zJ} {l1 : Int32} {l2 : Int32} (hL : zLy M0 A mShL mRf) (h : FM_part N l1 l2 J = some (r, J1)) (hd : 1 ≤ d) : zEi g d mM_part [va_rf (some (A + 0)), .int l1, .int l2] (zmm M0 A 40 J) (fun v Mq => v = r ∧ Mq = zmm M0 A 40 J1) := by
  unfold FM_part at h
  refine zEi_q (r := r) (lv := [(0, va_rf (some (A + 0))), (1, .int l1), (2, .int l2)]) ⟨by decide +kernel, by decide, by decide +kernel⟩ (by simp [z_cr, z_ci]) (Nat.le_of_ble_eq_true rfl) rfl ?_
  refine zi_aload_n 0 (dq dM_part 0 rfl) rfl ?_
  refine zi_iload_n 2 (dq dM_part 1 rfl) rfl ?_
  refine zi_iconst (v := 0) (dq dM_part 2 rfl) (by decide) ?_
  refine zi_iconst (v := 3) (dq dM_part 3 rfl) (by decide) ?_
  obtain ⟨v1, hv1, h⟩ := q_c h
  refine zi_cSi3 (SM_in  hv1 (d := d - 1) (by omega)) wM_in aM_166 tM_in (by omega) (Nat.le_of_ble_eq_true rfl) (dq dM_part 4 rfl) (fun _ _ hh => ?_)
  obtain ⟨rfl, rfl⟩ := hh
  refine zi_if_ne (tgt := 14) (dq dM_part 5 rfl) (by decide) (fun c => ?_) (fun c => ?_)
  · have h := q_f c h
    refine zi_iload_n 1 (dq dM_part 8 rfl) rfl ?_
    refine zi_iconst (v := 0) (dq dM_part 9 rfl) (by decide) ?_
    refine zi_aload_n 0 (dq dM_part 10 rfl) rfl ?_
    refine ri_geti (zLs hL 0 rfl) (by decide) fM_140 (dq dM_part 11 rfl) ?_
    refine zi_iconst (v := 1) (dq dM_part 12 rfl) (by decide) ?_
    refine zi_isub (dq dM_part 13 rfl) ?_
    obtain ⟨v2, hv2, h⟩ := q_c h
    refine zi_cSi3 (SM_in  hv2 (d := d - 1) (by omega)) wM_in aM_166 tM_in (by omega) (Nat.le_of_ble_eq_true rfl) (dq dM_part 14 rfl) (fun _ _ hh => ?_)
    obtain ⟨rfl, rfl⟩ := hh
    refine zi_if_ne (tgt := 32) (dq dM_part 15 rfl) (by decide) (fun c => ?_) (fun c => ?_)
    · have h := q_f c h
      refine zi_iconst (v := 0) (dq dM_part 18 rfl) (by decide) ?_
      exact zG_lv (zs_c 0 rfl (zs_c 1 rfl (zs_c 2 rfl zs_n))) (SM_part_33 hL h hd )
    · have h := q_t c h
      refine zi_iconst (v := 2) (dq dM_part 16 rfl) (by decide) ?_
      refine zi_goto (tgt := 33) (dq dM_part 17 rfl) (by decide) ?_
      exact zG_lv (zs_c 0 rfl (zs_c 1 rfl (zs_c 2 rfl zs_n))) (SM_part_33 hL h hd )
  · have h := q_t c h
    refine zi_iconst (v := 1) (dq dM_part 6 rfl) (by decide) ?_
    refine zi_goto (tgt := 33) (dq dM_part 7 rfl) (by decide) ?_
    exact zG_lv (zs_c 0 rfl (zs_c 1 rfl (zs_c 2 rfl zs_n))) (SM_part_33 hL h hd )
def FM_octet_52 (N : Nat) (l1 : Int32) (l2 : Int32) (t1 : Int32) (J : zJ) : Option (Int32 × zJ) :=
  let J1 := zu J 0 0 t1
  if (J1 0 0) ≤ 0 then
    qk (qi ((5 * l1) + 4) 500) <|
    qk (qi ((J1 29 ((5 * l1) + 4).toNatClampNeg) + l2) 240) <|
    some ((J1 30 ((J1 29 ((5 * l1) + 4).toNatClampNeg) + l2).toNatClampNeg), J1)
  else
    some (0, J1)
theorem SM_octet_52 {g : zg} {d N : Nat} {M0 : zM} {A : Nat} {r : Int32} {J1 : zJ} {J : zJ}  {l1 : Int32} {l2 : Int32} {t1 : Int32} (hL : zLy M0 A mShL mRf) (h : FM_octet_52 N l1 l2 t1 J = some (r, J1)) (hd : 1 ≤ d)  : zG g d mM_octet (zPq (rI r) (zmm M0 A 40 J1)) (zmm M0 A 40 J) 52 [(0, va_rf (some (A + 0))), (1, .int l1), (2, .int l2)] [.int t1, va_rf (some (A + 0))] := by
  unfold FM_octet_52 at h
  refine ri_puti (zLs hL 0 rfl) (by decide) fM_132 (fun h => by cases h) rfl rfl (dq dM_octet 34 rfl) ?_
  refine zi_aload_n 0 (dq dM_octet 35 rfl) rfl ?_
  refine ri_geti (zLs hL 0 rfl) (by decide) fM_132 (dq dM_octet 36 rfl) ?_
  refine zi_if_le (tgt := 66) (dq dM_octet 37 rfl) (by decide) (fun c => ?_) (fun c => ?_)
  · have h := q_t c h
    refine zi_aload_n 0 (dq dM_octet 40 rfl) rfl ?_
    refine ri_getr (zLs hL 0 rfl) (zLr hL 29 rfl) fM_99 (dq dM_octet 41 rfl) ?_
    refine zi_aload_n 0 (dq dM_octet 42 rfl) rfl ?_
    refine ri_getr (zLs hL 0 rfl) (zLr hL 28 rfl) fM_96 (dq dM_octet 43 rfl) ?_
    refine zi_iconst (v := 5) (dq dM_octet 44 rfl) (by decide) ?_
    refine zi_iload_n 1 (dq dM_octet 45 rfl) rfl ?_
    refine zi_imul (dq dM_octet 46 rfl) ?_
    refine zi_iconst (v := 4) (dq dM_octet 47 rfl) (by decide) ?_
    refine zi_iadd (dq dM_octet 48 rfl) ?_
    obtain ⟨c2, h⟩ := q_k h
    refine ri_iald (zLs hL 29 rfl) (by decide) rfl c2 (dq dM_octet 49 rfl) ?_
    refine zi_iload_n 2 (dq dM_octet 50 rfl) rfl ?_
    refine zi_iadd (dq dM_octet 51 rfl) ?_
    obtain ⟨c3, h⟩ := q_k h
    refine ri_iald (zLs hL 30 rfl) (by decide) rfl c3 (dq dM_octet 52 rfl) ?_
    exact zi_ireturn rfl rfl (dq dM_octet 53 rfl) (q_ri h)
  · have h := q_f c h
    refine zi_iconst (v := 0) (dq dM_octet 38 rfl) (by decide) ?_
    refine zi_goto (tgt := 83) (dq dM_octet 39 rfl) (by decide) ?_
    exact zi_ireturn rfl rfl (dq dM_octet 53 rfl) (q_ri h)
def FM_octet (N : Nat) (l1 : Int32) (l2 : Int32) (J : zJ) : Option (Int32 × zJ) :=
  qc (FM_in N l1 0 ((J 0 44) - 1)) fun v1 =>
  if (bI v1) = 0 then
    FM_octet_52 N l1 l2 1 J
  else
    qk (qi (5 * l1) 500) <|
    if (J 29 (5 * l1).toNatClampNeg) = 4 then
      qk (qi ((5 * l1) + 1) 500) <|
      qc (FM_in N l2 0 ((J 29 ((5 * l1) + 1).toNatClampNeg) - 1)) fun v4 =>
      if (bI v4) = 0 then
        FM_octet_52 N l1 l2 1 J
      else
        FM_octet_52 N l1 l2 0 J
    else
      FM_octet_52 N l1 l2 1 J
theorem SM_octet {g : zg} {d N : Nat} {M0 : zM} {A : Nat} {r : Int32} {J1 : zJ} {J : zJ} {l1 : Int32} {l2 : Int32} (hL : zLy M0 A mShL mRf) (h : FM_octet N l1 l2 J = some (r, J1)) (hd : 1 ≤ d) : zEi g d mM_octet [va_rf (some (A + 0)), .int l1, .int l2] (zmm M0 A 40 J) (fun v Mq => v = r ∧ Mq = zmm M0 A 40 J1) := by
  unfold FM_octet at h
  refine zEi_q (r := r) (lv := [(0, va_rf (some (A + 0))), (1, .int l1), (2, .int l2)]) ⟨by decide +kernel, by decide, by decide +kernel⟩ (by simp [z_cr, z_ci]) (Nat.le_of_ble_eq_true rfl) rfl ?_
  refine zi_aload_n 0 (dq dM_octet 0 rfl) rfl ?_
  refine zi_iload_n 1 (dq dM_octet 1 rfl) rfl ?_
  refine zi_iconst (v := 0) (dq dM_octet 2 rfl) (by decide) ?_
  refine zi_aload_n 0 (dq dM_octet 3 rfl) rfl ?_
  refine ri_geti (zLs hL 0 rfl) (by decide) fM_140 (dq dM_octet 4 rfl) ?_
  refine zi_iconst (v := 1) (dq dM_octet 5 rfl) (by decide) ?_
  refine zi_isub (dq dM_octet 6 rfl) ?_
  obtain ⟨v1, hv1, h⟩ := q_c h
  refine zi_cSi3 (SM_in  hv1 (d := d - 1) (by omega)) wM_in aM_166 tM_in (by omega) (Nat.le_of_ble_eq_true rfl) (dq dM_octet 7 rfl) (fun _ _ hh => ?_)
  obtain ⟨rfl, rfl⟩ := hh
  refine zi_if_eq (tgt := 51) (dq dM_octet 8 rfl) (by decide) (fun c => ?_) (fun c => ?_)
  · have h := q_t c h
    refine zi_iconst (v := 1) (dq dM_octet 33 rfl) (by decide) ?_
    exact zG_lv (zs_c 0 rfl (zs_c 1 rfl (zs_c 2 rfl zs_n))) (SM_octet_52 hL h hd )
  · have h := q_f c h
    refine zi_aload_n 0 (dq dM_octet 9 rfl) rfl ?_
    refine ri_getr (zLs hL 0 rfl) (zLr hL 28 rfl) fM_96 (dq dM_octet 10 rfl) ?_
    refine zi_iconst (v := 5) (dq dM_octet 11 rfl) (by decide) ?_
    refine zi_iload_n 1 (dq dM_octet 12 rfl) rfl ?_
    refine zi_imul (dq dM_octet 13 rfl) ?_
    obtain ⟨c2, h⟩ := q_k h
    refine ri_iald (zLs hL 29 rfl) (by decide) rfl c2 (dq dM_octet 14 rfl) ?_
    refine zi_iconst (v := 4) (dq dM_octet 15 rfl) (by decide) ?_
    refine zi_icmp_ne (tgt := 51) (dq dM_octet 16 rfl) (by decide) (fun c => ?_) (fun c => ?_)
    · have h := q_f c h
      refine zi_iconst (v := 1) (dq dM_octet 33 rfl) (by decide) ?_
      exact zG_lv (zs_c 0 rfl (zs_c 1 rfl (zs_c 2 rfl zs_n))) (SM_octet_52 hL h hd )
    · have h := q_t c h
      refine zi_iload_n 2 (dq dM_octet 17 rfl) rfl ?_
      refine zi_iconst (v := 0) (dq dM_octet 18 rfl) (by decide) ?_
      refine zi_aload_n 0 (dq dM_octet 19 rfl) rfl ?_
      refine ri_getr (zLs hL 0 rfl) (zLr hL 28 rfl) fM_96 (dq dM_octet 20 rfl) ?_
      refine zi_iconst (v := 5) (dq dM_octet 21 rfl) (by decide) ?_
      refine zi_iload_n 1 (dq dM_octet 22 rfl) rfl ?_
      refine zi_imul (dq dM_octet 23 rfl) ?_
      refine zi_iconst (v := 1) (dq dM_octet 24 rfl) (by decide) ?_
      refine zi_iadd (dq dM_octet 25 rfl) ?_
      obtain ⟨c3, h⟩ := q_k h
      refine ri_iald (zLs hL 29 rfl) (by decide) rfl c3 (dq dM_octet 26 rfl) ?_
      refine zi_iconst (v := 1) (dq dM_octet 27 rfl) (by decide) ?_
      refine zi_isub (dq dM_octet 28 rfl) ?_
      obtain ⟨v4, hv4, h⟩ := q_c h
      refine zi_cSi3 (SM_in  hv4 (d := d - 1) (by omega)) wM_in aM_166 tM_in (by omega) (Nat.le_of_ble_eq_true rfl) (dq dM_octet 29 rfl) (fun _ _ hh => ?_)
      obtain ⟨rfl, rfl⟩ := hh
      refine zi_if_eq (tgt := 51) (dq dM_octet 30 rfl) (by decide) (fun c => ?_) (fun c => ?_)
      · have h := q_t c h
        refine zi_iconst (v := 1) (dq dM_octet 33 rfl) (by decide) ?_
        exact zG_lv (zs_c 0 rfl (zs_c 1 rfl (zs_c 2 rfl zs_n))) (SM_octet_52 hL h hd )
      · have h := q_f c h
        refine zi_iconst (v := 0) (dq dM_octet 31 rfl) (by decide) ?_
        refine zi_goto (tgt := 52) (dq dM_octet 32 rfl) (by decide) ?_
        exact zG_lv (zs_c 0 rfl (zs_c 1 rfl (zs_c 2 rfl zs_n))) (SM_octet_52 hL h hd )
def FM_operation_36 (N : Nat) (l1 : Int32) (l2 : Int32) (l3 : Int32) (l4 : Int32) (t2 : Int32) (J : zJ) : Option (Unit × zJ) :=
  qb (FM_asked N t2 l2 J) fun v1 J2 =>
  let J3 := zu J2 0 0 v1
  if (J3 0 0) ≤ 0 then
    qb (FM_typeOf N l2 J3) fun v4 J5 =>
    qk (qi l1 8) <|
    let J7 := zu J5 36 l1.toNatClampNeg v4
    qk (qi l1 8) <|
    let J9 := zu J7 37 l1.toNatClampNeg l3
    qk (qi l1 8) <|
    let J11 := zu J9 38 l1.toNatClampNeg l4
    some ((), J11)
  else
    some ((), J3)
theorem SM_operation_36 {g : zg} {d N : Nat} {M0 : zM} {A : Nat} {r : Unit} {J1 : zJ} {J : zJ}  {l1 : Int32} {l2 : Int32} {l3 : Int32} {l4 : Int32} {t2 : Int32} (hL : zLy M0 A mShL mRf) (h : FM_operation_36 N l1 l2 l3 l4 t2 J = some (r, J1)) (hd : 3 ≤ d)  : zG g d mM_operation (zPq (rU r) (zmm M0 A 40 J1)) (zmm M0 A 40 J) 36 [(0, va_rf (some (A + 0))), (1, .int l1), (2, .int l2), (3, .int l3), (4, .int l4)] [.int t2, va_rf (some (A + 0)), va_rf (some (A + 0))] := by
  unfold FM_operation_36 at h
  refine zi_iload_n 2 (dq dM_operation 20 rfl) rfl ?_
  obtain ⟨v1, J2, hv1, h⟩ := q_b h
  refine zi_cVi2 (SM_asked hL hv1 (d := d - 1) (by omega)) wM_asked aM_372 iM_asked sM_asked (by omega) (zLs hL 0 rfl) rfl (Nat.le_of_ble_eq_true rfl) (dq dM_operation 21 rfl) (fun _ _ hh => ?_)
  obtain ⟨rfl, rfl⟩ := hh
  refine ri_puti (zLs hL 0 rfl) (by decide) fM_132 (fun h => by cases h) rfl rfl (dq dM_operation 22 rfl) ?_
  refine zi_aload_n 0 (dq dM_operation 23 rfl) rfl ?_
  refine ri_geti (zLs hL 0 rfl) (by decide) fM_132 (dq dM_operation 24 rfl) ?_
  refine zi_if_le (tgt := 51) (dq dM_operation 25 rfl) (by decide) (fun c => ?_) (fun c => ?_)
  · have h := q_t c h
    refine zi_aload_n 0 (dq dM_operation 27 rfl) rfl ?_
    refine ri_getr (zLs hL 0 rfl) (zLr hL 35 rfl) fM_117 (dq dM_operation 28 rfl) ?_
    refine zi_iload_n 1 (dq dM_operation 29 rfl) rfl ?_
    refine zi_aload_n 0 (dq dM_operation 30 rfl) rfl ?_
    refine zi_iload_n 2 (dq dM_operation 31 rfl) rfl ?_
    obtain ⟨v4, J5, hv4, h⟩ := q_b h
    refine zi_cVi1 (SM_typeOf hL hv4 (d := d - 1) (by omega)) wM_typeOf aM_368 iM_typeOf sM_typeOf (by omega) (zLs hL 0 rfl) rfl (Nat.le_of_ble_eq_true rfl) (dq dM_operation 32 rfl) (fun _ _ hh => ?_)
    obtain ⟨rfl, rfl⟩ := hh
    obtain ⟨c6, h⟩ := q_k h
    refine ri_iast (zLs hL 36 rfl) (by decide) rfl c6 (dq dM_operation 33 rfl) ?_
    refine zi_aload_n 0 (dq dM_operation 34 rfl) rfl ?_
    refine ri_getr (zLs hL 0 rfl) (zLr hL 36 rfl) fM_120 (dq dM_operation 35 rfl) ?_
    refine zi_iload_n 1 (dq dM_operation 36 rfl) rfl ?_
    refine zi_iload_n 3 (dq dM_operation 37 rfl) rfl ?_
    obtain ⟨c8, h⟩ := q_k h
    refine ri_iast (zLs hL 37 rfl) (by decide) rfl c8 (dq dM_operation 38 rfl) ?_
    refine zi_aload_n 0 (dq dM_operation 39 rfl) rfl ?_
    refine ri_getr (zLs hL 0 rfl) (zLr hL 37 rfl) fM_123 (dq dM_operation 40 rfl) ?_
    refine zi_iload_n 1 (dq dM_operation 41 rfl) rfl ?_
    refine zi_iload 4 (dq dM_operation 42 rfl) rfl ?_
    obtain ⟨c10, h⟩ := q_k h
    refine ri_iast (zLs hL 38 rfl) (by decide) rfl c10 (dq dM_operation 43 rfl) ?_
    exact zi_return rfl (dq dM_operation 44 rfl) (q_ru h)
  · have h := q_f c h
    exact zi_return rfl (dq dM_operation 26 rfl) (q_ru h)
def FM_operation (N : Nat) (l1 : Int32) (l2 : Int32) (l3 : Int32) (l4 : Int32) (J : zJ) : Option (Unit × zJ) :=
  qc (FM_in N l1 0 7) fun v1 =>
  if (bI v1) = 0 then
    FM_operation_36 N l1 l2 l3 l4 0 J
  else
    qc (FM_in N l3 0 2) fun v2 =>
    if (bI v2) = 0 then
      FM_operation_36 N l1 l2 l3 l4 0 J
    else
      qc (FM_in N l4 1 2) fun v3 =>
      if (bI v3) = 0 then
        FM_operation_36 N l1 l2 l3 l4 0 J
      else
        FM_operation_36 N l1 l2 l3 l4 1 J
theorem SM_operation {g : zg} {d N : Nat} {M0 : zM} {A : Nat} {r : Unit} {J1 : zJ} {J : zJ} {l1 : Int32} {l2 : Int32} {l3 : Int32} {l4 : Int32} (hL : zLy M0 A mShL mRf) (h : FM_operation N l1 l2 l3 l4 J = some (r, J1)) (hd : 3 ≤ d) : zEv g d mM_operation [va_rf (some (A + 0)), .int l1, .int l2, .int l3, .int l4] (zmm M0 A 40 J) (fun Mq => Mq = zmm M0 A 40 J1) := by
  unfold FM_operation at h
  refine zEu_q (r := r) (lv := [(0, va_rf (some (A + 0))), (1, .int l1), (2, .int l2), (3, .int l3), (4, .int l4)]) ⟨by decide +kernel, by decide, by decide +kernel⟩ (by simp [z_cr, z_ci]) (Nat.le_of_ble_eq_true rfl) rfl ?_
  refine zi_aload_n 0 (dq dM_operation 0 rfl) rfl ?_
  refine zi_aload_n 0 (dq dM_operation 1 rfl) rfl ?_
  refine zi_iload_n 1 (dq dM_operation 2 rfl) rfl ?_
  refine zi_iconst (v := 0) (dq dM_operation 3 rfl) (by decide) ?_
  refine zi_bipush (v := 7) (dq dM_operation 4 rfl) (by decide) ?_
  obtain ⟨v1, hv1, h⟩ := q_c h
  refine zi_cSi3 (SM_in  hv1 (d := d - 1) (by omega)) wM_in aM_166 tM_in (by omega) (Nat.le_of_ble_eq_true rfl) (dq dM_operation 5 rfl) (fun _ _ hh => ?_)
  obtain ⟨rfl, rfl⟩ := hh
  refine zi_if_eq (tgt := 35) (dq dM_operation 6 rfl) (by decide) (fun c => ?_) (fun c => ?_)
  · have h := q_t c h
    refine zi_iconst (v := 0) (dq dM_operation 19 rfl) (by decide) ?_
    exact zG_lv (zs_c 0 rfl (zs_c 1 rfl (zs_c 2 rfl (zs_c 3 rfl (zs_c 4 rfl zs_n))))) (SM_operation_36 hL h hd )
  · have h := q_f c h
    refine zi_iload_n 3 (dq dM_operation 7 rfl) rfl ?_
    refine zi_iconst (v := 0) (dq dM_operation 8 rfl) (by decide) ?_
    refine zi_iconst (v := 2) (dq dM_operation 9 rfl) (by decide) ?_
    obtain ⟨v2, hv2, h⟩ := q_c h
    refine zi_cSi3 (SM_in  hv2 (d := d - 1) (by omega)) wM_in aM_166 tM_in (by omega) (Nat.le_of_ble_eq_true rfl) (dq dM_operation 10 rfl) (fun _ _ hh => ?_)
    obtain ⟨rfl, rfl⟩ := hh
    refine zi_if_eq (tgt := 35) (dq dM_operation 11 rfl) (by decide) (fun c => ?_) (fun c => ?_)
    · have h := q_t c h
      refine zi_iconst (v := 0) (dq dM_operation 19 rfl) (by decide) ?_
      exact zG_lv (zs_c 0 rfl (zs_c 1 rfl (zs_c 2 rfl (zs_c 3 rfl (zs_c 4 rfl zs_n))))) (SM_operation_36 hL h hd )
    · have h := q_f c h
      refine zi_iload 4 (dq dM_operation 12 rfl) rfl ?_
      refine zi_iconst (v := 1) (dq dM_operation 13 rfl) (by decide) ?_
      refine zi_iconst (v := 2) (dq dM_operation 14 rfl) (by decide) ?_
      obtain ⟨v3, hv3, h⟩ := q_c h
      refine zi_cSi3 (SM_in  hv3 (d := d - 1) (by omega)) wM_in aM_166 tM_in (by omega) (Nat.le_of_ble_eq_true rfl) (dq dM_operation 15 rfl) (fun _ _ hh => ?_)
      obtain ⟨rfl, rfl⟩ := hh
      refine zi_if_eq (tgt := 35) (dq dM_operation 16 rfl) (by decide) (fun c => ?_) (fun c => ?_)
      · have h := q_t c h
        refine zi_iconst (v := 0) (dq dM_operation 19 rfl) (by decide) ?_
        exact zG_lv (zs_c 0 rfl (zs_c 1 rfl (zs_c 2 rfl (zs_c 3 rfl (zs_c 4 rfl zs_n))))) (SM_operation_36 hL h hd )
      · have h := q_f c h
        refine zi_iconst (v := 1) (dq dM_operation 17 rfl) (by decide) ?_
        refine zi_goto (tgt := 36) (dq dM_operation 18 rfl) (by decide) ?_
        exact zG_lv (zs_c 0 rfl (zs_c 1 rfl (zs_c 2 rfl (zs_c 3 rfl (zs_c 4 rfl zs_n))))) (SM_operation_36 hL h hd )
def FM_reply (N : Nat) (l1 : Int32) (l2 : Int32) (l3 : Int32) (l4 : Int32) (J : zJ) : Option (Int32 × zJ) :=
  qk (qi 0 120) <|
  let J2 := zu J 18 (0 : Int32).toNatClampNeg l1
  qk (qi 1 120) <|
  let J4 := zu J2 18 (1 : Int32).toNatClampNeg l2
  qk (qi 2 120) <|
  let J6 := zu J4 18 (2 : Int32).toNatClampNeg l3
  let J7 := zu J6 0 27 l4
  some (l1, J7)
theorem SM_reply {g : zg} {d N : Nat} {M0 : zM} {A : Nat} {r : Int32} {J1 : zJ} {J : zJ} {l1 : Int32} {l2 : Int32} {l3 : Int32} {l4 : Int32} (hL : zLy M0 A mShL mRf) (h : FM_reply N l1 l2 l3 l4 J = some (r, J1)) (hd : 0 ≤ d) : zEi g d mM_reply [va_rf (some (A + 0)), .int l1, .int l2, .int l3, .int l4] (zmm M0 A 40 J) (fun v Mq => v = r ∧ Mq = zmm M0 A 40 J1) := by
  unfold FM_reply at h
  refine zEi_q (r := r) (lv := [(0, va_rf (some (A + 0))), (1, .int l1), (2, .int l2), (3, .int l3), (4, .int l4)]) ⟨by decide +kernel, by decide, by decide +kernel⟩ (by simp [z_cr, z_ci]) (Nat.le_of_ble_eq_true rfl) rfl ?_
  refine zi_aload_n 0 (dq dM_reply 0 rfl) rfl ?_
  refine ri_getr (zLs hL 0 rfl) (zLr hL 17 rfl) fM_63 (dq dM_reply 1 rfl) ?_
  refine zi_iconst (v := 0) (dq dM_reply 2 rfl) (by decide) ?_
  refine zi_iload_n 1 (dq dM_reply 3 rfl) rfl ?_
  obtain ⟨c1, h⟩ := q_k h
  refine ri_iast (zLs hL 18 rfl) (by decide) rfl c1 (dq dM_reply 4 rfl) ?_
  refine zi_aload_n 0 (dq dM_reply 5 rfl) rfl ?_
  refine ri_getr (zLs hL 0 rfl) (zLr hL 17 rfl) fM_63 (dq dM_reply 6 rfl) ?_
  refine zi_iconst (v := 1) (dq dM_reply 7 rfl) (by decide) ?_
  refine zi_iload_n 2 (dq dM_reply 8 rfl) rfl ?_
  obtain ⟨c3, h⟩ := q_k h
  refine ri_iast (zLs hL 18 rfl) (by decide) rfl c3 (dq dM_reply 9 rfl) ?_
  refine zi_aload_n 0 (dq dM_reply 10 rfl) rfl ?_
  refine ri_getr (zLs hL 0 rfl) (zLr hL 17 rfl) fM_63 (dq dM_reply 11 rfl) ?_
  refine zi_iconst (v := 2) (dq dM_reply 12 rfl) (by decide) ?_
  refine zi_iload_n 3 (dq dM_reply 13 rfl) rfl ?_
  obtain ⟨c5, h⟩ := q_k h
  refine ri_iast (zLs hL 18 rfl) (by decide) rfl c5 (dq dM_reply 14 rfl) ?_
  refine zi_aload_n 0 (dq dM_reply 15 rfl) rfl ?_
  refine zi_iload 4 (dq dM_reply 16 rfl) rfl ?_
  refine ri_puti (zLs hL 0 rfl) (by decide) fM_228 (fun h => by cases h) rfl rfl (dq dM_reply 17 rfl) ?_
  refine zi_iload_n 1 (dq dM_reply 18 rfl) rfl ?_
  exact zi_ireturn rfl rfl (dq dM_reply 19 rfl) (q_ri h)
def FM_serve_204 (N : Nat) (l1 : Int32) (l2 : Int32) (K204 : (Int32 × zJ) → Option (Int32 × zJ)) (s : Int32 × zJ) : Option (Int32 × zJ) :=
  let l4 := s.1
  let J := s.2
  if (J 0 29) ≤ l4 then
    qb (FM_reply N 2 l1 l2 ((J 0 29) + 3) J) fun v1 J2 =>
    some (v1, J2)
  else
    qk (qi l4 4000) <|
    qk (qi (3 + l4) 120) <|
    let J5 := zu J 18 (3 + l4).toNatClampNeg (J 20 l4.toNatClampNeg)
    let y6 := l4 + (1)
    K204 (y6, J5)
theorem SM_serve_204 {g : zg} {d N : Nat} {M0 : zM} {A : Nat} {r : Int32} {J1 : zJ}  {l1 : Int32} {l2 : Int32} (hL : zLy M0 A mShL mRf) (hd : 8 ≤ d)  : ∀ n s, qfix (FM_serve_204 N l1 l2) n s = some (r, J1) → zG g d mM_serve (zPq (rI r) (zmm M0 A 40 J1)) (zmm M0 A 40 s.2) 204 [(0, va_rf (some (A + 0))), (1, .int l1), (2, .int l2), (4, .int s.1)] [] := by
  refine qfix_sound (fun K204 hK204 s h => ?_)
  unfold FM_serve_204 at h
  refine zi_iload 3 (dq dM_serve 123 rfl) rfl ?_
  refine zi_aload_n 0 (dq dM_serve 124 rfl) rfl ?_
  refine ri_geti (zLs hL 0 rfl) (by decide) fM_270 (dq dM_serve 125 rfl) ?_
  refine zi_icmp_ge (tgt := 235) (dq dM_serve 126 rfl) (by decide) (fun c => ?_) (fun c => ?_)
  · have h := q_t c h
    refine zi_aload_n 0 (dq dM_serve 139 rfl) rfl ?_
    refine zi_iconst (v := 2) (dq dM_serve 140 rfl) (by decide) ?_
    refine zi_iload_n 1 (dq dM_serve 141 rfl) rfl ?_
    refine zi_iload_n 2 (dq dM_serve 142 rfl) rfl ?_
    refine zi_aload_n 0 (dq dM_serve 143 rfl) rfl ?_
    refine ri_geti (zLs hL 0 rfl) (by decide) fM_270 (dq dM_serve 144 rfl) ?_
    refine zi_iconst (v := 3) (dq dM_serve 145 rfl) (by decide) ?_
    refine zi_iadd (dq dM_serve 146 rfl) ?_
    obtain ⟨v1, J2, hv1, h⟩ := q_b h
    refine zi_cVi4 (SM_reply hL hv1 (d := d - 1) (by omega)) wM_reply aM_389 iM_reply sM_reply (by omega) (zLs hL 0 rfl) rfl (Nat.le_of_ble_eq_true rfl) (dq dM_serve 147 rfl) (fun _ _ hh => ?_)
    obtain ⟨rfl, rfl⟩ := hh
    exact zi_ireturn rfl rfl (dq dM_serve 148 rfl) (q_ri h)
  · have h := q_f c h
    refine zi_aload_n 0 (dq dM_serve 127 rfl) rfl ?_
    refine ri_getr (zLs hL 0 rfl) (zLr hL 17 rfl) fM_63 (dq dM_serve 128 rfl) ?_
    refine zi_iconst (v := 3) (dq dM_serve 129 rfl) (by decide) ?_
    refine zi_iload 3 (dq dM_serve 130 rfl) rfl ?_
    refine zi_iadd (dq dM_serve 131 rfl) ?_
    refine zi_aload_n 0 (dq dM_serve 132 rfl) rfl ?_
    refine ri_getr (zLs hL 0 rfl) (zLr hL 19 rfl) fM_69 (dq dM_serve 133 rfl) ?_
    refine zi_iload 3 (dq dM_serve 134 rfl) rfl ?_
    obtain ⟨c3, h⟩ := q_k h
    refine ri_iald (zLs hL 20 rfl) (by decide) rfl c3 (dq dM_serve 135 rfl) ?_
    obtain ⟨c4, h⟩ := q_k h
    refine ri_iast (zLs hL 18 rfl) (by decide) rfl c4 (dq dM_serve 136 rfl) ?_
    refine zi_iincC (v := _ + (1)) (lv' := [(4, _), (0, _), (1, _), (2, _)]) 3 (dq dM_serve 137 rfl) rfl rfl (by decide) (by simp [z_cr, z_ci]) rfl ?_
    refine zi_goto (tgt := 204) (dq dM_serve 138 rfl) (by decide) ?_
    exact zG_lv (zs_c 1 rfl (zs_c 2 rfl (zs_c 3 rfl (zs_c 0 rfl zs_n)))) (hK204 _ h)
def FM_serve_106 (N : Nat) (l1 : Int32) (l2 : Int32) (t0 : Int32) (J : zJ) : Option (Int32 × zJ) :=
  if t0 ≤ 0 then
    qb (FM_load N 3 J) fun v1 J2 =>
    qk (qi l2 8) <|
    qk (qi l2 8) <|
    qb (FM_isValue N (J2 36 l2.toNatClampNeg) (J2 37 l2.toNatClampNeg) J2) fun v5 J6 =>
    if (bI v5) = 0 then
      qk (qi l1 256) <|
      let J17 := zu J6 39 l1.toNatClampNeg 1
      qb (FM_reply N 3 l1 0 2 J17) fun v18 J19 =>
      some (v18, J19)
    else
      qk (qi l2 8) <|
      qb (FM_write N (J6 38 l2.toNatClampNeg) J6) fun v8 J9 =>
      if ((J9 0 29) + 3) ≤ 120 then
        qk (qi l1 256) <|
        let J11 := zu J9 39 l1.toNatClampNeg 1
        qb (FM_keep N J11) fun v12 J13 =>
        qfix (FM_serve_204 N l1 l2) N (0, J13)
      else
        qb (FM_reply N 4 l1 4 3 J9) fun v14 J15 =>
        some (v14, J15)
  else
    qb (FM_reply N 4 l1 t0 3 J) fun v20 J21 =>
    some (v20, J21)
theorem SM_serve_106 {g : zg} {d N : Nat} {M0 : zM} {A : Nat} {r : Int32} {J1 : zJ} {J : zJ}  {l1 : Int32} {l2 : Int32} {t0 : Int32} (hL : zLy M0 A mShL mRf) (h : FM_serve_106 N l1 l2 t0 J = some (r, J1)) (hd : 8 ≤ d)  : zG g d mM_serve (zPq (rI r) (zmm M0 A 40 J1)) (zmm M0 A 40 J) 106 [(0, va_rf (some (A + 0))), (1, .int l1), (2, .int l2)] [.int t0] := by
  unfold FM_serve_106 at h
  refine zi_istC_n (lv' := [(3, _), (0, _), (1, _), (2, _)]) (dq dM_serve 59 rfl) (by decide) (by simp [z_cr, z_ci]) rfl ?_
  refine zi_iload_n 0 (dq dM_serve 60 rfl) rfl ?_
  refine zi_if_le (tgt := 120) (dq dM_serve 61 rfl) (by decide) (fun c => ?_) (fun c => ?_)
  · have h := q_t c h
    refine zi_aload_n 1 (dq dM_serve 69 rfl) rfl ?_
    refine zi_iconst (v := 3) (dq dM_serve 70 rfl) (by decide) ?_
    obtain ⟨v1, J2, hv1, h⟩ := q_b h
    refine zi_cVv1 (SM_load hL hv1 (d := d - 1) (by omega)) wM_load aM_376 iM_load sM_load (by omega) (zLs hL 0 rfl) rfl (Nat.le_of_ble_eq_true rfl) (dq dM_serve 71 rfl) (fun _ hh => ?_)
    subst hh
    refine zi_aload_n 1 (dq dM_serve 72 rfl) rfl ?_
    refine zi_aload_n 1 (dq dM_serve 73 rfl) rfl ?_
    refine ri_getr (zLs hL 0 rfl) (zLr hL 35 rfl) fM_117 (dq dM_serve 74 rfl) ?_
    refine zi_iload_n 3 (dq dM_serve 75 rfl) rfl ?_
    obtain ⟨c3, h⟩ := q_k h
    refine ri_iald (zLs hL 36 rfl) (by decide) rfl c3 (dq dM_serve 76 rfl) ?_
    refine zi_aload_n 1 (dq dM_serve 77 rfl) rfl ?_
    refine ri_getr (zLs hL 0 rfl) (zLr hL 36 rfl) fM_120 (dq dM_serve 78 rfl) ?_
    refine zi_iload_n 3 (dq dM_serve 79 rfl) rfl ?_
    obtain ⟨c4, h⟩ := q_k h
    refine ri_iald (zLs hL 37 rfl) (by decide) rfl c4 (dq dM_serve 80 rfl) ?_
    obtain ⟨v5, J6, hv5, h⟩ := q_b h
    refine zi_cVi2 (SM_isValue hL hv5 (d := d - 1) (by omega)) wM_isValue aM_379 iM_isValue sM_isValue (by omega) (zLs hL 0 rfl) rfl (Nat.le_of_ble_eq_true rfl) (dq dM_serve 81 rfl) (fun _ _ hh => ?_)
    obtain ⟨rfl, rfl⟩ := hh
    refine zi_if_ne (tgt := 160) (dq dM_serve 82 rfl) (by decide) (fun c => ?_) (fun c => ?_)
    · have h := q_f c h
      refine zi_aload_n 1 (dq dM_serve 95 rfl) rfl ?_
      refine zi_aload_n 1 (dq dM_serve 96 rfl) rfl ?_
      refine ri_getr (zLs hL 0 rfl) (zLr hL 37 rfl) fM_123 (dq dM_serve 97 rfl) ?_
      refine zi_iload_n 3 (dq dM_serve 98 rfl) rfl ?_
      obtain ⟨c7, h⟩ := q_k h
      refine ri_iald (zLs hL 38 rfl) (by decide) rfl c7 (dq dM_serve 99 rfl) ?_
      obtain ⟨v8, J9, hv8, h⟩ := q_b h
      refine zi_cVv1 (SM_write hL hv8 (d := d - 1) (by omega)) wM_write aM_267 iM_write sM_write (by omega) (zLs hL 0 rfl) rfl (Nat.le_of_ble_eq_true rfl) (dq dM_serve 100 rfl) (fun _ hh => ?_)
      subst hh
      refine zi_aload_n 1 (dq dM_serve 101 rfl) rfl ?_
      refine ri_geti (zLs hL 0 rfl) (by decide) fM_270 (dq dM_serve 102 rfl) ?_
      refine zi_iconst (v := 3) (dq dM_serve 103 rfl) (by decide) ?_
      refine zi_iadd (dq dM_serve 104 rfl) ?_
      refine zi_bipush (v := 120) (dq dM_serve 105 rfl) (by decide) ?_
      refine zi_icmp_le (tgt := 190) (dq dM_serve 106 rfl) (by decide) (fun c => ?_) (fun c => ?_)
      · have h := q_t c h
        refine zi_aload_n 1 (dq dM_serve 114 rfl) rfl ?_
        refine ri_getr (zLs hL 0 rfl) (zLr hL 38 rfl) fM_126 (dq dM_serve 115 rfl) ?_
        refine zi_iload_n 2 (dq dM_serve 116 rfl) rfl ?_
        refine zi_iconst (v := 1) (dq dM_serve 117 rfl) (by decide) ?_
        obtain ⟨c10, h⟩ := q_k h
        refine ri_zast (zLs hL 39 rfl) (by decide) rfl c10 (by decide) (dq dM_serve 118 rfl) ?_
        refine zi_aload_n 1 (dq dM_serve 119 rfl) rfl ?_
        obtain ⟨v12, J13, hv12, h⟩ := q_b h
        refine zi_cVv0 (SM_keep hL hv12 (d := d - 1) (by omega)) wM_keep aM_386 iM_keep sM_keep (by omega) (zLs hL 0 rfl) rfl (Nat.le_of_ble_eq_true rfl) (dq dM_serve 120 rfl) (fun _ hh => ?_)
        subst hh
        refine zi_iconst (v := 0) (dq dM_serve 121 rfl) (by decide) ?_
        refine zi_istC (lv' := [(4, _), (3, _), (0, _), (1, _), (2, _)]) (dq dM_serve 122 rfl) (by decide) (by simp [z_cr, z_ci]) rfl ?_
        exact zG_lv (zs_c 2 rfl (zs_c 3 rfl (zs_c 4 rfl (zs_c 0 rfl zs_n)))) (SM_serve_204 hL hd  _ _ h)
      · have h := q_f c h
        refine zi_aload_n 1 (dq dM_serve 107 rfl) rfl ?_
        refine zi_iconst (v := 4) (dq dM_serve 108 rfl) (by decide) ?_
        refine zi_iload_n 2 (dq dM_serve 109 rfl) rfl ?_
        refine zi_iconst (v := 4) (dq dM_serve 110 rfl) (by decide) ?_
        refine zi_iconst (v := 3) (dq dM_serve 111 rfl) (by decide) ?_
        obtain ⟨v14, J15, hv14, h⟩ := q_b h
        refine zi_cVi4 (SM_reply hL hv14 (d := d - 1) (by omega)) wM_reply aM_389 iM_reply sM_reply (by omega) (zLs hL 0 rfl) rfl (Nat.le_of_ble_eq_true rfl) (dq dM_serve 112 rfl) (fun _ _ hh => ?_)
        obtain ⟨rfl, rfl⟩ := hh
        exact zi_ireturn rfl rfl (dq dM_serve 113 rfl) (q_ri h)
    · have h := q_t c h
      refine zi_aload_n 1 (dq dM_serve 83 rfl) rfl ?_
      refine ri_getr (zLs hL 0 rfl) (zLr hL 38 rfl) fM_126 (dq dM_serve 84 rfl) ?_
      refine zi_iload_n 2 (dq dM_serve 85 rfl) rfl ?_
      refine zi_iconst (v := 1) (dq dM_serve 86 rfl) (by decide) ?_
      obtain ⟨c16, h⟩ := q_k h
      refine ri_zast (zLs hL 39 rfl) (by decide) rfl c16 (by decide) (dq dM_serve 87 rfl) ?_
      refine zi_aload_n 1 (dq dM_serve 88 rfl) rfl ?_
      refine zi_iconst (v := 3) (dq dM_serve 89 rfl) (by decide) ?_
      refine zi_iload_n 2 (dq dM_serve 90 rfl) rfl ?_
      refine zi_iconst (v := 0) (dq dM_serve 91 rfl) (by decide) ?_
      refine zi_iconst (v := 2) (dq dM_serve 92 rfl) (by decide) ?_
      obtain ⟨v18, J19, hv18, h⟩ := q_b h
      refine zi_cVi4 (SM_reply hL hv18 (d := d - 1) (by omega)) wM_reply aM_389 iM_reply sM_reply (by omega) (zLs hL 0 rfl) rfl (Nat.le_of_ble_eq_true rfl) (dq dM_serve 93 rfl) (fun _ _ hh => ?_)
      obtain ⟨rfl, rfl⟩ := hh
      exact zi_ireturn rfl rfl (dq dM_serve 94 rfl) (q_ri h)
  · have h := q_f c h
    refine zi_aload_n 1 (dq dM_serve 62 rfl) rfl ?_
    refine zi_iconst (v := 4) (dq dM_serve 63 rfl) (by decide) ?_
    refine zi_iload_n 2 (dq dM_serve 64 rfl) rfl ?_
    refine zi_iload_n 0 (dq dM_serve 65 rfl) rfl ?_
    refine zi_iconst (v := 3) (dq dM_serve 66 rfl) (by decide) ?_
    obtain ⟨v20, J21, hv20, h⟩ := q_b h
    refine zi_cVi4 (SM_reply hL hv20 (d := d - 1) (by omega)) wM_reply aM_389 iM_reply sM_reply (by omega) (zLs hL 0 rfl) rfl (Nat.le_of_ble_eq_true rfl) (dq dM_serve 67 rfl) (fun _ _ hh => ?_)
    obtain ⟨rfl, rfl⟩ := hh
    exact zi_ireturn rfl rfl (dq dM_serve 68 rfl) (q_ri h)
def FM_serve_43 (N : Nat) (t0 : Int32) (J : zJ) : Option (Int32 × zJ) :=
  qk (qi 2 120) <|
  let y2 := J 18 (2 : Int32).toNatClampNeg
  if (J 0 27) < 3 then
    FM_serve_106 N t0 y2 1 J
  else
    qk (qi 0 120) <|
    if (J 18 (0 : Int32).toNatClampNeg) = 1 then
      if 7 < y2 then
        FM_serve_106 N t0 y2 2 J
      else
        qk (qi y2 8) <|
        if 0 ≤ (J 36 y2.toNatClampNeg) then
          qk (qi t0 256) <|
          if (J 39 t0.toNatClampNeg) = 0 then
            FM_serve_106 N t0 y2 0 J
          else
            FM_serve_106 N t0 y2 3 J
        else
          FM_serve_106 N t0 y2 2 J
    else
      FM_serve_106 N t0 y2 1 J
theorem SM_serve_43 {g : zg} {d N : Nat} {M0 : zM} {A : Nat} {r : Int32} {J1 : zJ} {J : zJ}  {t0 : Int32} (hL : zLy M0 A mShL mRf) (h : FM_serve_43 N t0 J = some (r, J1)) (hd : 8 ≤ d)  : zG g d mM_serve (zPq (rI r) (zmm M0 A 40 J1)) (zmm M0 A 40 J) 43 [(0, va_rf (some (A + 0)))] [.int t0] := by
  unfold FM_serve_43 at h
  refine zi_istC_n (lv' := [(1, _), (0, _)]) (dq dM_serve 23 rfl) (by decide) (by simp [z_cr, z_ci]) rfl ?_
  refine zi_aload_n 1 (dq dM_serve 24 rfl) rfl ?_
  refine ri_getr (zLs hL 0 rfl) (zLr hL 17 rfl) fM_63 (dq dM_serve 25 rfl) ?_
  refine zi_iconst (v := 2) (dq dM_serve 26 rfl) (by decide) ?_
  obtain ⟨c1, h⟩ := q_k h
  refine ri_iald (zLs hL 18 rfl) (by decide) rfl c1 (dq dM_serve 27 rfl) ?_
  refine zi_istC_n (lv' := [(2, _), (1, _), (0, _)]) (dq dM_serve 28 rfl) (by decide) (by simp [z_cr, z_ci]) rfl ?_
  refine zi_aload_n 2 (dq dM_serve 29 rfl) rfl ?_
  refine ri_geti (zLs hL 0 rfl) (by decide) fM_228 (dq dM_serve 30 rfl) ?_
  refine zi_iconst (v := 3) (dq dM_serve 31 rfl) (by decide) ?_
  refine zi_icmp_lt (tgt := 69) (dq dM_serve 32 rfl) (by decide) (fun c => ?_) (fun c => ?_)
  · have h := q_t c h
    refine zi_iconst (v := 1) (dq dM_serve 39 rfl) (by decide) ?_
    refine zi_goto (tgt := 106) (dq dM_serve 40 rfl) (by decide) ?_
    exact zG_lv (zs_c 2 rfl (zs_c 1 rfl (zs_c 0 rfl zs_n))) (SM_serve_106 hL h hd )
  · have h := q_f c h
    refine zi_aload_n 2 (dq dM_serve 33 rfl) rfl ?_
    refine ri_getr (zLs hL 0 rfl) (zLr hL 17 rfl) fM_63 (dq dM_serve 34 rfl) ?_
    refine zi_iconst (v := 0) (dq dM_serve 35 rfl) (by decide) ?_
    obtain ⟨c3, h⟩ := q_k h
    refine ri_iald (zLs hL 18 rfl) (by decide) rfl c3 (dq dM_serve 36 rfl) ?_
    refine zi_iconst (v := 1) (dq dM_serve 37 rfl) (by decide) ?_
    refine zi_icmp_eq (tgt := 73) (dq dM_serve 38 rfl) (by decide) (fun c => ?_) (fun c => ?_)
    · have h := q_t c h
      refine zi_iload_n 0 (dq dM_serve 41 rfl) rfl ?_
      refine zi_bipush (v := 7) (dq dM_serve 42 rfl) (by decide) ?_
      refine zi_icmp_gt (tgt := 88) (dq dM_serve 43 rfl) (by decide) (fun c => ?_) (fun c => ?_)
      · have h := q_t c h
        refine zi_iconst (v := 2) (dq dM_serve 49 rfl) (by decide) ?_
        refine zi_goto (tgt := 106) (dq dM_serve 50 rfl) (by decide) ?_
        exact zG_lv (zs_c 2 rfl (zs_c 1 rfl (zs_c 0 rfl zs_n))) (SM_serve_106 hL h hd )
      · have h := q_f c h
        refine zi_aload_n 2 (dq dM_serve 44 rfl) rfl ?_
        refine ri_getr (zLs hL 0 rfl) (zLr hL 35 rfl) fM_117 (dq dM_serve 45 rfl) ?_
        refine zi_iload_n 0 (dq dM_serve 46 rfl) rfl ?_
        obtain ⟨c4, h⟩ := q_k h
        refine ri_iald (zLs hL 36 rfl) (by decide) rfl c4 (dq dM_serve 47 rfl) ?_
        refine zi_if_ge (tgt := 92) (dq dM_serve 48 rfl) (by decide) (fun c => ?_) (fun c => ?_)
        · have h := q_t c h
          refine zi_aload_n 2 (dq dM_serve 51 rfl) rfl ?_
          refine ri_getr (zLs hL 0 rfl) (zLr hL 38 rfl) fM_126 (dq dM_serve 52 rfl) ?_
          refine zi_iload_n 1 (dq dM_serve 53 rfl) rfl ?_
          obtain ⟨c5, h⟩ := q_k h
          refine ri_zald (zLs hL 39 rfl) (by decide) rfl c5 (dq dM_serve 54 rfl) ?_
          refine zi_if_eq (tgt := 105) (dq dM_serve 55 rfl) (by decide) (fun c => ?_) (fun c => ?_)
          · have h := q_t c h
            refine zi_iconst (v := 0) (dq dM_serve 58 rfl) (by decide) ?_
            exact zG_lv (zs_c 2 rfl (zs_c 1 rfl (zs_c 0 rfl zs_n))) (SM_serve_106 hL h hd )
          · have h := q_f c h
            refine zi_iconst (v := 3) (dq dM_serve 56 rfl) (by decide) ?_
            refine zi_goto (tgt := 106) (dq dM_serve 57 rfl) (by decide) ?_
            exact zG_lv (zs_c 2 rfl (zs_c 1 rfl (zs_c 0 rfl zs_n))) (SM_serve_106 hL h hd )
        · have h := q_f c h
          refine zi_iconst (v := 2) (dq dM_serve 49 rfl) (by decide) ?_
          refine zi_goto (tgt := 106) (dq dM_serve 50 rfl) (by decide) ?_
          exact zG_lv (zs_c 2 rfl (zs_c 1 rfl (zs_c 0 rfl zs_n))) (SM_serve_106 hL h hd )
    · have h := q_f c h
      refine zi_iconst (v := 1) (dq dM_serve 39 rfl) (by decide) ?_
      refine zi_goto (tgt := 106) (dq dM_serve 40 rfl) (by decide) ?_
      exact zG_lv (zs_c 2 rfl (zs_c 1 rfl (zs_c 0 rfl zs_n))) (SM_serve_106 hL h hd )
def FM_serve_13 (N : Nat) (t1 : Int32) (J : zJ) : Option (Int32 × zJ) :=
  let J1 := zu J 0 0 t1
  if (J1 0 0) ≤ 0 then
    if (J1 0 27) ≤ 1 then
      FM_serve_43 N 0 J1
    else
      qk (qi 1 120) <|
      FM_serve_43 N (J1 18 (1 : Int32).toNatClampNeg) J1
  else
    some (0, J1)
theorem SM_serve_13 {g : zg} {d N : Nat} {M0 : zM} {A : Nat} {r : Int32} {J1 : zJ} {J : zJ}  {t1 : Int32} (hL : zLy M0 A mShL mRf) (h : FM_serve_13 N t1 J = some (r, J1)) (hd : 8 ≤ d)  : zG g d mM_serve (zPq (rI r) (zmm M0 A 40 J1)) (zmm M0 A 40 J) 13 [(0, va_rf (some (A + 0)))] [.int t1, va_rf (some (A + 0))] := by
  unfold FM_serve_13 at h
  refine ri_puti (zLs hL 0 rfl) (by decide) fM_132 (fun h => by cases h) rfl rfl (dq dM_serve 7 rfl) ?_
  refine zi_aload_n 0 (dq dM_serve 8 rfl) rfl ?_
  refine ri_geti (zLs hL 0 rfl) (by decide) fM_132 (dq dM_serve 9 rfl) ?_
  refine zi_if_le (tgt := 25) (dq dM_serve 10 rfl) (by decide) (fun c => ?_) (fun c => ?_)
  · have h := q_t c h
    refine zi_aload_n 0 (dq dM_serve 13 rfl) rfl ?_
    refine ri_geti (zLs hL 0 rfl) (by decide) fM_228 (dq dM_serve 14 rfl) ?_
    refine zi_iconst (v := 1) (dq dM_serve 15 rfl) (by decide) ?_
    refine zi_icmp_le (tgt := 42) (dq dM_serve 16 rfl) (by decide) (fun c => ?_) (fun c => ?_)
    · have h := q_t c h
      refine zi_iconst (v := 0) (dq dM_serve 22 rfl) (by decide) ?_
      exact zG_lv (zs_c 0 rfl zs_n) (SM_serve_43 hL h hd )
    · have h := q_f c h
      refine zi_aload_n 0 (dq dM_serve 17 rfl) rfl ?_
      refine ri_getr (zLs hL 0 rfl) (zLr hL 17 rfl) fM_63 (dq dM_serve 18 rfl) ?_
      refine zi_iconst (v := 1) (dq dM_serve 19 rfl) (by decide) ?_
      obtain ⟨c2, h⟩ := q_k h
      refine ri_iald (zLs hL 18 rfl) (by decide) rfl c2 (dq dM_serve 20 rfl) ?_
      refine zi_goto (tgt := 43) (dq dM_serve 21 rfl) (by decide) ?_
      exact zG_lv (zs_c 0 rfl zs_n) (SM_serve_43 hL h hd )
  · have h := q_f c h
    refine zi_iconst (v := 0) (dq dM_serve 11 rfl) (by decide) ?_
    exact zi_ireturn rfl rfl (dq dM_serve 12 rfl) (q_ri h)
def FM_serve (N : Nat) (J : zJ) : Option (Int32 × zJ) :=
  if (J 0 1) = 0 then
    FM_serve_13 N 1 J
  else
    FM_serve_13 N 0 J
theorem SM_serve {g : zg} {d N : Nat} {M0 : zM} {A : Nat} {r : Int32} {J1 : zJ} {J : zJ}  (hL : zLy M0 A mShL mRf) (h : FM_serve N J = some (r, J1)) (hd : 8 ≤ d) : zEi g d mM_serve [va_rf (some (A + 0))] (zmm M0 A 40 J) (fun v Mq => v = r ∧ Mq = zmm M0 A 40 J1) := by
  unfold FM_serve at h
  refine zEi_q (r := r) (lv := [(0, va_rf (some (A + 0)))]) ⟨by decide +kernel, by decide, by decide +kernel⟩ (by simp [z_cr, z_ci]) (Nat.le_of_ble_eq_true rfl) rfl ?_
  refine zi_aload_n 0 (dq dM_serve 0 rfl) rfl ?_
  refine zi_aload_n 0 (dq dM_serve 1 rfl) rfl ?_
  refine ri_geti (zLs hL 0 rfl) (by decide) fM_136 (dq dM_serve 2 rfl) ?_
  refine zi_if_eq (tgt := 12) (dq dM_serve 3 rfl) (by decide) (fun c => ?_) (fun c => ?_)
  · have h := q_t c h
    refine zi_iconst (v := 1) (dq dM_serve 6 rfl) (by decide) ?_
    exact zG_lv (zs_c 0 rfl zs_n) (SM_serve_13 hL h hd )
  · have h := q_f c h
    refine zi_iconst (v := 0) (dq dM_serve 4 rfl) (by decide) ?_
    refine zi_goto (tgt := 13) (dq dM_serve 5 rfl) (by decide) ?_
    exact zG_lv (zs_c 0 rfl zs_n) (SM_serve_13 hL h hd )
