/-! THE CLASS AS FUNCTIONS, 3 (tools/genC.py) -/
def FS_append (N : Nat) (M0 : zM) (l1 : Int32) (J : zJ) : Option (Unit × zJ) :=
  if (J 26 2) < (nI 120) then
    qk (qi (J 26 2) 120) <|
    let J2 := zu J 7 (J 26 2).toNatClampNeg l1
    let J3 := zu J2 26 2 ((J2 26 2) + 1)
    some ((), J3)
  else
    let J4 := zu J 26 4 1
    some ((), J4)
theorem SS_append {g : zg} {d N : Nat} {M0 : zM} {A : Nat} {r : Unit} {J1 : zJ} {J : zJ} {l1 : Int32} (hL : zLy M0 A dShL dRf) (h : FS_append N M0 l1 J = some (r, J1)) (hd : 0 ≤ d) : zEv g d mS_append [va_rf (some (A + 26)), .int l1] (zmm M0 A 32 J) (fun Mq => Mq = zmm M0 A 32 J1) := by
  unfold FS_append at h
  refine zEu_q (r := r) (lv := [(0, va_rf (some (A + 26))), (1, .int l1)]) ⟨by decide +kernel, by decide, by decide +kernel⟩ (by simp [z_cr, z_ci]) (Nat.le_of_ble_eq_true rfl) rfl ?_
  refine zi_aload_n 0 (dq dS_append 0 rfl) rfl ?_
  refine ri_geti (zLs hL 26 rfl) (by decide) fS_19 (dq dS_append 1 rfl) ?_
  refine zi_aload_n 0 (dq dS_append 2 rfl) rfl ?_
  refine ri_getr (zLs hL 26 rfl) (zLr hL 9 rfl) fS_9 (dq dS_append 3 rfl) ?_
  refine ri_alen (zLs hL 7 rfl) rfl (dq dS_append 4 rfl) ?_
  refine zi_icmp_lt (tgt := 18) (dq dS_append 5 rfl) (by decide) (fun c => ?_) (fun c => ?_)
  · have h := q_t c h
    refine zi_aload_n 0 (dq dS_append 10 rfl) rfl ?_
    refine ri_getr (zLs hL 26 rfl) (zLr hL 9 rfl) fS_9 (dq dS_append 11 rfl) ?_
    refine zi_aload_n 0 (dq dS_append 12 rfl) rfl ?_
    refine ri_geti (zLs hL 26 rfl) (by decide) fS_19 (dq dS_append 13 rfl) ?_
    refine zi_iload_n 1 (dq dS_append 14 rfl) rfl ?_
    obtain ⟨c1, h⟩ := q_k h
    refine ri_iast (zLs hL 7 rfl) (by decide) rfl c1 (dq dS_append 15 rfl) ?_
    refine zi_aload_n 0 (dq dS_append 16 rfl) rfl ?_
    refine zi_dup (dq dS_append 17 rfl) (by first | rfl | exact z_cr _) ?_
    refine ri_geti (zLs hL 26 rfl) (by decide) fS_19 (dq dS_append 18 rfl) ?_
    refine zi_iconst (v := 1) (dq dS_append 19 rfl) (by decide) ?_
    refine zi_iadd (dq dS_append 20 rfl) ?_
    refine ri_puti (zLs hL 26 rfl) (by decide) fS_19 (fun h => by cases h) rfl rfl (dq dS_append 21 rfl) ?_
    exact zi_return rfl (dq dS_append 22 rfl) (q_ru h)
  · have h := q_f c h
    refine zi_aload_n 0 (dq dS_append 6 rfl) rfl ?_
    refine zi_iconst (v := 1) (dq dS_append 7 rfl) (by decide) ?_
    refine ri_puti (zLs hL 26 rfl) (by decide) fS_26 (fun h => by cases h) (by decide) (by decide) (dq dS_append 8 rfl) ?_
    exact zi_return rfl (dq dS_append 9 rfl) (q_ru h)
def FS_beginElement (N : Nat) (M0 : zM) (l1 : Int32) (J : zJ) : Option (Int32 × zJ) :=
  qb (FS_append N M0 l1 J) fun v1 J2 =>
  qb (FS_append N M0 0 J2) fun v3 J4 =>
  some ((J4 26 2), J4)
theorem SS_beginElement {g : zg} {d N : Nat} {M0 : zM} {A : Nat} {r : Int32} {J1 : zJ} {J : zJ} {l1 : Int32} (hL : zLy M0 A dShL dRf) (h : FS_beginElement N M0 l1 J = some (r, J1)) (hd : 1 ≤ d) : zEi g d mS_beginElement [va_rf (some (A + 26)), .int l1] (zmm M0 A 32 J) (fun v Mq => v = r ∧ Mq = zmm M0 A 32 J1) := by
  unfold FS_beginElement at h
  refine zEi_q (r := r) (lv := [(0, va_rf (some (A + 26))), (1, .int l1)]) ⟨by decide +kernel, by decide, by decide +kernel⟩ (by simp [z_cr, z_ci]) (Nat.le_of_ble_eq_true rfl) rfl ?_
  refine zi_aload_n 0 (dq dS_beginElement 0 rfl) rfl ?_
  refine zi_iload_n 1 (dq dS_beginElement 1 rfl) rfl ?_
  obtain ⟨v1, J2, hv1, h⟩ := q_b h
  refine zi_cVv1 (SS_append hL hv1 (d := d - 1) (by omega)) wS_append aS_84 iS_append sS_append (by omega) (zLs hL 26 rfl) rfl (Nat.le_of_ble_eq_true rfl) (dq dS_beginElement 2 rfl) (fun _ hh => ?_)
  subst hh
  refine zi_aload_n 0 (dq dS_beginElement 3 rfl) rfl ?_
  refine zi_iconst (v := 0) (dq dS_beginElement 4 rfl) (by decide) ?_
  obtain ⟨v3, J4, hv3, h⟩ := q_b h
  refine zi_cVv1 (SS_append hL hv3 (d := d - 1) (by omega)) wS_append aS_84 iS_append sS_append (by omega) (zLs hL 26 rfl) rfl (Nat.le_of_ble_eq_true rfl) (dq dS_beginElement 5 rfl) (fun _ hh => ?_)
  subst hh
  refine zi_aload_n 0 (dq dS_beginElement 6 rfl) rfl ?_
  refine ri_geti (zLs hL 26 rfl) (by decide) fS_19 (dq dS_beginElement 7 rfl) ?_
  exact zi_ireturn rfl rfl (dq dS_beginElement 8 rfl) (q_ri h)
def FS_endElement (N : Nat) (M0 : zM) (l1 : Int32) (J : zJ) : Option (Unit × zJ) :=
  if (J 26 4) = 0 then
    qk (qi (l1 - 1) 120) <|
    let J2 := zu J 7 (l1 - 1).toNatClampNeg ((J 26 2) - l1)
    some ((), J2)
  else
    some ((), J)
theorem SS_endElement {g : zg} {d N : Nat} {M0 : zM} {A : Nat} {r : Unit} {J1 : zJ} {J : zJ} {l1 : Int32} (hL : zLy M0 A dShL dRf) (h : FS_endElement N M0 l1 J = some (r, J1)) (hd : 0 ≤ d) : zEv g d mS_endElement [va_rf (some (A + 26)), .int l1] (zmm M0 A 32 J) (fun Mq => Mq = zmm M0 A 32 J1) := by
  unfold FS_endElement at h
  refine zEu_q (r := r) (lv := [(0, va_rf (some (A + 26))), (1, .int l1)]) ⟨by decide +kernel, by decide, by decide +kernel⟩ (by simp [z_cr, z_ci]) (Nat.le_of_ble_eq_true rfl) rfl ?_
  refine zi_aload_n 0 (dq dS_endElement 0 rfl) rfl ?_
  refine ri_geti (zLs hL 26 rfl) (by decide) fS_26 (dq dS_endElement 1 rfl) ?_
  refine zi_if_ne (tgt := 21) (dq dS_endElement 2 rfl) (by decide) (fun c => ?_) (fun c => ?_)
  · have h := q_f c h
    exact zi_return rfl (dq dS_endElement 13 rfl) (q_ru h)
  · have h := q_t c h
    refine zi_aload_n 0 (dq dS_endElement 3 rfl) rfl ?_
    refine ri_getr (zLs hL 26 rfl) (zLr hL 9 rfl) fS_9 (dq dS_endElement 4 rfl) ?_
    refine zi_iload_n 1 (dq dS_endElement 5 rfl) rfl ?_
    refine zi_iconst (v := 1) (dq dS_endElement 6 rfl) (by decide) ?_
    refine zi_isub (dq dS_endElement 7 rfl) ?_
    refine zi_aload_n 0 (dq dS_endElement 8 rfl) rfl ?_
    refine ri_geti (zLs hL 26 rfl) (by decide) fS_19 (dq dS_endElement 9 rfl) ?_
    refine zi_iload_n 1 (dq dS_endElement 10 rfl) rfl ?_
    refine zi_isub (dq dS_endElement 11 rfl) ?_
    obtain ⟨c1, h⟩ := q_k h
    refine ri_iast (zLs hL 7 rfl) (by decide) rfl c1 (dq dS_endElement 12 rfl) ?_
    exact zi_return rfl (dq dS_endElement 13 rfl) (q_ru h)
def FS_writeChoice (N : Nat) (M0 : zM) (rec : (Option Nat × Int32 × Int32 × zJ) → Option (Unit × zJ)) (l1 : Option Nat) (l2 : Int32) (J : zJ) : Option (Unit × zJ) :=
  qk (qi (J 26 3) 100) <|
  qo l1 M0 6 fun o2 =>
  qc (FT_memberAt N M0 o2 (J 18 (J 26 3).toNatClampNeg)) fun v3 =>
  let J4 := zu J 26 3 ((J 26 3) + 1)
  if v3 = none then
    some ((), J4)
  else
    qo v3 M0 1 fun o5 =>
    qb (rec ((zr M0 o5 0), ((-1)), (l2 + 1), J4)) fun v6 J7 =>
    some ((), J7)
theorem SS_writeChoice {g : zg} {d N : Nat} {M0 : zM} {A : Nat} {rec : (Option Nat × Int32 × Int32 × zJ) → Option (Unit × zJ)} {L : Nat} {r : Unit} {J1 : zJ} {J : zJ} {l1 : Option Nat} {l2 : Int32} (hL : zLy M0 A dShL dRf) (hrec : ∀ s r, rec s = some r → ∀ d, L ≤ d → zEv g d mS_writeElement [va_rf (some (A + 26)), va_rf s.1, .int s.2.1, .int s.2.2.1] (zmm M0 A 32 s.2.2.2) (fun Mq => Mq = zmm M0 A 32 r.2)) (h : FS_writeChoice N M0 rec l1 l2 J = some (r, J1)) (hd : L + 1 ≤ d) : zEv g d mS_writeChoice [va_rf (some (A + 26)), va_rf l1, .int l2] (zmm M0 A 32 J) (fun Mq => Mq = zmm M0 A 32 J1) := by
  unfold FS_writeChoice at h
  refine zEu_q (r := r) (lv := [(0, va_rf (some (A + 26))), (1, va_rf l1), (2, .int l2)]) ⟨by decide +kernel, by decide, by decide +kernel⟩ (by simp [z_cr, z_ci]) (Nat.le_of_ble_eq_true rfl) rfl ?_
  refine zi_aload_n 1 (dq dS_writeChoice 0 rfl) rfl ?_
  refine zi_aload_n 0 (dq dS_writeChoice 1 rfl) rfl ?_
  refine ri_getr (zLs hL 26 rfl) (zLr hL 8 rfl) fS_15 (dq dS_writeChoice 2 rfl) ?_
  refine ri_getr (zLs hL 16 rfl) (zLr hL 22 rfl) fS_72 (dq dS_writeChoice 3 rfl) ?_
  refine zi_aload_n 0 (dq dS_writeChoice 4 rfl) rfl ?_
  refine ri_geti (zLs hL 26 rfl) (by decide) fS_23 (dq dS_writeChoice 5 rfl) ?_
  obtain ⟨c1, h⟩ := q_k h
  refine ri_iald (zLs hL 18 rfl) (by decide) rfl c1 (dq dS_writeChoice 6 rfl) ?_
  obtain ⟨o2, eo2, ho2, h⟩ := q_o h
  refine zi_rc1 eo2 ?_
  obtain ⟨v3, hv3, h⟩ := q_c h
  refine zi_cVr1 (ST_memberAt (zag_d hL _) ho2 hv3 (d := d - 1) (by omega)) wT_memberAt aS_75 iT_memberAt sT_memberAt (by omega) ((zag_d hL _) _ _ (by decide) ho2).1 rfl (Nat.le_of_ble_eq_true rfl) (dq dS_writeChoice 7 rfl) (fun _ _ hh => ?_)
  obtain ⟨rfl, rfl⟩ := hh
  refine zi_astC_n (lv' := [(3, _), (0, _), (1, _), (2, _)]) (dq dS_writeChoice 8 rfl) (by decide) (by simp [z_cr, z_ci]) rfl ?_
  refine zi_aload_n 1 (dq dS_writeChoice 9 rfl) rfl ?_
  refine zi_dup (dq dS_writeChoice 10 rfl) (by first | rfl | exact z_cr _) ?_
  refine ri_geti (zLs hL 26 rfl) (by decide) fS_23 (dq dS_writeChoice 11 rfl) ?_
  refine zi_iconst (v := 1) (dq dS_writeChoice 12 rfl) (by decide) ?_
  refine zi_iadd (dq dS_writeChoice 13 rfl) ?_
  refine ri_puti (zLs hL 26 rfl) (by decide) fS_23 (fun h => by cases h) rfl rfl (dq dS_writeChoice 14 rfl) ?_
  refine zi_aload_n 0 (dq dS_writeChoice 15 rfl) rfl ?_
  refine zi_ifnull (tgt := 43) (dq dS_writeChoice 16 rfl) (by decide) (fun c => ?_) (fun _ c => ?_)
  · have h := q_t c h
    exact zi_return rfl (dq dS_writeChoice 25 rfl) (q_ru h)
  · have h := q_f (by rw [c]; exact nofun) h
    refine zi_aload_n 1 (dq dS_writeChoice 17 rfl) rfl ?_
    refine zi_aload_n 0 (dq dS_writeChoice 18 rfl) rfl ?_
    obtain ⟨o5, eo5, ho5, h⟩ := q_o h
    refine zi_rc0 eo5 ?_
    refine ti_getr (zag_d hL _) ho5 (by decide) fS_79 (dq dS_writeChoice 19 rfl) ?_
    refine zi_iconst (v := (-1)) (dq dS_writeChoice 20 rfl) (by decide) ?_
    refine zi_iload_n 3 (dq dS_writeChoice 21 rfl) rfl ?_
    refine zi_iconst (v := 1) (dq dS_writeChoice 22 rfl) (by decide) ?_
    refine zi_iadd (dq dS_writeChoice 23 rfl) ?_
    obtain ⟨v6, J7, hv6, h⟩ := q_b h
    refine zi_cVv3 (hrec _ _ hv6 (d - 1) (by omega)) wS_writeElement aS_30 iS_writeElement sS_writeElement (by omega) (zLs hL 26 rfl) rfl (Nat.le_of_ble_eq_true rfl) (dq dS_writeChoice 24 rfl) (fun _ hh => ?_)
    subst hh
    exact zi_return rfl (dq dS_writeChoice 25 rfl) (q_ru h)
def FS_writeComponents_6 (N : Nat) (M0 : zM) (rec : (Option Nat × Int32 × Int32 × zJ) → Option (Unit × zJ)) (l2 : Int32) (l3 : Int32) (K6 : (Option Nat × zJ) → Option (Unit × zJ)) (s : Option Nat × zJ) : Option (Unit × zJ) :=
  let l4 := s.1
  let J := s.2
  if l4 = none then
    some ((), J)
  else
    qb (FV_shows N M0 16 l2 l4 J) fun v1 J2 =>
    if (bI v1) = 0 then
      qo l4 M0 1 fun o3 =>
      if (zi M0 o3 2) = 2 then
        let J6 := zu J2 26 3 ((J2 26 3) + 1)
        qo l4 M0 1 fun o7 =>
        let y8 := zr M0 o7 5
        K6 (y8, J6)
      else
        qo l4 M0 1 fun o4 =>
        let y5 := zr M0 o4 5
        K6 (y5, J2)
    else
      qo l4 M0 1 fun o9 =>
      qb (rec ((zr M0 o9 0), ((-1)), (l3 + 1), J2)) fun v10 J11 =>
      qo l4 M0 1 fun o12 =>
      let y13 := zr M0 o12 5
      K6 (y13, J11)
theorem SS_writeComponents_6 {g : zg} {d N : Nat} {M0 : zM} {A : Nat} {rec : (Option Nat × Int32 × Int32 × zJ) → Option (Unit × zJ)} {L : Nat} {r : Unit} {J1 : zJ}  {l2 : Int32} {l3 : Int32} (hL : zLy M0 A dShL dRf) (hrec : ∀ s r, rec s = some r → ∀ d, L ≤ d → zEv g d mS_writeElement [va_rf (some (A + 26)), va_rf s.1, .int s.2.1, .int s.2.2.1] (zmm M0 A 32 s.2.2.2) (fun Mq => Mq = zmm M0 A 32 r.2)) (hd : L + 1 ≤ d)  : ∀ n s, qfix (FS_writeComponents_6 N M0 rec l2 l3) n s = some (r, J1) → zG g d mS_writeComponents (zPq (rU r) (zmm M0 A 32 J1)) (zmm M0 A 32 s.2) 6 [(0, va_rf (some (A + 26))), (2, .int l2), (3, .int l3), (4, va_rf s.1)] [] := by
  refine qfix_sound (fun K6 hK6 s h => ?_)
  unfold FS_writeComponents_6 at h
  refine zi_aload 3 (dq dS_writeComponents 3 rfl) rfl ?_
  refine zi_ifnull (tgt := 69) (dq dS_writeComponents 4 rfl) (by decide) (fun c => ?_) (fun _ c => ?_)
  · have h := q_t c h
    exact zi_return rfl (dq dS_writeComponents 34 rfl) (q_ru h)
  · have h := q_f (by rw [c]; exact nofun) h
    refine zi_aload_n 0 (dq dS_writeComponents 5 rfl) rfl ?_
    refine ri_getr (zLs hL 26 rfl) (zLr hL 8 rfl) fS_15 (dq dS_writeComponents 6 rfl) ?_
    refine zi_iload_n 1 (dq dS_writeComponents 7 rfl) rfl ?_
    refine zi_aload 3 (dq dS_writeComponents 8 rfl) rfl ?_
    obtain ⟨v1, J2, hv1, h⟩ := q_b h
    refine zi_cVi2 (SV_shows (dLy_v (Or.inr rfl) hL) (by decide) (zag_d hL) hv1 (d := d - 1) (by omega)) wV_shows aS_106 iV_shows sV_shows (by omega) (zLs hL 16 rfl) rfl (Nat.le_of_ble_eq_true rfl) (dq dS_writeComponents 9 rfl) (fun _ _ hh => ?_)
    obtain ⟨rfl, rfl⟩ := hh
    refine zi_if_eq (tgt := 40) (dq dS_writeComponents 10 rfl) (by decide) (fun c => ?_) (fun c => ?_)
    · have h := q_t c h
      refine zi_aload 3 (dq dS_writeComponents 20 rfl) rfl ?_
      obtain ⟨o3, eo3, ho3, h⟩ := q_o h
      refine zi_rc0 eo3 ?_
      refine ti_geti (zag_d hL _) ho3 (by decide) fS_110 (dq dS_writeComponents 21 rfl) ?_
      refine zi_iconst (v := 2) (dq dS_writeComponents 22 rfl) (by decide) ?_
      refine zi_icmp_ne (tgt := 59) (dq dS_writeComponents 23 rfl) (by decide) (fun c => ?_) (fun c => ?_)
      · have h := q_f c h
        refine zi_aload 3 (dq dS_writeComponents 30 rfl) rfl ?_
        obtain ⟨o4, eo4, ho4, h⟩ := q_o h
        refine zi_rc0 eo4 ?_
        refine ti_getr (zag_d hL _) ho4 (by decide) fS_113 (dq dS_writeComponents 31 rfl) ?_
        refine zi_astC (lv' := [(4, _), (0, _), (2, _), (3, _)]) (dq dS_writeComponents 32 rfl) (by decide) (by simp [z_cr, z_ci]) rfl ?_
        refine zi_goto (tgt := 6) (dq dS_writeComponents 33 rfl) (by decide) ?_
        exact zG_lv (zs_c 1 rfl (zs_c 2 rfl (zs_c 3 rfl (zs_c 0 rfl zs_n)))) (hK6 _ h)
      · have h := q_t c h
        refine zi_aload_n 0 (dq dS_writeComponents 24 rfl) rfl ?_
        refine zi_dup (dq dS_writeComponents 25 rfl) (by first | rfl | exact z_cr _) ?_
        refine ri_geti (zLs hL 26 rfl) (by decide) fS_23 (dq dS_writeComponents 26 rfl) ?_
        refine zi_iconst (v := 1) (dq dS_writeComponents 27 rfl) (by decide) ?_
        refine zi_iadd (dq dS_writeComponents 28 rfl) ?_
        refine ri_puti (zLs hL 26 rfl) (by decide) fS_23 (fun h => by cases h) rfl rfl (dq dS_writeComponents 29 rfl) ?_
        refine zi_aload 3 (dq dS_writeComponents 30 rfl) rfl ?_
        obtain ⟨o7, eo7, ho7, h⟩ := q_o h
        refine zi_rc0 eo7 ?_
        refine ti_getr (zag_d hL _) ho7 (by decide) fS_113 (dq dS_writeComponents 31 rfl) ?_
        refine zi_astC (lv' := [(4, _), (0, _), (2, _), (3, _)]) (dq dS_writeComponents 32 rfl) (by decide) (by simp [z_cr, z_ci]) rfl ?_
        refine zi_goto (tgt := 6) (dq dS_writeComponents 33 rfl) (by decide) ?_
        exact zG_lv (zs_c 1 rfl (zs_c 2 rfl (zs_c 3 rfl (zs_c 0 rfl zs_n)))) (hK6 _ h)
    · have h := q_f c h
      refine zi_aload_n 0 (dq dS_writeComponents 11 rfl) rfl ?_
      refine zi_aload 3 (dq dS_writeComponents 12 rfl) rfl ?_
      obtain ⟨o9, eo9, ho9, h⟩ := q_o h
      refine zi_rc0 eo9 ?_
      refine ti_getr (zag_d hL _) ho9 (by decide) fS_79 (dq dS_writeComponents 13 rfl) ?_
      refine zi_iconst (v := (-1)) (dq dS_writeComponents 14 rfl) (by decide) ?_
      refine zi_iload_n 2 (dq dS_writeComponents 15 rfl) rfl ?_
      refine zi_iconst (v := 1) (dq dS_writeComponents 16 rfl) (by decide) ?_
      refine zi_iadd (dq dS_writeComponents 17 rfl) ?_
      obtain ⟨v10, J11, hv10, h⟩ := q_b h
      refine zi_cVv3 (hrec _ _ hv10 (d - 1) (by omega)) wS_writeElement aS_30 iS_writeElement sS_writeElement (by omega) (zLs hL 26 rfl) rfl (Nat.le_of_ble_eq_true rfl) (dq dS_writeComponents 18 rfl) (fun _ hh => ?_)
      subst hh
      refine zi_goto (tgt := 59) (dq dS_writeComponents 19 rfl) (by decide) ?_
      refine zi_aload 3 (dq dS_writeComponents 30 rfl) rfl ?_
      obtain ⟨o12, eo12, ho12, h⟩ := q_o h
      refine zi_rc0 eo12 ?_
      refine ti_getr (zag_d hL _) ho12 (by decide) fS_113 (dq dS_writeComponents 31 rfl) ?_
      refine zi_astC (lv' := [(4, _), (0, _), (2, _), (3, _)]) (dq dS_writeComponents 32 rfl) (by decide) (by simp [z_cr, z_ci]) rfl ?_
      refine zi_goto (tgt := 6) (dq dS_writeComponents 33 rfl) (by decide) ?_
      exact zG_lv (zs_c 1 rfl (zs_c 2 rfl (zs_c 3 rfl (zs_c 0 rfl zs_n)))) (hK6 _ h)
def FS_writeComponents (N : Nat) (M0 : zM) (rec : (Option Nat × Int32 × Int32 × zJ) → Option (Unit × zJ)) (l1 : Option Nat) (l2 : Int32) (l3 : Int32) (J : zJ) : Option (Unit × zJ) :=
  qo l1 M0 6 fun o1 =>
  let y2 := zr M0 o1 10
  qfix (FS_writeComponents_6 N M0 rec l2 l3) N (y2, J)
theorem SS_writeComponents {g : zg} {d N : Nat} {M0 : zM} {A : Nat} {rec : (Option Nat × Int32 × Int32 × zJ) → Option (Unit × zJ)} {L : Nat} {r : Unit} {J1 : zJ} {J : zJ} {l1 : Option Nat} {l2 : Int32} {l3 : Int32} (hL : zLy M0 A dShL dRf) (hrec : ∀ s r, rec s = some r → ∀ d, L ≤ d → zEv g d mS_writeElement [va_rf (some (A + 26)), va_rf s.1, .int s.2.1, .int s.2.2.1] (zmm M0 A 32 s.2.2.2) (fun Mq => Mq = zmm M0 A 32 r.2)) (h : FS_writeComponents N M0 rec l1 l2 l3 J = some (r, J1)) (hd : L + 1 ≤ d) : zEv g d mS_writeComponents [va_rf (some (A + 26)), va_rf l1, .int l2, .int l3] (zmm M0 A 32 J) (fun Mq => Mq = zmm M0 A 32 J1) := by
  unfold FS_writeComponents at h
  refine zEu_q (r := r) (lv := [(0, va_rf (some (A + 26))), (1, va_rf l1), (2, .int l2), (3, .int l3)]) ⟨by decide +kernel, by decide, by decide +kernel⟩ (by simp [z_cr, z_ci]) (Nat.le_of_ble_eq_true rfl) rfl ?_
  refine zi_aload_n 1 (dq dS_writeComponents 0 rfl) rfl ?_
  obtain ⟨o1, eo1, ho1, h⟩ := q_o h
  refine zi_rc0 eo1 ?_
  refine ti_getr (zag_d hL _) ho1 (by decide) fS_102 (dq dS_writeComponents 1 rfl) ?_
  refine zi_astC (lv' := [(4, _), (0, _), (1, _), (2, _), (3, _)]) (dq dS_writeComponents 2 rfl) (by decide) (by simp [z_cr, z_ci]) rfl ?_
  exact zG_lv (zs_c 1 rfl (zs_c 3 rfl (zs_c 4 rfl (zs_c 0 rfl zs_n)))) (SS_writeComponents_6 hL hrec hd  _ _ h)
def FS_writeInteger_10 (N : Nat) (M0 : zM) (l1 : Int32) (K10 : (Int32 × zJ) → Option (Unit × zJ)) (s : Int32 × zJ) : Option (Unit × zJ) :=
  let l2 := s.1
  let J := s.2
  if l2 < 0 then
    some ((), J)
  else
    qb (FS_append N M0 ((l1 >>> (l2 &&& 31)) &&& 255) J) fun v1 J2 =>
    let y3 := l2 + (-8)
    K10 (y3, J2)
theorem SS_writeInteger_10 {g : zg} {d N : Nat} {M0 : zM} {A : Nat} {r : Unit} {J1 : zJ}  {l1 : Int32} (hL : zLy M0 A dShL dRf) (hd : 1 ≤ d)  : ∀ n s, qfix (FS_writeInteger_10 N M0 l1) n s = some (r, J1) → zG g d mS_writeInteger (zPq (rU r) (zmm M0 A 32 J1)) (zmm M0 A 32 s.2) 10 [(0, va_rf (some (A + 26))), (1, .int l1), (2, .int s.1)] [] := by
  refine qfix_sound (fun K10 hK10 s h => ?_)
  unfold FS_writeInteger_10 at h
  refine zi_iload_n 2 (dq dS_writeInteger 7 rfl) rfl ?_
  refine zi_if_lt (tgt := 31) (dq dS_writeInteger 8 rfl) (by decide) (fun c => ?_) (fun c => ?_)
  · have h := q_t c h
    exact zi_return rfl (dq dS_writeInteger 18 rfl) (q_ru h)
  · have h := q_f c h
    refine zi_aload_n 0 (dq dS_writeInteger 9 rfl) rfl ?_
    refine zi_iload_n 1 (dq dS_writeInteger 10 rfl) rfl ?_
    refine zi_iload_n 2 (dq dS_writeInteger 11 rfl) rfl ?_
    refine zi_ishr (dq dS_writeInteger 12 rfl) ?_
    refine zi_sipush (v := 255) (dq dS_writeInteger 13 rfl) (by decide) ?_
    refine zi_iand (dq dS_writeInteger 14 rfl) ?_
    obtain ⟨v1, J2, hv1, h⟩ := q_b h
    refine zi_cVv1 (SS_append hL hv1 (d := d - 1) (by omega)) wS_append aS_84 iS_append sS_append (by omega) (zLs hL 26 rfl) rfl (Nat.le_of_ble_eq_true rfl) (dq dS_writeInteger 15 rfl) (fun _ hh => ?_)
    subst hh
    refine zi_iincC (v := _ + (-8)) (lv' := [(2, _), (0, _), (1, _)]) 2 (dq dS_writeInteger 16 rfl) rfl rfl (by decide) (by simp [z_cr, z_ci]) rfl ?_
    refine zi_goto (tgt := 10) (dq dS_writeInteger 17 rfl) (by decide) ?_
    exact zG_lv (zs_c 1 rfl (zs_c 2 rfl (zs_c 0 rfl zs_n))) (hK10 _ h)
def FS_writeInteger (N : Nat) (M0 : zM) (l1 : Int32) (J : zJ) : Option (Unit × zJ) :=
  qc (FI_byteCount N l1) fun v1 =>
  let y2 := 8 * (v1 - 1)
  qfix (FS_writeInteger_10 N M0 l1) N (y2, J)
theorem SS_writeInteger {g : zg} {d N : Nat} {M0 : zM} {A : Nat} {r : Unit} {J1 : zJ} {J : zJ} {l1 : Int32} (hL : zLy M0 A dShL dRf) (h : FS_writeInteger N M0 l1 J = some (r, J1)) (hd : 1 ≤ d) : zEv g d mS_writeInteger [va_rf (some (A + 26)), .int l1] (zmm M0 A 32 J) (fun Mq => Mq = zmm M0 A 32 J1) := by
  unfold FS_writeInteger at h
  refine zEu_q (r := r) (lv := [(0, va_rf (some (A + 26))), (1, .int l1)]) ⟨by decide +kernel, by decide, by decide +kernel⟩ (by simp [z_cr, z_ci]) (Nat.le_of_ble_eq_true rfl) rfl ?_
  refine zi_bipush (v := 8) (dq dS_writeInteger 0 rfl) (by decide) ?_
  refine zi_iload_n 1 (dq dS_writeInteger 1 rfl) rfl ?_
  obtain ⟨v1, hv1, h⟩ := q_c h
  refine zi_cSi1 (SI_byteCount  hv1 (d := d - 1) (by omega)) wI_byteCount aS_97 tI_byteCount (by omega) (Nat.le_of_ble_eq_true rfl) (dq dS_writeInteger 2 rfl) (fun _ _ hh => ?_)
  obtain ⟨rfl, rfl⟩ := hh
  refine zi_iconst (v := 1) (dq dS_writeInteger 3 rfl) (by decide) ?_
  refine zi_isub (dq dS_writeInteger 4 rfl) ?_
  refine zi_imul (dq dS_writeInteger 5 rfl) ?_
  refine zi_istC_n (lv' := [(2, _), (0, _), (1, _)]) (dq dS_writeInteger 6 rfl) (by decide) (by simp [z_cr, z_ci]) rfl ?_
  exact zG_lv (zs_c 1 rfl (zs_c 2 rfl (zs_c 0 rfl zs_n))) (SS_writeInteger_10 hL hd  _ _ h)
def FS_writeContent_80 (N : Nat) (M0 : zM) (rec : (Option Nat × Int32 × Int32 × zJ) → Option (Unit × zJ)) (t1 : Int32) (J : zJ) : Option (Unit × zJ) :=
  qb (FS_append N M0 t1 J) fun v1 J2 =>
  some ((), J2)
theorem SS_writeContent_80 {g : zg} {d N : Nat} {M0 : zM} {A : Nat} {rec : (Option Nat × Int32 × Int32 × zJ) → Option (Unit × zJ)} {L : Nat} {r : Unit} {J1 : zJ} {J : zJ}  {t1 : Int32} (hL : zLy M0 A dShL dRf) (hrec : ∀ s r, rec s = some r → ∀ d, L ≤ d → zEv g d mS_writeElement [va_rf (some (A + 26)), va_rf s.1, .int s.2.1, .int s.2.2.1] (zmm M0 A 32 s.2.2.2) (fun Mq => Mq = zmm M0 A 32 r.2)) (h : FS_writeContent_80 N M0 rec t1 J = some (r, J1)) (hd : L + 2 ≤ d)  : zG g d mS_writeContent (zPq (rU r) (zmm M0 A 32 J1)) (zmm M0 A 32 J) 80 [] [.int t1, va_rf (some (A + 26))] := by
  unfold FS_writeContent_80 at h
  obtain ⟨v1, J2, hv1, h⟩ := q_b h
  refine zi_cVv1 (SS_append hL hv1 (d := d - 1) (by omega)) wS_append aS_84 iS_append sS_append (by omega) (zLs hL 26 rfl) rfl (Nat.le_of_ble_eq_true rfl) (dq dS_writeContent 22 rfl) (fun _ hh => ?_)
  subst hh
  refine zi_goto (tgt := 190) (dq dS_writeContent 23 rfl) (by decide) ?_
  exact zi_return rfl (dq dS_writeContent 77 rfl) (q_ru h)
def FS_writeContent_105 (N : Nat) (M0 : zM) (rec : (Option Nat × Int32 × Int32 × zJ) → Option (Unit × zJ)) (l3 : Int32) (K105 : (Int32 × zJ) → Option (Unit × zJ)) (s : Int32 × zJ) : Option (Unit × zJ) :=
  let l4 := s.1
  let J := s.2
  qk (qi l3 100) <|
  if (J 18 l3.toNatClampNeg) ≤ l4 then
    some ((), J)
  else
    qb (FV_octetAt N M0 16 l3 l4 J) fun v2 J3 =>
    qb (FS_append N M0 v2 J3) fun v4 J5 =>
    let y6 := l4 + (1)
    K105 (y6, J5)
theorem SS_writeContent_105 {g : zg} {d N : Nat} {M0 : zM} {A : Nat} {rec : (Option Nat × Int32 × Int32 × zJ) → Option (Unit × zJ)} {L : Nat} {r : Unit} {J1 : zJ}  {l3 : Int32} (hL : zLy M0 A dShL dRf) (hrec : ∀ s r, rec s = some r → ∀ d, L ≤ d → zEv g d mS_writeElement [va_rf (some (A + 26)), va_rf s.1, .int s.2.1, .int s.2.2.1] (zmm M0 A 32 s.2.2.2) (fun Mq => Mq = zmm M0 A 32 r.2)) (hd : L + 2 ≤ d)  : ∀ n s, qfix (FS_writeContent_105 N M0 rec l3) n s = some (r, J1) → zG g d mS_writeContent (zPq (rU r) (zmm M0 A 32 J1)) (zmm M0 A 32 s.2) 105 [(0, va_rf (some (A + 26))), (3, .int l3), (4, .int s.1)] [] := by
  refine qfix_sound (fun K105 hK105 s h => ?_)
  unfold FS_writeContent_105 at h
  refine zi_iload 2 (dq dS_writeContent 34 rfl) rfl ?_
  refine zi_aload_n 0 (dq dS_writeContent 35 rfl) rfl ?_
  refine ri_getr (zLs hL 26 rfl) (zLr hL 8 rfl) fS_15 (dq dS_writeContent 36 rfl) ?_
  refine ri_getr (zLs hL 16 rfl) (zLr hL 22 rfl) fS_72 (dq dS_writeContent 37 rfl) ?_
  refine zi_iload_n 1 (dq dS_writeContent 38 rfl) rfl ?_
  obtain ⟨c1, h⟩ := q_k h
  refine ri_iald (zLs hL 18 rfl) (by decide) rfl c1 (dq dS_writeContent 39 rfl) ?_
  refine zi_icmp_ge (tgt := 139) (dq dS_writeContent 40 rfl) (by decide) (fun c => ?_) (fun c => ?_)
  · have h := q_t c h
    refine zi_goto (tgt := 190) (dq dS_writeContent 50 rfl) (by decide) ?_
    exact zi_return rfl (dq dS_writeContent 77 rfl) (q_ru h)
  · have h := q_f c h
    refine zi_aload_n 0 (dq dS_writeContent 41 rfl) rfl ?_
    refine zi_aload_n 0 (dq dS_writeContent 42 rfl) rfl ?_
    refine ri_getr (zLs hL 26 rfl) (zLr hL 8 rfl) fS_15 (dq dS_writeContent 43 rfl) ?_
    refine zi_iload_n 1 (dq dS_writeContent 44 rfl) rfl ?_
    refine zi_iload 2 (dq dS_writeContent 45 rfl) rfl ?_
    obtain ⟨v2, J3, hv2, h⟩ := q_b h
    refine zi_cVi2 (SV_octetAt (dLy_v (Or.inr rfl) hL) (by decide) (zag_d hL) hv2 (d := d - 1) (by omega)) wV_octetAt aS_90 iV_octetAt sV_octetAt (by omega) (zLs hL 16 rfl) rfl (Nat.le_of_ble_eq_true rfl) (dq dS_writeContent 46 rfl) (fun _ _ hh => ?_)
    obtain ⟨rfl, rfl⟩ := hh
    obtain ⟨v4, J5, hv4, h⟩ := q_b h
    refine zi_cVv1 (SS_append hL hv4 (d := d - 1) (by omega)) wS_append aS_84 iS_append sS_append (by omega) (zLs hL 26 rfl) rfl (Nat.le_of_ble_eq_true rfl) (dq dS_writeContent 47 rfl) (fun _ hh => ?_)
    subst hh
    refine zi_iincC (v := _ + (1)) (lv' := [(4, _), (0, _), (3, _)]) 2 (dq dS_writeContent 48 rfl) rfl rfl (by decide) (by simp [z_cr, z_ci]) rfl ?_
    refine zi_goto (tgt := 105) (dq dS_writeContent 49 rfl) (by decide) ?_
    exact zG_lv (zs_c 1 rfl (zs_c 2 rfl (zs_c 0 rfl zs_n))) (hK105 _ h)
def FS_writeContent_155 (N : Nat) (M0 : zM) (rec : (Option Nat × Int32 × Int32 × zJ) → Option (Unit × zJ)) (l1 : Option Nat) (l2 : Int32) (l3 : Int32) (K155 : (Int32 × zJ) → Option (Unit × zJ)) (s : Int32 × zJ) : Option (Unit × zJ) :=
  let l4 := s.1
  let J := s.2
  qk (qi l3 100) <|
  if (J 18 l3.toNatClampNeg) ≤ l4 then
    some ((), J)
  else
    qo l1 M0 6 fun o2 =>
    qb (rec ((zr M0 o2 9), ((-1)), (l2 + 1), J)) fun v3 J4 =>
    let y5 := l4 + (1)
    K155 (y5, J4)
theorem SS_writeContent_155 {g : zg} {d N : Nat} {M0 : zM} {A : Nat} {rec : (Option Nat × Int32 × Int32 × zJ) → Option (Unit × zJ)} {L : Nat} {r : Unit} {J1 : zJ}  {l1 : Option Nat} {l2 : Int32} {l3 : Int32} (hL : zLy M0 A dShL dRf) (hrec : ∀ s r, rec s = some r → ∀ d, L ≤ d → zEv g d mS_writeElement [va_rf (some (A + 26)), va_rf s.1, .int s.2.1, .int s.2.2.1] (zmm M0 A 32 s.2.2.2) (fun Mq => Mq = zmm M0 A 32 r.2)) (hd : L + 2 ≤ d)  : ∀ n s, qfix (FS_writeContent_155 N M0 rec l1 l2 l3) n s = some (r, J1) → zG g d mS_writeContent (zPq (rU r) (zmm M0 A 32 J1)) (zmm M0 A 32 s.2) 155 [(0, va_rf (some (A + 26))), (1, va_rf l1), (2, .int l2), (3, .int l3), (4, .int s.1)] [] := by
  refine qfix_sound (fun K155 hK155 s h => ?_)
  unfold FS_writeContent_155 at h
  refine zi_iload 4 (dq dS_writeContent 59 rfl) rfl ?_
  refine zi_aload_n 0 (dq dS_writeContent 60 rfl) rfl ?_
  refine ri_getr (zLs hL 26 rfl) (zLr hL 8 rfl) fS_15 (dq dS_writeContent 61 rfl) ?_
  refine ri_getr (zLs hL 16 rfl) (zLr hL 22 rfl) fS_72 (dq dS_writeContent 62 rfl) ?_
  refine zi_iload_n 3 (dq dS_writeContent 63 rfl) rfl ?_
  obtain ⟨c1, h⟩ := q_k h
  refine ri_iald (zLs hL 18 rfl) (by decide) rfl c1 (dq dS_writeContent 64 rfl) ?_
  refine zi_icmp_ge (tgt := 187) (dq dS_writeContent 65 rfl) (by decide) (fun c => ?_) (fun c => ?_)
  · have h := q_t c h
    refine zi_goto (tgt := 190) (dq dS_writeContent 76 rfl) (by decide) ?_
    exact zi_return rfl (dq dS_writeContent 77 rfl) (q_ru h)
  · have h := q_f c h
    refine zi_aload_n 0 (dq dS_writeContent 66 rfl) rfl ?_
    refine zi_aload_n 1 (dq dS_writeContent 67 rfl) rfl ?_
    obtain ⟨o2, eo2, ho2, h⟩ := q_o h
    refine zi_rc0 eo2 ?_
    refine ti_getr (zag_d hL _) ho2 (by decide) fS_65 (dq dS_writeContent 68 rfl) ?_
    refine zi_iconst (v := (-1)) (dq dS_writeContent 69 rfl) (by decide) ?_
    refine zi_iload_n 2 (dq dS_writeContent 70 rfl) rfl ?_
    refine zi_iconst (v := 1) (dq dS_writeContent 71 rfl) (by decide) ?_
    refine zi_iadd (dq dS_writeContent 72 rfl) ?_
    obtain ⟨v3, J4, hv3, h⟩ := q_b h
    refine zi_cVv3 (hrec _ _ hv3 (d - 1) (by omega)) wS_writeElement aS_30 iS_writeElement sS_writeElement (by omega) (zLs hL 26 rfl) rfl (Nat.le_of_ble_eq_true rfl) (dq dS_writeContent 73 rfl) (fun _ hh => ?_)
    subst hh
    refine zi_iincC (v := _ + (1)) (lv' := [(4, _), (0, _), (1, _), (2, _), (3, _)]) 4 (dq dS_writeContent 74 rfl) rfl rfl (by decide) (by simp [z_cr, z_ci]) rfl ?_
    refine zi_goto (tgt := 155) (dq dS_writeContent 75 rfl) (by decide) ?_
    exact zG_lv (zs_c 1 rfl (zs_c 2 rfl (zs_c 3 rfl (zs_c 4 rfl (zs_c 0 rfl zs_n))))) (hK155 _ h)
def FS_writeContent (N : Nat) (M0 : zM) (rec : (Option Nat × Int32 × Int32 × zJ) → Option (Unit × zJ)) (l1 : Option Nat) (l2 : Int32) (J : zJ) : Option (Unit × zJ) :=
  let y1 := J 26 3
  let J2 := zu J 26 3 ((J 26 3) + 1)
  qo l1 M0 6 fun o3 =>
  if (zi M0 o3 0) = 1 then
    qk (qi y1 100) <|
    if (J2 18 y1.toNatClampNeg) = 0 then
      FS_writeContent_80 N M0 rec 0 J2
    else
      FS_writeContent_80 N M0 rec 255 J2
  else
    if (zi M0 o3 0) = 2 then
      qk (qi y1 100) <|
      qb (FS_writeInteger N M0 (J2 18 y1.toNatClampNeg) J2) fun v6 J7 =>
      some ((), J7)
    else
      if (zi M0 o3 0) = 4 then
        qfix (FS_writeContent_105 N M0 rec y1) N (0, J2)
      else
        if (zi M0 o3 0) = 6 then
          qb (FS_writeComponents N M0 rec l1 y1 l2 J2) fun v8 J9 =>
          some ((), J9)
        else
          if (zi M0 o3 0) = 7 then
            qfix (FS_writeContent_155 N M0 rec l1 l2 y1) N (0, J2)
          else
            some ((), J2)
theorem SS_writeContent {g : zg} {d N : Nat} {M0 : zM} {A : Nat} {rec : (Option Nat × Int32 × Int32 × zJ) → Option (Unit × zJ)} {L : Nat} {r : Unit} {J1 : zJ} {J : zJ} {l1 : Option Nat} {l2 : Int32} (hL : zLy M0 A dShL dRf) (hrec : ∀ s r, rec s = some r → ∀ d, L ≤ d → zEv g d mS_writeElement [va_rf (some (A + 26)), va_rf s.1, .int s.2.1, .int s.2.2.1] (zmm M0 A 32 s.2.2.2) (fun Mq => Mq = zmm M0 A 32 r.2)) (h : FS_writeContent N M0 rec l1 l2 J = some (r, J1)) (hd : L + 2 ≤ d) : zEv g d mS_writeContent [va_rf (some (A + 26)), va_rf l1, .int l2] (zmm M0 A 32 J) (fun Mq => Mq = zmm M0 A 32 J1) := by
  unfold FS_writeContent at h
  refine zEu_q (r := r) (lv := [(0, va_rf (some (A + 26))), (1, va_rf l1), (2, .int l2)]) ⟨by decide +kernel, by decide, by decide +kernel⟩ (by simp [z_cr, z_ci]) (Nat.le_of_ble_eq_true rfl) rfl ?_
  refine zi_aload_n 0 (dq dS_writeContent 0 rfl) rfl ?_
  refine ri_geti (zLs hL 26 rfl) (by decide) fS_23 (dq dS_writeContent 1 rfl) ?_
  refine zi_istC_n (lv' := [(3, _), (0, _), (1, _), (2, _)]) (dq dS_writeContent 2 rfl) (by decide) (by simp [z_cr, z_ci]) rfl ?_
  refine zi_aload_n 1 (dq dS_writeContent 3 rfl) rfl ?_
  refine zi_dup (dq dS_writeContent 4 rfl) (by first | rfl | exact z_cr _) ?_
  refine ri_geti (zLs hL 26 rfl) (by decide) fS_23 (dq dS_writeContent 5 rfl) ?_
  refine zi_iconst (v := 1) (dq dS_writeContent 6 rfl) (by decide) ?_
  refine zi_iadd (dq dS_writeContent 7 rfl) ?_
  refine ri_puti (zLs hL 26 rfl) (by decide) fS_23 (fun h => by cases h) rfl rfl (dq dS_writeContent 8 rfl) ?_
  refine zi_aload_n 2 (dq dS_writeContent 9 rfl) rfl ?_
  obtain ⟨o3, eo3, ho3, h⟩ := q_o h
  refine zi_rc0 eo3 ?_
  refine ti_geti (zag_d hL _) ho3 (by decide) fS_39 (dq dS_writeContent 10 rfl) ?_
  rcases q_w h with ⟨c1, h⟩ | ⟨c1, h⟩
  · refine zi_top c1 ?_
    refine zi_tableIn (tgt := 60) (dq dS_writeContent 11 rfl) (by decide) (by decide) rfl (by decide) ?_
    refine zi_aload_n 1 (dq dS_writeContent 12 rfl) rfl ?_
    refine zi_aload_n 1 (dq dS_writeContent 13 rfl) rfl ?_
    refine ri_getr (zLs hL 26 rfl) (zLr hL 8 rfl) fS_15 (dq dS_writeContent 14 rfl) ?_
    refine ri_getr (zLs hL 16 rfl) (zLr hL 22 rfl) fS_72 (dq dS_writeContent 15 rfl) ?_
    refine zi_iload_n 0 (dq dS_writeContent 16 rfl) rfl ?_
    obtain ⟨c4, h⟩ := q_k h
    refine ri_iald (zLs hL 18 rfl) (by decide) rfl c4 (dq dS_writeContent 17 rfl) ?_
    refine zi_if_ne (tgt := 77) (dq dS_writeContent 18 rfl) (by decide) (fun c => ?_) (fun c => ?_)
    · have h := q_f c h
      refine zi_sipush (v := 255) (dq dS_writeContent 21 rfl) (by decide) ?_
      exact zG_lv zs_n (SS_writeContent_80 hL hrec h hd )
    · have h := q_t c h
      refine zi_iconst (v := 0) (dq dS_writeContent 19 rfl) (by decide) ?_
      refine zi_goto (tgt := 80) (dq dS_writeContent 20 rfl) (by decide) ?_
      exact zG_lv zs_n (SS_writeContent_80 hL hrec h hd )
  rcases q_w h with ⟨c2, h⟩ | ⟨c2, h⟩
  · refine zi_top c2 ?_
    refine zi_tableIn (tgt := 86) (dq dS_writeContent 11 rfl) (by decide) (by decide) rfl (by decide) ?_
    refine zi_aload_n 1 (dq dS_writeContent 24 rfl) rfl ?_
    refine zi_aload_n 1 (dq dS_writeContent 25 rfl) rfl ?_
    refine ri_getr (zLs hL 26 rfl) (zLr hL 8 rfl) fS_15 (dq dS_writeContent 26 rfl) ?_
    refine ri_getr (zLs hL 16 rfl) (zLr hL 22 rfl) fS_72 (dq dS_writeContent 27 rfl) ?_
    refine zi_iload_n 0 (dq dS_writeContent 28 rfl) rfl ?_
    obtain ⟨c5, h⟩ := q_k h
    refine ri_iald (zLs hL 18 rfl) (by decide) rfl c5 (dq dS_writeContent 29 rfl) ?_
    obtain ⟨v6, J7, hv6, h⟩ := q_b h
    refine zi_cVv1 (SS_writeInteger hL hv6 (d := d - 1) (by omega)) wS_writeInteger aS_87 iS_writeInteger sS_writeInteger (by omega) (zLs hL 26 rfl) rfl (Nat.le_of_ble_eq_true rfl) (dq dS_writeContent 30 rfl) (fun _ hh => ?_)
    subst hh
    refine zi_goto (tgt := 190) (dq dS_writeContent 31 rfl) (by decide) ?_
    exact zi_return rfl (dq dS_writeContent 77 rfl) (q_ru h)
  rcases q_w h with ⟨c4, h⟩ | ⟨c4, h⟩
  · refine zi_top c4 ?_
    refine zi_tableIn (tgt := 102) (dq dS_writeContent 11 rfl) (by decide) (by decide) rfl (by decide) ?_
    refine zi_iconst (v := 0) (dq dS_writeContent 32 rfl) (by decide) ?_
    refine zi_istC (lv' := [(4, _), (3, _), (0, _), (1, _), (2, _)]) (dq dS_writeContent 33 rfl) (by decide) (by simp [z_cr, z_ci]) rfl ?_
    exact zG_lv (zs_c 2 rfl (zs_c 1 rfl (zs_c 0 rfl zs_n))) (SS_writeContent_105 hL hrec hd  _ _ h)
  rcases q_w h with ⟨c6, h⟩ | ⟨c6, h⟩
  · refine zi_top c6 ?_
    refine zi_tableIn (tgt := 142) (dq dS_writeContent 11 rfl) (by decide) (by decide) rfl (by decide) ?_
    refine zi_aload_n 1 (dq dS_writeContent 51 rfl) rfl ?_
    refine zi_aload_n 2 (dq dS_writeContent 52 rfl) rfl ?_
    refine zi_iload_n 0 (dq dS_writeContent 53 rfl) rfl ?_
    refine zi_iload_n 3 (dq dS_writeContent 54 rfl) rfl ?_
    obtain ⟨v8, J9, hv8, h⟩ := q_b h
    refine zi_cVv3 (SS_writeComponents hL hrec hv8 (d := d - 1) (by omega)) wS_writeComponents aS_94 iS_writeComponents sS_writeComponents (by omega) (zLs hL 26 rfl) rfl (Nat.le_of_ble_eq_true rfl) (dq dS_writeContent 55 rfl) (fun _ hh => ?_)
    subst hh
    refine zi_goto (tgt := 190) (dq dS_writeContent 56 rfl) (by decide) ?_
    exact zi_return rfl (dq dS_writeContent 77 rfl) (q_ru h)
  rcases q_w h with ⟨c7, h⟩ | ⟨c7, h⟩
  · refine zi_top c7 ?_
    refine zi_tableIn (tgt := 152) (dq dS_writeContent 11 rfl) (by decide) (by decide) rfl (by decide) ?_
    refine zi_iconst (v := 0) (dq dS_writeContent 57 rfl) (by decide) ?_
    refine zi_istC (lv' := [(4, _), (3, _), (0, _), (1, _), (2, _)]) (dq dS_writeContent 58 rfl) (by decide) (by simp [z_cr, z_ci]) rfl ?_
    exact zG_lv (zs_c 2 rfl (zs_c 3 rfl (zs_c 4 rfl (zs_c 1 rfl (zs_c 0 rfl zs_n))))) (SS_writeContent_155 hL hrec hd  _ _ h)
  refine zi_tableDef (tgt := 190) (vals := [1, 2, 4, 6, 7]) (dq dS_writeContent 11 rfl) (List.forall_mem_cons.mpr ⟨c1, List.forall_mem_cons.mpr ⟨c2, List.forall_mem_cons.mpr ⟨c4, List.forall_mem_cons.mpr ⟨c6, List.forall_mem_cons.mpr ⟨c7, fun _ h => absurd h List.not_mem_nil⟩⟩⟩⟩⟩) (by decide) (by decide) (by decide) ?_
  exact zi_return rfl (dq dS_writeContent 77 rfl) (q_ru h)
def FS_writeElement_140 (N : Nat) (M0 : zM) (rec : (Option Nat × Int32 × Int32 × zJ) → Option (Unit × zJ)) (l3 : Int32) (t1 : Option Nat) (t2 : Int32) (J : zJ) : Option (Unit × zJ) :=
  qb (rec (t1, t2, (l3 + 1), J)) fun v1 J2 =>
  some ((), J2)
theorem SS_writeElement_140 {g : zg} {d N : Nat} {M0 : zM} {A : Nat} {rec : (Option Nat × Int32 × Int32 × zJ) → Option (Unit × zJ)} {L : Nat} {r : Unit} {J1 : zJ} {J : zJ}  {l3 : Int32} {t1 : Option Nat} {t2 : Int32} (hL : zLy M0 A dShL dRf) (hrec : ∀ s r, rec s = some r → ∀ d, L ≤ d → zEv g d mS_writeElement [va_rf (some (A + 26)), va_rf s.1, .int s.2.1, .int s.2.2.1] (zmm M0 A 32 s.2.2.2) (fun Mq => Mq = zmm M0 A 32 r.2)) (h : FS_writeElement_140 N M0 rec l3 t1 t2 J = some (r, J1)) (hd : L + 3 ≤ d)  : zG g d mS_writeElement (zPq (rU r) (zmm M0 A 32 J1)) (zmm M0 A 32 J) 140 [(3, .int l3)] [.int t2, va_rf t1, va_rf (some (A + 26))] := by
  unfold FS_writeElement_140 at h
  refine zi_iload_n 0 (dq dS_writeElement 73 rfl) rfl ?_
  refine zi_iconst (v := 1) (dq dS_writeElement 74 rfl) (by decide) ?_
  refine zi_iadd (dq dS_writeElement 75 rfl) ?_
  obtain ⟨v1, J2, hv1, h⟩ := q_b h
  refine zi_cVv3 (hrec _ _ hv1 (d - 1) (by omega)) wS_writeElement aS_30 iS_writeElement sS_writeElement (by omega) (zLs hL 26 rfl) rfl (Nat.le_of_ble_eq_true rfl) (dq dS_writeElement 76 rfl) (fun _ hh => ?_)
  subst hh
  exact zi_return rfl (dq dS_writeElement 77 rfl) (q_ru h)
def FS_writeElement (N : Nat) (M0 : zM) (rec : (Option Nat × Int32 × Int32 × zJ) → Option (Unit × zJ)) (l1 : Option Nat) (l2 : Int32) (l3 : Int32) (J : zJ) : Option (Unit × zJ) :=
  if l1 = none then
    let J1 := zu J 26 4 1
    some ((), J1)
  else
    if 6 ≤ l3 then
      let J2 := zu J 26 4 1
      some ((), J2)
    else
      if (J 26 3) < (J 16 0) then
        qo l1 M0 6 fun o3 =>
        if (zi M0 o3 0) = 9 then
          qb (FS_writeChoice N M0 rec l1 l3 J) fun v25 J26 =>
          some ((), J26)
        else
          qo l1 M0 6 fun o4 =>
          if (zi M0 o4 0) = 10 then
            qo l1 M0 6 fun o5 =>
            if (zi M0 o5 5) = 0 then
              qo l1 M0 6 fun o6 =>
              if l2 = ((-1)) then
                qo l1 M0 6 fun o7 =>
                FS_writeElement_140 N M0 rec l3 (zr M0 o6 9) (zi M0 o7 4) J
              else
                FS_writeElement_140 N M0 rec l3 (zr M0 o6 9) l2 J
            else
              qo l1 M0 6 fun o8 =>
              qc (FT_tagByte N M0 o8 l2) fun v9 =>
              qb (FS_beginElement N M0 v9 J) fun v10 J11 =>
              qo l1 M0 6 fun o12 =>
              qb (rec ((zr M0 o12 9), ((-1)), (l3 + 1), J11)) fun v13 J14 =>
              qb (FS_endElement N M0 v10 J14) fun v15 J16 =>
              some ((), J16)
          else
            qo l1 M0 6 fun o17 =>
            qc (FT_tagByte N M0 o17 l2) fun v18 =>
            qb (FS_beginElement N M0 v18 J) fun v19 J20 =>
            qb (FS_writeContent N M0 rec l1 l3 J20) fun v21 J22 =>
            qb (FS_endElement N M0 v19 J22) fun v23 J24 =>
            some ((), J24)
      else
        let J27 := zu J 26 4 1
        some ((), J27)
theorem SS_writeElement {g : zg} {d N : Nat} {M0 : zM} {A : Nat} {rec : (Option Nat × Int32 × Int32 × zJ) → Option (Unit × zJ)} {L : Nat} {r : Unit} {J1 : zJ} {J : zJ} {l1 : Option Nat} {l2 : Int32} {l3 : Int32} (hL : zLy M0 A dShL dRf) (hrec : ∀ s r, rec s = some r → ∀ d, L ≤ d → zEv g d mS_writeElement [va_rf (some (A + 26)), va_rf s.1, .int s.2.1, .int s.2.2.1] (zmm M0 A 32 s.2.2.2) (fun Mq => Mq = zmm M0 A 32 r.2)) (h : FS_writeElement N M0 rec l1 l2 l3 J = some (r, J1)) (hd : L + 3 ≤ d) : zEv g d mS_writeElement [va_rf (some (A + 26)), va_rf l1, .int l2, .int l3] (zmm M0 A 32 J) (fun Mq => Mq = zmm M0 A 32 J1) := by
  unfold FS_writeElement at h
  refine zEu_q (r := r) (lv := [(0, va_rf (some (A + 26))), (1, va_rf l1), (2, .int l2), (3, .int l3)]) ⟨by decide +kernel, by decide, by decide +kernel⟩ (by simp [z_cr, z_ci]) (Nat.le_of_ble_eq_true rfl) rfl ?_
  refine zi_aload_n 1 (dq dS_writeElement 0 rfl) rfl ?_
  refine zi_ifnull (tgt := 24) (dq dS_writeElement 1 rfl) (by decide) (fun c => ?_) (fun _ c => ?_)
  · have h := q_t c h
    refine zi_aload_n 0 (dq dS_writeElement 11 rfl) rfl ?_
    refine zi_iconst (v := 1) (dq dS_writeElement 12 rfl) (by decide) ?_
    refine ri_puti (zLs hL 26 rfl) (by decide) fS_26 (fun h => by cases h) (by decide) (by decide) (dq dS_writeElement 13 rfl) ?_
    exact zi_return rfl (dq dS_writeElement 14 rfl) (q_ru h)
  · have h := q_f (by rw [c]; exact nofun) h
    refine zi_iload_n 3 (dq dS_writeElement 2 rfl) rfl ?_
    refine zi_bipush (v := 6) (dq dS_writeElement 3 rfl) (by decide) ?_
    refine zi_icmp_ge (tgt := 24) (dq dS_writeElement 4 rfl) (by decide) (fun c => ?_) (fun c => ?_)
    · have h := q_t c h
      refine zi_aload_n 0 (dq dS_writeElement 11 rfl) rfl ?_
      refine zi_iconst (v := 1) (dq dS_writeElement 12 rfl) (by decide) ?_
      refine ri_puti (zLs hL 26 rfl) (by decide) fS_26 (fun h => by cases h) (by decide) (by decide) (dq dS_writeElement 13 rfl) ?_
      exact zi_return rfl (dq dS_writeElement 14 rfl) (q_ru h)
    · have h := q_f c h
      refine zi_aload_n 0 (dq dS_writeElement 5 rfl) rfl ?_
      refine ri_geti (zLs hL 26 rfl) (by decide) fS_23 (dq dS_writeElement 6 rfl) ?_
      refine zi_aload_n 0 (dq dS_writeElement 7 rfl) rfl ?_
      refine ri_getr (zLs hL 26 rfl) (zLr hL 8 rfl) fS_15 (dq dS_writeElement 8 rfl) ?_
      refine ri_geti (zLs hL 16 rfl) (by decide) fS_34 (dq dS_writeElement 9 rfl) ?_
      refine zi_icmp_lt (tgt := 30) (dq dS_writeElement 10 rfl) (by decide) (fun c => ?_) (fun c => ?_)
      · have h := q_t c h
        refine zi_aload_n 1 (dq dS_writeElement 15 rfl) rfl ?_
        obtain ⟨o3, eo3, ho3, h⟩ := q_o h
        refine zi_rc0 eo3 ?_
        refine ti_geti (zag_d hL _) ho3 (by decide) fS_39 (dq dS_writeElement 16 rfl) ?_
        refine zi_bipush (v := 9) (dq dS_writeElement 17 rfl) (by decide) ?_
        refine zi_icmp_ne (tgt := 48) (dq dS_writeElement 18 rfl) (by decide) (fun c => ?_) (fun c => ?_)
        · have h := q_f c h
          refine zi_aload_n 1 (dq dS_writeElement 24 rfl) rfl ?_
          obtain ⟨o4, eo4, ho4, h⟩ := q_o h
          refine zi_rc0 eo4 ?_
          refine ti_geti (zag_d hL _) ho4 (by decide) fS_39 (dq dS_writeElement 25 rfl) ?_
          refine zi_bipush (v := 10) (dq dS_writeElement 26 rfl) (by decide) ?_
          refine zi_icmp_eq (tgt := 83) (dq dS_writeElement 27 rfl) (by decide) (fun c => ?_) (fun c => ?_)
          · have h := q_t c h
            refine zi_aload_n 1 (dq dS_writeElement 42 rfl) rfl ?_
            obtain ⟨o5, eo5, ho5, h⟩ := q_o h
            refine zi_rc0 eo5 ?_
            refine ti_geti (zag_d hL _) ho5 (by decide) fS_62 (dq dS_writeElement 43 rfl) ?_
            refine zi_if_eq (tgt := 122) (dq dS_writeElement 44 rfl) (by decide) (fun c => ?_) (fun c => ?_)
            · have h := q_t c h
              refine zi_aload_n 0 (dq dS_writeElement 63 rfl) rfl ?_
              refine zi_aload_n 1 (dq dS_writeElement 64 rfl) rfl ?_
              obtain ⟨o6, eo6, ho6, h⟩ := q_o h
              refine zi_rc0 eo6 ?_
              refine ti_getr (zag_d hL _) ho6 (by decide) fS_65 (dq dS_writeElement 65 rfl) ?_
              refine zi_iload_n 2 (dq dS_writeElement 66 rfl) rfl ?_
              refine zi_iconst (v := (-1)) (dq dS_writeElement 67 rfl) (by decide) ?_
              refine zi_icmp_ne (tgt := 139) (dq dS_writeElement 68 rfl) (by decide) (fun c => ?_) (fun c => ?_)
              · have h := q_f c h
                refine zi_iload_n 2 (dq dS_writeElement 72 rfl) rfl ?_
                exact zG_lv (zs_c 3 rfl zs_n) (SS_writeElement_140 hL hrec h hd )
              · have h := q_t c h
                refine zi_aload_n 1 (dq dS_writeElement 69 rfl) rfl ?_
                obtain ⟨o7, eo7, ho7, h⟩ := q_o h
                refine zi_rc0 eo7 ?_
                refine ti_geti (zag_d hL _) ho7 (by decide) fS_69 (dq dS_writeElement 70 rfl) ?_
                refine zi_goto (tgt := 140) (dq dS_writeElement 71 rfl) (by decide) ?_
                exact zG_lv (zs_c 3 rfl zs_n) (SS_writeElement_140 hL hrec h hd )
            · have h := q_f c h
              refine zi_aload_n 0 (dq dS_writeElement 45 rfl) rfl ?_
              refine zi_aload_n 1 (dq dS_writeElement 46 rfl) rfl ?_
              refine zi_iload_n 2 (dq dS_writeElement 47 rfl) rfl ?_
              obtain ⟨o8, eo8, ho8, h⟩ := q_o h
              refine zi_rc1 eo8 ?_
              obtain ⟨v9, hv9, h⟩ := q_c h
              refine zi_cVi1 (ST_tagByte (zag_d hL _) ho8 hv9 (d := d - 1) (by omega)) wT_tagByte aS_48 iT_tagByte sT_tagByte (by omega) ((zag_d hL _) _ _ (by decide) ho8).1 rfl (Nat.le_of_ble_eq_true rfl) (dq dS_writeElement 48 rfl) (fun _ _ hh => ?_)
              obtain ⟨rfl, rfl⟩ := hh
              obtain ⟨v10, J11, hv10, h⟩ := q_b h
              refine zi_cVi1 (SS_beginElement hL hv10 (d := d - 1) (by omega)) wS_beginElement aS_52 iS_beginElement sS_beginElement (by omega) (zLs hL 26 rfl) rfl (Nat.le_of_ble_eq_true rfl) (dq dS_writeElement 49 rfl) (fun _ _ hh => ?_)
              obtain ⟨rfl, rfl⟩ := hh
              refine zi_istC (lv' := [(4, _), (0, _), (1, _), (2, _), (3, _)]) (dq dS_writeElement 50 rfl) (by decide) (by simp [z_cr, z_ci]) rfl ?_
              refine zi_aload_n 1 (dq dS_writeElement 51 rfl) rfl ?_
              refine zi_aload_n 2 (dq dS_writeElement 52 rfl) rfl ?_
              obtain ⟨o12, eo12, ho12, h⟩ := q_o h
              refine zi_rc0 eo12 ?_
              refine ti_getr (zag_d hL _) ho12 (by decide) fS_65 (dq dS_writeElement 53 rfl) ?_
              refine zi_iconst (v := (-1)) (dq dS_writeElement 54 rfl) (by decide) ?_
              refine zi_iload_n 4 (dq dS_writeElement 55 rfl) rfl ?_
              refine zi_iconst (v := 1) (dq dS_writeElement 56 rfl) (by decide) ?_
              refine zi_iadd (dq dS_writeElement 57 rfl) ?_
              obtain ⟨v13, J14, hv13, h⟩ := q_b h
              refine zi_cVv3 (hrec _ _ hv13 (d - 1) (by omega)) wS_writeElement aS_30 iS_writeElement sS_writeElement (by omega) (zLs hL 26 rfl) rfl (Nat.le_of_ble_eq_true rfl) (dq dS_writeElement 58 rfl) (fun _ hh => ?_)
              subst hh
              refine zi_aload_n 1 (dq dS_writeElement 59 rfl) rfl ?_
              refine zi_iload 0 (dq dS_writeElement 60 rfl) rfl ?_
              obtain ⟨v15, J16, hv15, h⟩ := q_b h
              refine zi_cVv1 (SS_endElement hL hv15 (d := d - 1) (by omega)) wS_endElement aS_58 iS_endElement sS_endElement (by omega) (zLs hL 26 rfl) rfl (Nat.le_of_ble_eq_true rfl) (dq dS_writeElement 61 rfl) (fun _ hh => ?_)
              subst hh
              refine zi_goto (tgt := 146) (dq dS_writeElement 62 rfl) (by decide) ?_
              exact zi_return rfl (dq dS_writeElement 77 rfl) (q_ru h)
          · have h := q_f c h
            refine zi_aload_n 0 (dq dS_writeElement 28 rfl) rfl ?_
            refine zi_aload_n 1 (dq dS_writeElement 29 rfl) rfl ?_
            refine zi_iload_n 2 (dq dS_writeElement 30 rfl) rfl ?_
            obtain ⟨o17, eo17, ho17, h⟩ := q_o h
            refine zi_rc1 eo17 ?_
            obtain ⟨v18, hv18, h⟩ := q_c h
            refine zi_cVi1 (ST_tagByte (zag_d hL _) ho17 hv18 (d := d - 1) (by omega)) wT_tagByte aS_48 iT_tagByte sT_tagByte (by omega) ((zag_d hL _) _ _ (by decide) ho17).1 rfl (Nat.le_of_ble_eq_true rfl) (dq dS_writeElement 31 rfl) (fun _ _ hh => ?_)
            obtain ⟨rfl, rfl⟩ := hh
            obtain ⟨v19, J20, hv19, h⟩ := q_b h
            refine zi_cVi1 (SS_beginElement hL hv19 (d := d - 1) (by omega)) wS_beginElement aS_52 iS_beginElement sS_beginElement (by omega) (zLs hL 26 rfl) rfl (Nat.le_of_ble_eq_true rfl) (dq dS_writeElement 32 rfl) (fun _ _ hh => ?_)
            obtain ⟨rfl, rfl⟩ := hh
            refine zi_istC (lv' := [(4, _), (0, _), (1, _), (2, _), (3, _)]) (dq dS_writeElement 33 rfl) (by decide) (by simp [z_cr, z_ci]) rfl ?_
            refine zi_aload_n 1 (dq dS_writeElement 34 rfl) rfl ?_
            refine zi_aload_n 2 (dq dS_writeElement 35 rfl) rfl ?_
            refine zi_iload_n 4 (dq dS_writeElement 36 rfl) rfl ?_
            obtain ⟨v21, J22, hv21, h⟩ := q_b h
            refine zi_cVv2 (SS_writeContent hL hrec hv21 (d := d - 1) (by omega)) wS_writeContent aS_55 iS_writeContent sS_writeContent (by omega) (zLs hL 26 rfl) rfl (Nat.le_of_ble_eq_true rfl) (dq dS_writeElement 37 rfl) (fun _ hh => ?_)
            subst hh
            refine zi_aload_n 1 (dq dS_writeElement 38 rfl) rfl ?_
            refine zi_iload 0 (dq dS_writeElement 39 rfl) rfl ?_
            obtain ⟨v23, J24, hv23, h⟩ := q_b h
            refine zi_cVv1 (SS_endElement hL hv23 (d := d - 1) (by omega)) wS_endElement aS_58 iS_endElement sS_endElement (by omega) (zLs hL 26 rfl) rfl (Nat.le_of_ble_eq_true rfl) (dq dS_writeElement 40 rfl) (fun _ hh => ?_)
            subst hh
            refine zi_goto (tgt := 146) (dq dS_writeElement 41 rfl) (by decide) ?_
            exact zi_return rfl (dq dS_writeElement 77 rfl) (q_ru h)
        · have h := q_t c h
          refine zi_aload_n 0 (dq dS_writeElement 19 rfl) rfl ?_
          refine zi_aload_n 1 (dq dS_writeElement 20 rfl) rfl ?_
          refine zi_iload_n 3 (dq dS_writeElement 21 rfl) rfl ?_
          obtain ⟨v25, J26, hv25, h⟩ := q_b h
          refine zi_cVv2 (SS_writeChoice hL hrec hv25 (d := d - 1) (by omega)) wS_writeChoice aS_44 iS_writeChoice sS_writeChoice (by omega) (zLs hL 26 rfl) rfl (Nat.le_of_ble_eq_true rfl) (dq dS_writeElement 22 rfl) (fun _ hh => ?_)
          subst hh
          refine zi_goto (tgt := 146) (dq dS_writeElement 23 rfl) (by decide) ?_
          exact zi_return rfl (dq dS_writeElement 77 rfl) (q_ru h)
      · have h := q_f c h
        refine zi_aload_n 0 (dq dS_writeElement 11 rfl) rfl ?_
        refine zi_iconst (v := 1) (dq dS_writeElement 12 rfl) (by decide) ?_
        refine ri_puti (zLs hL 26 rfl) (by decide) fS_26 (fun h => by cases h) (by decide) (by decide) (dq dS_writeElement 13 rfl) ?_
        exact zi_return rfl (dq dS_writeElement 14 rfl) (q_ru h)
def RS_writeElement (N : Nat) (M0 : zM) : Nat → (Option Nat × Int32 × Int32 × zJ) → Option (Unit × zJ) := qfix (fun rec s => FS_writeElement N M0 rec s.1 s.2.1 s.2.2.1 s.2.2.2)
theorem TS_writeElement {g : zg} {M0 : zM} {A N : Nat} (hL : zLy M0 A dShL dRf)  : ∀ n s r, RS_writeElement N M0 n s = some r → ∀ d, 3 * n ≤ d → zEv g d mS_writeElement [va_rf (some (A + 26)), va_rf s.1, .int s.2.1, .int s.2.2.1] (zmm M0 A 32 s.2.2.2) (fun Mq => Mq = zmm M0 A 32 r.2) := by
  refine qrec_sound (fun n rec hrec s r h d hd => ?_)
  obtain ⟨r1, r2⟩ := r
  exact SS_writeElement (L := 3 * n) hL hrec h (by omega)
def FS_writeAll (N : Nat) (M0 : zM) (l1 : Option Nat) (l2 : Int32) (J : zJ) : Option (Int32 × zJ) :=
  let J1 := zu J 26 2 l2
  let J2 := zu J1 26 3 0
  let J3 := zu J2 26 4 0
  qb (RS_writeElement N M0 8 (l1, ((-1)), 0, J3)) fun v4 J5 =>
  if (J5 26 4) = 0 then
    some ((J5 26 2), J5)
  else
    some (((-1)), J5)
theorem SS_writeAll {g : zg} {d N : Nat} {M0 : zM} {A : Nat} {r : Int32} {J1 : zJ} {J : zJ} {l1 : Option Nat} {l2 : Int32} (hL : zLy M0 A dShL dRf) (h : FS_writeAll N M0 l1 l2 J = some (r, J1)) (hd : 25 ≤ d) : zEi g d mS_writeAll [va_rf (some (A + 26)), va_rf l1, .int l2] (zmm M0 A 32 J) (fun v Mq => v = r ∧ Mq = zmm M0 A 32 J1) := by
  unfold FS_writeAll at h
  refine zEi_q (r := r) (lv := [(0, va_rf (some (A + 26))), (1, va_rf l1), (2, .int l2)]) ⟨by decide +kernel, by decide, by decide +kernel⟩ (by simp [z_cr, z_ci]) (Nat.le_of_ble_eq_true rfl) rfl ?_
  refine zi_aload_n 0 (dq dS_writeAll 0 rfl) rfl ?_
  refine zi_iload_n 2 (dq dS_writeAll 1 rfl) rfl ?_
  refine ri_puti (zLs hL 26 rfl) (by decide) fS_19 (fun h => by cases h) rfl rfl (dq dS_writeAll 2 rfl) ?_
  refine zi_aload_n 0 (dq dS_writeAll 3 rfl) rfl ?_
  refine zi_iconst (v := 0) (dq dS_writeAll 4 rfl) (by decide) ?_
  refine ri_puti (zLs hL 26 rfl) (by decide) fS_23 (fun h => by cases h) rfl rfl (dq dS_writeAll 5 rfl) ?_
  refine zi_aload_n 0 (dq dS_writeAll 6 rfl) rfl ?_
  refine zi_iconst (v := 0) (dq dS_writeAll 7 rfl) (by decide) ?_
  refine ri_puti (zLs hL 26 rfl) (by decide) fS_26 (fun h => by cases h) (by decide) (by decide) (dq dS_writeAll 8 rfl) ?_
  refine zi_aload_n 0 (dq dS_writeAll 9 rfl) rfl ?_
  refine zi_aload_n 1 (dq dS_writeAll 10 rfl) rfl ?_
  refine zi_iconst (v := (-1)) (dq dS_writeAll 11 rfl) (by decide) ?_
  refine zi_iconst (v := 0) (dq dS_writeAll 12 rfl) (by decide) ?_
  obtain ⟨v4, J5, hv4, h⟩ := q_b h
  refine zi_cVv3 (TS_writeElement hL 8 _ _ hv4 (d - 1) (by omega)) wS_writeElement aS_30 iS_writeElement sS_writeElement (by omega) (zLs hL 26 rfl) rfl (Nat.le_of_ble_eq_true rfl) (dq dS_writeAll 13 rfl) (fun _ hh => ?_)
  subst hh
  refine zi_aload_n 0 (dq dS_writeAll 14 rfl) rfl ?_
  refine ri_geti (zLs hL 26 rfl) (by decide) fS_26 (dq dS_writeAll 15 rfl) ?_
  refine zi_if_eq (tgt := 33) (dq dS_writeAll 16 rfl) (by decide) (fun c => ?_) (fun c => ?_)
  · have h := q_t c h
    refine zi_aload_n 0 (dq dS_writeAll 19 rfl) rfl ?_
    refine ri_geti (zLs hL 26 rfl) (by decide) fS_19 (dq dS_writeAll 20 rfl) ?_
    exact zi_ireturn rfl rfl (dq dS_writeAll 21 rfl) (q_ri h)
  · have h := q_f c h
    refine zi_iconst (v := (-1)) (dq dS_writeAll 17 rfl) (by decide) ?_
    refine zi_goto (tgt := 37) (dq dS_writeAll 18 rfl) (by decide) ?_
    exact zi_ireturn rfl rfl (dq dS_writeAll 21 rfl) (q_ri h)
