/-! THE CLASS AS FUNCTIONS, 0 (tools/genC.py) -/
def FK_tags (N : Nat) (M0 : zM) (o : Nat)  : Option (Int32) :=
  if (zr M0 o 0) = none then
    some 0
  else
    qo (zr M0 o 0) M0 6 fun o1 =>
    some ((zi M0 o1 6))
theorem SK_tags {g : zg} {d N : Nat} {M0 M : zM} {r : Int32} {o : Nat} (hg : zag M0 M) (hs0 : zsh M0 o = some (.inl 1)) (h : FK_tags N M0 o = some r) (hd : 0 ≤ d) : zEi g d mK_tags [va_rf (some o)] (M) (fun v Mq => v = r ∧ Mq = M) := by
  unfold FK_tags at h
  refine zEi_q (r := r) (lv := [(0, va_rf (some o))]) ⟨by decide +kernel, by decide, by decide +kernel⟩ (by simp [z_cr, z_ci]) (Nat.le_of_ble_eq_true rfl) rfl ?_
  refine zi_aload_n 0 (dq dK_tags 0 rfl) rfl ?_
  refine ti_getr hg hs0 (by decide) fK_9 (dq dK_tags 1 rfl) ?_
  refine zi_ifnonnull (tgt := 11) (dq dK_tags 2 rfl) (by decide) (fun _ c => ?_) (fun c => ?_)
  · have h := q_f (by rw [c]; exact nofun) h
    refine zi_aload_n 0 (dq dK_tags 5 rfl) rfl ?_
    refine ti_getr hg hs0 (by decide) fK_9 (dq dK_tags 6 rfl) ?_
    obtain ⟨o1, eo1, ho1, h⟩ := q_o h
    refine zi_rc0 eo1 ?_
    refine ti_geti hg ho1 (by decide) fK_32 (dq dK_tags 7 rfl) ?_
    exact zi_ireturn rfl rfl (dq dK_tags 8 rfl) (q_riT h)
  · have h := q_t c h
    refine zi_iconst (v := 0) (dq dK_tags 3 rfl) (by decide) ?_
    refine zi_goto (tgt := 18) (dq dK_tags 4 rfl) (by decide) ?_
    exact zi_ireturn rfl rfl (dq dK_tags 8 rfl) (q_riT h)
def FC_alternativesClash_7 (N : Nat) (M0 : zM) (K7 : (Int32 × Option Nat) → Option (Bool)) (s : Int32 × Option Nat) : Option (Bool) :=
  let l1 := s.1
  let l2 := s.2
  if l2 = none then
    some false
  else
    qo l2 M0 1 fun o1 =>
    qc (FK_tags N M0 o1) fun v2 =>
    if (l1 &&& v2) = 0 then
      qo l2 M0 1 fun o3 =>
      qc (FK_tags N M0 o3) fun v4 =>
      let y5 := l1 ||| v4
      qo l2 M0 1 fun o6 =>
      let y7 := zr M0 o6 5
      K7 (y5, y7)
    else
      some true
theorem SC_alternativesClash_7 {g : zg} {d N : Nat} {M0 M : zM} {r : Bool}   (hg : zag M0 M) (hd : 1 ≤ d)  : ∀ n s, qfix (FC_alternativesClash_7 N M0) n s = some r → zG g d mC_alternativesClash (zPq (rB r) (M)) (M) 7 [(1, .int s.1), (2, va_rf s.2)] [] := by
  refine qfix_sound (fun K7 hK7 s h => ?_)
  unfold FC_alternativesClash_7 at h
  refine zi_aload_n 1 (dq dC_alternativesClash 5 rfl) rfl ?_
  refine zi_ifnull (tgt := 37) (dq dC_alternativesClash 6 rfl) (by decide) (fun c => ?_) (fun _ c => ?_)
  · have h := q_t c h
    refine zi_iconst (v := 0) (dq dC_alternativesClash 23 rfl) (by decide) ?_
    exact zi_ireturn rfl (by decide) (dq dC_alternativesClash 24 rfl) (q_rbT (b := false) h)
  · have h := q_f (by rw [c]; exact nofun) h
    refine zi_iload_n 0 (dq dC_alternativesClash 7 rfl) rfl ?_
    refine zi_aload_n 1 (dq dC_alternativesClash 8 rfl) rfl ?_
    obtain ⟨o1, eo1, ho1, h⟩ := q_o h
    refine zi_rc0 eo1 ?_
    obtain ⟨v2, hv2, h⟩ := q_c h
    refine zi_cVi0 (SK_tags hg ho1 hv2 (d := d - 1) (by omega)) wK_tags aC_197 iK_tags sK_tags (by omega) (hg _ _ (by decide) ho1).1 rfl (Nat.le_of_ble_eq_true rfl) (dq dC_alternativesClash 9 rfl) (fun _ _ hh => ?_)
    obtain ⟨rfl, rfl⟩ := hh
    refine zi_iand (dq dC_alternativesClash 10 rfl) ?_
    refine zi_if_eq (tgt := 22) (dq dC_alternativesClash 11 rfl) (by decide) (fun c => ?_) (fun c => ?_)
    · have h := q_t c h
      refine zi_iload_n 0 (dq dC_alternativesClash 14 rfl) rfl ?_
      refine zi_aload_n 1 (dq dC_alternativesClash 15 rfl) rfl ?_
      obtain ⟨o3, eo3, ho3, h⟩ := q_o h
      refine zi_rc0 eo3 ?_
      obtain ⟨v4, hv4, h⟩ := q_c h
      refine zi_cVi0 (SK_tags hg ho3 hv4 (d := d - 1) (by omega)) wK_tags aC_197 iK_tags sK_tags (by omega) (hg _ _ (by decide) ho3).1 rfl (Nat.le_of_ble_eq_true rfl) (dq dC_alternativesClash 16 rfl) (fun _ _ hh => ?_)
      obtain ⟨rfl, rfl⟩ := hh
      refine zi_ior (dq dC_alternativesClash 17 rfl) ?_
      refine zi_istC_n (lv' := [(1, _), (2, _)]) (dq dC_alternativesClash 18 rfl) (by decide) (by simp [z_cr, z_ci]) rfl ?_
      refine zi_aload_n 1 (dq dC_alternativesClash 19 rfl) rfl ?_
      obtain ⟨o6, eo6, ho6, h⟩ := q_o h
      refine zi_rc0 eo6 ?_
      refine ti_getr hg ho6 (by decide) fC_200 (dq dC_alternativesClash 20 rfl) ?_
      refine zi_astC_n (lv' := [(2, _), (1, _)]) (dq dC_alternativesClash 21 rfl) (by decide) (by simp [z_cr, z_ci]) rfl ?_
      refine zi_goto (tgt := 7) (dq dC_alternativesClash 22 rfl) (by decide) ?_
      exact zG_lv (zs_c 1 rfl (zs_c 0 rfl zs_n)) (hK7 _ h)
    · have h := q_f c h
      refine zi_iconst (v := 1) (dq dC_alternativesClash 12 rfl) (by decide) ?_
      exact zi_ireturn rfl (by decide) (dq dC_alternativesClash 13 rfl) (q_rbT (b := true) h)
def FC_alternativesClash (N : Nat) (M0 : zM) (l0 : Option Nat)  : Option (Bool) :=
  qo l0 M0 6 fun o1 =>
  let y2 := zr M0 o1 10
  qfix (FC_alternativesClash_7 N M0) N (0, y2)
theorem SC_alternativesClash {g : zg} {d N : Nat} {M0 M : zM} {r : Bool} {l0 : Option Nat} (hg : zag M0 M) (h : FC_alternativesClash N M0 l0 = some r) (hd : 1 ≤ d) : zEi g d mC_alternativesClash [va_rf l0] (M) (fun v Mq => v = bI r ∧ Mq = M) := by
  unfold FC_alternativesClash at h
  refine zEb_q (r := r) (lv := [(0, va_rf l0)]) ⟨by decide +kernel, by decide, by decide +kernel⟩ (by simp [z_cr, z_ci]) (Nat.le_of_ble_eq_true rfl) rfl ?_
  refine zi_iconst (v := 0) (dq dC_alternativesClash 0 rfl) (by decide) ?_
  refine zi_istC_n (lv' := [(1, _), (0, _)]) (dq dC_alternativesClash 1 rfl) (by decide) (by simp [z_cr, z_ci]) rfl ?_
  refine zi_aload_n 1 (dq dC_alternativesClash 2 rfl) rfl ?_
  obtain ⟨o1, eo1, ho1, h⟩ := q_o h
  refine zi_rc0 eo1 ?_
  refine ti_getr hg ho1 (by decide) fC_193 (dq dC_alternativesClash 3 rfl) ?_
  refine zi_astC_n (lv' := [(2, _), (1, _), (0, _)]) (dq dC_alternativesClash 4 rfl) (by decide) (by simp [z_cr, z_ci]) rfl ?_
  exact zG_lv (zs_c 1 rfl (zs_c 0 rfl zs_n)) (SC_alternativesClash_7 hg hd  _ _ h)
def FC_areBounds (N : Nat) (M0 : zM) (l0 : Option Nat)  : Option (Bool) :=
  qo l0 M0 6 fun o1 =>
  qo l0 M0 6 fun o2 =>
  if (zi M0 o1 2) ≤ (zi M0 o2 3) then
    qo l0 M0 6 fun o3 =>
    if (zi M0 o3 0) = 2 then
      qo l0 M0 6 fun o6 =>
      qo l0 M0 6 fun o7 =>
      if 65536 ≤ ((zi M0 o6 3) - (zi M0 o7 2)) then
        some false
      else
        some true
    else
      qo l0 M0 6 fun o4 =>
      if (zi M0 o4 2) < 0 then
        some false
      else
        qo l0 M0 6 fun o5 =>
        if 20 < (zi M0 o5 3) then
          some false
        else
          some true
  else
    some false
theorem SC_areBounds {g : zg} {d N : Nat} {M0 M : zM} {r : Bool} {l0 : Option Nat} (hg : zag M0 M) (h : FC_areBounds N M0 l0 = some r) (hd : 0 ≤ d) : zEi g d mC_areBounds [va_rf l0] (M) (fun v Mq => v = bI r ∧ Mq = M) := by
  unfold FC_areBounds at h
  refine zEb_q (r := r) (lv := [(0, va_rf l0)]) ⟨by decide +kernel, by decide, by decide +kernel⟩ (by simp [z_cr, z_ci]) (Nat.le_of_ble_eq_true rfl) rfl ?_
  refine zi_aload_n 0 (dq dC_areBounds 0 rfl) rfl ?_
  obtain ⟨o1, eo1, ho1, h⟩ := q_o h
  refine zi_rc0 eo1 ?_
  refine ti_geti hg ho1 (by decide) fC_136 (dq dC_areBounds 1 rfl) ?_
  refine zi_aload_n 0 (dq dC_areBounds 2 rfl) rfl ?_
  obtain ⟨o2, eo2, ho2, h⟩ := q_o h
  refine zi_rc0 eo2 ?_
  refine ti_geti hg ho2 (by decide) fC_139 (dq dC_areBounds 3 rfl) ?_
  refine zi_icmp_le (tgt := 13) (dq dC_areBounds 4 rfl) (by decide) (fun c => ?_) (fun c => ?_)
  · have h := q_t c h
    refine zi_aload_n 0 (dq dC_areBounds 7 rfl) rfl ?_
    obtain ⟨o3, eo3, ho3, h⟩ := q_o h
    refine zi_rc0 eo3 ?_
    refine ti_geti hg ho3 (by decide) fC_86 (dq dC_areBounds 8 rfl) ?_
    refine zi_iconst (v := 2) (dq dC_areBounds 9 rfl) (by decide) ?_
    refine zi_icmp_ne (tgt := 41) (dq dC_areBounds 10 rfl) (by decide) (fun c => ?_) (fun c => ?_)
    · have h := q_f c h
      refine zi_aload_n 0 (dq dC_areBounds 22 rfl) rfl ?_
      obtain ⟨o4, eo4, ho4, h⟩ := q_o h
      refine zi_rc0 eo4 ?_
      refine ti_geti hg ho4 (by decide) fC_136 (dq dC_areBounds 23 rfl) ?_
      refine zi_if_lt (tgt := 61) (dq dC_areBounds 24 rfl) (by decide) (fun c => ?_) (fun c => ?_)
      · have h := q_t c h
        refine zi_iconst (v := 0) (dq dC_areBounds 31 rfl) (by decide) ?_
        exact zi_ireturn rfl (by decide) (dq dC_areBounds 32 rfl) (q_rbT (b := false) h)
      · have h := q_f c h
        refine zi_aload_n 0 (dq dC_areBounds 25 rfl) rfl ?_
        obtain ⟨o5, eo5, ho5, h⟩ := q_o h
        refine zi_rc0 eo5 ?_
        refine ti_geti hg ho5 (by decide) fC_139 (dq dC_areBounds 26 rfl) ?_
        refine zi_bipush (v := 20) (dq dC_areBounds 27 rfl) (by decide) ?_
        refine zi_icmp_gt (tgt := 61) (dq dC_areBounds 28 rfl) (by decide) (fun c => ?_) (fun c => ?_)
        · have h := q_t c h
          refine zi_iconst (v := 0) (dq dC_areBounds 31 rfl) (by decide) ?_
          exact zi_ireturn rfl (by decide) (dq dC_areBounds 32 rfl) (q_rbT (b := false) h)
        · have h := q_f c h
          refine zi_iconst (v := 1) (dq dC_areBounds 29 rfl) (by decide) ?_
          refine zi_goto (tgt := 62) (dq dC_areBounds 30 rfl) (by decide) ?_
          exact zi_ireturn rfl (by decide) (dq dC_areBounds 32 rfl) (q_rbT (b := true) h)
    · have h := q_t c h
      refine zi_aload_n 0 (dq dC_areBounds 11 rfl) rfl ?_
      obtain ⟨o6, eo6, ho6, h⟩ := q_o h
      refine zi_rc0 eo6 ?_
      refine ti_geti hg ho6 (by decide) fC_139 (dq dC_areBounds 12 rfl) ?_
      refine zi_aload_n 0 (dq dC_areBounds 13 rfl) rfl ?_
      obtain ⟨o7, eo7, ho7, h⟩ := q_o h
      refine zi_rc0 eo7 ?_
      refine ti_geti hg ho7 (by decide) fC_136 (dq dC_areBounds 14 rfl) ?_
      refine zi_isub (dq dC_areBounds 15 rfl) ?_
      refine zi_ldc (v := 65536) cC_148 (dq dC_areBounds 16 rfl) ?_
      refine zi_icmp_ge (tgt := 39) (dq dC_areBounds 17 rfl) (by decide) (fun c => ?_) (fun c => ?_)
      · have h := q_t c h
        refine zi_iconst (v := 0) (dq dC_areBounds 20 rfl) (by decide) ?_
        exact zi_ireturn rfl (by decide) (dq dC_areBounds 21 rfl) (q_rbT (b := false) h)
      · have h := q_f c h
        refine zi_iconst (v := 1) (dq dC_areBounds 18 rfl) (by decide) ?_
        refine zi_goto (tgt := 40) (dq dC_areBounds 19 rfl) (by decide) ?_
        exact zi_ireturn rfl (by decide) (dq dC_areBounds 21 rfl) (q_rbT (b := true) h)
  · have h := q_f c h
    refine zi_iconst (v := 0) (dq dC_areBounds 5 rfl) (by decide) ?_
    exact zi_ireturn rfl (by decide) (dq dC_areBounds 6 rfl) (q_rbT (b := false) h)
def FC_componentsClash_7 (N : Nat) (M0 : zM) (K7 : (Int32 × Option Nat) → Option (Bool)) (s : Int32 × Option Nat) : Option (Bool) :=
  let l1 := s.1
  let l2 := s.2
  if l2 = none then
    some false
  else
    qo l2 M0 1 fun o1 =>
    qc (FK_tags N M0 o1) fun v2 =>
    if (l1 &&& v2) = 0 then
      qo l2 M0 1 fun o3 =>
      if (zi M0 o3 2) = 0 then
        qo l2 M0 1 fun o9 =>
        let y10 := zr M0 o9 5
        K7 (0, y10)
      else
        qo l2 M0 1 fun o4 =>
        qc (FK_tags N M0 o4) fun v5 =>
        let y6 := l1 ||| v5
        qo l2 M0 1 fun o7 =>
        let y8 := zr M0 o7 5
        K7 (y6, y8)
    else
      some true
theorem SC_componentsClash_7 {g : zg} {d N : Nat} {M0 M : zM} {r : Bool}   (hg : zag M0 M) (hd : 1 ≤ d)  : ∀ n s, qfix (FC_componentsClash_7 N M0) n s = some r → zG g d mC_componentsClash (zPq (rB r) (M)) (M) 7 [(1, .int s.1), (2, va_rf s.2)] [] := by
  refine qfix_sound (fun K7 hK7 s h => ?_)
  unfold FC_componentsClash_7 at h
  refine zi_aload_n 1 (dq dC_componentsClash 5 rfl) rfl ?_
  refine zi_ifnull (tgt := 48) (dq dC_componentsClash 6 rfl) (by decide) (fun c => ?_) (fun _ c => ?_)
  · have h := q_t c h
    refine zi_iconst (v := 0) (dq dC_componentsClash 28 rfl) (by decide) ?_
    exact zi_ireturn rfl (by decide) (dq dC_componentsClash 29 rfl) (q_rbT (b := false) h)
  · have h := q_f (by rw [c]; exact nofun) h
    refine zi_iload_n 0 (dq dC_componentsClash 7 rfl) rfl ?_
    refine zi_aload_n 1 (dq dC_componentsClash 8 rfl) rfl ?_
    obtain ⟨o1, eo1, ho1, h⟩ := q_o h
    refine zi_rc0 eo1 ?_
    obtain ⟨v2, hv2, h⟩ := q_c h
    refine zi_cVi0 (SK_tags hg ho1 hv2 (d := d - 1) (by omega)) wK_tags aC_197 iK_tags sK_tags (by omega) (hg _ _ (by decide) ho1).1 rfl (Nat.le_of_ble_eq_true rfl) (dq dC_componentsClash 9 rfl) (fun _ _ hh => ?_)
    obtain ⟨rfl, rfl⟩ := hh
    refine zi_iand (dq dC_componentsClash 10 rfl) ?_
    refine zi_if_eq (tgt := 22) (dq dC_componentsClash 11 rfl) (by decide) (fun c => ?_) (fun c => ?_)
    · have h := q_t c h
      refine zi_aload_n 1 (dq dC_componentsClash 14 rfl) rfl ?_
      obtain ⟨o3, eo3, ho3, h⟩ := q_o h
      refine zi_rc0 eo3 ?_
      refine ti_geti hg ho3 (by decide) fC_173 (dq dC_componentsClash 15 rfl) ?_
      refine zi_if_ne (tgt := 33) (dq dC_componentsClash 16 rfl) (by decide) (fun c => ?_) (fun c => ?_)
      · have h := q_f c h
        refine zi_iload_n 0 (dq dC_componentsClash 19 rfl) rfl ?_
        refine zi_aload_n 1 (dq dC_componentsClash 20 rfl) rfl ?_
        obtain ⟨o4, eo4, ho4, h⟩ := q_o h
        refine zi_rc0 eo4 ?_
        obtain ⟨v5, hv5, h⟩ := q_c h
        refine zi_cVi0 (SK_tags hg ho4 hv5 (d := d - 1) (by omega)) wK_tags aC_197 iK_tags sK_tags (by omega) (hg _ _ (by decide) ho4).1 rfl (Nat.le_of_ble_eq_true rfl) (dq dC_componentsClash 21 rfl) (fun _ _ hh => ?_)
        obtain ⟨rfl, rfl⟩ := hh
        refine zi_ior (dq dC_componentsClash 22 rfl) ?_
        refine zi_istC_n (lv' := [(1, _), (2, _)]) (dq dC_componentsClash 23 rfl) (by decide) (by simp [z_cr, z_ci]) rfl ?_
        refine zi_aload_n 1 (dq dC_componentsClash 24 rfl) rfl ?_
        obtain ⟨o7, eo7, ho7, h⟩ := q_o h
        refine zi_rc0 eo7 ?_
        refine ti_getr hg ho7 (by decide) fC_200 (dq dC_componentsClash 25 rfl) ?_
        refine zi_astC_n (lv' := [(2, _), (1, _)]) (dq dC_componentsClash 26 rfl) (by decide) (by simp [z_cr, z_ci]) rfl ?_
        refine zi_goto (tgt := 7) (dq dC_componentsClash 27 rfl) (by decide) ?_
        exact zG_lv (zs_c 1 rfl (zs_c 0 rfl zs_n)) (hK7 _ h)
      · have h := q_t c h
        refine zi_iconst (v := 0) (dq dC_componentsClash 17 rfl) (by decide) ?_
        refine zi_goto (tgt := 39) (dq dC_componentsClash 18 rfl) (by decide) ?_
        refine zi_istC_n (lv' := [(1, _), (2, _)]) (dq dC_componentsClash 23 rfl) (by decide) (by simp [z_cr, z_ci]) rfl ?_
        refine zi_aload_n 1 (dq dC_componentsClash 24 rfl) rfl ?_
        obtain ⟨o9, eo9, ho9, h⟩ := q_o h
        refine zi_rc0 eo9 ?_
        refine ti_getr hg ho9 (by decide) fC_200 (dq dC_componentsClash 25 rfl) ?_
        refine zi_astC_n (lv' := [(2, _), (1, _)]) (dq dC_componentsClash 26 rfl) (by decide) (by simp [z_cr, z_ci]) rfl ?_
        refine zi_goto (tgt := 7) (dq dC_componentsClash 27 rfl) (by decide) ?_
        exact zG_lv (zs_c 1 rfl (zs_c 0 rfl zs_n)) (hK7 _ h)
    · have h := q_f c h
      refine zi_iconst (v := 1) (dq dC_componentsClash 12 rfl) (by decide) ?_
      exact zi_ireturn rfl (by decide) (dq dC_componentsClash 13 rfl) (q_rbT (b := true) h)
def FC_componentsClash (N : Nat) (M0 : zM) (l0 : Option Nat)  : Option (Bool) :=
  qo l0 M0 6 fun o1 =>
  let y2 := zr M0 o1 10
  qfix (FC_componentsClash_7 N M0) N (0, y2)
theorem SC_componentsClash {g : zg} {d N : Nat} {M0 M : zM} {r : Bool} {l0 : Option Nat} (hg : zag M0 M) (h : FC_componentsClash N M0 l0 = some r) (hd : 1 ≤ d) : zEi g d mC_componentsClash [va_rf l0] (M) (fun v Mq => v = bI r ∧ Mq = M) := by
  unfold FC_componentsClash at h
  refine zEb_q (r := r) (lv := [(0, va_rf l0)]) ⟨by decide +kernel, by decide, by decide +kernel⟩ (by simp [z_cr, z_ci]) (Nat.le_of_ble_eq_true rfl) rfl ?_
  refine zi_iconst (v := 0) (dq dC_componentsClash 0 rfl) (by decide) ?_
  refine zi_istC_n (lv' := [(1, _), (0, _)]) (dq dC_componentsClash 1 rfl) (by decide) (by simp [z_cr, z_ci]) rfl ?_
  refine zi_aload_n 1 (dq dC_componentsClash 2 rfl) rfl ?_
  obtain ⟨o1, eo1, ho1, h⟩ := q_o h
  refine zi_rc0 eo1 ?_
  refine ti_getr hg ho1 (by decide) fC_193 (dq dC_componentsClash 3 rfl) ?_
  refine zi_astC_n (lv' := [(2, _), (1, _), (0, _)]) (dq dC_componentsClash 4 rfl) (by decide) (by simp [z_cr, z_ci]) rfl ?_
  exact zG_lv (zs_c 1 rfl (zs_c 0 rfl zs_n)) (SC_componentsClash_7 hg hd  _ _ h)
def FT_allows (N : Nat) (M0 : zM) (o : Nat) (l1 : Int32)  : Option (Bool) :=
  if (zi M0 o 1) = 0 then
    some true
  else
    if l1 < (zi M0 o 2) then
      some false
    else
      if (zi M0 o 3) < l1 then
        some false
      else
        some true
theorem ST_allows {g : zg} {d N : Nat} {M0 M : zM} {r : Bool} {o : Nat} {l1 : Int32} (hg : zag M0 M) (hs0 : zsh M0 o = some (.inl 6)) (h : FT_allows N M0 o l1 = some r) (hd : 0 ≤ d) : zEi g d mT_allows [va_rf (some o), .int l1] (M) (fun v Mq => v = bI r ∧ Mq = M) := by
  unfold FT_allows at h
  refine zEb_q (r := r) (lv := [(0, va_rf (some o)), (1, .int l1)]) ⟨by decide +kernel, by decide, by decide +kernel⟩ (by simp [z_cr, z_ci]) (Nat.le_of_ble_eq_true rfl) rfl ?_
  refine zi_aload_n 0 (dq dT_allows 0 rfl) rfl ?_
  refine ti_geti hg hs0 (by decide) fT_15 (dq dT_allows 1 rfl) ?_
  refine zi_if_eq (tgt := 23) (dq dT_allows 2 rfl) (by decide) (fun c => ?_) (fun c => ?_)
  · have h := q_t c h
    refine zi_iconst (v := 1) (dq dT_allows 11 rfl) (by decide) ?_
    refine zi_goto (tgt := 28) (dq dT_allows 12 rfl) (by decide) ?_
    exact zi_ireturn rfl (by decide) (dq dT_allows 14 rfl) (q_rbT (b := true) h)
  · have h := q_f c h
    refine zi_iload_n 1 (dq dT_allows 3 rfl) rfl ?_
    refine zi_aload_n 0 (dq dT_allows 4 rfl) rfl ?_
    refine ti_geti hg hs0 (by decide) fT_19 (dq dT_allows 5 rfl) ?_
    refine zi_icmp_lt (tgt := 27) (dq dT_allows 6 rfl) (by decide) (fun c => ?_) (fun c => ?_)
    · have h := q_t c h
      refine zi_iconst (v := 0) (dq dT_allows 13 rfl) (by decide) ?_
      exact zi_ireturn rfl (by decide) (dq dT_allows 14 rfl) (q_rbT (b := false) h)
    · have h := q_f c h
      refine zi_iload_n 1 (dq dT_allows 7 rfl) rfl ?_
      refine zi_aload_n 0 (dq dT_allows 8 rfl) rfl ?_
      refine ti_geti hg hs0 (by decide) fT_22 (dq dT_allows 9 rfl) ?_
      refine zi_icmp_gt (tgt := 27) (dq dT_allows 10 rfl) (by decide) (fun c => ?_) (fun c => ?_)
      · have h := q_t c h
        refine zi_iconst (v := 0) (dq dT_allows 13 rfl) (by decide) ?_
        exact zi_ireturn rfl (by decide) (dq dT_allows 14 rfl) (q_rbT (b := false) h)
      · have h := q_f c h
        refine zi_iconst (v := 1) (dq dT_allows 11 rfl) (by decide) ?_
        refine zi_goto (tgt := 28) (dq dT_allows 12 rfl) (by decide) ?_
        exact zi_ireturn rfl (by decide) (dq dT_allows 14 rfl) (q_rbT (b := true) h)
def FC_isDefault (N : Nat) (M0 : zM) (l0 : Option Nat) (l1 : Int32)  : Option (Bool) :=
  qo l0 M0 6 fun o1 =>
  if (zi M0 o1 0) = 1 then
    if l1 = 0 then
      some true
    else
      if l1 = 1 then
        some true
      else
        some false
  else
    qo l0 M0 6 fun o2 =>
    if (zi M0 o2 0) = 2 then
      qo l0 M0 6 fun o3 =>
      qc (FT_allows N M0 o3 l1) fun v4 =>
      if (bI v4) = 0 then
        some false
      else
        some true
    else
      some false
theorem SC_isDefault {g : zg} {d N : Nat} {M0 M : zM} {r : Bool} {l0 : Option Nat} {l1 : Int32} (hg : zag M0 M) (h : FC_isDefault N M0 l0 l1 = some r) (hd : 1 ≤ d) : zEi g d mC_isDefault [va_rf l0, .int l1] (M) (fun v Mq => v = bI r ∧ Mq = M) := by
  unfold FC_isDefault at h
  refine zEb_q (r := r) (lv := [(0, va_rf l0), (1, .int l1)]) ⟨by decide +kernel, by decide, by decide +kernel⟩ (by simp [z_cr, z_ci]) (Nat.le_of_ble_eq_true rfl) rfl ?_
  refine zi_aload_n 0 (dq dC_isDefault 0 rfl) rfl ?_
  obtain ⟨o1, eo1, ho1, h⟩ := q_o h
  refine zi_rc0 eo1 ?_
  refine ti_geti hg ho1 (by decide) fC_86 (dq dC_isDefault 1 rfl) ?_
  refine zi_iconst (v := 1) (dq dC_isDefault 2 rfl) (by decide) ?_
  refine zi_icmp_ne (tgt := 23) (dq dC_isDefault 3 rfl) (by decide) (fun c => ?_) (fun c => ?_)
  · have h := q_f c h
    refine zi_aload_n 0 (dq dC_isDefault 13 rfl) rfl ?_
    obtain ⟨o2, eo2, ho2, h⟩ := q_o h
    refine zi_rc0 eo2 ?_
    refine ti_geti hg ho2 (by decide) fC_86 (dq dC_isDefault 14 rfl) ?_
    refine zi_iconst (v := 2) (dq dC_isDefault 15 rfl) (by decide) ?_
    refine zi_icmp_ne (tgt := 43) (dq dC_isDefault 16 rfl) (by decide) (fun c => ?_) (fun c => ?_)
    · have h := q_f c h
      refine zi_iconst (v := 0) (dq dC_isDefault 23 rfl) (by decide) ?_
      exact zi_ireturn rfl (by decide) (dq dC_isDefault 24 rfl) (q_rbT (b := false) h)
    · have h := q_t c h
      refine zi_aload_n 0 (dq dC_isDefault 17 rfl) rfl ?_
      refine zi_iload_n 1 (dq dC_isDefault 18 rfl) rfl ?_
      obtain ⟨o3, eo3, ho3, h⟩ := q_o h
      refine zi_rc1 eo3 ?_
      obtain ⟨v4, hv4, h⟩ := q_c h
      refine zi_cVi1 (ST_allows hg ho3 hv4 (d := d - 1) (by omega)) wT_allows aC_180 iT_allows sT_allows (by omega) (hg _ _ (by decide) ho3).1 rfl (Nat.le_of_ble_eq_true rfl) (dq dC_isDefault 19 rfl) (fun _ _ hh => ?_)
      obtain ⟨rfl, rfl⟩ := hh
      refine zi_if_eq (tgt := 43) (dq dC_isDefault 20 rfl) (by decide) (fun c => ?_) (fun c => ?_)
      · have h := q_t c h
        refine zi_iconst (v := 0) (dq dC_isDefault 23 rfl) (by decide) ?_
        exact zi_ireturn rfl (by decide) (dq dC_isDefault 24 rfl) (q_rbT (b := false) h)
      · have h := q_f c h
        refine zi_iconst (v := 1) (dq dC_isDefault 21 rfl) (by decide) ?_
        refine zi_goto (tgt := 44) (dq dC_isDefault 22 rfl) (by decide) ?_
        exact zi_ireturn rfl (by decide) (dq dC_isDefault 24 rfl) (q_rbT (b := true) h)
  · have h := q_t c h
    refine zi_iload_n 1 (dq dC_isDefault 4 rfl) rfl ?_
    refine zi_if_eq (tgt := 17) (dq dC_isDefault 5 rfl) (by decide) (fun c => ?_) (fun c => ?_)
    · have h := q_t c h
      refine zi_iconst (v := 1) (dq dC_isDefault 9 rfl) (by decide) ?_
      refine zi_goto (tgt := 22) (dq dC_isDefault 10 rfl) (by decide) ?_
      exact zi_ireturn rfl (by decide) (dq dC_isDefault 12 rfl) (q_rbT (b := true) h)
    · have h := q_f c h
      refine zi_iload_n 1 (dq dC_isDefault 6 rfl) rfl ?_
      refine zi_iconst (v := 1) (dq dC_isDefault 7 rfl) (by decide) ?_
      refine zi_icmp_ne (tgt := 21) (dq dC_isDefault 8 rfl) (by decide) (fun c => ?_) (fun c => ?_)
      · have h := q_f c h
        refine zi_iconst (v := 0) (dq dC_isDefault 11 rfl) (by decide) ?_
        exact zi_ireturn rfl (by decide) (dq dC_isDefault 12 rfl) (q_rbT (b := false) h)
      · have h := q_t c h
        refine zi_iconst (v := 1) (dq dC_isDefault 9 rfl) (by decide) ?_
        refine zi_goto (tgt := 22) (dq dC_isDefault 10 rfl) (by decide) ?_
        exact zi_ireturn rfl (by decide) (dq dC_isDefault 12 rfl) (q_rbT (b := true) h)
def FC_isDigit (N : Nat) (l0 : Int32)  : Option (Bool) :=
  if l0 < 48 then
    some false
  else
    if 57 < l0 then
      some false
    else
      some true
theorem SC_isDigit {g : zg} {d N : Nat} {M : zM} {r : Bool} {l0 : Int32}  (h : FC_isDigit N l0 = some r) (hd : 0 ≤ d) : zEi g d mC_isDigit [.int l0] (M) (fun v Mq => v = bI r ∧ Mq = M) := by
  unfold FC_isDigit at h
  refine zEb_q (r := r) (lv := [(0, .int l0)]) ⟨by decide +kernel, by decide, by decide +kernel⟩ (by simp [z_cr, z_ci]) (Nat.le_of_ble_eq_true rfl) rfl ?_
  refine zi_iload_n 0 (dq dC_isDigit 0 rfl) rfl ?_
  refine zi_bipush (v := 48) (dq dC_isDigit 1 rfl) (by decide) ?_
  refine zi_icmp_lt (tgt := 16) (dq dC_isDigit 2 rfl) (by decide) (fun c => ?_) (fun c => ?_)
  · have h := q_t c h
    refine zi_iconst (v := 0) (dq dC_isDigit 8 rfl) (by decide) ?_
    exact zi_ireturn rfl (by decide) (dq dC_isDigit 9 rfl) (q_rbT (b := false) h)
  · have h := q_f c h
    refine zi_iload_n 0 (dq dC_isDigit 3 rfl) rfl ?_
    refine zi_bipush (v := 57) (dq dC_isDigit 4 rfl) (by decide) ?_
    refine zi_icmp_gt (tgt := 16) (dq dC_isDigit 5 rfl) (by decide) (fun c => ?_) (fun c => ?_)
    · have h := q_t c h
      refine zi_iconst (v := 0) (dq dC_isDigit 8 rfl) (by decide) ?_
      exact zi_ireturn rfl (by decide) (dq dC_isDigit 9 rfl) (q_rbT (b := false) h)
    · have h := q_f c h
      refine zi_iconst (v := 1) (dq dC_isDigit 6 rfl) (by decide) ?_
      refine zi_goto (tgt := 17) (dq dC_isDigit 7 rfl) (by decide) ?_
      exact zi_ireturn rfl (by decide) (dq dC_isDigit 9 rfl) (q_rbT (b := true) h)
def FC_isName (N : Nat) (l0 : Int32)  : Option (Bool) :=
  if l0 < 65 then
    some false
  else
    if 90 < l0 then
      some false
    else
      some true
theorem SC_isName {g : zg} {d N : Nat} {M : zM} {r : Bool} {l0 : Int32}  (h : FC_isName N l0 = some r) (hd : 0 ≤ d) : zEi g d mC_isName [.int l0] (M) (fun v Mq => v = bI r ∧ Mq = M) := by
  unfold FC_isName at h
  refine zEb_q (r := r) (lv := [(0, .int l0)]) ⟨by decide +kernel, by decide, by decide +kernel⟩ (by simp [z_cr, z_ci]) (Nat.le_of_ble_eq_true rfl) rfl ?_
  refine zi_iload_n 0 (dq dC_isName 0 rfl) rfl ?_
  refine zi_bipush (v := 65) (dq dC_isName 1 rfl) (by decide) ?_
  refine zi_icmp_lt (tgt := 16) (dq dC_isName 2 rfl) (by decide) (fun c => ?_) (fun c => ?_)
  · have h := q_t c h
    refine zi_iconst (v := 0) (dq dC_isName 8 rfl) (by decide) ?_
    exact zi_ireturn rfl (by decide) (dq dC_isName 9 rfl) (q_rbT (b := false) h)
  · have h := q_f c h
    refine zi_iload_n 0 (dq dC_isName 3 rfl) rfl ?_
    refine zi_bipush (v := 90) (dq dC_isName 4 rfl) (by decide) ?_
    refine zi_icmp_gt (tgt := 16) (dq dC_isName 5 rfl) (by decide) (fun c => ?_) (fun c => ?_)
    · have h := q_t c h
      refine zi_iconst (v := 0) (dq dC_isName 8 rfl) (by decide) ?_
      exact zi_ireturn rfl (by decide) (dq dC_isName 9 rfl) (q_rbT (b := false) h)
    · have h := q_f c h
      refine zi_iconst (v := 1) (dq dC_isName 6 rfl) (by decide) ?_
      refine zi_goto (tgt := 17) (dq dC_isName 7 rfl) (by decide) ?_
      exact zi_ireturn rfl (by decide) (dq dC_isName 9 rfl) (q_rbT (b := true) h)
def FC_kindOf (N : Nat) (l0 : Int32)  : Option (Int32) :=
  if l0 = 98 then
    some 1
  else
    if l0 = 99 then
      some 9
    else
      if l0 = 105 then
        some 2
      else
        if l0 = 108 then
          some 7
        else
          if l0 = 110 then
            some 5
          else
            if l0 = 111 then
              some 4
            else
              if l0 = 113 then
                some 6
              else
                some (((-1)))
theorem SC_kindOf {g : zg} {d N : Nat} {M : zM} {r : Int32} {l0 : Int32}  (h : FC_kindOf N l0 = some r) (hd : 0 ≤ d) : zEi g d mC_kindOf [.int l0] (M) (fun v Mq => v = r ∧ Mq = M) := by
  unfold FC_kindOf at h
  refine zEi_q (r := r) (lv := [(0, .int l0)]) ⟨by decide +kernel, by decide, by decide +kernel⟩ (by simp [z_cr, z_ci]) (Nat.le_of_ble_eq_true rfl) rfl ?_
  refine zi_iload_n 0 (dq dC_kindOf 0 rfl) rfl ?_
  rcases q_w h with ⟨c98, h⟩ | ⟨c98, h⟩
  · refine zi_top c98 ?_
    refine zi_tableIn (tgt := 80) (dq dC_kindOf 1 rfl) (by decide) (by decide) rfl (by decide) ?_
    refine zi_iconst (v := 1) (dq dC_kindOf 2 rfl) (by decide) ?_
    exact zi_ireturn rfl rfl (dq dC_kindOf 3 rfl) (q_riT h)
  rcases q_w h with ⟨c99, h⟩ | ⟨c99, h⟩
  · refine zi_top c99 ?_
    refine zi_tableIn (tgt := 94) (dq dC_kindOf 1 rfl) (by decide) (by decide) rfl (by decide) ?_
    refine zi_bipush (v := 9) (dq dC_kindOf 14 rfl) (by decide) ?_
    exact zi_ireturn rfl rfl (dq dC_kindOf 15 rfl) (q_riT h)
  rcases q_w h with ⟨c105, h⟩ | ⟨c105, h⟩
  · refine zi_top c105 ?_
    refine zi_tableIn (tgt := 82) (dq dC_kindOf 1 rfl) (by decide) (by decide) rfl (by decide) ?_
    refine zi_iconst (v := 2) (dq dC_kindOf 4 rfl) (by decide) ?_
    exact zi_ireturn rfl rfl (dq dC_kindOf 5 rfl) (q_riT h)
  rcases q_w h with ⟨c108, h⟩ | ⟨c108, h⟩
  · refine zi_top c108 ?_
    refine zi_tableIn (tgt := 91) (dq dC_kindOf 1 rfl) (by decide) (by decide) rfl (by decide) ?_
    refine zi_bipush (v := 7) (dq dC_kindOf 12 rfl) (by decide) ?_
    exact zi_ireturn rfl rfl (dq dC_kindOf 13 rfl) (q_riT h)
  rcases q_w h with ⟨c110, h⟩ | ⟨c110, h⟩
  · refine zi_top c110 ?_
    refine zi_tableIn (tgt := 86) (dq dC_kindOf 1 rfl) (by decide) (by decide) rfl (by decide) ?_
    refine zi_iconst (v := 5) (dq dC_kindOf 8 rfl) (by decide) ?_
    exact zi_ireturn rfl rfl (dq dC_kindOf 9 rfl) (q_riT h)
  rcases q_w h with ⟨c111, h⟩ | ⟨c111, h⟩
  · refine zi_top c111 ?_
    refine zi_tableIn (tgt := 84) (dq dC_kindOf 1 rfl) (by decide) (by decide) rfl (by decide) ?_
    refine zi_iconst (v := 4) (dq dC_kindOf 6 rfl) (by decide) ?_
    exact zi_ireturn rfl rfl (dq dC_kindOf 7 rfl) (q_riT h)
  rcases q_w h with ⟨c113, h⟩ | ⟨c113, h⟩
  · refine zi_top c113 ?_
    refine zi_tableIn (tgt := 88) (dq dC_kindOf 1 rfl) (by decide) (by decide) rfl (by decide) ?_
    refine zi_bipush (v := 6) (dq dC_kindOf 10 rfl) (by decide) ?_
    exact zi_ireturn rfl rfl (dq dC_kindOf 11 rfl) (q_riT h)
  refine zi_tableDef (tgt := 97) (vals := [98, 99, 105, 108, 110, 111, 113]) (dq dC_kindOf 1 rfl) (List.forall_mem_cons.mpr ⟨c98, List.forall_mem_cons.mpr ⟨c99, List.forall_mem_cons.mpr ⟨c105, List.forall_mem_cons.mpr ⟨c108, List.forall_mem_cons.mpr ⟨c110, List.forall_mem_cons.mpr ⟨c111, List.forall_mem_cons.mpr ⟨c113, fun _ h => absurd h List.not_mem_nil⟩⟩⟩⟩⟩⟩⟩) (by decide) (by decide) (by decide) ?_
  refine zi_iconst (v := (-1)) (dq dC_kindOf 16 rfl) (by decide) ?_
  exact zi_ireturn rfl rfl (dq dC_kindOf 17 rfl) (q_riT h)
def FD_areRules (N : Nat) (l0 : Int32) (l1 : Int32)  : Option (Bool) :=
  if l0 < 0 then
    some false
  else
    if 2 < l0 then
      some false
    else
      if l1 < 1 then
        some false
      else
        if 2 < l1 then
          some false
        else
          some true
theorem SD_areRules {g : zg} {d N : Nat} {M : zM} {r : Bool} {l0 : Int32} {l1 : Int32}  (h : FD_areRules N l0 l1 = some r) (hd : 0 ≤ d) : zEi g d mD_areRules [.int l0, .int l1] (M) (fun v Mq => v = bI r ∧ Mq = M) := by
  unfold FD_areRules at h
  refine zEb_q (r := r) (lv := [(0, .int l0), (1, .int l1)]) ⟨by decide +kernel, by decide, by decide +kernel⟩ (by simp [z_cr, z_ci]) (Nat.le_of_ble_eq_true rfl) rfl ?_
  refine zi_iload_n 0 (dq dD_areRules 0 rfl) rfl ?_
  refine zi_if_lt (tgt := 23) (dq dD_areRules 1 rfl) (by decide) (fun c => ?_) (fun c => ?_)
  · have h := q_t c h
    refine zi_iconst (v := 0) (dq dD_areRules 13 rfl) (by decide) ?_
    exact zi_ireturn rfl (by decide) (dq dD_areRules 14 rfl) (q_rbT (b := false) h)
  · have h := q_f c h
    refine zi_iload_n 0 (dq dD_areRules 2 rfl) rfl ?_
    refine zi_iconst (v := 2) (dq dD_areRules 3 rfl) (by decide) ?_
    refine zi_icmp_gt (tgt := 23) (dq dD_areRules 4 rfl) (by decide) (fun c => ?_) (fun c => ?_)
    · have h := q_t c h
      refine zi_iconst (v := 0) (dq dD_areRules 13 rfl) (by decide) ?_
      exact zi_ireturn rfl (by decide) (dq dD_areRules 14 rfl) (q_rbT (b := false) h)
    · have h := q_f c h
      refine zi_iload_n 1 (dq dD_areRules 5 rfl) rfl ?_
      refine zi_iconst (v := 1) (dq dD_areRules 6 rfl) (by decide) ?_
      refine zi_icmp_lt (tgt := 23) (dq dD_areRules 7 rfl) (by decide) (fun c => ?_) (fun c => ?_)
      · have h := q_t c h
        refine zi_iconst (v := 0) (dq dD_areRules 13 rfl) (by decide) ?_
        exact zi_ireturn rfl (by decide) (dq dD_areRules 14 rfl) (q_rbT (b := false) h)
      · have h := q_f c h
        refine zi_iload_n 1 (dq dD_areRules 8 rfl) rfl ?_
        refine zi_iconst (v := 2) (dq dD_areRules 9 rfl) (by decide) ?_
        refine zi_icmp_gt (tgt := 23) (dq dD_areRules 10 rfl) (by decide) (fun c => ?_) (fun c => ?_)
        · have h := q_t c h
          refine zi_iconst (v := 0) (dq dD_areRules 13 rfl) (by decide) ?_
          exact zi_ireturn rfl (by decide) (dq dD_areRules 14 rfl) (q_rbT (b := false) h)
        · have h := q_f c h
          refine zi_iconst (v := 1) (dq dD_areRules 11 rfl) (by decide) ?_
          refine zi_goto (tgt := 24) (dq dD_areRules 12 rfl) (by decide) ?_
          exact zi_ireturn rfl (by decide) (dq dD_areRules 14 rfl) (q_rbT (b := true) h)
def FI_bitsOfNumbersTo_12 (N : Nat) (l0 : Int32) (K12 : (Int32) → Option (Int32)) (s : Int32) : Option (Int32) :=
  let l1 := s
  if 8 ≤ l1 then
    some l1
  else
    if (l0 >>> (l1 &&& 31)) ≤ 0 then
      some l1
    else
      let y1 := l1 + (1)
      K12 y1
theorem SI_bitsOfNumbersTo_12 {g : zg} {d N : Nat} {M : zM} {r : Int32}  {l0 : Int32}  (hd : 0 ≤ d)  : ∀ n s, qfix (FI_bitsOfNumbersTo_12 N l0) n s = some r → zG g d mI_bitsOfNumbersTo (zPq (rI r) (M)) (M) 12 [(0, .int l0), (1, .int s)] [] := by
  refine qfix_sound (fun K12 hK12 s h => ?_)
  unfold FI_bitsOfNumbersTo_12 at h
  refine zi_iload_n 1 (dq dI_bitsOfNumbersTo 7 rfl) rfl ?_
  refine zi_bipush (v := 8) (dq dI_bitsOfNumbersTo 8 rfl) (by decide) ?_
  refine zi_icmp_ge (tgt := 30) (dq dI_bitsOfNumbersTo 9 rfl) (by decide) (fun c => ?_) (fun c => ?_)
  · have h := q_t c h
    refine zi_iload_n 1 (dq dI_bitsOfNumbersTo 16 rfl) rfl ?_
    exact zi_ireturn rfl rfl (dq dI_bitsOfNumbersTo 17 rfl) (q_riT h)
  · have h := q_f c h
    refine zi_iload_n 0 (dq dI_bitsOfNumbersTo 10 rfl) rfl ?_
    refine zi_iload_n 1 (dq dI_bitsOfNumbersTo 11 rfl) rfl ?_
    refine zi_ishr (dq dI_bitsOfNumbersTo 12 rfl) ?_
    refine zi_if_le (tgt := 30) (dq dI_bitsOfNumbersTo 13 rfl) (by decide) (fun c => ?_) (fun c => ?_)
    · have h := q_t c h
      refine zi_iload_n 1 (dq dI_bitsOfNumbersTo 16 rfl) rfl ?_
      exact zi_ireturn rfl rfl (dq dI_bitsOfNumbersTo 17 rfl) (q_riT h)
    · have h := q_f c h
      refine zi_iincC (v := _ + (1)) (lv' := [(1, _), (0, _)]) 1 (dq dI_bitsOfNumbersTo 14 rfl) rfl rfl (by decide) (by simp [z_cr, z_ci]) rfl ?_
      refine zi_goto (tgt := 12) (dq dI_bitsOfNumbersTo 15 rfl) (by decide) ?_
      exact zG_lv (zs_c 1 rfl (zs_c 0 rfl zs_n)) (hK12 _ h)
def FI_bitsOfNumbersTo (N : Nat) (l0 : Int32)  : Option (Int32) :=
  if l0 ≤ 255 then
    qfix (FI_bitsOfNumbersTo_12 N l0) N 0
  else
    some 16
theorem SI_bitsOfNumbersTo {g : zg} {d N : Nat} {M : zM} {r : Int32} {l0 : Int32}  (h : FI_bitsOfNumbersTo N l0 = some r) (hd : 0 ≤ d) : zEi g d mI_bitsOfNumbersTo [.int l0] (M) (fun v Mq => v = r ∧ Mq = M) := by
  unfold FI_bitsOfNumbersTo at h
  refine zEi_q (r := r) (lv := [(0, .int l0)]) ⟨by decide +kernel, by decide, by decide +kernel⟩ (by simp [z_cr, z_ci]) (Nat.le_of_ble_eq_true rfl) rfl ?_
  refine zi_iload_n 0 (dq dI_bitsOfNumbersTo 0 rfl) rfl ?_
  refine zi_sipush (v := 255) (dq dI_bitsOfNumbersTo 1 rfl) (by decide) ?_
  refine zi_icmp_le (tgt := 10) (dq dI_bitsOfNumbersTo 2 rfl) (by decide) (fun c => ?_) (fun c => ?_)
  · have h := q_t c h
    refine zi_iconst (v := 0) (dq dI_bitsOfNumbersTo 5 rfl) (by decide) ?_
    refine zi_istC_n (lv' := [(1, _), (0, _)]) (dq dI_bitsOfNumbersTo 6 rfl) (by decide) (by simp [z_cr, z_ci]) rfl ?_
    exact zG_lv (zs_c 1 rfl (zs_c 0 rfl zs_n)) (SI_bitsOfNumbersTo_12  hd  _ _ h)
  · have h := q_f c h
    refine zi_bipush (v := 16) (dq dI_bitsOfNumbersTo 3 rfl) (by decide) ?_
    exact zi_ireturn rfl rfl (dq dI_bitsOfNumbersTo 4 rfl) (q_riT h)
def FI_byteCount_2 (N : Nat) (l0 : Int32) (K2 : (Int32) → Option (Int32)) (s : Int32) : Option (Int32) :=
  let l1 := s
  if 4 ≤ l1 then
    some l1
  else
    if (l0 >>> (((8 * l1) - 1) &&& 31)) = 0 then
      some l1
    else
      if (l0 >>> (((8 * l1) - 1) &&& 31)) = ((-1)) then
        some l1
      else
        let y1 := l1 + (1)
        K2 y1
theorem SI_byteCount_2 {g : zg} {d N : Nat} {M : zM} {r : Int32}  {l0 : Int32}  (hd : 0 ≤ d)  : ∀ n s, qfix (FI_byteCount_2 N l0) n s = some r → zG g d mI_byteCount (zPq (rI r) (M)) (M) 2 [(0, .int l0), (1, .int s)] [] := by
  refine qfix_sound (fun K2 hK2 s h => ?_)
  unfold FI_byteCount_2 at h
  refine zi_iload_n 1 (dq dI_byteCount 2 rfl) rfl ?_
  refine zi_iconst (v := 4) (dq dI_byteCount 3 rfl) (by decide) ?_
  refine zi_icmp_ge (tgt := 36) (dq dI_byteCount 4 rfl) (by decide) (fun c => ?_) (fun c => ?_)
  · have h := q_t c h
    refine zi_iload_n 1 (dq dI_byteCount 24 rfl) rfl ?_
    exact zi_ireturn rfl rfl (dq dI_byteCount 25 rfl) (q_riT h)
  · have h := q_f c h
    refine zi_iload_n 0 (dq dI_byteCount 5 rfl) rfl ?_
    refine zi_bipush (v := 8) (dq dI_byteCount 6 rfl) (by decide) ?_
    refine zi_iload_n 1 (dq dI_byteCount 7 rfl) rfl ?_
    refine zi_imul (dq dI_byteCount 8 rfl) ?_
    refine zi_iconst (v := 1) (dq dI_byteCount 9 rfl) (by decide) ?_
    refine zi_isub (dq dI_byteCount 10 rfl) ?_
    refine zi_ishr (dq dI_byteCount 11 rfl) ?_
    refine zi_if_eq (tgt := 36) (dq dI_byteCount 12 rfl) (by decide) (fun c => ?_) (fun c => ?_)
    · have h := q_t c h
      refine zi_iload_n 1 (dq dI_byteCount 24 rfl) rfl ?_
      exact zi_ireturn rfl rfl (dq dI_byteCount 25 rfl) (q_riT h)
    · have h := q_f c h
      refine zi_iload_n 0 (dq dI_byteCount 13 rfl) rfl ?_
      refine zi_bipush (v := 8) (dq dI_byteCount 14 rfl) (by decide) ?_
      refine zi_iload_n 1 (dq dI_byteCount 15 rfl) rfl ?_
      refine zi_imul (dq dI_byteCount 16 rfl) ?_
      refine zi_iconst (v := 1) (dq dI_byteCount 17 rfl) (by decide) ?_
      refine zi_isub (dq dI_byteCount 18 rfl) ?_
      refine zi_ishr (dq dI_byteCount 19 rfl) ?_
      refine zi_iconst (v := (-1)) (dq dI_byteCount 20 rfl) (by decide) ?_
      refine zi_icmp_eq (tgt := 36) (dq dI_byteCount 21 rfl) (by decide) (fun c => ?_) (fun c => ?_)
      · have h := q_t c h
        refine zi_iload_n 1 (dq dI_byteCount 24 rfl) rfl ?_
        exact zi_ireturn rfl rfl (dq dI_byteCount 25 rfl) (q_riT h)
      · have h := q_f c h
        refine zi_iincC (v := _ + (1)) (lv' := [(1, _), (0, _)]) 1 (dq dI_byteCount 22 rfl) rfl rfl (by decide) (by simp [z_cr, z_ci]) rfl ?_
        refine zi_goto (tgt := 2) (dq dI_byteCount 23 rfl) (by decide) ?_
        exact zG_lv (zs_c 1 rfl (zs_c 0 rfl zs_n)) (hK2 _ h)
def FI_byteCount (N : Nat) (l0 : Int32)  : Option (Int32) :=
  qfix (FI_byteCount_2 N l0) N 1
theorem SI_byteCount {g : zg} {d N : Nat} {M : zM} {r : Int32} {l0 : Int32}  (h : FI_byteCount N l0 = some r) (hd : 0 ≤ d) : zEi g d mI_byteCount [.int l0] (M) (fun v Mq => v = r ∧ Mq = M) := by
  unfold FI_byteCount at h
  refine zEi_q (r := r) (lv := [(0, .int l0)]) ⟨by decide +kernel, by decide, by decide +kernel⟩ (by simp [z_cr, z_ci]) (Nat.le_of_ble_eq_true rfl) rfl ?_
  refine zi_iconst (v := 1) (dq dI_byteCount 0 rfl) (by decide) ?_
  refine zi_istC_n (lv' := [(1, _), (0, _)]) (dq dI_byteCount 1 rfl) (by decide) (by simp [z_cr, z_ci]) rfl ?_
  exact zG_lv (zs_c 1 rfl (zs_c 0 rfl zs_n)) (SI_byteCount_2  hd  _ _ h)
def FK_leastTag (N : Nat) (M0 : zM) (o : Nat)  : Option (Int32) :=
  qc (FK_tags N M0 o) fun v1 =>
  qc (FK_tags N M0 o) fun v2 =>
  some ((v1 &&& (-v2)))
theorem SK_leastTag {g : zg} {d N : Nat} {M0 M : zM} {r : Int32} {o : Nat} (hg : zag M0 M) (hs0 : zsh M0 o = some (.inl 1)) (h : FK_leastTag N M0 o = some r) (hd : 1 ≤ d) : zEi g d mK_leastTag [va_rf (some o)] (M) (fun v Mq => v = r ∧ Mq = M) := by
  unfold FK_leastTag at h
  refine zEi_q (r := r) (lv := [(0, va_rf (some o))]) ⟨by decide +kernel, by decide, by decide +kernel⟩ (by simp [z_cr, z_ci]) (Nat.le_of_ble_eq_true rfl) rfl ?_
  refine zi_aload_n 0 (dq dK_leastTag 0 rfl) rfl ?_
  obtain ⟨v1, hv1, h⟩ := q_c h
  refine zi_cVi0 (SK_tags hg hs0 hv1 (d := d - 1) (by omega)) wK_tags aK_37 iK_tags sK_tags (by omega) (hg _ _ (by decide) hs0).1 rfl (Nat.le_of_ble_eq_true rfl) (dq dK_leastTag 1 rfl) (fun _ _ hh => ?_)
  obtain ⟨rfl, rfl⟩ := hh
  refine zi_aload_n 0 (dq dK_leastTag 2 rfl) rfl ?_
  obtain ⟨v2, hv2, h⟩ := q_c h
  refine zi_cVi0 (SK_tags hg hs0 hv2 (d := d - 1) (by omega)) wK_tags aK_37 iK_tags sK_tags (by omega) (hg _ _ (by decide) hs0).1 rfl (Nat.le_of_ble_eq_true rfl) (dq dK_leastTag 3 rfl) (fun _ _ hh => ?_)
  obtain ⟨rfl, rfl⟩ := hh
  refine zi_ineg (dq dK_leastTag 4 rfl) ?_
  refine zi_iand (dq dK_leastTag 5 rfl) ?_
  exact zi_ireturn rfl rfl (dq dK_leastTag 6 rfl) (q_riT h)
def FT_isAlignedOctets (N : Nat) (M0 : zM) (o : Nat)  : Option (Bool) :=
  if (zi M0 o 1) = 0 then
    some true
  else
    if (zi M0 o 2) = (zi M0 o 3) then
      if (zi M0 o 3) ≤ 2 then
        some false
      else
        some true
    else
      some true
theorem ST_isAlignedOctets {g : zg} {d N : Nat} {M0 M : zM} {r : Bool} {o : Nat} (hg : zag M0 M) (hs0 : zsh M0 o = some (.inl 6)) (h : FT_isAlignedOctets N M0 o = some r) (hd : 0 ≤ d) : zEi g d mT_isAlignedOctets [va_rf (some o)] (M) (fun v Mq => v = bI r ∧ Mq = M) := by
  unfold FT_isAlignedOctets at h
  refine zEb_q (r := r) (lv := [(0, va_rf (some o))]) ⟨by decide +kernel, by decide, by decide +kernel⟩ (by simp [z_cr, z_ci]) (Nat.le_of_ble_eq_true rfl) rfl ?_
  refine zi_aload_n 0 (dq dT_isAlignedOctets 0 rfl) rfl ?_
  refine ti_geti hg hs0 (by decide) fT_15 (dq dT_isAlignedOctets 1 rfl) ?_
  refine zi_if_eq (tgt := 26) (dq dT_isAlignedOctets 2 rfl) (by decide) (fun c => ?_) (fun c => ?_)
  · have h := q_t c h
    refine zi_iconst (v := 1) (dq dT_isAlignedOctets 12 rfl) (by decide) ?_
    refine zi_goto (tgt := 31) (dq dT_isAlignedOctets 13 rfl) (by decide) ?_
    exact zi_ireturn rfl (by decide) (dq dT_isAlignedOctets 15 rfl) (q_rbT (b := true) h)
  · have h := q_f c h
    refine zi_aload_n 0 (dq dT_isAlignedOctets 3 rfl) rfl ?_
    refine ti_geti hg hs0 (by decide) fT_19 (dq dT_isAlignedOctets 4 rfl) ?_
    refine zi_aload_n 0 (dq dT_isAlignedOctets 5 rfl) rfl ?_
    refine ti_geti hg hs0 (by decide) fT_22 (dq dT_isAlignedOctets 6 rfl) ?_
    refine zi_icmp_ne (tgt := 26) (dq dT_isAlignedOctets 7 rfl) (by decide) (fun c => ?_) (fun c => ?_)
    · have h := q_f c h
      refine zi_iconst (v := 1) (dq dT_isAlignedOctets 12 rfl) (by decide) ?_
      refine zi_goto (tgt := 31) (dq dT_isAlignedOctets 13 rfl) (by decide) ?_
      exact zi_ireturn rfl (by decide) (dq dT_isAlignedOctets 15 rfl) (q_rbT (b := true) h)
    · have h := q_t c h
      refine zi_aload_n 0 (dq dT_isAlignedOctets 8 rfl) rfl ?_
      refine ti_geti hg hs0 (by decide) fT_22 (dq dT_isAlignedOctets 9 rfl) ?_
      refine zi_iconst (v := 2) (dq dT_isAlignedOctets 10 rfl) (by decide) ?_
      refine zi_icmp_le (tgt := 30) (dq dT_isAlignedOctets 11 rfl) (by decide) (fun c => ?_) (fun c => ?_)
      · have h := q_t c h
        refine zi_iconst (v := 0) (dq dT_isAlignedOctets 14 rfl) (by decide) ?_
        exact zi_ireturn rfl (by decide) (dq dT_isAlignedOctets 15 rfl) (q_rbT (b := false) h)
      · have h := q_f c h
        refine zi_iconst (v := 1) (dq dT_isAlignedOctets 12 rfl) (by decide) ?_
        refine zi_goto (tgt := 31) (dq dT_isAlignedOctets 13 rfl) (by decide) ?_
        exact zi_ireturn rfl (by decide) (dq dT_isAlignedOctets 15 rfl) (q_rbT (b := true) h)
def FT_memberAt_5 (N : Nat) (M0 : zM) (l1 : Int32) (K5 : (Option Nat) → Option (Option Nat)) (s : Option Nat) : Option (Option Nat) :=
  let l2 := s
  if l2 = none then
    some none
  else
    qo l2 M0 1 fun o1 =>
    if (zi M0 o1 1) = l1 then
      some l2
    else
      qo l2 M0 1 fun o2 =>
      let y3 := zr M0 o2 5
      K5 y3
theorem ST_memberAt_5 {g : zg} {d N : Nat} {M0 M : zM} {r : Option Nat}  {l1 : Int32} (hg : zag M0 M) (hd : 0 ≤ d)  : ∀ n s, qfix (FT_memberAt_5 N M0 l1) n s = some r → zG g d mT_memberAt (zPq (rR r) (M)) (M) 5 [(1, .int l1), (2, va_rf s)] [] := by
  refine qfix_sound (fun K5 hK5 s h => ?_)
  unfold FT_memberAt_5 at h
  refine zi_aload_n 1 (dq dT_memberAt 3 rfl) rfl ?_
  refine zi_ifnull (tgt := 27) (dq dT_memberAt 4 rfl) (by decide) (fun c => ?_) (fun _ c => ?_)
  · have h := q_t c h
    refine zi_null (dq dT_memberAt 15 rfl) ?_
    exact zi_areturn rfl (dq dT_memberAt 16 rfl) (q_rrT h)
  · have h := q_f (by rw [c]; exact nofun) h
    refine zi_aload_n 1 (dq dT_memberAt 5 rfl) rfl ?_
    obtain ⟨o1, eo1, ho1, h⟩ := q_o h
    refine zi_rc0 eo1 ?_
    refine ti_geti hg ho1 (by decide) fT_60 (dq dT_memberAt 6 rfl) ?_
    refine zi_iload_n 0 (dq dT_memberAt 7 rfl) rfl ?_
    refine zi_icmp_ne (tgt := 19) (dq dT_memberAt 8 rfl) (by decide) (fun c => ?_) (fun c => ?_)
    · have h := q_f c h
      refine zi_aload_n 1 (dq dT_memberAt 11 rfl) rfl ?_
      obtain ⟨o2, eo2, ho2, h⟩ := q_o h
      refine zi_rc0 eo2 ?_
      refine ti_getr hg ho2 (by decide) fT_65 (dq dT_memberAt 12 rfl) ?_
      refine zi_astC_n (lv' := [(2, _), (1, _)]) (dq dT_memberAt 13 rfl) (by decide) (by simp [z_cr, z_ci]) rfl ?_
      refine zi_goto (tgt := 5) (dq dT_memberAt 14 rfl) (by decide) ?_
      exact zG_lv (zs_c 1 rfl (zs_c 0 rfl zs_n)) (hK5 _ h)
    · have h := q_t c h
      refine zi_aload_n 1 (dq dT_memberAt 9 rfl) rfl ?_
      exact zi_areturn rfl (dq dT_memberAt 10 rfl) (q_rrT h)
def FT_memberAt (N : Nat) (M0 : zM) (o : Nat) (l1 : Int32)  : Option (Option Nat) :=
  let y1 := zr M0 o 10
  qfix (FT_memberAt_5 N M0 l1) N y1
theorem ST_memberAt {g : zg} {d N : Nat} {M0 M : zM} {r : Option Nat} {o : Nat} {l1 : Int32} (hg : zag M0 M) (hs0 : zsh M0 o = some (.inl 6)) (h : FT_memberAt N M0 o l1 = some r) (hd : 0 ≤ d) : zEr g d mT_memberAt [va_rf (some o), .int l1] (M) (fun v Mq => v = r ∧ Mq = M) := by
  unfold FT_memberAt at h
  refine zEr_q (r := r) (lv := [(0, va_rf (some o)), (1, .int l1)]) ⟨by decide +kernel, by decide, by decide +kernel⟩ (by simp [z_cr, z_ci]) (Nat.le_of_ble_eq_true rfl) rfl ?_
  refine zi_aload_n 0 (dq dT_memberAt 0 rfl) rfl ?_
  refine ti_getr hg hs0 (by decide) fT_48 (dq dT_memberAt 1 rfl) ?_
  refine zi_astC_n (lv' := [(2, _), (0, _), (1, _)]) (dq dT_memberAt 2 rfl) (by decide) (by simp [z_cr, z_ci]) rfl ?_
  exact zG_lv (zs_c 2 rfl (zs_c 0 rfl zs_n)) (ST_memberAt_5 hg hd  _ _ h)
def FT_memberRanked_5 (N : Nat) (M0 : zM) (l1 : Int32) (K5 : (Option Nat) → Option (Option Nat)) (s : Option Nat) : Option (Option Nat) :=
  let l2 := s
  if l2 = none then
    some none
  else
    qo l2 M0 1 fun o1 =>
    if (zi M0 o1 4) = l1 then
      some l2
    else
      qo l2 M0 1 fun o2 =>
      let y3 := zr M0 o2 5
      K5 y3
theorem ST_memberRanked_5 {g : zg} {d N : Nat} {M0 M : zM} {r : Option Nat}  {l1 : Int32} (hg : zag M0 M) (hd : 0 ≤ d)  : ∀ n s, qfix (FT_memberRanked_5 N M0 l1) n s = some r → zG g d mT_memberRanked (zPq (rR r) (M)) (M) 5 [(1, .int l1), (2, va_rf s)] [] := by
  refine qfix_sound (fun K5 hK5 s h => ?_)
  unfold FT_memberRanked_5 at h
  refine zi_aload_n 1 (dq dT_memberRanked 3 rfl) rfl ?_
  refine zi_ifnull (tgt := 27) (dq dT_memberRanked 4 rfl) (by decide) (fun c => ?_) (fun _ c => ?_)
  · have h := q_t c h
    refine zi_null (dq dT_memberRanked 15 rfl) ?_
    exact zi_areturn rfl (dq dT_memberRanked 16 rfl) (q_rrT h)
  · have h := q_f (by rw [c]; exact nofun) h
    refine zi_aload_n 1 (dq dT_memberRanked 5 rfl) rfl ?_
    obtain ⟨o1, eo1, ho1, h⟩ := q_o h
    refine zi_rc0 eo1 ?_
    refine ti_geti hg ho1 (by decide) fT_68 (dq dT_memberRanked 6 rfl) ?_
    refine zi_iload_n 0 (dq dT_memberRanked 7 rfl) rfl ?_
    refine zi_icmp_ne (tgt := 19) (dq dT_memberRanked 8 rfl) (by decide) (fun c => ?_) (fun c => ?_)
    · have h := q_f c h
      refine zi_aload_n 1 (dq dT_memberRanked 11 rfl) rfl ?_
      obtain ⟨o2, eo2, ho2, h⟩ := q_o h
      refine zi_rc0 eo2 ?_
      refine ti_getr hg ho2 (by decide) fT_65 (dq dT_memberRanked 12 rfl) ?_
      refine zi_astC_n (lv' := [(2, _), (1, _)]) (dq dT_memberRanked 13 rfl) (by decide) (by simp [z_cr, z_ci]) rfl ?_
      refine zi_goto (tgt := 5) (dq dT_memberRanked 14 rfl) (by decide) ?_
      exact zG_lv (zs_c 1 rfl (zs_c 0 rfl zs_n)) (hK5 _ h)
    · have h := q_t c h
      refine zi_aload_n 1 (dq dT_memberRanked 9 rfl) rfl ?_
      exact zi_areturn rfl (dq dT_memberRanked 10 rfl) (q_rrT h)
def FT_memberRanked (N : Nat) (M0 : zM) (o : Nat) (l1 : Int32)  : Option (Option Nat) :=
  let y1 := zr M0 o 10
  qfix (FT_memberRanked_5 N M0 l1) N y1
theorem ST_memberRanked {g : zg} {d N : Nat} {M0 M : zM} {r : Option Nat} {o : Nat} {l1 : Int32} (hg : zag M0 M) (hs0 : zsh M0 o = some (.inl 6)) (h : FT_memberRanked N M0 o l1 = some r) (hd : 0 ≤ d) : zEr g d mT_memberRanked [va_rf (some o), .int l1] (M) (fun v Mq => v = r ∧ Mq = M) := by
  unfold FT_memberRanked at h
  refine zEr_q (r := r) (lv := [(0, va_rf (some o)), (1, .int l1)]) ⟨by decide +kernel, by decide, by decide +kernel⟩ (by simp [z_cr, z_ci]) (Nat.le_of_ble_eq_true rfl) rfl ?_
  refine zi_aload_n 0 (dq dT_memberRanked 0 rfl) rfl ?_
  refine ti_getr hg hs0 (by decide) fT_48 (dq dT_memberRanked 1 rfl) ?_
  refine zi_astC_n (lv' := [(2, _), (0, _), (1, _)]) (dq dT_memberRanked 2 rfl) (by decide) (by simp [z_cr, z_ci]) rfl ?_
  exact zG_lv (zs_c 2 rfl (zs_c 0 rfl zs_n)) (ST_memberRanked_5 hg hd  _ _ h)
def FT_memberWithTag_5 (N : Nat) (M0 : zM) (l1 : Int32) (K5 : (Option Nat) → Option (Option Nat)) (s : Option Nat) : Option (Option Nat) :=
  let l2 := s
  if l2 = none then
    some none
  else
    qo l2 M0 1 fun o1 =>
    qc (FK_tags N M0 o1) fun v2 =>
    if (v2 &&& l1) = 0 then
      qo l2 M0 1 fun o3 =>
      let y4 := zr M0 o3 5
      K5 y4
    else
      some l2
theorem ST_memberWithTag_5 {g : zg} {d N : Nat} {M0 M : zM} {r : Option Nat}  {l1 : Int32} (hg : zag M0 M) (hd : 1 ≤ d)  : ∀ n s, qfix (FT_memberWithTag_5 N M0 l1) n s = some r → zG g d mT_memberWithTag (zPq (rR r) (M)) (M) 5 [(1, .int l1), (2, va_rf s)] [] := by
  refine qfix_sound (fun K5 hK5 s h => ?_)
  unfold FT_memberWithTag_5 at h
  refine zi_aload_n 1 (dq dT_memberWithTag 3 rfl) rfl ?_
  refine zi_ifnull (tgt := 28) (dq dT_memberWithTag 4 rfl) (by decide) (fun c => ?_) (fun _ c => ?_)
  · have h := q_t c h
    refine zi_null (dq dT_memberWithTag 16 rfl) ?_
    exact zi_areturn rfl (dq dT_memberWithTag 17 rfl) (q_rrT h)
  · have h := q_f (by rw [c]; exact nofun) h
    refine zi_aload_n 1 (dq dT_memberWithTag 5 rfl) rfl ?_
    obtain ⟨o1, eo1, ho1, h⟩ := q_o h
    refine zi_rc0 eo1 ?_
    obtain ⟨v2, hv2, h⟩ := q_c h
    refine zi_cVi0 (SK_tags hg ho1 hv2 (d := d - 1) (by omega)) wK_tags aT_71 iK_tags sK_tags (by omega) (hg _ _ (by decide) ho1).1 rfl (Nat.le_of_ble_eq_true rfl) (dq dT_memberWithTag 6 rfl) (fun _ _ hh => ?_)
    obtain ⟨rfl, rfl⟩ := hh
    refine zi_iload_n 0 (dq dT_memberWithTag 7 rfl) rfl ?_
    refine zi_iand (dq dT_memberWithTag 8 rfl) ?_
    refine zi_if_eq (tgt := 20) (dq dT_memberWithTag 9 rfl) (by decide) (fun c => ?_) (fun c => ?_)
    · have h := q_t c h
      refine zi_aload_n 1 (dq dT_memberWithTag 12 rfl) rfl ?_
      obtain ⟨o3, eo3, ho3, h⟩ := q_o h
      refine zi_rc0 eo3 ?_
      refine ti_getr hg ho3 (by decide) fT_65 (dq dT_memberWithTag 13 rfl) ?_
      refine zi_astC_n (lv' := [(2, _), (1, _)]) (dq dT_memberWithTag 14 rfl) (by decide) (by simp [z_cr, z_ci]) rfl ?_
      refine zi_goto (tgt := 5) (dq dT_memberWithTag 15 rfl) (by decide) ?_
      exact zG_lv (zs_c 1 rfl (zs_c 0 rfl zs_n)) (hK5 _ h)
    · have h := q_f c h
      refine zi_aload_n 1 (dq dT_memberWithTag 10 rfl) rfl ?_
      exact zi_areturn rfl (dq dT_memberWithTag 11 rfl) (q_rrT h)
def FT_memberWithTag (N : Nat) (M0 : zM) (o : Nat) (l1 : Int32)  : Option (Option Nat) :=
  let y1 := zr M0 o 10
  qfix (FT_memberWithTag_5 N M0 l1) N y1
theorem ST_memberWithTag {g : zg} {d N : Nat} {M0 M : zM} {r : Option Nat} {o : Nat} {l1 : Int32} (hg : zag M0 M) (hs0 : zsh M0 o = some (.inl 6)) (h : FT_memberWithTag N M0 o l1 = some r) (hd : 1 ≤ d) : zEr g d mT_memberWithTag [va_rf (some o), .int l1] (M) (fun v Mq => v = r ∧ Mq = M) := by
  unfold FT_memberWithTag at h
  refine zEr_q (r := r) (lv := [(0, va_rf (some o)), (1, .int l1)]) ⟨by decide +kernel, by decide, by decide +kernel⟩ (by simp [z_cr, z_ci]) (Nat.le_of_ble_eq_true rfl) rfl ?_
  refine zi_aload_n 0 (dq dT_memberWithTag 0 rfl) rfl ?_
  refine ti_getr hg hs0 (by decide) fT_48 (dq dT_memberWithTag 1 rfl) ?_
  refine zi_astC_n (lv' := [(2, _), (0, _), (1, _)]) (dq dT_memberWithTag 2 rfl) (by decide) (by simp [z_cr, z_ci]) rfl ?_
  exact zG_lv (zs_c 2 rfl (zs_c 0 rfl zs_n)) (ST_memberWithTag_5 hg hd  _ _ h)
def FT_tagByte_32 (N : Nat) (M0 : zM) (o : Nat) (l1 : Int32) (t0 : Int32)  : Option (Int32) :=
  if l1 = ((-1)) then
    qk (decide (zsh M0 o = some (.inl 6))) <|
    if (zi M0 o 0) = 10 then
      some ((160 + (zi M0 o 4)))
    else
      if t0 = 0 then
        some ((zi M0 o 0))
      else
        some 48
  else
    if t0 = 0 then
      some ((128 + l1))
    else
      some ((160 + l1))
theorem ST_tagByte_32 {g : zg} {d N : Nat} {M0 M : zM} {r : Int32}  {o : Nat} {l1 : Int32} {t0 : Int32} (hg : zag M0 M) (h : FT_tagByte_32 N M0 o l1 t0 = some r) (hd : 0 ≤ d)  : zG g d mT_tagByte (zPq (rI r) (M)) (M) 32 [(0, va_rf (some o)), (1, .int l1)] [.int t0] := by
  unfold FT_tagByte_32 at h
  refine zi_istC_n (lv' := [(2, _), (0, _), (1, _)]) (dq dT_tagByte 15 rfl) (by decide) (by simp [z_cr, z_ci]) rfl ?_
  refine zi_iload_n 2 (dq dT_tagByte 16 rfl) rfl ?_
  refine zi_iconst (v := (-1)) (dq dT_tagByte 17 rfl) (by decide) ?_
  refine zi_icmp_eq (tgt := 54) (dq dT_tagByte 18 rfl) (by decide) (fun c => ?_) (fun c => ?_)
  · have h := q_t c h
    refine zi_aload_n 1 (dq dT_tagByte 27 rfl) rfl ?_
    obtain ⟨c1, h⟩ := q_k h
    replace c1 := of_decide_eq_true c1
    refine ti_geti hg c1 (by decide) fT_9 (dq dT_tagByte 28 rfl) ?_
    refine zi_bipush (v := 10) (dq dT_tagByte 29 rfl) (by decide) ?_
    refine zi_icmp_ne (tgt := 72) (dq dT_tagByte 30 rfl) (by decide) (fun c => ?_) (fun c => ?_)
    · have h := q_f c h
      refine zi_iload_n 0 (dq dT_tagByte 36 rfl) rfl ?_
      refine zi_if_eq (tgt := 81) (dq dT_tagByte 37 rfl) (by decide) (fun c => ?_) (fun c => ?_)
      · have h := q_t c h
        refine zi_aload_n 1 (dq dT_tagByte 40 rfl) rfl ?_
        refine ti_geti hg c1 (by decide) fT_9 (dq dT_tagByte 41 rfl) ?_
        exact zi_ireturn rfl rfl (dq dT_tagByte 42 rfl) (q_riT h)
      · have h := q_f c h
        refine zi_bipush (v := 48) (dq dT_tagByte 38 rfl) (by decide) ?_
        refine zi_goto (tgt := 85) (dq dT_tagByte 39 rfl) (by decide) ?_
        exact zi_ireturn rfl rfl (dq dT_tagByte 42 rfl) (q_riT h)
    · have h := q_t c h
      refine zi_sipush (v := 160) (dq dT_tagByte 31 rfl) (by decide) ?_
      refine zi_aload_n 1 (dq dT_tagByte 32 rfl) rfl ?_
      refine ti_geti hg c1 (by decide) fT_25 (dq dT_tagByte 33 rfl) ?_
      refine zi_iadd (dq dT_tagByte 34 rfl) ?_
      exact zi_ireturn rfl rfl (dq dT_tagByte 35 rfl) (q_riT h)
  · have h := q_f c h
    refine zi_iload_n 0 (dq dT_tagByte 19 rfl) rfl ?_
    refine zi_if_eq (tgt := 48) (dq dT_tagByte 20 rfl) (by decide) (fun c => ?_) (fun c => ?_)
    · have h := q_t c h
      refine zi_sipush (v := 128) (dq dT_tagByte 23 rfl) (by decide) ?_
      refine zi_iload_n 2 (dq dT_tagByte 24 rfl) rfl ?_
      refine zi_iadd (dq dT_tagByte 25 rfl) ?_
      exact zi_ireturn rfl rfl (dq dT_tagByte 26 rfl) (q_riT h)
    · have h := q_f c h
      refine zi_sipush (v := 160) (dq dT_tagByte 21 rfl) (by decide) ?_
      refine zi_goto (tgt := 51) (dq dT_tagByte 22 rfl) (by decide) ?_
      refine zi_iload_n 2 (dq dT_tagByte 24 rfl) rfl ?_
      refine zi_iadd (dq dT_tagByte 25 rfl) ?_
      exact zi_ireturn rfl rfl (dq dT_tagByte 26 rfl) (q_riT h)
def FT_tagByte (N : Nat) (M0 : zM) (o : Nat) (l1 : Int32)  : Option (Int32) :=
  if (zi M0 o 0) = 6 then
    FT_tagByte_32 N M0 o l1 1
  else
    if (zi M0 o 0) = 7 then
      FT_tagByte_32 N M0 o l1 1
    else
      if (zi M0 o 0) = 10 then
        FT_tagByte_32 N M0 o l1 1
      else
        FT_tagByte_32 N M0 o l1 0
theorem ST_tagByte {g : zg} {d N : Nat} {M0 M : zM} {r : Int32} {o : Nat} {l1 : Int32} (hg : zag M0 M) (hs0 : zsh M0 o = some (.inl 6)) (h : FT_tagByte N M0 o l1 = some r) (hd : 0 ≤ d) : zEi g d mT_tagByte [va_rf (some o), .int l1] (M) (fun v Mq => v = r ∧ Mq = M) := by
  unfold FT_tagByte at h
  refine zEi_q (r := r) (lv := [(0, va_rf (some o)), (1, .int l1)]) ⟨by decide +kernel, by decide, by decide +kernel⟩ (by simp [z_cr, z_ci]) (Nat.le_of_ble_eq_true rfl) rfl ?_
  refine zi_aload_n 0 (dq dT_tagByte 0 rfl) rfl ?_
  refine ti_geti hg hs0 (by decide) fT_9 (dq dT_tagByte 1 rfl) ?_
  refine zi_bipush (v := 6) (dq dT_tagByte 2 rfl) (by decide) ?_
  refine zi_icmp_eq (tgt := 27) (dq dT_tagByte 3 rfl) (by decide) (fun c => ?_) (fun c => ?_)
  · have h := q_t c h
    refine zi_iconst (v := 1) (dq dT_tagByte 12 rfl) (by decide) ?_
    refine zi_goto (tgt := 32) (dq dT_tagByte 13 rfl) (by decide) ?_
    exact zG_lv (zs_c 0 rfl (zs_c 1 rfl zs_n)) (ST_tagByte_32 hg h hd )
  · have h := q_f c h
    refine zi_aload_n 0 (dq dT_tagByte 4 rfl) rfl ?_
    refine ti_geti hg hs0 (by decide) fT_9 (dq dT_tagByte 5 rfl) ?_
    refine zi_bipush (v := 7) (dq dT_tagByte 6 rfl) (by decide) ?_
    refine zi_icmp_eq (tgt := 27) (dq dT_tagByte 7 rfl) (by decide) (fun c => ?_) (fun c => ?_)
    · have h := q_t c h
      refine zi_iconst (v := 1) (dq dT_tagByte 12 rfl) (by decide) ?_
      refine zi_goto (tgt := 32) (dq dT_tagByte 13 rfl) (by decide) ?_
      exact zG_lv (zs_c 0 rfl (zs_c 1 rfl zs_n)) (ST_tagByte_32 hg h hd )
    · have h := q_f c h
      refine zi_aload_n 0 (dq dT_tagByte 8 rfl) rfl ?_
      refine ti_geti hg hs0 (by decide) fT_9 (dq dT_tagByte 9 rfl) ?_
      refine zi_bipush (v := 10) (dq dT_tagByte 10 rfl) (by decide) ?_
      refine zi_icmp_ne (tgt := 31) (dq dT_tagByte 11 rfl) (by decide) (fun c => ?_) (fun c => ?_)
      · have h := q_f c h
        refine zi_iconst (v := 0) (dq dT_tagByte 14 rfl) (by decide) ?_
        exact zG_lv (zs_c 0 rfl (zs_c 1 rfl zs_n)) (ST_tagByte_32 hg h hd )
      · have h := q_t c h
        refine zi_iconst (v := 1) (dq dT_tagByte 12 rfl) (by decide) ?_
        refine zi_goto (tgt := 32) (dq dT_tagByte 13 rfl) (by decide) ?_
        exact zG_lv (zs_c 0 rfl (zs_c 1 rfl zs_n)) (ST_tagByte_32 hg h hd )
def FT_tagsOf (N : Nat) (l0 : Int32)  : Option (Int32) :=
  if l0 = 1 then
    some ((1 <<< (l0 &&& 31)))
  else
    if l0 = 2 then
      some ((1 <<< (l0 &&& 31)))
    else
      if l0 = 4 then
        some ((1 <<< (l0 &&& 31)))
      else
        if l0 = 5 then
          some ((1 <<< (l0 &&& 31)))
        else
          if l0 = 6 then
            some 65536
          else
            if l0 = 7 then
              some 65536
            else
              some 0
theorem ST_tagsOf {g : zg} {d N : Nat} {M : zM} {r : Int32} {l0 : Int32}  (h : FT_tagsOf N l0 = some r) (hd : 0 ≤ d) : zEi g d mT_tagsOf [.int l0] (M) (fun v Mq => v = r ∧ Mq = M) := by
  unfold FT_tagsOf at h
  refine zEi_q (r := r) (lv := [(0, .int l0)]) ⟨by decide +kernel, by decide, by decide +kernel⟩ (by simp [z_cr, z_ci]) (Nat.le_of_ble_eq_true rfl) rfl ?_
  refine zi_iload_n 0 (dq dT_tagsOf 0 rfl) rfl ?_
  rcases q_w h with ⟨c1, h⟩ | ⟨c1, h⟩
  · refine zi_top c1 ?_
    refine zi_tableIn (tgt := 44) (dq dT_tagsOf 1 rfl) (by decide) (by decide) rfl (by decide) ?_
    refine zi_iconst (v := 1) (dq dT_tagsOf 2 rfl) (by decide) ?_
    refine zi_iload_n 0 (dq dT_tagsOf 3 rfl) rfl ?_
    refine zi_ishl (dq dT_tagsOf 4 rfl) ?_
    exact zi_ireturn rfl rfl (dq dT_tagsOf 5 rfl) (q_riT h)
  rcases q_w h with ⟨c2, h⟩ | ⟨c2, h⟩
  · refine zi_top c2 ?_
    refine zi_tableIn (tgt := 44) (dq dT_tagsOf 1 rfl) (by decide) (by decide) rfl (by decide) ?_
    refine zi_iconst (v := 1) (dq dT_tagsOf 2 rfl) (by decide) ?_
    refine zi_iload_n 0 (dq dT_tagsOf 3 rfl) rfl ?_
    refine zi_ishl (dq dT_tagsOf 4 rfl) ?_
    exact zi_ireturn rfl rfl (dq dT_tagsOf 5 rfl) (q_riT h)
  rcases q_w h with ⟨c4, h⟩ | ⟨c4, h⟩
  · refine zi_top c4 ?_
    refine zi_tableIn (tgt := 44) (dq dT_tagsOf 1 rfl) (by decide) (by decide) rfl (by decide) ?_
    refine zi_iconst (v := 1) (dq dT_tagsOf 2 rfl) (by decide) ?_
    refine zi_iload_n 0 (dq dT_tagsOf 3 rfl) rfl ?_
    refine zi_ishl (dq dT_tagsOf 4 rfl) ?_
    exact zi_ireturn rfl rfl (dq dT_tagsOf 5 rfl) (q_riT h)
  rcases q_w h with ⟨c5, h⟩ | ⟨c5, h⟩
  · refine zi_top c5 ?_
    refine zi_tableIn (tgt := 44) (dq dT_tagsOf 1 rfl) (by decide) (by decide) rfl (by decide) ?_
    refine zi_iconst (v := 1) (dq dT_tagsOf 2 rfl) (by decide) ?_
    refine zi_iload_n 0 (dq dT_tagsOf 3 rfl) rfl ?_
    refine zi_ishl (dq dT_tagsOf 4 rfl) ?_
    exact zi_ireturn rfl rfl (dq dT_tagsOf 5 rfl) (q_riT h)
  rcases q_w h with ⟨c6, h⟩ | ⟨c6, h⟩
  · refine zi_top c6 ?_
    refine zi_tableIn (tgt := 48) (dq dT_tagsOf 1 rfl) (by decide) (by decide) rfl (by decide) ?_
    refine zi_ldc (v := 65536) cT_55 (dq dT_tagsOf 6 rfl) ?_
    exact zi_ireturn rfl rfl (dq dT_tagsOf 7 rfl) (q_riT h)
  rcases q_w h with ⟨c7, h⟩ | ⟨c7, h⟩
  · refine zi_top c7 ?_
    refine zi_tableIn (tgt := 48) (dq dT_tagsOf 1 rfl) (by decide) (by decide) rfl (by decide) ?_
    refine zi_ldc (v := 65536) cT_55 (dq dT_tagsOf 6 rfl) ?_
    exact zi_ireturn rfl rfl (dq dT_tagsOf 7 rfl) (q_riT h)
  refine zi_tableDef (tgt := 51) (vals := [1, 2, 4, 5, 6, 7]) (dq dT_tagsOf 1 rfl) (List.forall_mem_cons.mpr ⟨c1, List.forall_mem_cons.mpr ⟨c2, List.forall_mem_cons.mpr ⟨c4, List.forall_mem_cons.mpr ⟨c5, List.forall_mem_cons.mpr ⟨c6, List.forall_mem_cons.mpr ⟨c7, fun _ h => absurd h List.not_mem_nil⟩⟩⟩⟩⟩⟩) (by decide) (by decide) (by decide) ?_
  refine zi_iconst (v := 0) (dq dT_tagsOf 8 rfl) (by decide) ?_
  exact zi_ireturn rfl rfl (dq dT_tagsOf 9 rfl) (q_riT h)
def FT_untagged_4 (N : Nat) (M0 : zM) (K4 : (Option Nat × Int32) → Option (Option Nat)) (s : Option Nat × Int32) : Option (Option Nat) :=
  let l1 := s.1
  let l2 := s.2
  if 6 ≤ l2 then
    some l1
  else
    qo l1 M0 6 fun o1 =>
    if (zi M0 o1 0) = 10 then
      qo l1 M0 6 fun o2 =>
      if (zr M0 o2 9) = none then
        some l1
      else
        qo l1 M0 6 fun o3 =>
        let y4 := zr M0 o3 9
        let y5 := l2 + (1)
        K4 (y4, y5)
    else
      some l1
theorem ST_untagged_4 {g : zg} {d N : Nat} {M0 M : zM} {r : Option Nat}   (hg : zag M0 M) (hd : 0 ≤ d)  : ∀ n s, qfix (FT_untagged_4 N M0) n s = some r → zG g d mT_untagged (zPq (rR r) (M)) (M) 4 [(1, va_rf s.1), (2, .int s.2)] [] := by
  refine qfix_sound (fun K4 hK4 s h => ?_)
  unfold FT_untagged_4 at h
  refine zi_iload_n 1 (dq dT_untagged 4 rfl) rfl ?_
  refine zi_bipush (v := 6) (dq dT_untagged 5 rfl) (by decide) ?_
  refine zi_icmp_ge (tgt := 37) (dq dT_untagged 6 rfl) (by decide) (fun c => ?_) (fun c => ?_)
  · have h := q_t c h
    refine zi_aload_n 0 (dq dT_untagged 19 rfl) rfl ?_
    exact zi_areturn rfl (dq dT_untagged 20 rfl) (q_rrT h)
  · have h := q_f c h
    refine zi_aload_n 0 (dq dT_untagged 7 rfl) rfl ?_
    obtain ⟨o1, eo1, ho1, h⟩ := q_o h
    refine zi_rc0 eo1 ?_
    refine ti_geti hg ho1 (by decide) fT_9 (dq dT_untagged 8 rfl) ?_
    refine zi_bipush (v := 10) (dq dT_untagged 9 rfl) (by decide) ?_
    refine zi_icmp_ne (tgt := 37) (dq dT_untagged 10 rfl) (by decide) (fun c => ?_) (fun c => ?_)
    · have h := q_f c h
      refine zi_aload_n 0 (dq dT_untagged 19 rfl) rfl ?_
      exact zi_areturn rfl (dq dT_untagged 20 rfl) (q_rrT h)
    · have h := q_t c h
      refine zi_aload_n 0 (dq dT_untagged 11 rfl) rfl ?_
      obtain ⟨o2, eo2, ho2, h⟩ := q_o h
      refine zi_rc0 eo2 ?_
      refine ti_getr hg ho2 (by decide) fT_44 (dq dT_untagged 12 rfl) ?_
      refine zi_ifnull (tgt := 37) (dq dT_untagged 13 rfl) (by decide) (fun c => ?_) (fun _ c => ?_)
      · have h := q_t c h
        refine zi_aload_n 0 (dq dT_untagged 19 rfl) rfl ?_
        exact zi_areturn rfl (dq dT_untagged 20 rfl) (q_rrT h)
      · have h := q_f (by rw [c]; exact nofun) h
        refine zi_aload_n 0 (dq dT_untagged 14 rfl) rfl ?_
        obtain ⟨o3, eo3, ho3, h⟩ := q_o h
        refine zi_rc0 eo3 ?_
        refine ti_getr hg ho3 (by decide) fT_44 (dq dT_untagged 15 rfl) ?_
        refine zi_astC_n (lv' := [(1, _), (2, _)]) (dq dT_untagged 16 rfl) (by decide) (by simp [z_cr, z_ci]) rfl ?_
        refine zi_iincC (v := _ + (1)) (lv' := [(2, _), (1, _)]) 1 (dq dT_untagged 17 rfl) rfl rfl (by decide) (by simp [z_cr, z_ci]) rfl ?_
        refine zi_goto (tgt := 4) (dq dT_untagged 18 rfl) (by decide) ?_
        exact zG_lv (zs_c 1 rfl (zs_c 0 rfl zs_n)) (hK4 _ h)
def FT_untagged (N : Nat) (M0 : zM) (o : Nat)  : Option (Option Nat) :=
  qfix (FT_untagged_4 N M0) N ((some o), 0)
theorem ST_untagged {g : zg} {d N : Nat} {M0 M : zM} {r : Option Nat} {o : Nat} (hg : zag M0 M) (hs0 : zsh M0 o = some (.inl 6)) (h : FT_untagged N M0 o = some r) (hd : 0 ≤ d) : zEr g d mT_untagged [va_rf (some o)] (M) (fun v Mq => v = r ∧ Mq = M) := by
  unfold FT_untagged at h
  refine zEr_q (r := r) (lv := [(0, va_rf (some o))]) ⟨by decide +kernel, by decide, by decide +kernel⟩ (by simp [z_cr, z_ci]) (Nat.le_of_ble_eq_true rfl) rfl ?_
  refine zi_aload_n 0 (dq dT_untagged 0 rfl) rfl ?_
  refine zi_astC_n (lv' := [(1, _), (0, _)]) (dq dT_untagged 1 rfl) (by decide) (by simp [z_cr, z_ci]) rfl ?_
  refine zi_iconst (v := 0) (dq dT_untagged 2 rfl) (by decide) ?_
  refine zi_istC_n (lv' := [(2, _), (1, _), (0, _)]) (dq dT_untagged 3 rfl) (by decide) (by simp [z_cr, z_ci]) rfl ?_
  exact zG_lv (zs_c 1 rfl (zs_c 0 rfl zs_n)) (ST_untagged_4 hg hd  _ _ h)
def FI_areBytesOfOne (N : Nat) (l1 : Int32) (l2 : Int32) (J : zJ) : Option (Bool × zJ) :=
  if l2 < 1 then
    some (false, J)
  else
    if 4 < l2 then
      some (false, J)
    else
      if l1 < 0 then
        some (false, J)
      else
        if (l1 + l2) ≤ (nI 120) then
          if l2 = 1 then
            some (true, J)
          else
            qk (qi l1 120) <|
            qk (qi (l1 + 1) 120) <|
            let y3 := ((J 6 l1.toNatClampNeg) <<< (1 &&& 31)) ||| ((J 6 (l1 + 1).toNatClampNeg) >>> (7 &&& 31))
            if y3 = 0 then
              some (false, J)
            else
              if y3 = 511 then
                some (false, J)
              else
                some (true, J)
        else
          some (false, J)
theorem SI_areBytesOfOne {g : zg} {d N : Nat} {M0 : zM} {A : Nat} {r : Bool} {J1 : zJ} {J : zJ} {l1 : Int32} {l2 : Int32} (hL : zLy M0 A dShL dRf) (h : FI_areBytesOfOne N l1 l2 J = some (r, J1)) (hd : 0 ≤ d) : zEi g d mI_areBytesOfOne [va_rf (some (A + 6)), .int l1, .int l2] (zmm M0 A 32 J) (fun v Mq => v = bI r ∧ Mq = zmm M0 A 32 J1) := by
  unfold FI_areBytesOfOne at h
  refine zEb_q (r := r) (lv := [(0, va_rf (some (A + 6))), (1, .int l1), (2, .int l2)]) ⟨by decide +kernel, by decide, by decide +kernel⟩ (by simp [z_cr, z_ci]) (Nat.le_of_ble_eq_true rfl) rfl ?_
  refine zi_iload_n 2 (dq dI_areBytesOfOne 0 rfl) rfl ?_
  refine zi_iconst (v := 1) (dq dI_areBytesOfOne 1 rfl) (by decide) ?_
  refine zi_icmp_lt (tgt := 22) (dq dI_areBytesOfOne 2 rfl) (by decide) (fun c => ?_) (fun c => ?_)
  · have h := q_t c h
    refine zi_iconst (v := 0) (dq dI_areBytesOfOne 14 rfl) (by decide) ?_
    exact zi_ireturn rfl (by decide) (dq dI_areBytesOfOne 15 rfl) (q_rb (b := false) h)
  · have h := q_f c h
    refine zi_iload_n 2 (dq dI_areBytesOfOne 3 rfl) rfl ?_
    refine zi_iconst (v := 4) (dq dI_areBytesOfOne 4 rfl) (by decide) ?_
    refine zi_icmp_gt (tgt := 22) (dq dI_areBytesOfOne 5 rfl) (by decide) (fun c => ?_) (fun c => ?_)
    · have h := q_t c h
      refine zi_iconst (v := 0) (dq dI_areBytesOfOne 14 rfl) (by decide) ?_
      exact zi_ireturn rfl (by decide) (dq dI_areBytesOfOne 15 rfl) (q_rb (b := false) h)
    · have h := q_f c h
      refine zi_iload_n 1 (dq dI_areBytesOfOne 6 rfl) rfl ?_
      refine zi_if_lt (tgt := 22) (dq dI_areBytesOfOne 7 rfl) (by decide) (fun c => ?_) (fun c => ?_)
      · have h := q_t c h
        refine zi_iconst (v := 0) (dq dI_areBytesOfOne 14 rfl) (by decide) ?_
        exact zi_ireturn rfl (by decide) (dq dI_areBytesOfOne 15 rfl) (q_rb (b := false) h)
      · have h := q_f c h
        refine zi_iload_n 1 (dq dI_areBytesOfOne 8 rfl) rfl ?_
        refine zi_iload_n 2 (dq dI_areBytesOfOne 9 rfl) rfl ?_
        refine zi_iadd (dq dI_areBytesOfOne 10 rfl) ?_
        refine zi_aload_n 0 (dq dI_areBytesOfOne 11 rfl) rfl ?_
        refine ri_alen (zLs hL 6 rfl) rfl (dq dI_areBytesOfOne 12 rfl) ?_
        refine zi_icmp_le (tgt := 24) (dq dI_areBytesOfOne 13 rfl) (by decide) (fun c => ?_) (fun c => ?_)
        · have h := q_t c h
          refine zi_iload_n 2 (dq dI_areBytesOfOne 16 rfl) rfl ?_
          refine zi_iconst (v := 1) (dq dI_areBytesOfOne 17 rfl) (by decide) ?_
          refine zi_icmp_ne (tgt := 31) (dq dI_areBytesOfOne 18 rfl) (by decide) (fun c => ?_) (fun c => ?_)
          · have h := q_f c h
            refine zi_aload_n 0 (dq dI_areBytesOfOne 21 rfl) rfl ?_
            refine zi_iload_n 1 (dq dI_areBytesOfOne 22 rfl) rfl ?_
            obtain ⟨c1, h⟩ := q_k h
            refine ri_iald (zLs hL 6 rfl) (by decide) rfl c1 (dq dI_areBytesOfOne 23 rfl) ?_
            refine zi_iconst (v := 1) (dq dI_areBytesOfOne 24 rfl) (by decide) ?_
            refine zi_ishl (dq dI_areBytesOfOne 25 rfl) ?_
            refine zi_aload_n 0 (dq dI_areBytesOfOne 26 rfl) rfl ?_
            refine zi_iload_n 1 (dq dI_areBytesOfOne 27 rfl) rfl ?_
            refine zi_iconst (v := 1) (dq dI_areBytesOfOne 28 rfl) (by decide) ?_
            refine zi_iadd (dq dI_areBytesOfOne 29 rfl) ?_
            obtain ⟨c2, h⟩ := q_k h
            refine ri_iald (zLs hL 6 rfl) (by decide) rfl c2 (dq dI_areBytesOfOne 30 rfl) ?_
            refine zi_bipush (v := 7) (dq dI_areBytesOfOne 31 rfl) (by decide) ?_
            refine zi_ishr (dq dI_areBytesOfOne 32 rfl) ?_
            refine zi_ior (dq dI_areBytesOfOne 33 rfl) ?_
            refine zi_istC_n (lv' := [(3, _), (0, _), (1, _), (2, _)]) (dq dI_areBytesOfOne 34 rfl) (by decide) (by simp [z_cr, z_ci]) rfl ?_
            refine zi_iload_n 0 (dq dI_areBytesOfOne 35 rfl) rfl ?_
            refine zi_if_eq (tgt := 61) (dq dI_areBytesOfOne 36 rfl) (by decide) (fun c => ?_) (fun c => ?_)
            · have h := q_t c h
              refine zi_iconst (v := 0) (dq dI_areBytesOfOne 42 rfl) (by decide) ?_
              exact zi_ireturn rfl (by decide) (dq dI_areBytesOfOne 43 rfl) (q_rb (b := false) h)
            · have h := q_f c h
              refine zi_iload_n 0 (dq dI_areBytesOfOne 37 rfl) rfl ?_
              refine zi_sipush (v := 511) (dq dI_areBytesOfOne 38 rfl) (by decide) ?_
              refine zi_icmp_eq (tgt := 61) (dq dI_areBytesOfOne 39 rfl) (by decide) (fun c => ?_) (fun c => ?_)
              · have h := q_t c h
                refine zi_iconst (v := 0) (dq dI_areBytesOfOne 42 rfl) (by decide) ?_
                exact zi_ireturn rfl (by decide) (dq dI_areBytesOfOne 43 rfl) (q_rb (b := false) h)
              · have h := q_f c h
                refine zi_iconst (v := 1) (dq dI_areBytesOfOne 40 rfl) (by decide) ?_
                refine zi_goto (tgt := 62) (dq dI_areBytesOfOne 41 rfl) (by decide) ?_
                exact zi_ireturn rfl (by decide) (dq dI_areBytesOfOne 43 rfl) (q_rb (b := true) h)
          · have h := q_t c h
            refine zi_iconst (v := 1) (dq dI_areBytesOfOne 19 rfl) (by decide) ?_
            exact zi_ireturn rfl (by decide) (dq dI_areBytesOfOne 20 rfl) (q_rb (b := true) h)
        · have h := q_f c h
          refine zi_iconst (v := 0) (dq dI_areBytesOfOne 14 rfl) (by decide) ?_
          exact zi_ireturn rfl (by decide) (dq dI_areBytesOfOne 15 rfl) (q_rb (b := false) h)
def FI_fromBytes_18 (N : Nat) (l1 : Int32) (l2 : Int32) (K18 : (Int32 × Int32 × zJ) → Option (Int32 × zJ)) (s : Int32 × Int32 × zJ) : Option (Int32 × zJ) :=
  let l3 := s.1
  let l4 := s.2.1
  let J := s.2.2
  if (l1 + l2) ≤ l4 then
    some (l3, J)
  else
    qk (qi l4 120) <|
    let y2 := (l3 <<< (8 &&& 31)) ||| (J 6 l4.toNatClampNeg)
    let y3 := l4 + (1)
    K18 (y2, y3, J)
theorem SI_fromBytes_18 {g : zg} {d N : Nat} {M0 : zM} {A : Nat} {r : Int32} {J1 : zJ}  {l1 : Int32} {l2 : Int32} (hL : zLy M0 A dShL dRf) (hd : 0 ≤ d)  : ∀ n s, qfix (FI_fromBytes_18 N l1 l2) n s = some (r, J1) → zG g d mI_fromBytes (zPq (rI r) (zmm M0 A 32 J1)) (zmm M0 A 32 s.2.2) 18 [(0, va_rf (some (A + 6))), (1, .int l1), (2, .int l2), (3, .int s.1), (4, .int s.2.1)] [] := by
  refine qfix_sound (fun K18 hK18 s h => ?_)
  unfold FI_fromBytes_18 at h
  refine zi_iload 4 (dq dI_fromBytes 11 rfl) rfl ?_
  refine zi_iload_n 1 (dq dI_fromBytes 12 rfl) rfl ?_
  refine zi_iload_n 2 (dq dI_fromBytes 13 rfl) rfl ?_
  refine zi_iadd (dq dI_fromBytes 14 rfl) ?_
  refine zi_icmp_ge (tgt := 42) (dq dI_fromBytes 15 rfl) (by decide) (fun c => ?_) (fun c => ?_)
  · have h := q_t c h
    refine zi_iload_n 3 (dq dI_fromBytes 26 rfl) rfl ?_
    exact zi_ireturn rfl rfl (dq dI_fromBytes 27 rfl) (q_ri h)
  · have h := q_f c h
    refine zi_iload_n 3 (dq dI_fromBytes 16 rfl) rfl ?_
    refine zi_bipush (v := 8) (dq dI_fromBytes 17 rfl) (by decide) ?_
    refine zi_ishl (dq dI_fromBytes 18 rfl) ?_
    refine zi_aload_n 0 (dq dI_fromBytes 19 rfl) rfl ?_
    refine zi_iload 4 (dq dI_fromBytes 20 rfl) rfl ?_
    obtain ⟨c1, h⟩ := q_k h
    refine ri_iald (zLs hL 6 rfl) (by decide) rfl c1 (dq dI_fromBytes 21 rfl) ?_
    refine zi_ior (dq dI_fromBytes 22 rfl) ?_
    refine zi_istC_n (lv' := [(3, _), (0, _), (1, _), (2, _), (4, _)]) (dq dI_fromBytes 23 rfl) (by decide) (by simp [z_cr, z_ci]) rfl ?_
    refine zi_iincC (v := _ + (1)) (lv' := [(4, _), (3, _), (0, _), (1, _), (2, _)]) 4 (dq dI_fromBytes 24 rfl) rfl rfl (by decide) (by simp [z_cr, z_ci]) rfl ?_
    refine zi_goto (tgt := 18) (dq dI_fromBytes 25 rfl) (by decide) ?_
    exact zG_lv (zs_c 2 rfl (zs_c 3 rfl (zs_c 4 rfl (zs_c 1 rfl (zs_c 0 rfl zs_n))))) (hK18 _ h)
def FI_fromBytes (N : Nat) (l1 : Int32) (l2 : Int32) (J : zJ) : Option (Int32 × zJ) :=
  qk (qi l1 120) <|
  if 128 ≤ (J 6 l1.toNatClampNeg) then
    qfix (FI_fromBytes_18 N l1 l2) N (((-1)), l1, J)
  else
    qfix (FI_fromBytes_18 N l1 l2) N (0, l1, J)
theorem SI_fromBytes {g : zg} {d N : Nat} {M0 : zM} {A : Nat} {r : Int32} {J1 : zJ} {J : zJ} {l1 : Int32} {l2 : Int32} (hL : zLy M0 A dShL dRf) (h : FI_fromBytes N l1 l2 J = some (r, J1)) (hd : 0 ≤ d) : zEi g d mI_fromBytes [va_rf (some (A + 6)), .int l1, .int l2] (zmm M0 A 32 J) (fun v Mq => v = r ∧ Mq = zmm M0 A 32 J1) := by
  unfold FI_fromBytes at h
  refine zEi_q (r := r) (lv := [(0, va_rf (some (A + 6))), (1, .int l1), (2, .int l2)]) ⟨by decide +kernel, by decide, by decide +kernel⟩ (by simp [z_cr, z_ci]) (Nat.le_of_ble_eq_true rfl) rfl ?_
  refine zi_aload_n 0 (dq dI_fromBytes 0 rfl) rfl ?_
  refine zi_iload_n 1 (dq dI_fromBytes 1 rfl) rfl ?_
  obtain ⟨c1, h⟩ := q_k h
  refine ri_iald (zLs hL 6 rfl) (by decide) rfl c1 (dq dI_fromBytes 2 rfl) ?_
  refine zi_sipush (v := 128) (dq dI_fromBytes 3 rfl) (by decide) ?_
  refine zi_icmp_ge (tgt := 13) (dq dI_fromBytes 4 rfl) (by decide) (fun c => ?_) (fun c => ?_)
  · have h := q_t c h
    refine zi_iconst (v := (-1)) (dq dI_fromBytes 7 rfl) (by decide) ?_
    refine zi_istC_n (lv' := [(3, _), (0, _), (1, _), (2, _)]) (dq dI_fromBytes 8 rfl) (by decide) (by simp [z_cr, z_ci]) rfl ?_
    refine zi_iload_n 2 (dq dI_fromBytes 9 rfl) rfl ?_
    refine zi_istC (lv' := [(4, _), (3, _), (0, _), (1, _), (2, _)]) (dq dI_fromBytes 10 rfl) (by decide) (by simp [z_cr, z_ci]) rfl ?_
    exact zG_lv (zs_c 2 rfl (zs_c 3 rfl (zs_c 4 rfl (zs_c 1 rfl (zs_c 0 rfl zs_n))))) (SI_fromBytes_18 hL hd  _ _ h)
  · have h := q_f c h
    refine zi_iconst (v := 0) (dq dI_fromBytes 5 rfl) (by decide) ?_
    refine zi_goto (tgt := 14) (dq dI_fromBytes 6 rfl) (by decide) ?_
    refine zi_istC_n (lv' := [(3, _), (0, _), (1, _), (2, _)]) (dq dI_fromBytes 8 rfl) (by decide) (by simp [z_cr, z_ci]) rfl ?_
    refine zi_iload_n 2 (dq dI_fromBytes 9 rfl) rfl ?_
    refine zi_istC (lv' := [(4, _), (3, _), (0, _), (1, _), (2, _)]) (dq dI_fromBytes 10 rfl) (by decide) (by simp [z_cr, z_ci]) rfl ?_
    exact zG_lv (zs_c 2 rfl (zs_c 3 rfl (zs_c 4 rfl (zs_c 1 rfl (zs_c 0 rfl zs_n))))) (SI_fromBytes_18 hL hd  _ _ h)
