/-! STARTS: what forgets the module on both sides, and the constructors -/
theorem z_ci (x : Int32) : (Value.int x).category = 1 := rfl
/-- leave(): no module, no parts, no operation, no ID -/
def mLv (M : zM) (m ot sv : Nat) : zM := zfi (zfi (zpi (zpi M m 1 0) m 44 0) ot 8 (-1)) sv 256 0
theorem M_leave_1 {g : zg} {d : Nat} {post : zR → zM → Prop} {M : zM} {m ot sv : Nat} (s0 : zsh M m = some (.inl 9)) (s1 : zsh M ot = some (.inr (0, 8))) (s2 : zsh M sv = some (.inr (3, 256))) (r1 : zr M m 55 = some ot) (r2 : zr M m 58 = some sv) (hx : zG g d mM_leave post (zfi M ot 8 (-1)) 31 [(1, .int (nI (8))), (0, va_rf (some m))] []) : ∀ (n k : Nat), k ≤ 8 → 8 < k + n → zG g d mM_leave post (zfi M ot k (-1)) 12 [(1, .int (nI k)), (0, va_rf (some m))] [] := by
  intro n
  induction n with
  | zero => intro k h1 h2; omega
  | succ n ih =>
    intro k h1 h2
    refine zi_iload_n 0 (dq dM_leave 8 rfl) rfl ?_
    refine zi_bipush (v := 8) (dq dM_leave 9 rfl) (by decide) ?_
    refine zi_icmp_ge (tgt := 31) (dq dM_leave 10 rfl) (by decide) (fun c15 => ?_) (fun c15 => ?_)
    · have hk : k = 8 := by have := (nI_le' (k := 8) (n := k) (by omega) (by omega)).mp c15; omega
      subst hk
      exact hx
    · have hk : k < 8 := by rcases Nat.lt_or_ge k 8 with h | h; exact h; exact absurd ((nI_le' (k := 8) (n := k) (by omega) (by omega)).mpr h) c15
      refine zi_aload_n 1 (dq dM_leave 11 rfl) rfl ?_
      refine zi_getR (by first | exact s0 | exact s1) fM_117 (by first | exact r1) (dq dM_leave 12 rfl) ?_
      refine zi_iload_n 0 (dq dM_leave 13 rfl) rfl ?_
      refine zi_iconst (v := (-1)) (dq dM_leave 14 rfl) (by decide) ?_
      refine zi_iast (by first | exact s0 | exact s1) rfl (vp_in_nI hk (by omega)) (dq dM_leave 15 rfl) ?_
      rw [nI_clamp (by omega), zfi_s]
      refine zi_iincC (v := _ + (1)) (lv' := [(1, _), (0, _)]) 0 (dq dM_leave 16 rfl) rfl rfl (by decide) (by simp [z_cr, z_ci]) rfl ?_
      refine zi_goto (tgt := 12) (dq dM_leave 17 rfl) (by decide) ?_
      rw [nI_1]; exact ih (k + 1) (by omega) (by omega)
theorem M_leave_2 {g : zg} {d : Nat} {post : zR → zM → Prop} {M : zM} {m ot sv : Nat} (s0 : zsh M m = some (.inl 9)) (s1 : zsh M ot = some (.inr (0, 8))) (s2 : zsh M sv = some (.inr (3, 256))) (r1 : zr M m 55 = some ot) (r2 : zr M m 58 = some sv) (hx : zG g d mM_leave post (zfi M sv 256 0) 53 [(1, .int (nI (256))), (0, va_rf (some m))] []) : ∀ (n k : Nat), k ≤ 256 → 256 < k + n → zG g d mM_leave post (zfi M sv k 0) 33 [(1, .int (nI k)), (0, va_rf (some m))] [] := by
  intro n
  induction n with
  | zero => intro k h1 h2; omega
  | succ n ih =>
    intro k h1 h2
    refine zi_iload_n 0 (dq dM_leave 20 rfl) rfl ?_
    refine zi_sipush (v := 256) (dq dM_leave 21 rfl) (by decide) ?_
    refine zi_icmp_ge (tgt := 53) (dq dM_leave 22 rfl) (by decide) (fun c37 => ?_) (fun c37 => ?_)
    · have hk : k = 256 := by have := (nI_le' (k := 256) (n := k) (by omega) (by omega)).mp c37; omega
      subst hk
      exact hx
    · have hk : k < 256 := by rcases Nat.lt_or_ge k 256 with h | h; exact h; exact absurd ((nI_le' (k := 256) (n := k) (by omega) (by omega)).mpr h) c37
      refine zi_aload_n 1 (dq dM_leave 23 rfl) rfl ?_
      refine zi_getR (by first | exact s0 | exact s2) fM_126 (by first | exact r2) (dq dM_leave 24 rfl) ?_
      refine zi_iload_n 0 (dq dM_leave 25 rfl) rfl ?_
      refine zi_iconst (v := 0) (dq dM_leave 26 rfl) (by decide) ?_
      refine zi_zast (by first | exact s0 | exact s2) rfl (vp_in_nI hk (by omega)) (by first | rfl | decide | assumption) (dq dM_leave 27 rfl) ?_
      rw [nI_clamp (by omega), zfi_s]
      refine zi_iincC (v := _ + (1)) (lv' := [(1, _), (0, _)]) 0 (dq dM_leave 28 rfl) rfl rfl (by decide) (by simp [z_cr, z_ci]) rfl ?_
      refine zi_goto (tgt := 33) (dq dM_leave 29 rfl) (by decide) ?_
      rw [nI_1]; exact ih (k + 1) (by omega) (by omega)
theorem M_leave {g : zg} {d : Nat} {M : zM} {m ot sv : Nat} (s0 : zsh M m = some (.inl 9)) (s1 : zsh M ot = some (.inr (0, 8))) (s2 : zsh M sv = some (.inr (3, 256))) (r1 : zr M m 55 = some ot) (r2 : zr M m 58 = some sv) : zEv g (d) mM_leave [va_rf (some m)] M (fun M1 => M1 = mLv M m ot sv) := by
  refine zEv_of (lv := [(0, va_rf (some m))]) ⟨by decide +kernel, by decide, by decide +kernel⟩ (by simp [z_cr, z_ci]) (Nat.le_of_ble_eq_true rfl) rfl ?_
  refine zi_aload_n 0 (dq dM_leave 0 rfl) rfl ?_
  refine zi_iconst (v := 0) (dq dM_leave 1 rfl) (by decide) ?_
  refine zi_puti (by first | exact s0) fM_136 (fun h => by cases h) (by first | rfl | decide | assumption) (by first | rfl | decide | assumption) (dq dM_leave 2 rfl) ?_
  refine zi_aload_n 0 (dq dM_leave 3 rfl) rfl ?_
  refine zi_iconst (v := 0) (dq dM_leave 4 rfl) (by decide) ?_
  refine zi_puti (by first | exact s0) fM_140 (fun h => by cases h) rfl rfl (dq dM_leave 5 rfl) ?_
  refine zi_iconst (v := 0) (dq dM_leave 6 rfl) (by decide) ?_
  refine zi_istC_n (lv' := [(1, _), (0, _)]) (dq dM_leave 7 rfl) (by decide) (by simp [z_cr, z_ci]) rfl ?_
  have h1 := M_leave_1 (g := g) (d := d) (post := zPv (fun M1 => M1 = mLv M m ot sv)) (M := zpi (zpi M m 1 0) m 44 0) s0 s1 s2 r1 r2 ?_ 9 0 (by omega) (by omega)
  · rw [zfi_0] at h1; exact h1
  refine zi_iconst (v := 0) (dq dM_leave 18 rfl) (by decide) ?_
  refine zi_istC_n (lv' := [(1, _), (0, _)]) (dq dM_leave 19 rfl) (by decide) (by simp [z_cr, z_ci]) rfl ?_
  have h2 := M_leave_2 (g := g) (d := d) (post := zPv (fun M1 => M1 = mLv M m ot sv)) (M := zfi (zpi (zpi M m 1 0) m 44 0) ot 8 (-1)) s0 s1 s2 r1 r2 ?_ 257 0 (by omega) (by omega)
  · rw [zfi_0] at h2; exact h2
  · exact zi_return rfl (dq dM_leave 30 rfl) ⟨rfl, rfl⟩
theorem V_empty {g : zg} {d : Nat} {M : zM} {v : Nat} (s0 : zsh M v = some (.inl 7)) : zEv g (d) mV_empty [va_rf (some v)] M (fun M1 => M1 = zpi (zpi M v 0 0) v 8 0) := by
  refine zEv_of (lv := [(0, va_rf (some v))]) ⟨by decide +kernel, by decide, by decide +kernel⟩ (by simp [z_cr, z_ci]) (Nat.le_of_ble_eq_true rfl) rfl ?_
  refine zi_aload_n 0 (dq dV_empty 0 rfl) rfl ?_
  refine zi_iconst (v := 0) (dq dV_empty 1 rfl) (by decide) ?_
  refine zi_puti (by first | exact s0) fV_33 (fun h => by cases h) rfl rfl (dq dV_empty 2 rfl) ?_
  refine zi_aload_n 0 (dq dV_empty 3 rfl) rfl ?_
  refine zi_iconst (v := 0) (dq dV_empty 4 rfl) (by decide) ?_
  refine zi_puti (by first | exact s0) fV_37 (fun h => by cases h) rfl rfl (dq dV_empty 5 rfl) ?_
  exact zi_return rfl (dq dV_empty 6 rfl) ⟨rfl, rfl⟩
def dFg (M : zM) (D v ot sv : Nat) : zM := zfl (zfr (zpi (zpi (zpi M D 3 0) v 0 0) v 8 0) ot 8 none) sv 4 0
theorem D_forget_1 {g : zg} {d : Nat} {post : zR → zM → Prop} {M : zM} {D v ot sv : Nat} (s0 : zsh M D = some (.inl 8)) (s1 : zsh M v = some (.inl 7)) (s2 : zsh M ot = some (.inr (4, 8))) (s3 : zsh M sv = some (.inr (2, 4))) (r1 : zr M D 7 = some v) (r2 : zr M D 13 = some ot) (r3 : zr M D 16 = some sv) (hot : ot ≠ D) (hx : zG g d mD_forgetModule post (zfr M ot 8 none) 33 [(1, .int (nI (8))), (0, va_rf (some D))] []) : ∀ (n k : Nat), k ≤ 8 → 8 < k + n → zG g d mD_forgetModule post (zfr M ot k none) 14 [(1, .int (nI k)), (0, va_rf (some D))] [] := by
  intro n
  induction n with
  | zero => intro k h1 h2; omega
  | succ n ih =>
    intro k h1 h2
    refine zi_iload_n 0 (dq dD_forgetModule 8 rfl) rfl ?_
    refine zi_bipush (v := 8) (dq dD_forgetModule 9 rfl) (by decide) ?_
    refine zi_icmp_ge (tgt := 33) (dq dD_forgetModule 10 rfl) (by decide) (fun c17 => ?_) (fun c17 => ?_)
    · have hk : k = 8 := by have := (nI_le' (k := 8) (n := k) (by omega) (by omega)).mp c17; omega
      subst hk
      exact hx
    · have hk : k < 8 := by rcases Nat.lt_or_ge k 8 with h | h; exact h; exact absurd ((nI_le' (k := 8) (n := k) (by omega) (by omega)).mpr h) c17
      refine zi_aload_n 1 (dq dD_forgetModule 11 rfl) rfl ?_
      refine zi_getR (by first | exact s0 | exact s2) fD_71 (by first | exact (by rw [zr_fr, if_neg (fun h => hot h.1.symm)]; exact r2)) (dq dD_forgetModule 12 rfl) ?_
      refine zi_iload_n 0 (dq dD_forgetModule 13 rfl) rfl ?_
      refine zi_null (dq dD_forgetModule 14 rfl) ?_
      refine zi_aastN (by first | exact s0 | exact s2) rfl (vp_in_nI hk (by omega)) (dq dD_forgetModule 15 rfl) ?_
      rw [nI_clamp (by omega), zfr_s]
      refine zi_iincC (v := _ + (1)) (lv' := [(1, _), (0, _)]) 0 (dq dD_forgetModule 16 rfl) rfl rfl (by decide) (by simp [z_cr, z_ci]) rfl ?_
      refine zi_goto (tgt := 14) (dq dD_forgetModule 17 rfl) (by decide) ?_
      rw [nI_1]; exact ih (k + 1) (by omega) (by omega)
theorem D_forget_2 {g : zg} {d : Nat} {post : zR → zM → Prop} {M : zM} {D v ot sv : Nat} (s0 : zsh M D = some (.inl 8)) (s1 : zsh M v = some (.inl 7)) (s2 : zsh M ot = some (.inr (4, 8))) (s3 : zsh M sv = some (.inr (2, 4))) (r1 : zr M D 7 = some v) (r2 : zr M D 13 = some ot) (r3 : zr M D 16 = some sv) (hot : ot ≠ D) (hx : zG g d mD_forgetModule post (zfl M sv 4 0) 57 [(1, .int (nI (4))), (0, va_rf (some D))] []) : ∀ (n k : Nat), k ≤ 4 → 4 < k + n → zG g d mD_forgetModule post (zfl M sv k 0) 35 [(1, .int (nI k)), (0, va_rf (some D))] [] := by
  intro n
  induction n with
  | zero => intro k h1 h2; omega
  | succ n ih =>
    intro k h1 h2
    refine zi_iload_n 0 (dq dD_forgetModule 20 rfl) rfl ?_
    refine zi_aload_n 1 (dq dD_forgetModule 21 rfl) rfl ?_
    refine zi_getR (by first | exact s0 | exact s3) fD_81 (by first | exact r3) (dq dD_forgetModule 22 rfl) ?_
    refine zi_alen (by first | exact s0 | exact s3) rfl (dq dD_forgetModule 23 rfl) ?_
    refine zi_icmp_ge (tgt := 57) (dq dD_forgetModule 24 rfl) (by decide) (fun c41 => ?_) (fun c41 => ?_)
    · have hk : k = 4 := by have := (nI_le' (k := 4) (n := k) (by omega) (by omega)).mp c41; omega
      subst hk
      exact hx
    · have hk : k < 4 := by rcases Nat.lt_or_ge k 4 with h | h; exact h; exact absurd ((nI_le' (k := 4) (n := k) (by omega) (by omega)).mpr h) c41
      refine zi_aload_n 1 (dq dD_forgetModule 25 rfl) rfl ?_
      refine zi_getR (by first | exact s0 | exact s3) fD_81 (by first | exact r3) (dq dD_forgetModule 26 rfl) ?_
      refine zi_iload_n 0 (dq dD_forgetModule 27 rfl) rfl ?_
      refine zi_lconst (v := 0) (dq dD_forgetModule 28 rfl) (by decide) ?_
      refine zi_last (by first | exact s0 | exact s3) rfl (vp_in_nI hk (by omega)) (dq dD_forgetModule 29 rfl) ?_
      rw [nI_clamp (by omega), zfl_s]
      refine zi_iincC (v := _ + (1)) (lv' := [(1, _), (0, _)]) 0 (dq dD_forgetModule 30 rfl) rfl rfl (by decide) (by simp [z_cr, z_ci]) rfl ?_
      refine zi_goto (tgt := 35) (dq dD_forgetModule 31 rfl) (by decide) ?_
      rw [nI_1]; exact ih (k + 1) (by omega) (by omega)
theorem D_forget {g : zg} {d : Nat} {M : zM} {D v ot sv : Nat} (s0 : zsh M D = some (.inl 8)) (s1 : zsh M v = some (.inl 7)) (s2 : zsh M ot = some (.inr (4, 8))) (s3 : zsh M sv = some (.inr (2, 4))) (r1 : zr M D 7 = some v) (r2 : zr M D 13 = some ot) (r3 : zr M D 16 = some sv) (hot : ot ≠ D) : zEv g (d + 1) mD_forgetModule [va_rf (some D)] M (fun M1 => M1 = dFg M D v ot sv) := by
  refine zEv_of (lv := [(0, va_rf (some D))]) ⟨by decide +kernel, by decide, by decide +kernel⟩ (by simp [z_cr, z_ci]) (Nat.le_of_ble_eq_true rfl) rfl ?_
  refine zi_aload_n 0 (dq dD_forgetModule 0 rfl) rfl ?_
  refine zi_iconst (v := 0) (dq dD_forgetModule 1 rfl) (by decide) ?_
  refine zi_puti (by first | exact s0) fD_96 (fun h => by cases h) (by first | rfl | decide | assumption) (by first | rfl | decide | assumption) (dq dD_forgetModule 2 rfl) ?_
  refine zi_aload_n 0 (dq dD_forgetModule 3 rfl) rfl ?_
  refine zi_getR (by first | exact s0) fD_32 (by first | exact r1) (dq dD_forgetModule 4 rfl) ?_
  refine zi_cVv0 (V_empty (d := d) (v := v) s1) wV_empty aD_192 iV_empty sV_empty (by omega) s1 rfl (Nat.le_of_ble_eq_true rfl) (dq dD_forgetModule 5 rfl) (fun M9 h9 => ?_)
  subst h9
  refine zi_iconst (v := 0) (dq dD_forgetModule 6 rfl) (by decide) ?_
  refine zi_istC_n (lv' := [(1, _), (0, _)]) (dq dD_forgetModule 7 rfl) (by decide) (by simp [z_cr, z_ci]) rfl ?_
  have h1 := D_forget_1 (g := g) (d := d + 1) (post := zPv (fun M1 => M1 = dFg M D v ot sv)) (M := zpi (zpi (zpi M D 3 0) v 0 0) v 8 0) s0 s1 s2 s3 r1 r2 r3 hot ?_ 9 0 (by omega) (by omega)
  · rw [zfr_0] at h1; exact h1
  refine zi_iconst (v := 0) (dq dD_forgetModule 18 rfl) (by decide) ?_
  refine zi_istC_n (lv' := [(1, _), (0, _)]) (dq dD_forgetModule 19 rfl) (by decide) (by simp [z_cr, z_ci]) rfl ?_
  have h2 := D_forget_2 (g := g) (d := d + 1) (post := zPv (fun M1 => M1 = dFg M D v ot sv)) (M := zfr (zpi (zpi (zpi M D 3 0) v 0 0) v 8 0) ot 8 none) s0 s1 s2 s3 (by rw [zr_fr, if_neg (fun h => hot h.1.symm)]; exact r1) (by rw [zr_fr, if_neg (fun h => hot h.1.symm)]; exact r2) (by rw [zr_fr, if_neg (fun h => hot h.1.symm)]; exact r3) hot ?_ 5 0 (by omega) (by omega)
  · rw [zfl_0] at h2; exact h2
  · exact zi_return rfl (dq dD_forgetModule 32 rfl) ⟨rfl, rfl⟩
