/-! THE LAW AS FUNCTIONS (tools/genL.py): its helpers -/
theorem cwL_at : Cond.codeWith mL_at.1 mL_at.2.1 mL_at.2.2.1 mL_at.2.2.2 (zhd mL_at.1) ∈ zCW := zin3 80 rfl rfl
def FL_at (N KC KS : Nat) (o : Nat) (l1 : Int32) (out : Nat) (M : zM) : Option (Int32 × zM) :=
  qk (decide (zsh M o = some (.inl 8))) <|
  qb (FD_at N KC KS o l1 M) fun r M2 => qtI ["java/lang/IndexOutOfBoundsException"] out r M2
theorem SL_at {g : zg} {d N KC KS : Nat} {M M1 : zM} {r : Int32} {o : Nat} {l1 : Int32} {out : Nat} (hz : zZ g KC KS) (h : FL_at N KC KS o l1 out M = some (r, M1)) (hd : 7 ≤ d) : zEW g d mL_at [va_rf (some o), .int l1, va_rf (some out)] M (fun v Mq => v = r ∧ Mq = M1) := by
  unfold FL_at at h
  refine zEW_of (lv := [(0, va_rf (some o)), (1, .int l1), (2, va_rf (some out))]) (by decide +kernel) (by simp [z_cr, z_ci]) (Nat.le_of_ble_eq_true rfl) rfl ?_
  obtain ⟨hs, h⟩ := q_k h
  replace hs := of_decide_eq_true hs
  obtain ⟨x, M2, hx, h⟩ := q_b h
  have S := SD_at (g := g) hz hs hx (d := d - 1) (by omega)
  refine zi_aload_n 2 (dq dL_at 0 rfl) rfl ?_
  refine zi_iconst (v := 0) (dq dL_at 1 rfl) (by decide) ?_
  refine zi_aload_n 0 (dq dL_at 2 rfl) rfl ?_
  refine zi_iload_n 1 (dq dL_at 3 rfl) rfl ?_
  cases x with
  | inl v =>
    refine zi_callV (As := [.int l1]) (zE_x ⟨by decide +kernel, by decide, by decide +kernel⟩ (by simp [z_cr, z_ci]) (Nat.le_of_ble_eq_true rfl) rfl S) wD_at aL_7 iD_at sD_at (by omega) hs rfl rfl (Nat.le_of_ble_eq_true rfl) (dq dL_at 4 rfl) (fun v2 M3 hh => ?_)
    obtain ⟨rfl, rfl⟩ := hh
    simp only [qtI] at h
    obtain ⟨b, nb, eb, hb, ib, h⟩ := q_a h
    cases eb
    refine zi_i2l (dq dL_at 5 rfl) ?_
    refine zi_last hb rfl ib (dq dL_at 6 rfl) ?_
    refine zi_goto (tgt := 15) (dq dL_at 7 rfl) (by decide) ?_
    refine zi_iconst (v := 0) (dq dL_at 11 rfl) (by decide) ?_
    exact zi_ireturn rfl rfl (dq dL_at 12 rfl) ⟨_, rfl, by cases h; exact ⟨rfl, rfl⟩⟩
  | inr C =>
    simp only [qtI, qix] at h
    rcases q_w h with ⟨rfl, h⟩ | ⟨-, h⟩
    · refine zi_catchV (As := [.int l1]) (hpc := 12) (Cs := ["java/lang/IndexOutOfBoundsException"]) (zX_x ⟨by decide +kernel, by decide, by decide +kernel⟩ (by simp [z_cr, z_ci]) (Nat.le_of_ble_eq_true rfl) rfl S) wD_at aL_7 iD_at sD_at (by omega) hs rfl rfl (Nat.le_of_ble_eq_true rfl) (by simp [zXN]) (by simp [zfd, zhd, mL_at, zXN]) ⟨bL_13, trivial⟩ (dq dL_at 4 rfl) (fun a M3 hh => ?_)
      subst hh
      refine zi_astC_n (lv' := [(3, _), (0, _), (1, _), (2, _)]) (dq dL_at 8 rfl) (by decide) (by simp [z_cr, z_ci]) rfl ?_
      refine zi_iconst (v := 1) (dq dL_at 9 rfl) (by decide) ?_
      exact zi_ireturn rfl rfl (dq dL_at 10 rfl) ⟨_, rfl, by cases h; exact ⟨by decide, rfl⟩⟩
    cases h
theorem cwL_transcode : Cond.codeWith mL_transcode.1 mL_transcode.2.1 mL_transcode.2.2.1 mL_transcode.2.2.2 (zhd mL_transcode.1) ∈ zCW := zin3 158 rfl rfl
def FL_transcode (N KC KS : Nat) (o : Nat) (l1 : Int32) (l2 : Int32) (l3 : Int32) (out : Nat) (M : zM) : Option (Int32 × zM) :=
  qk (decide (zsh M o = some (.inl 8))) <|
  qb (FD_transcode N KC KS o l1 l2 l3 M) fun r M2 => qtI ["java/lang/IllegalArgumentException", "java/lang/IllegalStateException", "java/util/NoSuchElementException", "java/lang/UnsupportedOperationException"] out r M2
theorem SL_transcode {g : zg} {d N KC KS : Nat} {M M1 : zM} {r : Int32} {o : Nat} {l1 : Int32} {l2 : Int32} {l3 : Int32} {out : Nat} (hz : zZ g KC KS) (h : FL_transcode N KC KS o l1 l2 l3 out M = some (r, M1)) (hd : 36 ≤ d) : zEW g d mL_transcode [va_rf (some o), .int l1, .int l2, .int l3, va_rf (some out)] M (fun v Mq => v = r ∧ Mq = M1) := by
  unfold FL_transcode at h
  refine zEW_of (lv := [(0, va_rf (some o)), (1, .int l1), (2, .int l2), (3, .int l3), (4, va_rf (some out))]) (by decide +kernel) (by simp [z_cr, z_ci]) (Nat.le_of_ble_eq_true rfl) rfl ?_
  obtain ⟨hs, h⟩ := q_k h
  replace hs := of_decide_eq_true hs
  obtain ⟨x, M2, hx, h⟩ := q_b h
  have S := SD_transcode (g := g) hz hs hx (d := d - 1) (by omega)
  refine zi_aload 4 (dq dL_transcode 0 rfl) rfl ?_
  refine zi_iconst (v := 0) (dq dL_transcode 1 rfl) (by decide) ?_
  refine zi_aload_n 0 (dq dL_transcode 2 rfl) rfl ?_
  refine zi_iload_n 1 (dq dL_transcode 3 rfl) rfl ?_
  refine zi_iload_n 2 (dq dL_transcode 4 rfl) rfl ?_
  refine zi_iload_n 3 (dq dL_transcode 5 rfl) rfl ?_
  cases x with
  | inl v =>
    refine zi_callV (As := [.int l1, .int l2, .int l3]) (zE_x ⟨by decide +kernel, by decide, by decide +kernel⟩ (by simp [z_cr, z_ci]) (Nat.le_of_ble_eq_true rfl) rfl S) wD_transcode aL_15 iD_transcode sD_transcode (by omega) hs rfl rfl (Nat.le_of_ble_eq_true rfl) (dq dL_transcode 6 rfl) (fun v2 M3 hh => ?_)
    obtain ⟨rfl, rfl⟩ := hh
    simp only [qtI] at h
    obtain ⟨b, nb, eb, hb, ib, h⟩ := q_a h
    cases eb
    refine zi_i2l (dq dL_transcode 7 rfl) ?_
    refine zi_last hb rfl ib (dq dL_transcode 8 rfl) ?_
    refine zi_goto (tgt := 31) (dq dL_transcode 9 rfl) (by decide) ?_
    refine zi_iconst (v := 0) (dq dL_transcode 22 rfl) (by decide) ?_
    exact zi_ireturn rfl rfl (dq dL_transcode 23 rfl) ⟨_, rfl, by cases h; exact ⟨rfl, rfl⟩⟩
  | inr C =>
    simp only [qtI, qix] at h
    rcases q_w h with ⟨rfl, h⟩ | ⟨-, h⟩
    · refine zi_catchV (As := [.int l1, .int l2, .int l3]) (hpc := 15) (Cs := ["java/lang/IllegalArgumentException", "java/lang/IllegalStateException", "java/util/NoSuchElementException", "java/lang/UnsupportedOperationException"]) (zX_x ⟨by decide +kernel, by decide, by decide +kernel⟩ (by simp [z_cr, z_ci]) (Nat.le_of_ble_eq_true rfl) rfl S) wD_transcode aL_15 iD_transcode sD_transcode (by omega) hs rfl rfl (Nat.le_of_ble_eq_true rfl) (by simp [zXN]) (by simp [zfd, zhd, mL_transcode, zXN]) ⟨bL_19, ⟨bL_21, ⟨bL_23, ⟨bL_25, trivial⟩⟩⟩⟩ (dq dL_transcode 6 rfl) (fun a M3 hh => ?_)
      subst hh
      refine zi_astC (lv' := [(5, _), (0, _), (1, _), (2, _), (3, _), (4, _)]) (dq dL_transcode 10 rfl) (by decide) (by simp [z_cr, z_ci]) rfl ?_
      refine zi_iconst (v := 1) (dq dL_transcode 11 rfl) (by decide) ?_
      exact zi_ireturn rfl rfl (dq dL_transcode 12 rfl) ⟨_, rfl, by cases h; exact ⟨by decide, rfl⟩⟩
    rcases q_w h with ⟨rfl, h⟩ | ⟨-, h⟩
    · refine zi_catchV (As := [.int l1, .int l2, .int l3]) (hpc := 19) (Cs := ["java/lang/IllegalArgumentException", "java/lang/IllegalStateException", "java/util/NoSuchElementException", "java/lang/UnsupportedOperationException"]) (zX_x ⟨by decide +kernel, by decide, by decide +kernel⟩ (by simp [z_cr, z_ci]) (Nat.le_of_ble_eq_true rfl) rfl S) wD_transcode aL_15 iD_transcode sD_transcode (by omega) hs rfl rfl (Nat.le_of_ble_eq_true rfl) (by simp [zXN]) (by simp [zfd, zhd, mL_transcode, zXN]) ⟨bL_19, ⟨bL_21, ⟨bL_23, ⟨bL_25, trivial⟩⟩⟩⟩ (dq dL_transcode 6 rfl) (fun a M3 hh => ?_)
      subst hh
      refine zi_astC (lv' := [(5, _), (0, _), (1, _), (2, _), (3, _), (4, _)]) (dq dL_transcode 13 rfl) (by decide) (by simp [z_cr, z_ci]) rfl ?_
      refine zi_iconst (v := 2) (dq dL_transcode 14 rfl) (by decide) ?_
      exact zi_ireturn rfl rfl (dq dL_transcode 15 rfl) ⟨_, rfl, by cases h; exact ⟨by decide, rfl⟩⟩
    rcases q_w h with ⟨rfl, h⟩ | ⟨-, h⟩
    · refine zi_catchV (As := [.int l1, .int l2, .int l3]) (hpc := 23) (Cs := ["java/lang/IllegalArgumentException", "java/lang/IllegalStateException", "java/util/NoSuchElementException", "java/lang/UnsupportedOperationException"]) (zX_x ⟨by decide +kernel, by decide, by decide +kernel⟩ (by simp [z_cr, z_ci]) (Nat.le_of_ble_eq_true rfl) rfl S) wD_transcode aL_15 iD_transcode sD_transcode (by omega) hs rfl rfl (Nat.le_of_ble_eq_true rfl) (by simp [zXN]) (by simp [zfd, zhd, mL_transcode, zXN]) ⟨bL_19, ⟨bL_21, ⟨bL_23, ⟨bL_25, trivial⟩⟩⟩⟩ (dq dL_transcode 6 rfl) (fun a M3 hh => ?_)
      subst hh
      refine zi_astC (lv' := [(5, _), (0, _), (1, _), (2, _), (3, _), (4, _)]) (dq dL_transcode 16 rfl) (by decide) (by simp [z_cr, z_ci]) rfl ?_
      refine zi_iconst (v := 3) (dq dL_transcode 17 rfl) (by decide) ?_
      exact zi_ireturn rfl rfl (dq dL_transcode 18 rfl) ⟨_, rfl, by cases h; exact ⟨by decide, rfl⟩⟩
    rcases q_w h with ⟨rfl, h⟩ | ⟨-, h⟩
    · refine zi_catchV (As := [.int l1, .int l2, .int l3]) (hpc := 27) (Cs := ["java/lang/IllegalArgumentException", "java/lang/IllegalStateException", "java/util/NoSuchElementException", "java/lang/UnsupportedOperationException"]) (zX_x ⟨by decide +kernel, by decide, by decide +kernel⟩ (by simp [z_cr, z_ci]) (Nat.le_of_ble_eq_true rfl) rfl S) wD_transcode aL_15 iD_transcode sD_transcode (by omega) hs rfl rfl (Nat.le_of_ble_eq_true rfl) (by simp [zXN]) (by simp [zfd, zhd, mL_transcode, zXN]) ⟨bL_19, ⟨bL_21, ⟨bL_23, ⟨bL_25, trivial⟩⟩⟩⟩ (dq dL_transcode 6 rfl) (fun a M3 hh => ?_)
      subst hh
      refine zi_astC (lv' := [(5, _), (0, _), (1, _), (2, _), (3, _), (4, _)]) (dq dL_transcode 19 rfl) (by decide) (by simp [z_cr, z_ci]) rfl ?_
      refine zi_iconst (v := 4) (dq dL_transcode 20 rfl) (by decide) ?_
      exact zi_ireturn rfl rfl (dq dL_transcode 21 rfl) ⟨_, rfl, by cases h; exact ⟨by decide, rfl⟩⟩
    cases h
theorem cwL_part : Cond.codeWith mL_part.1 mL_part.2.1 mL_part.2.2.1 mL_part.2.2.2 (zhd mL_part.1) ∈ zCW := zin5 51 rfl rfl
def FL_part (N KC KS : Nat) (o : Nat) (l1 : Int32) (l2 : Int32) (out : Nat) (M : zM) : Option (Int32 × zM) :=
  qk (decide (zsh M o = some (.inl 8))) <|
  qb (FD_part N KC KS o l1 l2 M) fun r M2 => qtI ["java/lang/IllegalArgumentException", "java/util/NoSuchElementException"] out r M2
theorem SL_part {g : zg} {d N KC KS : Nat} {M M1 : zM} {r : Int32} {o : Nat} {l1 : Int32} {l2 : Int32} {out : Nat} (hz : zZ g KC KS) (h : FL_part N KC KS o l1 l2 out M = some (r, M1)) (hd : 7 ≤ d) : zEW g d mL_part [va_rf (some o), .int l1, .int l2, va_rf (some out)] M (fun v Mq => v = r ∧ Mq = M1) := by
  unfold FL_part at h
  refine zEW_of (lv := [(0, va_rf (some o)), (1, .int l1), (2, .int l2), (3, va_rf (some out))]) (by decide +kernel) (by simp [z_cr, z_ci]) (Nat.le_of_ble_eq_true rfl) rfl ?_
  obtain ⟨hs, h⟩ := q_k h
  replace hs := of_decide_eq_true hs
  obtain ⟨x, M2, hx, h⟩ := q_b h
  have S := SD_part (g := g) hz hs hx (d := d - 1) (by omega)
  refine zi_aload_n 3 (dq dL_part 0 rfl) rfl ?_
  refine zi_iconst (v := 0) (dq dL_part 1 rfl) (by decide) ?_
  refine zi_aload_n 0 (dq dL_part 2 rfl) rfl ?_
  refine zi_iload_n 1 (dq dL_part 3 rfl) rfl ?_
  refine zi_iload_n 2 (dq dL_part 4 rfl) rfl ?_
  cases x with
  | inl v =>
    refine zi_callV (As := [.int l1, .int l2]) (zE_x ⟨by decide +kernel, by decide, by decide +kernel⟩ (by simp [z_cr, z_ci]) (Nat.le_of_ble_eq_true rfl) rfl S) wD_part aL_27 iD_part sD_part (by omega) hs rfl rfl (Nat.le_of_ble_eq_true rfl) (dq dL_part 5 rfl) (fun v2 M3 hh => ?_)
    obtain ⟨rfl, rfl⟩ := hh
    simp only [qtI] at h
    obtain ⟨b, nb, eb, hb, ib, h⟩ := q_a h
    cases eb
    refine zi_i2l (dq dL_part 6 rfl) ?_
    refine zi_last hb rfl ib (dq dL_part 7 rfl) ?_
    refine zi_goto (tgt := 21) (dq dL_part 8 rfl) (by decide) ?_
    refine zi_iconst (v := 0) (dq dL_part 15 rfl) (by decide) ?_
    exact zi_ireturn rfl rfl (dq dL_part 16 rfl) ⟨_, rfl, by cases h; exact ⟨rfl, rfl⟩⟩
  | inr C =>
    simp only [qtI, qix] at h
    rcases q_w h with ⟨rfl, h⟩ | ⟨-, h⟩
    · refine zi_catchV (As := [.int l1, .int l2]) (hpc := 13) (Cs := ["java/lang/IllegalArgumentException", "java/util/NoSuchElementException"]) (zX_x ⟨by decide +kernel, by decide, by decide +kernel⟩ (by simp [z_cr, z_ci]) (Nat.le_of_ble_eq_true rfl) rfl S) wD_part aL_27 iD_part sD_part (by omega) hs rfl rfl (Nat.le_of_ble_eq_true rfl) (by simp [zXN]) (by simp [zfd, zhd, mL_part, zXN]) ⟨bL_19, ⟨bL_23, trivial⟩⟩ (dq dL_part 5 rfl) (fun a M3 hh => ?_)
      subst hh
      refine zi_astC (lv' := [(4, _), (0, _), (1, _), (2, _), (3, _)]) (dq dL_part 9 rfl) (by decide) (by simp [z_cr, z_ci]) rfl ?_
      refine zi_iconst (v := 1) (dq dL_part 10 rfl) (by decide) ?_
      exact zi_ireturn rfl rfl (dq dL_part 11 rfl) ⟨_, rfl, by cases h; exact ⟨by decide, rfl⟩⟩
    rcases q_w h with ⟨rfl, h⟩ | ⟨-, h⟩
    · refine zi_catchV (As := [.int l1, .int l2]) (hpc := 17) (Cs := ["java/lang/IllegalArgumentException", "java/util/NoSuchElementException"]) (zX_x ⟨by decide +kernel, by decide, by decide +kernel⟩ (by simp [z_cr, z_ci]) (Nat.le_of_ble_eq_true rfl) rfl S) wD_part aL_27 iD_part sD_part (by omega) hs rfl rfl (Nat.le_of_ble_eq_true rfl) (by simp [zXN]) (by simp [zfd, zhd, mL_part, zXN]) ⟨bL_19, ⟨bL_23, trivial⟩⟩ (dq dL_part 5 rfl) (fun a M3 hh => ?_)
      subst hh
      refine zi_astC (lv' := [(4, _), (0, _), (1, _), (2, _), (3, _)]) (dq dL_part 12 rfl) (by decide) (by simp [z_cr, z_ci]) rfl ?_
      refine zi_iconst (v := 2) (dq dL_part 13 rfl) (by decide) ?_
      exact zi_ireturn rfl rfl (dq dL_part 14 rfl) ⟨_, rfl, by cases h; exact ⟨by decide, rfl⟩⟩
    cases h
theorem cwL_octet : Cond.codeWith mL_octet.1 mL_octet.2.1 mL_octet.2.2.1 mL_octet.2.2.2 (zhd mL_octet.1) ∈ zCW := zin5 60 rfl rfl
def FL_octet (N KC KS : Nat) (o : Nat) (l1 : Int32) (l2 : Int32) (out : Nat) (M : zM) : Option (Int32 × zM) :=
  qk (decide (zsh M o = some (.inl 8))) <|
  qb (FD_octet N KC KS o l1 l2 M) fun r M2 => qtI ["java/util/NoSuchElementException"] out r M2
theorem SL_octet {g : zg} {d N KC KS : Nat} {M M1 : zM} {r : Int32} {o : Nat} {l1 : Int32} {l2 : Int32} {out : Nat} (hz : zZ g KC KS) (h : FL_octet N KC KS o l1 l2 out M = some (r, M1)) (hd : 7 ≤ d) : zEW g d mL_octet [va_rf (some o), .int l1, .int l2, va_rf (some out)] M (fun v Mq => v = r ∧ Mq = M1) := by
  unfold FL_octet at h
  refine zEW_of (lv := [(0, va_rf (some o)), (1, .int l1), (2, .int l2), (3, va_rf (some out))]) (by decide +kernel) (by simp [z_cr, z_ci]) (Nat.le_of_ble_eq_true rfl) rfl ?_
  obtain ⟨hs, h⟩ := q_k h
  replace hs := of_decide_eq_true hs
  obtain ⟨x, M2, hx, h⟩ := q_b h
  have S := SD_octet (g := g) hz hs hx (d := d - 1) (by omega)
  refine zi_aload_n 3 (dq dL_octet 0 rfl) rfl ?_
  refine zi_iconst (v := 0) (dq dL_octet 1 rfl) (by decide) ?_
  refine zi_aload_n 0 (dq dL_octet 2 rfl) rfl ?_
  refine zi_iload_n 1 (dq dL_octet 3 rfl) rfl ?_
  refine zi_iload_n 2 (dq dL_octet 4 rfl) rfl ?_
  cases x with
  | inl v =>
    refine zi_callV (As := [.int l1, .int l2]) (zE_x ⟨by decide +kernel, by decide, by decide +kernel⟩ (by simp [z_cr, z_ci]) (Nat.le_of_ble_eq_true rfl) rfl S) wD_octet aL_31 iD_octet sD_octet (by omega) hs rfl rfl (Nat.le_of_ble_eq_true rfl) (dq dL_octet 5 rfl) (fun v2 M3 hh => ?_)
    obtain ⟨rfl, rfl⟩ := hh
    simp only [qtI] at h
    obtain ⟨b, nb, eb, hb, ib, h⟩ := q_a h
    cases eb
    refine zi_i2l (dq dL_octet 6 rfl) ?_
    refine zi_last hb rfl ib (dq dL_octet 7 rfl) ?_
    refine zi_goto (tgt := 17) (dq dL_octet 8 rfl) (by decide) ?_
    refine zi_iconst (v := 0) (dq dL_octet 12 rfl) (by decide) ?_
    exact zi_ireturn rfl rfl (dq dL_octet 13 rfl) ⟨_, rfl, by cases h; exact ⟨rfl, rfl⟩⟩
  | inr C =>
    simp only [qtI, qix] at h
    rcases q_w h with ⟨rfl, h⟩ | ⟨-, h⟩
    · refine zi_catchV (As := [.int l1, .int l2]) (hpc := 13) (Cs := ["java/util/NoSuchElementException"]) (zX_x ⟨by decide +kernel, by decide, by decide +kernel⟩ (by simp [z_cr, z_ci]) (Nat.le_of_ble_eq_true rfl) rfl S) wD_octet aL_31 iD_octet sD_octet (by omega) hs rfl rfl (Nat.le_of_ble_eq_true rfl) (by simp [zXN]) (by simp [zfd, zhd, mL_octet, zXN]) ⟨bL_23, trivial⟩ (dq dL_octet 5 rfl) (fun a M3 hh => ?_)
      subst hh
      refine zi_astC (lv' := [(4, _), (0, _), (1, _), (2, _), (3, _)]) (dq dL_octet 9 rfl) (by decide) (by simp [z_cr, z_ci]) rfl ?_
      refine zi_iconst (v := 1) (dq dL_octet 10 rfl) (by decide) ?_
      exact zi_ireturn rfl rfl (dq dL_octet 11 rfl) ⟨_, rfl, by cases h; exact ⟨by decide, rfl⟩⟩
    cases h
theorem cwL_operation : Cond.codeWith mL_operation.1 mL_operation.2.1 mL_operation.2.2.1 mL_operation.2.2.2 (zhd mL_operation.1) ∈ zCW := zin5 68 rfl rfl
def FL_operation (N KC KS : Nat) (o : Nat) (l1 : Int32) (l2 : Int32) (l3 : Int32) (l4 : Int32) (M : zM) : Option (Int32 × zM) :=
  qk (decide (zsh M o = some (.inl 8))) <|
  qb (FD_operation N KC KS o l1 l2 l3 l4 M) fun r M2 => qtU ["java/lang/IllegalArgumentException", "java/lang/IllegalStateException", "java/util/NoSuchElementException"] r M2
theorem SL_operation {g : zg} {d N KC KS : Nat} {M M1 : zM} {r : Int32} {o : Nat} {l1 : Int32} {l2 : Int32} {l3 : Int32} {l4 : Int32} (hz : zZ g KC KS) (h : FL_operation N KC KS o l1 l2 l3 l4 M = some (r, M1)) (hd : 7 ≤ d) : zEW g d mL_operation [va_rf (some o), .int l1, .int l2, .int l3, .int l4] M (fun v Mq => v = r ∧ Mq = M1) := by
  unfold FL_operation at h
  refine zEW_of (lv := [(0, va_rf (some o)), (1, .int l1), (2, .int l2), (3, .int l3), (4, .int l4)]) (by decide +kernel) (by simp [z_cr, z_ci]) (Nat.le_of_ble_eq_true rfl) rfl ?_
  obtain ⟨hs, h⟩ := q_k h
  replace hs := of_decide_eq_true hs
  obtain ⟨x, M2, hx, h⟩ := q_b h
  have S := SD_operation (g := g) hz hs hx (d := d - 1) (by omega)
  refine zi_aload_n 0 (dq dL_operation 0 rfl) rfl ?_
  refine zi_iload_n 1 (dq dL_operation 1 rfl) rfl ?_
  refine zi_iload_n 2 (dq dL_operation 2 rfl) rfl ?_
  refine zi_iload_n 3 (dq dL_operation 3 rfl) rfl ?_
  refine zi_iload 4 (dq dL_operation 4 rfl) rfl ?_
  cases x with
  | inl v =>
    refine zi_callV (As := [.int l1, .int l2, .int l3, .int l4]) (zE_y ⟨by decide +kernel, by decide, by decide +kernel⟩ (by simp [z_cr, z_ci]) (Nat.le_of_ble_eq_true rfl) rfl S) wD_operation aL_34 iD_operation sD_operation (by omega) hs rfl rfl (Nat.le_of_ble_eq_true rfl) (dq dL_operation 5 rfl) (fun v2 M3 hh => ?_)
    obtain ⟨rfl, rfl⟩ := hh
    refine zi_goto (tgt := 24) (dq dL_operation 6 rfl) (by decide) ?_
    refine zi_iconst (v := 0) (dq dL_operation 16 rfl) (by decide) ?_
    exact zi_ireturn rfl rfl (dq dL_operation 17 rfl) ⟨_, rfl, by cases h; exact ⟨rfl, rfl⟩⟩
  | inr C =>
    simp only [qtU, qix] at h
    rcases q_w h with ⟨rfl, h⟩ | ⟨-, h⟩
    · refine zi_catchV (As := [.int l1, .int l2, .int l3, .int l4]) (hpc := 12) (Cs := ["java/lang/IllegalArgumentException", "java/lang/IllegalStateException", "java/util/NoSuchElementException"]) (zX_y ⟨by decide +kernel, by decide, by decide +kernel⟩ (by simp [z_cr, z_ci]) (Nat.le_of_ble_eq_true rfl) rfl S) wD_operation aL_34 iD_operation sD_operation (by omega) hs rfl rfl (Nat.le_of_ble_eq_true rfl) (by simp [zXN]) (by simp [zfd, zhd, mL_operation, zXN]) ⟨bL_19, ⟨bL_21, ⟨bL_23, trivial⟩⟩⟩ (dq dL_operation 5 rfl) (fun a M3 hh => ?_)
      subst hh
      refine zi_astC (lv' := [(5, _), (0, _), (1, _), (2, _), (3, _), (4, _)]) (dq dL_operation 7 rfl) (by decide) (by simp [z_cr, z_ci]) rfl ?_
      refine zi_iconst (v := 1) (dq dL_operation 8 rfl) (by decide) ?_
      exact zi_ireturn rfl rfl (dq dL_operation 9 rfl) ⟨_, rfl, by cases h; exact ⟨by decide, rfl⟩⟩
    rcases q_w h with ⟨rfl, h⟩ | ⟨-, h⟩
    · refine zi_catchV (As := [.int l1, .int l2, .int l3, .int l4]) (hpc := 16) (Cs := ["java/lang/IllegalArgumentException", "java/lang/IllegalStateException", "java/util/NoSuchElementException"]) (zX_y ⟨by decide +kernel, by decide, by decide +kernel⟩ (by simp [z_cr, z_ci]) (Nat.le_of_ble_eq_true rfl) rfl S) wD_operation aL_34 iD_operation sD_operation (by omega) hs rfl rfl (Nat.le_of_ble_eq_true rfl) (by simp [zXN]) (by simp [zfd, zhd, mL_operation, zXN]) ⟨bL_19, ⟨bL_21, ⟨bL_23, trivial⟩⟩⟩ (dq dL_operation 5 rfl) (fun a M3 hh => ?_)
      subst hh
      refine zi_astC (lv' := [(5, _), (0, _), (1, _), (2, _), (3, _), (4, _)]) (dq dL_operation 10 rfl) (by decide) (by simp [z_cr, z_ci]) rfl ?_
      refine zi_iconst (v := 2) (dq dL_operation 11 rfl) (by decide) ?_
      exact zi_ireturn rfl rfl (dq dL_operation 12 rfl) ⟨_, rfl, by cases h; exact ⟨by decide, rfl⟩⟩
    rcases q_w h with ⟨rfl, h⟩ | ⟨-, h⟩
    · refine zi_catchV (As := [.int l1, .int l2, .int l3, .int l4]) (hpc := 20) (Cs := ["java/lang/IllegalArgumentException", "java/lang/IllegalStateException", "java/util/NoSuchElementException"]) (zX_y ⟨by decide +kernel, by decide, by decide +kernel⟩ (by simp [z_cr, z_ci]) (Nat.le_of_ble_eq_true rfl) rfl S) wD_operation aL_34 iD_operation sD_operation (by omega) hs rfl rfl (Nat.le_of_ble_eq_true rfl) (by simp [zXN]) (by simp [zfd, zhd, mL_operation, zXN]) ⟨bL_19, ⟨bL_21, ⟨bL_23, trivial⟩⟩⟩ (dq dL_operation 5 rfl) (fun a M3 hh => ?_)
      subst hh
      refine zi_astC (lv' := [(5, _), (0, _), (1, _), (2, _), (3, _), (4, _)]) (dq dL_operation 13 rfl) (by decide) (by simp [z_cr, z_ci]) rfl ?_
      refine zi_iconst (v := 3) (dq dL_operation 14 rfl) (by decide) ?_
      exact zi_ireturn rfl rfl (dq dL_operation 15 rfl) ⟨_, rfl, by cases h; exact ⟨by decide, rfl⟩⟩
    cases h
theorem cwL_serve : Cond.codeWith mL_serve.1 mL_serve.2.1 mL_serve.2.2.1 mL_serve.2.2.2 (zhd mL_serve.1) ∈ zCW := zin5 76 rfl rfl
def FL_serve (N KC KS : Nat) (o : Nat) (out : Nat) (M : zM) : Option (Int32 × zM) :=
  qk (decide (zsh M o = some (.inl 8))) <|
  qb (FD_serve N KC KS o  M) fun r M2 => qtI ["java/lang/IllegalStateException"] out r M2
theorem SL_serve {g : zg} {d N KC KS : Nat} {M M1 : zM} {r : Int32} {o : Nat} {out : Nat} (hz : zZ g KC KS) (h : FL_serve N KC KS o out M = some (r, M1)) (hd : 36 ≤ d) : zEW g d mL_serve [va_rf (some o), va_rf (some out)] M (fun v Mq => v = r ∧ Mq = M1) := by
  unfold FL_serve at h
  refine zEW_of (lv := [(0, va_rf (some o)), (1, va_rf (some out))]) (by decide +kernel) (by simp [z_cr, z_ci]) (Nat.le_of_ble_eq_true rfl) rfl ?_
  obtain ⟨hs, h⟩ := q_k h
  replace hs := of_decide_eq_true hs
  obtain ⟨x, M2, hx, h⟩ := q_b h
  have S := SD_serve (g := g) hz hs hx (d := d - 1) (by omega)
  refine zi_aload_n 1 (dq dL_serve 0 rfl) rfl ?_
  refine zi_iconst (v := 0) (dq dL_serve 1 rfl) (by decide) ?_
  refine zi_aload_n 0 (dq dL_serve 2 rfl) rfl ?_
  cases x with
  | inl v =>
    refine zi_callV (As := []) (zE_x ⟨by decide +kernel, by decide, by decide +kernel⟩ (by simp [z_cr, z_ci]) (Nat.le_of_ble_eq_true rfl) rfl S) wD_serve aL_38 iD_serve sD_serve (by omega) hs rfl rfl (Nat.le_of_ble_eq_true rfl) (dq dL_serve 3 rfl) (fun v2 M3 hh => ?_)
    obtain ⟨rfl, rfl⟩ := hh
    simp only [qtI] at h
    obtain ⟨b, nb, eb, hb, ib, h⟩ := q_a h
    cases eb
    refine zi_i2l (dq dL_serve 4 rfl) ?_
    refine zi_last hb rfl ib (dq dL_serve 5 rfl) ?_
    refine zi_goto (tgt := 14) (dq dL_serve 6 rfl) (by decide) ?_
    refine zi_iconst (v := 0) (dq dL_serve 10 rfl) (by decide) ?_
    exact zi_ireturn rfl rfl (dq dL_serve 11 rfl) ⟨_, rfl, by cases h; exact ⟨rfl, rfl⟩⟩
  | inr C =>
    simp only [qtI, qix] at h
    rcases q_w h with ⟨rfl, h⟩ | ⟨-, h⟩
    · refine zi_catchV (As := []) (hpc := 11) (Cs := ["java/lang/IllegalStateException"]) (zX_x ⟨by decide +kernel, by decide, by decide +kernel⟩ (by simp [z_cr, z_ci]) (Nat.le_of_ble_eq_true rfl) rfl S) wD_serve aL_38 iD_serve sD_serve (by omega) hs rfl rfl (Nat.le_of_ble_eq_true rfl) (by simp [zXN]) (by simp [zfd, zhd, mL_serve, zXN]) ⟨bL_21, trivial⟩ (dq dL_serve 3 rfl) (fun a M3 hh => ?_)
      subst hh
      refine zi_astC_n (lv' := [(2, _), (0, _), (1, _)]) (dq dL_serve 7 rfl) (by decide) (by simp [z_cr, z_ci]) rfl ?_
      refine zi_iconst (v := 1) (dq dL_serve 8 rfl) (by decide) ?_
      exact zi_ireturn rfl rfl (dq dL_serve 9 rfl) ⟨_, rfl, by cases h; exact ⟨by decide, rfl⟩⟩
    cases h
