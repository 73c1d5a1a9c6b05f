/-! THE COMPILER, its smallest methods -/
theorem z_ci (x : Int32) : (Value.int x).category = 1 := rfl
theorem z_nle {x z : Int32} (h : ¬ z ≤ x) : x < z := Int32.not_le.mp h
/-- the character that is next, -1 at the end: the text t, n of it, at place p -/
def cNx (M : zM) (c t : Nat) : Int32 := if zi M c 6 ≤ zi M c 7 then -1 else zi M t (zi M c 7).toNatClampNeg
theorem C_next {g : zg} {d : Nat} {M : zM} {c t : Nat} (s0 : zsh M c = some (.inl 0)) (s1 : zsh M t = some (.inr (1, 150))) (r0 : zr M c 0 = some t) (hb : zi M c 7 < zi M c 6 → vp_in (zi M c 7) 150) : zEi g (d) mC_nextCharacter [va_rf (some c)] M (fun r M1 => r = cNx M c t ∧ M1 = M) := by
  refine zEi_of (lv := [(0, va_rf (some c))]) ⟨by decide +kernel, by decide⟩ (by simp [z_cr, z_ci]) (Nat.le_of_ble_eq_true rfl) rfl ?_
  refine zi_aload_n 0 (dq dC_nextCharacter 0 rfl) rfl ?_
  refine zi_geti (by first | exact s0 | exact s1) fC_44 (dq dC_nextCharacter 1 rfl) ?_
  refine zi_aload_n 0 (dq dC_nextCharacter 2 rfl) rfl ?_
  refine zi_geti (by first | exact s0 | exact s1) fC_40 (dq dC_nextCharacter 3 rfl) ?_
  refine zi_icmp_ge (tgt := 23) (dq dC_nextCharacter 4 rfl) (by decide) (fun c8 => ?_) (fun c8 => ?_)
  · refine zi_iconst (v := (-1)) (dq dC_nextCharacter 11 rfl) (by decide) ?_
    exact zi_ireturn rfl rfl (dq dC_nextCharacter 12 rfl) ⟨_, rfl, ⟨by simp [cNx, c8], rfl⟩⟩
  · refine zi_aload_n 0 (dq dC_nextCharacter 5 rfl) rfl ?_
    refine zi_getR (by first | exact s0 | exact s1) fC_9 (by first | exact r0) (dq dC_nextCharacter 6 rfl) ?_
    refine zi_aload_n 0 (dq dC_nextCharacter 7 rfl) rfl ?_
    refine zi_geti (by first | exact s0 | exact s1) fC_44 (dq dC_nextCharacter 8 rfl) ?_
    refine zi_cald (by first | exact s0 | exact s1) rfl (hb (z_nle c8)) (dq dC_nextCharacter 9 rfl) ?_
    refine zi_goto (tgt := 24) (dq dC_nextCharacter 10 rfl) (by decide) ?_
    exact zi_ireturn rfl rfl (dq dC_nextCharacter 12 rfl) ⟨_, rfl, ⟨by simp [cNx, c8], rfl⟩⟩
theorem C_refuse {g : zg} {d : Nat} {M : zM} {c : Nat} {x z : Int32} (s0 : zsh M c = some (.inl 0)) : zEv g (d) mC_refuse [va_rf (some c), .int x, .int z] M (fun M1 => M1 = zpi M c 8 (x + 16 * z)) := by
  refine zEv_of (lv := [(0, va_rf (some c)), (1, .int x), (2, .int z)]) ⟨by decide +kernel, by decide⟩ (by simp [z_cr, z_ci]) (Nat.le_of_ble_eq_true rfl) rfl ?_
  refine zi_aload_n 0 (dq dC_refuse 0 rfl) rfl ?_
  refine zi_iload_n 1 (dq dC_refuse 1 rfl) rfl ?_
  refine zi_bipush (v := 16) (dq dC_refuse 2 rfl) (by decide) ?_
  refine zi_iload_n 2 (dq dC_refuse 3 rfl) rfl ?_
  refine zi_imul (dq dC_refuse 4 rfl) ?_
  refine zi_iadd (dq dC_refuse 5 rfl) ?_
  refine zi_puti (by first | exact s0) fC_47 (fun h => by cases h) rfl rfl (dq dC_refuse 6 rfl) ?_
  exact zi_return rfl (dq dC_refuse 7 rfl) ⟨rfl, rfl⟩
def c_isName (x : Int32) : Int32 := if x < 65 then 0 else if 90 < x then 0 else 1
theorem C_isName {g : zg} {d : Nat} {M : zM} {x : Int32} : zEi g (d) mC_isName [.int x] M (fun r M1 => r = c_isName x ∧ M1 = M) := by
  refine zEi_of (lv := [(0, .int x)]) ⟨by decide +kernel, by decide⟩ (by simp [z_cr, z_ci]) (Nat.le_of_ble_eq_true rfl) rfl ?_
  refine zi_iload_n 0 (dq dC_isName 0 rfl) rfl ?_
  refine zi_bipush (v := 65) (dq dC_isName 1 rfl) (by decide) ?_
  refine zi_icmp_lt (tgt := 16) (dq dC_isName 2 rfl) (by decide) (fun c3 => ?_) (fun c3 => ?_)
  · refine zi_iconst (v := 0) (dq dC_isName 8 rfl) (by decide) ?_
    exact zi_ireturn rfl (by first | rfl | decide | assumption) (dq dC_isName 9 rfl) ⟨_, rfl, ⟨by simp [c_isName, c3], rfl⟩⟩
  · refine zi_iload_n 0 (dq dC_isName 3 rfl) rfl ?_
    refine zi_bipush (v := 90) (dq dC_isName 4 rfl) (by decide) ?_
    refine zi_icmp_gt (tgt := 16) (dq dC_isName 5 rfl) (by decide) (fun c9 => ?_) (fun c9 => ?_)
    · refine zi_iconst (v := 0) (dq dC_isName 8 rfl) (by decide) ?_
      exact zi_ireturn rfl (by first | rfl | decide | assumption) (dq dC_isName 9 rfl) ⟨_, rfl, ⟨by simp [c_isName, c3, c9], rfl⟩⟩
    · refine zi_iconst (v := 1) (dq dC_isName 6 rfl) (by decide) ?_
      refine zi_goto (tgt := 17) (dq dC_isName 7 rfl) (by decide) ?_
      exact zi_ireturn rfl (by first | rfl | decide | assumption) (dq dC_isName 9 rfl) ⟨_, rfl, ⟨by simp [c_isName, c3, c9], rfl⟩⟩
def c_isDigit (x : Int32) : Int32 := if x < 48 then 0 else if 57 < x then 0 else 1
theorem C_isDigit {g : zg} {d : Nat} {M : zM} {x : Int32} : zEi g (d) mC_isDigit [.int x] M (fun r M1 => r = c_isDigit x ∧ M1 = M) := by
  refine zEi_of (lv := [(0, .int x)]) ⟨by decide +kernel, by decide⟩ (by simp [z_cr, z_ci]) (Nat.le_of_ble_eq_true rfl) rfl ?_
  refine zi_iload_n 0 (dq dC_isDigit 0 rfl) rfl ?_
  refine zi_bipush (v := 48) (dq dC_isDigit 1 rfl) (by decide) ?_
  refine zi_icmp_lt (tgt := 16) (dq dC_isDigit 2 rfl) (by decide) (fun c3 => ?_) (fun c3 => ?_)
  · refine zi_iconst (v := 0) (dq dC_isDigit 8 rfl) (by decide) ?_
    exact zi_ireturn rfl (by first | rfl | decide | assumption) (dq dC_isDigit 9 rfl) ⟨_, rfl, ⟨by simp [c_isDigit, c3], rfl⟩⟩
  · refine zi_iload_n 0 (dq dC_isDigit 3 rfl) rfl ?_
    refine zi_bipush (v := 57) (dq dC_isDigit 4 rfl) (by decide) ?_
    refine zi_icmp_gt (tgt := 16) (dq dC_isDigit 5 rfl) (by decide) (fun c9 => ?_) (fun c9 => ?_)
    · refine zi_iconst (v := 0) (dq dC_isDigit 8 rfl) (by decide) ?_
      exact zi_ireturn rfl (by first | rfl | decide | assumption) (dq dC_isDigit 9 rfl) ⟨_, rfl, ⟨by simp [c_isDigit, c3, c9], rfl⟩⟩
    · refine zi_iconst (v := 1) (dq dC_isDigit 6 rfl) (by decide) ?_
      refine zi_goto (tgt := 17) (dq dC_isDigit 7 rfl) (by decide) ?_
      exact zi_ireturn rfl (by first | rfl | decide | assumption) (dq dC_isDigit 9 rfl) ⟨_, rfl, ⟨by simp [c_isDigit, c3, c9], rfl⟩⟩
