/-! SIMPLE CALLS -/
theorem dlt (a b : Int32) : decide (a < b) = decide (a.toInt < b.toInt) := by simp only [Int32.lt_iff_toInt_lt]
theorem FM_in_eq (N : Nat) (a b c : Int32) : FM_in N a b c = some (decide (b.toInt ≤ a.toInt) && decide (a.toInt ≤ c.toInt)) := by
  unfold FM_in
  simp only [Int32.lt_iff_toInt_lt]
  by_cases h1 : a.toInt < b.toInt
  · rw [if_pos h1]
    simp
    intro h
    omega
  · rw [if_neg h1]
    by_cases h2 : c.toInt < a.toInt
    · rw [if_pos h2]
      simp
      intro h
      omega
    · rw [if_neg h2]
      simp
      omega
theorem i_lit (n : Nat) (h : n < 2 ^ 31) : (OfNat.ofNat n : Int32).toInt = n := nI_toInt h
theorem i_0 : (0 : Int32).toInt = 0 := by decide
theorem i_1 : (1 : Int32).toInt = 1 := by decide
theorem i_neg1 : (-1 : Int32).toInt = -1 := by decide
theorem nI_subs {a b : Nat} (h : b ≤ a) : nI a - nI b = nI (a - b) := by
  have e := nI_add (a - b) b
  rw [Nat.sub_add_cancel h] at e
  rw [← e, Int32.add_sub_cancel]
theorem nI_m1 {n : Nat} (h : n < 2 ^ 31) : (nI n - 1).toInt = (n : Int) - 1 := by
  cases n with
  | zero => decide
  | succ n => rw [nI_pred, nI_toInt (by omega)]; omega
theorem nI_ex {x : Int32} (h : 0 ≤ x.toInt) : ∃ j : Nat, j < 2 ^ 31 ∧ x = nI j ∧ x.toInt = j := by
  have h0 : ¬ x < 0 := by rw [Int32.lt_iff_toInt_lt, i_0]; omega
  obtain ⟨j, h1, h2⟩ := nI_of (x := x) h0
  exact ⟨j, h1, h2, by rw [h2, nI_toInt h1]⟩
theorem zLr0 {M0 : zM} {A : Nat} {sh : List (Nat × (Nat ⊕ Nat × Nat))} {rf : List (Nat × Nat × Nat)} (h : zLy M0 A sh rf) (i : Nat) {k c1 : Nat} (hi : rf[i]? = some (0, k, c1)) : zr M0 A k = some (A + c1) := zLr h i hi
theorem zLs0 {M0 : zM} {A : Nat} {sh : List (Nat × (Nat ⊕ Nat × Nat))} {rf : List (Nat × Nat × Nat)} (h : zLy M0 A sh rf) (i : Nat) {s : Nat ⊕ Nat × Nat} (hi : sh[i]? = some (0, s)) : zsh M0 A = some s := zLs h i hi
/-- at of the reference -/
theorem eM_at {J : zJ} {n : Nat} (h27 : J 0 27 = nI n) (hn : n ≤ 120) (N : Nat) (k : Int32) : FM_at N k J = if k.toInt = -1 then some (nI n, zu J 0 0 0) else if 0 ≤ k.toInt ∧ k.toInt < n then some (J 18 k.toNatClampNeg, zu J 0 0 0) else some (0, zu J 0 0 1) := by
  unfold FM_at
  rw [FM_in_eq, h27, nI_m1 (by omega), i_neg1]
  simp only [qc, bI_eq0]
  by_cases c1 : k.toInt = -1
  · rw [if_pos c1, if_neg (by simp [c1]; omega)]
    unfold FM_at_20
    simp only [zu_self, Int32.le_iff_toInt_le, i_0]
    rw [if_pos (by decide), if_neg (by omega)]
    simp [zu_at, h27]
  · rw [if_neg c1]
    by_cases c2 : 0 ≤ k.toInt ∧ k.toInt < n
    · rw [if_pos c2, if_neg (by simp; omega)]
      unfold FM_at_20
      simp only [zu_self, Int32.le_iff_toInt_le, i_0]
      rw [if_pos (by decide), if_pos (by omega)]
      obtain ⟨j, hj, rfl, ej⟩ := nI_ex c2.1
      rw [qk_t (qi_nI (by omega) (by omega))]
      simp [zu_at]
    · rw [if_neg c2, if_pos (by simp; omega)]
      unfold FM_at_20
      simp only [zu_self, Int32.le_iff_toInt_le, i_0]
      rw [if_neg (by decide)]
theorem FD_at_eq {M : zM} {A KC KS n : Nat} (hL : zLy M A dShL dRf) (hr : zsz M + 1 ≤ KC ∧ zsl M + 6 ≤ KS) (h5 : zJo M A 0 5 = nI n) (hn : n ≤ 120) (N : Nat) (k : Int32) : FD_at N KC KS A k M = if k.toInt = -1 then some (.inl (nI n), M) else if 0 ≤ k.toInt ∧ k.toInt < n then some (.inl (zJo M A 6 k.toNatClampNeg), M) else some (.inr "java/lang/IndexOutOfBoundsException", zgap M 6) := by
  have e5 : zi M A 5 = nI n := h5
  unfold FD_at FD_at_22
  rw [e5, qk_t (by simp; exact hr)]
  simp only [← Int32.toInt_inj, i_neg1, Int32.lt_iff_toInt_lt, i_0, nI_toInt (show n < 2 ^ 31 by omega)]
  by_cases c1 : k.toInt = -1
  · rw [if_pos c1, if_pos c1]
  · rw [if_neg c1, if_neg c1]
    by_cases c2 : 0 ≤ k.toInt ∧ k.toInt < n
    · rw [if_pos c2, if_neg (by omega), if_pos c2.2]
      obtain ⟨j, hj, rfl, ej⟩ := nI_ex c2.1
      rw [qa_s (zLr0 hL 33 rfl) (zLs hL 6 rfl) (qi_nI (k := j) (by omega) (by omega))]
      rfl
    · rw [if_neg c2]
      by_cases c3 : k.toInt < 0
      · rw [if_pos c3]
      · rw [if_neg c3, if_neg (by omega)]
