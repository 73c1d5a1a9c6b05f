/-! COMPILING: sets of tags on both sides -/
def mOk (y : Int32) : Prop := y &&& 1072758838 = y
def tb (y : Int32) (k : Nat) : Bool := y.toBitVec.getLsbD k
theorem tb_ext {a b : Int32} (h : ∀ k, k < 32 → tb a k = tb b k) : a = b := by
  apply Int32.toBitVec_inj.mp
  exact BitVec.eq_of_getLsbD_eq (fun k hk => h k hk)
theorem tb_or (a b : Int32) (k : Nat) : tb (a ||| b) k = (tb a k || tb b k) := by unfold tb; rw [Int32.toBitVec_or, BitVec.getLsbD_or]
theorem tb_and (a b : Int32) (k : Nat) : tb (a &&& b) k = (tb a k && tb b k) := by unfold tb; rw [Int32.toBitVec_and, BitVec.getLsbD_and]
theorem tb_0 (k : Nat) : tb 0 k = false := by
  show (BitVec.ofNat 32 0).getLsbD k = false
  simp
theorem tb_ge {y : Int32} {k : Nat} (h : 32 ≤ k) : tb y k = false := BitVec.getLsbD_of_ge _ _ h
theorem tb_m : ∀ k : Fin 32, tb 1072758838 k = decide ((k : Nat) = 1 ∨ (k : Nat) = 2 ∨ (k : Nat) = 4 ∨ (k : Nat) = 5 ∨ (k : Nat) = 16 ∨ 20 ≤ (k : Nat) ∧ (k : Nat) ≤ 29) := by decide
theorem mOk_b {y : Int32} (h : mOk y) {k : Nat} (hk : tb y k = true) : k = 1 ∨ k = 2 ∨ k = 4 ∨ k = 5 ∨ k = 16 ∨ 20 ≤ k ∧ k ≤ 29 := by
  have h32 : k < 32 := by
    by_cases c : k < 32
    · exact c
    · rw [tb_ge (by omega)] at hk
      cases hk
  have h1 := congrArg (fun z => tb z k) h
  simp only [tb_and, hk, Bool.true_and] at h1
  have := tb_m ⟨k, h32⟩
  simp only at this
  rw [this] at h1
  exact of_decide_eq_true h1
theorem mOk_of {y : Int32} (h : ∀ k, tb y k = true → k = 1 ∨ k = 2 ∨ k = 4 ∨ k = 5 ∨ k = 16 ∨ 20 ≤ k ∧ k ≤ 29) : mOk y := by
  apply tb_ext
  intro k hk
  rw [tb_and]
  cases hb : tb y k with
  | false => rfl
  | true =>
    have := tb_m ⟨k, hk⟩
    simp only at this
    rw [this, decide_eq_true (h k hb)]
    rfl
theorem mOk_or {a b : Int32} (ha : mOk a) (hb : mOk b) : mOk (a ||| b) := mOk_of (fun k hk => by
  rw [tb_or] at hk
  cases h1 : tb a k with
  | true => exact mOk_b ha h1
  | false =>
    rw [h1, Bool.false_or] at hk
    exact mOk_b hb hk)
theorem mOk_0 : mOk 0 := by unfold mOk; decide
theorem cTag_up (y : Int32) {k : Nat} (hk1 : 27 ≤ k) (hk2 : k < 32) : tb (cTag y) k = false := by
  have h1 : ∀ k : Fin 5, (131071 : Int32).toBitVec.getLsbD (27 + k) = false ∧ (134086656 : Int32).toBitVec.getLsbD (27 + k) = false := by decide
  obtain ⟨j, rfl⟩ := Nat.exists_eq_add_of_le hk1
  obtain ⟨a, b⟩ := h1 ⟨j, by omega⟩
  simp only at a b
  unfold tb cTag
  rw [Int32.toBitVec_or, Int32.toBitVec_and, Int32.toBitVec_and, BitVec.getLsbD_or, BitVec.getLsbD_and, BitVec.getLsbD_and, a, b]
  simp
theorem cTag_l {y : Int32} {k : Nat} (hk : k ≤ 16) : tb (cTag y) k = tb y k := cTag_lo y hk
theorem cTag_h {y : Int32} {k : Nat} (hk1 : 17 ≤ k) (hk2 : k ≤ 26) : tb (cTag y) k = tb y (k + 3) := cTag_hi y hk1 hk2
theorem cTag_or (a b : Int32) : cTag (a ||| b) = cTag a ||| cTag b := by
  apply tb_ext
  intro k hk
  by_cases c1 : k ≤ 16
  · rw [tb_or, cTag_l c1, cTag_l c1, cTag_l c1, tb_or]
  · by_cases c2 : k ≤ 26
    · rw [tb_or, cTag_h (by omega) c2, cTag_h (by omega) c2, cTag_h (by omega) c2, tb_or]
    · rw [tb_or, cTag_up _ (by omega) hk, cTag_up _ (by omega) hk, cTag_up _ (by omega) hk]
      rfl
theorem cTag_dis {a b : Int32} (ha : mOk a) : cTag a &&& cTag b = 0 ↔ a &&& b = 0 := by
  constructor
  · intro h
    apply tb_ext
    intro k hk
    rw [tb_and, tb_0]
    cases h1 : tb a k with
    | false => rfl
    | true =>
      have hb := mOk_b ha h1
      by_cases c1 : k ≤ 16
      · have h2 := congrArg (fun z => tb z k) h
        simp only [tb_and, tb_0, cTag_l c1, h1] at h2
        exact h2
      · have h2 := congrArg (fun z => tb z (k - 3)) h
        simp only [tb_and, tb_0] at h2
        rw [cTag_h (by omega) (by omega), cTag_h (by omega) (by omega), show k - 3 + 3 = k by omega, h1] at h2
        exact h2
  · intro h
    apply tb_ext
    intro k hk
    rw [tb_and, tb_0]
    by_cases c1 : k ≤ 16
    · rw [cTag_l c1, cTag_l c1, ← tb_and, h, tb_0]
    · by_cases c2 : k ≤ 26
      · rw [cTag_h (by omega) c2, cTag_h (by omega) c2, ← tb_and, h, tb_0]
      · rw [cTag_up _ (by omega) hk]
        rfl
theorem cTag_z : cTag 0 = 0 := by decide
/-- the least tag -/
theorem low_pow {y : Int32} {i : Nat} (hi : i < 30) (h1 : tb y i = true) (h2 : ∀ j, j < i → tb y j = false) : (y &&& -y).toInt = 2 ^ i := by
  have e : (y &&& -y) = nI (2 ^ i) := by
    apply tb_ext
    intro k hk
    rw [tb_and]
    have e1 : tb (-y) k = (tb y k ^^ decide (k < 32) && decide (∃ j, j < k ∧ tb y j = true)) := by
      unfold tb
      rw [Int32.toBitVec_neg, BitVec.getLsbD_neg]
    have e2 : tb (nI (2 ^ i)) k = decide (k = i) := by
      show (BitVec.ofNat 32 (2 ^ i)).getLsbD k = _
      rw [BitVec.getLsbD_ofNat, Nat.testBit_two_pow]
      by_cases c : k = i
      · subst c
        simp
        omega
      · have c' : ¬ i = k := fun z => c z.symm
        simp [c, c']
    rw [e1, e2]
    by_cases c : k = i
    · subst c
      have hno : ¬ ∃ j, j < k ∧ tb y j = true := by
        rintro ⟨j, j1, j2⟩
        rw [h2 j j1] at j2
        cases j2
      rw [h1, decide_eq_false hno]
      simp
    · rw [decide_eq_false c]
      by_cases c2 : k < i
      · rw [h2 k c2]
        rfl
      · have hex : ∃ j, j < k ∧ tb y j = true := ⟨i, by omega, h1⟩
        rw [decide_eq_true hex, decide_eq_true hk]
        cases tb y k <;> rfl
  rw [e, nI_toInt]
  · norm_cast
  · exact Nat.lt_of_lt_of_le (Nat.pow_lt_pow_right (by omega) hi) (by decide)
theorem low_ex {y : Int32} (h : y ≠ 0) : ∃ i, tb y i = true ∧ ∀ j, j < i → tb y j = false := by
  have hex : ∃ i, tb y i = true := by
    by_cases c : ∃ i, tb y i = true
    · exact c
    · exfalso
      apply h
      apply tb_ext
      intro k hk
      rw [tb_0]
      cases hb : tb y k with
      | false => rfl
      | true => exact absurd ⟨k, hb⟩ c
  obtain ⟨i, hi⟩ := hex
  induction i using Nat.strongRecOn with
  | ind i ih =>
    by_cases c : ∃ j, j < i ∧ tb y j = true
    · obtain ⟨j, j1, j2⟩ := c
      exact ih j j1 j2
    · refine ⟨i, hi, fun j hj => ?_⟩
      cases hb : tb y j with
      | false => rfl
      | true => exact absurd ⟨j, hj, hb⟩ c
theorem low_cTag {y : Int32} (hm : mOk y) (h : y ≠ 0) : ∃ i, (i ≤ 16 ∨ 20 ≤ i ∧ i ≤ 29) ∧ (y &&& -y).toInt = 2 ^ i ∧ (cTag y &&& -cTag y).toInt = 2 ^ (if i < 20 then i else i - 3) := by
  obtain ⟨i, h1, h2⟩ := low_ex h
  have hb := mOk_b hm h1
  refine ⟨i, by omega, low_pow (by omega) h1 h2, ?_⟩
  by_cases c : i < 20
  · rw [if_pos c]
    refine low_pow (by omega) ?_ (fun j hj => ?_)
    · rw [cTag_l (by omega)]; exact h1
    · rw [cTag_l (by omega)]; exact h2 j hj
  · rw [if_neg c]
    refine low_pow (by omega) ?_ (fun j hj => ?_)
    · rw [cTag_h (by omega) (by omega), show i - 3 + 3 = i by omega]; exact h1
    · by_cases c1 : j ≤ 16
      · rw [cTag_l c1]; exact h2 j (by omega)
      · rw [cTag_h (by omega) (by omega)]; exact h2 (j + 3) (by omega)
theorem low_lt {y z : Int32} (hy : mOk y) (hy0 : y ≠ 0) (hz : mOk z) (hz0 : z ≠ 0) : (cTag y &&& -cTag y) < (cTag z &&& -cTag z) ↔ (y &&& -y) < (z &&& -z) := by
  obtain ⟨i, i1, i2, i3⟩ := low_cTag hy hy0
  obtain ⟨j, j1, j2, j3⟩ := low_cTag hz hz0
  rw [Int32.lt_iff_toInt_lt, Int32.lt_iff_toInt_lt, i2, i3, j2, j3]
  have key : ∀ a b : Nat, ((2 : Int) ^ a < 2 ^ b) ↔ a < b := by
    intro a b
    constructor
    · intro h
      by_cases c : a < b
      · exact c
      · have h2 : 2 ^ b ≤ 2 ^ a := Nat.pow_le_pow_right (by omega) (Nat.le_of_not_lt c)
        have h3 : ((2 ^ b : Nat) : Int) ≤ ((2 ^ a : Nat) : Int) := Int.ofNat_le.mpr h2
        rw [Int.natCast_pow, Int.natCast_pow] at h3
        have : ((2 : Nat) : Int) = 2 := rfl
        rw [this] at h3
        omega
    · intro h
      have h2 : 2 ^ a < 2 ^ b := Nat.pow_lt_pow_right (by omega) h
      have h3 : ((2 ^ a : Nat) : Int) < ((2 ^ b : Nat) : Int) := Int.ofNat_lt.mpr h2
      rw [Int.natCast_pow, Int.natCast_pow] at h3
      exact h3
  rw [key, key]
  by_cases c1 : i < 20
  · by_cases c2 : j < 20
    · rw [if_pos c1, if_pos c2]
    · rw [if_pos c1, if_neg c2]; omega
  · by_cases c2 : j < 20
    · rw [if_neg c1, if_pos c2]; omega
    · rw [if_neg c1, if_neg c2]; omega
