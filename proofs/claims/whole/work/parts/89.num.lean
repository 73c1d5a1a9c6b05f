/-! NUMBERS: words of the machine against naturals and integers -/
theorem nI_n1 {n : Nat} (h : n < 2 ^ 31) : nI n ≠ -1 := by
  intro e
  have := congrArg Int32.toInt e
  rw [nI_toInt h, i_neg1] at this
  omega
theorem i_neg2 : (-2 : Int32).toInt = -2 := by decide
theorem nI_n2 {n : Nat} (h : n < 2 ^ 31) : nI n ≠ -2 := by
  intro e
  have := congrArg Int32.toInt e
  rw [nI_toInt h, i_neg2] at this
  omega
theorem nI_bv (n : Nat) : (nI n).toBitVec = BitVec.ofNat 32 n := rfl
theorem smod32 : ∀ k : Fin 32, (BitVec.ofNat 32 k).smod 32 = BitVec.ofNat 32 k := by decide
theorem ssr' (x y : BitVec 32) : x.sshiftRight' y = x.sshiftRight y.toNat := rfl
theorem i_shr {a : Int32} {k : Nat} (hk : k < 32) : (a >>> nI k).toInt = a.toInt / 2 ^ k := by
  have h1 : (a >>> nI k).toBitVec = a.toBitVec.sshiftRight k := by
    rw [Int32.toBitVec_shiftRight, nI_bv]
    have := smod32 ⟨k, hk⟩
    simp only at this
    rw [this, ssr', BitVec.toNat_ofNat, Nat.mod_eq_of_lt (by omega)]
  rw [← Int32.toInt_toBitVec, h1, BitVec.toInt_sshiftRight, Int.shiftRight_eq_div_pow, Int32.toInt_toBitVec]
  simp
theorem i_bvnat (x : Int32) : x.toInt = if x.toBitVec.toNat < 2147483648 then (x.toBitVec.toNat : Int) else (x.toBitVec.toNat : Int) - 4294967296 := by
  rw [← Int32.toInt_toBitVec, BitVec.toInt_eq_toNat_cond]
  by_cases h : x.toBitVec.toNat < 2147483648
  · rw [if_pos h, if_pos (by omega)]
  · rw [if_neg h, if_neg (by omega)]
    rfl
theorem i_lt32 (x : Int32) : x.toBitVec.toNat < 4294967296 := x.toBitVec.isLt
theorem i_eq_nat {x : Int32} {n : Nat} (hn : n < 4294967296) (h : x.toBitVec.toNat = n) : x = nI n := by
  apply Int32.toBitVec_inj.mp
  apply BitVec.eq_of_toNat_eq
  rw [h, nI_bv, BitVec.toNat_ofNat, Nat.mod_eq_of_lt (by omega)]
theorem nI_bvn {n : Nat} (hn : n < 4294967296) : (nI n).toBitVec.toNat = n := by
  rw [nI_bv, BitVec.toNat_ofNat, Nat.mod_eq_of_lt (by omega)]
theorem i_and1 (x : Int32) : (x &&& 1).toBitVec.toNat = x.toBitVec.toNat % 2 := by
  rw [Int32.toBitVec_and, BitVec.toNat_and]
  exact Nat.and_two_pow_sub_one_eq_mod _ 1
theorem i_and7 (x : Int32) : (x &&& 7).toBitVec.toNat = x.toBitVec.toNat % 8 := by
  rw [Int32.toBitVec_and, BitVec.toNat_and]
  exact Nat.and_two_pow_sub_one_eq_mod _ 3
theorem i_and255 (x : Int32) : (x &&& 255).toBitVec.toNat = x.toBitVec.toNat % 256 := by
  rw [Int32.toBitVec_and, BitVec.toNat_and]
  exact Nat.and_two_pow_sub_one_eq_mod _ 8
theorem i_bit (x : Int32) {k : Nat} (hk : k < 32) : (x >>> nI k) &&& 1 = nI (x.toBitVec.getLsbD k).toNat := by
  refine i_eq_nat (by cases x.toBitVec.getLsbD k <;> decide) ?_
  rw [i_and1]
  have h1 : (x >>> nI k).toBitVec = x.toBitVec.sshiftRight k := by
    rw [Int32.toBitVec_shiftRight, nI_bv]
    have := smod32 ⟨k, hk⟩
    simp only at this
    rw [this, ssr', BitVec.toNat_ofNat, Nat.mod_eq_of_lt (by omega)]
  have h2 : (x >>> nI k).toBitVec.getLsbD 0 = x.toBitVec.getLsbD k := by
    rw [h1, BitVec.getLsbD_sshiftRight]
    simp [hk]
  rw [← h2, BitVec.getLsbD, Nat.testBit_zero]
  generalize (x >>> nI k).toBitVec.toNat = y
  by_cases h : y % 2 = 1
  · simp [h]
  · have : y % 2 = 0 := by omega
    simp [this]
theorem nI_shl {a k : Nat} (hk : k < 32) : nI a <<< nI k = nI (a * 2 ^ k) := by
  apply Int32.toBitVec_inj.mp
  have := smod32 ⟨k, hk⟩
  simp only at this
  rw [Int32.toBitVec_shiftLeft, nI_bv, nI_bv, nI_bv, this]
  apply BitVec.eq_of_toNat_eq
  rw [BitVec.shiftLeft_eq', BitVec.toNat_shiftLeft, BitVec.toNat_ofNat, BitVec.toNat_ofNat, BitVec.toNat_ofNat, Nat.shiftLeft_eq, Nat.mod_eq_of_lt (a := k) (by omega), Nat.mod_mul_mod]
theorem nI_shr {a k : Nat} (ha : a < 2 ^ 31) (hk : k < 32) : nI a >>> nI k = nI (a / 2 ^ k) := by
  apply Int32.toInt_inj.mp
  have h1 : a / 2 ^ k ≤ a := Nat.div_le_self _ _
  rw [i_shr hk, nI_toInt ha, nI_toInt (by omega)]
  simp
theorem nI_or {a b : Nat} (ha : a < 4294967296) (hb : b < 4294967296) : nI a ||| nI b = nI (a ||| b) := by
  refine i_eq_nat (Nat.or_lt_two_pow (n := 32) ha hb) ?_
  rw [Int32.toBitVec_or, BitVec.toNat_or, nI_bvn ha, nI_bvn hb]
theorem nI_and {a b : Nat} (ha : a < 4294967296) (hb : b < 4294967296) : nI a &&& nI b = nI (a &&& b) := by
  refine i_eq_nat (Nat.lt_of_le_of_lt Nat.and_le_left ha) ?_
  rw [Int32.toBitVec_and, BitVec.toNat_and, nI_bvn ha, nI_bvn hb]
theorem n_or {a b k : Nat} (h : b < 2 ^ k) : (a * 2 ^ k) ||| b = a * 2 ^ k + b := by
  rw [Nat.mul_comm, Nat.two_pow_add_eq_or_of_lt h]
theorem sh8 {v : Int32} {b : Nat} (h1 : -8388608 ≤ v.toInt) (h2 : v.toInt < 8388608) (hb : b < 256) : ((v <<< (8 : Int32)) ||| nI b).toInt = 256 * v.toInt + b := by
  have e : ((v <<< (8 : Int32)) ||| nI b).toBitVec.toNat = (v.toBitVec.toNat * 256) % 4294967296 + b := by
    rw [Int32.toBitVec_or, BitVec.toNat_or, nI_bvn (by omega), Int32.toBitVec_shiftLeft]
    have : ((8 : Int32).toBitVec).smod 32 = 8#32 := by decide
    rw [this, BitVec.shiftLeft_eq', BitVec.toNat_shiftLeft, Nat.shiftLeft_eq]
    have e2 : v.toBitVec.toNat * 2 ^ (8#32).toNat % 2 ^ 32 = (v.toBitVec.toNat % 16777216) * 2 ^ 8 := by
      have : (8#32).toNat = 8 := rfl
      rw [this]
      omega
    rw [e2, n_or (by omega)]
    omega
  have hv := i_bvnat v
  rw [i_bvnat, e]
  have := i_lt32 v
  by_cases c : v.toBitVec.toNat < 2147483648
  · rw [if_pos c] at hv
    rw [hv]
    have : v.toBitVec.toNat * 256 % 4294967296 = v.toBitVec.toNat * 256 := by omega
    rw [this]
    rw [if_pos (by omega)]
    omega
  · rw [if_neg c] at hv
    rw [hv]
    have : v.toBitVec.toNat * 256 % 4294967296 = v.toBitVec.toNat * 256 - 1095216660480 := by omega
    rw [this]
    rw [if_neg (by omega)]
    omega
theorem and_tp (z : Int32) {k : Nat} (hk : k < 32) : z &&& ((1 : Int32) <<< nI k) = 0 ↔ z.toBitVec.getLsbD k = false := by
  have h1 : ∀ k : Fin 32, ((1 : Int32) <<< nI k).toBitVec = BitVec.twoPow 32 k := by decide
  rw [← Int32.toBitVec_inj, Int32.toBitVec_and, h1 ⟨k, hk⟩, BitVec.and_twoPow]
  simp only
  cases h : z.toBitVec.getLsbD k
  · simp
  · simp only [if_true]
    constructor
    · intro e
      have := congrArg (fun x => x.getLsbD k) e
      simp [hk] at this
    · intro e
      cases e
theorem cTag_lo (y : Int32) {k : Nat} (hk : k ≤ 16) : (cTag y).toBitVec.getLsbD k = y.toBitVec.getLsbD k := by
  have h1 : ∀ k : Fin 17, (131071 : Int32).toBitVec.getLsbD k = true ∧ (134086656 : Int32).toBitVec.getLsbD k = false := by decide
  obtain ⟨a, b⟩ := h1 ⟨k, by omega⟩
  simp only at a b
  unfold cTag
  rw [Int32.toBitVec_or, Int32.toBitVec_and, Int32.toBitVec_and, BitVec.getLsbD_or, BitVec.getLsbD_and, BitVec.getLsbD_and, a, b]
  simp
theorem cTag_hi (y : Int32) {k : Nat} (hk1 : 17 ≤ k) (hk2 : k ≤ 26) : (cTag y).toBitVec.getLsbD k = y.toBitVec.getLsbD (k + 3) := by
  have h1 : ∀ k : Fin 10, (131071 : Int32).toBitVec.getLsbD (17 + k) = false ∧ (134086656 : Int32).toBitVec.getLsbD (17 + k) = true := by decide
  obtain ⟨j, rfl⟩ := Nat.exists_eq_add_of_le (show 17 ≤ k by omega)
  obtain ⟨a, b⟩ := h1 ⟨j, by omega⟩
  simp only at a b
  unfold cTag
  rw [Int32.toBitVec_or, Int32.toBitVec_and, Int32.toBitVec_and, BitVec.getLsbD_or, BitVec.getLsbD_and, BitVec.getLsbD_and, a, b]
  have e : (y >>> (3 : Int32)).toBitVec = y.toBitVec.sshiftRight 3 := by
    rw [Int32.toBitVec_shiftRight]
    have : ((3 : Int32).toBitVec).smod 32 = 3#32 := by decide
    rw [this, ssr']
    rfl
  rw [e, BitVec.getLsbD_sshiftRight]
  simp
  rw [if_pos (by omega)]
  rw [show 3 + (17 + j) = 17 + j + 3 by omega, decide_eq_false (show ¬ 32 ≤ 17 + j by omega)]
  rfl
theorem bt_all : ∀ b : Fin 256, (bt b = 0 ∧ cTag (bt b) = 0) ∨ ∃ k : Fin 30, ((k : Nat) ≤ 16 ∨ 20 ≤ (k : Nat)) ∧ bt b = (1 : Int32) <<< nI k ∧ cTag (bt b) = (1 : Int32) <<< nI (if (k : Nat) < 20 then k else k - 3) := by decide +kernel
theorem cTag_and {y : Int32} {b : Nat} (hb : b < 256) : cTag y &&& cTag (bt b) = 0 ↔ y &&& bt b = 0 := by
  rcases bt_all ⟨b, hb⟩ with ⟨h1, h2⟩ | ⟨k, h1, h2, h3⟩
  · simp only at h1 h2
    rw [h2, h1, Int32.and_zero, Int32.and_zero]
  · simp only at h2 h3
    have hk := k.isLt
    rw [h2] at h3 ⊢
    rw [h3]
    by_cases c : (k : Nat) < 20
    · rw [if_pos c, and_tp _ (by omega), and_tp _ (by omega), cTag_lo _ (by omega)]
    · rw [if_neg c, and_tp _ (by omega), and_tp _ (by omega), cTag_hi _ (by omega) (by omega), show (k : Nat) - 3 + 3 = k by omega]
theorem cTag_0 {b : Nat} (hb : b < 256) : cTag (bt b) = 0 ↔ bt b = 0 := by
  rcases bt_all ⟨b, hb⟩ with ⟨h1, h2⟩ | ⟨k, h1, h2, h3⟩
  · simp only at h1 h2
    rw [h2, h1]
  · simp only at h2 h3
    have h4 : ∀ k : Fin 30, (1 : Int32) <<< nI k ≠ 0 := by decide
    have h5 : ∀ k : Fin 30, (1 : Int32) <<< nI (if (k : Nat) < 20 then k else k - 3) ≠ 0 := by decide
    rw [h3, h2]
    exact ⟨fun h => absurd h (h5 k), fun h => absurd h (h4 k)⟩
