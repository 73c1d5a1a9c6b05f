/-! RANKS: each number below the count is one; THE REFERENCE's rank() -/
theorem inj_surj : ∀ c (f : Nat → Nat), (∀ i, i < c → f i < c) → (∀ i j, i < c → j < c → f i = f j → i = j) → ∀ r, r < c → ∃ k, k < c ∧ f k = r := by
  intro c
  induction c with
  | zero => intro f _ _ r hr; omega
  | succ c ih =>
    intro f h1 h2 r hr
    by_cases e : f c = r
    · exact ⟨c, by omega, e⟩
    have hg1 : ∀ i, i < c → (if f i = c then f c else f i) < c := by
      intro i hi
      have a := h1 i (by omega)
      have b := h1 c (by omega)
      by_cases q : f i = c
      · rw [if_pos q]
        have : f c ≠ c := fun z => by
          have := h2 i c (by omega) (by omega) (by rw [q, z])
          omega
        omega
      · rw [if_neg q]; omega
    have hg2 : ∀ i j, i < c → j < c → (if f i = c then f c else f i) = (if f j = c then f c else f j) → i = j := by
      intro i j hi hj h
      by_cases q1 : f i = c
      · by_cases q2 : f j = c
        · exact h2 i j (by omega) (by omega) (by rw [q1, q2])
        · rw [if_pos q1, if_neg q2] at h
          have := h2 c j (by omega) (by omega) h
          omega
      · by_cases q2 : f j = c
        · rw [if_neg q1, if_pos q2] at h
          have := h2 i c (by omega) (by omega) h
          omega
        · rw [if_neg q1, if_neg q2] at h
          exact h2 i j (by omega) (by omega) h
    by_cases er : r = c
    · have hc := h1 c (by omega)
      obtain ⟨k, k1, k2⟩ := ih (fun i => if f i = c then f c else f i) hg1 hg2 (f c) (by omega)
      by_cases q : f k = c
      · exact ⟨k, by omega, by omega⟩
      · simp only [if_neg q] at k2
        have := h2 k c (by omega) (by omega) k2
        omega
    · obtain ⟨k, k1, k2⟩ := ih (fun i => if f i = c then f c else f i) hg1 hg2 r (by omega)
      by_cases q : f k = c
      · simp only [if_pos q] at k2
        exact absurd k2 e
      · simp only [if_neg q] at k2
        exact ⟨k, by omega, k2⟩
theorem filt_lt {p q : Nat → Bool} {c a : Nat} (ha : a < c) (h : ∀ i, p i = true → q i = true) (hp : p a = false) (hq : q a = true) : ((List.range c).filter p).length < ((List.range c).filter q).length := by
  induction c with
  | zero => omega
  | succ c ih =>
    rw [List.range_succ, List.filter_append, List.filter_append, List.length_append, List.length_append]
    have hle : ((List.range c).filter p).length ≤ ((List.range c).filter q).length := by
      clear ih
      induction c with
      | zero => simp
      | succ c ih2 =>
        rw [List.range_succ, List.filter_append, List.filter_append, List.length_append, List.length_append]
        have h1 : ([c].filter p).length ≤ ([c].filter q).length := by
          cases hp : p c with
          | false => simp [hp]
          | true => simp [hp, h c hp]
        by_cases z : a < c + 1
        · have := ih2 (by omega)
          omega
        · have hrec : ∀ m, ((List.range m).filter p).length ≤ ((List.range m).filter q).length := by
            intro m
            induction m with
            | zero => simp
            | succ m ih3 =>
              rw [List.range_succ, List.filter_append, List.filter_append, List.length_append, List.length_append]
              have : ([m].filter p).length ≤ ([m].filter q).length := by
                cases hp : p m with
                | false => simp [hp]
                | true => simp [hp, h m hp]
              omega
          have := hrec c
          omega
    by_cases e : a = c
    · subst e
      simp [hp, hq]
      omega
    · have h1 : ([c].filter p).length ≤ ([c].filter q).length := by
        cases hp : p c with
        | false => simp [hp]
        | true => simp [hp, h c hp]
      have := ih (by omega)
      omega
theorem low_ne {y : Int32} (h : y ≠ 0) : y &&& -y ≠ 0 := by
  intro hz
  have hx : ∀ x : BitVec 32, x &&& -x = 0 → x = 0 := by
    intro x hx
    apply BitVec.eq_of_getLsbD_eq
    intro i hi
    induction i using Nat.strongRecOn with
    | ind i ih =>
      have hbelow : ∀ j, j < i → x.getLsbD j = false := fun j hj => by rw [ih j hj (by omega)]; simp
      have hand := congrArg (fun z => z.getLsbD i) hx
      simp only [BitVec.getLsbD_and] at hand
      cases hxi : x.getLsbD i with
      | false => simp
      | true =>
        exfalso
        have hmod : x.toNat % 2 ^ i = 0 := by
          apply Nat.eq_of_testBit_eq
          intro j
          rw [Nat.testBit_mod_two_pow, Nat.zero_testBit]
          by_cases hj : j < i
          · have := hbelow j hj
            rw [BitVec.getLsbD] at this
            simp [hj, this]
          · simp [hj]
        have hxi' : x.toNat.testBit i = true := hxi
        have hneg : (-x).toNat = (2 ^ 32 - x.toNat) % 2 ^ 32 := by rw [BitVec.toNat_neg]
        have hlt := x.isLt
        obtain ⟨q, hq⟩ : ∃ q, x.toNat = 2 ^ i * q := ⟨x.toNat / 2 ^ i, by have := Nat.div_add_mod x.toNat (2 ^ i); omega⟩
        have hodd : q % 2 = 1 := by
          rw [hq, Nat.testBit_eq_decide_div_mod_eq, Nat.mul_div_cancel_left _ (Nat.two_pow_pos i)] at hxi'
          simpa using hxi'
        have hqpos : 0 < x.toNat := by
          rw [hq]
          exact Nat.mul_pos (Nat.two_pow_pos i) (by omega)
        have hp32 : 2 ^ 32 = 2 ^ i * 2 ^ (32 - i) := by rw [← Nat.pow_add]; congr 1; omega
        have hev : (2 ^ (32 - i)) % 2 = 0 := by
          rw [show 32 - i = (32 - i - 1) + 1 by omega, Nat.pow_succ]
          omega
        have hqle : q ≤ 2 ^ (32 - i) := by
          have h3 : 2 ^ i * q < 2 ^ i * 2 ^ (32 - i) := by rw [← hq, ← hp32]; exact hlt
          exact Nat.le_of_lt (Nat.lt_of_mul_lt_mul_left h3)
        have hn : (-x).toNat = 2 ^ i * (2 ^ (32 - i) - q) := by
          rw [hneg, Nat.mod_eq_of_lt (by omega), Nat.mul_sub, ← hp32, ← hq]
        have hb : (-x).getLsbD i = true := by
          rw [BitVec.getLsbD, hn, Nat.testBit_eq_decide_div_mod_eq, Nat.mul_div_cancel_left _ (Nat.two_pow_pos i)]
          simp
          omega
        rw [hxi, hb] at hand
        simp at hand
  apply h
  apply Int32.toBitVec_inj.mp
  have := congrArg Int32.toBitVec hz
  rw [Int32.toBitVec_and, Int32.toBitVec_neg] at this
  exact hx _ this
theorem least_ne {T : zJ} {n t i j : Nat} (hw : wfT T (n + 1) t) (k9 : T 4 t = 9) (hi : i < cnt T t) (hj : j < cnt T t) (hij : i ≠ j) : jLeast T (6 * t + i) ≠ jLeast T (6 * t + j) := by
  obtain ⟨w1, w2, w3⟩ := hw.2.2.2.2.2.2.2.2.1 (Or.inr k9)
  have wd := (hw.2.2.2.2.2.2.2.2.2.2 k9).2 i j hi hj hij
  have hni : T 9 (chd T (6 * t + i)) ≠ 0 := by
    have := (w3 i hi).2
    cases n with
    | zero => exact this.elim
    | succ n => exact this.2.2.2.2.1
  intro h
  have h : T 9 (chd T (6 * t + i)) &&& -T 9 (chd T (6 * t + i)) = T 9 (chd T (6 * t + j)) &&& -T 9 (chd T (6 * t + j)) := h
  have hz := low_ne hni
  apply hz
  generalize T 9 (chd T (6 * t + i)) = y at *
  generalize T 9 (chd T (6 * t + j)) = z at *
  have h1 : y &&& -y = (y &&& -y) &&& y := by rw [Int32.and_comm (y &&& -y) y, ← Int32.and_assoc, Int32.and_self]
  rw [h1, h, Int32.and_comm z (-z), Int32.and_assoc, Int32.and_comm z y, wd, Int32.and_zero]
theorem jRank_lt {T : zJ} {t j : Nat} (hj : j < cnt T t) : jRank T t j (cnt T t) < cnt T t := by
  have := filt_lt (p := fun i => decide (jLeast T (6 * t + i) < jLeast T (6 * t + j))) (q := fun _ => true) (c := cnt T t) (a := j) hj (fun _ _ => rfl) (decide_eq_false Int32.lt_irrefl) rfl
  rw [List.filter_eq_self.mpr (fun _ _ => rfl), List.length_range] at this
  exact this
theorem jRank_inj {T : zJ} {n t i j : Nat} (hw : wfT T (n + 1) t) (k9 : T 4 t = 9) (hi : i < cnt T t) (hj : j < cnt T t) (h : jRank T t i (cnt T t) = jRank T t j (cnt T t)) : i = j := by
  have key : ∀ a b, a < cnt T t → b < cnt T t → jLeast T (6 * t + a) < jLeast T (6 * t + b) → jRank T t a (cnt T t) < jRank T t b (cnt T t) := by
    intro a b ha hb hab
    refine filt_lt (a := a) ha (fun x hx => ?_) (decide_eq_false Int32.lt_irrefl) (decide_eq_true hab)
    have : jLeast T (6 * t + x) < jLeast T (6 * t + a) := of_decide_eq_true hx
    exact decide_eq_true (Int32.lt_trans this hab)
  by_cases e : i = j
  · exact e
  exfalso
  have hne := least_ne hw k9 hi hj e
  by_cases c : jLeast T (6 * t + i) < jLeast T (6 * t + j)
  · have := key i j hi hj c; omega
  · have c2 : jLeast T (6 * t + j) < jLeast T (6 * t + i) := by
      rw [Int32.lt_iff_toInt_lt] at c ⊢
      have : (jLeast T (6 * t + i)).toInt ≠ (jLeast T (6 * t + j)).toInt := fun z => hne (Int32.toInt_inj.mp z)
      omega
    have := key j i hj hi c2
    omega
theorem altR_some {T : zJ} {n t r : Nat} (hw : wfT T (n + 1) t) (k9 : T 4 t = 9) (hr : r < cnt T t) : ∃ k, altR T t r (cnt T t) 0 = some k ∧ k < cnt T t ∧ jRank T t k (cnt T t) = r ∧ ∀ j, j < k → jRank T t j (cnt T t) ≠ r := by
  obtain ⟨k, k1, k2⟩ := inj_surj (cnt T t) (fun j => jRank T t j (cnt T t)) (fun i hi => jRank_lt hi) (fun i j hi hj h => jRank_inj hw k9 hi hj h) r hr
  refine ⟨k, ?_, k1, k2, fun j hj h => ?_⟩
  · have : ∀ m j, j + m = cnt T t → j ≤ k → altR T t r m j = some k := by
      intro m
      induction m with
      | zero => intro j h1 h2; omega
      | succ m ih =>
        intro j h1 h2
        unfold altR
        by_cases q : jRank T t j (cnt T t) = r
        · rw [if_pos q]
          have := jRank_inj hw k9 (show j < cnt T t by omega) k1 (by rw [q]; exact k2.symm)
          rw [this]
        · rw [if_neg q]
          refine ih (j + 1) (by omega) ?_
          by_cases e : j = k
          · subst e; exact absurd k2 q
          · omega
    exact this (cnt T t) 0 (by omega) (by omega)
  · have := jRank_inj hw k9 (show j < cnt T t by omega) k1 (by rw [h]; exact k2.symm)
    omega
theorem q_rank {T J : zJ} {n b k : Nat} (hw : wfT T (n + 1) b) (k9 : T 4 b = 9) (hT : tyEq T J) (hk : k < cnt T b) : Ev (fun N => FM_rank N (nI b) (nI k) J = some (nI (jRank T b k (cnt T b)), J)) := by
  obtain ⟨w1, w2, w3⟩ := hw.2.2.2.2.2.2.2.2.1 (Or.inr k9)
  have b160 := hw.1
  have u160 : ∀ j, j < cnt T b → chd T (6 * b + j) < 160 := fun j hj => by
    have := (w3 j hj).2
    cases n with
    | zero => exact this.elim
    | succ n => exact this.1
  have e6 : ∀ j, (6 : Int32) * nI b + nI j = nI (6 * b + j) := fun j => by rw [show (6 : Int32) = nI 6 from rfl, nI_mul, nI_add]
  have hlen : ∀ m, m ≤ cnt T b → ((List.range m).filter (fun i => decide (jLeast T (6 * b + i) < jLeast T (6 * b + k)))).length ≤ m := fun m _ => by
    have := List.length_filter_le (fun i => decide (jLeast T (6 * b + i) < jLeast T (6 * b + k))) (List.range m)
    rwa [List.length_range] at this
  have hl := ev_loop (B := fun N => FM_rank_26 N (nI b) (T 9 (chd T (6 * b + k)))) (r := some (nI (jRank T b k (cnt T b)), J)) (fun m => (nI ((List.range m).filter (fun i => decide (jLeast T (6 * b + i) < jLeast T (6 * b + k)))).length, nI (6 * b + m), J)) (cnt T b) (ev_of (fun N m hm K => ?_)) (ev_of (fun N K => ?_))
  · refine ev_mono hl (fun N hN => ?_)
    unfold FM_rank
    rw [e6, qk_t (qi_nI (by omega) (by omega)), nI_clamp (by omega), hT 13 _ (by omega) (by omega), (w3 k hk).1, qk_t (qi_nI (u160 k hk) (by omega)), nI_clamp (by have := u160 k hk; omega), hT 9 _ (by omega) (by omega), show (6 : Int32) * nI b = nI (6 * b) from nI_mul 6 b]
    exact hN
  · have hu := u160 m hm
    simp only [FM_rank_26]
    rw [qk_t (qi_nI b160 (by omega)), nI_clamp (by omega), hT 8 b (by omega) (by omega), w1, e6, if_neg (by rw [nI_leI (by omega) (by omega)]; omega), qk_t (qi_nI (by omega) (by omega)), nI_clamp (by omega), hT 13 _ (by omega) (by omega), (w3 m hm).1, qk_t (qi_nI hu (by omega)), qk_t (qi_nI (by omega) (by omega)), qk_t (qi_nI hu (by omega)), nI_clamp (by omega), hT 9 _ (by omega) (by omega)]
    have hsucc : ((List.range (m + 1)).filter (fun i => decide (jLeast T (6 * b + i) < jLeast T (6 * b + k)))).length = ((List.range m).filter (fun i => decide (jLeast T (6 * b + i) < jLeast T (6 * b + k)))).length + (if jLeast T (6 * b + m) < jLeast T (6 * b + k) then 1 else 0) := by
      rw [List.range_succ, List.filter_append, List.length_append]
      congr 1
      by_cases z : jLeast T (6 * b + m) < jLeast T (6 * b + k)
      · simp [z]
      · simp [z]
    rw [hsucc]
    by_cases z : jLeast T (6 * b + m) < jLeast T (6 * b + k)
    · have z' : ¬ (T 9 (chd T (6 * b + k)) &&& -T 9 (chd T (6 * b + k))) ≤ (T 9 (chd T (6 * b + m)) &&& -T 9 (chd T (6 * b + m))) := by
        intro y
        have z : (T 9 (chd T (6 * b + m)) &&& -T 9 (chd T (6 * b + m))) < (T 9 (chd T (6 * b + k)) &&& -T 9 (chd T (6 * b + k))) := z
        rw [Int32.lt_iff_toInt_lt] at z
        rw [Int32.le_iff_toInt_le] at y
        omega
      rw [if_neg z', if_pos z, nI_p1, nI_p1, Nat.add_assoc]
    · have z' : (T 9 (chd T (6 * b + k)) &&& -T 9 (chd T (6 * b + k))) ≤ (T 9 (chd T (6 * b + m)) &&& -T 9 (chd T (6 * b + m))) := by
        have z : ¬ (T 9 (chd T (6 * b + m)) &&& -T 9 (chd T (6 * b + m))) < (T 9 (chd T (6 * b + k)) &&& -T 9 (chd T (6 * b + k))) := z
        rw [Int32.lt_iff_toInt_lt] at z
        rw [Int32.le_iff_toInt_le]
        omega
      rw [if_pos z', if_neg z, nI_p1, Int32.add_zero, Nat.add_assoc]
      rfl
  · simp only [FM_rank_26]
    rw [qk_t (qi_nI b160 (by omega)), nI_clamp (by omega), hT 8 b (by omega) (by omega), w1, e6, if_pos (by rw [nI_leI (by omega) (by omega)]; omega)]
    rfl
