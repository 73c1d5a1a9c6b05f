/-! THE CLASS writes packed bits: bits, numbers, counts -/
def wK2 (D D' : zJ) : Prop := ∀ c, c ≠ 7 → c ≠ 27 → D' c = D c
theorem wK2_refl (D : zJ) : wK2 D D := fun _ _ _ => rfl
theorem wK2_trans {D D1 D2 : zJ} (h1 : wK2 D D1) (h2 : wK2 D1 D2) : wK2 D D2 := fun c a b => (h2 c a b).trans (h1 c a b)
theorem wK2_7 {D : zJ} {k : Nat} {x : Int32} : wK2 D (zu D 7 k x) := fun c h _ => zu_ne _ _ _ h
theorem wK2_27 {D : zJ} {k : Nat} {x : Int32} : wK2 D (zu D 27 k x) := fun c _ h => zu_ne _ _ _ h
/-- bs: what has been written from byte st on (as if there were room for all) -/
def QW (D : zJ) (st nx : Nat) (bs : List Bool) : Prop := D 27 3 = nI nx ∧ st ≤ 120 ∧
  ((8 * st + bs.length ≤ 960 ∧ D 27 4 = 0 ∧ D 27 2 = nI (8 * st + bs.length) ∧ ∀ b, 8 * b < bs.length → D 7 (st + b) = nI (pby bs b)) ∨ (¬ 8 * st + bs.length ≤ 960 ∧ D 27 4 = 1 ∧ ∃ q, q ≤ 960 ∧ D 27 2 = nI q))
/-- bytes before st stay -/
def w7 (D D' : zJ) (st : Nat) : Prop := ∀ k, k < st → D' 7 k = D 7 k
theorem i_m8 {a : Nat} (ha : a < 2 ^ 31) : nI a &&& (-8) = nI (a / 8 * 8) := by
  have h1 : (-8 : Int32) = nI 4294967288 := by decide
  rw [h1, nI_and (by omega) (by omega)]
  congr 1
  apply Nat.eq_of_testBit_eq
  intro i
  have e1 : a / 8 * 8 = (a >>> 3) <<< 3 := by rw [Nat.shiftRight_eq_div_pow, Nat.shiftLeft_eq]
  have e2 : (4294967288 : Nat) = (536870911 : Nat) <<< 3 := by decide
  have e3 : (536870911 : Nat) = 2 ^ 29 - 1 := by decide
  rw [e1, Nat.testBit_and, e2, Nat.testBit_shiftLeft, Nat.testBit_shiftLeft, e3, Nat.testBit_two_pow_sub_one, Nat.testBit_shiftRight]
  by_cases c : 3 ≤ i
  · simp only [decide_eq_true c, Bool.true_and, show 3 + (i - 3) = i by omega]
    by_cases c2 : i - 3 < 29
    · simp [c2]
    · have : a.testBit i = false := Nat.testBit_lt_two_pow (Nat.lt_of_lt_of_le ha (Nat.pow_le_pow_right (by omega) (by omega)))
      simp [this]
  · simp [c]
theorem c_byteAt {p : Nat} (hp : p < 2 ^ 31) : nI p >>> (3 &&& 31) = nI (p / 8) ∧ nI p &&& 7 = nI (p % 8) := by
  refine ⟨?_, ?_⟩
  · rw [show (3 &&& 31 : Int32) = nI 3 from by decide, nI_shr hp (by omega)]
  · rw [show (7 : Int32) = nI 7 from rfl, nI_and (by omega) (by omega), n_mod8]
/-- bits where there is room -/
theorem c_bits0 (v : Int32) (M : zM) : ∀ r D q, r ≤ 32 → D 27 2 = nI q → q + r ≤ 960 → ∃ D', (∀ N F, r + 1 ≤ F → qfix (FQ_appendBits_27 N M v) F (nI r + (-1), D) = some ((), D')) ∧ wK2 D D' ∧ D' 27 2 = nI (q + r) ∧ (∀ k, k ≠ 2 → D' 27 k = D 27 k) ∧ (∀ k, k < q / 8 → D' 7 k = D 7 k) ∧ (∀ st bs, q = 8 * st + bs.length → (∀ b, 8 * b < bs.length → D 7 (st + b) = nI (pby bs b)) → ∀ b, 8 * b < bs.length + r → D' 7 (st + b) = nI (pby (bs ++ ibits v r) b)) := by
  intro r
  induction r with
  | zero =>
    intro D q _ h1 h2
    refine ⟨D, fun N F hF => ?_, wK2_refl D, h1, fun _ _ => rfl, fun _ _ => rfl, fun st bs _ hb b hbl => ?_⟩
    · obtain ⟨F, rfl⟩ : ∃ g, F = g + 1 := ⟨F - 1, by omega⟩
      rw [qfix_s]
      simp only [FQ_appendBits_27]
      rw [if_pos (by decide)]
    · rw [show ibits v 0 = [] from rfl, List.append_nil]
      exact hb b (by omega)
  | succ r ih =>
    intro D q hr h1 h2
    obtain ⟨e3, e7⟩ := c_byteAt (show q < 2 ^ 31 by omega)
    have hneg : ¬ nI r < 0 := by rw [show (0 : Int32) = nI 0 from rfl, nI_ltI (by omega) (by omega)]; omega
    have h120 : q / 8 < 120 := by omega
    have hy : (7 : Int32) - nI (q % 8) = nI (7 - q % 8) := nI_subs (a := 7) (by omega)
    obtain ⟨D1, g1, g2, g3, g4, g5⟩ : ∃ D1 : zJ, (∀ N K, FQ_appendBits_27 N M v K (nI r, D) = FQ_appendBits_62 N M K v (nI r) (nI (7 - q % 8)) D1) ∧ wK2 D D1 ∧ (∀ k, D1 27 k = D 27 k) ∧ (∀ k, k ≠ q / 8 → D1 7 k = D 7 k) ∧ D1 7 (q / 8) = if q % 8 = 0 then 0 else D 7 (q / 8) := by
      by_cases c : q % 8 = 0
      · refine ⟨zu D 7 (q / 8) 0, fun N K => ?_, wK2_7, fun k => by rw [zu_at, if_neg (by omega)], fun k hk => by rw [zu_at, if_neg (by omega)], by rw [zu_self, if_pos c]⟩
        simp only [FQ_appendBits_27]
        rw [if_neg hneg, h1, e7, hy, if_pos (by rw [c]; rfl), e3, qk_t (qi_nI h120 (by omega)), nI_clamp (by omega)]
      · refine ⟨D, fun N K => ?_, wK2_refl D, fun k => rfl, fun _ _ => rfl, by rw [if_neg c]⟩
        simp only [FQ_appendBits_27]
        rw [if_neg hneg, h1, e7, hy, if_neg (by rw [show (7 : Int32) = nI 7 from rfl, nI_eq (by omega) (by omega)]; omega)]
    have hd1 : D1 27 2 = nI q := by rw [g3]; exact h1
    let x := D1 7 (q / 8) ||| (((v >>> nI r) &&& 1) <<< nI (7 - q % 8))
    have hstep : ∀ N K, FQ_appendBits_62 N M K v (nI r) (nI (7 - q % 8)) D1 = K (nI r + (-1), zu (zu D1 7 (q / 8) x) 27 2 (nI (q + 1))) := by
      intro N K
      unfold FQ_appendBits_62
      simp only [hd1, e3, qk_t (qi_nI h120 (show 120 < 2 ^ 31 by omega)), nI_clamp (show q / 8 < 2 ^ 31 by omega), nI_and31 (show r < 32 by omega), nI_and31 (show 7 - q % 8 < 32 by omega)]
      rw [show zu D1 7 (q / 8) (D1 7 (q / 8) ||| (((v >>> nI r) &&& 1) <<< nI (7 - q % 8))) 27 2 = nI q from by rw [zu_at, if_neg (by omega)]; exact hd1, nI_p1]
    obtain ⟨D', i1, i2, i3, i4, i5, i6⟩ := ih (zu (zu D1 7 (q / 8) x) 27 2 (nI (q + 1))) (q + 1) (by omega) (zu_self _ _ _ _) (by omega)
    refine ⟨D', fun N F hF => ?_, wK2_trans g2 (wK2_trans wK2_7 (wK2_trans wK2_27 i2)), by rw [i3, show q + 1 + r = q + (r + 1) by omega], fun k hk => ?_, fun k hk => ?_, fun st bs hq hb b hbl => ?_⟩
    · obtain ⟨F, rfl⟩ : ∃ g, F = g + 1 := ⟨F - 1, by omega⟩
      rw [nI_dec, qfix_s, g1, hstep]
      exact i1 N F (by omega)
    · rw [i4 k hk, zu_at, if_neg (by omega), zu_at, if_neg (by omega), g3]
    · rw [i5 k (by omega), zu_at, if_neg (by omega), zu_at, if_neg (by omega), g4 k (by omega)]
    · have hlen : (bs ++ [v.toBitVec.getLsbD r]).length = bs.length + 1 := by simp
      have hq8 : q / 8 = st + bs.length / 8 := by omega
      have hqm : q % 8 = bs.length % 8 := by omega
      have hx : x = nI (pby (bs ++ [v.toBitVec.getLsbD r]) (bs.length / 8)) := by
        rw [← or_bit bs v (by omega), ← hqm]
        show D1 7 (q / 8) ||| _ = _
        congr 1
        rw [g5]
        by_cases c : q % 8 = 0
        · rw [if_pos c, pby_full bs (by omega)]
          rfl
        · rw [if_neg c, hq8]
          exact hb _ (by omega)
      have := i6 st (bs ++ [v.toBitVec.getLsbD r]) (by rw [hlen]; omega) (fun b hb' => by
        rw [hlen] at hb'
        rw [zu_at, if_neg (by omega), zu_at]
        by_cases c : b = bs.length / 8
        · rw [if_pos ⟨rfl, by omega⟩, c]
          exact hx
        · rw [if_neg (by omega), g4 _ (by omega), hb b (by omega), pby_lo (by omega)]) b (by rw [hlen]; omega)
      rw [ibits_succ, ← List.singleton_append, ← List.append_assoc]
      exact this
theorem c_bits {D : zJ} {st nx : Nat} {bs : List Bool} (h : QW D st nx bs) (v : Int32) (n : Nat) (hn : n ≤ 32) (M : zM) : ∃ D', Ev (fun N => FQ_appendBits N M v (nI n) D = some ((), D')) ∧ QW D' st nx (bs ++ ibits v n) ∧ wK2 D D' ∧ (8 * st + bs.length + n ≤ 960 → w7 D D' st) := by
  obtain ⟨h1, h2, h3⟩ := h
  have hlen : (bs ++ ibits v n).length = bs.length + n := by rw [List.length_append, ibits_len]
  have hgo : ∀ q, D 27 2 = nI q → q ≤ 960 → q + n ≤ 960 → ∃ D', Ev (fun N => FQ_appendBits N M v (nI n) D = some ((), D')) ∧ wK2 D D' ∧ D' 27 2 = nI (q + n) ∧ (∀ k, k ≠ 2 → D' 27 k = D 27 k) ∧ (∀ k, k < q / 8 → D' 7 k = D 7 k) ∧ (∀ st bs, q = 8 * st + bs.length → (∀ b, 8 * b < bs.length → D 7 (st + b) = nI (pby bs b)) → ∀ b, 8 * b < bs.length + n → D' 7 (st + b) = nI (pby (bs ++ ibits v n) b)) := by
    intro q hq hq9 hqn
    obtain ⟨D', i1, i2⟩ := c_bits0 v M n D q hn hq hqn
    refine ⟨D', ⟨n + 1, fun N hN => ?_⟩, i2⟩
    dsimp only
    unfold FQ_appendBits
    rw [hq, nI_add, show (8 : Int32) * nI 120 = nI 960 from nI_mul 8 120, if_pos (by rw [nI_leI (by omega) (by omega)]; exact hqn), Int32.sub_eq_add_neg]
    exact i1 N N (by omega)
  have hno : ∀ q, D 27 2 = nI q → q ≤ 960 → ¬ q + n ≤ 960 → ∀ N, FQ_appendBits N M v (nI n) D = some ((), zu D 27 4 1) := by
    intro q hq hq9 hqn N
    unfold FQ_appendBits
    rw [hq, nI_add, show (8 : Int32) * nI 120 = nI 960 from nI_mul 8 120, if_neg (by rw [nI_leI (by omega) (by omega)]; exact hqn)]
  rcases h3 with ⟨a1, a2, a3, a4⟩ | ⟨a1, a2, q, a3, a4⟩
  · by_cases c : 8 * st + bs.length + n ≤ 960
    · obtain ⟨D', i1, i2, i3, i4, i5, i6⟩ := hgo _ a3 a1 c
      refine ⟨D', i1, ⟨by rw [i4 3 (by omega)]; exact h1, h2, Or.inl ⟨by rw [hlen]; omega, by rw [i4 4 (by omega)]; exact a2, by rw [i3, hlen, Nat.add_assoc], fun b hb => i6 st bs rfl a4 b (by rw [hlen] at hb; exact hb)⟩⟩, i2, fun _ k hk => i5 k (by omega)⟩
    · refine ⟨zu D 27 4 1, ev_of (hno _ a3 a1 c), ⟨by rw [zu_at, if_neg (by omega)]; exact h1, h2, Or.inr ⟨by rw [hlen]; omega, zu_self _ _ _ _, _, a1, by rw [zu_at, if_neg (by omega)]; exact a3⟩⟩, wK2_27, fun z => absurd z c⟩
  · by_cases c : q + n ≤ 960
    · obtain ⟨D', i1, i2, i3, i4, i5, i6⟩ := hgo _ a4 a3 c
      exact ⟨D', i1, ⟨by rw [i4 3 (by omega)]; exact h1, h2, Or.inr ⟨by rw [hlen]; omega, by rw [i4 4 (by omega)]; exact a2, q + n, c, i3⟩⟩, i2, fun z => absurd z (by omega)⟩
    · refine ⟨zu D 27 4 1, ev_of (hno _ a4 a3 c), ⟨by rw [zu_at, if_neg (by omega)]; exact h1, h2, Or.inr ⟨by rw [hlen]; omega, zu_self _ _ _ _, q, a3, by rw [zu_at, if_neg (by omega)]; exact a4⟩⟩, wK2_27, fun z => absurd z (by omega)⟩
theorem c_alignW {D : zJ} {st nx : Nat} {bs : List Bool} (h : QW D st nx bs) (M : zM) : ∃ D', (∀ N, FQ_align N M D = some ((), D')) ∧ QW D' st nx (bs ++ ppad bs.length) ∧ wK2 D D' ∧ w7 D D' st := by
  obtain ⟨h1, h2, h3⟩ := h
  have hgo : ∀ q, D 27 2 = nI q → q ≤ 960 → ∀ N, FQ_align N M D = some ((), zu D 27 2 (nI ((q + 7) / 8 * 8))) := by
    intro q hq hq9 N
    unfold FQ_align
    rw [hq, show (7 : Int32) = nI 7 from rfl, nI_add, i_m8 (by omega)]
  have hlen : (bs ++ ppad bs.length).length = bs.length + (8 - bs.length % 8) % 8 := by unfold ppad; rw [List.length_append, List.length_replicate]
  have w0 : ∀ x, w7 D (zu D 27 2 x) st := fun x k hk => by rw [zu_at, if_neg (by omega)]
  rcases h3 with ⟨a1, a2, a3, a4⟩ | ⟨a1, a2, q, a3, a4⟩
  · refine ⟨_, hgo _ a3 a1, ⟨by rw [zu_at, if_neg (by omega)]; exact h1, h2, Or.inl ⟨by rw [hlen]; omega, by rw [zu_at, if_neg (by omega)]; exact a2, ?_, fun b hb => ?_⟩⟩, wK2_27, w0 _⟩
    · rw [zu_self, hlen]
      congr 1
      omega
    · rw [hlen] at hb
      rw [zu_at, if_neg (by omega)]
      unfold ppad
      rw [pby_pad]
      exact a4 b (by omega)
  · refine ⟨_, hgo _ a4 a3, ⟨by rw [zu_at, if_neg (by omega)]; exact h1, h2, Or.inr ⟨by rw [hlen]; omega, by rw [zu_at, if_neg (by omega)]; exact a2, (q + 7) / 8 * 8, by omega, zu_self _ _ _ _⟩⟩, wK2_27, w0 _⟩
/-- what a piece of the writer does: it appends these bits -/
def qP (D D' : zJ) (st nx' : Nat) (bs : List Bool) (pk : PK) : Prop := QW D' st nx' (bs ++ pk bs.length) ∧ wK2 D D' ∧ (8 * st + (bs ++ pk bs.length).length ≤ 960 → w7 D D' st)
theorem qP_trans {D D1 D2 : zJ} {st nx1 nx2 : Nat} {bs : List Bool} {p1 p2 : PK} (h1 : qP D D1 st nx1 bs p1) (h2 : qP D1 D2 st nx2 (bs ++ p1 bs.length) p2) : qP D D2 st nx2 bs (pcat p1 p2) := by
  obtain ⟨a1, a2, a3⟩ := h1
  obtain ⟨b1, b2, b3⟩ := h2
  have e : bs ++ p1 bs.length ++ p2 (bs ++ p1 bs.length).length = bs ++ pcat p1 p2 bs.length := by
    unfold pcat
    rw [List.append_assoc, List.length_append]
  rw [e] at b1 b3
  refine ⟨b1, wK2_trans a2 b2, fun hl k hk => ?_⟩
  rw [b3 hl k hk]
  refine a3 ?_ k hk
  have : (bs ++ pcat p1 p2 bs.length).length = (bs ++ p1 bs.length).length + (p2 (bs.length + (p1 bs.length).length)).length := by
    unfold pcat
    simp only [List.length_append]
    omega
  omega
theorem qP_nil {D : zJ} {st nx : Nat} {bs : List Bool} (h : QW D st nx bs) : qP D D st nx bs pnil := ⟨by unfold pnil; rw [List.append_nil]; exact h, wK2_refl D, fun _ _ _ => rfl⟩
theorem qP_bits {D : zJ} {st nx : Nat} {bs : List Bool} (h : QW D st nx bs) (v : Int32) (n : Nat) (hn : n ≤ 32) (M : zM) : ∃ D', Ev (fun N => FQ_appendBits N M v (nI n) D = some ((), D')) ∧ qP D D' st nx bs (pbits v n) := by
  obtain ⟨D', a1, a2, a3, a4⟩ := c_bits h v n hn M
  refine ⟨D', a1, a2, a3, fun z => a4 ?_⟩
  have : (bs ++ pbits v n bs.length).length = bs.length + n := by unfold pbits; rw [List.length_append, ibits_len]
  omega
theorem qP_pad {D : zJ} {st nx : Nat} {bs : List Bool} (h : QW D st nx bs) (M : zM) : ∃ D', (∀ N, FQ_align N M D = some ((), D')) ∧ qP D D' st nx bs ppad := by
  obtain ⟨D', a1, a2, a3, a4⟩ := c_alignW h M
  exact ⟨D', a1, a2, a3, fun _ => a4⟩
theorem qP_num {D : zJ} {st nx h : Nat} {bs : List Bool} (hq : QW D st nx bs) (v : Int32) (hh : h < 65536) (M : zM) : ∃ D', Ev (fun N => FQ_appendNumber N M v (nI h) D = some ((), D')) ∧ qP D D' st nx bs (pnum v h) := by
  have h11 : ∀ (D : zJ) (bs : List Bool), QW D st nx bs → ∃ D', Ev (fun N => FQ_appendNumber_11 N M v (nI h) D = some ((), D')) ∧ qP D D' st nx bs (pbits v (wid h)) := by
    intro D bs hq
    have hw := wid_le h
    obtain ⟨D', a1, a2⟩ := qP_bits hq v (wid h) (by omega) M
    refine ⟨D', ev_mono (ev_and (c_wid hh) a1) (fun N hN => ?_), a2⟩
    unfold FQ_appendNumber_11
    rw [hN.1, qc_some, hN.2, qb_some]
  unfold pnum
  by_cases c : 255 ≤ h
  · rw [if_pos c]
    obtain ⟨D1, a1, a2⟩ := qP_pad hq M
    obtain ⟨D2, b1, b2⟩ := h11 D1 _ a2.1
    refine ⟨D2, ev_mono b1 (fun N hN => ?_), qP_trans a2 b2⟩
    unfold FQ_appendNumber
    rw [if_neg (by rw [show (255 : Int32) = nI 255 from rfl, nI_ltI (by omega) (by omega)]; omega), a1, qb_some, hN]
  · rw [if_neg c]
    obtain ⟨D2, b1, b2⟩ := h11 D _ hq
    refine ⟨D2, ev_mono b1 (fun N hN => ?_), b2⟩
    unfold FQ_appendNumber
    rw [if_pos (by rw [show (255 : Int32) = nI 255 from rfl, nI_ltI (by omega) (by omega)]; omega), hN]
theorem qP_int {M : zM} {T D : zJ} {n a t st nx : Nat} {bs : List Bool} (hw : wfT T n t) (hr : rep M T n a t) (hq : QW D st nx bs) (v : Int32) : ∃ D', Ev (fun N => FQ_writeInteger N M (some a) v D = some ((), D')) ∧ qP D D' st nx bs (pint T t v) := by
  cases n with
  | zero => exact hw.elim
  | succ n =>
    have h01 := hw.2.2.1
    unfold pint
    rcases h01 with h0 | h1
    · have n1 : ¬ T 11 t = 1 := by rw [h0]; decide
      rw [if_neg n1]
      have hby := byC_le v
      obtain ⟨D1, a1, a2⟩ := qP_pad hq M
      obtain ⟨D2, b1, b2⟩ := qP_bits a2.1 (nI (byC v)) 8 (by omega) M
      obtain ⟨D3, c1, c2⟩ := qP_bits b2.1 v (8 * byC v) (by omega) M
      refine ⟨D3, ev_mono (ev_and (c_byC v) (ev_and b1 c1)) (fun N hN => ?_), qP_trans a2 (qP_trans b2 c2)⟩
      unfold FQ_writeInteger
      have hN2 : FQ_appendBits N M (nI (byC v)) 8 D1 = some ((), D2) := hN.2.1
      rw [qo_s rfl hr.1, hr.2.2.1, if_pos h0, hN.1, qc_some, a1, qb_some, hN2, qb_some, show (8 : Int32) * nI (byC v) = nI (8 * byC v) from nI_mul 8 _, hN.2.2, qb_some]
    · have n0 : ¬ T 11 t = 0 := by rw [h1]; decide
      rw [if_pos h1]
      obtain ⟨r1, r2⟩ := rng_I hw h1
      obtain ⟨D1, a1, a2⟩ := qP_num hq (v - T 5 t) r2 M
      refine ⟨D1, ev_mono a1 (fun N hN => ?_), a2⟩
      unfold FQ_writeInteger
      obtain ⟨z1, z2⟩ := hr.2.2.2.1 h1
      rw [qo_s rfl hr.1, hr.2.2.1, if_neg n0, qo_s rfl hr.1, qo_s rfl hr.1, qo_s rfl hr.1, z1, z2, r1, hN, qb_some]
theorem qP_count {M : zM} {T D : zJ} {n a t st nx : Nat} {bs : List Bool} (hw : wfT T n t) (hr : rep M T n a t) (hq : QW D st nx bs) (v : Int32) : ∃ D', Ev (fun N => FQ_appendCount N M (some a) v D = some ((), D')) ∧ qP D D' st nx bs (pcount T t v) := by
  cases n with
  | zero => exact hw.elim
  | succ n =>
    have h01 := hw.2.2.1
    unfold pcount
    rcases h01 with h0 | h1
    · have n1 : ¬ T 11 t = 1 := by rw [h0]; decide
      rw [if_neg n1]
      obtain ⟨D1, a1, a2⟩ := qP_pad hq M
      obtain ⟨D2, b1, b2⟩ := qP_bits a2.1 v 8 (by omega) M
      refine ⟨D2, ev_mono b1 (fun N hN => ?_), qP_trans a2 b2⟩
      unfold FQ_appendCount
      have hN2 : FQ_appendBits N M v 8 D1 = some ((), D2) := hN
      rw [qo_s rfl hr.1, hr.2.2.1, if_pos h0, a1, qb_some, hN2, qb_some]
    · have n0 : ¬ T 11 t = 0 := by rw [h1]; decide
      rw [if_pos h1]
      obtain ⟨r1, r2⟩ := rng_I hw h1
      obtain ⟨D1, a1, a2⟩ := qP_num hq (v - T 5 t) r2 M
      refine ⟨D1, ev_mono a1 (fun N hN => ?_), a2⟩
      unfold FQ_appendCount
      obtain ⟨z1, z2⟩ := hr.2.2.2.1 h1
      rw [qo_s rfl hr.1, hr.2.2.1, if_neg n0, qo_s rfl hr.1, qo_s rfl hr.1, qo_s rfl hr.1, z1, z2, r1, hN, qb_some]
