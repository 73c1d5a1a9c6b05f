/-! BITS in bytes: what packed bits are as bytes; THE REFERENCE brings bits -/
def gb (bs : List Bool) (k : Nat) : Nat := (bs.getD k false).toNat
def pbF (g : Nat → Nat) (b : Nat) : Nat := 128 * g (8 * b) + 64 * g (8 * b + 1) + 32 * g (8 * b + 2) + 16 * g (8 * b + 3) + 8 * g (8 * b + 4) + 4 * g (8 * b + 5) + 2 * g (8 * b + 6) + g (8 * b + 7)
def pby (bs : List Bool) (b : Nat) : Nat := pbF (gb bs) b
theorem gb_le (bs : List Bool) (k : Nat) : gb bs k ≤ 1 := by
  unfold gb
  cases bs.getD k false <;> decide
theorem gb_ge {bs : List Bool} {k : Nat} (h : bs.length ≤ k) : gb bs k = 0 := by
  unfold gb
  rw [List.getD_eq_getElem?_getD, List.getElem?_eq_none h]
  rfl
theorem gb_app (bs : List Bool) (v : Bool) (k : Nat) : gb (bs ++ [v]) k = if k = bs.length then v.toNat else gb bs k := by
  by_cases c : k = bs.length
  · subst c
    rw [if_pos rfl]
    unfold gb
    rw [List.getD_eq_getElem?_getD, List.getElem?_append_right (Nat.le_refl _), Nat.sub_self]
    rfl
  · rw [if_neg c]
    by_cases c2 : k < bs.length
    · unfold gb
      rw [List.getD_eq_getElem?_getD, List.getD_eq_getElem?_getD, List.getElem?_append_left c2]
    · rw [gb_ge (show (bs ++ [v]).length ≤ k by simp; omega), gb_ge (show bs.length ≤ k by omega)]
theorem gb_l {a b : List Bool} {k : Nat} (h : k < a.length) : gb (a ++ b) k = gb a k := by
  unfold gb
  rw [List.getD_eq_getElem?_getD, List.getD_eq_getElem?_getD, List.getElem?_append_left h]
theorem gb_r (a b : List Bool) (k : Nat) : gb (a ++ b) (a.length + k) = gb b k := by
  unfold gb
  rw [List.getD_eq_getElem?_getD, List.getD_eq_getElem?_getD, List.getElem?_append_right (by omega), Nat.add_sub_cancel_left]
theorem pby_lt (bs : List Bool) (b : Nat) : pby bs b < 256 := by
  have h := gb_le bs
  have h0 := h (8 * b)
  have h1 := h (8 * b + 1)
  have h2 := h (8 * b + 2)
  have h3 := h (8 * b + 3)
  have h4 := h (8 * b + 4)
  have h5 := h (8 * b + 5)
  have h6 := h (8 * b + 6)
  have h7 := h (8 * b + 7)
  unfold pby pbF
  omega
theorem pby_c {a b : List Bool} {n : Nat} (h : ∀ k, 8 * n ≤ k → k < 8 * n + 8 → gb a k = gb b k) : pby a n = pby b n := by
  unfold pby pbF
  rw [h _ (by omega) (by omega), h (8 * n + 1) (by omega) (by omega), h (8 * n + 2) (by omega) (by omega), h (8 * n + 3) (by omega) (by omega), h (8 * n + 4) (by omega) (by omega), h (8 * n + 5) (by omega) (by omega), h (8 * n + 6) (by omega) (by omega), h (8 * n + 7) (by omega) (by omega)]
theorem pby_pad (bs : List Bool) (m b : Nat) : pby (bs ++ List.replicate m false) b = pby bs b := by
  refine pby_c (fun k _ _ => ?_)
  by_cases c : k < bs.length
  · rw [gb_l c]
  · rw [gb_ge (show bs.length ≤ k by omega)]
    obtain ⟨j, rfl⟩ : ∃ j, k = bs.length + j := ⟨k - bs.length, by omega⟩
    rw [gb_r]
    unfold gb
    rw [List.getD_eq_getElem?_getD, List.getElem?_replicate]
    split <;> rfl
theorem pby_lo {bs : List Bool} {v : Bool} {b : Nat} (h : b < bs.length / 8) : pby (bs ++ [v]) b = pby bs b := pby_c (fun k h1 h2 => gb_l (by omega))
theorem pby_one (bs : List Bool) (v : Bool) : pby (bs ++ [v]) (bs.length / 8) = pby bs (bs.length / 8) + v.toNat * 2 ^ (7 - bs.length % 8) ∧ pby bs (bs.length / 8) % 2 ^ (8 - bs.length % 8) = 0 := by
  have ha := gb_app bs v
  have hge : ∀ k, bs.length ≤ k → gb bs k = 0 := fun k h => gb_ge h
  have hq : bs.length = 8 * (bs.length / 8) + bs.length % 8 := by omega
  have hr : bs.length % 8 < 8 := by omega
  have h := gb_le bs
  unfold pby pbF
  simp only [ha]
  generalize bs.length / 8 = q at *
  generalize bs.length % 8 = r at *
  generalize bs.length = n at *
  subst hq
  have h0 := h (8 * q)
  have h1 := h (8 * q + 1)
  have h2 := h (8 * q + 2)
  have h3 := h (8 * q + 3)
  have h4 := h (8 * q + 4)
  have h5 := h (8 * q + 5)
  have h6 := h (8 * q + 6)
  have h7 := h (8 * q + 7)
  have g0 := hge (8 * q)
  have g1 := hge (8 * q + 1)
  have g2 := hge (8 * q + 2)
  have g3 := hge (8 * q + 3)
  have g4 := hge (8 * q + 4)
  have g5 := hge (8 * q + 5)
  have g6 := hge (8 * q + 6)
  have g7 := hge (8 * q + 7)
  clear ha hge h
  generalize gb bs (8 * q) = x0 at *
  generalize gb bs (8 * q + 1) = x1 at *
  generalize gb bs (8 * q + 2) = x2 at *
  generalize gb bs (8 * q + 3) = x3 at *
  generalize gb bs (8 * q + 4) = x4 at *
  generalize gb bs (8 * q + 5) = x5 at *
  generalize gb bs (8 * q + 6) = x6 at *
  generalize gb bs (8 * q + 7) = x7 at *
  generalize v.toNat = w at *
  have hr8 : r = 0 ∨ r = 1 ∨ r = 2 ∨ r = 3 ∨ r = 4 ∨ r = 5 ∨ r = 6 ∨ r = 7 := by omega
  rcases hr8 with rfl | rfl | rfl | rfl | rfl | rfl | rfl | rfl <;> simp at * <;> omega
theorem or_bit (bs : List Bool) (v : Int32) {k : Nat} (hk : k < 32) : nI (pby bs (bs.length / 8)) ||| (((v >>> nI k) &&& 1) <<< nI (7 - bs.length % 8)) = nI (pby (bs ++ [v.toBitVec.getLsbD k]) (bs.length / 8)) := by
  obtain ⟨e1, e2⟩ := pby_one bs (v.toBitVec.getLsbD k)
  have hlt := pby_lt bs (bs.length / 8)
  have hb : (v.toBitVec.getLsbD k).toNat ≤ 1 := by cases v.toBitVec.getLsbD k <;> decide
  have hp : (v.toBitVec.getLsbD k).toNat * 2 ^ (7 - bs.length % 8) < 2 ^ (8 - bs.length % 8) := by
    rw [show 8 - bs.length % 8 = (7 - bs.length % 8) + 1 by omega, Nat.pow_succ]
    have := Nat.two_pow_pos (7 - bs.length % 8)
    have h2 : (v.toBitVec.getLsbD k).toNat * 2 ^ (7 - bs.length % 8) ≤ 1 * 2 ^ (7 - bs.length % 8) := Nat.mul_le_mul_right _ hb
    omega
  have hp2 : 2 ^ (8 - bs.length % 8) ≤ 2 ^ 8 := Nat.pow_le_pow_right (by omega) (by omega)
  rw [i_bit v hk, nI_shl (by omega), nI_or (by omega) (by omega), e1]
  congr 1
  obtain ⟨m, hm⟩ : ∃ m, pby bs (bs.length / 8) = m * 2 ^ (8 - bs.length % 8) := ⟨pby bs (bs.length / 8) / 2 ^ (8 - bs.length % 8), by
    have := Nat.div_add_mod (pby bs (bs.length / 8)) (2 ^ (8 - bs.length % 8))
    rw [e2, Nat.add_zero, Nat.mul_comm] at this
    exact this.symm⟩
  rw [hm, n_or hp]
theorem ibits_succ (v : Int32) (r : Nat) : ibits v (r + 1) = v.toBitVec.getLsbD r :: ibits v r := by
  unfold ibits
  rw [List.range_succ_eq_map, List.map_cons, List.map_map]
  congr 1
  apply List.map_congr_left
  intro k hk
  simp at hk ⊢
  congr 1
  omega
theorem ibits_len (v : Int32) (n : Nat) : (ibits v n).length = n := by simp [ibits]
theorem pby_full (bs : List Bool) (h : bs.length % 8 = 0) : pby bs (bs.length / 8) = 0 := by
  unfold pby pbF
  rw [gb_ge (by omega), gb_ge (by omega), gb_ge (by omega), gb_ge (by omega), gb_ge (by omega), gb_ge (by omega), gb_ge (by omega), gb_ge (by omega)]
/-- the bits that the reference has made so far -/
def rW (J : zJ) (bs : List Bool) : Prop := J 0 30 = nI bs.length ∧ ∀ b, 8 * b < bs.length → J 20 b = nI (pby bs b)
def rK (J J' : zJ) : Prop := ∀ c k, c ≠ 20 → ¬ (c = 0 ∧ k = 30) → J' c k = J c k
theorem rK_trans {J J1 J2 : zJ} (h1 : rK J J1) (h2 : rK J1 J2) : rK J J2 := fun c k a b => (h2 c k a b).trans (h1 c k a b)
theorem rK_refl (J : zJ) : rK J J := fun _ _ _ _ => rfl
theorem r_bring0 (v : Int32) : ∀ r J bs, r ≤ 32 → rW J bs → bs.length + r ≤ 31000 → ∃ J', (∀ N F, r + 1 ≤ F → qfix (FM_bring_4 N v) F (nI r + (-1), J) = some ((), J')) ∧ rW J' (bs ++ ibits v r) ∧ rK J J' := by
  intro r
  induction r with
  | zero =>
    intro J bs _ h _
    refine ⟨J, fun N F hF => ?_, by rw [show ibits v 0 = [] from rfl, List.append_nil]; exact h, rK_refl J⟩
    obtain ⟨F, rfl⟩ : ∃ g, F = g + 1 := ⟨F - 1, by omega⟩
    rw [qfix_s]
    simp only [FM_bring_4]
    rw [if_pos (by decide)]
  | succ r ih =>
    intro J bs hr h hl
    obtain ⟨h1, h2⟩ := h
    have e8 : nI bs.length / 8 = nI (bs.length / 8) := by rw [show (8 : Int32) = nI 8 from rfl, nI_div (by omega) (by omega)]
    have e7 : nI bs.length - nI (bs.length / 8) * 8 = nI (bs.length % 8) := by
      rw [show (8 : Int32) = nI 8 from rfl, nI_mul, nI_subs (by omega)]
      congr 1
      omega
    have hlen : (bs ++ [v.toBitVec.getLsbD r]).length = bs.length + 1 := by simp
    -- the byte holds what is there
    have hgen : ∀ J1 : zJ, J1 0 30 = nI bs.length → J1 20 (bs.length / 8) = nI (pby bs (bs.length / 8)) → (∀ N K, FM_bring_31 N K v (nI r) J1 = K (nI r + (-1), zu (zu J1 20 (bs.length / 8) (nI (pby (bs ++ [v.toBitVec.getLsbD r]) (bs.length / 8)))) 0 30 (nI (bs.length + 1)))) := by
      intro J1 g1 g2 N K
      unfold FM_bring_31
      simp only [g1, e8, e7, qk_t (qi_nI (show bs.length / 8 < 4000 by omega) (show 4000 < 2 ^ 31 by omega)), nI_clamp (show bs.length / 8 < 2 ^ 31 by omega), g2]
      rw [nI_and31 (by omega), show (7 : Int32) - nI (bs.length % 8) = nI (7 - bs.length % 8) from nI_subs (a := 7) (by omega), nI_and31 (by omega), or_bit bs v (by omega), zu_at, if_neg (by omega), g1, nI_p1]
    have hfin : ∀ J1 : zJ, J1 0 30 = nI bs.length → J1 20 (bs.length / 8) = nI (pby bs (bs.length / 8)) → (∀ b, 8 * b < bs.length → J1 20 b = nI (pby bs b)) → rK J J1 → (∀ N K, FM_bring_4 N v K (nI r, J) = FM_bring_31 N K v (nI r) J1) → ∃ J', (∀ N F, r + 1 + 1 ≤ F → qfix (FM_bring_4 N v) F (nI (r + 1) + (-1), J) = some ((), J')) ∧ rW J' (bs ++ ibits v (r + 1)) ∧ rK J J' := by
      intro J1 g1 g2 g3 g4 g5
      obtain ⟨J', i1, i2, i3⟩ := ih (zu (zu J1 20 (bs.length / 8) (nI (pby (bs ++ [v.toBitVec.getLsbD r]) (bs.length / 8)))) 0 30 (nI (bs.length + 1))) (bs ++ [v.toBitVec.getLsbD r]) (by omega) ⟨by rw [zu_self, hlen], fun b hb => by
        rw [hlen] at hb
        rw [zu_at, if_neg (by omega), zu_at]
        by_cases c : b = bs.length / 8
        · rw [if_pos ⟨rfl, c⟩, c]
        · rw [if_neg (fun z => c z.2), g3 b (by omega), pby_lo (by omega)]⟩ (by rw [hlen]; omega)
      refine ⟨J', fun N F hF => ?_, by rw [ibits_succ, ← List.singleton_append, ← List.append_assoc]; exact i2, rK_trans (rK_trans g4 (fun c k c1 c2 => by rw [zu_at, if_neg (by omega), zu_at, if_neg (by omega)])) i3⟩
      obtain ⟨F, rfl⟩ : ∃ g, F = g + 1 := ⟨F - 1, by omega⟩
      rw [nI_dec, qfix_s, g5, hgen J1 g1 g2]
      exact i1 N F (by omega)
    have hneg : ¬ nI r < 0 := by rw [show (0 : Int32) = nI 0 from rfl, nI_ltI (by omega) (by omega)]; omega
    by_cases c : bs.length % 8 = 0
    · refine hfin (zu J 20 (bs.length / 8) 0) (by rw [zu_at, if_neg (by omega)]; exact h1) (by rw [zu_self, pby_full bs c]; rfl) (fun b hb => by rw [zu_at, if_neg (by omega)]; exact h2 b hb) (fun c k c1 c2 => by rw [zu_at, if_neg (by omega)]) (fun N K => ?_)
      simp only [FM_bring_4]
      rw [if_neg hneg, h1, e8, e7, if_pos (by rw [c]; rfl), qk_t (qi_nI (by omega) (by omega)), nI_clamp (by omega)]
    · refine hfin J h1 (h2 _ (by omega)) h2 (rK_refl J) (fun N K => ?_)
      simp only [FM_bring_4]
      rw [if_neg hneg, h1, e8, e7, if_neg (by rw [show (0 : Int32) = nI 0 from rfl, nI_eq (by omega) (by omega)]; exact c)]
theorem r_bring {J : zJ} {bs : List Bool} (h : rW J bs) (v : Int32) (n : Nat) (hn : n ≤ 32) (hl : bs.length + n ≤ 31000) : ∃ J', Ev (fun N => FM_bring N v (nI n) J = some ((), J')) ∧ rW J' (bs ++ ibits v n) ∧ rK J J' := by
  obtain ⟨J', i1, i2, i3⟩ := r_bring0 v n J bs hn h hl
  refine ⟨J', ⟨n + 1, fun N hN => ?_⟩, i2, i3⟩
  dsimp only
  unfold FM_bring
  rw [Int32.sub_eq_add_neg]
  exact i1 N N (by omega)
theorem r_fill {J : zJ} {bs : List Bool} (h : rW J bs) (hl : bs.length ≤ 30000) : ∃ J', (∀ N, FM_fill N J = some ((), J')) ∧ rW J' (bs ++ ppad bs.length) ∧ rK J J' := by
  obtain ⟨h1, h2⟩ := h
  have e8 : nI bs.length / 8 = nI (bs.length / 8) := by rw [show (8 : Int32) = nI 8 from rfl, nI_div (by omega) (by omega)]
  have e7 : nI bs.length - nI (bs.length / 8) * 8 = nI (bs.length % 8) := by
    rw [show (8 : Int32) = nI 8 from rfl, nI_mul, nI_subs (by omega)]
    congr 1
    omega
  unfold FM_fill ppad
  simp only [h1, e8, e7]
  by_cases c : bs.length % 8 = 0
  · have hc : nI (bs.length % 8) ≤ 0 := by rw [c]; decide
    simp only [if_pos hc]
    refine ⟨J, fun _ => rfl, ?_, rK_refl J⟩
    rw [c]
    simp only [Nat.sub_zero, Nat.mod_self, List.replicate_zero, List.append_nil]
    exact ⟨h1, h2⟩
  · have hc : ¬ nI (bs.length % 8) ≤ 0 := by rw [show (0 : Int32) = nI 0 from rfl, nI_leI (by omega) (by omega)]; omega
    simp only [if_neg hc]
    refine ⟨_, fun _ => rfl, ⟨?_, fun b hb => ?_⟩, fun c k c1 c2 => by rw [zu_at, if_neg (by omega)]⟩
    · rw [zu_self, List.length_append, List.length_replicate, show (8 : Int32) - nI (bs.length % 8) = nI (8 - bs.length % 8) from nI_subs (a := 8) (by omega), nI_add, show (8 - bs.length % 8) % 8 = 8 - bs.length % 8 by omega]
    · rw [List.length_append, List.length_replicate] at hb
      rw [zu_at, if_neg (by omega), pby_pad]
      exact h2 b (by omega)
