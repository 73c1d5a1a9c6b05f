/-! THE CLASS writes strictly: pieces -/
def sS (D : zJ) (pos nx : Nat) (fl : Bool) : Prop := D 26 2 = nI pos ∧ D 26 3 = nI nx ∧ D 26 4 = bI fl ∧ pos ≤ 120
def wK (D D' : zJ) : Prop := ∀ c, c ≠ 7 → c ≠ 26 → D' c = D c
def wP (D D' : zJ) (pos : Nat) (fl : Bool) (e : List Nat) (nx' : Nat) : Prop := wK D D' ∧ D' 26 3 = nI nx' ∧
  ((fl = false ∧ pos + e.length ≤ 120 ∧ D' 26 4 = 0 ∧ D' 26 2 = nI (pos + e.length) ∧ (∀ k, k < pos → D' 7 k = D 7 k) ∧ (∀ k b, e[k]? = some b → D' 7 (pos + k) = nI b)) ∨ (¬ (fl = false ∧ pos + e.length ≤ 120) ∧ D' 26 4 = 1 ∧ ∃ p', p' ≤ 120 ∧ D' 26 2 = nI p'))
theorem wK_refl (D : zJ) : wK D D := fun _ _ _ => rfl
theorem wK_trans {D D1 D2 : zJ} (h1 : wK D D1) (h2 : wK D1 D2) : wK D D2 := fun c a b => (h2 c a b).trans (h1 c a b)
theorem wK_7 {D : zJ} {k : Nat} {x : Int32} : wK D (zu D 7 k x) := fun c h _ => zu_ne _ _ _ h
theorem wK_26 {D : zJ} {k : Nat} {x : Int32} : wK D (zu D 26 k x) := fun c _ h => zu_ne _ _ _ h
theorem wP_next {D D1 : zJ} {pos nx1 : Nat} {fl : Bool} {e1 : List Nat} (h : wP D D1 pos fl e1 nx1) : ∃ pos1 fl1, sS D1 pos1 nx1 fl1 ∧ ∀ D2 e2 nx2, wP D1 D2 pos1 fl1 e2 nx2 → wP D D2 pos fl (e1 ++ e2) nx2 := by
  obtain ⟨h1, h2, h3⟩ := h
  rcases h3 with ⟨a1, a2, a3, a4, a5, a6⟩ | ⟨a1, a2, p', a3, a4⟩
  · refine ⟨pos + e1.length, false, ⟨a4, h2, a3, a2⟩, fun D2 e2 nx2 hq => ?_⟩
    obtain ⟨q1, q2, q3⟩ := hq
    refine ⟨wK_trans h1 q1, q2, ?_⟩
    rw [List.length_append, ← Nat.add_assoc]
    rcases q3 with ⟨b1, b2, b3, b4, b5, b6⟩ | ⟨b1, b2, b3⟩
    · refine Or.inl ⟨a1, b2, b3, b4, fun k hk => (b5 k (by omega)).trans (a5 k hk), fun k b hk => ?_⟩
      by_cases c : k < e1.length
      · rw [List.getElem?_append_left c] at hk
        rw [b5 _ (by omega)]
        exact a6 k b hk
      · rw [List.getElem?_append_right (by omega)] at hk
        have := b6 _ b hk
        rw [show pos + e1.length + (k - e1.length) = pos + k by omega] at this
        exact this
    · exact Or.inr ⟨fun q => b1 ⟨rfl, q.2⟩, b2, b3⟩
  · refine ⟨p', true, ⟨a4, h2, a2, a3⟩, fun D2 e2 nx2 hq => ?_⟩
    obtain ⟨q1, q2, q3⟩ := hq
    refine ⟨wK_trans h1 q1, q2, Or.inr ?_⟩
    rcases q3 with ⟨b1, _⟩ | ⟨b1, b2, b3⟩
    · cases b1
    · exact ⟨fun q => a1 ⟨q.1, by have := q.2; rw [List.length_append] at this; omega⟩, b2, b3⟩
theorem wP_nil {D : zJ} {pos nx : Nat} {fl : Bool} (h : sS D pos nx fl) : wP D D pos fl [] nx := by
  obtain ⟨a1, a2, a3, a4⟩ := h
  refine ⟨wK_refl D, a2, ?_⟩
  cases fl with
  | false => exact Or.inl ⟨rfl, a4, a3, a1, fun _ _ => rfl, fun k b hk => by simp at hk⟩
  | true => exact Or.inr ⟨fun q => (by cases q.1), a3, pos, a4, a1⟩
theorem s_app {D : zJ} {pos nx : Nat} {fl : Bool} (h : sS D pos nx fl) (b : Nat) : ∃ D', (∀ N M, FS_append N M (nI b) D = some ((), D')) ∧ wP D D' pos fl [b] nx := by
  obtain ⟨a1, a2, a3, a4⟩ := h
  unfold FS_append
  simp only [a1]
  by_cases c : pos < 120
  · have c' : nI pos < nI 120 := (nI_ltI (by omega) (by omega)).mpr c
    simp only [if_pos c', qk_t (qi_nI c (show 120 < 2 ^ 31 by omega)), nI_clamp (show pos < 2 ^ 31 by omega)]
    have e1 : zu D 7 pos (nI b) 26 2 = nI pos := by rw [zu_at, if_neg (by omega), a1]
    simp only [e1, nI_p1]
    refine ⟨_, fun _ _ => rfl, wK_trans wK_7 wK_26, by rw [zu_at, if_neg (by omega), zu_at, if_neg (by omega)]; exact a2, ?_⟩
    have e4 : zu (zu D 7 pos (nI b)) 26 2 (nI (pos + 1)) 26 4 = bI fl := by rw [zu_at, if_neg (by omega), zu_at, if_neg (by omega)]; exact a3
    cases fl with
    | false =>
      refine Or.inl ⟨rfl, c, e4, zu_self _ _ _ _, fun k hk => ?_, fun k x hk => ?_⟩
      · rw [zu_at, if_neg (by omega), zu_at, if_neg (by omega)]
      · cases k with
        | zero =>
          simp at hk
          subst hk
          rw [zu_at, if_neg (by omega), Nat.add_zero, zu_self]
        | succ k => simp at hk
    | true => exact Or.inr ⟨fun q => (by cases q.1), e4, pos + 1, c, zu_self _ _ _ _⟩
  · have c' : ¬ nI pos < nI 120 := fun q => c ((nI_ltI (by omega) (by omega)).mp q)
    simp only [if_neg c']
    refine ⟨_, fun _ _ => rfl, wK_26, by rw [zu_at, if_neg (by omega)]; exact a2, Or.inr ⟨fun q => ?_, zu_self _ _ _ _, pos, a4, by rw [zu_at, if_neg (by omega)]; exact a1⟩⟩
    have := q.2
    simp at this
    omega
/-- bytes behind each other -/
theorem s_begin {D : zJ} {pos nx : Nat} {fl : Bool} (h : sS D pos nx fl) (tg : Nat) : ∃ D1 pos1 fl1, (∀ N M, FS_beginElement N M (nI tg) D = some (nI pos1, D1)) ∧ sS D1 pos1 nx fl1 ∧ wK D D1 ∧ ((fl1 = false ∧ fl = false ∧ pos1 = pos + 2 ∧ (∀ k, k < pos → D1 7 k = D 7 k) ∧ D1 7 pos = nI tg) ∨ (fl1 = true ∧ ¬ (fl = false ∧ pos + 2 ≤ 120))) := by
  obtain ⟨Da, a1, a2⟩ := s_app h tg
  obtain ⟨p1, f1, b1, b2⟩ := wP_next a2
  obtain ⟨Db, c1, c2⟩ := s_app b1 0
  have hw := b2 _ _ _ c2
  have hgo : ∀ N M, FS_beginElement N M (nI tg) D = some (Db 26 2, Db) := by
    intro N M
    unfold FS_beginElement
    rw [a1, qb_some, show (0 : Int32) = nI 0 from rfl, c1, qb_some]
  obtain ⟨q1, q2, q3⟩ := hw
  rcases q3 with ⟨d1, d2, d3, d4, d5, d6⟩ | ⟨d1, d2, p', d3, d4⟩
  · refine ⟨Db, pos + 2, false, fun N M => by rw [hgo, d4]; rfl, ⟨d4, q2, d3, d2⟩, q1, Or.inl ⟨rfl, d1, rfl, d5, ?_⟩⟩
    have := d6 0 tg rfl
    exact this
  · exact ⟨Db, p', true, fun N M => by rw [hgo, d4], ⟨d4, q2, d2, d3⟩, q1, Or.inr ⟨rfl, d1⟩⟩
theorem s_wrap {D D1 D2 : zJ} {pos pos1 nx nx2 tg : Nat} {fl fl1 : Bool} {c : List Nat} (hp : pos ≤ 120) (hk : wK D D1) (h1 : (fl1 = false ∧ fl = false ∧ pos1 = pos + 2 ∧ (∀ k, k < pos → D1 7 k = D 7 k) ∧ D1 7 pos = nI tg) ∨ (fl1 = true ∧ ¬ (fl = false ∧ pos + 2 ≤ 120))) (h2 : wP D1 D2 pos1 fl1 c nx2) : ∃ D3, (∀ N M, FS_endElement N M (nI pos1) D2 = some ((), D3)) ∧ wP D D3 pos fl (elem tg c) nx2 := by
  obtain ⟨q1, q2, q3⟩ := h2
  unfold FS_endElement
  have hel : 2 + c.length ≤ (elem tg c).length := by
    unfold elem lenB
    split
    · simp; omega
    · split <;> (simp; omega)
  rcases h1 with ⟨a1, a2, a3, a4, a5⟩ | ⟨a1, a2⟩
  · rcases q3 with ⟨d1, d2, d3, d4, d5, d6⟩ | ⟨d1, d2, p', d3, d4⟩
    · have hlt : c.length < 128 := by omega
      have hE : elem tg c = tg :: c.length :: c := by
        unfold elem lenB
        rw [if_pos hlt]
        rfl
      have e1 : nI pos1 - 1 = nI (pos + 1) := by rw [a3]; exact nI_subs (a := pos + 2) (b := 1) (by omega)
      have e2 : nI (pos1 + c.length) - nI pos1 = nI c.length := by rw [nI_subs (by omega), Nat.add_sub_cancel_left]
      refine ⟨zu D2 7 (pos + 1) (nI c.length), fun N M => ?_, wK_trans hk (wK_trans q1 wK_7), by rw [zu_at, if_neg (by omega)]; exact q2, Or.inl ⟨a2, ?_, by rw [zu_at, if_neg (by omega)]; exact d3, ?_, fun k hk => ?_, fun k b hk => ?_⟩⟩
      · rw [d3, if_pos rfl, e1, qk_t (qi_nI (by omega) (by omega)), nI_clamp (by omega), d4, e2]
      · rw [hE]; simp; omega
      · rw [zu_at, if_neg (by omega), d4, hE]
        simp only [List.length_cons]
        rw [show pos1 + c.length = pos + (c.length + 1 + 1) by omega]
      · rw [zu_at, if_neg (by omega), d5 k (by omega), a4 k hk]
      · rw [hE] at hk
        cases k with
        | zero =>
          simp at hk
          subst hk
          rw [zu_at, if_neg (by omega), d5 _ (by omega), Nat.add_zero]
          exact a5
        | succ k =>
          cases k with
          | zero =>
            simp at hk
            subst hk
            rw [zu_at, if_pos ⟨rfl, rfl⟩]
          | succ k =>
            have := d6 k b (by simpa using hk)
            rw [zu_at, if_neg (by omega), show pos + (k + 1 + 1) = pos1 + k by omega]
            exact this
    · refine ⟨D2, fun N M => by rw [d2, if_neg (by decide)], wK_trans hk q1, q2, Or.inr ⟨fun q => ?_, d2, p', d3, d4⟩⟩
      exact d1 ⟨a1, by have := q.2; omega⟩
  · rcases q3 with ⟨d1, _⟩ | ⟨d1, d2, p', d3, d4⟩
    · rw [a1] at d1; cases d1
    · refine ⟨D2, fun N M => by rw [d2, if_neg (by decide)], wK_trans hk q1, q2, Or.inr ⟨fun q => ?_, d2, p', d3, d4⟩⟩
      exact a2 ⟨q.1, by have := q.2; omega⟩
theorem i_byte (v : Int32) {j : Nat} (hj : j < 4) : (v >>> nI (8 * j)) &&& 255 = nI (vby v j) := by
  refine i_eq_nat (by unfold vby; omega) ?_
  rw [i_and255]
  have h1 := i_shr (a := v) (k := 8 * j) (by omega)
  have h2 := i_bvnat (v >>> nI (8 * j))
  have h3 := i_bvnat v
  have h4 := i_lt32 v
  have h5 := i_lt32 (v >>> nI (8 * j))
  rw [h1] at h2
  unfold vby
  generalize (v >>> nI (8 * j)).toBitVec.toNat = y at *
  generalize v.toBitVec.toNat = x at *
  have hc : j = 0 ∨ j = 1 ∨ j = 2 ∨ j = 3 := by omega
  rcases hc with rfl | rfl | rfl | rfl <;> simp at h2 ⊢ <;> split at h2 <;> split at h3 <;> omega
theorem c_byC (v : Int32) : Ev (fun N => FI_byteCount N v = some (nI (byC v))) := by
  refine ⟨8, fun N hN => ?_⟩
  obtain ⟨k, rfl⟩ : ∃ k, N = k + 4 := ⟨N - 4, by omega⟩
  have e7 : ((8 * 1 - 1 : Int32) &&& 31) = nI 7 := by decide
  have e15 : ((8 * 2 - 1 : Int32) &&& 31) = nI 15 := by decide
  have e23 : ((8 * 3 - 1 : Int32) &&& 31) = nI 23 := by decide
  have hz : ∀ m, m < 32 → ((v >>> nI m = 0) ↔ (v.toInt / 2 ^ m = 0)) := fun m hm => by rw [← Int32.toInt_inj, i_shr hm, i_0]
  have hn : ∀ m, m < 32 → ((v >>> nI m = -1) ↔ (v.toInt / 2 ^ m = -1)) := fun m hm => by rw [← Int32.toInt_inj, i_shr hm, i_neg1]
  unfold FI_byteCount
  simp only [qfix, FI_byteCount_2, show (1 + 1 : Int32) = 2 from by decide, show (2 + 1 : Int32) = 3 from by decide, show (3 + 1 : Int32) = 4 from by decide, e7, e15, e23, hz 7 (by omega), hz 15 (by omega), hz 23 (by omega), hn 7 (by omega), hn 15 (by omega), hn 23 (by omega)]
  have c1 := byC_1' v
  have c2 := byC_2' v
  have c3 := byC_3' v
  have c4 := byC_4' v
  rw [if_neg (by decide), if_neg (show ¬ (4 : Int32) ≤ 2 by decide), if_neg (show ¬ (4 : Int32) ≤ 3 by decide), if_pos (show (4 : Int32) ≤ 4 by decide)]
  by_cases d1 : -128 ≤ v.toInt ∧ v.toInt ≤ 127
  · rw [c1.mpr d1]
    by_cases z : v.toInt / 2 ^ 7 = 0
    · rw [if_pos z]; rfl
    · rw [if_neg z, if_pos (by omega)]; rfl
  rw [if_neg (by omega), if_neg (by omega)]
  by_cases d2 : -32768 ≤ v.toInt ∧ v.toInt ≤ 32767
  · rw [c2.mpr ⟨d1, d2⟩]
    by_cases z : v.toInt / 2 ^ 15 = 0
    · rw [if_pos z]; rfl
    · rw [if_neg z, if_pos (by omega)]; rfl
  rw [if_neg (by omega), if_neg (by omega)]
  by_cases d3 : -8388608 ≤ v.toInt ∧ v.toInt ≤ 8388607
  · rw [c3.mpr ⟨d2, d3⟩]
    by_cases z : v.toInt / 2 ^ 23 = 0
    · rw [if_pos z]; rfl
    · rw [if_neg z, if_pos (by omega)]; rfl
  rw [if_neg (by omega), if_neg (by omega), c4.mpr d3]
  rfl
theorem byC_le (v : Int32) : 1 ≤ byC v ∧ byC v ≤ 4 := by unfold byC; (repeat' split) <;> omega
theorem intB_succ (v : Int32) (c : Nat) : intB v (c + 1) = vby v c :: intB v c := by
  unfold intB
  rw [List.range_succ_eq_map, List.map_cons, List.map_map]
  congr 1
  apply List.map_congr_left
  intro k hk
  simp at hk ⊢
  congr 1
  omega
theorem s_int {D : zJ} {pos nx : Nat} {fl : Bool} (v : Int32) (M : zM) : ∀ c D pos fl, c ≤ 4 → sS D pos nx fl → ∃ D', (∀ N F, c + 1 ≤ F → qfix (FS_writeInteger_10 N M v) F (nI (8 * c) + (-8), D) = some ((), D')) ∧ wP D D' pos fl (intB v c) nx := by
  intro c
  induction c with
  | zero =>
    intro D pos fl _ h
    refine ⟨D, fun N F hF => ?_, wP_nil h⟩
    obtain ⟨F, rfl⟩ : ∃ g, F = g + 1 := ⟨F - 1, by omega⟩
    show FS_writeInteger_10 N M v _ (nI (8 * 0) + (-8), D) = _
    simp only [FS_writeInteger_10]
    rw [if_pos (by decide)]
  | succ c ih =>
    intro D pos fl hc h
    obtain ⟨D1, a1, a2⟩ := s_app h (vby v c)
    obtain ⟨p1, f1, b1, b2⟩ := wP_next a2
    obtain ⟨D2, c1, c2⟩ := ih D1 p1 f1 (by omega) b1
    refine ⟨D2, fun N F hF => ?_, by rw [intB_succ]; exact b2 _ _ _ c2⟩
    obtain ⟨F, rfl⟩ : ∃ g, F = g + 1 := ⟨F - 1, by omega⟩
    have e : nI (8 * (c + 1)) + (-8) = nI (8 * c) := by
      rw [show 8 * (c + 1) = 8 * c + 8 by omega, ← nI_add, Int32.add_assoc, show (nI 8 + -8 : Int32) = 0 from by decide, Int32.add_zero]
    rw [e]
    show FS_writeInteger_10 N M v _ (nI (8 * c), D) = _
    simp only [FS_writeInteger_10]
    rw [if_neg (by rw [show (0 : Int32) = nI 0 from rfl, nI_ltI (by omega) (by omega)]; omega), nI_and31 (by omega), i_byte v (by omega), a1, qb_some]
    exact c1 N F (by omega)
