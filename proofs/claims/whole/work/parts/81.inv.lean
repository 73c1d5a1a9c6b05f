/-! THE INVARIANT between two calls: desk (cells from A on) against reference (cells from A + 32 on) -/
/-- sets of tags: the reference's bits 20 + digit are the class's bits 17 + digit -/
def cTag (y : Int32) : Int32 := (y &&& (131071 : Int32)) ||| ((y >>> (3 : Int32)) &&& (134086656 : Int32))
/-- which alternative is it in the order of least tags -/
def jLeast (J : zJ) (n : Nat) : Int32 := J 9 (J 13 n).toNatClampNeg &&& -J 9 (J 13 n).toNatClampNeg
def jRank (J : zJ) (t j cnt : Nat) : Nat := ((List.range cnt).filter (fun i => decide (jLeast J (6 * t + i) < jLeast J (6 * t + j)))).length
/-- members from j on: m of them, the first one at c -/
def rChain (M : zM) (J : zJ) (P : Nat → Nat → Prop) (t cnt : Nat) : Nat → Nat → Option Nat → Prop
  | 0, _, c => c = none
  | m + 1, j, c => ∃ b, c = some b ∧ zsh M b = some (.inl 1) ∧ (∃ a u, zr M b 0 = some a ∧ J 13 (6 * t + j) = nI u ∧ P a u) ∧ zi M b 1 = nI j ∧ zi M b 2 = J 14 (6 * t + j) ∧ (J 14 (6 * t + j) = 0 ∨ J 14 (6 * t + j) = 1 ∨ J 14 (6 * t + j) = 2) ∧ (J 14 (6 * t + j) = 2 → zi M b 3 = J 15 (6 * t + j)) ∧ (J 4 t = 9 → zi M b 4 = nI (jRank J t j cnt)) ∧ rChain M J P t cnt m (j + 1) (zr M b 5)
/-- the type object at a is node t of the reference's table, at most n deep -/
def rep (M : zM) (J : zJ) : Nat → Nat → Nat → Prop
  | 0, _, _ => False
  | n + 1, a, t => t < 160 ∧ zsh M a = some (.inl 6) ∧ zi M a 0 = J 4 t ∧ zi M a 1 = J 11 t ∧ (J 11 t = 0 ∨ J 11 t = 1) ∧
    (J 11 t = 1 → zi M a 2 = J 5 t ∧ zi M a 3 = J 6 t ∧ J 5 t ≤ J 6 t ∧ (J 4 t = 2 → (J 6 t).toInt - (J 5 t).toInt < 65536) ∧ (J 4 t ≠ 2 → 0 ≤ J 5 t ∧ J 6 t ≤ 20)) ∧
    zi M a 6 = cTag (J 9 t) ∧ J 9 t &&& 1072824319 = J 9 t ∧
    ((J 4 t = 1 ∨ J 4 t = 2 ∨ J 4 t = 4 ∨ J 4 t = 5) ∨
     (J 4 t = 7 ∧ ∃ b u, zr M a 9 = some b ∧ J 13 (6 * t) = nI u ∧ rep M J n b u) ∨
     (J 4 t = 10 ∧ ∃ b u dg, dg ≤ 9 ∧ J 7 t = nI dg ∧ zi M a 4 = nI dg ∧ zr M a 9 = some b ∧ J 13 (6 * t) = nI u ∧ rep M J n b u ∧ (J 12 t = 0 ∨ J 12 t = 1) ∧ zi M a 5 = if J 12 t = 0 ∨ J 4 u = 9 then 1 else 0) ∨
     ((J 4 t = 6 ∨ J 4 t = 9) ∧ ∃ cnt, cnt ≤ 6 ∧ J 8 t = nI cnt ∧ zi M a 8 = nI cnt ∧ (J 4 t = 9 → 1 ≤ cnt) ∧ rChain M J (rep M J n) t cnt cnt 0 (zr M a 10)))
theorem rChain_mono {M M' : zM} {J J' : zJ} {P P' : Nat → Nat → Prop} {t cnt : Nat} (ht : t < 160) (hg : zag M M') (hJ : ∀ c k, 4 ≤ c → c ≤ 15 → J' c k = J c k) (hP : ∀ a u, P a u → P' a u) : ∀ m j c, rChain M J P t cnt m j c → rChain M' J' P' t cnt m j c := by
  intro m
  induction m with
  | zero => intro j c h; exact h
  | succ m ih =>
    intro j c h
    obtain ⟨b, h1, h2, ⟨a, u, h3, h4, h5⟩, h6, h7, h8, h9, h10, h11⟩ := h
    obtain ⟨g1, g2, g3⟩ := hg b 1 (Or.inr rfl) h2
    refine ⟨b, h1, g1, ⟨a, u, by rw [g3]; exact h3, by rw [hJ 13 _ (by omega) (by omega)]; exact h4, hP a u h5⟩, by rw [g2]; exact h6, by rw [g2, hJ 14 _ (by omega) (by omega)]; exact h7, by rw [hJ 14 _ (by omega) (by omega)]; exact h8, ?_, ?_, by rw [g3]; exact ih _ _ h11⟩
    · rw [hJ 14 _ (by omega) (by omega), g2, hJ 15 _ (by omega) (by omega)]; exact h9
    · intro h
      rw [hJ 4 _ (by omega) (by omega)] at h
      rw [g2, h10 h]
      have hl : ∀ n, jLeast J' n = jLeast J n := by
        intro n
        unfold jLeast
        rw [hJ 13 _ (by omega) (by omega), hJ 9 _ (by omega) (by omega)]
      unfold jRank
      simp only [hl]
theorem rep_mono {M M' : zM} {J J' : zJ} (hg : zag M M') (hJ : ∀ c k, 4 ≤ c → c ≤ 15 → J' c k = J c k) : ∀ n a t, rep M J n a t → rep M' J' n a t := by
  intro n
  induction n with
  | zero => intro a t h; exact h
  | succ n ih =>
    intro a t h
    obtain ⟨ht, h1, h2, h3, h4, h5, h6, h7, h8⟩ := h
    obtain ⟨g1, g2, g3⟩ := hg a 6 (Or.inl rfl) h1
    have e4 : ∀ k, J' 4 k = J 4 k := fun k => hJ 4 k (by omega) (by omega)
    have e5 : ∀ k, J' 5 k = J 5 k := fun k => hJ 5 k (by omega) (by omega)
    have e6 : ∀ k, J' 6 k = J 6 k := fun k => hJ 6 k (by omega) (by omega)
    have e7 : ∀ k, J' 7 k = J 7 k := fun k => hJ 7 k (by omega) (by omega)
    have e8 : ∀ k, J' 8 k = J 8 k := fun k => hJ 8 k (by omega) (by omega)
    have e9 : ∀ k, J' 9 k = J 9 k := fun k => hJ 9 k (by omega) (by omega)
    have e11 : ∀ k, J' 11 k = J 11 k := fun k => hJ 11 k (by omega) (by omega)
    have e12 : ∀ k, J' 12 k = J 12 k := fun k => hJ 12 k (by omega) (by omega)
    have e13 : ∀ k, J' 13 k = J 13 k := fun k => hJ 13 k (by omega) (by omega)
    refine ⟨ht, g1, ?_, ?_, ?_, ?_, ?_, ?_, ?_⟩
    · rw [g2, e4]; exact h2
    · rw [g2, e11]; exact h3
    · rw [e11]; exact h4
    · rw [e11, g2, e5, e6, e4]; exact h5
    · rw [g2, e9]; exact h6
    · rw [e9]; exact h7
    · rw [e4, e7, e8, e12, e13, g2, g3]
      rcases h8 with h | ⟨h, b, u, q1, q2, q3⟩ | ⟨h, b, u, dg, q1, q2, q3, q4, q5, q6, q7, q8⟩ | ⟨h, cnt, q1, q2, q3, q4, q5⟩
      · exact Or.inl h
      · exact Or.inr (Or.inl ⟨h, b, u, q1, q2, ih b u q3⟩)
      · refine Or.inr (Or.inr (Or.inl ⟨h, b, u, dg, q1, q2, q3, q4, q5, ih b u q6, q7, ?_⟩))
        rw [e4]; exact q8
      · exact Or.inr (Or.inr (Or.inr ⟨h, cnt, q1, q2, q3, q4, rChain_mono ht hg hJ (fun a u h => ih a u h) cnt 0 _ q5⟩))
def iLay (M : zM) (A : Nat) : Prop := zLy M A dShL dRf ∧ zLy M (A + 32) mShL mRf ∧ zsh M (A + 72) = some (.inr (2, 1))
/-- the pools: a types and b members have been made -/
def iPool (M : zM) (A a b : Nat) : Prop :=
  a ≤ 150 ∧ b ≤ 150 ∧ (∀ j, j < a → ∃ x, zr M (A + 4) j = some x ∧ zsh M x = some (.inl 6)) ∧ (∀ j, a ≤ j → zr M (A + 4) j = none) ∧ (∀ i j, i < a → j < a → zr M (A + 4) i = zr M (A + 4) j → i = j) ∧
  (∀ j, j < b → ∃ x, zr M (A + 5) j = some x ∧ zsh M x = some (.inl 1)) ∧ (∀ j, b ≤ j → zr M (A + 5) j = none) ∧ (∀ i j, i < b → j < b → zr M (A + 5) i = zr M (A + 5) j → i = j)
def iRoom (M : zM) (A KC KS q : Nat) : Prop := ∃ a b, iPool M A a b ∧ zsz M + (150 - a) + (150 - b) + q ≤ KC ∧ zsl M + 12 * (150 - a) + 6 * (150 - b) + 6 * q ≤ KS ∧ A + 73 ≤ zsz M ∧ ∀ x s, zsh M x = some s → x < zsz M
def iTxt (D J : zJ) : Prop := ∃ n, n ≤ 150 ∧ D 0 1 = nI n ∧ J 0 2 = nI n ∧ ∀ k, k < n → D 1 k = J 1 k ∧ ∃ c, c < 65536 ∧ J 1 k = nI c
def iBuf (D J : zJ) : Prop := ∃ n, n ≤ 120 ∧ D 0 5 = nI n ∧ J 0 27 = nI n ∧ ∀ k, k < n → D 6 k = J 18 k ∧ ∃ b, b < 256 ∧ J 18 k = nI b
def iVal (D J : zJ) : Prop := ∃ n, n ≤ 100 ∧ D 8 0 = nI n ∧ J 0 44 = nI n ∧ ∀ k, k < n → D 9 k = J 29 (5 * k) ∧ D 10 k = J 29 (5 * k + 1) ∧ D 11 k = J 29 (5 * k + 2) ∧ D 12 k = J 29 (5 * k + 3) ∧ (J 29 (5 * k) = 4 → ∃ f m, f + m ≤ 120 ∧ D 13 k = nI f ∧ J 29 (5 * k + 4) = nI f ∧ J 29 (5 * k + 1) = nI m ∧ ∀ i, i < m → D 15 (f + i) = J 30 (f + i) ∧ ∃ b, b < 256 ∧ J 30 (f + i) = nI b)
def iName (M : zM) (A : Nat) (J : zJ) : Prop := ∀ c, c < 26 → (zr M (A + 3) c = none ∧ J 3 c = -1) ∨ ∃ a t, zr M (A + 3) c = some a ∧ J 3 c = nI t ∧ rep M J 6 a t
def iMod (M : zM) (A : Nat) (D J : zJ) : Prop := D 0 3 = J 0 1 ∧ (J 0 1 = 0 ∨ (J 0 1 = 1 ∧ iName M A J))
def iOps (M : zM) (A : Nat) (D J : zJ) : Prop := ∀ k, k < 8 → (zr M (A + 28) k = none ∧ J 36 k = -1) ∨ ∃ a t, zr M (A + 28) k = some a ∧ J 36 k = nI t ∧ rep M J 6 a t ∧ D 29 k = J 37 k ∧ D 30 k = J 38 k ∧ (J 37 k = 0 ∨ J 37 k = 1 ∨ J 37 k = 2) ∧ (J 38 k = 1 ∨ J 38 k = 2)
/-- the bit of an ID among the served ones -/
def sBit (L : Nat → Int64) (id : Nat) : Bool := (L (id / 64)).toBitVec.getLsbD (id % 64)
def iSrv (M : zM) (A : Nat) (J : zJ) : Prop := ∀ id, id < 256 → J 39 id = bI (sBit (zl M (A + 31)) id)
def INV (M : zM) (A KC KS q : Nat) : Prop := iLay M A ∧ iRoom M A KC KS q ∧ iTxt (zJo M A) (zJo M (A + 32)) ∧ iBuf (zJo M A) (zJo M (A + 32)) ∧ iVal (zJo M A) (zJo M (A + 32)) ∧ iMod M A (zJo M A) (zJo M (A + 32)) ∧ iOps M A (zJo M A) (zJo M (A + 32)) ∧ iSrv M A (zJo M (A + 32))
