/-! THE INVARIANT between two calls: desk (cells from A on) against reference (cells from A + 32 on) -/
/-- sets of tags: the reference's bits 20 + digit are the class's bits 17 + digit -/
def cTag (y : Int32) : Int32 := (y &&& (131071 : Int32)) ||| ((y >>> (3 : Int32)) &&& (134086656 : Int32))
/-- which alternative is it in the order of least tags -/
def jLeast (J : zJ) (n : Nat) : Int32 := J 9 (J 13 n).toNatClampNeg &&& -J 9 (J 13 n).toNatClampNeg
def jRank (J : zJ) (t j cnt : Nat) : Nat := ((List.range cnt).filter (fun i => decide (jLeast J (6 * t + i) < jLeast J (6 * t + j)))).length
/-- children and numbers of the reference's table as naturals -/
def chd (T : zJ) (n : Nat) : Nat := (T 13 n).toNatClampNeg
def cnt (T : zJ) (t : Nat) : Nat := (T 8 t).toNatClampNeg
def dgt (T : zJ) (t : Nat) : Nat := (T 7 t).toNatClampNeg
/-- the type without its tags -/
def bas (T : zJ) : Nat → Nat → Nat
  | 0, t => t
  | n + 1, t => if T 4 t = 10 then bas T n (chd T (6 * t)) else t
/-- a node of the reference's table that stands for a type, at most n deep -/
def wfT (T : zJ) : Nat → Nat → Prop
  | 0, _ => False
  | n + 1, t => t < 160 ∧ (T 4 t = 1 ∨ T 4 t = 2 ∨ T 4 t = 4 ∨ T 4 t = 5 ∨ T 4 t = 6 ∨ T 4 t = 7 ∨ T 4 t = 9 ∨ T 4 t = 10) ∧
    (T 11 t = 0 ∨ T 11 t = 1) ∧ (T 11 t = 1 → (T 4 t = 2 ∨ T 4 t = 4 ∨ T 4 t = 7) ∧ (T 5 t).toInt ≤ (T 6 t).toInt ∧ (T 6 t).toInt - (T 5 t).toInt < 65536 ∧ (T 4 t ≠ 2 → 0 ≤ (T 5 t).toInt ∧ (T 6 t).toInt ≤ 20)) ∧
    T 9 t ≠ 0 ∧ T 9 t &&& 1072758838 = T 9 t ∧
    (T 4 t = 7 → T 13 (6 * t) = nI (chd T (6 * t)) ∧ wfT T n (chd T (6 * t))) ∧
    (T 4 t = 10 → T 7 t = nI (dgt T t) ∧ dgt T t ≤ 9 ∧ (T 12 t = 0 ∨ T 12 t = 1) ∧ T 13 (6 * t) = nI (chd T (6 * t)) ∧ wfT T n (chd T (6 * t))) ∧
    (T 4 t = 6 ∨ T 4 t = 9 → T 8 t = nI (cnt T t) ∧ cnt T t ≤ 6 ∧ ∀ j, j < cnt T t → T 13 (6 * t + j) = nI (chd T (6 * t + j)) ∧ wfT T n (chd T (6 * t + j))) ∧
    (T 4 t = 6 → ∀ j, j < cnt T t → T 14 (6 * t + j) = 0 ∨ T 14 (6 * t + j) = 1 ∨ (T 14 (6 * t + j) = 2 ∧ (T 4 (bas T 6 (chd T (6 * t + j))) = 1 ∨ T 4 (bas T 6 (chd T (6 * t + j))) = 2))) ∧
    (T 4 t = 9 → 1 ≤ cnt T t ∧ ∀ i j, i < cnt T t → j < cnt T t → i ≠ j → T 9 (chd T (6 * t + i)) &&& T 9 (chd T (6 * t + j)) = 0)
/-- members from j on: m of them, the first one at c -/
def rChain (M : zM) (T : zJ) (P : Nat → Nat → Prop) (t : Nat) : Nat → Nat → Option Nat → Prop
  | 0, _, c => c = none
  | m + 1, j, c => ∃ b a, c = some b ∧ zsh M b = some (.inl 1) ∧ zr M b 0 = some a ∧ P a (chd T (6 * t + j)) ∧ zi M b 1 = nI j ∧ (T 4 t = 6 → zi M b 2 = T 14 (6 * t + j)) ∧ (T 4 t = 6 → T 14 (6 * t + j) = 2 → zi M b 3 = T 15 (6 * t + j)) ∧ (T 4 t = 9 → zi M b 4 = nI (jRank T t j (cnt T t))) ∧ rChain M T P t m (j + 1) (zr M b 5)
/-- the type object at a is node t of the reference's table, at most n deep -/
def rep (M : zM) (T : zJ) : Nat → Nat → Nat → Prop
  | 0, _, _ => False
  | n + 1, a, t => zsh M a = some (.inl 6) ∧ zi M a 0 = T 4 t ∧ zi M a 1 = T 11 t ∧ (T 11 t = 1 → zi M a 2 = T 5 t ∧ zi M a 3 = T 6 t) ∧
    zi M a 6 = cTag (T 9 t) ∧
    (T 4 t = 7 → ∃ b, zr M a 9 = some b ∧ rep M T n b (chd T (6 * t))) ∧
    (T 4 t = 10 → zi M a 4 = T 7 t ∧ zi M a 5 = (if T 12 t = 0 ∨ T 4 (chd T (6 * t)) = 9 then 1 else 0) ∧ ∃ b, zr M a 9 = some b ∧ rep M T n b (chd T (6 * t))) ∧
    (T 4 t = 6 ∨ T 4 t = 9 → zi M a 8 = T 8 t ∧ rChain M T (rep M T n) t (cnt T t) 0 (zr M a 10))
theorem chd_c {T T' : zJ} (hJ : ∀ c k, 4 ≤ c → c ≤ 15 → T' c k = T c k) (n : Nat) : chd T' n = chd T n := by
  unfold chd; rw [hJ 13 _ (by omega) (by omega)]
theorem cnt_c {T T' : zJ} (hJ : ∀ c k, 4 ≤ c → c ≤ 15 → T' c k = T c k) (n : Nat) : cnt T' n = cnt T n := by
  unfold cnt; rw [hJ 8 _ (by omega) (by omega)]
theorem bas_c {T T' : zJ} (hJ : ∀ c k, 4 ≤ c → c ≤ 15 → T' c k = T c k) : ∀ n t, bas T' n t = bas T n t := by
  intro n
  induction n with
  | zero => intro t; rfl
  | succ n ih =>
    intro t
    unfold bas
    rw [hJ 4 _ (by omega) (by omega), chd_c hJ, ih]
theorem wfT_c {T T' : zJ} (hJ : ∀ c k, 4 ≤ c → c ≤ 15 → T' c k = T c k) : ∀ n t, wfT T n t → wfT T' n t := by
  intro n
  induction n with
  | zero => intro t h; exact h
  | succ n ih =>
    intro t h
    have e : ∀ c, 4 ≤ c → c ≤ 15 → T' c = T c := fun c h1 h2 => funext (fun k => hJ c k h1 h2)
    have ed : dgt T' t = dgt T t := by unfold dgt; rw [hJ 7 _ (by omega) (by omega)]
    unfold wfT at h ⊢
    simp only [chd_c hJ, cnt_c hJ, bas_c hJ, ed, e 4 (by omega) (by omega), e 5 (by omega) (by omega), e 6 (by omega) (by omega), e 7 (by omega) (by omega), e 8 (by omega) (by omega), e 9 (by omega) (by omega), e 11 (by omega) (by omega), e 12 (by omega) (by omega), e 13 (by omega) (by omega), e 14 (by omega) (by omega)]
    obtain ⟨h1, h2, h3, h4, h5, h6, h7, h8, h9, h10, h11⟩ := h
    refine ⟨h1, h2, h3, h4, h5, h6, fun q => ⟨(h7 q).1, ih _ (h7 q).2⟩, fun q => ?_, fun q => ?_, h10, h11⟩
    · obtain ⟨q1, q2, q3, q4, q5⟩ := h8 q
      exact ⟨q1, q2, q3, q4, ih _ q5⟩
    · obtain ⟨q1, q2, q3⟩ := h9 q
      exact ⟨q1, q2, fun j hj => ⟨(q3 j hj).1, ih _ (q3 j hj).2⟩⟩
theorem rChain_mono {M M' : zM} {J J' : zJ} {P P' : Nat → Nat → Prop} {t : Nat} (hg : zag M M') (hJ : ∀ c k, 4 ≤ c → c ≤ 15 → J' c k = J c k) (hP : ∀ a u, P a u → P' a u) : ∀ m j c, rChain M J P t m j c → rChain M' J' P' t m j c := by
  intro m
  induction m with
  | zero => intro j c h; exact h
  | succ m ih =>
    intro j c h
    obtain ⟨b, a, h1, h2, h3, h4, h5, h6, h7, h8, h9⟩ := h
    obtain ⟨g1, g2, g3⟩ := hg b 1 (Or.inr rfl) h2
    have hl : ∀ n, jLeast J' n = jLeast J n := by
      intro n
      unfold jLeast
      rw [hJ 13 _ (by omega) (by omega), hJ 9 _ (by omega) (by omega)]
    refine ⟨b, a, h1, g1, by rw [g3]; exact h3, by rw [chd_c hJ]; exact hP _ _ h4, by rw [g2]; exact h5, ?_, ?_, ?_, by rw [g3]; exact ih _ _ h9⟩
    · rw [g2, hJ 14 _ (by omega) (by omega), hJ 4 _ (by omega) (by omega)]; exact h6
    · rw [hJ 14 _ (by omega) (by omega), g2, hJ 15 _ (by omega) (by omega), hJ 4 _ (by omega) (by omega)]; exact h7
    · rw [g2, hJ 4 _ (by omega) (by omega), cnt_c hJ]
      unfold jRank
      simp only [hl]
      exact h8
theorem rep_mono {M M' : zM} {J J' : zJ} (hg : zag M M') (hJ : ∀ c k, 4 ≤ c → c ≤ 15 → J' c k = J c k) : ∀ n a t, rep M J n a t → rep M' J' n a t := by
  intro n
  induction n with
  | zero => intro a t h; exact h
  | succ n ih =>
    intro a t h
    obtain ⟨h1, h2, h3, h4, h5, h6, h7, h8⟩ := h
    obtain ⟨g1, g2, g3⟩ := hg a 6 (Or.inl rfl) h1
    have e : ∀ c, 4 ≤ c → c ≤ 15 → J' c = J c := fun c h1 h2 => funext (fun k => hJ c k h1 h2)
    unfold rep
    simp only [chd_c hJ, cnt_c hJ, g2, g3, e 4 (by omega) (by omega), e 5 (by omega) (by omega), e 6 (by omega) (by omega), e 7 (by omega) (by omega), e 8 (by omega) (by omega), e 9 (by omega) (by omega), e 11 (by omega) (by omega), e 12 (by omega) (by omega), e 13 (by omega) (by omega), e 14 (by omega) (by omega)]
    refine ⟨g1, h2, h3, h4, h5, fun q => ?_, fun q => ?_, fun q => ?_⟩
    · obtain ⟨b, q1, q2⟩ := h6 q
      exact ⟨b, q1, ih _ _ q2⟩
    · obtain ⟨q1, q2, b, q3, q4⟩ := h7 q
      exact ⟨q1, q2, b, q3, ih _ _ q4⟩
    · obtain ⟨q1, q2⟩ := h8 q
      exact ⟨q1, rChain_mono hg hJ (fun a u h => ih a u h) _ _ _ q2⟩
def iLay (M : zM) (A : Nat) : Prop := zLy M A dShL dRf ∧ zLy M (A + 32) mShL mRf ∧ zsh M (A + 72) = some (.inr (2, 1))
/-- the pools: a types and b members have been made -/
def iPool (M : zM) (A a b : Nat) : Prop :=
  a ≤ 150 ∧ b ≤ 150 ∧ (∀ j, j < a → ∃ x, zr M (A + 4) j = some x ∧ zsh M x = some (.inl 6)) ∧ (∀ j, a ≤ j → zr M (A + 4) j = none) ∧ (∀ i j, i < a → j < a → zr M (A + 4) i = zr M (A + 4) j → i = j) ∧
  (∀ j, j < b → ∃ x, zr M (A + 5) j = some x ∧ zsh M x = some (.inl 1)) ∧ (∀ j, b ≤ j → zr M (A + 5) j = none) ∧ (∀ i j, i < b → j < b → zr M (A + 5) i = zr M (A + 5) j → i = j)
def iRoom (M : zM) (A KC KS q : Nat) : Prop := ∃ a b, iPool M A a b ∧ zsz M + (150 - a) + (150 - b) + q ≤ KC ∧ zsl M + 12 * (150 - a) + 6 * (150 - b) + 6 * q ≤ KS ∧ A + 73 ≤ zsz M ∧ ∀ x s, zsh M x = some s → x < zsz M
def iTxt (D J : zJ) : Prop := ∃ n, n ≤ 150 ∧ D 0 1 = nI n ∧ J 0 2 = nI n ∧ ∀ k, k < n → D 1 k = J 1 k ∧ ∃ c, c < 65536 ∧ J 1 k = nI c
def iBuf (D J : zJ) : Prop := ∃ n, n ≤ 120 ∧ D 0 5 = nI n ∧ J 0 27 = nI n ∧ ∀ k, k < n → D 6 k = J 18 k ∧ ∃ b, b < 256 ∧ J 18 k = nI b
def iVal (D J : zJ) : Prop := ∃ n, n ≤ 100 ∧ D 8 0 = nI n ∧ J 0 44 = nI n ∧ ∀ k, k < n → D 9 k = J 29 (5 * k) ∧ D 10 k = J 29 (5 * k + 1) ∧ D 11 k = J 29 (5 * k + 2) ∧ D 12 k = J 29 (5 * k + 3) ∧ (J 29 (5 * k) = 4 → ∃ f m, f + m ≤ 120 ∧ D 13 k = nI f ∧ J 29 (5 * k + 4) = nI f ∧ J 29 (5 * k + 1) = nI m ∧ ∀ i, i < m → D 15 (f + i) = J 30 (f + i) ∧ ∃ b, b < 256 ∧ J 30 (f + i) = nI b)
def iName (M : zM) (A : Nat) (J : zJ) : Prop := ∀ c, c < 26 → (zr M (A + 3) c = none ∧ J 3 c = -1) ∨ ∃ a t, zr M (A + 3) c = some a ∧ J 3 c = nI t ∧ wfT J 6 t ∧ rep M J 6 a t
def iMod (M : zM) (A : Nat) (D J : zJ) : Prop := D 0 3 = J 0 1 ∧ (J 0 1 = 0 ∨ (J 0 1 = 1 ∧ iName M A J))
def iOps (M : zM) (A : Nat) (D J : zJ) : Prop := ∀ k, k < 8 → (zr M (A + 28) k = none ∧ J 36 k = -1) ∨ ∃ a t, zr M (A + 28) k = some a ∧ J 36 k = nI t ∧ wfT J 6 t ∧ rep M J 6 a t ∧ D 29 k = J 37 k ∧ D 30 k = J 38 k ∧ (J 37 k = 0 ∨ J 37 k = 1 ∨ J 37 k = 2) ∧ (J 38 k = 1 ∨ J 38 k = 2)
/-- the bit of an ID among the served ones -/
def sBit (L : Nat → Int64) (id : Nat) : Bool := (L (id / 64)).toBitVec.getLsbD (id % 64)
def iSrv (M : zM) (A : Nat) (J : zJ) : Prop := ∀ id, id < 256 → J 39 id = bI (sBit (zl M (A + 31)) id)
def INV (M : zM) (A KC KS q : Nat) : Prop := iLay M A ∧ iRoom M A KC KS q ∧ iTxt (zJo M A) (zJo M (A + 32)) ∧ iBuf (zJo M A) (zJo M (A + 32)) ∧ iVal (zJo M A) (zJo M (A + 32)) ∧ iMod M A (zJo M A) (zJo M (A + 32)) ∧ iOps M A (zJo M A) (zJo M (A + 32)) ∧ iSrv M A (zJo M (A + 32))
