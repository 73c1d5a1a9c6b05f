/-! MEMORY: rows filled, cells made one behind the other -/
/-- ints (longs, references) of a at the places below n are v -/
def zfi (M : zM) (a n : Nat) (v : Int32) : zM := (M.1, fun b => if b = a then (fun j => if j < n then v else zi M b j) else zi M b, M.2.2)
def zfl (M : zM) (a n : Nat) (v : Int64) : zM := (M.1, M.2.1, fun b => if b = a then (fun j => if j < n then v else zl M b j) else zl M b, M.2.2.2)
def zfr (M : zM) (a n : Nat) (v : Option Nat) : zM := (M.1, M.2.1, M.2.2.1, fun b => if b = a then (fun j => if j < n then v else zr M b j) else zr M b, M.2.2.2.2)
theorem zfi_0 (M : zM) (a : Nat) (v : Int32) : zfi M a 0 v = M := by
  have : (fun b => if b = a then (fun j => if j < 0 then v else zi M b j) else zi M b) = M.2.1 := by
    funext b j
    by_cases h : b = a <;> simp [h, zi]
  simp only [zfi, this]
theorem zfl_0 (M : zM) (a : Nat) (v : Int64) : zfl M a 0 v = M := by
  have : (fun b => if b = a then (fun j => if j < 0 then v else zl M b j) else zl M b) = M.2.2.1 := by
    funext b j
    by_cases h : b = a <;> simp [h, zl]
  simp only [zfl, this]
theorem zfr_0 (M : zM) (a : Nat) (v : Option Nat) : zfr M a 0 v = M := by
  have : (fun b => if b = a then (fun j => if j < 0 then v else zr M b j) else zr M b) = M.2.2.2.1 := by
    funext b j
    by_cases h : b = a <;> simp [h, zr]
  simp only [zfr, this]
theorem zfi_s (M : zM) (a n : Nat) (v : Int32) : zpi (zfi M a n v) a n v = zfi M a (n + 1) v := by
  unfold zpi zfi
  congr 2
  funext b
  by_cases h : b = a
  · subst h
    funext j
    simp only [zu, if_true]
    by_cases h2 : j = n
    · subst h2; simp
    · by_cases h3 : j < n
      · simp [h2, h3, Nat.lt_succ_of_lt h3]
      · have : ¬ j < n + 1 := by omega
        simp [h2, h3, this]
  · simp [zu, h]
theorem zfl_s (M : zM) (a n : Nat) (v : Int64) : zpl (zfl M a n v) a n v = zfl M a (n + 1) v := by
  unfold zpl zfl
  congr 3
  funext b
  by_cases h : b = a
  · subst h
    funext j
    simp only [zu, if_true]
    by_cases h2 : j = n
    · subst h2; simp
    · by_cases h3 : j < n
      · simp [h2, h3, Nat.lt_succ_of_lt h3]
      · have : ¬ j < n + 1 := by omega
        simp [h2, h3, this]
  · simp [zu, h]
theorem zfr_s (M : zM) (a n : Nat) (v : Option Nat) : zpr (zfr M a n v) a n v = zfr M a (n + 1) v := by
  unfold zpr zfr
  congr 4
  funext b
  by_cases h : b = a
  · subst h
    funext j
    simp only [zu, if_true]
    by_cases h2 : j = n
    · subst h2; simp
    · by_cases h3 : j < n
      · simp [h2, h3, Nat.lt_succ_of_lt h3]
      · have : ¬ j < n + 1 := by omega
        simp [h2, h3, this]
  · simp [zu, h]
theorem zi_fi (M : zM) (a n b j : Nat) (v : Int32) : zi (zfi M a n v) b j = if b = a ∧ j < n then v else zi M b j := by
  by_cases h : b = a <;> by_cases h2 : j < n <;> simp [zi, zfi, h, h2]
theorem zl_fl (M : zM) (a n b j : Nat) (v : Int64) : zl (zfl M a n v) b j = if b = a ∧ j < n then v else zl M b j := by
  by_cases h : b = a <;> by_cases h2 : j < n <;> simp [zl, zfl, h, h2]
theorem zr_fr (M : zM) (a n b j : Nat) (v : Option Nat) : zr (zfr M a n v) b j = if b = a ∧ j < n then v else zr M b j := by
  by_cases h : b = a <;> by_cases h2 : j < n <;> simp [zr, zfr, h, h2]
theorem zi_fr (M : zM) (a n : Nat) (v : Option Nat) : zi (zfr M a n v) = zi M := rfl
theorem zi_fl (M : zM) (a n : Nat) (v : Int64) : zi (zfl M a n v) = zi M := rfl
theorem zl_fi (M : zM) (a n : Nat) (v : Int32) : zl (zfi M a n v) = zl M := rfl
theorem zl_fr (M : zM) (a n : Nat) (v : Option Nat) : zl (zfr M a n v) = zl M := rfl
theorem zr_fi (M : zM) (a n : Nat) (v : Int32) : zr (zfi M a n v) = zr M := rfl
theorem zr_fl (M : zM) (a n : Nat) (v : Int64) : zr (zfl M a n v) = zr M := rfl
theorem zsh_fi (M : zM) (a n : Nat) (v : Int32) : zsh (zfi M a n v) = zsh M := rfl
theorem zsh_fl (M : zM) (a n : Nat) (v : Int64) : zsh (zfl M a n v) = zsh M := rfl
theorem zsh_fr (M : zM) (a n : Nat) (v : Option Nat) : zsh (zfr M a n v) = zsh M := rfl
/-- field k of v is a new array of type t, of n places -/
def znq (M : zM) (v k t n : Nat) : zM := zpr (znew M (.inr (t, n)) n) v k (some (zsz M))
/-- such arrays one behind the other -/
def znf (M : zM) (v : Nat) : List (Nat × Nat × Nat) → zM
  | [] => M
  | (k, t, n) :: L => znf (znq M v k t n) v L
theorem znf_app (M : zM) (v : Nat) (L L2 : List (Nat × Nat × Nat)) : znf M v (L ++ L2) = znf (znf M v L) v L2 := by
  induction L generalizing M with
  | nil => rfl
  | cons q t ih => obtain ⟨k, ty, n⟩ := q; exact ih _
theorem znf_sz (M : zM) (v : Nat) (L : List (Nat × Nat × Nat)) : zsz (znf M v L) = zsz M + L.length := by
  induction L generalizing M with
  | nil => rfl
  | cons q t ih =>
    obtain ⟨k, ty, n⟩ := q
    rw [znf, ih]
    show zsz M + 1 + t.length = _
    simp only [List.length_cons]
    omega
theorem znf_sl (M : zM) (v : Nat) (L : List (Nat × Nat × Nat)) : zsl (znf M v L) = zsl M + (L.map (fun q => q.2.2)).sum := by
  induction L generalizing M with
  | nil => rfl
  | cons q t ih =>
    obtain ⟨k, ty, n⟩ := q
    rw [znf, ih]
    show zsl M + n + _ = _
    simp only [List.map_cons, List.sum_cons]
    omega
theorem znf_old (M : zM) (v : Nat) (L : List (Nat × Nat × Nat)) {a : Nat} (ha : a < zsz M) : zsh (znf M v L) a = zsh M a ∧ zi (znf M v L) a = zi M a ∧ zl (znf M v L) a = zl M a ∧ ∀ j, (a ≠ v ∨ ∀ q ∈ L, q.1 ≠ j) → zr (znf M v L) a j = zr M a j := by
  induction L generalizing M with
  | nil => exact ⟨rfl, rfl, rfl, fun _ _ => rfl⟩
  | cons q t ih =>
    obtain ⟨k, ty, n⟩ := q
    obtain ⟨h1, h2, h3, h4⟩ := ih (znq M v k ty n) (show a < zsz M + 1 by omega)
    have hne : a ≠ zsz M := by omega
    rw [znf]
    refine ⟨h1.trans ?_, h2.trans ?_, h3.trans ?_, fun j hj => (h4 j ?_).trans ?_⟩
    · simp [znq, zsh, zpr, znew, hne]
    · simp [znq, zi, zpr, znew, hne]
    · simp [znq, zl, zpr, znew, hne]
    · rcases hj with h | h
      · exact Or.inl h
      · exact Or.inr (fun q hq => h q (List.mem_cons_of_mem _ hq))
    · rw [znq, zr_pr, zr_nw, if_neg hne]
      rw [if_neg]
      intro hh
      rcases hj with h | h
      · exact h hh.1
      · exact h (k, ty, n) List.mem_cons_self hh.2.symm
theorem znf_new (M : zM) (v : Nat) (L : List (Nat × Nat × Nat)) (hv : v < zsz M) (hk : (L.map (fun q => q.1)).Nodup) {i k t n : Nat} (hi : L[i]? = some (k, t, n)) : zsh (znf M v L) (zsz M + i) = some (.inr (t, n)) ∧ zr (znf M v L) v k = some (zsz M + i) ∧ (∀ j, zi (znf M v L) (zsz M + i) j = 0) ∧ (∀ j, zl (znf M v L) (zsz M + i) j = 0) ∧ ∀ j, zr (znf M v L) (zsz M + i) j = none := by
  induction L generalizing M i with
  | nil => simp at hi
  | cons q l ih =>
    obtain ⟨k0, t0, n0⟩ := q
    rw [znf]
    cases i with
    | zero =>
      have h0 : (k0, t0, n0) = (k, t, n) := by simpa using hi
      cases h0
      have hk2 : ∀ q ∈ l, q.1 ≠ k := by
        intro q hq e
        have := List.nodup_cons.mp hk
        exact this.1 (List.mem_map.mpr ⟨q, hq, e⟩)
      obtain ⟨h1, h2, h3, h4⟩ := znf_old (znq M v k t n) v l (a := zsz M) (show zsz M < zsz M + 1 by omega)
      obtain ⟨-, -, -, h5⟩ := znf_old (znq M v k t n) v l (a := v) (show v < zsz M + 1 by omega)
      have hne : ¬ v = zsz M := by omega
      rw [Nat.add_zero]
      refine ⟨h1.trans ?_, (h5 k (Or.inr hk2)).trans ?_, fun j => (congrFun h2 j).trans ?_, fun j => (congrFun h3 j).trans ?_, fun j => (h4 j (Or.inl (fun e => hne e.symm))).trans ?_⟩
      · simp [znq, zsh, zpr, znew]
      · rw [znq, zr_pr, if_pos ⟨rfl, rfl⟩]
      · simp [znq, zi, zpr, znew]
      · simp [znq, zl, zpr, znew]
      · rw [znq, zr_pr, if_neg (fun e => hne e.1.symm), zr_nw, if_pos rfl]
    | succ i =>
      have := ih (znq M v k0 t0 n0) (show v < zsz M + 1 by omega) (List.nodup_cons.mp hk).2 (i := i) (by simpa using hi)
      rw [show zsz (znq M v k0 t0 n0) + i = zsz M + (i + 1) by show zsz M + 1 + i = _; omega] at this
      exact this
theorem nI_lt' {k n : Nat} (hk : k < 2 ^ 31) (hn : n < 2 ^ 31) : nI k < nI n ↔ k < n := nI_ltI hk hn
theorem nI_le' {k n : Nat} (hk : k < 2 ^ 31) (hn : n < 2 ^ 31) : nI k ≤ nI n ↔ k ≤ n := nI_leI hk hn
