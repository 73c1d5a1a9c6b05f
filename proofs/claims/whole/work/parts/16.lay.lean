/-! LAYOUT: cells made from A on: what they are (sh), which references they hold (rf: cell, place, cell, all counted from A), all else 0 and null; what lies below A is as in M0 -/
def zlk (rf : List (Nat × Nat × Nat)) (k j : Nat) : Option Nat := match rf with
  | [] => none
  | q :: l => if q.1 = k ∧ q.2.1 = j then some q.2.2 else zlk l k j
def zss (x : Nat ⊕ Nat × Nat) : Nat := match x with
  | .inl ci => (zkd ci).length
  | .inr q => q.2
def Lay (M M0 : zM) (A : Nat) (sh : List (Nat ⊕ Nat × Nat)) (rf : List (Nat × Nat × Nat)) : Prop :=
  (zsz M = A + sh.length ∧ zsl M = zsl M0 + (sh.map zss).sum ∧ (∀ q ∈ rf, q.1 < sh.length)) ∧
  (∀ a, a < A → zsh M a = zsh M0 a ∧ zi M a = zi M0 a ∧ zl M a = zl M0 a ∧ zr M a = zr M0 a) ∧
  ∀ (k : Nat) (x : Nat ⊕ Nat × Nat), sh[k]? = some x → zsh M (A + k) = some x ∧ (∀ j, zi M (A + k) j = 0) ∧ (∀ j, zl M (A + k) j = 0) ∧ ∀ j, zr M (A + k) j = (zlk rf k j).map (fun x => A + x)
theorem lay_0 (M : zM) : Lay M M (zsz M) [] [] := ⟨⟨rfl, rfl, fun _ h => by cases h⟩, fun _ _ => ⟨rfl, rfl, rfl, rfl⟩, fun k x h => by simp at h⟩
theorem zlk_none {rf : List (Nat × Nat × Nat)} {k : Nat} (h : ∀ q ∈ rf, q.1 ≠ k) (j : Nat) : zlk rf k j = none := by
  induction rf with
  | nil => rfl
  | cons q l ih =>
    rw [zlk, if_neg (fun e => h q List.mem_cons_self e.1)]
    exact ih (fun q hq => h q (List.mem_cons_of_mem _ hq))
theorem lay_new {M M0 : zM} {A : Nat} {sh : List (Nat ⊕ Nat × Nat)} {rf : List (Nat × Nat × Nat)} (h : Lay M M0 A sh rf) (x : Nat ⊕ Nat × Nat) {n : Nat} (hn : zss x = n) : Lay (znew M x n) M0 A (sh ++ [x]) rf := by
  obtain ⟨⟨h1, h2, h3⟩, h4, h5⟩ := h
  refine ⟨⟨?_, ?_, fun q hq => ?_⟩, fun a ha => ?_, fun k y hk => ?_⟩
  · show zsz M + 1 = _
    rw [h1, List.length_append]
    rfl
  · show zsl M + n = _
    rw [h2, List.map_append, List.sum_append, ← hn]
    simp
    omega
  · have := h3 q hq
    rw [List.length_append]
    omega
  · have hne : a ≠ zsz M := by omega
    obtain ⟨e1, e2, e3, e4⟩ := h4 a ha
    refine ⟨?_, ?_, ?_, ?_⟩
    · rw [zsh_nw, if_neg hne]; exact e1
    · funext j; rw [zi_nw, if_neg hne, e2]
    · funext j; rw [zl_nw, if_neg hne, e3]
    · funext j; rw [zr_nw, if_neg hne, e4]
  · by_cases hl : k < sh.length
    · rw [List.getElem?_append_left hl] at hk
      have hne : A + k ≠ zsz M := by omega
      obtain ⟨e1, e2, e3, e4⟩ := h5 k y hk
      refine ⟨?_, fun j => ?_, fun j => ?_, fun j => ?_⟩
      · rw [zsh_nw, if_neg hne]; exact e1
      · rw [zi_nw, if_neg hne]; exact e2 j
      · rw [zl_nw, if_neg hne]; exact e3 j
      · rw [zr_nw, if_neg hne]; exact e4 j
    · rw [List.getElem?_append_right (by omega)] at hk
      have hz : k - sh.length < 1 := (List.getElem?_eq_some_iff.mp hk).1
      have hk0 : k = sh.length := by omega
      subst hk0
      rw [Nat.sub_self] at hk
      cases hk
      have he : A + sh.length = zsz M := h1.symm
      refine ⟨?_, fun j => ?_, fun j => ?_, fun j => ?_⟩
      · rw [zsh_nw, if_pos he]
      · rw [zi_nw, if_pos he]
      · rw [zl_nw, if_pos he]
      · rw [zr_nw, if_pos he, zlk_none (fun q hq => by have := h3 q hq; omega)]
        rfl
theorem lay_pr {M M0 : zM} {A : Nat} {sh : List (Nat ⊕ Nat × Nat)} {rf : List (Nat × Nat × Nat)} (h : Lay M M0 A sh rf) {k j x : Nat} (hk : k < sh.length) : Lay (zpr M (A + k) j (some (A + x))) M0 A sh ((k, j, x) :: rf) := by
  obtain ⟨⟨h1, h2, h3⟩, h4, h5⟩ := h
  refine ⟨⟨h1, h2, fun q hq => ?_⟩, fun a ha => ?_, fun k2 y hk2 => ?_⟩
  · rcases List.mem_cons.mp hq with rfl | hq
    · exact hk
    · exact h3 q hq
  · obtain ⟨e1, e2, e3, e4⟩ := h4 a ha
    refine ⟨e1, e2, e3, ?_⟩
    funext i
    rw [zr_pr, if_neg (by omega), e4]
  · obtain ⟨e1, e2, e3, e4⟩ := h5 k2 y hk2
    refine ⟨e1, e2, e3, fun i => ?_⟩
    rw [zr_pr, zlk]
    by_cases hh : k = k2 ∧ j = i
    · rw [if_pos ⟨by omega, hh.2.symm⟩, if_pos hh]
      rfl
    · rw [if_neg (fun e => hh ⟨by omega, e.2.symm⟩), if_neg hh]
      exact e4 i
theorem lay_nf {M M0 : zM} {A : Nat} {sh : List (Nat ⊕ Nat × Nat)} {rf : List (Nat × Nat × Nat)} (h : Lay M M0 A sh rf) {k : Nat} (hk : k < sh.length) (L : List (Nat × Nat × Nat)) : ∃ rf2, Lay (znf M (A + k) L) M0 A (sh ++ L.map (fun q => .inr q.2)) rf2 ∧ rf2 = (L.zipIdx.map (fun q => (k, q.1.1, sh.length + q.2))).reverse ++ rf := by
  induction L generalizing M sh rf with
  | nil => exact ⟨rf, by simpa [znf] using h, rfl⟩
  | cons q l ih =>
    obtain ⟨f, t, n⟩ := q
    have hz : zsz M = A + sh.length := h.1.1
    have h2 : Lay (znq M (A + k) f t n) M0 A (sh ++ [.inr (t, n)]) ((k, f, sh.length) :: rf) := by
      have := lay_pr (lay_new h (.inr (t, n)) (n := n) rfl) (k := k) (j := f) (x := sh.length) (by rw [List.length_append]; omega)
      rw [← hz] at this
      exact this
    obtain ⟨rf2, h3, h4⟩ := ih h2 (by rw [List.length_append]; omega)
    refine ⟨rf2, ?_, ?_⟩
    · rw [znf]
      rw [List.append_assoc] at h3
      exact h3
    · rw [h4, List.zipIdx_cons, List.map_cons, List.reverse_cons, List.append_assoc, List.length_append]
      have e : (l.zipIdx (0 + 1)).map (fun q => (k, q.1.1, sh.length + q.2)) = l.zipIdx.map (fun q => (k, q.1.1, sh.length + [(Sum.inr (t, n) : Nat ⊕ Nat × Nat)].length + q.2)) := by
        rw [List.zipIdx_succ, List.map_map]
        apply List.map_congr_left
        intro q _
        simp only [Function.comp, List.length_singleton]
        congr 2
        omega
      rw [e]
      rfl
