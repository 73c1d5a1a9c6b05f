/-! METHODS AS FUNCTIONS, 3: over the whole memory -/
def zZ (g : zg) (KC KS : Nat) : Prop := KC ≤ g.KC ∧ KS ≤ g.KS ∧ g.l.flags = pinnedFlags ++ [noTraceFlag]
def zJo (M : zM) (o : Nat) : zJ := fun j => zi M (o + j)
theorem zmm_J (M : zM) (o n : Nat) : zmm M o n (zJo M o) = M := zmm_self M o n
/-- the desk's fixed cells lie from o on -/
def dLyB (M : zM) (o : Nat) : Bool := dShL.all (fun q => decide (zsh M (o + q.1) = some q.2)) && dRf.all (fun q => decide (zr M (o + q.1) q.2.1 = some (o + q.2.2)))
theorem dLyB_ok {M : zM} {o : Nat} (h : dLyB M o = true) : zLy M o dShL dRf := by
  unfold dLyB at h
  simp only [Bool.and_eq_true, List.all_eq_true, decide_eq_true_eq] at h
  exact h
theorem dLyB_of {M : zM} {o : Nat} (h : zLy M o dShL dRf) : dLyB M o = true := by
  unfold dLyB
  simp only [Bool.and_eq_true, List.all_eq_true, decide_eq_true_eq]
  exact h
theorem q_rx {M M1 : zM} {x : Int32} {r : Int32 ⊕ String} (h : some ((.inl x : Int32 ⊕ String), M) = some (r, M1)) : zPq (rX r) M1 (.inl (some (.int x))) M := by cases h; exact ⟨rfl, rfl⟩
theorem q_ry {M M1 : zM} {r : Unit ⊕ String} (h : some ((.inl () : Unit ⊕ String), M) = some (r, M1)) : zPq (rY r) M1 (.inl none) M := by cases h; exact ⟨rfl, rfl⟩
theorem q_thX {M M1 : zM} {C : String} {r : Int32 ⊕ String} (h : some ((.inr C : Int32 ⊕ String), M) = some (r, M1)) : zPq (rX r) M1 (.inr C) M := by cases h; exact ⟨rfl, rfl⟩
theorem q_thY {M M1 : zM} {C : String} {r : Unit ⊕ String} (h : some ((.inr C : Unit ⊕ String), M) = some (r, M1)) : zPq (rY r) M1 (.inr C) M := by cases h; exact ⟨rfl, rfl⟩
