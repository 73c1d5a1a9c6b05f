/-! METHODS AS FUNCTIONS, 3: over the whole memory -/
def zZ (g : zg) (KC KS : Nat) : Prop := KC ≤ g.KC ∧ KS ≤ g.KS ∧ g.l.flags = pinnedFlags ++ [noTraceFlag]
def zJo (M : zM) (o : Nat) : zJ := fun j => zi M (o + j)
theorem zmm_J (M : zM) (o n : Nat) : zmm M o n (zJo M o) = M := zmm_self M o n
/-- the desk's fixed cells lie from o on -/
def dLyB (M : zM) (o : Nat) : Bool := dShL.all (fun q => decide (zsh M (o + q.1) = some q.2)) && dRf.all (fun q => decide (zr M (o + q.1) q.2.1 = some (o + q.2.2)))
theorem dLyB_ok {M : zM} {o : Nat} (h : dLyB M o = true) : zLy M o dShL dRf := by
  unfold dLyB at h
  simp only [Bool.and_eq_true, List.all_eq_true, decide_eq_true_eq] at h
  exact h
theorem dLyB_of {M : zM} {o : Nat} (h : zLy M o dShL dRf) : dLyB M o = true := by
  unfold dLyB
  simp only [Bool.and_eq_true, List.all_eq_true, decide_eq_true_eq]
  exact h
theorem q_rx {M M1 : zM} {x : Int32} {r : Int32 ⊕ String} (h : some ((.inl x : Int32 ⊕ String), M) = some (r, M1)) : zPq (rX r) M1 (.inl (some (.int x))) M := by cases h; exact ⟨rfl, rfl⟩
theorem q_ry {M M1 : zM} {r : Unit ⊕ String} (h : some ((.inl () : Unit ⊕ String), M) = some (r, M1)) : zPq (rY r) M1 (.inl none) M := by cases h; exact ⟨rfl, rfl⟩
theorem q_thX {M M1 : zM} {C : String} {r : Int32 ⊕ String} (h : some ((.inr C : Int32 ⊕ String), M) = some (r, M1)) : zPq (rX r) M1 (.inr C) M := by cases h; exact ⟨rfl, rfl⟩
theorem q_thY {M M1 : zM} {C : String} {r : Unit ⊕ String} (h : some ((.inr C : Unit ⊕ String), M) = some (r, M1)) : zPq (rY r) M1 (.inr C) M := by cases h; exact ⟨rfl, rfl⟩
/-- the reference's fixed cells lie from o on -/
def mLyB (M : zM) (o : Nat) : Bool := mShL.all (fun q => decide (zsh M (o + q.1) = some q.2)) && mRf.all (fun q => decide (zr M (o + q.1) q.2.1 = some (o + q.2.2)))
theorem mLyB_ok {M : zM} {o : Nat} (h : mLyB M o = true) : zLy M o mShL mRf := by
  unfold mLyB at h
  simp only [Bool.and_eq_true, List.all_eq_true, decide_eq_true_eq] at h
  exact h
theorem mLyB_of {M : zM} {o : Nat} (h : zLy M o mShL mRf) : mLyB M o = true := by
  unfold mLyB
  simp only [Bool.and_eq_true, List.all_eq_true, decide_eq_true_eq]
  exact h
section ZWX
variable {g : zg} {d : Nat} {y : zm} {av : List Value} {M M1 : zM} {lv : List (Nat × Value)}
theorem zE_x {v : Int32} (hy : zmok y) (hc : ∀ v ∈ av, v.category = 1) (hlen : av.length ≤ y.2.2.1) (hlv : zlv 0 av = lv) (h : zG g d y (zPq (rX (.inl v)) M1) M 0 lv []) : zE g d y av M (fun q M2 => q = some (.int v) ∧ M2 = M1) :=
  zE_of hy (by rw [zlv_len av hc]; exact hlen) (by rw [zlv_eq av 0 hc]; exact hlv) (zG_mono (fun q M2 h => ⟨_, h.1, rfl, h.2⟩) h)
theorem zE_y {u : Unit} (hy : zmok y) (hc : ∀ v ∈ av, v.category = 1) (hlen : av.length ≤ y.2.2.1) (hlv : zlv 0 av = lv) (h : zG g d y (zPq (rY (.inl u)) M1) M 0 lv []) : zE g d y av M (fun q M2 => q = none ∧ M2 = M1) :=
  zE_of hy (by rw [zlv_len av hc]; exact hlen) (by rw [zlv_eq av 0 hc]; exact hlv) (zG_mono (fun q M2 h => ⟨_, h.1, rfl, h.2⟩) h)
theorem zX_x {C : String} (hy : zmok y) (hc : ∀ v ∈ av, v.category = 1) (hlen : av.length ≤ y.2.2.1) (hlv : zlv 0 av = lv) (h : zG g d y (zPq (rX (.inr C)) M1) M 0 lv []) : zX g d y av M C (fun M2 => M2 = M1) := zX_of hy hc hlen hlv h
theorem zX_y {C : String} (hy : zmok y) (hc : ∀ v ∈ av, v.category = 1) (hlen : av.length ≤ y.2.2.1) (hlv : zlv 0 av = lv) (h : zG g d y (zPq (rY (.inr C)) M1) M 0 lv []) : zX g d y av M C (fun M2 => M2 = M1) := zX_of hy hc hlen hlv h
end ZWX
/-- which of the exceptions it is, counted from k -/
def qix : List String → String → Int32 → zM → Option (Int32 × zM)
  | [], _, _, _ => none
  | D :: l, C, k, M => if C = D then some (k, M) else qix l C (k + 1) M
/-- what a helper of the law does with an answer or an exception -/
def qtI (cs : List String) (out : Nat) (r : Int32 ⊕ String) (M : zM) : Option (Int32 × zM) := match r with
  | .inl v => qa (some out) M 2 0 fun b => some (0, zpl M b (0 : Int32).toNatClampNeg v.toInt64)
  | .inr C => qix cs C 1 M
def qtU (cs : List String) (r : Unit ⊕ String) (M : zM) : Option (Int32 × zM) := match r with
  | .inl _ => some (0, M)
  | .inr C => qix cs C 1 M
