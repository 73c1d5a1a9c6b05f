/-! METHODS AS FUNCTIONS: what the bytecode of a method computes, as a Lean function over ints of fixed cells (J) or over the memory (M); 'none': something that the machine would throw for, or no room -/
def qi (i : Int32) (n : Nat) : Bool := !(decide (i < 0)) && decide (i.toNatClampNeg < n)
theorem qi_in {i : Int32} {n : Nat} (h : qi i n = true) : vp_in i n := by
  unfold qi at h
  unfold vp_in
  simp only [Bool.and_eq_true, Bool.not_eq_true', decide_eq_false_iff_not, decide_eq_true_eq] at h
  rintro (h1 | h1)
  · exact h.1 h1
  · omega
def bI (b : Bool) : Int32 := if b = true then 1 else 0
theorem bI_nar (b : Bool) : narrow .boolean (.int (bI b)) = .int (bI b) := by cases b <;> decide
theorem bI_fit (b : Bool) : fits .boolean (.int (bI b)) = true := by cases b <;> decide
def qk {β : Type} (c : Bool) (f : Option β) : Option β := if c = true then f else none
theorem q_k {β : Type} {c : Bool} {f : Option β} {r : β} (h : qk c f = some r) : c = true ∧ f = some r := by
  unfold qk at h
  cases c
  · cases h
  · exact ⟨rfl, h⟩
def qb {α σ β : Type} (x : Option (α × σ)) (f : α → σ → Option β) : Option β := match x with
  | none => none
  | some q => f q.1 q.2
theorem q_b {α σ β : Type} {x : Option (α × σ)} {f : α → σ → Option β} {r : β} (h : qb x f = some r) : ∃ v s, x = some (v, s) ∧ f v s = some r := by
  unfold qb at h
  cases x with
  | none => cases h
  | some q => exact ⟨q.1, q.2, rfl, h⟩
def qc {α β : Type} (x : Option α) (f : α → Option β) : Option β := match x with
  | none => none
  | some v => f v
theorem q_c {α β : Type} {x : Option α} {f : α → Option β} {r : β} (h : qc x f = some r) : ∃ v, x = some v ∧ f v = some r := by
  unfold qc at h
  cases x with
  | none => cases h
  | some v => exact ⟨v, rfl, h⟩
def qz {β : Type} (x : Int32) (f : Bool → Option β) : Option β := if x = 0 then f false else if x = 1 then f true else none
theorem q_z {β : Type} {x : Int32} {f : Bool → Option β} {r : β} (h : qz x f = some r) : ∃ b, x = bI b ∧ f b = some r := by
  unfold qz at h
  by_cases h0 : x = 0
  · rw [if_pos h0] at h
    exact ⟨false, h0, h⟩
  · rw [if_neg h0] at h
    by_cases h1 : x = 1
    · rw [if_pos h1] at h
      exact ⟨true, h1, h⟩
    · rw [if_neg h1] at h
      cases h
/-- an object of the class ci -/
def qo {β : Type} (a : Option Nat) (M : zM) (ci : Nat) (f : Nat → Option β) : Option β := match a with
  | none => none
  | some b => if zsh M b = some (.inl ci) then f b else none
theorem q_o {β : Type} {a : Option Nat} {M : zM} {ci : Nat} {f : Nat → Option β} {r : β} (h : qo a M ci f = some r) : ∃ b, a = some b ∧ zsh M b = some (.inl ci) ∧ f b = some r := by
  unfold qo at h
  cases a with
  | none => cases h
  | some b =>
    simp only at h
    by_cases hs : zsh M b = some (.inl ci)
    · rw [if_pos hs] at h
      exact ⟨b, rfl, hs, h⟩
    · rw [if_neg hs] at h
      cases h
theorem q_t {β : Type} {c : Prop} [Decidable c] {A B : Option β} {r : β} (hc : c) (h : (if c then A else B) = some r) : A = some r := by rw [if_pos hc] at h; exact h
theorem q_f {β : Type} {c : Prop} [Decidable c] {A B : Option β} {r : β} (hc : ¬ c) (h : (if c then A else B) = some r) : B = some r := by rw [if_neg hc] at h; exact h
def qfix {σ β : Type} (body : (σ → Option β) → σ → Option β) : Nat → σ → Option β
  | 0, _ => none
  | n + 1, s => body (qfix body n) s
theorem qfix_sound {σ β : Type} {body : (σ → Option β) → σ → Option β} {r : β} {G : σ → Prop} (hb : ∀ K, (∀ s, K s = some r → G s) → ∀ s, body K s = some r → G s) : ∀ n s, qfix body n s = some r → G s := by
  intro n
  induction n with
  | zero => intro s h; cases h
  | succ n ih => intro s h; exact hb _ ih s h
theorem qrec_sound {σ β : Type} {body : (σ → Option β) → σ → Option β} {G : Nat → σ → β → Prop} (hb : ∀ n K, (∀ s r, K s = some r → G n s r) → ∀ s r, body K s = some r → G (n + 1) s r) : ∀ n s r, qfix body n s = some r → G n s r := by
  intro n
  induction n with
  | zero => intro s r h; cases h
  | succ n ih => intro s r h; exact hb n _ ih s r h
abbrev zJ : Type := Nat → Nat → Int32
/-- the memory M0 with the ints of the n cells from A on as J has them -/
def zmm (M0 : zM) (A n : Nat) (J : zJ) : zM := (M0.1, fun a => if A ≤ a ∧ a < A + n then J (a - A) else zi M0 a, M0.2.2)
theorem zmm_i (M0 : zM) (A : Nat) {n c : Nat} (J : zJ) (h : c < n) : zi (zmm M0 A n J) (A + c) = J c := by
  show (if A ≤ A + c ∧ A + c < A + n then J (A + c - A) else zi M0 (A + c)) = J c
  rw [if_pos ⟨by omega, by omega⟩, Nat.add_sub_cancel_left]
theorem zmm_o (M0 : zM) (A n : Nat) (J : zJ) {a : Nat} (h : ¬ (A ≤ a ∧ a < A + n)) : zi (zmm M0 A n J) a = zi M0 a := by
  show (if A ≤ a ∧ a < A + n then J (a - A) else zi M0 a) = zi M0 a
  rw [if_neg h]
theorem zmm_p (M0 : zM) (A : Nat) {n c : Nat} (J : zJ) (k : Nat) (v : Int32) (h : c < n) : zpi (zmm M0 A n J) (A + c) k v = zmm M0 A n (zu J c k v) := by
  show (M0.1, zu _ (A + c) k v, M0.2.2) = (M0.1, _, M0.2.2)
  congr 2
  funext a
  unfold zu
  by_cases ha : a = A + c
  · subst ha
    rw [if_pos rfl]
    show _ = (if A ≤ A + c ∧ A + c < A + n then _ else _)
    rw [if_pos ⟨by omega, by omega⟩, Nat.add_sub_cancel_left, if_pos rfl]
    funext j
    show (if j = k then v else zi (zmm M0 A n J) (A + c) j) = _
    rw [zmm_i M0 A J h]
  · rw [if_neg ha]
    show (if A ≤ a ∧ a < A + n then J (a - A) else zi M0 a) = if A ≤ a ∧ a < A + n then _ else _
    by_cases hb : A ≤ a ∧ a < A + n
    · rw [if_pos hb, if_pos hb, if_neg (by omega)]
    · rw [if_neg hb, if_neg hb]
theorem zmm_self (M0 : zM) (A n : Nat) : zmm M0 A n (fun j => zi M0 (A + j)) = M0 := by
  show (M0.1, _, M0.2.2) = M0
  have : (fun a => if A ≤ a ∧ a < A + n then (fun j => zi M0 (A + j)) (a - A) else zi M0 a) = zi M0 := by
    funext a
    by_cases hb : A ≤ a ∧ a < A + n
    · rw [if_pos hb]
      show zi M0 (A + (a - A)) = _
      rw [Nat.add_sub_cancel' hb.1]
    · rw [if_neg hb]
  rw [this]
  rfl
/-- what the fixed cells from A on are, and which of them they name -/
def zLy (M0 : zM) (A : Nat) (sh : List (Nat × (Nat ⊕ Nat × Nat))) (rf : List (Nat × Nat × Nat)) : Prop := (∀ q ∈ sh, zsh M0 (A + q.1) = some q.2) ∧ ∀ q ∈ rf, zr M0 (A + q.1) q.2.1 = some (A + q.2.2)
theorem zLs {M0 : zM} {A : Nat} {sh : List (Nat × (Nat ⊕ Nat × Nat))} {rf : List (Nat × Nat × Nat)} (h : zLy M0 A sh rf) (i : Nat) {c : Nat} {s : Nat ⊕ Nat × Nat} (hi : sh[i]? = some (c, s)) : zsh M0 (A + c) = some s := h.1 _ (List.mem_of_getElem? hi)
theorem zLr {M0 : zM} {A : Nat} {sh : List (Nat × (Nat ⊕ Nat × Nat))} {rf : List (Nat × Nat × Nat)} (h : zLy M0 A sh rf) (i : Nat) {c k c1 : Nat} (hi : rf[i]? = some (c, k, c1)) : zr M0 (A + c) k = some (A + c1) := h.2 _ (List.mem_of_getElem? hi)
/-- types and their members are in M as in M0 -/
def zag (M0 M : zM) : Prop := ∀ b ci, (ci = 6 ∨ ci = 1) → zsh M0 b = some (.inl ci) → zsh M b = some (.inl ci) ∧ zi M b = zi M0 b ∧ zr M b = zr M0 b
theorem zag_rf (M : zM) : zag M M := fun _ _ _ h => ⟨h, rfl, rfl⟩
/-- how a walk ends: with this answer, in this memory -/
def zPq (ρ : zR) (M1 : zM) : zR → zM → Prop := fun r M2 => r = ρ ∧ M2 = M1
def rI (v : Int32) : zR := .inl (some (.int v))
def rB (b : Bool) : zR := .inl (some (.int (bI b)))
def rU (_ : Unit) : zR := .inl none
def rR (a : Option Nat) : zR := .inl (some (va_rf a))
def rX (x : Int32 ⊕ String) : zR := match x with
  | .inl v => .inl (some (.int v))
  | .inr C => .inr C
def rY (x : Unit ⊕ String) : zR := match x with
  | .inl _ => .inl none
  | .inr C => .inr C
theorem zs_n {lv : List (Nat × Value)} : ∀ e ∈ ([] : List (Nat × Value)), e ∈ lv := fun _ h => by cases h
theorem zs_c {lv t : List (Nat × Value)} {e : Nat × Value} (q : Nat) (h : lv[q]? = some e) (ht : ∀ x ∈ t, x ∈ lv) : ∀ x ∈ e :: t, x ∈ lv := by
  intro x hx
  rcases List.mem_cons.mp hx with rfl | hx
  · exact List.mem_of_getElem? h
  · exact ht x hx
section ZQ
variable {g : zg} {d : Nat} {y : zm} {post : zR → zM → Prop} {M : zM} {pc : Nat} {lv lv' : List (Nat × Value)} {st : List Value}
theorem zG_lv (hs : ∀ e ∈ lv', e ∈ lv) (k : zG g d y post M pc lv' st) : zG g d y post M pc lv st := by
  intro p e R s m args below meth c Q H locs ls hc hM hS hl hz
  exact k p e R s m args below meth c Q H locs ls hc hM hS ⟨hl.1, hl.2.1, fun q hq => hl.2.2 q (hs q hq)⟩ hz
theorem zi_rc0 {a : Option Nat} {b : Nat} (ha : a = some b) (k : zG g d y post M pc lv (va_rf (some b) :: st)) : zG g d y post M pc lv (va_rf a :: st) := by subst ha; exact k
theorem zi_rc1 {a : Option Nat} {b : Nat} {x1 : Value} (ha : a = some b) (k : zG g d y post M pc lv (x1 :: va_rf (some b) :: st)) : zG g d y post M pc lv (x1 :: va_rf a :: st) := by subst ha; exact k
theorem zi_rc2 {a : Option Nat} {b : Nat} {x1 x2 : Value} (ha : a = some b) (k : zG g d y post M pc lv (x1 :: x2 :: va_rf (some b) :: st)) : zG g d y post M pc lv (x1 :: x2 :: va_rf a :: st) := by subst ha; exact k
theorem zi_rc3 {a : Option Nat} {b : Nat} {x1 x2 x3 : Value} (ha : a = some b) (k : zG g d y post M pc lv (x1 :: x2 :: x3 :: va_rf (some b) :: st)) : zG g d y post M pc lv (x1 :: x2 :: x3 :: va_rf a :: st) := by subst ha; exact k
theorem zi_top {x x1 : Int32} (e : x = x1) (k : zG g d y post M pc lv (.int x1 :: st)) : zG g d y post M pc lv (.int x :: st) := by subst e; exact k
end ZQ
/-! rows over the fixed cells -/
section ZR
variable {g : zg} {d : Nat} {y : zm} {post : zR → zM → Prop} {M0 : zM} {A n : Nat} {J : zJ} {pc : Nat} {lv : List (Nat × Value)} {st : List Value} {c : Nat}
theorem ri_geti {i ci k : Nat} {ty : FieldType} {fin : Bool} (hs : zsh M0 (A + c) = some (.inl ci)) (hc : c < n) (hf : z_fl y.1.cls i ci k 0 ty fin) (hd : decode y.2.1 pc = .ok (.getfield i, 3)) (kk : zG g d y post (zmm M0 A n J) (pc + 3) lv (.int (J c k) :: st)) : zG g d y post (zmm M0 A n J) pc lv (va_rf (some (A + c)) :: st) :=
  zi_geti hs hf hd (by rw [zmm_i M0 A J hc]; exact kk)
theorem ri_getr {i ci k c1 : Nat} {ty : FieldType} {fin : Bool} (hs : zsh M0 (A + c) = some (.inl ci)) (hr : zr M0 (A + c) k = some (A + c1)) (hf : z_fl y.1.cls i ci k 1 ty fin) (hd : decode y.2.1 pc = .ok (.getfield i, 3)) (kk : zG g d y post (zmm M0 A n J) (pc + 3) lv (va_rf (some (A + c1)) :: st)) : zG g d y post (zmm M0 A n J) pc lv (va_rf (some (A + c)) :: st) :=
  zi_getR (M := zmm M0 A n J) hs hf hr hd kk
theorem ri_puti {i ci k : Nat} {ty : FieldType} {fin : Bool} {v : Int32} (hs : zsh M0 (A + c) = some (.inl ci)) (hc : c < n) (hf : z_fl y.1.cls i ci k 0 ty fin) (hin2 : fin = true → y.1.name = "<init>" ∧ ∃ T N, zcl[ci]? = some (y.1.cls, T, N)) (hn : narrow ty (.int v) = .int v) (hfit : fits ty (.int v) = true) (hd : decode y.2.1 pc = .ok (.putfield i, 3)) (kk : zG g d y post (zmm M0 A n (zu J c k v)) (pc + 3) lv st) : zG g d y post (zmm M0 A n J) pc lv (.int v :: va_rf (some (A + c)) :: st) :=
  zi_puti hs hf hin2 hn hfit hd (by rw [zmm_p M0 A J k v hc]; exact kk)
theorem ri_iald {t N : Nat} {i : Int32} (hs : zsh M0 (A + c) = some (.inr (t, N))) (hc : c < n) (ht : zAT[t]? = some .int) (hi : qi i N = true) (hd : decode y.2.1 pc = .ok (.iaload, 1)) (kk : zG g d y post (zmm M0 A n J) (pc + 1) lv (.int (J c i.toNatClampNeg) :: st)) : zG g d y post (zmm M0 A n J) pc lv (.int i :: va_rf (some (A + c)) :: st) :=
  zi_iald hs ht (qi_in hi) hd (by rw [zmm_i M0 A J hc]; exact kk)
theorem ri_cald {t N : Nat} {i : Int32} (hs : zsh M0 (A + c) = some (.inr (t, N))) (hc : c < n) (ht : zAT[t]? = some .char) (hi : qi i N = true) (hd : decode y.2.1 pc = .ok (.caload, 1)) (kk : zG g d y post (zmm M0 A n J) (pc + 1) lv (.int (J c i.toNatClampNeg) :: st)) : zG g d y post (zmm M0 A n J) pc lv (.int i :: va_rf (some (A + c)) :: st) :=
  zi_cald hs ht (qi_in hi) hd (by rw [zmm_i M0 A J hc]; exact kk)
theorem ri_zald {t N : Nat} {i : Int32} (hs : zsh M0 (A + c) = some (.inr (t, N))) (hc : c < n) (ht : zAT[t]? = some .boolean) (hi : qi i N = true) (hd : decode y.2.1 pc = .ok (.baload, 1)) (kk : zG g d y post (zmm M0 A n J) (pc + 1) lv (.int (J c i.toNatClampNeg) :: st)) : zG g d y post (zmm M0 A n J) pc lv (.int i :: va_rf (some (A + c)) :: st) :=
  zi_zald hs ht (qi_in hi) hd (by rw [zmm_i M0 A J hc]; exact kk)
theorem ri_iast {t N : Nat} {i x : Int32} (hs : zsh M0 (A + c) = some (.inr (t, N))) (hc : c < n) (ht : zAT[t]? = some .int) (hi : qi i N = true) (hd : decode y.2.1 pc = .ok (.iastore, 1)) (kk : zG g d y post (zmm M0 A n (zu J c i.toNatClampNeg x)) (pc + 1) lv st) : zG g d y post (zmm M0 A n J) pc lv (.int x :: .int i :: va_rf (some (A + c)) :: st) :=
  zi_iast hs ht (qi_in hi) hd (by rw [zmm_p M0 A J _ x hc]; exact kk)
theorem ri_cast {t N : Nat} {i x : Int32} (hs : zsh M0 (A + c) = some (.inr (t, N))) (hc : c < n) (ht : zAT[t]? = some .char) (hi : qi i N = true) (hx : narrow .char (.int x) = .int x) (hd : decode y.2.1 pc = .ok (.castore, 1)) (kk : zG g d y post (zmm M0 A n (zu J c i.toNatClampNeg x)) (pc + 1) lv st) : zG g d y post (zmm M0 A n J) pc lv (.int x :: .int i :: va_rf (some (A + c)) :: st) :=
  zi_cast hs ht (qi_in hi) hx hd (by rw [zmm_p M0 A J _ x hc]; exact kk)
theorem ri_zast {t N : Nat} {i x : Int32} (hs : zsh M0 (A + c) = some (.inr (t, N))) (hc : c < n) (ht : zAT[t]? = some .boolean) (hi : qi i N = true) (hx : narrow .boolean (.int x) = .int x) (hd : decode y.2.1 pc = .ok (.bastore, 1)) (kk : zG g d y post (zmm M0 A n (zu J c i.toNatClampNeg x)) (pc + 1) lv st) : zG g d y post (zmm M0 A n J) pc lv (.int x :: .int i :: va_rf (some (A + c)) :: st) :=
  zi_zast hs ht (qi_in hi) hx hd (by rw [zmm_p M0 A J _ x hc]; exact kk)
theorem ri_alen {t N : Nat} {ty : FieldType} (hs : zsh M0 (A + c) = some (.inr (t, N))) (ht : zAT[t]? = some ty) (hd : decode y.2.1 pc = .ok (.arraylength, 1)) (kk : zG g d y post (zmm M0 A n J) (pc + 1) lv (.int (nI N) :: st)) : zG g d y post (zmm M0 A n J) pc lv (va_rf (some (A + c)) :: st) :=
  zi_alen (M := zmm M0 A n J) hs ht hd kk
end ZR
/-! rows over types and members -/
section ZT
variable {g : zg} {d : Nat} {y : zm} {post : zR → zM → Prop} {M0 M : zM} {pc : Nat} {lv : List (Nat × Value)} {st : List Value} {b : Nat}
theorem ti_geti {i ci k : Nat} {ty : FieldType} {fin : Bool} (hg : zag M0 M) (hs : zsh M0 b = some (.inl ci)) (hci : ci = 6 ∨ ci = 1) (hf : z_fl y.1.cls i ci k 0 ty fin) (hd : decode y.2.1 pc = .ok (.getfield i, 3)) (kk : zG g d y post M (pc + 3) lv (.int (zi M0 b k) :: st)) : zG g d y post M pc lv (va_rf (some b) :: st) :=
  zi_geti (hg b ci hci hs).1 hf hd (by rw [(hg b ci hci hs).2.1]; exact kk)
theorem ti_getr {i ci k : Nat} {ty : FieldType} {fin : Bool} (hg : zag M0 M) (hs : zsh M0 b = some (.inl ci)) (hci : ci = 6 ∨ ci = 1) (hf : z_fl y.1.cls i ci k 1 ty fin) (hd : decode y.2.1 pc = .ok (.getfield i, 3)) (kk : zG g d y post M (pc + 3) lv (va_rf (zr M0 b k) :: st)) : zG g d y post M pc lv (va_rf (some b) :: st) :=
  zi_getr (hg b ci hci hs).1 hf hd (by rw [(hg b ci hci hs).2.2]; exact kk)
end ZT
