/-! THE LAYER: a typed memory (zM) that a heap holds (z_ok); the kit's W with its context bundled and its room always tight (zG); the kit's Met bundled (zE). Over the tables zcl (classes), zkd (kinds of their fields), zAT (types of arrays), zCW (words). -/
/-- the slots of all cells -/
def zt (H : Heap) : Nat := H.foldl (fun n c => n + c.slots.size) 0
theorem zt_fold : ∀ (l : List Cell) (n : Nat), l.foldl (fun n c => n + c.slots.size) n = n + (l.map (fun c => c.slots.size)).sum := by
  intro l
  induction l with
  | nil => intro n; simp
  | cons a t ih =>
    intro n
    simp only [List.foldl_cons, List.map_cons, List.sum_cons]
    rw [ih]
    omega
theorem zt_eq (H : Heap) : zt H = (H.toList.map (fun c => c.slots.size)).sum := by
  unfold zt
  rw [← Array.foldl_toList, zt_fold]
  omega
theorem zt_push (H : Heap) (c : Cell) : zt (H.push c) = zt H + c.slots.size := by
  rw [zt_eq, zt_eq]
  simp
theorem zt_set {H H1 : Heap} {a : Nat} {c c1 : Cell} (h : H[a]? = some c) (h1 : H1[a]? = some c1) (hs : c1.slots.size = c.slots.size) (o : ∀ q : Nat, q ≠ a → H1[q]? = H[q]?) : zt H1 = zt H := by
  rw [zt_eq, zt_eq]
  congr 1
  apply List.ext_getElem?
  intro i
  rw [List.getElem?_map, List.getElem?_map, Array.getElem?_toList, Array.getElem?_toList]
  by_cases hi : i = a
  · subst hi
    rw [h, h1]
    simp [hs]
  · rw [o i hi]
theorem z_tight {p : Program} {l : Launch} {e : Env} {R : Room} {s : State} {m : MethodId} {args : Array Value} {below : List Frame} {meth : Method} {c : Code} {H : Heap} {locs : List Loc} {cells slots : Nat} {Q : State → Prop} {g : JFrame}
    (k : zt s.heap ≤ zt H → W p l e R s m args below meth c H locs (H.size - s.heap.size) (zt H - zt s.heap) Q g) : W p l e R s m args below meth c H locs cells slots Q g := by
  intro T hT X
  obtain ⟨h1, h2, h3, h4, h5, h6⟩ := X.same
  have hs : s.slotsTrue = true := by
    have h := X.room
    simp only [State.hasRoom, Bool.and_eq_true] at h
    exact h.2
  have hb := X.book
  have e1 : T.slotsUsed = zt T.heap := by
    simpa [State.slotsTrue, zt] using hb
  have e2 : s.slotsUsed = zt s.heap := by
    simpa [State.slotsTrue, zt] using hs
  have h2' : s.heap.size ≤ T.heap.size := h2
  have h4' : T.slotsUsed = s.slotsUsed + ((T.heap.toList.drop s.heap.size).map (·.slots.size)).sum := h4
  refine k (by rw [← hT]; omega) T hT { X with same := ?_ }
  refine ⟨h1, h2, ?_, h4, ?_, h6⟩
  · show T.heap.size ≤ s.heap.size + (H.size - s.heap.size)
    rw [← hT]
    omega
  · show ((T.heap.toList.drop s.heap.size).map (·.slots.size)).sum ≤ zt H - zt s.heap
    rw [← hT]
    omega
/-- typed memory: what a cell is (an object of a class; an array of a type, with its length), its ints, longs, references by place; how many cells and slots there are -/
abbrev zM : Type := (Nat → Option (Nat ⊕ Nat × Nat)) × (Nat → Nat → Int32) × (Nat → Nat → Int64) × (Nat → Nat → Option Nat) × Nat × Nat
def zsh (M : zM) : Nat → Option (Nat ⊕ Nat × Nat) := M.1
def zi (M : zM) : Nat → Nat → Int32 := M.2.1
def zl (M : zM) : Nat → Nat → Int64 := M.2.2.1
def zr (M : zM) : Nat → Nat → Option Nat := M.2.2.2.1
def zsz (M : zM) : Nat := M.2.2.2.2.1
def zsl (M : zM) : Nat := M.2.2.2.2.2
def zu {α : Type} (f : Nat → Nat → α) (a k : Nat) (v : α) : Nat → Nat → α := fun b => if b = a then (fun j => if j = k then v else f b j) else f b
theorem zu_self {α : Type} (f : Nat → Nat → α) (a k : Nat) (v : α) : zu f a k v a k = v := by simp [zu]
theorem zu_ne {α : Type} (f : Nat → Nat → α) {a b : Nat} (k : Nat) (v : α) (h : b ≠ a) : zu f a k v b = f b := by simp [zu, h]
theorem zu_at {α : Type} (f : Nat → Nat → α) (a k b j : Nat) (v : α) : zu f a k v b j = if b = a ∧ j = k then v else f b j := by
  unfold zu
  by_cases h : b = a <;> by_cases h2 : j = k <;> simp [h, h2]
def zpi (M : zM) (a k : Nat) (v : Int32) : zM := (M.1, zu M.2.1 a k v, M.2.2)
def zpl (M : zM) (a k : Nat) (v : Int64) : zM := (M.1, M.2.1, zu M.2.2.1 a k v, M.2.2.2)
def zpr (M : zM) (a k : Nat) (v : Option Nat) : zM := (M.1, M.2.1, M.2.2.1, zu M.2.2.2.1 a k v, M.2.2.2.2)
/-- a new cell, all of it 0 and null -/
def znew (M : zM) (sh : Nat ⊕ Nat × Nat) (n : Nat) : zM :=
  (fun a => if a = zsz M then some sh else zsh M a, fun a => if a = zsz M then (fun _ => 0) else zi M a, fun a => if a = zsz M then (fun _ => 0) else zl M a, fun a => if a = zsz M then (fun _ => none) else zr M a, zsz M + 1, zsl M + n)
/-- a field's value: kind 0 an int, 1 a reference, 2 a long -/
def zv (M : zM) (a k : Nat) (kd : Nat) : Value := match kd with
  | 0 => .int (zi M a k)
  | 1 => va_rf (zr M a k)
  | _ => .long (zl M a k)
def zfs (M : zM) (a : Nat) (ci : Nat) : List Value := (List.range (zkd ci).length).map (fun k => zv M a k ((zkd ci).getD k 0))
def zarr (M : zM) (a n : Nat) (ty : FieldType) : vp_A := match ty with
  | .long => (n, .inr (.inl (zl M a)))
  | .object _ => (n, .inr (.inr (.inr (.inr (zr M a)))))
  | _ => (n, .inl (zi M a))
def zcell (tys : List (ClassId × FieldType)) (M : zM) (a : Nat) (sh : Nat ⊕ Nat × Nat) : va_E := match sh with
  | .inl ci => .inr (ci, zfs M a ci)
  | .inr (t, n) => .inl ((tys.getD t (0, .int)).1, zarr M a n (tys.getD t (0, .int)).2)
/-- what is fixed: the launch, the tables' class numbers and slots, the array classes, the cells that may be written, the most cells and slots -/
abbrev zg : Type := Launch × va_G × List (ClassId × FieldType) × (Nat → Prop) × Nat × Nat
abbrev zg.l (g : zg) : Launch := g.1
abbrev zg.D (g : zg) : va_G := g.2.1
abbrev zg.tys (g : zg) : List (ClassId × FieldType) := g.2.2.1
abbrev zg.A (g : zg) : Nat → Prop := g.2.2.2.1
abbrev zg.KC (g : zg) : Nat := g.2.2.2.2.1
abbrev zg.KS (g : zg) : Nat := g.2.2.2.2.2
/-- the heap H holds M -/
def z_ok (g : zg) (M : zM) (H : Heap) : Prop :=
  (H.size = zsz M ∧ zt H = zsl M ∧ zsz M ≤ g.KC ∧ zsl M ≤ g.KS) ∧ ∀ (a : Nat) (sh : Nat ⊕ Nat × Nat), zsh M a = some sh → g.A a ∧ va_at g.D zcl (a, zcell g.tys M a sh) H
/-- the tables, as a state has them -/
def z_K (g : zg) (U : State) : Prop := va_K g.D zcl g.tys U ∧ g.tys.map Prod.snd = zAT ∧ ∀ C, C ∈ zAO → va_AO C U
/-- how a method ends: with an answer; or a new exception of that class has been thrown -/
abbrev zR : Type := Option Value ⊕ String
def zout (r : zR) (o : Outcome) (t : State) : Prop := match r with
  | .inl v => o = .returned v
  | .inr C => ∃ (a : Addr) (ce : Cell) (k : Class), o = .threw a ∧ t.heap[a]? = some ce ∧ ce.vm = .none ∧ t.vm.findClass C = some ce.cls ∧ t.vm.classes[ce.cls]? = some k
/-- the context of a walk: the machine, the method's code, the words, the tables, the room for d calls inside each other, and that every end that post allows is what is wanted -/
def zctx (g : zg) (d : Nat) (y : zm) (post : zR → zM → Prop) (p : Program) (e : Env) (R : Room) (s : State) (m : MethodId) (args : Array Value) (below : List Frame) (meth : Method) (c : Code) (Q : State → Prop) : Prop :=
  (p.tables.exec = Jvm.exec ∧ c.code = y.2.1 ∧ c.maxLocals = y.2.2.1 ∧ s.vm.findClass y.1.cls = some m.cls ∧ (∀ w ∈ zCW, w.before args s = true) ∧ meth.locks = false ∧ meth.name = y.1.name ∧ meth.sig.returnType = y.2.2.2) ∧
  z_K g s ∧ (d ≤ R.frames ∧ 60 * d + 12 ≤ R.locals ∧ g.KC ≤ R.cells + s.heap.size ∧ g.KS ≤ R.slots + zt s.heap) ∧ (∀ q : Nat, s.heap.size ≤ q → g.A q) ∧
  ∀ (t : State) (o : Outcome) (r : zR) (M : zM) (L : List Loc), t.status = .running → Ended t below o → s.WarmedH t.vm → s.sameButNew ({ t with vm := s.vm } : State) L (t.heap.size - s.heap.size) (zt t.heap - zt s.heap) → (∀ q ∈ L, g.A q.base) → zout r o t → post r M → z_ok g M t.heap → va_F g.A s t → Q t
/-- the walk stands at pc, with the locals lv, the stack st, the memory M: it comes to an end that post allows -/
def zG (g : zg) (d : Nat) (y : zm) (post : zR → zM → Prop) (M : zM) (pc : Nat) (lv : List (Nat × Value)) (st : List Value) : Prop :=
  ∀ (p : Program) (e : Env) (R : Room) (s : State) (m : MethodId) (args : Array Value) (below : List Frame) (meth : Method) (c : Code) (Q : State → Prop) (H : Heap) (locs : List Loc) (ls : Array Slot),
    zctx g d y post p e R s m args below meth c Q → z_ok g M H → va_S g.A s.heap H locs → lv_has ls y.2.2.1 lv → zt s.heap ≤ zt H → W p g.l e R s m args below meth c H locs (H.size - s.heap.size) (zt H - zt s.heap) Q (F0 m pc ls st)
