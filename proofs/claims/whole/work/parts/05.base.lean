/-! THE LAYER: a typed memory (zM) that a heap holds (z_ok); the kit's W with its context bundled and its room always tight (zG); the kit's Met bundled (zE). Over the tables zcl (classes), zkd (kinds of their fields), zAT (types of arrays), zCW (words). -/
/-- the slots of all cells -/
def zt (H : Heap) : Nat := H.foldl (fun n c => n + c.slots.size) 0
theorem zt_fold : ∀ (l : List Cell) (n : Nat), l.foldl (fun n c => n + c.slots.size) n = n + (l.map (fun c => c.slots.size)).sum := by
  intro l
  induction l with
  | nil => intro n; simp
  | cons a t ih =>
    intro n
    simp only [List.foldl_cons, List.map_cons, List.sum_cons]
    rw [ih]
    omega
theorem zt_eq (H : Heap) : zt H = (H.toList.map (fun c => c.slots.size)).sum := by
  unfold zt
  rw [← Array.foldl_toList, zt_fold]
  omega
theorem zt_push (H : Heap) (c : Cell) : zt (H.push c) = zt H + c.slots.size := by
  rw [zt_eq, zt_eq]
  simp
theorem zt_set {H H1 : Heap} {a : Nat} {c c1 : Cell} (h : H[a]? = some c) (h1 : H1[a]? = some c1) (hs : c1.slots.size = c.slots.size) (o : ∀ q : Nat, q ≠ a → H1[q]? = H[q]?) : zt H1 = zt H := by
  rw [zt_eq, zt_eq]
  congr 1
  apply List.ext_getElem?
  intro i
  rw [List.getElem?_map, List.getElem?_map, Array.getElem?_toList, Array.getElem?_toList]
  by_cases hi : i = a
  · subst hi
    rw [h, h1]
    simp [hs]
  · rw [o i hi]
theorem z_tight {p : Program} {l : Launch} {e : Env} {R : Room} {s : State} {m : MethodId} {args : Array Value} {below : List Frame} {meth : Method} {c : Code} {H : Heap} {locs : List Loc} {cells slots : Nat} {Q : State → Prop} {g : JFrame}
    (k : zt s.heap ≤ zt H → W p l e R s m args below meth c H locs (H.size - s.heap.size) (zt H - zt s.heap) Q g) : W p l e R s m args below meth c H locs cells slots Q g := by
  intro T hT X
  obtain ⟨h1, h2, h3, h4, h5, h6⟩ := X.same
  have hs : s.slotsTrue = true := by
    have h := X.room
    simp only [State.hasRoom, Bool.and_eq_true] at h
    exact h.2
  have hb := X.book
  have e1 : T.slotsUsed = zt T.heap := by
    simpa [State.slotsTrue, zt] using hb
  have e2 : s.slotsUsed = zt s.heap := by
    simpa [State.slotsTrue, zt] using hs
  have h2' : s.heap.size ≤ T.heap.size := h2
  have h4' : T.slotsUsed = s.slotsUsed + ((T.heap.toList.drop s.heap.size).map (·.slots.size)).sum := h4
  refine k (by rw [← hT]; omega) T hT { X with same := ?_ }
  refine ⟨h1, h2, ?_, h4, ?_, h6⟩
  · show T.heap.size ≤ s.heap.size + (H.size - s.heap.size)
    rw [← hT]
    omega
  · show ((T.heap.toList.drop s.heap.size).map (·.slots.size)).sum ≤ zt H - zt s.heap
    rw [← hT]
    omega
/-- typed memory: what a cell is (an object of a class; an array of a type, with its length), its ints, longs, references by place; how many cells and slots there are -/
abbrev zM : Type := (Nat → Option (Nat ⊕ Nat × Nat)) × (Nat → Nat → Int32) × (Nat → Nat → Int64) × (Nat → Nat → Option Nat) × Nat × Nat
def zsh (M : zM) : Nat → Option (Nat ⊕ Nat × Nat) := M.1
def zi (M : zM) : Nat → Nat → Int32 := M.2.1
def zl (M : zM) : Nat → Nat → Int64 := M.2.2.1
def zr (M : zM) : Nat → Nat → Option Nat := M.2.2.2.1
def zsz (M : zM) : Nat := M.2.2.2.2.1
def zsl (M : zM) : Nat := M.2.2.2.2.2
def zu {α : Type} (f : Nat → Nat → α) (a k : Nat) (v : α) : Nat → Nat → α := fun b => if b = a then (fun j => if j = k then v else f b j) else f b
theorem zu_self {α : Type} (f : Nat → Nat → α) (a k : Nat) (v : α) : zu f a k v a k = v := by simp [zu]
theorem zu_ne {α : Type} (f : Nat → Nat → α) {a b : Nat} (k : Nat) (v : α) (h : b ≠ a) : zu f a k v b = f b := by simp [zu, h]
theorem zu_at {α : Type} (f : Nat → Nat → α) (a k b j : Nat) (v : α) : zu f a k v b j = if b = a ∧ j = k then v else f b j := by
  unfold zu
  by_cases h : b = a <;> by_cases h2 : j = k <;> simp [h, h2]
def zpi (M : zM) (a k : Nat) (v : Int32) : zM := (M.1, zu M.2.1 a k v, M.2.2)
def zpl (M : zM) (a k : Nat) (v : Int64) : zM := (M.1, M.2.1, zu M.2.2.1 a k v, M.2.2.2)
def zpr (M : zM) (a k : Nat) (v : Option Nat) : zM := (M.1, M.2.1, M.2.2.1, zu M.2.2.2.1 a k v, M.2.2.2.2)
/-- a new cell, all of it 0 and null -/
def znew (M : zM) (sh : Nat ⊕ Nat × Nat) (n : Nat) : zM :=
  (fun a => if a = zsz M then some sh else zsh M a, fun a => if a = zsz M then (fun _ => 0) else zi M a, fun a => if a = zsz M then (fun _ => 0) else zl M a, fun a => if a = zsz M then (fun _ => none) else zr M a, zsz M + 1, zsl M + n)
/-- a field's value: kind 0 an int, 1 a reference, 2 a long -/
def zv (M : zM) (a k : Nat) (kd : Nat) : Value := match kd with
  | 0 => .int (zi M a k)
  | 1 => va_rf (zr M a k)
  | _ => .long (zl M a k)
def zfs (M : zM) (a : Nat) (ci : Nat) : List Value := (List.range (zkd ci).length).map (fun k => zv M a k ((zkd ci).getD k 0))
def zarr (M : zM) (a n : Nat) (ty : FieldType) : vp_A := match ty with
  | .long => (n, .inr (.inl (zl M a)))
  | .object _ => (n, .inr (.inr (.inr (.inr (zr M a)))))
  | _ => (n, .inl (zi M a))
def zcell (tys : List (ClassId × FieldType)) (M : zM) (a : Nat) (sh : Nat ⊕ Nat × Nat) : va_E := match sh with
  | .inl ci => .inr (ci, zfs M a ci)
  | .inr (t, n) => .inl ((tys.getD t (0, .int)).1, zarr M a n (tys.getD t (0, .int)).2)
/-- what is fixed: the launch, the tables' class numbers and slots, the array classes, the cells that may be written, the most cells and slots -/
abbrev zg : Type := Launch × va_G × List (ClassId × FieldType) × (Nat → Prop) × Nat × Nat × Nat × Nat × (Nat → Int32)
abbrev zg.l (g : zg) : Launch := g.1
abbrev zg.D (g : zg) : va_G := g.2.1
abbrev zg.tys (g : zg) : List (ClassId × FieldType) := g.2.2.1
abbrev zg.A (g : zg) : Nat → Prop := g.2.2.2.1
abbrev zg.KC (g : zg) : Nat := g.2.2.2.2.1
abbrev zg.KS (g : zg) : Nat := g.2.2.2.2.2.1
/-- the law's script: where it lies, how long it is, its ints -/
abbrev zg.sb (g : zg) : Nat := g.2.2.2.2.2.2.1
abbrev zg.sn (g : zg) : Nat := g.2.2.2.2.2.2.2.1
abbrev zg.sx (g : zg) : Nat → Int32 := g.2.2.2.2.2.2.2.2
/-- the heap H holds M -/
def z_ok (g : zg) (M : zM) (H : Heap) : Prop :=
  (H.size = zsz M ∧ zt H = zsl M ∧ zsz M ≤ g.KC ∧ zsl M ≤ g.KS) ∧ ∀ (a : Nat) (sh : Nat ⊕ Nat × Nat), zsh M a = some sh → g.A a ∧ va_at g.D zcl (a, zcell g.tys M a sh) H
/-- the exceptions that the desk throws, those above them, the texts; statics that making one reads -/
def zXN : List String := ["java/lang/IndexOutOfBoundsException", "java/lang/IllegalArgumentException", "java/lang/IllegalStateException", "java/util/NoSuchElementException", "java/lang/UnsupportedOperationException"]
def zXD : List MethodName := [Bundle.initS "java/lang/RuntimeException", Bundle.initS "java/lang/Exception", Bundle.initS Bundle.tN]
def zXL : List (String × String) := [("UNASSIGNED_STACK", Bundle.steD), ("SUPPRESSED_SENTINEL", Bundle.listD)]
def zXS : List (Nat × String) := [(105, "no such byte"), (116, "no such rules"), (121, "no module"), (130, "no such name"), (143, "too many bytes"), (157, "no such question"), (159, "no such part"), (177, "no such operation or rules")]
/-- a static reference of Throwable, as it lies; no cell that may be written -/
def zLS (A : Nat → Prop) (n d : String) (U : State) : Prop := ∃ (c : ClassId) (k : Class) (i : Nat) (f : Field) (a : Nat) (cell : Cell) (r : Option Nat), U.vm.findClass Bundle.tN = some c ∧ U.fieldFound? Bundle.tN n d = some (c, k, i, f) ∧ f.isStatic = true ∧ k.statics = some a ∧ U.heap[a]? = some cell ∧ cell.vm.isStatics = true ∧ cell.cls = c ∧ f.slot < cell.slots.size ∧ k.staticTypes[f.slot]? = some f.type ∧ cell.slots[f.slot]? = some (va_rf r) ∧ ¬ A a
theorem zLS_moved {A : Nat → Prop} {n d : String} {u U : State} (hW : u.WarmedH U.vm) (hq : ∀ q : Nat, q < u.heap.size → ¬ A q → U.heap[q]? = u.heap[q]?) (h : zLS A n d u) : zLS A n d U := by
  obtain ⟨c, k, i, f, a, cell, r, h1, h2, h3, h4, h5, h6, h7, h8, h9, h10, h11⟩ := h
  obtain ⟨k', hi', he⟩ := State.fieldFound?_setVm hW.alike h2
  exact ⟨c, k', i, f, a, cell, r, by rw [hW.alike.findClass]; exact h1, hi', h3, by rw [he]; exact h4, by rw [hq a (Array.getElem?_eq_some_iff.mp h5).1 h11]; exact h5, h6, h7, h8, by rw [he]; exact h9, h10, h11⟩
theorem zLS_lays {A : Nat → Prop} {n d : String} {U : State} (h : zLS A n d U) (args : Array Value) : (Cond.laysStatic Bundle.tN n d).before args U = true := by
  obtain ⟨c, k, i, f, a, cell, r, h1, h2, h3, h4, h5, h6, h7, h8, h9, h10, h11⟩ := h
  exact Cond.laysStatic_of h1 h2 h3 h4 h5 h6 h7 h8 h9
theorem zLS_ref {A : Nat → Prop} {n d : String} {U : State} (h : zLS A n d U) (args : Array Value) : (Cond.isRef (.static Bundle.tN n d)).before args U = true := by
  obtain ⟨c, k, i, f, a, cell, r, h1, h2, h3, h4, h5, h6, h7, h8, h9, h10, h11⟩ := h
  cases r <;> simp [Cond.before, Cond.holds, Cond.value, Term.eval, State.fieldNamed?, h2, h3, h4, h5, h6, h10, va_rf]
def zXP (A : Nat → Prop) (U : State) : Prop := (∀ C ∈ zXN, va_Nw (.castable C C) U) ∧ (∀ y ∈ zXD, va_Nw (.declares y) U) ∧ (∀ q ∈ zXS, ∃ a, vk_R "NotationDesk" q.1 q.2 a U) ∧ (∀ q ∈ zXL, zLS A q.1 q.2 U) ∧ ∀ C ∈ zXN, ∀ T ∈ zXN, C ≠ T → va_Nc C T U
theorem zXP_moved {A : Nat → Prop} {u U : State} (hW : u.WarmedH U.vm) (hq : ∀ q : Nat, q < u.heap.size → ¬ A q → U.heap[q]? = u.heap[q]?) (h : zXP A u) : zXP A U := by
  obtain ⟨h1, h2, h3, h4, h5⟩ := h
  refine ⟨fun C hC => va_Nw.warmC hW (h1 C hC), fun y hy => va_Nw.warmD hW (h2 y hy), fun q hz => ?_, fun q hz => zLS_moved hW hq (h4 q hz), fun C hC T hT hne => (h5 C hC T hT hne).moved hW.alike⟩
  obtain ⟨a, ha⟩ := h3 q hz
  exact ⟨a, ha.warm hW⟩
/-- where a method's handlers stand -/
def zhd (y : MethodName) : List (Nat × Nat × Nat × Nat) := if y.cls = "NotationDeskLaw" then if y.name = "at" then [(0, 9, 12, 13)] else if y.name = "transcode" then [(0, 12, 15, 19), (0, 12, 19, 21), (0, 12, 23, 23), (0, 12, 27, 25)] else if y.name = "part" then [(0, 10, 13, 19), (0, 10, 17, 23)] else if y.name = "octet" then [(0, 10, 13, 23)] else if y.name = "operation" then [(0, 9, 12, 19), (0, 9, 16, 21), (0, 9, 20, 23)] else if y.name = "serve" then [(0, 8, 11, 21)] else [] else []
/-- the tables, as a state has them -/
def z_K (g : zg) (U : State) : Prop := va_K g.D zcl g.tys U ∧ g.tys.map Prod.snd = zAT ∧ (∀ C, C ∈ zAO → va_AO C U) ∧ zXP g.A U ∧ va_X g.sb g.sn g.sx U U.heap ∧ g.sb < U.heap.size ∧ ¬ g.A g.sb
/-- how a method ends: with an answer; or a new exception of that class has been thrown -/
abbrev zR : Type := Option Value ⊕ String
def zout (r : zR) (o : Outcome) (t : State) : Prop := match r with
  | .inl v => o = .returned v
  | .inr C => ∃ (a : Addr) (ce : Cell) (k : Class), o = .threw a ∧ t.heap[a]? = some ce ∧ ce.vm = .none ∧ t.vm.findClass C = some ce.cls ∧ t.vm.classes[ce.cls]? = some k
/-- the context of a walk: the machine, the method's code, the words, the tables, the room for d calls inside each other, and that every end that post allows is what is wanted -/
def zctx (g : zg) (d : Nat) (y : zm) (post : zR → zM → Prop) (p : Program) (e : Env) (R : Room) (s : State) (m : MethodId) (args : Array Value) (below : List Frame) (meth : Method) (c : Code) (Q : State → Prop) : Prop :=
  (p.tables.exec = Jvm.exec ∧ c.code = y.2.1 ∧ c.maxLocals = y.2.2.1 ∧ s.vm.findClass y.1.cls = some m.cls ∧ (∀ w ∈ zCW, w.before args s = true) ∧ meth.locks = false ∧ meth.name = y.1.name ∧ meth.sig.returnType = y.2.2.2 ∧ c.exceptionTable.toList.map (fun h => (h.startPc, h.endPc, h.handlerPc, h.catchType)) = zhd y.1) ∧
  z_K g s ∧ (d ≤ R.frames ∧ 60 * d + 12 ≤ R.locals ∧ g.KC ≤ R.cells + s.heap.size ∧ g.KS ≤ R.slots + zt s.heap) ∧ (∀ q : Nat, s.heap.size ≤ q → g.A q) ∧
  ∀ (t : State) (o : Outcome) (r : zR) (M : zM) (L : List Loc), t.status = .running → Ended t below o → s.WarmedH t.vm → s.sameButNew ({ t with vm := s.vm } : State) L (t.heap.size - s.heap.size) (zt t.heap - zt s.heap) → (∀ q ∈ L, g.A q.base) → zout r o t → post r M → z_ok g M t.heap → va_F g.A s t → Q t
/-- the walk stands at pc, with the locals lv, the stack st, the memory M: it comes to an end that post allows -/
def zG (g : zg) (d : Nat) (y : zm) (post : zR → zM → Prop) (M : zM) (pc : Nat) (lv : List (Nat × Value)) (st : List Value) : Prop :=
  ∀ (p : Program) (e : Env) (R : Room) (s : State) (m : MethodId) (args : Array Value) (below : List Frame) (meth : Method) (c : Code) (Q : State → Prop) (H : Heap) (locs : List Loc) (ls : Array Slot),
    zctx g d y post p e R s m args below meth c Q → z_ok g M H → va_S g.A s.heap H locs → lv_has ls y.2.2.1 lv → zt s.heap ≤ zt H → W p g.l e R s m args below meth c H locs (H.size - s.heap.size) (zt H - zt s.heap) Q (F0 m pc ls st)
