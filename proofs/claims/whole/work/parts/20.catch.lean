/-! CATCHING: the search through a method's handlers, their classes perhaps not yet resolved; a call that throws, and is caught -/
theorem z_go1 {Q : Handler → Pre} {E : CtlPost} {e : Env} {d : Bool} {acts : List Action} {s : State} {f : JFrame} {a : Addr} {x : ExceptionTableEntry} {t : List ExceptionTableEntry} {c : ClassId} {cell : Cell} (hx : covers x f.pc = true) (h0 : x.catchType ≠ 0)
    (hl : s.vm.ClassLinks e.platform f.method.cls x.catchType c) (hcell : s.heap[a]? = some cell) (hobj : ∀ k, cell.vm ≠ .statics k) (hk : ∃ k, s.vm.classes[cell.cls]? = some k) (hc : ∃ k, s.vm.classes[c]? = some k) :
    wp (findHandler.go f a (x :: t)) Q E e d acts s ↔ if s.vm.assignable cell.cls c = true then Q (.found x.handlerPc) d acts (s.setVm (s.vm.noted f.method.cls x.catchType (.cls c))) else wp (findHandler.go f a t) Q E e d acts (s.setVm (s.vm.noted f.method.cls x.catchType (.cls c))) := by
  simp only [covers] at hx
  obtain ⟨ha, ht⟩ := (resolveClass_links e.toSetting hl).op (op := VmOp.resolveClass f.method.cls x.catchType) rfl
  have hal : s.vm.Alike (s.vm.noted f.method.cls x.catchType (.cls c)) := (Vm.Alike.refl s.vm).noted _ _ _
  obtain ⟨k1, hk1⟩ := hk
  obtain ⟨k2, hk2⟩ := hc
  obtain ⟨k1', hk1', -⟩ := hal.2.2 _ _ hk1
  obtain ⟨k2', hk2', -⟩ := hal.2.2 _ _ hk2
  cases hfit : s.vm.assignable cell.cls c with
  | true =>
    have hfit' : (s.vm.noted f.method.cls x.catchType (.cls c)).assignable cell.cls c = true := by rw [hal.assignable]; exact hfit
    simp [findHandler.go, hx, h0, ha, ht, hcell, hobj, hk1', hk2', hfit', VmOp.dirties, VmOp.acts]
  | false =>
    have hfit' : (s.vm.noted f.method.cls x.catchType (.cls c)).assignable cell.cls c = false := by rw [hal.assignable]; exact hfit
    simp [findHandler.go, hx, h0, ha, ht, hcell, hobj, hk1', hk2', hfit', VmOp.dirties, VmOp.acts]
/-- what is asked of handlers, entry by entry: the entry covers the pc, its class is D, one of the exceptions; and where the search ends -/
def zfd (own : String) (pc : Nat) (C : String) : List (Nat × Nat × Nat × Nat) → List String → Option Nat
  | q :: l, D :: Ds => if q.1 ≤ pc ∧ pc < q.2.1 ∧ q.2.2.2 ≠ 0 ∧ D ∈ zXN then (if D = C then some q.2.2.1 else zfd own pc C l Ds) else none
  | _, _ => none
def zfw (own : String) : List (Nat × Nat × Nat × Nat) → List String → Prop
  | q :: l, D :: Ds => Cond.classLink own q.2.2.2 D ∈ zCW ∧ zfw own l Ds
  | _, _ => True
theorem z_search {g : zg} {own C : String} {e : Env} {s : State} {args : Array Value} {f : JFrame} {a : Addr} {cell : Cell} {kc : Class} {hpc : Nat} (hpl : e.platform.magicAccessors = ({} : Platform).magicAccessors) (hown : s.vm.findClass own = some f.method.cls) (hts : ∀ w ∈ zCW, w.before args s = true) (hK : zXP g.A s) (hC : C ∈ zXN) (hcl : s.vm.findClass C = some cell.cls) (hkc : s.vm.classes[cell.cls]? = some kc) (hobj : ∀ k, cell.vm ≠ .statics k) :
    ∀ (es : List ExceptionTableEntry) (Cs : List String) (T : State), s.WarmedH T.vm → T.heap[a]? = some cell → zfd own f.pc C (es.map (fun h => (h.startPc, h.endPc, h.handlerPc, h.catchType))) Cs = some hpc → zfw own (es.map (fun h => (h.startPc, h.endPc, h.handlerPc, h.catchType))) Cs →
      ∃ vm', s.WarmedH vm' ∧ ∀ (Q : Handler → Pre) (E : CtlPost) (d : Bool) (acts : List Action), wp (findHandler.go f a es) Q E e d acts T ↔ Q (.found hpc) d acts (T.setVm vm') := by
  intro es
  induction es with
  | nil => intro Cs T hW hT h1 h2; cases Cs <;> simp [zfd] at h1
  | cons x t ih =>
    intro Cs T hW hT h1 h2
    cases Cs with
    | nil => simp [zfd] at h1
    | cons D Ds =>
      simp only [List.map_cons, zfd] at h1
      split at h1
      · rename_i hc0
        obtain ⟨c1, c2, c3, c4⟩ := hc0
        simp only [List.map_cons, zfw] at h2
        obtain ⟨w1, w2⟩ := h2
        have hcov : covers x f.pc = true := by simp [covers, c1, c2]
        obtain ⟨cD, hfD, hlD⟩ := Cond.classLink_spec hown (hts _ w1) e.platform hpl
        obtain ⟨kD, hkD, -⟩ := Vm.findClass_spec hfD
        have hlT := hW.classLinks hlD
        obtain ⟨k1', hk1', -⟩ := hW.alike.2.2 _ _ hkc
        obtain ⟨k2', hk2', -⟩ := hW.alike.2.2 _ _ hkD
        obtain ⟨-, hwarm, -⟩ := State.classEntry (e := e) hW hlD
        by_cases hDC : D = C
        · subst hDC
          rw [if_pos rfl] at h1
          cases h1
          cases hfD.symm.trans hcl
          obtain ⟨c3', c4', e3, e4, hasg⟩ := Cond.castable_spec (hK.1 D hC)
          cases e3.symm.trans hcl
          cases e4.symm.trans hcl
          refine ⟨_, hwarm, fun Q E d acts => ?_⟩
          rw [z_go1 hcov c3 hlT hT hobj ⟨_, hk1'⟩ ⟨_, hk2'⟩, if_pos (by rw [hW.alike.assignable]; exact hasg)]
        · rw [if_neg hDC] at h1
          obtain ⟨z1, z2, e1, e2, hno⟩ := hK.2.2.2.2 C hC D c4 (fun h => hDC h.symm)
          cases e1.symm.trans hcl
          cases e2.symm.trans hfD
          obtain ⟨vm', hv1, hv2⟩ := ih Ds (T.setVm (T.vm.noted f.method.cls x.catchType (.cls cD))) hwarm hT h1 w2
          refine ⟨vm', hv1, fun Q E d acts => ?_⟩
          rw [z_go1 hcov c3 hlT hT hobj ⟨_, hk1'⟩ ⟨_, hk2'⟩, if_neg (by rw [hW.alike.assignable, hno]; decide), hv2]
          rfl
      · cases h1
