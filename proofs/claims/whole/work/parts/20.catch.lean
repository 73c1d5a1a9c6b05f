/-! CATCHING: the search through a method's handlers, their classes perhaps not yet resolved; a call that throws, and is caught -/
theorem z_go1 {Q : Handler → Pre} {E : CtlPost} {e : Env} {d : Bool} {acts : List Action} {s : State} {f : JFrame} {a : Addr} {x : ExceptionTableEntry} {t : List ExceptionTableEntry} {c : ClassId} {cell : Cell} (hx : covers x f.pc = true) (h0 : x.catchType ≠ 0)
    (hl : s.vm.ClassLinks e.platform f.method.cls x.catchType c) (hcell : s.heap[a]? = some cell) (hobj : ∀ k, cell.vm ≠ .statics k) (hk : ∃ k, s.vm.classes[cell.cls]? = some k) (hc : ∃ k, s.vm.classes[c]? = some k) :
    wp (findHandler.go f a (x :: t)) Q E e d acts s ↔ if s.vm.assignable cell.cls c = true then Q (.found x.handlerPc) d acts (s.setVm (s.vm.noted f.method.cls x.catchType (.cls c))) else wp (findHandler.go f a t) Q E e d acts (s.setVm (s.vm.noted f.method.cls x.catchType (.cls c))) := by
  simp only [covers] at hx
  obtain ⟨ha, ht⟩ := (resolveClass_links e.toSetting hl).op (op := VmOp.resolveClass f.method.cls x.catchType) rfl
  have hal : s.vm.Alike (s.vm.noted f.method.cls x.catchType (.cls c)) := (Vm.Alike.refl s.vm).noted _ _ _
  obtain ⟨k1, hk1⟩ := hk
  obtain ⟨k2, hk2⟩ := hc
  obtain ⟨k1', hk1', -⟩ := hal.2.2 _ _ hk1
  obtain ⟨k2', hk2', -⟩ := hal.2.2 _ _ hk2
  cases hfit : s.vm.assignable cell.cls c with
  | true =>
    have hfit' : (s.vm.noted f.method.cls x.catchType (.cls c)).assignable cell.cls c = true := by rw [hal.assignable]; exact hfit
    simp [findHandler.go, hx, h0, ha, ht, hcell, hobj, hk1', hk2', hfit', VmOp.dirties, VmOp.acts]
  | false =>
    have hfit' : (s.vm.noted f.method.cls x.catchType (.cls c)).assignable cell.cls c = false := by rw [hal.assignable]; exact hfit
    simp [findHandler.go, hx, h0, ha, ht, hcell, hobj, hk1', hk2', hfit', VmOp.dirties, VmOp.acts]
/-- what is asked of handlers, entry by entry: the entry covers the pc, its class is D, one of the exceptions; and where the search ends -/
def zfd (own : String) (pc : Nat) (C : String) : List (Nat × Nat × Nat × Nat) → List String → Option Nat
  | q :: l, D :: Ds => if q.1 ≤ pc ∧ pc < q.2.1 ∧ q.2.2.2 ≠ 0 ∧ D ∈ zXN then (if D = C then some q.2.2.1 else zfd own pc C l Ds) else none
  | _, _ => none
def zfw (own : String) : List (Nat × Nat × Nat × Nat) → List String → Prop
  | q :: l, D :: Ds => Cond.classLink own q.2.2.2 D ∈ zCW ∧ zfw own l Ds
  | _, _ => True
theorem z_search {g : zg} {own C : String} {e : Env} {s : State} {args : Array Value} {f : JFrame} {a : Addr} {cell : Cell} {kc : Class} {hpc : Nat} (hpl : e.platform.magicAccessors = ({} : Platform).magicAccessors) (hown : s.vm.findClass own = some f.method.cls) (hts : ∀ w ∈ zCW, w.before args s = true) (hK : zXP g.A s) (hC : C ∈ zXN) (hcl : s.vm.findClass C = some cell.cls) (hkc : s.vm.classes[cell.cls]? = some kc) (hobj : ∀ k, cell.vm ≠ .statics k) :
    ∀ (es : List ExceptionTableEntry) (Cs : List String) (T : State), s.WarmedH T.vm → T.heap[a]? = some cell → zfd own f.pc C (es.map (fun h => (h.startPc, h.endPc, h.handlerPc, h.catchType))) Cs = some hpc → zfw own (es.map (fun h => (h.startPc, h.endPc, h.handlerPc, h.catchType))) Cs →
      ∃ vm', s.WarmedH vm' ∧ ∀ (Q : Handler → Pre) (E : CtlPost) (d : Bool) (acts : List Action), wp (findHandler.go f a es) Q E e d acts T ↔ Q (.found hpc) d acts (T.setVm vm') := by
  intro es
  induction es with
  | nil => intro Cs T hW hT h1 h2; cases Cs <;> simp [zfd] at h1
  | cons x t ih =>
    intro Cs T hW hT h1 h2
    cases Cs with
    | nil => simp [zfd] at h1
    | cons D Ds =>
      simp only [List.map_cons, zfd] at h1
      split at h1
      · rename_i hc0
        obtain ⟨c1, c2, c3, c4⟩ := hc0
        simp only [List.map_cons, zfw] at h2
        obtain ⟨w1, w2⟩ := h2
        have hcov : covers x f.pc = true := by simp [covers, c1, c2]
        obtain ⟨cD, hfD, hlD⟩ := Cond.classLink_spec hown (hts _ w1) e.platform hpl
        obtain ⟨kD, hkD, -⟩ := Vm.findClass_spec hfD
        have hlT := hW.classLinks hlD
        obtain ⟨k1', hk1', -⟩ := hW.alike.2.2 _ _ hkc
        obtain ⟨k2', hk2', -⟩ := hW.alike.2.2 _ _ hkD
        obtain ⟨-, hwarm, -⟩ := State.classEntry (e := e) hW hlD
        by_cases hDC : D = C
        · subst hDC
          rw [if_pos rfl] at h1
          cases h1
          cases hfD.symm.trans hcl
          obtain ⟨c3', c4', e3, e4, hasg⟩ := Cond.castable_spec (hK.1 D hC)
          cases e3.symm.trans hcl
          cases e4.symm.trans hcl
          refine ⟨_, hwarm, fun Q E d acts => ?_⟩
          rw [z_go1 hcov c3 hlT hT hobj ⟨_, hk1'⟩ ⟨_, hk2'⟩, if_pos (by rw [hW.alike.assignable]; exact hasg)]
        · rw [if_neg hDC] at h1
          obtain ⟨z1, z2, e1, e2, hno⟩ := hK.2.2.2.2 C hC D c4 (fun h => hDC h.symm)
          cases e1.symm.trans hcl
          cases e2.symm.trans hfD
          obtain ⟨vm', hv1, hv2⟩ := ih Ds (T.setVm (T.vm.noted f.method.cls x.catchType (.cls cD))) hwarm hT h1 w2
          refine ⟨vm', hv1, fun Q E d acts => ?_⟩
          rw [z_go1 hcov c3 hlT hT hobj ⟨_, hk1'⟩ ⟨_, hk2'⟩, if_neg (by rw [hW.alike.assignable, hno]; decide), hv2]
          rfl
      · cases h1
theorem z_caught {p : Program} {l : Launch} {e : Env} {R : Room} {s : State} {m : MethodId} {args : Array Value} {below : List Frame} {meth : Method} {c : Code} {T : State} {locs : List Loc} {cells slots : Nat} (X : Stand p l e R s m args below meth c T locs cells slots) (a : Addr) {g : JFrame} (hg : g.method = m) {hpc : Nat} {vm' : Vm}
    (hfind : ∀ (Q : Handler → Pre) (E : CtlPost) (d : Bool) (acts : List Action), wp (findHandler g a) Q E e d acts ((T.setTop g).pushFrame (.throwing a)) ↔ Q (.found hpc) d acts (((T.setTop g).pushFrame (.throwing a)).setVm vm'))
    {target : State} (hrest : Steps p.tables e below ((T.setVm vm').setTop { g with pc := hpc, stack := [.ref a] }) target) : Steps p.tables e below ((T.setTop g).pushFrame (.throwing a)) target := by
  have h : At T g.method c below := by rw [hg]; exact X.here
  obtain ⟨hgo, hw⟩ := h.throwing a
  refine Steps.head hgo hw ?_
  have key : ∀ (S : State) (r : List Frame), (∀ (Q : Handler → Pre) (E : CtlPost) (d : Bool) (acts : List Action), wp (findHandler g a) Q E e d acts S ↔ Q (.found hpc) d acts (S.setVm vm')) → (stepThrowing e S a (.java g :: r)).1 = (S.setVm vm').setFrames (.java { g with pc := hpc, stack := [.ref a] } :: r) := by
    intro S r hf
    simp only [stepThrowing, searchFrame, vmDo]
    generalize hr : Sem.go _ e false [] S = res
    obtain ⟨as, rfl, ha⟩ := Sem.eq_ok_of hr (a := Handler.found hpc) (s' := S.setVm vm') (acts' := []) (by simp [hf _ _ _ _])
    rfl
  rw [stepThread_throwing (frames_entered h.top _), key _ _ hfind]
  obtain ⟨g₀, hg0⟩ := Option.isSome_iff_exists.mp h.top
  obtain ⟨r, hr⟩ := State.topJava?_eq_some.mp hg0
  have hr' : (T.setVm vm').frames = .java g₀ :: r := hr
  rw [State.setTop_of_frames _ hr'] at hrest
  have e1 : ∀ (u : State) (F G : List Frame), ((u.setFrames F).setVm vm').setFrames G = (u.setVm vm').setFrames G := by
    intro u F G
    have h1 : (u.setFrames F).setVm vm' = (u.setVm vm').setFrames F := rfl
    rw [h1, State.setFrames_setFrames]
  rw [hr, List.tail_cons, State.pushFrame, e1, State.setTop_of_frames _ hr, e1]
  exact hrest
/-- a method's contract where it throws a new C -/
def zX (g : zg) (d : Nat) (y : zm) (av : List Value) (M : zM) (C : String) (post : zM → Prop) : Prop :=
  MetFree g.l y.1 (headSpec (.code y.1 y.2.1 y.2.2.1 y.2.2.2 :: zCW) { frames := d, cells := g.KC - zsz M, slots := g.KS - zsl M, locals := 60 * d + 12 }) (va_Pc av (fun U => z_ok g M U.heap ∧ z_K g U ∧ ∀ q : Nat, U.heap.size ≤ q → g.A q)) (fun _ _ _ _ _ => True)
    (fun _ st o t => ∃ (a : Addr) (ce : Cell) (k : Class) (M1 : zM) (L : List Loc), o = .threw a ∧ t.heap[a]? = some ce ∧ ce.vm = .none ∧ t.vm.findClass C = some ce.cls ∧ t.vm.classes[ce.cls]? = some k ∧ post M1 ∧ z_ok g M1 t.heap ∧ z_K g t ∧ va_F g.A st t ∧ st.WarmedH t.vm ∧ st.sameButNew ({ t with vm := st.vm } : State) L (g.KC - zsz M) (g.KS - zsl M) ∧ ∀ q ∈ L, g.A q.base)
set_option maxHeartbeats 1000000 in
theorem zX_of {g : zg} {d : Nat} {y : zm} {av : List Value} {M : zM} {C : String} {post : zM → Prop} {lv : List (Nat × Value)} (hy : zmok y) (hc1 : ∀ v ∈ av, v.category = 1) (hlen : av.length ≤ y.2.2.1) (hlv : zlv 0 av = lv)
    (h : zG g d y (fun r M1 => r = .inr C ∧ post M1) M 0 lv []) : zX g d y av M C post := by
  unfold zX
  refine MetFree.of_bodyS (code := y.2.1) (maxLocals := y.2.2.1) (ret := y.2.2.2) hy.1 ?_ ?_
  · intro args s m h hn
    obtain ⟨meth, c, h1, h2, h3, h4, h5, h6, -, -⟩ := Cond.code_spec hn (atoms_spec (ws := .code y.1 y.2.1 y.2.2.1 y.2.2.2 :: zCW) h _ List.mem_cons_self)
    exact ⟨meth, c, h1, h2, h3, h4, h5, h6⟩
  · intro p e s m args below meth c s₁ B hml hv _
    obtain ⟨rfl, hM, hK, hA⟩ := hv
    have hts := atoms_spec (ws := .code y.1 y.2.1 y.2.2.1 y.2.2.2 :: zCW) B.pre
    have hl := lv_entry av (n := y.2.2.1) (by rw [zlv_len av hc1]; exact hlen)
    have hh0 : s₁.heap = s.heap := by rw [B.state]; rfl
    have hsz : s.heap.size = zsz M := hM.1.1
    have hzt : zt s.heap = zsl M := hM.1.2.1
    have hkc := hM.1.2.2.1
    have hks := hM.1.2.2.2
    generalize hls : (lg_sl av ++ List.replicate (y.2.2.1 - (lg_sl av).length) Slot.unset).toArray = ls at hl
    rw [zlv_eq av 0 hc1, hlv] at hl
    have hne := B.noHandlers (hts _ List.mem_cons_self)
    have he : c.exceptionTable.toList = [] := by
      have h0 : c.exceptionTable = #[] := by simpa using hne
      rw [h0]
    have w := h p e (headSpec (.code y.1 y.2.1 y.2.2.1 y.2.2.2 :: zCW) { frames := d, cells := g.KC - zsz M, slots := g.KS - zsl M, locals := 60 * d + 12 }).room s m av.toArray below meth c
      (fun t => ∃ o, t.status = .running ∧ Ended t below o ∧ ∃ (a : Addr) (ce : Cell) (k : Class) (M1 : zM) (L : List Loc), o = .threw a ∧ t.heap[a]? = some ce ∧ ce.vm = .none ∧ t.vm.findClass C = some ce.cls ∧ t.vm.classes[ce.cls]? = some k ∧ post M1 ∧ z_ok g M1 t.heap ∧ z_K g t ∧ va_F g.A s t ∧ s.WarmedH t.vm ∧ s.sameButNew ({ t with vm := s.vm } : State) L (g.KC - zsz M) (g.KS - zsl M) ∧ ∀ q ∈ L, g.A q.base) s.heap [] ls
      ⟨⟨B.exec, B.bytes, hml, findClass_of_methodNamed B.named, fun w hw => hts w (List.mem_cons_of_mem _ hw), B.notSynchronized, (name_of_methodNamed B.named B.method).1, B.returns, by rw [hy.2.2, he]; rfl⟩, hK, ⟨Nat.le_refl _, Nat.le_refl _, by show g.KC ≤ (g.KC - zsz M) + s.heap.size; omega, by show g.KS ≤ (g.KS - zsl M) + zt s.heap; omega⟩, hA, ?_⟩ hM va_S.rf hl (Nat.le_refl _)
    · obtain ⟨t, a1, o, b1, b2, b3⟩ := (W.cs (cells := 0) (slots := 0) (by omega) (by omega) w) s₁ hh0 (Stand.of_body B)
      refine ⟨t, o, ?_, b1, b2, b3⟩
      rw [lg_entry_eq, hls]
      exact a1
    · intro t o r M1 L hrun hend hW hsame hL ho hp hM1 hF
      obtain ⟨rfl, hp⟩ := hp
      obtain ⟨a, ce, k, q1, q2, q3, q4, q5⟩ := ho
      have h1 := hM1.1.1
      have h2 := hM1.1.2.1
      have h3 := hM1.1.2.2.1
      have h4 := hM1.1.2.2.2
      exact ⟨o, hrun, hend, a, ce, k, M1, L, q1, q2, q3, q4, q5, hp, hM1, zK_moved hW hF.2 hK, hF, hW, hsame.mono (by omega) (by omega), hL⟩
