/-! A CALL THAT THROWS, AND IS CAUGHT -/
set_option maxHeartbeats 2000000 in
theorem zi_catchV {g : zg} {d d1 : Nat} {y y1 : zm} {post : zR → zM → Prop} {M : zM} {pc hpc : Nat} {lv : List (Nat × Value)} {st As : List Value} {post1 : zM → Prop} {i n ci b N : Nat} {T0 : u_T} {C : String} {Cs : List String}
    (hE : zX g d1 y1 (va_rf (some b) :: As) M C post1) (hw : z_mw y1 n) (hlk : Cond.methodLink y.1.cls i y1.1 ∈ zCW) (him : Cond.instanceMethod y1.1 ∈ zCW) (hsel : Cond.selects y1.1.cls y1.1 y1.1 ∈ zCW) (hd1 : d1 + 1 ≤ d) (hs : zsh M b = some (.inl ci)) (hcl : zcl[ci]? = some (y1.1.cls, T0, N)) (hn : As.length = n) (hst : st.length ≤ 4)
    (hC : C ∈ zXN) (hfd : zfd y.1.cls pc C (zhd y.1) Cs = some hpc) (hfw : zfw y.1.cls (zhd y.1) Cs) (hd : decode y.2.1 pc = .ok (.invokevirtual i, 3)) (kk : ∀ (a : Nat) (M1 : zM), post1 M1 → zG g d y post M1 hpc lv [va_rf (some a)]) : zG g d y post M pc lv (As.reverse ++ va_rf (some b) :: st) := by
  intro p e R s m args below meth c Q H locs ls hc hM hS hl hz
  have hts := hc.1.2.2.2.2.1
  have hwt := z_weight st
  have hsz : H.size = zsz M := hM.1.1
  have hzt := hM.1.2.1
  have hkc := hM.1.2.2.1
  have hks := hM.1.2.2.2
  have a1 := hc.2.2.1.1
  have a2 := hc.2.2.1.2.1
  have hrc := hc.2.2.1.2.2.1
  have hrs := hc.2.2.1.2.2.2
  have hS1 := hS.1
  have hmax := hw.2.2.2
  obtain ⟨cellB, hcB, hoB, hclB⟩ := va_recv hc.2.1.1 (z_one hM hs) hcl (q0 := 0) rfl
  intro T hT X
  have hpl : e.platform.magicAccessors = ({} : Platform).magicAccessors := by rw [X.admits.platform]
  have hcode := hts _ hw.1
  have hy := hw.2.2.1
  obtain ⟨mk, methM, hnamed, hmethM, hstM, habM⟩ := Cond.instanceMethod_spec (hts _ him)
  obtain ⟨methM', cM, hmethM', hcodeM, -, hlocM, -, -, -, hsigM⟩ := Cond.code_spec hnamed hcode
  cases hmethM.symm.trans hmethM'
  obtain ⟨c2, r2, m2, q1, q2, q3, q4, kP, hkP, hkPi⟩ := Cond.selects_spec (hts _ hsel)
  cases hclB.symm.trans q1
  cases (State.methodFound?_of_named hnamed ⟨hy.1, hy.2.1⟩).symm.trans q2
  cases hnamed.symm.trans q3
  have hselP : selectMethod e.platform s.vm cellB.cls mk = .method mk := by rw [Launch.admits_selectMethod X.admits]; exact q4
  have hlenA : As.length = methM.sig.parameters.length := by
    have h2 := hy.2.2
    rw [hsigM] at h2
    rw [hn]
    exact (Option.some.inj h2).symm
  obtain ⟨vm₁, X₁, hstep₁⟩ := X.invokevirtual hc.1.1 hc.1.2.2.2.1 (hts _ hlk) hnamed hmethM hstM hkP hkPi ⟨hy.1, hy.2.1⟩ (a := b) (cell := cellB) (by rw [hT]; exact hcB) (fun z h => by rw [h] at hoB; cases hoB) hselP hmethM habM hkP hkPi (g := F0 m pc ls (As.reverse ++ va_rf (some b) :: st)) rfl (argsL := As) (rest := st) hlenA rfl (by rw [hc.1.2.1]; exact hd)
  generalize hU : T.setVm vm₁ = U at X₁ hstep₁
  have hUh : U.heap = H := by rw [← hU]; exact hT
  have hgg : ({ F0 m pc ls (As.reverse ++ va_rf (some b) :: st) with stack := st } : JFrame) = F0 m pc ls st := rfl
  rw [hgg] at hstep₁
  have hnamedU : U.methodNamed? y1.1 = some mk := X₁.named hnamed
  have hcodeU : (Cond.code y1.1 y1.2.1 y1.2.2.1 y1.2.2.2).before (Value.ref b :: As).toArray U = true := word_at X₁.warmed (Or.inl rfl) hcode
  have hiniU : (Cond.initialized y1.1.cls).before (Value.ref b :: As).toArray U = true := word_at X₁.warmed (Or.inl (by first | rfl | simp [Cond.onTables, Cond.keeps, Cond.steady])) (hts _ hw.2.1)
  obtain ⟨methY, cY, hmY, hcY, -, hlY, -, -, -, -⟩ := Cond.code_spec hnamedU hcodeU
  obtain ⟨kY, hkY, -⟩ := className_of_methodNamed hnamedU
  have hinitY : kY.init = .initialized := Cond.initialized_spec (findClass_of_methodNamed hnamedU) hkY hiniU
  have h : At U (F0 m pc ls st).method c below := X₁.here
  have hdU : decode c.code (F0 m pc ls st).pc = .ok (.invokevirtual i, 3) := by rw [hc.1.2.1]; exact hd
  have hpreU : (headSpec (.code y1.1 y1.2.1 y1.2.2.1 y1.2.2.2 :: zCW) { frames := d1, cells := g.KC - zsz M, slots := g.KS - zsl M, locals := 60 * d1 + 12 }).pre.before (Value.ref b :: As).toArray U = true := by
    refine atoms_intro fun w hwm => ?_
    rcases List.mem_cons.mp hwm with rfl | hwm
    · exact hcodeU
    · exact word_at X₁.warmed (zCW_good w hwm) (hts w hwm)
  have happ := Spec.appliesLoose_calling (S := headSpec (.code y1.1 y1.2.1 y1.2.2.1 y1.2.2.2 :: zCW) { frames := d1, cells := g.KC - zsz M, slots := g.KS - zsl M, locals := 60 * d1 + 12 }) (g := F0 m pc ls st) h hdU hnamedU hkY hinitY
    (X₁.room_calling (g := F0 m pc ls st) (R' := { frames := d1, cells := g.KC - zsz M, slots := g.KS - zsl M, locals := 60 * d1 + 12 }) (hl.1.trans hc.1.2.2.1.symm) hmY hcY (by show d1 + 1 ≤ R.frames; omega) (by rw [hlY]; show 2 * 0 + (st.map fun v => v.category).sum + (y1.2.2.1 + 11) + (60 * d1 + 12) ≤ R.locals; omega) (by show _ + (g.KC - zsz M) ≤ R.cells; omega) (by show _ + (g.KS - zsl M) ≤ R.slots; omega)) hpreU
  obtain ⟨mid, hmid⟩ := h.above
  have hfr : (U.setTop (F0 m pc ls st)).frames = (.java (F0 m pc ls st) :: mid) ++ below := by rw [State.frames_setTop' (F0 m pc ls st) h.top, hmid]; rfl
  obtain ⟨o, s₂, hsteps, -, hend, hq⟩ := Steps.callFree hE p X.admits X.cas X.clock (acts := []) hfr happ
    ⟨rfl, by show z_ok g M U.heap; rw [hUh]; exact hM, zK_moved (u := s) (U := U.calling (F0 m pc ls st) mk (Value.ref b :: As).toArray) X₁.warmed (fun q h1 h2 => by show U.heap[q]? = _; rw [hUh]; exact hS.2.1 q h1 h2) hc.2.1, fun q hq => hc.2.2.2.1 q (by have hq' : U.heap.size ≤ q := hq; rw [hUh] at hq'; omega)⟩ trivial
  rw [State.frames_setTop' (F0 m pc ls st) h.top] at hend
  obtain ⟨ax, ce, k, M1, L, ho, hce, hcev, hcec, hcek, hp1, hM1, hK1, hF1, hW₂, hsame2, hL2⟩ := hq
  subst ho
  have hf₂ : s₂.frames = .throwing ax :: .java (F0 m pc ls st) :: U.frames.tail := hend
  obtain ⟨e2, p2, p3, p4, p5, p6⟩ := hsame2
  have e3 : s₂ = ({ (U.calling (F0 m pc ls st) mk (Value.ref b :: As).toArray).setFrames s₂.frames with heap := s₂.heap, slotsUsed := s₂.slotsUsed } : State).setVm s₂.vm := by
    have : s₂ = ({ s₂ with vm := (U.calling (F0 m pc ls st) mk (Value.ref b :: As).toArray).vm } : State).setVm s₂.vm := rfl
    have e2' : ({ s₂ with vm := (U.calling (F0 m pc ls st) mk (Value.ref b :: As).toArray).vm } : State) = { (U.calling (F0 m pc ls st) mk (Value.ref b :: As).toArray).setFrames s₂.frames with heap := s₂.heap, slotsUsed := s₂.slotsUsed } := e2
    rw [e2'] at this
    exact this
  have hW' : U.WarmedH s₂.vm := hW₂
  obtain ⟨g₀, hg0⟩ := Option.isSome_iff_exists.mp h.top
  obtain ⟨r, hr⟩ := State.topJava?_eq_some.mp hg0
  have hr' : (({ U with heap := s₂.heap, slotsUsed := s₂.slotsUsed } : State).setVm s₂.vm).frames = .java g₀ :: r := hr
  have hs₂ : s₂ = ((({ U with heap := s₂.heap, slotsUsed := s₂.slotsUsed } : State).setVm s₂.vm).setTop (F0 m pc ls st)).pushFrame (.throwing ax) := by
    refine e3.trans ?_
    rw [hf₂, State.calling_eq h.top, State.setFrames_setFrames, State.pushFrame, State.frames_setTop _ hr', State.setTop_of_frames _ hr', State.setFrames_setFrames, hr]
    rfl
  have hsameU : U.sameButNew ({ U with heap := s₂.heap, slotsUsed := s₂.slotsUsed } : State) L (g.KC - zsz M) (g.KS - zsl M) := by
    refine ⟨?_, p2, p3, p4, p5, p6⟩
    obtain ⟨t, ht, -⟩ := State.frames_cons hr
    show ({ U with heap := s₂.heap, slotsUsed := s₂.slotsUsed } : State) = { U.setFrames U.frames with heap := s₂.heap, slotsUsed := s₂.slotsUsed }
    rw [State.setFrames_self ht]
  have X' : Stand p g.l e R s m args below meth c (({ U with heap := s₂.heap, slotsUsed := s₂.slotsUsed } : State).setVm s₂.vm) (locs ++ L) _ _ :=
    ⟨X₁.admits, X₁.cas, X₁.clock, X₁.frames, X₁.room, X₁.hears, X₁.method, X₁.code, (X₁.here.setHeapUsed s₂.heap s₂.slotsUsed).setVm hW'.alike, X₁.tail, State.WarmedH.trans X₁.warmed hW', X₁.limits, X₁.bytes, X₁.same.trans (hsameU.setVm s.vm)⟩
  generalize hT' : (({ U with heap := s₂.heap, slotsUsed := s₂.slotsUsed } : State).setVm s₂.vm) = T' at hs₂ X'
  have hT'h : T'.heap = s₂.heap := by rw [← hT']; rfl
  have hT'v : T'.vm = s₂.vm := by rw [← hT']; rfl
  have hmT : T'.vm.method? m = some meth := X'.method'
  have hxt : c.exceptionTable.toList.map (fun h => (h.startPc, h.endPc, h.handlerPc, h.catchType)) = zhd y.1 := hc.1.2.2.2.2.2.2.2.2
  have halT : s.vm.Alike T'.vm := X'.warmed.alike
  have hcls0 : s.vm.findClass C = some ce.cls := by rw [← halT.findClass, hT'v]; exact hcec
  obtain ⟨kc, hkc', -⟩ := halT.symm.2.2 ce.cls k (by rw [hT'v]; exact hcek)
  obtain ⟨vm', hv1, hv2⟩ := z_search (g := g) (own := y.1.cls) (C := C) (e := e) (s := s) (args := args) (f := F0 m pc ls st) (a := ax) (cell := ce) (kc := kc) (hpc := hpc) hpl hc.1.2.2.2.1 hts hc.2.1.2.2.2.1 hC hcls0 hkc' (fun z hz2 => by rw [hcev] at hz2; cases hz2)
    c.exceptionTable.toList Cs ((T'.setTop (F0 m pc ls st)).pushFrame (.throwing ax)) (by rw [Stand.throwing_vm]; exact X'.warmed) (by rw [Stand.throwing_heap, hT'h]; exact hce) (by rw [hxt]; exact hfd) (by rw [hxt]; exact hfw)
  have X2 : Stand p g.l e R s m args below meth c (T'.setVm vm') (locs ++ L) _ _ := X'.noted hv1
  have hS' : va_S g.A s.heap (T'.setVm vm').heap (locs ++ L) := by
    refine ⟨?_, fun q h1 h2 => ?_, fun q hq => ?_⟩
    · show s.heap.size ≤ T'.heap.size
      rw [hT'h]
      exact Nat.le_trans hS1 (by rw [← hUh]; exact hF1.1)
    · show T'.heap[q]? = _
      rw [hT'h, hF1.2 q (by show q < U.heap.size; rw [hUh]; omega) h2]
      show U.heap[q]? = _
      rw [hUh]
      exact hS.2.1 q h1 h2
    · rcases List.mem_append.mp hq with h | h
      · exact hS.2.2 q h
      · exact hL2 q h
  obtain ⟨t2, b1, b2⟩ := z_tight (kk ax M1 hp1 p e R s m args below meth c Q (T'.setVm vm').heap (locs ++ L) ls hc (by show z_ok g M1 T'.heap; rw [hT'h]; exact hM1) hS' hl) (T'.setVm vm') rfl X2
  refine ⟨t2, hstep₁ _ (fun acts => ?_), b2⟩
  rw [doInvoke_state]
  refine Steps.trans hsteps ?_
  rw [hs₂]
  refine z_caught X' ax (g := F0 m pc ls st) rfl (hpc := hpc) (vm' := vm') (fun Q2 E2 d2 acts2 => ?_) b1
  rw [W.findHandler_eq (by rw [Stand.throwing_vm]; exact hmT) X'.code]
  exact hv2 Q2 E2 d2 acts2
