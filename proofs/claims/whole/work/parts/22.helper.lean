/-! METHODS WITH HANDLERS: their contracts, and calls of them (the law's own static methods) -/
def zEW (g : zg) (d : Nat) (y : zm) (av : List Value) (M : zM) (post : Int32 → zM → Prop) : Prop :=
  Met g.l y.1 (.codeWith y.1 y.2.1 y.2.2.1 y.2.2.2 (zhd y.1) :: zCW) { frames := d, cells := g.KC - zsz M, slots := g.KS - zsl M, locals := 60 * d + 12 } (va_Pc av (fun U => z_ok g M U.heap ∧ z_K g U ∧ ∀ q : Nat, U.heap.size ≤ q → g.A q))
    (fun _ st o t => (∃ (v : Option Value) (M1 : zM), o = .returned v ∧ (∃ r : Int32, v = some (.int r) ∧ post r M1) ∧ z_ok g M1 t.heap ∧ z_K g t) ∧ va_F g.A st t) (g.KC - zsz M) (g.KS - zsl M) g.A
set_option maxHeartbeats 1000000 in
theorem zEW_of {g : zg} {d : Nat} {y : zm} {av : List Value} {M : zM} {post : Int32 → zM → Prop} {lv : List (Nat × Value)} (hy : plainName y.1.cls = true) (hc1 : ∀ v ∈ av, v.category = 1) (hlen : av.length ≤ y.2.2.1) (hlv : zlv 0 av = lv)
    (h : zG g d y (zPi post) M 0 lv []) : zEW g d y av M post := by
  unfold zEW
  refine va_MetW (cc := y.2.1) (maxL := y.2.2.1) (ret := y.2.2.2) (hh := zhd y.1) hy rfl ?_
  intro p e s m args below meth c s₁ B hml hv
  obtain ⟨rfl, hM, hK, hA⟩ := hv
  have hts := atoms_spec (ws := .codeWith y.1 y.2.1 y.2.2.1 y.2.2.2 (zhd y.1) :: zCW) B.pre
  have hl := lv_entry av (n := y.2.2.1) (by rw [zlv_len av hc1]; exact hlen)
  rw [lg_entry_eq]
  generalize (lg_sl av ++ List.replicate (y.2.2.1 - (lg_sl av).length) Slot.unset).toArray = ls at hl ⊢
  rw [zlv_eq av 0 hc1, hlv] at hl
  have hsz : s.heap.size = zsz M := hM.1.1
  have hzt : zt s.heap = zsl M := hM.1.2.1
  have hkc := hM.1.2.2.1
  have hks := hM.1.2.2.2
  have htab : c.exceptionTable.toList.map (fun h => (h.startPc, h.endPc, h.handlerPc, h.catchType)) = zhd y.1 := by
    obtain ⟨m9, meth9, c9, hn9, h1, h2, h3, h4, h5, h6, h7, -⟩ := Cond.codeWith_spec (hts _ List.mem_cons_self)
    cases B.named.symm.trans hn9
    cases B.method.symm.trans h1
    cases (Stand.of_body B).code.symm.trans h2
    exact h5
  have w := h p e (headSpec (.codeWith y.1 y.2.1 y.2.2.1 y.2.2.2 (zhd y.1) :: zCW) { frames := d, cells := g.KC - zsz M, slots := g.KS - zsl M, locals := 60 * d + 12 }).room s m av.toArray below meth c
    (MQ below (fun _ st o t => (∃ (v : Option Value) (M1 : zM), o = .returned v ∧ (∃ r : Int32, v = some (.int r) ∧ post r M1) ∧ z_ok g M1 t.heap ∧ z_K g t) ∧ va_F g.A st t) av.toArray s (g.KC - zsz M) (g.KS - zsl M) g.A) s.heap [] ls
    ⟨⟨B.exec, B.bytes, hml, findClass_of_methodNamed B.named, fun w hw => hts w (List.mem_cons_of_mem _ hw), B.notSynchronized, (name_of_methodNamed B.named B.method).1, B.returns, htab⟩, hK, ⟨Nat.le_refl _, Nat.le_refl _, by show g.KC ≤ (g.KC - zsz M) + s.heap.size; omega, by show g.KS ≤ (g.KS - zsl M) + zt s.heap; omega⟩, hA, ?_⟩ hM va_S.rf hl (Nat.le_refl _)
  · exact W.cs (by omega) (by omega) w
  · intro t o r M1 L hrun hend hW hsame hL ho hp hM1 hF
    obtain ⟨x, rfl, hp⟩ := hp
    refine ⟨o, hrun, hend, ⟨⟨_, M1, ho, ⟨x, rfl, hp⟩, hM1, zK_moved hW hF.2 hK⟩, hF⟩, L, ⟨⟨_, ho⟩, hW, ?_⟩, hL⟩
    have h1 := hM1.1.1
    have h2 := hM1.1.2.1
    have h3 := hM1.1.2.2.1
    have h4 := hM1.1.2.2.2
    exact hsame.mono (by omega) (by omega)
set_option maxHeartbeats 1000000 in
theorem zi_callSW {g : zg} {d d1 : Nat} {y y1 : zm} {post : zR → zM → Prop} {M : zM} {pc : Nat} {lv : List (Nat × Value)} {st As : List Value} {post1 : Int32 → zM → Prop} {i n : Nat} (hE : zEW g d1 y1 As M post1) (hcw : Cond.codeWith y1.1 y1.2.1 y1.2.2.1 y1.2.2.2 (zhd y1.1) ∈ zCW) (hini : Cond.initialized y1.1.cls ∈ zCW) (hy : y1.1.cls ≠ "java/lang/invoke/MethodHandle" ∧ y1.1.cls ≠ "java/lang/invoke/VarHandle" ∧ (parseMethodDescriptor y1.1.desc).map (fun d => d.parameters.length) = some n) (hmax : y1.2.2.1 ≤ 40)
    (hlk : Cond.methodLink y.1.cls i y1.1 ∈ zCW) (hstt : Cond.static y1.1 ∈ zCW) (hd1 : d1 + 1 ≤ d) (hn : As.length = n) (hst : st.length ≤ 4) (hd : decode y.2.1 pc = .ok (.invokestatic i, 3)) (kk : ∀ (r : Int32) (M1 : zM), post1 r M1 → zG g d y post M1 (pc + 3) lv (.int r :: st)) : zG g d y post M pc lv (As.reverse ++ st) := by
  intro p e R s m args below meth c Q H locs ls hc hM hS hl hz
  have hts := hc.1.2.2.2.2.1
  have hwt := z_weight st
  have hsz : H.size = zsz M := hM.1.1
  have hzt := hM.1.2.1
  have hkc := hM.1.2.2.1
  have hks := hM.1.2.2.2
  have a1 := hc.2.2.1.1
  have a2 := hc.2.2.1.2.1
  have hrc := hc.2.2.1.2.2.1
  have hrs := hc.2.2.1.2.2.2
  have hS1 := hS.1
  refine z_after hc hS hl (mc := g.KC - zsz M) (ms := g.KS - zsl M) (rest := st) (post1 := fun v M1 => ∃ r : Int32, v = some (.int r) ∧ post1 r M1) ?_ (fun v M1 hv => by obtain ⟨r, rfl, hv⟩ := hv; exact kk r M1 hv)
  have hB : Back g.l R p e below s args y1.1 3 8 (PreOf R (g.KC - zsz M) (g.KS - zsl M) _) (PostOf _ (g.KC - zsz M) (g.KS - zsl M) g.A) :=
    va_backW (hh := zhd y1.1) (bytes := y1.2.1) (maxL := y1.2.2.1) (ret := y1.2.2.2) hE (z_blind _) rfl rfl (by show d1 + 1 ≤ R.frames; omega) (by show 8 + (y1.2.2.1 + 11) + (60 * d1 + 12) ≤ R.locals; omega)
      (fun w hwm a' U hW => by
        rcases List.mem_cons.mp hwm with rfl | hwm
        · exact word_at hW (zCW_good _ hcw) (hts _ hcw)
        · exact word_at hW (zCW_good w hwm) (hts w hwm)) List.mem_cons_self (fun a' U hW => word_at hW (zCW_good _ hini) (hts _ hini))
  intro T hT X
  obtain ⟨mk, methM, cM, hnamed, hmethM, -, -, -, -, -, -, hsigM⟩ := Cond.codeWith_spec (hts _ hcw)
  have hstatic : methM.isStatic = true := Cond.static_spec hnamed hmethM (hts _ hstt)
  obtain ⟨kP, hkP, -⟩ := className_of_methodNamed hnamed
  have hinitP : kP.init = .initialized := Cond.initialized_spec (findClass_of_methodNamed hnamed) hkP (hts _ hini)
  have hlenA : As.length = methM.sig.parameters.length := by
    have h2 := hy.2.2
    rw [hsigM] at h2
    rw [hn]
    exact (Option.some.inj h2).symm
  obtain ⟨vm₁, X₁, hstep₁⟩ := X.invokestatic hc.1.1 hc.1.2.2.2.1 (hts _ hlk) hnamed hmethM hstatic hkP hinitP ⟨hy.1, hy.2.1⟩ (g := F0 m pc ls (As.reverse ++ st)) rfl (argsL := As) (rest := st) hlenA rfl (by rw [hc.1.2.1]; exact hd)
  obtain ⟨v, ⟨U', l2, c2, s2⟩, X', ⟨g', mk', t, L, e1, e2, hq, h1, hL, h2, h3⟩, hsteps⟩ := hB m meth c ⟨T.setVm vm₁, locs, H.size - s.heap.size, zt H - zt s.heap⟩ { F0 m pc ls (As.reverse ++ st) with stack := st } (.invokestatic i) mk As.toArray X₁ rfl (hl.1.trans hc.1.2.2.1.symm) (by rw [hc.1.2.1]; exact hd) (by show 2 * 0 + (st.map fun v => v.category).sum ≤ 8; omega) (X₁.named hnamed)
    ⟨by show (H.size - s.heap.size) + (g.KC - zsz M) ≤ R.cells; omega, by show (zt H - zt s.heap) + (g.KS - zsl M) ≤ R.slots; omega, rfl, by show z_ok g M T.heap; rw [hT]; exact hM, zK_moved X₁.warmed (fun q h1 h2 => by show T.heap[q]? = _; rw [hT]; exact hS.2.1 q h1 h2) hc.2.1, fun q hq => hc.2.2.2.1 q (by have hq' : T.heap.size ≤ q := hq; rw [hT] at hq'; omega)⟩
  dsimp only [Pt.U, Pt.locs, Pt.cells, Pt.slots] at X' e1 e2 h1 h2 h3 hsteps
  subst h1; subst h2; subst h3
  exact ⟨v, (T.setVm vm₁).calling g' mk' As.toArray, t, U', L, hT, X', hL, e1, e2, hq, fun target h => hstep₁ _ fun acts => by rw [doInvoke_state]; exact hsteps.trans h⟩
