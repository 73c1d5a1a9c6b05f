/-! THROWING: from 'invokespecial X.<init>(String)' to the end 'X was thrown', the heap told exactly; the first constructor of the chain of any pool number -/
set_option maxHeartbeats 2000000 in
theorem z_ctorThrow {p : Program} {l : Launch} {e : Env} {R : Room} {s : State} {m₀ : MethodId} {args : Array Value} {below : List Frame} {meth : Method} {c : Code} {W : State} {locs : List Loc} {cells slots : Nat}
    (X : Stand p l e R s m₀ args below meth c W locs cells slots) (hexec : p.tables.exec = Jvm.exec) (htr : e.platform.stackTraces = false) {own cls nx : String} {names : List String} {ic i1 : Nat} {b1 : ByteArray}
    (hown : s.vm.findClass own = some m₀.cls) (hcls : Bundle.fit cls = true) (hnx : Bundle.fit nx = true) (hnames : ∀ n ∈ names, Bundle.fit n = true)
    (k0 : decode b1 0 = .ok (.aload_n 0, 1)) (k1 : decode b1 1 = .ok (.aload_n 1, 1)) (k2 : decode b1 2 = .ok (.invokespecial i1, 3)) (k5 : decode b1 5 = .ok (.return_, 1))
    (hT : ∀ w ∈ Bundle.throwableAtoms, w.before args s = true) (hTS : ∀ w ∈ Bundle.throwableSAtoms, w.before args s = true) (hP : ∀ w ∈ Bundle.passSAtoms cls nx i1 b1, w.before args s = true) (hCh : ∀ w ∈ Bundle.chainSAtoms nx names, w.before args s = true)
    (o1 : (Cond.methodLink own ic (Bundle.initS cls)).before args s = true) (o2 : (Cond.instantiable cls 6).before args s = true) (o4 : (Cond.selects cls Bundle.tFill0 Bundle.tFill0).before args s = true) (o5 : (Cond.selects cls Bundle.tFill Bundle.tFill).before args s = true)
    (o6 : (Cond.lays cls Bundle.tN "cause" "Ljava/lang/Throwable;").before args s = true) (o7 : (Cond.lays cls Bundle.tN "stackTrace" Bundle.steD).before args s = true) (o8 : (Cond.lays cls Bundle.tN "suppressedExceptions" Bundle.listD).before args s = true) (o9 : (Cond.lays cls Bundle.tN "detailMessage" "Ljava/lang/String;").before args s = true)
    (o10 : (Cond.isRef (.static Bundle.tN "UNASSIGNED_STACK" Bundle.steD)).before args s = true) (o11 : (Cond.isRef (.static Bundle.tN "SUPPRESSED_SENTINEL" Bundle.listD)).before args s = true)
    (o12 : (Cond.fieldLink Bundle.tN 198 Bundle.tN "backtrace" "Ljava/lang/Object;").before args s = true) (o13 : (Cond.lays Bundle.tN Bundle.tN "backtrace" "Ljava/lang/Object;").before args s = true) (o14 : (Cond.lays cls Bundle.tN "backtrace" "Ljava/lang/Object;").before args s = true)
    (hlocs : ∀ (c : ClassId) (k : Class) (i : Nat) (f : Field) (a : Addr), s.fieldFound? Bundle.tN "UNASSIGNED_STACK" Bundle.steD = some (c, k, i, f) → k.statics = some a → ∀ x ∈ locs, x.base ≠ a)
    {a : Addr} {cX : ClassId} {kX : Class} (hfoundX : s.vm.findClass cls = some cX) (hkX : s.vm.classes[cX]? = some kX) (hcell : W.heap[a]? = some (freshCell cX kX)) (hnew : s.heap.size ≤ a)
    {msg : Value} (hmsg : msg.isRef = true)
    {g : JFrame} (hg : g.method = m₀) (hsize : g.locals.size = c.maxLocals) (hlocked : g.locked = none) (hentered : g.entered = []) {rest : List Value} (hstack : g.stack = msg :: .ref a :: .ref a :: rest)
    (hd6 : decode c.code g.pc = .ok (.invokespecial ic, 3)) (hd9 : decode c.code (g.pc + 3) = .ok (.athrow, 1)) (hout : ∀ x ∈ c.exceptionTable.toList, covers x (g.pc + 3) = false)
    (hRframes : names.length + 4 < R.frames) (hRlocals : 2 * g.monitorRoom + ((Value.ref a :: rest).map fun v => v.category).sum + (13 * (names.length + 2) + 42) ≤ R.locals) (hlocks : meth.locks = false) :
    ∃ (U : State) (ce : Cell) (L : List Loc), Steps p.tables e below (W.setTop g) U ∧ U.status = .running ∧ Ended U below (.threw a) ∧ s.WarmedH U.vm ∧ s.sameButNew ({ U with vm := s.vm } : State) (locs ++ L) cells slots ∧ (∀ q ∈ L, q.base = a) ∧
      U.heap = W.heap.setIfInBounds a ce ∧ ce.cls = cX ∧ ce.vm = .none ∧ ce.slots.size = kX.instanceTypes.size := by
  have howns : e.platform.frameOwnsMonitors = true := by rw [X.admits.platform]
  have hfin : e.platform.finalization = false := by rw [X.admits.platform]
  have hpl : e.platform.magicAccessors = ({} : Platform).magicAccessors := by rw [X.admits.platform]
  obtain ⟨T, Z0, L, -, Y⟩ := ThrowableC.of_atoms (args := args) howns hfin hpl hT
  obtain ⟨Z, M, LZ, LM, hnZ⟩ := Init0T.ofS_atoms (args := args) hpl L Y hTS
  obtain ⟨P1, L1, hP1m, hP1s⟩ := PassC.ofS_atoms (args := args) (s := s) hpl (X := cls) (Y := nx) (Bundle.fit_spec hcls).1 (Bundle.fit_spec hnx).2 k0 k1 k2 k5 hP
  obtain ⟨P2, Ps, hlen, L2, hL, hP2m, hlink2, hlink⟩ := Bundle.chainS (args := args) hpl hnZ names nx hnx hnames hCh
  have hlink1 : P1.sup = P2.m := Option.some.inj (hP1s.symm.trans hP2m)
  have hfound : s.vm.findClass cls = some P1.m.cls := findClass_of_methodNamed hP1m
  cases Option.some.inj (hfoundX.symm.trans hfound)
  obtain ⟨c1, kX', hc1, hk, hord, -, -, hn6⟩ := Cond.instantiable_spec (show (Cond.instantiable cls 6).holds args s none s [] = true from o2)
  cases Option.some.inj (hc1.symm.trans hfound)
  cases Option.some.inj (hkX.symm.trans hk)
  have hsel0 : selectMethod e.platform s.vm P1.m.cls T.fill0 = .method T.fill0 := by
    obtain ⟨c2, r2, m2, q1, q2, q3, q4, -⟩ := Cond.selects_spec (show (Cond.selects cls Bundle.tFill0 Bundle.tFill0).holds args s none s [] = true from o4)
    cases Option.some.inj (q1.symm.trans hfound)
    cases Option.some.inj (q2.symm.trans (State.methodFound?_of_named Y.fill0 (by decide)))
    cases Option.some.inj (q3.symm.trans Y.fill0)
    rw [Launch.admits_selectMethod X.admits]; exact q4
  have hselF : selectMethod e.platform s.vm P1.m.cls T.fill = .method T.fill := by
    obtain ⟨c2, r2, m2, q1, q2, q3, q4, -⟩ := Cond.selects_spec (show (Cond.selects cls Bundle.tFill Bundle.tFill).holds args s none s [] = true from o5)
    cases Option.some.inj (q1.symm.trans hfound)
    cases Option.some.inj (q2.symm.trans (State.methodFound?_of_named Y.fill (by decide)))
    cases Option.some.inj (q3.symm.trans Y.fill)
    rw [Launch.admits_selectMethod X.admits]; exact q4
  obtain ⟨cellS0, hcS0, hiss⟩ := Y.statics
  obtain ⟨u0, hu0⟩ := Cond.staticRefV Y.unassigned L.unassignedStatic L.statics hcS0 hiss o10
  obtain ⟨sen, hsen⟩ := Cond.staticRefV Y.sentinel L.sentinelStatic L.statics hcS0 hiss o11
  obtain ⟨ci198, i198, fB, hk198, hg198, ha198, hsB, -, hnB, htB, hffB⟩ := Cond.ownField (t := .object "java/lang/Object") Y.found L.cls (by decide +kernel) o12 o13 e.platform hpl
  obtain ⟨cellS, hcS', heS, -, hkeep⟩ := X.same.2.2.2.2.2 T.aS cellS0 hcS0
  have hcellS : W.heap[T.aS]? = some cellS := hcS'
  have hout' : ∀ i, (⟨T.aS, i⟩ : Loc) ∉ locs := fun i hmem => hlocs _ _ _ _ _ Y.unassigned L.statics _ hmem rfl
  have hknownS : cellS.vm ≠ .unknown := by
    rw [heS]; intro hu
    rw [show cellS0.vm = .unknown from hu] at hiss
    cases hiss
  have hneS : T.aS ≠ a := Nat.ne_of_lt (Nat.lt_of_lt_of_le (Array.getElem?_eq_some_iff.mp hcS0).1 hnew)
  obtain ⟨iM, hffM⟩ := Y.msg
  obtain ⟨tyC, dC, hdC, hdnC⟩ := Cond.laysAt hfound hk Y.cause o6
  obtain ⟨tyS, dS, hdS, hdnS⟩ := Cond.laysAt hfound hk Y.stack o7
  obtain ⟨tyP, dP, hdP, hdnP⟩ := Cond.laysAt hfound hk Y.supp o8
  obtain ⟨tyM, dM, hdM, hdnM⟩ := Cond.laysAt hfound hk hffM o9
  obtain ⟨tyB, dB, hdB, hdnB⟩ := Cond.laysAt hfound hk hffB o14
  have bC := Cond.laysApart hdB hdC hdnB hdnC (by rw [hnB, Y.causeName]; decide)
  have bS := Cond.laysApart hdB hdS hdnB hdnS (by rw [hnB, Y.stackName]; decide)
  have bP := Cond.laysApart hdB hdP hdnB hdnP (by rw [hnB, Y.suppName]; decide)
  have hskip : SkipFacts T e.platform s (fun u => u) u0 ((preparedCellV T.toThrowableT (freshCell P1.m.cls kX) a u0 sen).withEntry W.cur) :=
    ⟨{ ci198 := ci198, i198 := i198, fBack := fB }, ⟨hk198, hg198, ha198, hsB⟩, by
      have := fresh_default (c := P1.m.cls) tyB
      rw [htB] at this
      simpa [preparedCellV, Cell.setSlot, Cell.withEntry, Array.getElem?_setIfInBounds, bC, bS, bP, bC.symm, bS.symm, bP.symm, defaultValue] using this, fun _ _ => rfl⟩
  obtain ⟨tm, methC, cdC, kC, vm₁, hnC, -, -, -, -, -, -, -, hW₁, st1⟩ := Steps.initColdS (tb := p.tables) (e := e) (below := below) (s := s) (U := W) X.here hexec X.warmed hpl hown (t := Bundle.initS cls) rfl rfl (Bundle.fit_spec hcls).2
    o1 (hP _ (by simp [Bundle.passSAtoms])) (bytes := b1) (maxL := 2) (hP (.code (Bundle.initS cls) b1 2 none) (by simp [Bundle.passSAtoms]))
    (f := g) hg (a := a) (msg := msg) (rest := .ref a :: rest) hstack hd6
  cases Option.some.inj (hnC.symm.trans hP1m)
  have X₁ := X.noted hW₁
  obtain ⟨vm₂, X₂, st2⟩ := X₁.ctorMessageOffV hexec (g := { g with stack := .ref a :: rest }) hg hsize T L Z LZ M LM (P1 :: P2 :: Ps)
    (fun P hP' => by
      rcases List.mem_cons.mp hP' with rfl | hP'
      · exact L1
      · rcases List.mem_cons.mp hP' with rfl | hP'
        · exact L2
        · exact hL P hP') ⟨hlink1, hlink2, hlink⟩ (u0 := u0) (sen := sen) (self := a) hmsg (cell := freshCell P1.m.cls kX) (cellS := cellS)
    hcell (fun _ => by simp) (by simp) rfl rfl hsel0 hselF hcellS hneS hknownS (by rw [hkeep _ (hout' _)]; exact hu0) (by rw [hkeep _ (hout' _)]; exact hsen)
    (Takes.of_laid hk hord tyC (by rw [Y.causeType]; rfl)) (Takes.of_laid hk hord tyS (by rw [Y.stackType]; exact fits_refV_array _ u0)) (Takes.of_laid hk hord tyP (by rw [Y.suppType]; exact fits_refV_object _ sen))
    (Takes.of_laid hk hord tyM (by rw [Y.msgType]; exact fits_refV_object _ ⟨msg, hmsg⟩)) Y.objLocals hskip htr [] hd6
    (by simp only [List.length_cons, hlen]; omega) (by simp only [List.length_cons, hlen]; exact hRlocals)
  obtain ⟨hwalk, hrun, hended, hWU, hsame⟩ := X₂.athrowLeaves hexec (g := { g with stack := .ref a :: rest, pc := g.pc + 3 }) hg hlocked hentered hout (a := a) (rest := rest) rfl hd9
  refine ⟨_, plainBareV T.toThrowableT (freshCell P1.m.cls kX) a u0 sen msg, [⟨a, T.fCause.slot⟩, ⟨a, T.fStack.slot⟩, ⟨a, T.fSupp.slot⟩, ⟨a, T.fStack.slot⟩, ⟨a, T.fMsg.slot⟩], st1 _ (fun acts => ?_), hrun, hended, hWU, hsame, ?_, rfl, rfl, rfl, ?_⟩
  · rw [doInvoke_state]
    exact st2 _ hwalk
  · intro q hq
    simp only [List.mem_cons, List.not_mem_nil, or_false] at hq
    rcases hq with rfl | rfl | rfl | rfl | rfl <;> rfl
  · simp [plainBareV, preparedCellV, Cell.setSlot]
/-- the memory with a cell more, of which nothing is told -/
def zgap (M : zM) (n : Nat) : zM := (M.1, M.2.1, M.2.2.1, M.2.2.2.1, zsz M + 1, zsl M + n)
/-- a word that making an exception C needs: one of the common words, or one of those that the tables' predicate holds -/
def zAt (C : String) (w : Cond) : Prop := w ∈ zCW ∨ w = .castable C C ∨ (∃ y ∈ zXD, w = .declares y) ∨ (∃ q ∈ zXL, w = .laysStatic Bundle.tN q.1 q.2) ∨ ∃ q ∈ zXL, w = .isRef (.static Bundle.tN q.1 q.2)
theorem zAt_before {g : zg} {C : String} (hC : C ∈ zXN) {s : State} {args : Array Value} (hts : ∀ w ∈ zCW, w.before args s = true) (hK : z_K g s) {w : Cond} (h : zAt C w) : w.before args s = true := by
  obtain ⟨h1, h2, h3, h4, h5⟩ := hK.2.2.2.1
  rcases h with h | rfl | ⟨y, hy, rfl⟩ | ⟨q, hq, rfl⟩ | ⟨q, hq, rfl⟩
  · exact hts _ h
  · exact va_Nw.use rfl (h1 C hC)
  · exact va_Nw.use rfl (h2 y hy)
  · exact zLS_lays (h4 q hq) args
  · exact zLS_ref (h4 q hq) args
/-- the words that making C needs: ic its constructor's entry in the desk's pool, i1 and b1 that constructor's own call and bytes -/
def zXC (C : String) (ic i1 : Nat) (b1 : ByteArray) : Prop :=
  (∀ w ∈ Bundle.throwableAtoms, zAt C w) ∧ (∀ w ∈ Bundle.throwableSAtoms, zAt C w) ∧ (∀ w ∈ Bundle.passSAtoms C "java/lang/RuntimeException" i1 b1, zAt C w) ∧ (∀ w ∈ Bundle.chainSAtoms "java/lang/RuntimeException" ["java/lang/Exception"], zAt C w) ∧
  (Cond.methodLink "NotationDesk" ic (Bundle.initS C) ∈ zCW ∧ Cond.instantiable C 6 ∈ zCW ∧ Cond.selects C Bundle.tFill0 Bundle.tFill0 ∈ zCW ∧ Cond.selects C Bundle.tFill Bundle.tFill ∈ zCW ∧ Cond.lays C Bundle.tN "cause" "Ljava/lang/Throwable;" ∈ zCW ∧ Cond.lays C Bundle.tN "stackTrace" Bundle.steD ∈ zCW ∧ Cond.lays C Bundle.tN "suppressedExceptions" Bundle.listD ∈ zCW ∧ Cond.lays C Bundle.tN "detailMessage" "Ljava/lang/String;" ∈ zCW ∧
  Cond.fieldLink Bundle.tN 198 Bundle.tN "backtrace" "Ljava/lang/Object;" ∈ zCW ∧ Cond.lays Bundle.tN Bundle.tN "backtrace" "Ljava/lang/Object;" ∈ zCW ∧ Cond.lays C Bundle.tN "backtrace" "Ljava/lang/Object;" ∈ zCW ∧ Cond.initialized C ∈ zCW) ∧
  (decode b1 0 = .ok (.aload_n 0, 1) ∧ decode b1 1 = .ok (.aload_n 1, 1) ∧ decode b1 2 = .ok (.invokespecial i1, 3) ∧ decode b1 5 = .ok (.return_, 1)) ∧ Bundle.fit C = true
set_option maxHeartbeats 1000000 in
theorem zi_throw {g : zg} {d : Nat} {y : zm} {post : zR → zM → Prop} {M : zM} {pc : Nat} {lv : List (Nat × Value)} {st : List Value} {i j ic i1 : Nat} {b1 : ByteArray} {C tx : String} (hfl : g.l.flags = pinnedFlags ++ [noTraceFlag]) (hC : C ∈ zXN) (hX : zXC C ic i1 b1) (hT : (j, tx) ∈ zXS) (hown : y.1.cls = "NotationDesk") (hh : zhd y.1 = [])
    (hw : Cond.classLink "NotationDesk" i C ∈ zCW) (hr : zsz M + 1 ≤ g.KC ∧ zsl M + 6 ≤ g.KS) (hd0 : 6 ≤ d) (hst : st.length ≤ 4)
    (d1 : decode y.2.1 pc = .ok (.new i, 3)) (d2 : decode y.2.1 (pc + 3) = .ok (.dup, 1)) (d3 : decode y.2.1 (pc + 4) = .ok (.ldc j, 2)) (d4 : decode y.2.1 (pc + 6) = .ok (.invokespecial ic, 3)) (d5 : decode y.2.1 (pc + 9) = .ok (.athrow, 1))
    (hp : post (.inr C) (zgap M 6)) : zG g d y post M pc lv st := by
  intro p e R s m args below meth c Q H locs ls hc hM hS hl hz
  have hts := hc.1.2.2.2.2.1
  have hsz : H.size = zsz M := hM.1.1
  have hzt := hM.1.2.1
  have a1 := hc.2.2.1.1
  have a2 := hc.2.2.1.2.1
  have hrc := hc.2.2.1.2.2.1
  have hrs := hc.2.2.1.2.2.2
  have hS1 := hS.1
  have hr2 := hr.2
  have hwt := z_weight st
  obtain ⟨x1, x2, x3, x4, ⟨o1, o2, o4, o5, o6, o7, o8, o9, o12, o13, o14, o15⟩, ⟨k0, k1, k2, k5⟩, hfit⟩ := hX
  have hb := fun {w : Cond} (h : zAt C w) => zAt_before (args := args) hC hts hc.2.1 h
  refine W.newc hc.1.1 hc.1.2.1 hc.1.2.2.2.1 (by rw [hown]; exact hts _ hw) (hts _ o2) (hts _ o15) rfl d1 (by omega) (by omega) fun cC kC h1 h2 h3 h4 => ?_
  refine lv_dup hc.1.1 hc.1.2.1 d2 rfl ?_
  obtain ⟨q, hq⟩ := hc.2.1.2.2.2.1.2.2.1 (j, tx) hT
  refine va_ldcS (own := "NotationDesk") (tx := tx) (q := q) hc.1.1 hc.1.2.1 (by rw [← hown]; exact hc.1.2.2.2.1) hq d3 ?_
  intro T hT0 X
  have hX3 : c.exceptionTable.toList = [] := by
    have := hc.1.2.2.2.2.2.2.2.2
    rw [hh] at this
    exact List.map_eq_nil_iff.mp this
  have hcell : T.heap[H.size]? = some (freshCell cC kC) := by rw [hT0]; simp [freshCell]
  obtain ⟨U, ce, L, st1, hrun, hend, hWU, hsame, hLb, hUh, hce1, hce2, hce3⟩ := z_ctorThrow X hc.1.1 (Launch.traces_off hfl X.admits) (own := "NotationDesk") (cls := C) (nx := "java/lang/RuntimeException") (names := ["java/lang/Exception"]) (ic := ic) (i1 := i1) (b1 := b1)
    (by rw [← hown]; exact hc.1.2.2.2.1) hfit (by decide) (by decide) k0 k1 k2 k5 (fun w h => hb (x1 w h)) (fun w h => hb (x2 w h)) (fun w h => hb (x3 w h)) (fun w h => hb (x4 w h))
    (hts _ o1) (hts _ o2) (hts _ o4) (hts _ o5) (hts _ o6) (hts _ o7) (hts _ o8) (hts _ o9) (hb (Or.inr (Or.inr (Or.inr (Or.inr ⟨_, List.mem_cons_self, rfl⟩))))) (hb (Or.inr (Or.inr (Or.inr (Or.inr ⟨_, List.mem_cons_of_mem _ List.mem_cons_self, rfl⟩))))) (hts _ o12) (hts _ o13) (hts _ o14)
    (fun c0 k i0 f a hf hk x hx => by
      obtain ⟨c', k', i', f', a', cell', r', z1, z2, z3, z4, z5, z6, z7, z8, z9, z10, z11⟩ := hc.2.1.2.2.2.1.2.2.2.1 _ List.mem_cons_self
      have e1 := hf.symm.trans z2
      cases e1
      cases hk.symm.trans z4
      intro he
      exact z11 (by rw [← he]; exact hS.2.2 x hx))
    h1 h2 hcell hS1 (msg := .ref q) rfl (g := F0 m (pc + 6) ls (.ref q :: .ref H.size :: .ref H.size :: st)) rfl (hl.1.trans hc.1.2.2.1.symm) rfl rfl (rest := st) rfl (by rw [hc.1.2.1]; exact d4) (by rw [hc.1.2.1]; exact d5) (by rw [hX3]; intro x hx; cases hx)
    (by show 1 + 4 < R.frames; omega) (by rw [List.map_cons, List.sum_cons]; show 2 * 0 + (1 + (st.map fun v => v.category).sum) + (13 * (1 + 2) + 42) ≤ R.locals; omega) hc.1.2.2.2.2.2.1
  have hUsz : U.heap.size = H.size + 1 := by rw [hUh, hT0]; simp
  have hcell2 : U.heap[H.size]? = some ce := by rw [hUh, hT0]; simp
  have hoth : ∀ b : Nat, b ≠ H.size → U.heap[b]? = T.heap[b]? := by
    intro b hb2
    rw [hUh]
    simp [Array.getElem?_setIfInBounds, Ne.symm hb2]
  have hold : ∀ b : Nat, b < H.size → U.heap[b]? = H[b]? := by
    intro b hb2
    rw [hoth b (by omega), hT0, Array.getElem?_push, if_neg (Nat.ne_of_lt hb2)]
  have hzU : zt U.heap = zt H + 6 := by
    rw [zt_set hcell hcell2 (by rw [hce3]; simp [freshCell]) hoth, hT0, zt_push]
    simp [h4]
  have hokU : z_ok g (zgap M 6) U.heap := by
    refine ⟨⟨by rw [hUsz, hsz]; rfl, by rw [hzU, hzt]; rfl, hr.1, hr.2⟩, fun b sb hb2 => ?_⟩
    have hb3 : zsh M b = some sb := hb2
    refine ⟨(hM.2 b sb hb3).1, ?_⟩
    have := (hM.2 b sb hb3).2.kept (H1 := U.heap) (hold b (by have := (hM.2 b sb hb3).2.lt; exact this))
    rw [zcell_same (M := M) (M1 := zgap M 6) rfl rfl rfl]
    exact this
  obtain ⟨kU, hkU, -⟩ := hWU.alike.2.2 _ _ h2
  refine ⟨U, st1, hc.2.2.2.2 U (.threw H.size) (.inr C) (zgap M 6) (locs ++ L) hrun hend hWU (hsame.mono (by omega) (by omega)) ?_ ⟨H.size, ce, kU, rfl, hcell2, hce2, ?_, by rw [hce1]; exact hkU⟩ hp hokU ?_⟩
  · intro q2 hq2
    rcases List.mem_append.mp hq2 with h | h
    · exact hS.2.2 q2 h
    · rw [hLb q2 h]; exact hc.2.2.2.1 _ hS1
  · rw [hWU.alike.findClass, hce1]; exact h1
  · refine ⟨by rw [hUsz]; omega, fun b h5 h6 => ?_⟩
    rw [hold b (Nat.lt_of_lt_of_le h5 hS1)]
    exact hS.2.1 b h5 h6
