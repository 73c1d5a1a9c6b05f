/-! new arrays, returns, calls -/
section ZN
variable {g : zg} {d : Nat} {y : zm} {post : zR → zM → Prop} {M : zM} {pc : Nat} {lv : List (Nat × Value)} {st : List Value}
theorem zi_newa {t N : Nat} {ty : FieldType} {atype : ArrayType} {n : Int32} (hw : Cond.arrayClass ty ∈ zCW) (hat : newarray.typeOf atype = ty) (ht : zAT[t]? = some ty) (hprim : ty = .int ∨ ty = .char ∨ ty = .long ∨ ty = .boolean ∨ ty = .byte) (hn : n = nI N) (hN : N ≤ 65536) (hr : zsz M + 1 ≤ g.KC ∧ zsl M + N ≤ g.KS)
    (hd : decode y.2.1 pc = .ok (.newarray atype, 2)) (kk : zG g d y post (znew M (.inr (t, N)) N) (pc + 2) lv (va_rf (some (zsz M)) :: st)) : zG g d y post M pc lv (.int n :: st) := by
  intro p e R s m args below meth c Q H locs ls hc hM hS hl hz
  have hts := hc.1.2.2.2.2.1
  have hsz : H.size = zsz M := hM.1.1
  have hzt := hM.1.2.1
  have hrc := hc.2.2.1.2.2.1
  have hrs := hc.2.2.1.2.2.2
  have hS1 := hS.1
  have hr2 := hr.2
  have hcl : n.toNatClampNeg = N := by rw [hn]; exact nI_clamp (by omega)
  have hn0 : ¬ n < 0 := by rw [hn]; exact nI_pos (by omega)
  have hb : componentBytes ty ≤ 8 := by rcases hprim with rfl | rfl | rfl | rfl | rfl <;> decide
  refine W.newa hc.1.1 hc.1.2.1 (by rw [hat]; exact hts _ hw) rfl hd rfl hn0 (by rw [hat, hcl]; calc N * componentBytes ty ≤ 65536 * 8 := Nat.mul_le_mul hN hb
                                                                                            _ ≤ 536870912 := by decide) (by omega) (by rw [hcl]; omega) fun cA kA comp h1 h2 h3 => ?_
  rw [hat] at h1 h3 ⊢
  rw [hcl]
  have hcA : cA = (g.tys.getD t (0, .int)).1 := by
    have h4 := (hc.2.1.1.2 t _ (z_ty hc.2.1 ht).1).2
    have h5 : s.vm.findClass ("[" ++ ty.toString) = some (g.tys.getD t (0, .int)).1 := by
      rcases hprim with rfl | rfl | rfl | rfl | rfl <;> exact h4
    exact Option.some.inj (h1.symm.trans h5)
  subst hcA
  have hat2 : va_at g.D zcl (zsz M, zcell g.tys (znew M (.inr (t, N)) N) (zsz M) (.inr (t, N))) (H.push { cls := (g.tys.getD t (0, .int)).1, slots := Array.replicate N (defaultValue ty), vm := .none }) := by
    have h3 : zcell g.tys (znew M (.inr (t, N)) N) (zsz M) (.inr (t, N)) = .inl ((g.tys.getD t (0, .int)).1, zarr (znew M (.inr (t, N)) N) (zsz M) N (g.tys.getD t (0, .int)).2) := rfl
    rw [h3, (z_ty hc.2.1 ht).2]
    show (H.push _)[zsz M]? = some (vp_cell _ _)
    rw [← hsz, Array.getElem?_push_size, arrV_new]
    rcases hprim with rfl | rfl | rfl | rfl | rfl <;> simp [zarr, znew, zi, zl, vp_cell, hsz, defaultValue]
  have h := kk p e R s m args below meth c Q _ locs ls hc (z_born hM (hc.2.2.2.1 _ hS1) (by simp) hr hat2) (z_bornS hS) hl
  rw [← hsz] at h
  exact z_tight h
theorem zi_newq {i t N : Nat} {C : String} {n : Int32} (hw : Cond.classLink y.1.cls i C ∈ zCW) (ho : C ∈ zAO) (ht : zAT[t]? = some (.object C)) (hn : n = nI N) (hN : N ≤ 65536) (hr : zsz M + 1 ≤ g.KC ∧ zsl M + N ≤ g.KS)
    (hd : decode y.2.1 pc = .ok (.anewarray i, 3)) (kk : zG g d y post (znew M (.inr (t, N)) N) (pc + 3) lv (va_rf (some (zsz M)) :: st)) : zG g d y post M pc lv (.int n :: st) := by
  intro p e R s m args below meth c Q H locs ls hc hM hS hl hz
  have hts := hc.1.2.2.2.2.1
  have hsz : H.size = zsz M := hM.1.1
  have hzt := hM.1.2.1
  have hrc := hc.2.2.1.2.2.1
  have hrs := hc.2.2.1.2.2.2
  have hS1 := hS.1
  have hr2 := hr.2
  have hcl : n.toNatClampNeg = N := by rw [hn]; exact nI_clamp (by omega)
  have hn0 : ¬ n < 0 := by rw [hn]; exact nI_pos (by omega)
  refine W.anew hc.1.1 hc.1.2.1 hc.1.2.2.2.1 (hts _ hw) (va_AO.use (hc.2.1.2.2.1 C ho)) rfl hd rfl hn0 (by rw [hcl]; omega) (by omega) (by rw [hcl]; omega) fun cA kA comp h1 h2 h3 h4 => ?_
  rw [hcl]
  have hcA : cA = (g.tys.getD t (0, .int)).1 := by
    obtain ⟨_, _, _, _, _, h5⟩ := (hc.2.1.1.2 t _ (z_ty hc.2.1 ht).1).2
    exact Option.some.inj (h1.symm.trans h5)
  subst hcA
  have hat2 : va_at g.D zcl (zsz M, zcell g.tys (znew M (.inr (t, N)) N) (zsz M) (.inr (t, N))) (H.push { cls := (g.tys.getD t (0, .int)).1, slots := Array.replicate N .null, vm := .none }) := by
    have h3 : zcell g.tys (znew M (.inr (t, N)) N) (zsz M) (.inr (t, N)) = .inl ((g.tys.getD t (0, .int)).1, zarr (znew M (.inr (t, N)) N) (zsz M) N (g.tys.getD t (0, .int)).2) := rfl
    rw [h3, (z_ty hc.2.1 ht).2]
    show (H.push _)[zsz M]? = some (vp_cell _ _)
    rw [← hsz, Array.getElem?_push_size, arrV_new]
    simp [zarr, znew, zr, vp_cell, hsz, va_rf]
  have h := kk p e R s m args below meth c Q _ locs ls hc (z_born hM (hc.2.2.2.1 _ hS1) (by simp) hr hat2) (z_bornS hS) hl
  rw [← hsz] at h
  exact z_tight h
/-- the end of a walk: the machine has come to t with the answer v -/
theorem z_end {p : Program} {e : Env} {R : Room} {s : State} {m : MethodId} {args : Array Value} {below : List Frame} {meth : Method} {c : Code} {Q : State → Prop} {H : Heap} {locs : List Loc} {f : JFrame} {v : Option Value}
    (hc : zctx g d y post p e R s m args below meth c Q) (hM : z_ok g M H) (hS : va_S g.A s.heap H locs) (hp : post (.inl v) M)
    (w : W p g.l e R s m args below meth c H locs (H.size - s.heap.size) (zt H - zt s.heap) (MQ below (fun _ _ o t => o = .returned v ∧ t.heap = H) args s (H.size - s.heap.size) (zt H - zt s.heap) g.A) f) : W p g.l e R s m args below meth c H locs (H.size - s.heap.size) (zt H - zt s.heap) Q f := by
  intro T hT X
  obtain ⟨t, st, o, hrun, hend, ⟨ho, hh⟩, L, ⟨-, hW, hsame⟩, hL⟩ := w T hT X
  subst hh
  exact ⟨t, st, hc.2.2.2.2 t o (.inl v) M L hrun hend hW hsame hL ho hp hM (hS.F rfl)⟩
theorem zi_ireturn {x : Int32} {ty : FieldType} (hr : y.2.2.2 = some ty) (hn : narrow ty (.int x) = .int x) (hd : decode y.2.1 pc = .ok (.ireturn, 1)) (hp : post (.inl (some (.int x))) M) : zG g d y post M pc lv [.int x] := by
  intro p e R s m args below meth c Q H locs ls hc hM hS hl hz
  exact z_end hc hM hS hp (W.zret hc.1.1 hc.1.2.1 (hc.1.2.2.2.2.2.2.2.1.trans hr) hn (fun t ht _ => ⟨rfl, ht⟩) hS.2.2 hd hc.1.2.2.2.2.2.1)
theorem zi_return (hr : y.2.2.2 = none) (hd : decode y.2.1 pc = .ok (.return_, 1)) (hp : post (.inl none) M) : zG g d y post M pc lv [] := by
  intro p e R s m args below meth c Q H locs ls hc hM hS hl hz
  exact z_end hc hM hS hp (W.vret hc.1.1 hc.1.2.1 (hc.1.2.2.2.2.2.2.2.1.trans hr) (fun t ht _ => ⟨rfl, ht⟩) hS.2.2 hd hc.1.2.2.2.2.2.1)
theorem zi_areturn {r : Option Nat} {C : String} (hr : y.2.2.2 = some (.object C)) (hd : decode y.2.1 pc = .ok (.areturn, 1)) (hp : post (.inl (some (va_rf r))) M) : zG g d y post M pc lv [va_rf r] := by
  intro p e R s m args below meth c Q H locs ls hc hM hS hl hz
  exact z_end hc hM hS hp (W.aret hc.1.1 hc.1.2.1 (hc.1.2.2.2.2.2.2.2.1.trans hr) (Or.inl ⟨C, rfl⟩) (va_rf_or r) (fun t ht _ => ⟨rfl, ht⟩) hS.2.2 hd hc.1.2.2.2.2.2.1)
end ZN
/-- a method's contract: from the memory M and these arguments, with room for d calls inside each other, it returns, and post says what and how -/
def zE (g : zg) (d : Nat) (y : zm) (av : List Value) (M : zM) (post : Option Value → zM → Prop) : Prop :=
  Met g.l y.1 (.code y.1 y.2.1 y.2.2.1 y.2.2.2 :: zCW) { frames := d, cells := g.KC - zsz M, slots := g.KS - zsl M, locals := 60 * d + 12 } (va_Pc av (fun U => z_ok g M U.heap ∧ z_K g U ∧ ∀ q : Nat, U.heap.size ≤ q → g.A q))
    (fun _ st o t => (∃ (v : Option Value) (M1 : zM), o = .returned v ∧ post v M1 ∧ z_ok g M1 t.heap ∧ z_K g t) ∧ va_F g.A st t) (g.KC - zsz M) (g.KS - zsl M) g.A
/-- what a method's number of locals and name must be -/
def zmok (y : zm) : Prop := plainName y.1.cls = true ∧ y.2.2.1 ≤ 40 ∧ zhd y.1 = []
theorem zK_moved {g : zg} {u U : State} (hW : u.WarmedH U.vm) (hq : ∀ q : Nat, q < u.heap.size → ¬ g.A q → U.heap[q]? = u.heap[q]?) (h : z_K g u) : z_K g U := by
  obtain ⟨h1, h2, h3, h4, h5, h6, h7⟩ := h
  have h8 := hq g.sb h6 h7
  refine ⟨va_K.moved hW.alike h1, h2, fun C hC => va_AO.moved hW.alike (h3 C hC), zXP_moved hW hq h4, (va_X.moved hW.alike h5).kept h8, ?_, h7⟩
  obtain ⟨scr, q1, -⟩ := h5
  rw [q1] at h8
  exact (Array.getElem?_eq_some_iff.mp h8).1
set_option maxHeartbeats 1000000 in
theorem zE_of {g : zg} {d : Nat} {y : zm} {av : List Value} {M : zM} {post : Option Value → zM → Prop} {lv : List (Nat × Value)} (hy : zmok y) (hlen : (lg_sl av).length ≤ y.2.2.1) (hlv : lv_args 0 av = lv)
    (h : zG g d y (fun r M1 => ∃ v, r = .inl v ∧ post v M1) M 0 lv []) : zE g d y av M post := by
  unfold zE
  refine Met.ofW (cc := y.2.1) (maxL := y.2.2.1) (ret := y.2.2.2) hy.1 rfl ?_
  intro p e s m args below meth c s₁ B hml hv
  obtain ⟨rfl, hM, hK, hA⟩ := hv
  have hts := atoms_spec (ws := .code y.1 y.2.1 y.2.2.1 y.2.2.2 :: zCW) B.pre
  have hl := lv_entry av (n := y.2.2.1) hlen
  rw [lg_entry_eq]
  generalize (lg_sl av ++ List.replicate (y.2.2.1 - (lg_sl av).length) Slot.unset).toArray = ls at hl ⊢
  rw [hlv] at hl
  have hsz : s.heap.size = zsz M := hM.1.1
  have hzt : zt s.heap = zsl M := hM.1.2.1
  have hkc := hM.1.2.2.1
  have hks := hM.1.2.2.2
  have w := h p e (headSpec (.code y.1 y.2.1 y.2.2.1 y.2.2.2 :: zCW) { frames := d, cells := g.KC - zsz M, slots := g.KS - zsl M, locals := 60 * d + 12 }).room s m av.toArray below meth c
    (MQ below (fun _ st o t => (∃ (v : Option Value) (M1 : zM), o = .returned v ∧ post v M1 ∧ z_ok g M1 t.heap ∧ z_K g t) ∧ va_F g.A st t) av.toArray s (g.KC - zsz M) (g.KS - zsl M) g.A) s.heap [] ls
    ⟨⟨B.exec, B.bytes, hml, findClass_of_methodNamed B.named, fun w hw => hts w (List.mem_cons_of_mem _ hw), B.notSynchronized, (name_of_methodNamed B.named B.method).1, B.returns, ?_⟩, hK, ⟨Nat.le_refl _, Nat.le_refl _, by show g.KC ≤ (g.KC - zsz M) + s.heap.size; omega, by show g.KS ≤ (g.KS - zsl M) + zt s.heap; omega⟩, hA, ?_⟩ hM va_S.rf hl (Nat.le_refl _)
  · exact W.cs (by omega) (by omega) w
  · have hne := B.noHandlers (hts _ List.mem_cons_self)
    have he : c.exceptionTable.toList = [] := by
      have h0 : c.exceptionTable = #[] := by simpa using hne
      rw [h0]
    rw [hy.2.2, he]
    rfl
  · intro t o r M1 L hrun hend hW hsame hL ho hp hM1 hF
    obtain ⟨v, rfl, hp⟩ := hp
    refine ⟨o, hrun, hend, ⟨⟨v, M1, ho, hp, hM1, zK_moved hW hF.2 hK⟩, hF⟩, L, ⟨⟨v, ho⟩, hW, ?_⟩, hL⟩
    have h1 := hM1.1.1
    have h2 := hM1.1.2.1
    have h3 := hM1.1.2.2.1
    have h4 := hM1.1.2.2.2
    exact hsame.mono (by omega) (by omega)
theorem z_cat (v : Value) : v.category ≤ 2 := by rcases lv_cat v with h | h <;> omega
theorem z_weight : ∀ (l : List Value), (l.map fun v => v.category).sum ≤ 2 * l.length := by
  intro l
  induction l with
  | nil => simp
  | cons v t ih =>
    have := z_cat v
    simp only [List.map_cons, List.sum_cons, List.length_cons]
    omega
theorem z_good {ws : List Cond} (h : ∀ w ∈ ws, w ∈ zCW) : GoodIn zCW ws := fun w hw => ⟨h w hw, zCW_good w (h w hw)⟩
/-- behind a call -/
theorem z_after {g : zg} {d : Nat} {y : zm} {post : zR → zM → Prop} {pc : Nat} {lv : List (Nat × Value)} {rest st0 : List Value} {post1 : Option Value → zM → Prop} {p : Program} {e : Env} {R : Room} {s : State} {m : MethodId} {args : Array Value} {below : List Frame} {meth : Method} {c : Code} {Q : State → Prop} {H : Heap} {locs : List Loc} {ls : Array Slot} {cells slots mc ms : Nat}
    (hc : zctx g d y post p e R s m args below meth c Q) (hS : va_S g.A s.heap H locs) (hl : lv_has ls y.2.2.1 lv)
    (hr : va_Run p g.l e R s m args below meth c H locs cells slots mc ms (F0 m pc ls st0) rest (fun st o t => (∃ (v : Option Value) (M1 : zM), o = .returned v ∧ post1 v M1 ∧ z_ok g M1 t.heap ∧ z_K g t) ∧ va_F g.A st t) g.A)
    (kk : ∀ (v : Option Value) (M1 : zM), post1 v M1 → zG g d y post M1 (pc + 3) lv (v.toList ++ rest)) : W p g.l e R s m args below meth c H locs cells slots Q (F0 m pc ls st0) := by
  intro T hT X
  obtain ⟨v, st₀, t, T', L, h0, X', hL, e1, e2, ⟨⟨v1, M1, hv, hp, hM1, -⟩, hF1, hF2⟩, st⟩ := hr T hT X
  cases hv
  have hS' : va_S g.A s.heap T'.heap (locs ++ L) := by
    refine ⟨?_, fun q h1 h2 => ?_, fun q hq => ?_⟩
    · rw [e1]
      rw [h0] at hF1
      exact Nat.le_trans hS.1 hF1
    · rw [e1, hF2 q (by rw [h0]; exact Nat.lt_of_lt_of_le h1 hS.1) h2, h0]
      exact hS.2.1 q h1 h2
    · rcases List.mem_append.mp hq with h | h
      · exact hS.2.2 q h
      · exact hL q h
  obtain ⟨t2, a1, b1⟩ := z_tight (kk v M1 hp p e R s m args below meth c Q T'.heap (locs ++ L) ls hc (by rw [e1]; exact hM1) hS' hl) T' rfl X'
  exact ⟨t2, st t2 a1, b1⟩
/-- what a call of y1 needs of the words: its code, its class made, how many arguments it takes -/
def z_mw (y1 : zm) (n : Nat) : Prop := Cond.code y1.1 y1.2.1 y1.2.2.1 y1.2.2.2 ∈ zCW ∧ Cond.initialized y1.1.cls ∈ zCW ∧ (y1.1.cls ≠ "java/lang/invoke/MethodHandle" ∧ y1.1.cls ≠ "java/lang/invoke/VarHandle" ∧ (parseMethodDescriptor y1.1.desc).map (fun d => d.parameters.length) = some n) ∧ y1.2.2.1 ≤ 40
section ZC
variable {g : zg} {d d1 : Nat} {y y1 : zm} {post : zR → zM → Prop} {M : zM} {pc : Nat} {lv : List (Nat × Value)} {st As : List Value} {post1 : Option Value → zM → Prop} {i n : Nat}
theorem z_callB {p : Program} {e : Env} {R : Room} {s : State} {m : MethodId} {args : Array Value} {below : List Frame} {meth : Method} {c : Code} {Q : State → Prop} (hc : zctx g d y post p e R s m args below meth c Q) (hw : z_mw y1 n) (hlk : Cond.methodLink y.1.cls i y1.1 ∈ zCW) (hd1 : d1 + 1 ≤ d) :
    CallB R s args y.1.cls i y1.1 y1.2.1 y1.2.2.1 y1.2.2.2 (.code y1.1 y1.2.1 y1.2.2.1 y1.2.2.2 :: zCW) { frames := d1, cells := g.KC - zsz M, slots := g.KS - zsl M, locals := 60 * d1 + 12 } (g.KC - zsz M) (g.KS - zsl M) n := by
  have hts := hc.1.2.2.2.2.1
  have h1 := hc.2.2.1.1
  have h2 := hc.2.2.1.2.1
  have h3 := hw.2.2.2
  refine callB_of n hts (z_good (fun w h => ?_)) rfl rfl rfl (hts _ hw.2.1) (hts _ hlk) hw.2.2.1 ⟨by show d1 + 1 ≤ R.frames; omega, by show 8 + (y1.2.2.1 + 11) + (60 * d1 + 12) ≤ R.locals; omega⟩
  rcases List.mem_cons.mp h with rfl | h
  · exact hw.1
  · exact h
theorem z_blind (av : List Value) : FrameBlind (va_Pc av (fun U => z_ok g M U.heap ∧ z_K g U ∧ ∀ q : Nat, U.heap.size ≤ q → g.A q)) := by
  intro a U g' mk q
  obtain ⟨q0, q1, q2, q3⟩ := q
  exact ⟨q0, q1, zK_moved (u := U) (U := U.calling g' mk a) (State.WarmedH.refl U) (fun _ _ _ => rfl) q2, q3⟩
theorem zi_callV {ci b N : Nat} {T : u_T} (hE : zE g d1 y1 (va_rf (some b) :: As) M post1) (hw : z_mw y1 n) (hlk : Cond.methodLink y.1.cls i y1.1 ∈ zCW) (him : Cond.instanceMethod y1.1 ∈ zCW) (hsel : Cond.selects y1.1.cls y1.1 y1.1 ∈ zCW) (hd1 : d1 + 1 ≤ d) (hs : zsh M b = some (.inl ci)) (hcl : zcl[ci]? = some (y1.1.cls, T, N)) (hn : As.length = n) (hst : st.length ≤ 4)
    (hd : decode y.2.1 pc = .ok (.invokevirtual i, 3)) (kk : ∀ (v : Option Value) (M1 : zM), post1 v M1 → zG g d y post M1 (pc + 3) lv (v.toList ++ st)) : zG g d y post M pc lv (As.reverse ++ va_rf (some b) :: st) := by
  intro p e R s m args below meth c Q H locs ls hc hM hS hl hz
  have hts := hc.1.2.2.2.2.1
  have hwt := z_weight st
  have hsz : H.size = zsz M := hM.1.1
  have hzt := hM.1.2.1
  have hkc := hM.1.2.2.1
  have hks := hM.1.2.2.2
  have hrc := hc.2.2.1.2.2.1
  have hrs := hc.2.2.1.2.2.2
  have hS1 := hS.1
  refine z_after hc hS hl (va_runV (C := y1.1.cls) (As := As) (rest := st) ⟨hc.1.1, hc.1.2.1, hc.1.2.2.1, hc.1.2.2.2.1, hts⟩ hE ⟨z_callB hc hw hlk hd1, hts _ him, hts _ hsel⟩ ⟨z_blind _, va_recv hc.2.1.1 (z_one hM hs) hcl (q0 := 0) rfl, fun U hU hW => ⟨rfl, by rw [hU]; exact hM, zK_moved hW (fun q h1 h2 => by rw [hU]; exact hS.2.1 q h1 h2) hc.2.1, fun q hq => hc.2.2.2.1 q (by rw [hU] at hq; omega)⟩⟩ rfl hn hl.1 rfl (by show 2 * 0 + _ ≤ 8; omega) hd ⟨by omega, by omega⟩) kk
theorem zi_callS (hE : zE g d1 y1 As M post1) (hw : z_mw y1 n) (hlk : Cond.methodLink y.1.cls i y1.1 ∈ zCW) (hstt : Cond.static y1.1 ∈ zCW) (hd1 : d1 + 1 ≤ d) (hn : As.length = n) (hst : st.length ≤ 4)
    (hd : decode y.2.1 pc = .ok (.invokestatic i, 3)) (kk : ∀ (v : Option Value) (M1 : zM), post1 v M1 → zG g d y post M1 (pc + 3) lv (v.toList ++ st)) : zG g d y post M pc lv (As.reverse ++ st) := by
  intro p e R s m args below meth c Q H locs ls hc hM hS hl hz
  have hts := hc.1.2.2.2.2.1
  have hwt := z_weight st
  have hsz : H.size = zsz M := hM.1.1
  have hzt := hM.1.2.1
  have hkc := hM.1.2.2.1
  have hks := hM.1.2.2.2
  have hrc := hc.2.2.1.2.2.1
  have hrs := hc.2.2.1.2.2.2
  have hS1 := hS.1
  refine z_after hc hS hl (va_runS (As := As) (rest := st) ⟨hc.1.1, hc.1.2.1, hc.1.2.2.1, hc.1.2.2.2.1, hts⟩ hE ⟨z_callB hc hw hlk hd1, hts _ hstt⟩ ⟨z_blind _, fun U hU hW => ⟨rfl, by rw [hU]; exact hM, zK_moved hW (fun q h1 h2 => by rw [hU]; exact hS.2.1 q h1 h2) hc.2.1, fun q hq => hc.2.2.2.1 q (by rw [hU] at hq; omega)⟩⟩ rfl hn hl.1 rfl (by show 2 * 0 + _ ≤ 8; omega) hd ⟨by omega, by omega⟩) kk
theorem zi_callI {b : Nat} (hr1 : y1.2.2.2 = none) (hE : zE g d1 y1 (va_rf (some b) :: As) M post1) (hw : z_mw y1 n) (hlk : Cond.methodLink y.1.cls i y1.1 ∈ zCW) (him : Cond.instanceMethod y1.1 ∈ zCW) (hin : y1.1.name = "<init>") (hd1 : d1 + 1 ≤ d) (hn : As.length = n) (hst : st.length ≤ 4)
    (hd : decode y.2.1 pc = .ok (.invokespecial i, 3)) (kk : ∀ (v : Option Value) (M1 : zM), post1 v M1 → zG g d y post M1 (pc + 3) lv (v.toList ++ st)) : zG g d y post M pc lv (As.reverse ++ va_rf (some b) :: st) := by
  intro p e R s m args below meth c Q H locs ls hc hM hS hl hz
  have hts := hc.1.2.2.2.2.1
  have hwt := z_weight st
  have hsz : H.size = zsz M := hM.1.1
  have hzt := hM.1.2.1
  have hkc := hM.1.2.2.1
  have hks := hM.1.2.2.2
  have hrc := hc.2.2.1.2.2.1
  have hrs := hc.2.2.1.2.2.2
  have hS1 := hS.1
  have hcb := z_callB (M := M) hc hw hlk hd1
  unfold zE at hE
  rw [hr1] at hcb hE
  refine z_after hc hS hl (va_runI (b := b) (As := As) (rest := st) ⟨hc.1.1, hc.1.2.1, hc.1.2.2.1, hc.1.2.2.2.1, hts⟩ hE ⟨hcb, hin, hts _ him⟩ ⟨z_blind _, fun U hU hW => ⟨rfl, by rw [hU]; exact hM, zK_moved hW (fun q h1 h2 => by rw [hU]; exact hS.2.1 q h1 h2) hc.2.1, fun q hq => hc.2.2.2.1 q (by rw [hU] at hq; omega)⟩⟩ rfl hn hl.1 rfl (by show 2 * 0 + _ ≤ 8; omega) hd ⟨by omega, by omega⟩) kk
theorem zi_objInit {b : Nat} (hlk : Cond.methodLink y.1.cls i Lib.objectInit ∈ zCW) (him : Cond.instanceMethod Lib.objectInit ∈ zCW) (hco : Cond.code Lib.objectInit ⟨#[0xb1]⟩ 1 none ∈ zCW) (hd0 : 1 ≤ d) (hst : st.length ≤ 4) (hd : decode y.2.1 pc = .ok (.invokespecial i, 3)) (kk : zG g d y post M (pc + 3) lv st) : zG g d y post M pc lv (va_rf (some b) :: st) := by
  intro p e R s m args below meth c Q H locs ls hc hM hS hl hz
  have hts := hc.1.2.2.2.2.1
  have hwt := z_weight st
  have h1 := hc.2.2.1.1
  have h2 := hc.2.2.1.2.1
  exact W.objInit hc.1.1 hc.1.2.1 hc.1.2.2.2.1 (hts _ hlk) (hts _ him) (hts _ hco) rfl (hl.1.trans hc.1.2.2.1.symm) rfl hd (by omega) (by show 2 * 0 + _ + 12 ≤ _; omega) (kk p e R s m args below meth c Q H locs ls hc hM hS hl hz)
end ZC
