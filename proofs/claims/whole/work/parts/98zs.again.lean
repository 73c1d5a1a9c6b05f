/-! THE CLAIM once more: every cell that the memory knows is below its end -/
theorem zG_x {g : zg} {d : Nat} {y : zm} {post : zR → zM → Prop} {M : zM} {pc : Nat} {lv : List (Nat × Value)} {st : List Value} (k : (∀ x s, zsh M x = some s → x < zsz M) → zG g d y post M pc lv st) : zG g d y post M pc lv st := by
  intro p e R s m args below meth c Q H locs ls hc hM hS hl hz
  refine k (fun x sx hx => ?_) p e R s m args below meth c Q H locs ls hc hM hS hl hz
  have h1 := (hM.2 x sx hx).2.lt
  have h2 : x < H.size := h1
  rw [hM.1.1] at h2
  exact h2
def zGoal2 : Prop := ∀ (KC KS A sn : Nat) (sx : Nat → Int32) (M : zM), sn ≤ 2560 → zST M A KC KS → (∀ x s, zsh M x = some s → x < zsz M) → ∃ N M1, qfix (FL_law_23 N KC KS sn sx A (A + 32) (A + 72)) N (0, M) = some (true, M1)
theorem zMain2 : zGoal2 := by
  intro KC KS A sn sx M hn hST hx
  obtain ⟨M1, n0, h0⟩ := l_loop (KC := KC) (KS := KS) (A := A) (sx := sx) hn 512 0 M (by omega) (by omega) (INV_0 hST hx)
  exact ⟨n0 + 513, M1, h0 (n0 + 513) (by omega) (n0 + 513) (by omega)⟩
set_option maxHeartbeats 1000000 in
theorem law_zG2 {g : zg} {M0 : zM} (hfl : g.l.flags = pinnedFlags ++ [noTraceFlag]) (hKC : zsz M0 + 601024 ≤ g.KC) (hKS : zsl M0 + 7293034 ≤ g.KS) (hsn : g.sn ≤ 2560) (hP : zGoal2) : zG g 60 mL_law (fun r _ => r = rB true) M0 0 [(0, va_rf (some g.sb))] [] := by
  refine zi_new kD vD bL_8 nD gD ⟨by omega, by omega⟩ (dq dL_law 0 rfl) ?_
  refine zi_dup (dq dL_law 1 rfl) (by first | rfl | exact z_cr _) ?_
  refine zi_cI0 rfl (D_init (d := 50) (lay_new (lay_0 M0) (.inl 8) rfl) ⟨by omega, by omega⟩) wD_init aL_42 iD_init rfl (by omega) (Nat.le_of_ble_eq_true rfl) (dq dL_law 2 rfl) (fun M1 L => ?_)
  have hz1 : zsz M1 = zsz M0 + 32 := L.1.1
  have hl1 : zsl M1 = zsl M0 + 2247 := by
    have h := L.1.2.1
    rw [show (dSh.map zss).sum = 2247 from by decide] at h
    exact h
  refine zi_astC_n (lv' := [(1, _), (0, _)]) (dq dL_law 3 rfl) (by decide) (by simp [z_cr, z_ci]) rfl ?_
  refine zi_new kM vM bL_43 nM gM ⟨by omega, by omega⟩ (dq dL_law 4 rfl) ?_
  rw [hz1]
  refine zi_dup (dq dL_law 5 rfl) (by first | rfl | exact z_cr _) ?_
  refine zi_cI0 rfl (M_init (d := 50) (M := znew M1 (.inl 9) 59) (v := zsz M0 + 32) (by rw [← hz1]; exact z_nsh _ _ _) (by rw [zsz_nw]; omega) ⟨by rw [zsz_nw]; omega, by rw [zsl_nw]; omega⟩) wM_init aL_45 iM_init rfl (by omega) (Nat.le_of_ble_eq_true rfl) (dq dL_law 6 rfl) (fun M2 h2 => ?_)
  rw [zSM_eq hz1] at h2
  subst h2
  refine zi_astC_n (lv' := [(2, _), (1, _), (0, _)]) (dq dL_law 7 rfl) (by decide) (by simp [z_cr, z_ci]) rfl ?_
  refine zi_iconst (v := 1) (dq dL_law 8 rfl) (by decide) ?_
  refine zi_newa (t := 2) (N := 1) r_long rfl rfl (by simp) (by first | rfl | decide) (by decide) ⟨by rw [zSM_sz hz1]; omega, by rw [zSM_sl]; omega⟩ (dq dL_law 9 rfl) ?_
  rw [zSM_sz hz1]
  refine zi_astC_n (lv' := [(3, _), (2, _), (1, _), (0, _)]) (dq dL_law 10 rfl) (by decide) (by simp [z_cr, z_ci]) rfl ?_
  refine zi_iconst (v := 0) (dq dL_law 11 rfl) (by decide) ?_
  refine zi_istC (lv' := [(4, _), (3, _), (2, _), (1, _), (0, _)]) (dq dL_law 12 rfl) (by decide) (by simp [z_cr, z_ci]) rfl ?_
  refine zG_x (fun hxx => ?_)
  obtain ⟨N, M4, hq⟩ := hP g.KC g.KS (zsz M0) g.sn g.sx _ hsn (st_of L rfl hKC hKS) hxx
  exact zG_mono (fun r M h => h.1) (zG_lv (zs_c 4 rfl (zs_c 3 rfl (zs_c 2 rfl (zs_c 1 rfl (zs_c 0 rfl zs_n))))) (SL_law_23 ⟨Nat.le_refl _, Nat.le_refl _, hfl⟩ rfl rfl (by omega) N _ hq))
set_option maxHeartbeats 1000000 in
theorem whole_start2 {p : Program} {e : Env} {s : State} {m : MethodId} {below : List Frame} {meth : Method} {c : Code} (l : Launch) (hfl : l.flags = pinnedFlags ++ [noTraceFlag]) {b L : Nat} {xs : Nat → Int32} (hL : L ≤ 2560) (hname : meth.name = "law") (hexc : c.exceptionTable = #[]) (C0 : lw_At p s m meth c b L xs) (hP : zGoal2) : W p l e room_1 s m #[Value.ref b] below meth c s.heap [] 0 0 (lw_Z below #[Value.ref b] s) (entryFrame m ([Value.ref b] : List Value).toArray 7) := by
  obtain ⟨hx, hb, hr, hml, hown, hts, hX, hbl, hlk, hgv⟩ := C0
  have htc : ∀ w ∈ zCW, w.before #[Value.ref b] s = true := fun w hw => hts w (List.mem_filter.mp hw).1
  have ht1 : ∀ w ∈ tables_1, w.before #[Value.ref b] s = true := fun w hw => hts w (List.mem_append_right _ hw)
  obtain ⟨D, tys, hK, hty⟩ := e_K htc ht1
  have hl := lv_entry [Value.ref b] (n := 7) (Nat.le_of_ble_eq_true rfl)
  rw [lg_entry_eq]
  generalize (lg_sl [Value.ref b] ++ List.replicate (7 - (lg_sl [Value.ref b]).length) Slot.unset).toArray = ls at hl ⊢
  have k := law_zG2 (g := (l, D, tys, fun q => s.heap.size ≤ q, 601024 + s.heap.size, 7293034 + zt s.heap, b, L, xs)) (M0 := (fun _ => none, fun _ _ => 0, fun _ _ => 0, fun _ _ => none, s.heap.size, zt s.heap)) hfl (by show s.heap.size + 601024 ≤ 601024 + s.heap.size; omega) (by show zt s.heap + 7293034 ≤ 7293034 + zt s.heap; omega) hL hP
  have w := k p e room_1 s m #[Value.ref b] below meth c (lw_Z below #[Value.ref b] s) s.heap [] ls
    ⟨⟨hx, hb, hml, hown, htc, hlk, hname, hr, by rw [hexc]; rfl⟩, ⟨hK, hty, fun C hC => ?_, e_XP ht1 hgv, hX, hbl, by show ¬ s.heap.size ≤ b; omega⟩, ⟨by decide, by decide, by show 601024 + s.heap.size ≤ 601024 + s.heap.size; omega, by show 7293034 + zt s.heap ≤ 7293034 + zt s.heap; omega⟩, fun q hq => hq, fun t o r M Ls hrun hend hW hsame hLs ho hp hM hF => ?_⟩
    ⟨⟨rfl, rfl, by show s.heap.size ≤ 601024 + s.heap.size; omega, by show zt s.heap ≤ 7293034 + zt s.heap; omega⟩, fun a sh h => by cases h⟩ va_S.rf hl (Nat.le_refl _)
  · exact W.cs (by omega) (by omega) w
  · have h1 : (Cond.arrayOver (.object "NotationDesk$Type")).before #[Value.ref b] s = true := ht1 _ (List.mem_of_getElem? (i := 37) (by decide +kernel))
    have h2 : (Cond.arrayOver (.object "NotationDesk$Component")).before #[Value.ref b] s = true := ht1 _ (List.mem_of_getElem? (i := 39) (by decide +kernel))
    rcases List.mem_cons.mp hC with rfl | hC
    · exact va_AO.of h1
    · rcases List.mem_cons.mp hC with rfl | hC
      · exact va_AO.of h2
      · cases hC
  · have hp2 : r = rB true := hp
    subst hp2
    have ho2 : o = .returned (some (.int 1)) := ho
    refine ⟨o, hrun, hend, ho2, ⟨_, ho2⟩, hW, ?_⟩
    have m1 : t.heap.size = zsz M := hM.1.1
    have m2 : zt t.heap = zsl M := hM.1.2.1
    have m3 : zsz M ≤ 601024 + s.heap.size := hM.1.2.2.1
    have m4 : zsl M ≤ 7293034 + zt s.heap := hM.1.2.2.2
    obtain ⟨a1, a2, a3, a4, a5, a6⟩ := hsame
    refine ⟨a1, a2, ?_, a4, Nat.le_trans a5 (by omega), fun a ce hac => ?_⟩
    · show t.heap.size ≤ s.heap.size + 601024
      omega
    · obtain ⟨c', h1, h2, h3, h4⟩ := a6 a ce hac
      refine ⟨c', h1, h2, h3, fun i _ => h4 i (fun hin => ?_)⟩
      have g1 : s.heap.size ≤ a := hLs _ hin
      have g2 := (Array.getElem?_eq_some_iff.mp hac).1
      omega
set_option maxHeartbeats 4000000 in
theorem lw_walk2 (hP : zGoal2) (l : Launch) (hfl : l.flags = pinnedFlags ++ [noTraceFlag]) (b : Addr) (xs : List Int32) : MetFree l x (headSpec (Jvm.Cond.code x code maxLocals ret :: tables_1) room_1) (lw_P b xs) (fun _ _ _ _ _ => True) lw_Q := by
  refine MetFree.of_bodyS (code := code) (maxLocals := maxLocals) (ret := ret) (by decide) ?_ ?_
  · intro args s m h hn
    obtain ⟨meth, c, h1, h2, h3, h4, h5, h6, -, -⟩ := Cond.code_spec hn (atoms_spec (ws := Jvm.Cond.code x code maxLocals ret :: tables_1) h _ List.mem_cons_self)
    exact ⟨meth, c, h1, h2, h3, h4, h5, h6⟩
  · intro p e s m args below meth c s₁ B hml0 hP _
    obtain ⟨rfl, hx, hbd, hgv⟩ := hP
    obtain ⟨scr, harrAt, hlist, hof, hsmall⟩ := hx
    obtain ⟨hcb, hkn, -, -⟩ := State.arrayAt?_spec harrAt
    have hown : s.vm.findClass R_law = some m.cls := findClass_of_methodNamed B.named
    have hts0 : ∀ c ∈ (Jvm.Cond.code x code maxLocals ret :: tables_1), c.before #[Value.ref b] s = true := atoms_spec (ws := Jvm.Cond.code x code maxLocals ret :: tables_1) B.pre
    have hts : ∀ w ∈ lw_tbl, w.before #[Value.ref b] s = true := k2_hts_sels lw_privs (fun w hw => hts0 w (List.mem_cons_of_mem _ hw)) lw_privs_ok
    have hml : c.maxLocals = 7 := B.maxLocals_eq (hts0 _ List.mem_cons_self)
    have X₀ : Stand p l e room_1 s m #[Value.ref b] below meth c s₁ [] 0 0 := Stand.of_body B
    have hh0 : s₁.heap = s.heap := by rw [B.state]; rfl
    have hsz : scr.slots.size = xs.length := by rw [← Array.length_toList, hlist, List.length_map]
    have hval : ∀ j : Nat, j < xs.length → scr.slots[j]? = some (.int (xs.getD j 0)) := fun j hj => by
      rw [← Array.getElem?_toList, hlist]
      simp [hj]
    have hbl : b < s.heap.size := (Array.getElem?_eq_some_iff.mp hcb).1
    have hX : va_X b xs.length (fun j => xs.getD j 0) s s.heap := ⟨scr, hcb, hof, hkn, hsz, hval⟩
    have K : W p l e room_1 s m #[Value.ref b] below meth c s₁.heap [] 0 0 (lw_Z below #[Value.ref b] s) (entryFrame m ([Value.ref b] : List Value).toArray 7) := by
      rw [hh0]
      exact whole_start2 l hfl hbd (name_of_methodNamed B.named B.method).1 (by simpa using B.noHandlers (hts0 _ List.mem_cons_self)) ⟨B.exec, B.bytes, B.returns, hml, hown, hts, hX, hbl, B.notSynchronized, hgv⟩ hP
    obtain ⟨t, a1, o, b1, b2, b3⟩ := K s₁ rfl X₀
    exact ⟨t, o, a1, b1, b2, b3⟩
theorem lw_comes2 (hG : zGoal2) (l : Launch) (hfl : l.flags = pinnedFlags ++ [noTraceFlag]) : Comes l x (Jvm.Cond.code x code maxLocals ret :: tables_1) room_1 (fun tb e args s => Calls_1 tb e args s ∧ rest_1 tb e args s ∧ Pre_1 tb e args s)
    (fun _ _ args s o t => lw_Q args s o t) := by
  intro p e ha hc hk s m args below hf hfit hheap happ hpre
  obtain ⟨b, xs, hP⟩ := lw_pre_spec hpre.2.2 hpre.2.1
  obtain ⟨k, o, h1, h2, h3, hQ⟩ := lw_walk2 hG l hfl b xs p e ha hc hk s m args below hf ((Spec.applies_iff_loose hf).mp happ).1 hP trivial
  exact ⟨k, o, h1, h2, h3, hQ⟩
theorem lw_limb2 (hP : zGoal2) (L : Cond) (hL : ∀ (args : Array Value) (s t : State), L.after args s (.returned (some (.int 1))) t = true) :
    ArmFor flags0 classFile x code maxLocals ret World_1 tables_1 room_1 Calls_1 rest_1 Pre_1
      (fun tb e a s o t => postC L tb e a s o t ∧ Framed s o t (fieldLocs frame_1_writes a s ++ arrayLocs frame_1_arrays a s ++ staticLocs frame_1_statics s) 601024 7293034) := by
  intro l hfl _ _ p e ha hc hk s m args below hf hfit hheap happ hpre
  obtain ⟨k, o, h1, h2, h3, rfl, hF⟩ := lw_comes2 hP l hfl p e ha hc hk s m args below hf hfit hheap happ hpre
  exact ⟨k, _, h1, h2, h3, hL args s _, lw_frame hF⟩
theorem law_of2 (hP : zGoal2) : Claimed_1_1 ∧ Claimed_1_2 := ⟨lw_limb2 hP limb_1_1 (fun args s t => by simp [limb_1_1, Cond.after, Cond.holds, Cond.value]), lw_limb2 hP limb_1_2 (fun args s t => Cond.after_iff.mpr (by
  first | (rw [show limb_1_2 = Cond.eq .result (.int 1) from rfl, Cond.eq_ints (x := 1) (y := 1) rfl rfl]; simp; done) | (simp [limb_1_2, Cond.value, Term.eval]; done)))⟩
