/-! THE LAW'S ENTRY: what the tables give at the start -/
theorem e_arr {s : State} {args : Array Value} {ty : FieldType} (h : (Cond.arrayClass ty).before args s = true) : ∃ c, s.vm.findClass ("[" ++ ty.toString) = some c ∧ ArrOfT s c ty := by
  obtain ⟨c, k, comp, h1, h2, h3⟩ := Cond.arrayClass_spec h
  exact ⟨c, h1, fun n z => ⟨(fun _ h => by cases h), k, h2, comp, h3⟩⟩
theorem e_arrO {s : State} {args : Array Value} {C : String} (h : (Cond.arrayOver (.object C)).before args s = true) : ∃ c, va_RA s c (.object C) ∧ ArrOfT s c (.object C) := by
  obtain ⟨comp, c, k, h1, h2, h3, h4, h5⟩ := Cond.arrayOver_spec h
  exact ⟨c, ⟨k, comp, h3, h4, h1, h5⟩, fun n z => ⟨(fun _ h => by cases h), k, h3, comp, h4⟩⟩
theorem e_str {s : State} {args : Array Value} {own tx : String} {k : Nat} (h : (Cond.stringRef own k tx).before args s = true) : ∃ a, vk_R own k tx a s := by
  have h0 : (Cond.stringRef own k tx).before #[] s = true := h
  cases hc : s.vm.findClass own with
  | none => simp [Cond.before, Cond.holds, Cond.value, hc] at h
  | some c =>
    obtain ⟨_, _, _, a, -, -, -, -, -, h2⟩ := Cond.stringRef_spec hc h0
    exact ⟨a, h0, h2⟩
theorem e_stat {s : State} {args : Array Value} {n d : String} (h : (Cond.laysStatic Bundle.tN n d).before args s = true) (h2 : (Cond.isRef (.static Bundle.tN n d)).before args s = true) : zLS (fun q => s.heap.size ≤ q) n d s := by
  obtain ⟨c, k, i, f, a, cell, h3, h4, h5, h6, h7, h8, h9, h10, h11⟩ := Cond.laysStatic_spec h
  have hv : ∃ r, cell.slots[f.slot]? = some (va_rf r) := by
    simp only [Cond.before, Cond.holds, Cond.value, Term.eval, State.fieldNamed?, h4, h5, h6, h7, h8] at h2
    cases hs : cell.slots[f.slot]? with
    | none => rw [Array.getElem?_eq_none_iff] at hs; omega
    | some v =>
      cases v with
      | ref q => exact ⟨some q, rfl⟩
      | null => exact ⟨none, rfl⟩
      | _ => simp [hs, h5, h6, h7, h8] at h2
  obtain ⟨r, hr⟩ := hv
  exact ⟨c, k, i, f, a, cell, r, h3, h4, h5, h6, h7, h8, h9, h10, h11, hr, fun h => by have := (Array.getElem?_eq_some_iff.mp h7).1; omega⟩
theorem e_not {s : State} {args : Array Value} (h : (Jvm.Cond.and given_1 narrow_1).before args s = true) : ∀ C ∈ zXN, ∀ T ∈ zXN, C ≠ T → va_Nc C T s := by
  have hs := flat_of_before _ h
  intro C hC T hT hne
  have key : ∀ C ∈ zXN, ∀ T ∈ zXN, C ≠ T → Cond.not (.castable C T) ∈ flatC (Jvm.Cond.and given_1 narrow_1) := by decide +kernel
  exact va_Nc.of (hs _ (key C hC T hT hne))
theorem e_ref {s : State} {args : Array Value} (h : (Jvm.Cond.and given_1 narrow_1).before args s = true) : ∀ q ∈ zXL, (Cond.isRef (.static Bundle.tN q.1 q.2)).before args s = true := by
  have hs := flat_of_before _ h
  have key : ∀ q ∈ zXL, Cond.isRef (.static Bundle.tN q.1 q.2) ∈ flatC (Jvm.Cond.and given_1 narrow_1) := by decide +kernel
  exact fun q hq => hs _ (key q hq)
theorem e_XP {s : State} {args : Array Value} (hts : ∀ w ∈ tables_1, w.before args s = true) (h : (Jvm.Cond.and given_1 narrow_1).before args s = true) : zXP (fun q => s.heap.size ≤ q) s := by
  have hr := e_ref h
  refine ⟨List.forall_mem_cons.mpr ⟨va_Nw.of rfl (hts _ (List.mem_of_getElem? (i := 568) (by decide +kernel))), List.forall_mem_cons.mpr ⟨va_Nw.of rfl (hts _ (List.mem_of_getElem? (i := 652) (by decide +kernel))), List.forall_mem_cons.mpr ⟨va_Nw.of rfl (hts _ (List.mem_of_getElem? (i := 668) (by decide +kernel))), List.forall_mem_cons.mpr ⟨va_Nw.of rfl (hts _ (List.mem_of_getElem? (i := 688) (by decide +kernel))), List.forall_mem_cons.mpr ⟨va_Nw.of rfl (hts _ (List.mem_of_getElem? (i := 983) (by decide +kernel))), fun _ h => absurd h List.not_mem_nil⟩⟩⟩⟩⟩, List.forall_mem_cons.mpr ⟨va_Nw.of rfl (hts _ (List.mem_of_getElem? (i := 570) (by decide +kernel))), List.forall_mem_cons.mpr ⟨va_Nw.of rfl (hts _ (List.mem_of_getElem? (i := 572) (by decide +kernel))), List.forall_mem_cons.mpr ⟨va_Nw.of rfl (hts _ (List.mem_of_getElem? (i := 574) (by decide +kernel))), fun _ h => absurd h List.not_mem_nil⟩⟩⟩, List.forall_mem_cons.mpr ⟨e_str (hts _ (List.mem_of_getElem? (i := 609) (by decide +kernel))), List.forall_mem_cons.mpr ⟨e_str (hts _ (List.mem_of_getElem? (i := 659) (by decide +kernel))), List.forall_mem_cons.mpr ⟨e_str (hts _ (List.mem_of_getElem? (i := 675) (by decide +kernel))), List.forall_mem_cons.mpr ⟨e_str (hts _ (List.mem_of_getElem? (i := 695) (by decide +kernel))), List.forall_mem_cons.mpr ⟨e_str (hts _ (List.mem_of_getElem? (i := 990) (by decide +kernel))), List.forall_mem_cons.mpr ⟨e_str (hts _ (List.mem_of_getElem? (i := 1016) (by decide +kernel))), List.forall_mem_cons.mpr ⟨e_str (hts _ (List.mem_of_getElem? (i := 1017) (by decide +kernel))), List.forall_mem_cons.mpr ⟨e_str (hts _ (List.mem_of_getElem? (i := 1033) (by decide +kernel))), fun _ h => absurd h List.not_mem_nil⟩⟩⟩⟩⟩⟩⟩⟩, List.forall_mem_cons.mpr ⟨e_stat (hts _ (List.mem_of_getElem? (i := 593) (by decide +kernel))) (hr _ List.mem_cons_self), List.forall_mem_cons.mpr ⟨e_stat (hts _ (List.mem_of_getElem? (i := 595) (by decide +kernel))) (hr _ (List.mem_cons_of_mem _ List.mem_cons_self)), fun _ h => absurd h List.not_mem_nil⟩⟩, e_not h⟩
theorem e_K {s : State} {args : Array Value} (hts : ∀ w ∈ zCW, w.before args s = true) (ht1 : ∀ w ∈ tables_1, w.before args s = true) : ∃ (D : va_G) (tys : List (ClassId × FieldType)), va_K D zcl tys s ∧ tys.map Prod.snd = zAT := by
  obtain ⟨c0, i0, k0⟩ := u_known hts uC (hts _ nC)
  obtain ⟨c1, i1, k1⟩ := u_known hts uK (hts _ nK)
  obtain ⟨c2, i2, k2⟩ := u_known hts uO (hts _ nO)
  obtain ⟨c3, i3, k3⟩ := u_known hts uP (hts _ nP)
  obtain ⟨c4, i4, k4⟩ := u_known hts uQ (hts _ nQ)
  obtain ⟨c5, i5, k5⟩ := u_known hts uS (hts _ nS)
  obtain ⟨c6, i6, k6⟩ := u_known hts uT (hts _ nT)
  obtain ⟨c7, i7, k7⟩ := u_known hts uV (hts _ nV)
  obtain ⟨c8, i8, k8⟩ := u_known hts uD (hts _ nD)
  obtain ⟨c9, i9, k9⟩ := u_known hts uM (hts _ nM)
  obtain ⟨t0, a0, b0⟩ := e_arr (hts _ r_int)
  obtain ⟨t1, a1, b1⟩ := e_arr (hts _ r_char)
  obtain ⟨t2, a2, b2⟩ := e_arr (hts _ r_long)
  obtain ⟨t3, a3, b3⟩ := e_arr (hts _ r_boolean)
  obtain ⟨t4, a4, b4⟩ := e_arrO (C := "NotationDesk$Type") (ht1 _ (List.mem_of_getElem? (i := 37) (by decide +kernel)))
  obtain ⟨t5, a5, b5⟩ := e_arrO (C := "NotationDesk$Component") (ht1 _ (List.mem_of_getElem? (i := 39) (by decide +kernel)))
  refine ⟨(fun c => [c0, c1, c2, c3, c4, c5, c6, c7, c8, c9].getD c 0, fun c => [i0, i1, i2, i3, i4, i5, i6, i7, i8, i9].getD c (fun _ => 0)), [(t0, .int), (t1, .char), (t2, .long), (t3, .boolean), (t4, .object "NotationDesk$Type"), (t5, .object "NotationDesk$Component")], ⟨?_, ?_⟩, rfl⟩
  · intro c q hq
    match c, hq with
    | 0, hq => cases hq; exact k0
    | 1, hq => cases hq; exact k1
    | 2, hq => cases hq; exact k2
    | 3, hq => cases hq; exact k3
    | 4, hq => cases hq; exact k4
    | 5, hq => cases hq; exact k5
    | 6, hq => cases hq; exact k6
    | 7, hq => cases hq; exact k7
    | 8, hq => cases hq; exact k8
    | 9, hq => cases hq; exact k9
    | n + 10, hq => exact absurd hq (by simp [zcl])
  · intro c q hq
    match c, hq with
    | 0, hq => cases hq; exact ⟨b0, a0⟩
    | 1, hq => cases hq; exact ⟨b1, a1⟩
    | 2, hq => cases hq; exact ⟨b2, a2⟩
    | 3, hq => cases hq; exact ⟨b3, a3⟩
    | 4, hq => cases hq; exact ⟨b4, a4⟩
    | 5, hq => cases hq; exact ⟨b5, a5⟩
    | n + 6, hq => exact absurd hq (by simp)
