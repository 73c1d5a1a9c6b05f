/-! rows of arrays, and of what is new -/
theorem z_arr {g : zg} {M : zM} {H : Heap} {U : State} {a t n : Nat} {ty : FieldType} (hM : z_ok g M H) (hK : z_K g U) (hs : zsh M a = some (.inr (t, n))) (ht : zAT[t]? = some ty) : va_at g.D zcl (a, .inl ((g.tys.getD t (0, .int)).1, zarr M a n ty)) H := by
  have h := (hM.2 a _ hs).2
  have h2 := (z_ty hK ht).2
  have h3 : zcell g.tys M a (.inr (t, n)) = .inl ((g.tys.getD t (0, .int)).1, zarr M a n (g.tys.getD t (0, .int)).2) := rfl
  rw [h3, h2] at h
  exact h
theorem z_arrP {g : zg} {M : zM} {H : Heap} {U : State} {a t n : Nat} {ty : FieldType} (hM : z_ok g M H) (hK : z_K g U) (hs : zsh M a = some (.inr (t, n))) (ht : zAT[t]? = some ty) : va_P g.D zcl [(a, .inl ((g.tys.getD t (0, .int)).1, zarr M a n ty))] H := by
  intro k q hk
  have hz : k < 1 := (List.getElem?_eq_some_iff.mp hk).1
  rw [show k = 0 by omega] at hk
  cases hk
  exact z_arr hM hK hs ht
section ZA
variable {g : zg} {d : Nat} {y : zm} {post : zR → zM → Prop} {M : zM} {pc : Nat} {lv : List (Nat × Value)} {st : List Value}
theorem zi_iald {a t n : Nat} {i : Int32} (hs : zsh M a = some (.inr (t, n))) (ht : zAT[t]? = some .int) (hi : vp_in i n) (hd : decode y.2.1 pc = .ok (.iaload, 1)) (kk : zG g d y post M (pc + 1) lv (.int (zi M a i.toNatClampNeg) :: st)) : zG g d y post M pc lv (.int i :: va_rf (some a) :: st) := by
  intro p e R s m args below meth c Q H locs ls hc hM hS hl hz
  exact va_iald hc.1.1 hc.1.2.1 hc.2.1.1 (z_arrP hM hc.2.1 hs ht) 0 t rfl (z_ty hc.2.1 ht).1 hi hd (kk p e R s m args below meth c Q H locs ls hc hM hS hl hz)
theorem zi_cald {a t n : Nat} {i : Int32} (hs : zsh M a = some (.inr (t, n))) (ht : zAT[t]? = some .char) (hi : vp_in i n) (hd : decode y.2.1 pc = .ok (.caload, 1)) (kk : zG g d y post M (pc + 1) lv (.int (zi M a i.toNatClampNeg) :: st)) : zG g d y post M pc lv (.int i :: va_rf (some a) :: st) := by
  intro p e R s m args below meth c Q H locs ls hc hM hS hl hz
  exact va_cald hc.1.1 hc.1.2.1 hc.2.1.1 (z_arrP hM hc.2.1 hs ht) 0 t rfl (z_ty hc.2.1 ht).1 hi hd (kk p e R s m args below meth c Q H locs ls hc hM hS hl hz)
theorem zi_lald {a t n : Nat} {i : Int32} (hs : zsh M a = some (.inr (t, n))) (ht : zAT[t]? = some .long) (hi : vp_in i n) (hd : decode y.2.1 pc = .ok (.laload, 1)) (kk : zG g d y post M (pc + 1) lv (.long (zl M a i.toNatClampNeg) :: st)) : zG g d y post M pc lv (.int i :: va_rf (some a) :: st) := by
  intro p e R s m args below meth c Q H locs ls hc hM hS hl hz
  exact va_lald hc.1.1 hc.1.2.1 hc.2.1.1 (z_arrP hM hc.2.1 hs ht) 0 t rfl (z_ty hc.2.1 ht).1 hi hd (kk p e R s m args below meth c Q H locs ls hc hM hS hl hz)
theorem zi_aald {a t n : Nat} {C : String} {i : Int32} (hs : zsh M a = some (.inr (t, n))) (ht : zAT[t]? = some (.object C)) (hi : vp_in i n) (hd : decode y.2.1 pc = .ok (.aaload, 1)) (kk : zG g d y post M (pc + 1) lv (va_rf (zr M a i.toNatClampNeg) :: st)) : zG g d y post M pc lv (.int i :: va_rf (some a) :: st) := by
  intro p e R s m args below meth c Q H locs ls hc hM hS hl hz
  exact va_aldq hc.1.1 hc.1.2.1 hc.2.1.1 (z_arrP hM hc.2.1 hs ht) 0 t rfl (z_ty hc.2.1 ht).1 hi hd (kk p e R s m args below meth c Q H locs ls hc hM hS hl hz)
theorem zarr_len (M : zM) (a n : Nat) (ty : FieldType) : (zarr M a n ty).1 = n := by cases ty <;> rfl
theorem zi_alen {a t n : Nat} {ty : FieldType} (hs : zsh M a = some (.inr (t, n))) (ht : zAT[t]? = some ty) (hd : decode y.2.1 pc = .ok (.arraylength, 1)) (kk : zG g d y post M (pc + 1) lv (.int (nI n) :: st)) : zG g d y post M pc lv (va_rf (some a) :: st) := by
  intro p e R s m args below meth c Q H locs ls hc hM hS hl hz
  exact va_alen hc.1.1 hc.1.2.1 hc.2.1.1 (z_arrP hM hc.2.1 hs ht) 0 t rfl (z_ty hc.2.1 ht).1 (v := nI n) (by rw [zarr_len]; rfl) hd (kk p e R s m args below meth c Q H locs ls hc hM hS hl hz)
theorem z_put_a {M1 : zM} {H H1 : Heap} {U : State} {a t n k : Nat} {ty : FieldType} {f f1 : Nat → Value} {v : Value} (hM : z_ok g M H) (hK : z_K g U) (hs : zsh M a = some (.inr (t, n))) (ht : zAT[t]? = some ty) (hdf : zdiff M M1 a)
    (e0 : ∀ cA : ClassId, vp_cell cA (zarr M a n ty) = arrV cA n f) (e1 : ∀ cA : ClassId, vp_cell cA (zarr M1 a n ty) = arrV cA n f1) (hf : f1 = updV f k v)
    (e : H1[a]? = some ((vp_cell (g.tys.getD t (0, .int)).1 (zarr M a n ty)).setSlot k v)) (z : H1.size = H.size) (o : ∀ q : Nat, q ≠ a → H1[q]? = H[q]?) : z_ok g M1 H1 := by
  have h0 : H[a]? = some (vp_cell (g.tys.getD t (0, .int)).1 (zarr M a n ty)) := z_arr hM hK hs ht
  refine z_put hM hs hdf ?_ z (zt_set h0 e (z_setSize _ _ _) o) o
  have h3 : zcell g.tys M1 a (.inr (t, n)) = .inl ((g.tys.getD t (0, .int)).1, zarr M1 a n (g.tys.getD t (0, .int)).2) := rfl
  rw [h3, (z_ty hK ht).2]
  show H1[a]? = some (vp_cell _ _)
  rw [e, e0, arrV_store, e1, hf]
theorem z_updi (M : zM) (a k : Nat) (x : Int32) : (fun j => Value.int (zi (zpi M a k x) a j)) = updV (fun j => .int (zi M a j)) k (.int x) := by
  funext j
  by_cases hj : j = k <;> simp [updV, zi, zpi, zu, hj]
theorem z_updl (M : zM) (a k : Nat) (x : Int64) : (fun j => Value.long (zl (zpl M a k x) a j)) = updV (fun j => .long (zl M a j)) k (.long x) := by
  funext j
  by_cases hj : j = k <;> simp [updV, zl, zpl, zu, hj]
theorem z_updr (M : zM) (a k : Nat) (x : Option Nat) : (fun j => va_rf (zr (zpr M a k x) a j)) = updV (fun j => va_rf (zr M a j)) k (va_rf x) := by
  funext j
  by_cases hj : j = k <;> simp [updV, zr, zpr, zu, hj]
theorem zi_iast {a t n : Nat} {i x : Int32} (hs : zsh M a = some (.inr (t, n))) (ht : zAT[t]? = some .int) (hi : vp_in i n) (hd : decode y.2.1 pc = .ok (.iastore, 1)) (kk : zG g d y post (zpi M a i.toNatClampNeg x) (pc + 1) lv st) : zG g d y post M pc lv (.int x :: .int i :: va_rf (some a) :: st) := by
  intro p e R s m args below meth c Q H locs ls hc hM hS hl hz
  refine W.iast hc.1.1 hc.1.2.1 (z_arr hM hc.2.1 hs ht) ((hc.2.1.1.2 t _ (z_ty hc.2.1 ht).1).1 n (fun j => .int (zi M a j))) (fun q => by cases q) (by show ¬ (i < 0 ∨ (arrV _ _ _).slots.size ≤ _); rw [arrV_size]; exact hi) rfl rfl hd fun H1 e1 z oq => ?_
  exact z_tight (fun hz => kk p e R s m args below meth c Q H1 _ ls hc (z_put_a hM hc.2.1 hs ht (zdiff_i M a _ x) (fun _ => rfl) (fun _ => rfl) (z_updi M a _ x) e1 z oq) (hS.put z oq (hM.2 a _ hs).1) hl hz)
theorem zi_cast {a t n : Nat} {i x : Int32} (hs : zsh M a = some (.inr (t, n))) (ht : zAT[t]? = some .char) (hi : vp_in i n) (hx : narrow .char (.int x) = .int x) (hd : decode y.2.1 pc = .ok (.castore, 1)) (kk : zG g d y post (zpi M a i.toNatClampNeg x) (pc + 1) lv st) : zG g d y post M pc lv (.int x :: .int i :: va_rf (some a) :: st) := by
  intro p e R s m args below meth c Q H locs ls hc hM hS hl hz
  refine W.cast hc.1.1 hc.1.2.1 (z_arr hM hc.2.1 hs ht) ((hc.2.1.1.2 t _ (z_ty hc.2.1 ht).1).1 n (fun j => .int (zi M a j))) (fun q => by cases q) (by show ¬ (i < 0 ∨ (arrV _ _ _).slots.size ≤ _); rw [arrV_size]; exact hi) rfl rfl hd fun H1 e1 z oq => ?_
  rw [hx] at e1
  exact z_tight (fun hz => kk p e R s m args below meth c Q H1 _ ls hc (z_put_a hM hc.2.1 hs ht (zdiff_i M a _ x) (fun _ => rfl) (fun _ => rfl) (z_updi M a _ x) e1 z oq) (hS.put z oq (hM.2 a _ hs).1) hl hz)
theorem zi_last {a t n : Nat} {i : Int32} {x : Int64} (hs : zsh M a = some (.inr (t, n))) (ht : zAT[t]? = some .long) (hi : vp_in i n) (hd : decode y.2.1 pc = .ok (.lastore, 1)) (kk : zG g d y post (zpl M a i.toNatClampNeg x) (pc + 1) lv st) : zG g d y post M pc lv (.long x :: .int i :: va_rf (some a) :: st) := by
  intro p e R s m args below meth c Q H locs ls hc hM hS hl hz
  refine W.last hc.1.1 hc.1.2.1 (z_arr hM hc.2.1 hs ht) ((hc.2.1.1.2 t _ (z_ty hc.2.1 ht).1).1 n (fun j => .long (zl M a j))) (fun q => by cases q) (by show ¬ (i < 0 ∨ (arrV _ _ _).slots.size ≤ _); rw [arrV_size]; exact hi) rfl rfl hd fun H1 e1 z oq => ?_
  exact z_tight (fun hz => kk p e R s m args below meth c Q H1 _ ls hc (z_put_a hM hc.2.1 hs ht (zdiff_l M a _ x) (fun _ => rfl) (fun _ => rfl) (z_updl M a _ x) e1 z oq) (hS.put z oq (hM.2 a _ hs).1) hl hz)
theorem zi_aastN {a t n : Nat} {C : String} {i : Int32} (hs : zsh M a = some (.inr (t, n))) (ht : zAT[t]? = some (.object C)) (hi : vp_in i n) (hd : decode y.2.1 pc = .ok (.aastore, 1)) (kk : zG g d y post (zpr M a i.toNatClampNeg none) (pc + 1) lv st) : zG g d y post M pc lv (va_rf none :: .int i :: va_rf (some a) :: st) := by
  intro p e R s m args below meth c Q H locs ls hc hM hS hl hz
  refine va_WaastN (C := C) hc.1.1 hc.1.2.1 (z_arr hM hc.2.1 hs ht) ((hc.2.1.1.2 t _ (z_ty hc.2.1 ht).1).1 n (fun j => va_rf (zr M a j))) (fun q => by cases q) (by show ¬ (i < 0 ∨ (arrV _ _ _).slots.size ≤ _); rw [arrV_size]; exact hi) rfl rfl hd fun H1 e1 z oq => ?_
  exact z_tight (fun hz => kk p e R s m args below meth c Q H1 _ ls hc (z_put_a hM hc.2.1 hs ht (zdiff_r M a _ none) (fun _ => rfl) (fun _ => rfl) (z_updr M a _ none) e1 z oq) (hS.put z oq (hM.2 a _ hs).1) hl hz)
theorem zi_aast {a t n v ci N : Nat} {C : String} {T : u_T} {i : Int32} (hs : zsh M a = some (.inr (t, n))) (ht : zAT[t]? = some (.object C)) (hv : zsh M v = some (.inl ci)) (hcl : zcl[ci]? = some (C, T, N)) (hi : vp_in i n) (hd : decode y.2.1 pc = .ok (.aastore, 1)) (kk : zG g d y post (zpr M a i.toNatClampNeg (some v)) (pc + 1) lv st) : zG g d y post M pc lv (va_rf (some v) :: .int i :: va_rf (some a) :: st) := by
  intro p e R s m args below meth c Q H locs ls hc hM hS hl hz
  have hlt : i.toNatClampNeg < n := Nat.not_le.mp fun q => hi (Or.inr q)
  have h0 : ¬ i < 0 := fun q => hi (Or.inl q)
  obtain ⟨r', hr', cellV, g1, g2, g3, -⟩ := (hM.2 v _ hv).2
  have hcls := (hc.2.1.1.1 ci _ hcl).2
  obtain ⟨kA, comp, k1, k2, k3, -⟩ := (hc.2.1.1.2 t _ (z_ty hc.2.1 ht).1).2
  have hcomp : comp = g.D.1 ci := Option.some.inj (k3.symm.trans hcls.1)
  subst hcomp
  obtain ⟨kC, hkC, -⟩ := hcls.2
  refine W.aast hc.1.1 hc.1.2.1 (z_arr hM hc.2.1 hs ht) (fun q h => by cases h) (fun h => by cases h) k1 k2 rfl hkC ⟨h0, by show _ < (arrV _ _ _).slots.size; rw [arrV_size]; exact hlt⟩ g1 (fun q h => by rw [g3] at h; cases h) (by rw [g2]; exact hkC) (by rw [g2]; exact va_assign hcls) rfl rfl hd fun H1 e1 z oq => ?_
  exact z_tight (fun hz => kk p e R s m args below meth c Q H1 _ ls hc (z_put_a hM hc.2.1 hs ht (zdiff_r M a _ (some v)) (fun _ => rfl) (fun _ => rfl) (z_updr M a _ (some v)) e1 z oq) (hS.put z oq (hM.2 a _ hs).1) hl hz)
/-- a new cell behind the others -/
theorem z_born {sh : Nat ⊕ Nat × Nat} {n : Nat} {H : Heap} {ce : Cell} (hM : z_ok g M H) (hA : g.A H.size) (hn : ce.slots.size = n) (hr : zsz M + 1 ≤ g.KC ∧ zsl M + n ≤ g.KS) (hat : va_at g.D zcl (zsz M, zcell g.tys (znew M sh n) (zsz M) sh) (H.push ce)) : z_ok g (znew M sh n) (H.push ce) := by
  have hsz : H.size = zsz M := hM.1.1
  refine ⟨⟨by rw [Array.size_push, hsz]; rfl, by rw [zt_push, hM.1.2.1, hn]; rfl, hr.1, hr.2⟩, fun b sb hb => ?_⟩
  by_cases hbz : b = zsz M
  · subst hbz
    have : some sh = some sb := by simpa [znew, zsh] using hb
    cases this
    exact ⟨by rw [← hsz]; exact hA, hat⟩
  · have hb0 : zsh M b = some sb := by simpa [znew, zsh, hbz] using hb
    have e1 : zi (znew M sh n) b = zi M b := by simp [znew, zi, hbz]
    have e2 : zl (znew M sh n) b = zl M b := by simp [znew, zl, hbz]
    have e3 : zr (znew M sh n) b = zr M b := by simp [znew, zr, hbz]
    rw [zcell_same e1 e2 e3]
    refine ⟨(hM.2 b sb hb0).1, (hM.2 b sb hb0).2.kept ?_⟩
    have hlt : b < H.size := (hM.2 b sb hb0).2.lt
    show (H.push ce)[b]? = H[b]?
    rw [Array.getElem?_push, if_neg (Nat.ne_of_lt hlt)]
theorem z_bornS {A : Nat → Prop} {H0 H : Heap} {locs : List Loc} {ce : Cell} (hS : va_S A H0 H locs) : va_S A H0 (H.push ce) locs := by
  refine ⟨Nat.le_trans hS.1 (by rw [Array.size_push]; omega), fun q h1 h2 => ?_, hS.2.2⟩
  have : q < H.size := Nat.lt_of_lt_of_le h1 hS.1
  rw [Array.getElem?_push, if_neg (Nat.ne_of_lt this)]
  exact hS.2.1 q h1 h2
/-- a kind's default -/
def zdv (kd : Nat) : Value := match kd with
  | 0 => .int 0
  | 1 => .null
  | _ => .long 0
theorem zi_new {i ci N : Nat} {C : String} {T : u_T} {tyf : Nat → FieldType} (hcl : z_cl ci C T N tyf) (hdv : ∀ j, j < N → defaultValue (tyf j) = zdv ((zkd ci).getD j 0)) (hw1 : Cond.classLink y.1.cls i C ∈ zCW) (hw2 : Cond.instantiable C N ∈ zCW) (hw3 : Cond.initialized C ∈ zCW) (hr : zsz M + 1 ≤ g.KC ∧ zsl M + N ≤ g.KS)
    (hd : decode y.2.1 pc = .ok (.new i, 3)) (kk : zG g d y post (znew M (.inl ci) N) (pc + 3) lv (va_rf (some (zsz M)) :: st)) : zG g d y post M pc lv st := by
  intro p e R s m args below meth c Q H locs ls hc hM hS hl hz
  have hts := hc.1.2.2.2.2.1
  have hsz : H.size = zsz M := hM.1.1
  have hzt := hM.1.2.1
  have hrc := hc.2.2.1.2.2.1
  have hrs := hc.2.2.1.2.2.2
  have hS1 := hS.1
  obtain ⟨hcl0, hin, hty, hnm, hlen⟩ := hcl
  have hKn := hc.2.1.1.1 ci _ hcl0
  refine W.newc hc.1.1 hc.1.2.1 hc.1.2.2.2.1 (hts _ hw1) (hts _ hw2) (hts _ hw3) rfl hd (by omega) (by have := hr.2; omega) fun cC kC h1 h2 h3 h4 => ?_
  cases hKn.2.1.symm.trans h1
  have hat : va_at g.D zcl (zsz M, zcell g.tys (znew M (.inl ci) N) (zsz M) (.inl ci)) (H.push { cls := g.D.1 ci, slots := kC.instanceTypes.map defaultValue, vm := .none }) := by
    refine ⟨_, hcl0, ?_⟩
    have e1 : (H.push { cls := g.D.1 ci, slots := kC.instanceTypes.map defaultValue, vm := .none } : Heap)[zsz M]? = some (blank (g.D.1 ci) kC) := by
      rw [← hsz]; simp [blank]
    refine (u_born tyf hts hin hKn h2 e1 hty).to (fun j hj => ?_)
    have hj' : j < (zkd ci).length := by rw [hlen]; exact hj
    show defaultValue (tyf j) = vp_V (zfs (znew M (.inl ci) N) (zsz M) ci) j
    rw [hdv j hj]
    simp only [vp_V, List.getD_eq_getElem?_getD, zfs_at _ _ _ hj', Option.getD_some]
    generalize (zkd ci)[j]?.getD 0 = w
    match w with
    | 0 => simp [zv, zdv, znew, zi]
    | 1 => simp [zv, zdv, znew, zr, va_rf]
    | w + 2 => simp [zv, zdv, znew, zl]
  have h := kk p e R s m args below meth c Q (H.push { cls := g.D.1 ci, slots := kC.instanceTypes.map defaultValue, vm := .none }) locs ls hc (z_born hM (hc.2.2.2.1 _ hS1) (by rw [Array.size_map]; exact h4) hr hat) (z_bornS hS) hl
  rw [← hsz] at h
  exact z_tight h
end ZA
