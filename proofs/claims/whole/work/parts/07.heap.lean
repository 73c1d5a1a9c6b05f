/-! rows that read and write cells -/
/-- a class of the tables: its number, name, fields, how many, their types -/
def z_cl (ci : Nat) (C : String) (T : u_T) (N : Nat) (ty : Nat → FieldType) : Prop :=
  zcl[ci]? = some (C, T, N) ∧ (∀ w ∈ u_ws C T N, w ∈ zCW) ∧ (∀ k, k < N → parseFieldDescriptor (T k).2.2.1 = some (ty k)) ∧ (∀ a, a < N → ∀ b, b < N → a ≠ b → (T a).2.1 ≠ (T b).2.1) ∧ (zkd ci).length = N
/-- entry i of own's pool is field k of class ci, of kind kd and type ty; fin: it is final, own's own -/
def z_fl (own : String) (i ci k kd : Nat) (ty : FieldType) (fin : Bool) : Prop :=
  ∃ (C : String) (T : u_T) (N : Nat) (tyf : Nat → FieldType), z_cl ci C T N tyf ∧ k < N ∧ Cond.fieldLink own i (T k).1 (T k).2.1 (T k).2.2.1 ∈ zCW ∧ (zkd ci).getD k 0 = kd ∧ tyf k = ty ∧ (T k).2.2.2 = fin ∧ (fin = true → C = own → (T k).1 = own)
theorem zfs_len (M : zM) (a ci : Nat) : (zfs M a ci).length = (zkd ci).length := by simp [zfs]
theorem zfs_at (M : zM) (a ci : Nat) {k : Nat} (h : k < (zkd ci).length) : (zfs M a ci)[k]? = some (zv M a k ((zkd ci).getD k 0)) := by
  simp [zfs, List.getElem?_map, List.getElem?_range h]
theorem z_one {g : zg} {M : zM} {H : Heap} {a : Nat} {sh : Nat ⊕ Nat × Nat} (hM : z_ok g M H) (hs : zsh M a = some sh) : va_P g.D zcl [(a, zcell g.tys M a sh)] H := by
  intro k q hk
  have hz : k < 1 := (List.getElem?_eq_some_iff.mp hk).1
  rw [show k = 0 by omega] at hk
  cases hk
  exact (hM.2 a sh hs).2
theorem z_lt {g : zg} {M : zM} {H : Heap} {a : Nat} {sh : Nat ⊕ Nat × Nat} (hM : z_ok g M H) (hs : zsh M a = some sh) : a < zsz M := by
  rw [← hM.1.1]
  exact (hM.2 a sh hs).2.lt
theorem z_ty {g : zg} {U : State} (hK : z_K g U) {t : Nat} {ty : FieldType} (ht : zAT[t]? = some ty) : g.tys[t]? = some ((g.tys.getD t (0, .int)).1, ty) ∧ (g.tys.getD t (0, .int)).2 = ty := by
  have h := hK.2.1
  have h1 : (g.tys.map Prod.snd)[t]? = some ty := by rw [h]; exact ht
  rw [List.getElem?_map] at h1
  cases hq : g.tys[t]? with
  | none => rw [hq] at h1; cases h1
  | some q =>
    rw [hq] at h1
    have h2 : q.2 = ty := Option.some.inj h1
    have h3 : g.tys.getD t (0, .int) = q := by rw [List.getD_eq_getElem?_getD, hq]; rfl
    rw [h3]
    exact ⟨by rw [← h2], h2⟩
section ZH
variable {g : zg} {d : Nat} {y : zm} {post : zR → zM → Prop} {M : zM} {pc : Nat} {lv : List (Nat × Value)} {st : List Value}
theorem zi_getv {a i ci k kd : Nat} {ty : FieldType} {fin : Bool} (hs : zsh M a = some (.inl ci)) (hf : z_fl y.1.cls i ci k kd ty fin) (hd : decode y.2.1 pc = .ok (.getfield i, 3)) (kk : zG g d y post M (pc + 3) lv (zv M a k kd :: st)) : zG g d y post M pc lv (va_rf (some a) :: st) := by
  intro p e R s m args below meth c Q H locs ls hc hM hS hl hz
  obtain ⟨C, T, N, tyf, ⟨hcl, hin, hty, hnm, hlen⟩, hk, hlink, hkd, hte, hfn, hown⟩ := hf
  exact va_get (D := g.D) (cl := zcl) (ci := ci) (v := zv M a k kd) (C := C) (T := T) (N := N) hc.1.1 hc.1.2.1 hc.1.2.2.2.2.1 hin hc.1.2.2.2.1 hc.2.1.1 (z_one hM hs) 0 rfl hcl k hk (hc.1.2.2.2.2.1 _ hlink) (fun _ h9 => h9) (by rw [zfs_at _ _ _ (by rw [hlen]; exact hk), hkd]) hd (kk p e R s m args below meth c Q H locs ls hc hM hS hl hz)
theorem zi_geti {a i ci k : Nat} {ty : FieldType} {fin : Bool} (hs : zsh M a = some (.inl ci)) (hf : z_fl y.1.cls i ci k 0 ty fin) (hd : decode y.2.1 pc = .ok (.getfield i, 3)) (kk : zG g d y post M (pc + 3) lv (.int (zi M a k) :: st)) : zG g d y post M pc lv (va_rf (some a) :: st) := zi_getv hs hf hd kk
theorem zi_getr {a i ci k : Nat} {ty : FieldType} {fin : Bool} (hs : zsh M a = some (.inl ci)) (hf : z_fl y.1.cls i ci k 1 ty fin) (hd : decode y.2.1 pc = .ok (.getfield i, 3)) (kk : zG g d y post M (pc + 3) lv (va_rf (zr M a k) :: st)) : zG g d y post M pc lv (va_rf (some a) :: st) := zi_getv hs hf hd kk
theorem zi_getl {a i ci k : Nat} {ty : FieldType} {fin : Bool} (hs : zsh M a = some (.inl ci)) (hf : z_fl y.1.cls i ci k 2 ty fin) (hd : decode y.2.1 pc = .ok (.getfield i, 3)) (kk : zG g d y post M (pc + 3) lv (.long (zl M a k) :: st)) : zG g d y post M pc lv (va_rf (some a) :: st) := zi_getv hs hf hd kk
end ZH
/-- M1 differs from M in the cell a alone -/
def zdiff (M M1 : zM) (a : Nat) : Prop := zsh M1 = zsh M ∧ zsz M1 = zsz M ∧ zsl M1 = zsl M ∧ ∀ b, b ≠ a → zi M1 b = zi M b ∧ zl M1 b = zl M b ∧ zr M1 b = zr M b
theorem zdiff_i (M : zM) (a k : Nat) (v : Int32) : zdiff M (zpi M a k v) a := ⟨rfl, rfl, rfl, fun b hb => ⟨zu_ne _ _ _ hb, rfl, rfl⟩⟩
theorem zdiff_l (M : zM) (a k : Nat) (v : Int64) : zdiff M (zpl M a k v) a := ⟨rfl, rfl, rfl, fun b hb => ⟨rfl, zu_ne _ _ _ hb, rfl⟩⟩
theorem zdiff_r (M : zM) (a k : Nat) (v : Option Nat) : zdiff M (zpr M a k v) a := ⟨rfl, rfl, rfl, fun b hb => ⟨rfl, rfl, zu_ne _ _ _ hb⟩⟩
theorem zcell_same {tys : List (ClassId × FieldType)} {M M1 : zM} {b : Nat} (h1 : zi M1 b = zi M b) (h2 : zl M1 b = zl M b) (h3 : zr M1 b = zr M b) (sh : Nat ⊕ Nat × Nat) : zcell tys M1 b sh = zcell tys M b sh := by
  cases sh with
  | inl ci => simp only [zcell, zfs, zv, h1, h2, h3]
  | inr q =>
    obtain ⟨t, n⟩ := q
    simp only [zcell]
    congr 2
    cases (tys.getD t (0, .int)).2 <;> simp only [zarr, h1, h2, h3]
theorem z_put {g : zg} {M M1 : zM} {H H1 : Heap} {a : Nat} {sh : Nat ⊕ Nat × Nat} (hM : z_ok g M H) (hs : zsh M a = some sh) (hd : zdiff M M1 a) (hat : va_at g.D zcl (a, zcell g.tys M1 a sh) H1) (z : H1.size = H.size) (zz : zt H1 = zt H) (o : ∀ q : Nat, q ≠ a → H1[q]? = H[q]?) : z_ok g M1 H1 := by
  obtain ⟨d1, d2, d3, d4⟩ := hd
  refine ⟨⟨by rw [z, d2]; exact hM.1.1, by rw [zz, d3]; exact hM.1.2.1, by rw [d2]; exact hM.1.2.2.1, by rw [d3]; exact hM.1.2.2.2⟩, fun b sb hb => ?_⟩
  rw [d1] at hb
  by_cases hba : b = a
  · subst hba
    cases hs.symm.trans hb
    exact ⟨(hM.2 b sh hs).1, hat⟩
  · obtain ⟨e1, e2, e3⟩ := d4 b hba
    rw [zcell_same e1 e2 e3]
    exact ⟨(hM.2 b sb hb).1, (hM.2 b sb hb).2.kept (o b hba)⟩
theorem z_setSize (cell : Cell) (i : Nat) (v : Value) : (cell.setSlot i v).slots.size = cell.slots.size := by simp [Cell.setSlot]
section ZP
variable {g : zg} {d : Nat} {y : zm} {post : zR → zM → Prop} {M M1 : zM} {pc : Nat} {lv : List (Nat × Value)} {st : List Value}
set_option maxHeartbeats 1000000 in
theorem zi_putv {a i ci k kd : Nat} {ty : FieldType} {fin : Bool} {v : Value} (hs : zsh M a = some (.inl ci)) (hf : z_fl y.1.cls i ci k kd ty fin) (hin2 : fin = true → y.1.name = "<init>" ∧ ∃ T N, zcl[ci]? = some (y.1.cls, T, N)) (hn : narrow ty v = v) (hfit : fits ty v = true) (hdf : zdiff M M1 a) (hv : ∀ j, j < (zkd ci).length → zv M1 a j ((zkd ci).getD j 0) = if j = k then v else zv M a j ((zkd ci).getD j 0))
    (hd : decode y.2.1 pc = .ok (.putfield i, 3)) (kk : zG g d y post M1 (pc + 3) lv st) : zG g d y post M pc lv (v :: va_rf (some a) :: st) := by
  intro p e R s m args below meth c Q H locs ls hc hM hS hl hz
  obtain ⟨C, T, N, tyf, ⟨hcl, hin, hty, hnm, hlen⟩, hk, hlink, hkd, hte, hfn, hown⟩ := hf
  have hts := hc.1.2.2.2.2.1
  have hK := hc.2.1.1
  have hap := va_apart (own := y.1.cls) hts hin tyf hty hnm hK hcl
  have hat := (hM.2 a _ hs).2
  obtain ⟨r, h1, cell, q1, q2, q3, q4⟩ := hat
  have hr : r = (C, T, N) := Option.some.inj (h1.symm.trans hcl)
  subst hr
  obtain ⟨hSl, hfc, kC, hkC, hkind⟩ := hK.1 ci _ hcl
  obtain ⟨cf, kf, fi, f, hi, hsl⟩ := hSl k hk
  have hlay := hts _ (hin _ (u_in_lay hk))
  unfold u_lay at hlay
  have hst := (u_facts hfc hkC (u_lays hts hin hk) hi).1
  have hpd : parseFieldDescriptor (T k).2.2.1 = some ty := by rw [hty k hk, hte]
  have fin_ : ∀ H' : Heap, H'[a]? = some (cell.setSlot f.slot v) → H'.size = H.size → (∀ q, q ≠ a → H'[q]? = H[q]?) → W p g.l e R s m args below meth c H' (locs ++ [⟨a, f.slot⟩]) (H.size - s.heap.size) (zt H - zt s.heap) Q (F0 m (pc + 3) ls st) := by
    intro H' e1 e2 e3
    have hat1 : va_at g.D zcl (a, zcell g.tys M1 a (.inl ci)) H' := by
      refine ⟨_, hcl, ?_⟩
      rw [hsl] at e1
      refine t_OB.to (V := updV (vp_V (zfs M a ci)) k v) ⟨_, e1, q2, q3, t_set q4 hap hk v⟩ (fun j hj => ?_)
      have hj' : j < (zkd ci).length := by rw [hlen]; exact hj
      have e0 : vp_V (zfs M1 a ci) j = zv M1 a j ((zkd ci).getD j 0) := by
        simp [vp_V, List.getD_eq_getElem?_getD, zfs_at _ _ _ hj']
      have e00 : vp_V (zfs M a ci) j = zv M a j ((zkd ci).getD j 0) := by
        simp [vp_V, List.getD_eq_getElem?_getD, zfs_at _ _ _ hj']
      show updV (vp_V (zfs M a ci)) k v j = vp_V (zfs M1 a ci) j
      rw [e0, hv j hj']
      unfold updV
      by_cases hjk : j = k
      · simp [hjk]
      · simp [hjk, e00]
    have hzt : zt H' = zt H := zt_set q1 e1 (z_setSize _ _ _) e3
    exact z_tight (fun hz => kk p e R s m args below meth c Q H' _ ls hc (z_put hM hs hdf hat1 e2 hzt e3) (hS.put e2 e3 (hM.2 a _ hs).1) hl hz)
  cases fin with
  | false =>
    rw [if_neg (by rw [hfn]; decide)] at hlay
    have h6 := u_store hfc hkC hkind hlay hi hpd hn hfit
    exact W.putK hc.1.1 hc.1.2.1 (f := f) ⟨hc.1.2.2.2.1, hts _ hlink, ⟨_, _, _, hi⟩, hst⟩ (by rw [q2]; exact h6) q1 q3 (by rw [hsl]; exact k2_hasslot (q4 k hk)) rfl rfl hd fin_
  | true =>
    rw [if_pos hfn] at hlay
    have hcf : m.cls = cf := by
      obtain ⟨_, _, c', _, _, _, -, -, hf', -, -, -, hown2, -⟩ := Cond.laysFinal_spec hlay
      have e1 : c' = cf := by have := hi.symm.trans hf'; simp at this; exact this.1.symm
      have hC : C = y.1.cls := by
        obtain ⟨-, T2, N2, h2⟩ := hin2 rfl
        exact congrArg Prod.fst (Option.some.inj (hcl.symm.trans h2))
      rw [hown rfl hC] at hown2
      rw [← e1]; exact Option.some.inj (hc.1.2.2.2.1.symm.trans hown2)
    have h6 := u_fits hfc hkC hkind (Or.inr hlay) hi hpd hn hfit
    exact W.putFinK hc.1.1 hc.1.2.1 hc.1.2.2.2.1 (hts _ hlink) hi hst hcf (by rw [hc.1.2.2.2.2.2.2.1]; exact (hin2 rfl).1) (by rw [q2]; exact h6) q1 q3 (by rw [hsl]; exact k2_hasslot (q4 k hk)) rfl rfl hd fin_
theorem zv_pi (M : zM) (a k : Nat) (v : Int32) {L : List Nat} (hk : L.getD k 0 = 0) : ∀ j, zv (zpi M a k v) a j (L.getD j 0) = if j = k then .int v else zv M a j (L.getD j 0) := by
  intro j
  by_cases hj : j = k
  · subst hj
    rw [hk, if_pos rfl]
    simp [zv, zi, zpi, zu]
  · rw [if_neg hj]
    unfold zv
    split <;> simp [zi, zl, zr, zpi, zu, hj]
theorem zv_pr (M : zM) (a k : Nat) (v : Option Nat) {L : List Nat} (hk : L.getD k 0 = 1) : ∀ j, zv (zpr M a k v) a j (L.getD j 0) = if j = k then va_rf v else zv M a j (L.getD j 0) := by
  intro j
  by_cases hj : j = k
  · subst hj
    rw [hk, if_pos rfl]
    simp [zv, zr, zpr, zu]
  · rw [if_neg hj]
    unfold zv
    split <;> simp [zi, zl, zr, zpr, zu, hj]
theorem z_kd {own : String} {i ci k kd : Nat} {ty : FieldType} {fin : Bool} (hf : z_fl own i ci k kd ty fin) : (zkd ci).getD k 0 = kd := by
  obtain ⟨C, T, N, tyf, -, -, -, hkd, -⟩ := hf
  exact hkd
theorem zi_puti {a i ci k : Nat} {ty : FieldType} {fin : Bool} {v : Int32} (hs : zsh M a = some (.inl ci)) (hf : z_fl y.1.cls i ci k 0 ty fin) (hin2 : fin = true → y.1.name = "<init>" ∧ ∃ T N, zcl[ci]? = some (y.1.cls, T, N)) (hn : narrow ty (.int v) = .int v) (hfit : fits ty (.int v) = true)
    (hd : decode y.2.1 pc = .ok (.putfield i, 3)) (kk : zG g d y post (zpi M a k v) (pc + 3) lv st) : zG g d y post M pc lv (.int v :: va_rf (some a) :: st) :=
  zi_putv hs hf hin2 hn hfit (zdiff_i M a k v) (fun j _ => zv_pi M a k v (z_kd hf) j) hd kk
theorem z_nar_r (C : String) (r : Option Nat) : narrow (.object C) (va_rf r) = va_rf r ∧ fits (.object C) (va_rf r) = true := by
  cases r <;> exact ⟨rfl, rfl⟩
theorem z_nar_a (t : FieldType) (r : Option Nat) : narrow (.array t) (va_rf r) = va_rf r ∧ fits (.array t) (va_rf r) = true := by
  cases r <;> exact ⟨rfl, rfl⟩
theorem zi_putr {a i ci k : Nat} {ty : FieldType} {fin : Bool} {r : Option Nat} (hs : zsh M a = some (.inl ci)) (hf : z_fl y.1.cls i ci k 1 ty fin) (hin2 : fin = true → y.1.name = "<init>" ∧ ∃ T N, zcl[ci]? = some (y.1.cls, T, N)) (hn : narrow ty (va_rf r) = va_rf r ∧ fits ty (va_rf r) = true)
    (hd : decode y.2.1 pc = .ok (.putfield i, 3)) (kk : zG g d y post (zpr M a k r) (pc + 3) lv st) : zG g d y post M pc lv (va_rf r :: va_rf (some a) :: st) :=
  zi_putv hs hf hin2 hn.1 hn.2 (zdiff_r M a k r) (fun j _ => zv_pr M a k r (z_kd hf) j) hd kk
end ZP
