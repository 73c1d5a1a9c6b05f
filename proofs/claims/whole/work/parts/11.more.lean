/-! MORE ROWS: booleans, library functions, locals without a long beside them; what memory holds behind a write -/
theorem z_cr (r : Option Nat) : (va_rf r).category = 1 := by cases r <;> rfl
theorem z_flt {lv : List (Nat × Value)} {i : Nat} (hcat : ∀ e ∈ lv, e.1 + 1 = i → e.2.category = 1) : lv.filter (fun q => !(q.1 == i) && !(q.1 + 1 == i && q.2.category == 2)) = lv.filter (fun q => !(q.1 == i)) := by
  apply List.filter_congr
  intro e he
  by_cases h : e.1 + 1 = i
  · have := hcat e he h
    simp [h, this]
  · simp [h]
section ZM1
variable {g : zg} {d : Nat} {y : zm} {post : zR → zM → Prop} {M : zM} {pc : Nat} {lv lv' : List (Nat × Value)} {st : List Value}
theorem zi_istC_n {i : Fin 4} {x : Int32} (hd : decode y.2.1 pc = .ok (.istore_n i, 1)) (hn : (i : Nat) < y.2.2.1) (hcat : ∀ e ∈ lv, e.1 + 1 = (i : Nat) → e.2.category = 1) (hf : ((i : Nat), Value.int x) :: lv.filter (fun q => !(q.1 == (i : Nat))) = lv') (k : zG g d y post M (pc + 1) lv' st) : zG g d y post M pc lv (.int x :: st) := zi_istore_n hd hn (by rw [z_flt hcat]; exact hf) k
theorem zi_istC {i : Nat} {x : Int32} (hd : decode y.2.1 pc = .ok (.istore i, 2)) (hn : i < y.2.2.1) (hcat : ∀ e ∈ lv, e.1 + 1 = i → e.2.category = 1) (hf : (i, Value.int x) :: lv.filter (fun q => !(q.1 == i)) = lv') (k : zG g d y post M (pc + 2) lv' st) : zG g d y post M pc lv (.int x :: st) := zi_istore hd hn (by rw [z_flt hcat]; exact hf) k
theorem zi_astC_n {i : Fin 4} {x : Option Nat} (hd : decode y.2.1 pc = .ok (.astore_n i, 1)) (hn : (i : Nat) < y.2.2.1) (hcat : ∀ e ∈ lv, e.1 + 1 = (i : Nat) → e.2.category = 1) (hf : ((i : Nat), va_rf x) :: lv.filter (fun q => !(q.1 == (i : Nat))) = lv') (k : zG g d y post M (pc + 1) lv' st) : zG g d y post M pc lv (va_rf x :: st) := zi_astore_n hd hn (by rw [z_flt hcat]; exact hf) k
theorem zi_astC {i : Nat} {x : Option Nat} (hd : decode y.2.1 pc = .ok (.astore i, 2)) (hn : i < y.2.2.1) (hcat : ∀ e ∈ lv, e.1 + 1 = i → e.2.category = 1) (hf : (i, va_rf x) :: lv.filter (fun q => !(q.1 == i)) = lv') (k : zG g d y post M (pc + 2) lv' st) : zG g d y post M pc lv (va_rf x :: st) := zi_astore hd hn (by rw [z_flt hcat]; exact hf) k
theorem zi_iincC {i : Nat} {n : Int} {x v : Int32} (q : Nat) (hd : decode y.2.1 pc = .ok (.iinc i n, 3)) (hq : lv[q]? = some (i, .int x)) (hv : x + Int32.ofInt n = v) (hn : i < y.2.2.1) (hcat : ∀ e ∈ lv, e.1 + 1 = i → e.2.category = 1) (hf : (i, Value.int v) :: lv.filter (fun q => !(q.1 == i)) = lv') (k : zG g d y post M (pc + 3) lv' st) : zG g d y post M pc lv st := zi_iinc q hd hq hv hn (by rw [z_flt hcat]; exact hf) k
theorem zi_getR {a i ci k x : Nat} {ty : FieldType} {fin : Bool} (hs : zsh M a = some (.inl ci)) (hf : z_fl y.1.cls i ci k 1 ty fin) (hr : zr M a k = some x) (hd : decode y.2.1 pc = .ok (.getfield i, 3)) (kk : zG g d y post M (pc + 3) lv (va_rf (some x) :: st)) : zG g d y post M pc lv (va_rf (some a) :: st) := zi_getr hs hf hd (by rw [hr]; exact kk)
theorem zi_zald {a t n : Nat} {i : Int32} (hs : zsh M a = some (.inr (t, n))) (ht : zAT[t]? = some .boolean) (hi : vp_in i n) (hd : decode y.2.1 pc = .ok (.baload, 1)) (kk : zG g d y post M (pc + 1) lv (.int (zi M a i.toNatClampNeg) :: st)) : zG g d y post M pc lv (.int i :: va_rf (some a) :: st) := by
  intro p e R s m args below meth c Q H locs ls hc hM hS hl hz
  exact va_zald hc.1.1 hc.1.2.1 hc.2.1.1 (z_arrP hM hc.2.1 hs ht) 0 t rfl (z_ty hc.2.1 ht).1 hi hd (kk p e R s m args below meth c Q H locs ls hc hM hS hl hz)
theorem zi_zast {a t n : Nat} {i x : Int32} (hs : zsh M a = some (.inr (t, n))) (ht : zAT[t]? = some .boolean) (hi : vp_in i n) (hx : narrow .boolean (.int x) = .int x) (hd : decode y.2.1 pc = .ok (.bastore, 1)) (kk : zG g d y post (zpi M a i.toNatClampNeg x) (pc + 1) lv st) : zG g d y post M pc lv (.int x :: .int i :: va_rf (some a) :: st) := by
  intro p e R s m args below meth c Q H locs ls hc hM hS hl hz
  refine W.zast hc.1.1 hc.1.2.1 (z_arr hM hc.2.1 hs ht) ((hc.2.1.1.2 t _ (z_ty hc.2.1 ht).1).1 n (fun j => .int (zi M a j))) (fun q => by cases q) (by show ¬ (i < 0 ∨ (arrV _ _ _).slots.size ≤ _); rw [arrV_size]; exact hi) rfl rfl hd fun H1 e1 z oq => ?_
  rw [hx] at e1
  exact z_tight (fun hz => kk p e R s m args below meth c Q H1 _ ls hc (z_put_a hM hc.2.1 hs ht (zdiff_i M a _ x) (fun _ => rfl) (fun _ => rfl) (z_updi M a _ x) e1 z oq) (hS.put z oq (hM.2 a _ hs).1) hl hz)
theorem zi_lcmp {x z : Int64} (hd : decode y.2.1 pc = .ok (.lcmp, 1)) (k : zG g d y post M (pc + 1) lv (.int (lg_cmp x z) :: st)) : zG g d y post M pc lv (.long z :: .long x :: st) := by
  intro p e R s m args below meth c Q H locs ls hc hM hS hl hz
  exact W.lcmp hc.1.1 hc.1.2.1 hd (k p e R s m args below meth c Q H locs ls hc hM hS hl hz)
theorem zi_lshr {x : Int64} {z : Int32} (hd : decode y.2.1 pc = .ok (.lshr, 1)) (k : zG g d y post M (pc + 1) lv (.long (x >>> (z.toInt64 &&& 63)) :: st)) : zG g d y post M pc lv (.int z :: .long x :: st) := by
  intro p e R s m args below meth c Q H locs ls hc hM hS hl hz
  exact lv_lshr hc.1.1 hc.1.2.1 hd rfl (k p e R s m args below meth c Q H locs ls hc hM hS hl hz)
theorem zi_ldcw {i : Nat} {v : Int32} (hw : Cond.constant y.1.cls i v ∈ zCW) (hd : decode y.2.1 pc = .ok (.ldc_w i, 3)) (k : zG g d y post M (pc + 3) lv (.int v :: st)) : zG g d y post M pc lv st := by
  intro p e R s m args below meth c Q H locs ls hc hM hS hl hz
  exact lv_ldcw hc.1.1 hc.1.2.1 hc.1.2.2.2.1 (hc.1.2.2.2.2.1 _ hw) hd (k p e R s m args below meth c Q H locs ls hc hM hS hl hz)
theorem zi_mmin {i : Nat} {x z : Int32} (h1 : Cond.methodLink y.1.cls i Lib.Math.min.name ∈ zCW) (h2 : Cond.static Lib.Math.min.name ∈ zCW) (h3 : Cond.initialized "java/lang/Math" ∈ zCW) (h4 : Cond.code Lib.Math.min.name Lib.Math.min.code 2 (some .int) ∈ zCW) (hd0 : 1 ≤ d) (hst : st.length ≤ 4) (hd : decode y.2.1 pc = .ok (.invokestatic i, 3)) (k : zG g d y post M (pc + 3) lv (.int (if z < x then z else x) :: st)) : zG g d y post M pc lv (.int z :: .int x :: st) := by
  intro p e R s m args below meth c Q H locs ls hc hM hS hl hz
  have hts := hc.1.2.2.2.2.1
  have hwt := z_weight st
  have a1 := hc.2.2.1.1
  have a2 := hc.2.2.1.2.1
  have a3 := hc.2.2.1.2.2.1
  have a4 := hc.2.2.1.2.2.2
  have b1 := hM.1.1
  have b2 := hM.1.2.1
  have b3 := hM.1.2.2.1
  have b4 := hM.1.2.2.2
  have hS1 := hS.1
  exact va_mmin hc.1.1 hc.1.2.1 (hc.1.2.2.1.trans hl.1.symm) hc.1.2.2.2.1 (hts _ h1) (hts _ h2) (hts _ h3) (hts _ h4) (by omega) (by omega) (by omega) (by omega) hd (k p e R s m args below meth c Q H locs ls hc hM hS hl hz)
theorem zi_mmax {i : Nat} {x z : Int32} (h1 : Cond.methodLink y.1.cls i Lib.Math.max.name ∈ zCW) (h2 : Cond.static Lib.Math.max.name ∈ zCW) (h3 : Cond.initialized "java/lang/Math" ∈ zCW) (h4 : Cond.code Lib.Math.max.name Lib.Math.max.code 2 (some .int) ∈ zCW) (hd0 : 1 ≤ d) (hst : st.length ≤ 4) (hd : decode y.2.1 pc = .ok (.invokestatic i, 3)) (k : zG g d y post M (pc + 3) lv (.int (if x < z then z else x) :: st)) : zG g d y post M pc lv (.int z :: .int x :: st) := by
  intro p e R s m args below meth c Q H locs ls hc hM hS hl hz
  have hts := hc.1.2.2.2.2.1
  have hwt := z_weight st
  have a1 := hc.2.2.1.1
  have a2 := hc.2.2.1.2.1
  have a3 := hc.2.2.1.2.2.1
  have a4 := hc.2.2.1.2.2.2
  have b1 := hM.1.1
  have b2 := hM.1.2.1
  have b3 := hM.1.2.2.1
  have b4 := hM.1.2.2.2
  have hS1 := hS.1
  exact va_mmax hc.1.1 hc.1.2.1 (hc.1.2.2.1.trans hl.1.symm) hc.1.2.2.2.1 (hts _ h1) (hts _ h2) (hts _ h3) (hts _ h4) (by omega) (by omega) (by omega) (by omega) hd (k p e R s m args below meth c Q H locs ls hc hM hS hl hz)
/-- the law's script is read -/
theorem zi_sld {i : Int32} (hi : vp_in i g.sn) (hd : decode y.2.1 pc = .ok (.iaload, 1)) (k : zG g d y post M (pc + 1) lv (.int (g.sx i.toNatClampNeg) :: st)) : zG g d y post M pc lv (.int i :: va_rf (some g.sb) :: st) := by
  intro p e R s m args below meth c Q H locs ls hc hM hS hl hz
  obtain ⟨-, -, -, -, h5, h6, h7⟩ := hc.2.1
  exact va_sld hc.1.1 hc.1.2.1 h5 h6 h7 hS hi hd (k p e R s m args below meth c Q H locs ls hc hM hS hl hz)
theorem zi_slen (hd : decode y.2.1 pc = .ok (.arraylength, 1)) (k : zG g d y post M (pc + 1) lv (.int (nI g.sn) :: st)) : zG g d y post M pc lv (va_rf (some g.sb) :: st) := by
  intro p e R s m args below meth c Q H locs ls hc hM hS hl hz
  obtain ⟨-, -, -, -, h5, h6, h7⟩ := hc.2.1
  exact va_slen hc.1.1 hc.1.2.1 h5 h6 h7 hS hd (k p e R s m args below meth c Q H locs ls hc hM hS hl hz)
end ZM1
/-! what memory holds behind a write -/
theorem zi_pi (M : zM) (a k b j : Nat) (v : Int32) : zi (zpi M a k v) b j = if b = a ∧ j = k then v else zi M b j := zu_at _ _ _ _ _ _
theorem zr_pr (M : zM) (a k b j : Nat) (v : Option Nat) : zr (zpr M a k v) b j = if b = a ∧ j = k then v else zr M b j := zu_at _ _ _ _ _ _
theorem zl_pl (M : zM) (a k b j : Nat) (v : Int64) : zl (zpl M a k v) b j = if b = a ∧ j = k then v else zl M b j := zu_at _ _ _ _ _ _
theorem zi_pr (M : zM) (a k : Nat) (v : Option Nat) : zi (zpr M a k v) = zi M := rfl
theorem zi_pl (M : zM) (a k : Nat) (v : Int64) : zi (zpl M a k v) = zi M := rfl
theorem zr_pi (M : zM) (a k : Nat) (v : Int32) : zr (zpi M a k v) = zr M := rfl
theorem zr_pl (M : zM) (a k : Nat) (v : Int64) : zr (zpl M a k v) = zr M := rfl
theorem zl_pi (M : zM) (a k : Nat) (v : Int32) : zl (zpi M a k v) = zl M := rfl
theorem zl_pr (M : zM) (a k : Nat) (v : Option Nat) : zl (zpr M a k v) = zl M := rfl
theorem zsh_pi (M : zM) (a k : Nat) (v : Int32) : zsh (zpi M a k v) = zsh M := rfl
theorem zsh_pr (M : zM) (a k : Nat) (v : Option Nat) : zsh (zpr M a k v) = zsh M := rfl
theorem zsh_pl (M : zM) (a k : Nat) (v : Int64) : zsh (zpl M a k v) = zsh M := rfl
theorem zsz_pi (M : zM) (a k : Nat) (v : Int32) : zsz (zpi M a k v) = zsz M := rfl
theorem zsz_pr (M : zM) (a k : Nat) (v : Option Nat) : zsz (zpr M a k v) = zsz M := rfl
theorem zsz_pl (M : zM) (a k : Nat) (v : Int64) : zsz (zpl M a k v) = zsz M := rfl
theorem zsl_pi (M : zM) (a k : Nat) (v : Int32) : zsl (zpi M a k v) = zsl M := rfl
theorem zsl_pr (M : zM) (a k : Nat) (v : Option Nat) : zsl (zpr M a k v) = zsl M := rfl
theorem zsl_pl (M : zM) (a k : Nat) (v : Int64) : zsl (zpl M a k v) = zsl M := rfl
theorem zsh_nw (M : zM) (sh : Nat ⊕ Nat × Nat) (n a : Nat) : zsh (znew M sh n) a = if a = zsz M then some sh else zsh M a := rfl
theorem zi_nw (M : zM) (sh : Nat ⊕ Nat × Nat) (n a j : Nat) : zi (znew M sh n) a j = if a = zsz M then 0 else zi M a j := by
  simp only [znew, zi]
  split <;> rfl
theorem zl_nw (M : zM) (sh : Nat ⊕ Nat × Nat) (n a j : Nat) : zl (znew M sh n) a j = if a = zsz M then 0 else zl M a j := by
  simp only [znew, zl]
  split <;> rfl
theorem zr_nw (M : zM) (sh : Nat ⊕ Nat × Nat) (n a j : Nat) : zr (znew M sh n) a j = if a = zsz M then none else zr M a j := by
  simp only [znew, zr]
  split <;> rfl
theorem zsz_nw (M : zM) (sh : Nat ⊕ Nat × Nat) (n : Nat) : zsz (znew M sh n) = zsz M + 1 := rfl
theorem zsl_nw (M : zM) (sh : Nat ⊕ Nat × Nat) (n : Nat) : zsl (znew M sh n) = zsl M + n := rfl
