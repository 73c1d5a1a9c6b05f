/-! System.arraycopy between arrays of ints; words of Math and System -/
theorem g_math : Cond.initialized "java/lang/Math" ∈ zCW := zin1 9 rfl rfl
theorem t_mmin : Cond.static Lib.Math.min.name ∈ zCW := zin2 41 rfl rfl
theorem t_mmax : Cond.static Lib.Math.max.name ∈ zCW := zin3 8 rfl rfl
theorem w_mmin : Cond.code Lib.Math.min.name Lib.Math.min.code 2 (some .int) ∈ zCW := zin2 42 rfl rfl
theorem w_mmax : Cond.code Lib.Math.max.name Lib.Math.max.code 2 (some .int) ∈ zCW := zin3 9 rfl rfl
theorem aC_34 : Cond.methodLink "NotationDesk$Compiler" 34 Lib.Math.min.name ∈ zCW := zin2 40 rfl rfl
theorem aC_163 : Cond.methodLink "NotationDesk$Compiler" 163 Lib.Math.max.name ∈ zCW := zin3 7 rfl rfl
theorem aP_23 : Cond.methodLink "NotationDesk$PackedReader" 23 Lib.Math.min.name ∈ zCW := zin3 230 rfl rfl
theorem g_sys : Cond.initialized "java/lang/System" ∈ zCW := zin1 21 rfl rfl
theorem aV_40 : Cond.methodLink "NotationDesk$Value" 40 arraycopyName ∈ zCW := zin5 41 rfl rfl
theorem aD_206 : Cond.methodLink "NotationDesk" 206 arraycopyName ∈ zCW := zin5 48 rfl rfl
theorem t_cp : Cond.static arraycopyName ∈ zCW := zin5 42 rfl rfl
theorem n_cp : Cond.native arraycopyName ∈ zCW := zin5 43 rfl rfl
/-- the memory behind the copy of n ints from the cell a0 (from sp on) into the cell a (from dp on) -/
def zcp (M : zM) (a0 a sp dp n : Nat) : zM := (M.1, fun b => if b = a then va_cpy (zi M a0) (zi M a) sp dp n else zi M b, M.2.2)
theorem zdiff_cp (M : zM) (a0 a sp dp n : Nat) : zdiff M (zcp M a0 a sp dp n) a := ⟨rfl, rfl, rfl, fun b hb => ⟨by show (if b = a then _ else zi M b) = _; rw [if_neg hb], rfl, rfl⟩⟩
set_option maxHeartbeats 1000000 in
theorem zi_copy {g : zg} {d : Nat} {y : zm} {post : zR → zM → Prop} {M : zM} {pc : Nat} {lv : List (Nat × Value)} {st : List Value} {a0 a n0 n1 i : Nat} {sp dp n : Int32} (hlk : Cond.methodLink y.1.cls i arraycopyName ∈ zCW) (hs0 : zsh M a0 = some (.inr (0, n0))) (hs1 : zsh M a = some (.inr (0, n1)))
    (h1 : ¬ sp < 0) (h2 : ¬ dp < 0) (h3 : ¬ n < 0) (h4 : sp.toNatClampNeg + n.toNatClampNeg ≤ n0) (h5 : dp.toNatClampNeg + n.toNatClampNeg ≤ n1) (hd0 : 1 ≤ d) (hst : st.length ≤ 4) (hd : decode y.2.1 pc = .ok (.invokestatic i, 3))
    (kk : zG g d y post (zcp M a0 a sp.toNatClampNeg dp.toNatClampNeg n.toNatClampNeg) (pc + 3) lv st) : zG g d y post M pc lv (.int n :: .int dp :: va_rf (some a) :: .int sp :: va_rf (some a0) :: st) := by
  intro p e R s m args below meth c Q H locs ls hc hM hS hl hz
  have hts := hc.1.2.2.2.2.1
  have hwt := z_weight st
  have f1 := hc.2.2.1.1
  have f2 := hc.2.2.1.2.1
  have nn : ∀ z : Int32, ¬ z < 0 → z.toInt = (z.toNatClampNeg : Int) := by
    intro z hz
    have hz0 : (0 : Int) ≤ z.toInt := by
      have := Int32.not_lt.mp hz
      simpa using Int32.le_iff_toInt_le.mp this
    show z.toInt = ((z.toInt.toNat : Nat) : Int)
    omega
  have hnw : nativeFrameWords "java/lang/System" "arraycopy" 5 ≤ 20 := by decide +kernel
  intro T hT X
  have ht : zAT[0]? = some .int := rfl
  have hc0 : H[a0]? = some (vp_cell (g.tys.getD 0 (0, .int)).1 (n0, .inl (zi M a0))) := z_arr hM hc.2.1 hs0 ht
  have hc1 : H[a]? = some (vp_cell (g.tys.getD 0 (0, .int)).1 (n1, .inl (zi M a))) := z_arr hM hc.2.1 hs1 ht
  obtain ⟨-, k0, hk0, cm0, hkk0⟩ := (hc.2.1.1.2 0 _ (z_ty hc.2.1 ht).1).1 n0 (fun j => .int (zi M a0 j))
  obtain ⟨-, k1, hk1, cm1, hkk1⟩ := (hc.2.1.1.2 0 _ (z_ty hc.2.1 ht).1).1 n1 (fun j => .int (zi M a j))
  obtain ⟨vm', X', step⟩ := X.arraycopy hc.1.1 hc.1.2.2.2.1 (hts _ hlk) (hts _ n_cp) (hts _ t_cp) (hts _ g_sys) (src := a0) (dst := a) (cs := vp_cell (g.tys.getD 0 (0, .int)).1 (n0, .inl (zi M a0))) (cd := vp_cell (g.tys.getD 0 (0, .int)).1 (n1, .inl (zi M a))) (srcPos := sp) (destPos := dp) (n := n) (by rw [hT]; exact hc0) (by rw [hT]; exact hc1)
    (fun _ h => by cases h) (fun _ h => by cases h) (fun h => by cases h) (fun h => by cases h) hk0 hk1 hkk0 hkk1 (by simp [refKind]) h1 h2 h3
    (by rw [nn sp h1, nn n h3]; show ¬ _ > ((arrV _ n0 (fun j => .int (zi M a0 j))).slots.size : Int); rw [arrV_size]; omega)
    (by rw [nn dp h2, nn n h3]; show ¬ _ > ((arrV _ n1 (fun j => .int (zi M a j))).slots.size : Int); rw [arrV_size]; omega)
    (fun vm₁ _ i hi => by
      have e : (vp_cell (g.tys.getD 0 (0, .int)).1 (n0, .inl (zi M a0))).slots.getD (sp.toNatClampNeg + i) .null = .int (zi M a0 (sp.toNatClampNeg + i)) := by
        show (arrV _ n0 (fun j => .int (zi M a0 j))).slots.getD _ _ = _
        rw [Array.getD_eq_getD_getElem?, arrV_read _ _ (by omega)]
        rfl
      refine ⟨?_, ?_⟩
      · rw [e]
        rfl
      · rw [e]
        exact trivial)
    (g := F0 m pc ls (.int n :: .int dp :: .ref a :: .int sp :: .ref a0 :: st)) rfl (hl.1.trans hc.1.2.2.1.symm) (rest := st) rfl (by rw [hc.1.2.1]; exact hd) (by omega) (by show 2 * 0 + _ + _ ≤ _; omega)
  have e1 : copied (vp_cell (g.tys.getD 0 (0, .int)).1 (n0, .inl (zi M a0))) (vp_cell (g.tys.getD 0 (0, .int)).1 (n1, .inl (zi M a))) sp dp n = vp_cell (g.tys.getD 0 (0, .int)).1 (n1, .inl (va_cpy (zi M a0) (zi M a) sp.toNatClampNeg dp.toNatClampNeg n.toNatClampNeg)) := va_copied (fun z => .int z) _ _ (zi M a0) (zi M a) h4
  rw [e1] at X' step
  have hlt : a < H.size := (Array.getElem?_eq_some_iff.mp hc1).1
  have oq : ∀ q : Nat, q ≠ a → (H.setIfInBounds a (vp_cell (g.tys.getD 0 (0, .int)).1 (n1, .inl (va_cpy (zi M a0) (zi M a) sp.toNatClampNeg dp.toNatClampNeg n.toNatClampNeg))))[q]? = H[q]? := fun q hq => by simp [Array.getElem?_setIfInBounds, Ne.symm hq]
  have hself : (H.setIfInBounds a (vp_cell (g.tys.getD 0 (0, .int)).1 (n1, .inl (va_cpy (zi M a0) (zi M a) sp.toNatClampNeg dp.toNatClampNeg n.toNatClampNeg))))[a]? = some (vp_cell (g.tys.getD 0 (0, .int)).1 (n1, .inl (va_cpy (zi M a0) (zi M a) sp.toNatClampNeg dp.toNatClampNeg n.toNatClampNeg))) := by simp [Array.getElem?_setIfInBounds, hlt]
  have hM1 : z_ok g (zcp M a0 a sp.toNatClampNeg dp.toNatClampNeg n.toNatClampNeg) (H.setIfInBounds a (vp_cell (g.tys.getD 0 (0, .int)).1 (n1, .inl (va_cpy (zi M a0) (zi M a) sp.toNatClampNeg dp.toNatClampNeg n.toNatClampNeg)))) := by
    refine z_put hM hs1 (zdiff_cp M a0 a _ _ _) ?_ (by simp) (zt_set hc1 hself (by show (arrV _ _ _).slots.size = (arrV _ _ _).slots.size; rw [arrV_size, arrV_size]) oq) oq
    have h3 : zcell g.tys (zcp M a0 a sp.toNatClampNeg dp.toNatClampNeg n.toNatClampNeg) a (.inr (0, n1)) = .inl ((g.tys.getD 0 (0, .int)).1, zarr (zcp M a0 a sp.toNatClampNeg dp.toNatClampNeg n.toNatClampNeg) a n1 (g.tys.getD 0 (0, .int)).2) := rfl
    rw [h3, (z_ty hc.2.1 ht).2]
    have h4 : zarr (zcp M a0 a sp.toNatClampNeg dp.toNatClampNeg n.toNatClampNeg) a n1 .int = (n1, .inl (va_cpy (zi M a0) (zi M a) sp.toNatClampNeg dp.toNatClampNeg n.toNatClampNeg)) := by
      show (n1, Sum.inl (if a = a then va_cpy (zi M a0) (zi M a) _ _ _ else zi M a)) = _
      rw [if_pos rfl]
    rw [h4]
    exact hself
  obtain ⟨t, a1, b1⟩ := z_tight (fun hz => kk p e R s m args below meth c Q _ _ ls hc hM1 ⟨by simp; exact hS.1, fun q g1 g2 => by
      rw [oq q (fun e => g2 (by rw [e]; exact (hM.2 a _ hs1).1))]
      exact hS.2.1 q g1 g2, fun q hq => by
      rcases List.mem_append.mp hq with h | h
      · exact hS.2.2 q h
      · obtain ⟨z, -, hz⟩ := List.mem_map.mp h
        rw [← hz]
        exact (hM.2 a _ hs1).1⟩ hl hz) _ (by rw [← hT]; rfl) X'
  exact ⟨t, step t a1, b1⟩
/-- the same over the fixed cells -/
def zcpJ (J : zJ) (c0 c sp dp n : Nat) : zJ := fun b => if b = c then va_cpy (J c0) (J c) sp dp n else J b
theorem zmm_cp (M0 : zM) (A : Nat) {n c0 c : Nat} (J : zJ) (sp dp k : Nat) (h0 : c0 < n) (h : c < n) : zcp (zmm M0 A n J) (A + c0) (A + c) sp dp k = zmm M0 A n (zcpJ J c0 c sp dp k) := by
  show (M0.1, _, M0.2.2) = (M0.1, _, M0.2.2)
  congr 2
  funext b
  by_cases hb : b = A + c
  · subst hb
    rw [if_pos rfl, zmm_i M0 A J h0, zmm_i M0 A J h, if_pos ⟨by omega, by omega⟩, Nat.add_sub_cancel_left]
    show _ = if c = c then _ else _
    rw [if_pos rfl]
  · rw [if_neg hb]
    show (if A ≤ b ∧ b < A + n then J (b - A) else zi M0 b) = if A ≤ b ∧ b < A + n then (if b - A = c then _ else J (b - A)) else zi M0 b
    by_cases hr : A ≤ b ∧ b < A + n
    · rw [if_pos hr, if_pos hr, if_neg (by omega)]
    · rw [if_neg hr, if_neg hr]
/-- whether a copy is within bounds -/
def qcp (sp dp n : Int32) (n0 n1 : Nat) : Bool := !(decide (sp < 0)) && (!(decide (dp < 0)) && (!(decide (n < 0)) && (decide (sp.toNatClampNeg + n.toNatClampNeg ≤ n0) && decide (dp.toNatClampNeg + n.toNatClampNeg ≤ n1))))
theorem ri_copy {g : zg} {d : Nat} {y : zm} {post : zR → zM → Prop} {M0 : zM} {A N : Nat} {J : zJ} {pc : Nat} {lv : List (Nat × Value)} {st : List Value} {c0 c n0 n1 i : Nat} {sp dp n : Int32} (hlk : Cond.methodLink y.1.cls i arraycopyName ∈ zCW) (hs0 : zsh M0 (A + c0) = some (.inr (0, n0))) (hs1 : zsh M0 (A + c) = some (.inr (0, n1))) (hc0 : c0 < N) (hc1 : c < N) (hq : qcp sp dp n n0 n1 = true)
    (hd0 : 1 ≤ d) (hst : st.length ≤ 4) (hd : decode y.2.1 pc = .ok (.invokestatic i, 3)) (kk : zG g d y post (zmm M0 A N (zcpJ J c0 c sp.toNatClampNeg dp.toNatClampNeg n.toNatClampNeg)) (pc + 3) lv st) : zG g d y post (zmm M0 A N J) pc lv (.int n :: .int dp :: va_rf (some (A + c)) :: .int sp :: va_rf (some (A + c0)) :: st) := by
  simp only [qcp, Bool.and_eq_true, Bool.not_eq_true', decide_eq_false_iff_not, decide_eq_true_eq] at hq
  obtain ⟨h1, h2, h3, h4, h5⟩ := hq
  exact zi_copy (M := zmm M0 A N J) hlk hs0 hs1 h1 h2 h3 h4 h5 hd0 hst hd (by rw [zmm_cp M0 A J _ _ _ hc0 hc1]; exact kk)
