/-! THE LAW'S ENTRY: the memory behind the constructors, and the claim out of the law's function -/
/-- the memory as the law's loop begins: the desk's cells from A on, the reference's from A + 32 on, the law's own array at A + 72; all is 0 and null but the reference's operations -/
def zST (M : zM) (A KC KS : Nat) : Prop :=
  zLy M A dShL dRf ∧ (∀ c k, c < 32 → zi M (A + c) k = 0 ∧ zl M (A + c) k = 0) ∧ (∀ c k, (c = 3 ∨ c = 4 ∨ c = 5 ∨ c = 28) → zr M (A + c) k = none) ∧
  zLy M (A + 32) mShL mRf ∧ (∀ c k, c < 40 → zi M (A + 32 + c) k = if c = 36 ∧ k < 8 then -1 else 0) ∧ zsh M (A + 72) = some (.inr (2, 1)) ∧ zsz M = A + 73 ∧ A + 601000 ≤ KC ∧ zsl M + 7270000 ≤ KS
theorem mLv_sh (M : zM) (m ot sv : Nat) : zsh (mLv M m ot sv) = zsh M := rfl
theorem mLv_r (M : zM) (m ot sv : Nat) : zr (mLv M m ot sv) = zr M := rfl
theorem mLv_l (M : zM) (m ot sv : Nat) : zl (mLv M m ot sv) = zl M := rfl
theorem mLv_sz (M : zM) (m ot sv : Nat) : zsz (mLv M m ot sv) = zsz M := rfl
theorem mLv_sl (M : zM) (m ot sv : Nat) : zsl (mLv M m ot sv) = zsl M := rfl
theorem mLv_i (M : zM) (m ot sv a k : Nat) : zi (mLv M m ot sv) a k = if a = sv ∧ k < 256 then 0 else if a = ot ∧ k < 8 then -1 else if a = m ∧ k = 44 then 0 else if a = m ∧ k = 1 then 0 else zi M a k := by
  unfold mLv
  rw [zi_fi, zi_fi, zi_pi, zi_pi]
def zSM (M1 : zM) (A : Nat) : zM := mLv (znf (znew M1 (.inl 9) 59) (A + 32) lM) (A + 32) (A + 33 + 35) (A + 33 + 38)
theorem zSM_sh (M1 : zM) (A a : Nat) : zsh (zSM M1 A) a = zsh (znf (znew M1 (.inl 9) 59) (A + 32) lM) a := by unfold zSM; rw [mLv_sh]
theorem zSM_r (M1 : zM) (A a : Nat) : zr (zSM M1 A) a = zr (znf (znew M1 (.inl 9) 59) (A + 32) lM) a := by unfold zSM; rw [mLv_r]
theorem zSM_l (M1 : zM) (A a : Nat) : zl (zSM M1 A) a = zl (znf (znew M1 (.inl 9) 59) (A + 32) lM) a := by unfold zSM; rw [mLv_l]
theorem zSM_i (M1 : zM) (A a k : Nat) : zi (zSM M1 A) a k = if a = A + 33 + 38 ∧ k < 256 then 0 else if a = A + 33 + 35 ∧ k < 8 then -1 else if a = A + 32 ∧ k = 44 then 0 else if a = A + 32 ∧ k = 1 then 0 else zi (znf (znew M1 (.inl 9) 59) (A + 32) lM) a k := by
  unfold zSM
  rw [mLv_i]
theorem zSM_old {M1 : zM} {A a : Nat} (hz : zsz M1 = A + 32) (ha : a < A + 32) : zsh (zSM M1 A) a = zsh M1 a ∧ zi (zSM M1 A) a = zi M1 a ∧ zl (zSM M1 A) a = zl M1 a ∧ zr (zSM M1 A) a = zr M1 a := by
  have hzz : zsz (znew M1 (.inl 9) 59) = A + 33 := by rw [zsz_nw, hz]
  obtain ⟨h1, h2, h3, h4⟩ := znf_old (znew M1 (.inl 9) 59) (A + 32) lM (a := a) (by omega)
  have hne : a ≠ zsz M1 := by omega
  refine ⟨?_, ?_, ?_, ?_⟩
  · rw [zSM_sh, h1, zsh_nw, if_neg hne]
  · funext k
    rw [zSM_i, if_neg (by omega), if_neg (by omega), if_neg (by omega), if_neg (by omega), h2, zi_nw, if_neg hne]
  · funext k
    rw [zSM_l, h3, zl_nw, if_neg hne]
  · funext k
    rw [zSM_r, h4 k (Or.inl (by omega)), zr_nw, if_neg hne]
theorem zSM_new {M1 : zM} {A : Nat} (hz : zsz M1 = A + 32) : zsh (zSM M1 A) (A + 32) = some (.inl 9) ∧ (∀ k, zi (zSM M1 A) (A + 32) k = 0) ∧ ∀ i k t n, lM[i]? = some (k, t, n) → zsh (zSM M1 A) (A + 32 + (i + 1)) = some (.inr (t, n)) ∧ zr (zSM M1 A) (A + 32) k = some (A + 32 + (i + 1)) ∧ ∀ j, zi (zSM M1 A) (A + 32 + (i + 1)) j = if i = 35 ∧ j < 8 then -1 else 0 := by
  have hzz : zsz (znew M1 (.inl 9) 59) = A + 33 := by rw [zsz_nw, hz]
  obtain ⟨h1, h2, h3, h4⟩ := znf_old (znew M1 (.inl 9) 59) (A + 32) lM (a := A + 32) (by omega)
  refine ⟨?_, fun k => ?_, fun i k t n hi => ?_⟩
  · rw [zSM_sh, h1, zsh_nw, if_pos hz.symm]
  · rw [zSM_i, if_neg (by omega), if_neg (by omega), h2, zi_nw, if_pos hz.symm]
    simp
  · obtain ⟨g1, g2, g3, -, -⟩ := znf_new (znew M1 (.inl 9) 59) (A + 32) lM (by omega) lM_nd hi
    have e : A + 32 + (i + 1) = zsz (znew M1 (.inl 9) 59) + i := by omega
    rw [e]
    refine ⟨by rw [zSM_sh]; exact g1, by rw [zSM_r]; exact g2, fun j => ?_⟩
    rw [zSM_i, g3, hzz]
    by_cases h35 : i = 35 ∧ j < 8
    · rw [if_pos h35, if_neg (by omega), if_pos (by omega)]
    · rw [if_neg h35]
      by_cases c1 : A + 33 + i = A + 33 + 38 ∧ j < 256
      · rw [if_pos c1]
      · rw [if_neg c1, if_neg (by omega), if_neg (by omega), if_neg (by omega)]
theorem st_of {M1 M0 : zM} {A KC KS : Nat} (L : Lay M1 M0 A dSh dRf) (hA : zsz M0 = A) (hKC : A + 601024 ≤ KC) (hKS : zsl M0 + 7293034 ≤ KS) : zST (znew (zSM M1 A) (.inr (2, 1)) 1) A KC KS := by
  obtain ⟨⟨z1, z2, z3⟩, -, hL⟩ := L
  have hz : zsz M1 = A + 32 := z1
  have hs1 : zsz (zSM M1 A) = A + 72 := by
    unfold zSM
    rw [mLv_sz, znf_sz, zsz_nw, hz, show lM.length = 39 from by decide]
  have hs2 : zsl (zSM M1 A) = zsl M0 + 14119 := by
    unfold zSM
    rw [mLv_sl, znf_sl, zsl_nw, z2]
    have e1 : (dSh.map zss).sum = 2247 := by decide
    have e2 : (lM.map (fun q => q.2.2)).sum = 11813 := by decide
    omega
  have old : ∀ c, c < 32 → zsh (znew (zSM M1 A) (.inr (2, 1)) 1) (A + c) = zsh M1 (A + c) ∧ (∀ k, zi (znew (zSM M1 A) (.inr (2, 1)) 1) (A + c) k = zi M1 (A + c) k) ∧ (∀ k, zl (znew (zSM M1 A) (.inr (2, 1)) 1) (A + c) k = zl M1 (A + c) k) ∧ ∀ k, zr (znew (zSM M1 A) (.inr (2, 1)) 1) (A + c) k = zr M1 (A + c) k := by
    intro c hc
    obtain ⟨h1, h2, h3, h4⟩ := zSM_old hz (a := A + c) (by omega)
    have hne : A + c ≠ zsz (zSM M1 A) := by omega
    refine ⟨?_, fun k => ?_, fun k => ?_, fun k => ?_⟩
    · rw [zsh_nw, if_neg hne, h1]
    · rw [zi_nw, if_neg hne, h2]
    · rw [zl_nw, if_neg hne, h3]
    · rw [zr_nw, if_neg hne, h4]
  have hsh : ∀ k : Fin 32, dSh[(k : Nat)]? = some (dSh.getD k (.inl 0)) := by decide
  have hat : ∀ c, c < 32 → (∀ j, zi M1 (A + c) j = 0) ∧ (∀ j, zl M1 (A + c) j = 0) ∧ ∀ j, zr M1 (A + c) j = (zlk dRf c j).map (fun x => A + x) := by
    intro c hc
    obtain ⟨-, h2, h3, h4⟩ := hL c _ (hsh ⟨c, hc⟩)
    exact ⟨h2, h3, h4⟩
  obtain ⟨n1, n2, n3⟩ := zSM_new hz
  refine ⟨⟨fun q hq => ?_, fun q hq => ?_⟩, fun c k hc => ?_, fun c k hc => ?_, ⟨fun q hq => ?_, fun q hq => ?_⟩, fun c k hc => ?_, ?_, ?_, by omega, ?_⟩
  · have key : ∀ q ∈ dShL, q.1 < 32 ∧ dSh[q.1]? = some q.2 := by decide
    obtain ⟨h1, h2⟩ := key q hq
    rw [(old q.1 h1).1]
    exact (hL q.1 q.2 h2).1
  · have key : ∀ q ∈ dRf, q.1 < 32 ∧ zlk dRf q.1 q.2.1 = some q.2.2 := by decide
    obtain ⟨h1, h2⟩ := key q hq
    rw [(old q.1 h1).2.2.2, (hat q.1 h1).2.2, h2]
    rfl
  · rw [(old c hc).2.1, (old c hc).2.2.1]
    exact ⟨(hat c hc).1 k, (hat c hc).2.1 k⟩
  · have hc2 : c < 32 := by omega
    rw [(old c hc2).2.2.2, (hat c hc2).2.2, zlk_none]
    · rfl
    · have key : ∀ q ∈ dRf, q.1 ≠ 3 ∧ q.1 ≠ 4 ∧ q.1 ≠ 5 ∧ q.1 ≠ 28 := by decide
      intro q hq
      have := key q hq
      omega
  · have key : ∀ q ∈ mShL, q.1 < 40 ∧ ((q.1 = 0 ∧ q.2 = .inl 9) ∨ (1 ≤ q.1 ∧ (lM[q.1 - 1]?).map (fun z => (Sum.inr (z.2.1, z.2.2) : Nat ⊕ Nat × Nat)) = some q.2)) := by decide
    obtain ⟨h0, h1⟩ := key q hq
    rw [zsh_nw, if_neg (by omega)]
    rcases h1 with ⟨h1, h2⟩ | ⟨h1, h2⟩
    · rw [h1, h2]; exact n1
    · cases hl : lM[q.1 - 1]? with
      | none => rw [hl] at h2; cases h2
      | some z =>
        rw [hl] at h2
        have := (n3 (q.1 - 1) z.1 z.2.1 z.2.2 hl).1
        rw [Nat.sub_add_cancel h1] at this
        rw [this]
        exact h2
  · have key : ∀ q ∈ mRf, q.1 = 0 ∧ 1 ≤ q.2.2 ∧ (lM[q.2.2 - 1]?).map (fun z => z.1) = some q.2.1 := by decide
    obtain ⟨h0, h1, h2⟩ := key q hq
    rw [zr_nw, if_neg (by omega), h0]
    cases hl : lM[q.2.2 - 1]? with
    | none => rw [hl] at h2; cases h2
    | some z =>
      rw [hl] at h2
      have e : z.1 = q.2.1 := Option.some.inj h2
      have := (n3 (q.2.2 - 1) z.1 z.2.1 z.2.2 hl).2.1
      rw [Nat.sub_add_cancel h1] at this
      rw [← e]
      exact this
  · rw [zi_nw, if_neg (by omega)]
    match c, hc with
    | 0, _ => rw [if_neg (by omega)]; exact n2 k
    | i + 1, hc =>
      have hl : ∀ i : Fin 39, lM[(i : Nat)]? = some (lM.getD i (0, 0, 0)) := by decide
      have := (n3 i _ _ _ (hl ⟨i, by omega⟩)).2.2 k
      rw [this]
      by_cases h35 : i = 35 ∧ k < 8
      · rw [if_pos h35, if_pos (by omega)]
      · rw [if_neg h35, if_neg (by omega)]
  · rw [zsh_nw, if_pos (by omega)]
  · rw [zsz_nw, hs1]
  · rw [zsl_nw, hs2]; omega
