/-! COMPILING: new members -/
def kBeg (M : zM) (x : Nat) (l1 : Option Nat) : zM := zpr (zpi (zpi (zpi (zpi (zpr M x 0 l1) x 1 0) x 2 0) x 3 0) x 4 0) x 5 none
theorem eK_begin {x KC KS : Nat} (l1 : Option Nat) (M : zM) (N : Nat) : FK_begin N KC KS x l1 M = some ((), kBeg M x l1) := rfl
theorem kBeg_sh (M : zM) (x y : Nat) (l1 : Option Nat) : zsh (kBeg M x l1) y = zsh M y := by
  unfold kBeg
  simp only [zsh_pi, zsh_pr]
theorem kBeg_io {M : zM} {x y j : Nat} {l1 : Option Nat} (h : y ≠ x) : zi (kBeg M x l1) y j = zi M y j := by
  unfold kBeg
  simp only [zi_pr, zi_pi, h, false_and, if_false]
theorem kBeg_ro {M : zM} {x y j : Nat} {l1 : Option Nat} (h : y ≠ x) : zr (kBeg M x l1) y j = zr M y j := by
  unfold kBeg
  simp only [zr_pr, zr_pi, h, false_and, if_false]
theorem kBeg_all (M1 : zM) (x : Nat) (l1 : Option Nat) (v : Int32) (o : Nat) (hxo : x ≠ o) : ∃ M', M' = zpi (kBeg M1 x l1) o 5 v ∧ zsh M' = zsh M1 ∧ zl M' = zl M1 ∧ zsz M' = zsz M1 ∧ zsl M' = zsl M1 ∧ (∀ y j, y ≠ x → y ≠ o → zi M' y j = zi M1 y j) ∧ (∀ j, j ≠ 5 → zi M' o j = zi M1 o j) ∧ zi M' o 5 = v ∧ (∀ y j, y ≠ x → zr M' y j = zr M1 y j) ∧ zr M' x 0 = l1 ∧ (∀ j, 1 ≤ j → j ≤ 4 → zi M' x j = 0) ∧ zr M' x 5 = none := by
  refine ⟨_, rfl, ?_, ?_, ?_, ?_, fun y j h1 h2 => ?_, fun j hj => ?_, ?_, fun y j h1 => ?_, ?_, fun j h1 h4 => ?_, ?_⟩
  · unfold kBeg
    simp only [zsh_pi, zsh_pr]
  · unfold kBeg
    simp only [zl_pi, zl_pr]
  · unfold kBeg
    simp only [zsz_pi, zsz_pr]
  · unfold kBeg
    simp only [zsl_pi, zsl_pr]
  · rw [zi_pi, if_neg (fun z => h2 z.1), kBeg_io h1]
  · rw [zi_pi, if_neg (by omega), kBeg_io (Ne.symm hxo)]
  · rw [zi_pi, if_pos ⟨rfl, rfl⟩]
  · rw [zr_pi, kBeg_ro h1]
  · unfold kBeg
    simp [zr_pr, zr_pi]
  · have : j = 1 ∨ j = 2 ∨ j = 3 ∨ j = 4 := by omega
    rw [zi_pi, if_neg (fun z => hxo z.1)]
    unfold kBeg
    rcases this with rfl | rfl | rfl | rfl <;> simp [zi_pr, zi_pi]
  · unfold kBeg
    simp [zr_pr, zr_pi]
def kNew (M : zM) (x : Nat) (l1 : Option Nat) : Prop := zsh M x = some (.inl 1) ∧ zr M x 0 = l1 ∧ (∀ j, 1 ≤ j → j ≤ 4 → zi M x j = 0) ∧ zr M x 5 = none
theorem kc_newK {A KC KS q n p a b c : Nat} {M : zM} {J : zJ} (h : kcS A KC KS q M J n p a b c) (hb : b < p) (l1 : Option Nat) : ∃ x M', (∀ N, FC_newMember N KC KS (A + 2) l1 M = some (some x, M')) ∧ (∀ c, c ≤ 72 → x ≠ A + c) ∧ ¬ kU A M a b x ∧ zr M' (A + 5) b = some x ∧ kNew M' x l1 ∧ gN A M M' x 5 ∧ kcP A KC KS q M' a (b + 1) ∧ zi M' (A + 2) 5 = nI (b + 1) := by
  obtain ⟨s1, ⟨a0, b0, ⟨q1, q2, q3, q4, q5, q6, q7, q8⟩, p2, p3, p4, p5, p6, p7⟩, s3, s4, ⟨s5, s6, s7⟩, -, -, t4, -⟩ := h
  have hL := s1.1
  have r2 : zr M (A + 2) 3 = some (A + 5) := zLr hL 35 rfl
  have sh4 : zsh M (A + 5) = some (.inr (5, 150)) := zLs hL 5 rfl
  have sh2 : zsh M (A + 2) = some (.inl 0) := zLs hL 2 rfl
  have h55 : ∀ (M1 : zM) x N, zsh M1 x = some (.inl 1) → zsh M1 (A + 2) = some (.inl 0) → zi M1 (A + 2) 5 = nI b → x ≠ A + 2 → FC_newMember_55 N KC KS (A + 2) l1 (some x) M1 = some (some x, zpi (kBeg M1 x l1) (A + 2) 5 (nI (b + 1))) := by
    intro M1 x N e1 e2 e3 e4
    unfold FC_newMember_55
    rw [qo_s rfl e1, eK_begin, qb_some, qk_d (by rw [kBeg_sh]; exact e2), kBeg_io (Ne.symm e4), e3, nI_add1]
  have hlt : (nI b < nI 150) := by rw [nI_ltI (by omega) (by omega)]; omega
  have qa150 : qi (nI b) 150 = true := qi_nI (by omega) (by omega)
  have ca : (nI b).toNatClampNeg = b := nI_clamp (by omega)
  by_cases ca0 : b < b0
  · obtain ⟨x, x1, x2⟩ := q6 b ca0
    have hx := iLay_out2 s1 (Or.inr rfl) x2
    have hx2 : x ≠ A + 2 := hx 2 (by omega)
    have hx4 : A + 4 ≠ x := Ne.symm (hx 4 (by omega))
    have hx5 : A + 5 ≠ x := Ne.symm (hx 5 (by omega))
    obtain ⟨M', e0, e1, e2, e3, e4, e5, e6, e7, e8, e9, e10, e11⟩ := kBeg_all M x l1 (nI (b + 1)) (A + 2) hx2
    have h55 := fun N => h55 M x N x2 sh2 t4 hx2
    rw [← e0] at h55
    refine ⟨x, M', fun N => ?_, hx, ?_, by rw [e8 _ _ hx5]; exact x1, ⟨by rw [e1]; exact x2, e9, e10, e11⟩, ⟨fun y s hs => by rw [e1]; exact hs, fun y h1 h2 => funext (fun j => e5 y j h1 h2), e6, fun y h1 _ => funext (fun j => e8 y j h1), fun j y hj => by rw [e8 _ _ hx5]; exact hj, fun y _ => by rw [e2]⟩, ?_, e7⟩
    · unfold FC_newMember
      rw [ql_s r2 sh4, t4, if_pos hlt, qa_s r2 sh4 qa150, ca]
      simp only
      rw [x1, if_neg (by simp)]
      exact h55 N
    · rintro (⟨j, j1, j2⟩ | ⟨j, j1, j2⟩)
      · obtain ⟨y, y1, y2⟩ := q3 j (by omega)
        rw [j2] at y1
        injection y1 with y1
        subst y1
        rw [x2] at y2
        cases y2
      · have := q8 j b (by omega) ca0 (by rw [j2, x1])
        omega
    · have f4 : ∀ j, zr M' (A + 4) j = zr M (A + 4) j := fun j => e8 _ _ hx4
      have f5 : ∀ j, zr M' (A + 5) j = zr M (A + 5) j := fun j => e8 _ _ hx5
      refine ⟨a0, b0, ⟨q1, q2, fun j hj => by rw [f4, e1]; exact q3 j hj, fun j hj => by rw [f4]; exact q4 j hj, fun i j hi hj => by rw [f4, f4]; exact q5 i j hi hj, fun j hj => by rw [f5, e1]; exact q6 j hj, fun j hj => by rw [f5]; exact q7 j hj, fun i j hi hj => by rw [f5, f5]; exact q8 i j hi hj⟩, p2, by omega, by rw [e3]; exact p4, by rw [e4]; exact p5, by rw [e3]; exact p6, fun y s hs => by rw [e3]; exact p7 y s (by rw [← e1]; exact hs)⟩
  · have ea : b0 = b := by omega
    subst ea
    have hx : ∀ c, c ≤ 72 → zsz M ≠ A + c := fun c hc => by omega
    have hx2 : zsz M ≠ A + 2 := hx 2 (by omega)
    have hx4 : A + 4 ≠ zsz M := Ne.symm (hx 4 (by omega))
    have hx5 : A + 5 ≠ zsz M := Ne.symm (hx 5 (by omega))
    have m8i : ∀ y j, y ≠ zsz M → zi (znew M (.inl 1) 6) y j = zi M y j := fun y j hy => by rw [zi_nw, if_neg hy]
    have m8r : ∀ y j, y ≠ zsz M → zr (znew M (.inl 1) 6) y j = zr M y j := fun y j hy => by rw [zr_nw, if_neg hy]
    have nsh : zsh (znew M (.inl 1) 6) (zsz M) = some (.inl 1) := z_nsh _ _ _
    have oldsh : ∀ y s, zsh M y = some s → zsh (znew M (.inl 1) 6) y = some s := fun y s hs => by
      have := p7 y s hs
      rw [zsh_nw, if_neg (by omega)]
      exact hs
    obtain ⟨M', e0, e1, e2, e3, e4, e5, e6, e7, e8, e9, e10, e11⟩ := kBeg_all (zpr (znew M (.inl 1) 6) (A + 5) b0 (some (zsz M))) (zsz M) l1 (nI (b0 + 1)) (A + 2) hx2
    have h55 := fun N => h55 (zpr (znew M (.inl 1) 6) (A + 5) b0 (some (zsz M))) (zsz M) N nsh (oldsh _ _ sh2) (by rw [zi_pr, m8i _ _ (Ne.symm hx2)]; exact t4) hx2
    rw [← e0] at h55
    have tr : ∀ y j, y ≠ zsz M → zr M' y j = if y = A + 5 ∧ j = b0 then some (zsz M) else zr M y j := fun y j hy => by
      rw [e8 y j hy, zr_pr]
      by_cases hc : y = A + 5 ∧ j = b0
      · rw [if_pos hc, if_pos hc]
      · rw [if_neg hc, if_neg hc, m8r y j hy]
    have f50 : zr M' (A + 5) b0 = some (zsz M) := by rw [tr _ _ hx5, if_pos ⟨rfl, rfl⟩]
    have f5 : ∀ j, j ≠ b0 → zr M' (A + 5) j = zr M (A + 5) j := fun j hj => by rw [tr _ _ hx5, if_neg (by omega)]
    have f4 : ∀ j, zr M' (A + 4) j = zr M (A + 4) j := fun j => by rw [tr _ _ hx4, if_neg (by omega)]
    have fsh : ∀ y s, zsh M y = some s → zsh M' y = some s := fun y s hs => by rw [e1, zsh_pr]; exact oldsh y s hs
    refine ⟨zsz M, M', fun N => ?_, hx, ?_, f50, ⟨by rw [e1, zsh_pr]; exact nsh, e9, e10, e11⟩, ⟨fsh, fun y h1 h2 => funext (fun j => by rw [e5 y j h1 h2, zi_pr, m8i y j h1]), fun j hj => by rw [e6 j hj, zi_pr, m8i _ _ (Ne.symm hx2)], fun y h1 h4 => funext (fun j => by rw [tr y j h1, if_neg (by omega)]), fun j y hj => ?_, fun y hy => funext (fun j => by rw [e2, zl_pr, zl_nw, if_neg hy])⟩, ?_, e7⟩
    · unfold FC_newMember FK_init
      rw [ql_s r2 sh4, t4, if_pos hlt, qa_s r2 sh4 qa150, ca]
      simp only
      rw [q7 b0 (Nat.le_refl _), if_pos rfl, qk_t (by simp; omega), qb_some, qk_d (oldsh _ _ sh2), m8i _ _ (Ne.symm hx2), t4, qa_s (b := A + 5) (n := 150) (by rw [m8r _ _ (Ne.symm hx2)]; exact r2) (oldsh _ _ sh4) qa150, qk_d nsh, ca]
      exact h55 N
    · rintro (⟨j, j1, j2⟩ | ⟨j, j1, j2⟩)
      · obtain ⟨y, y1, y2⟩ := q3 j (by omega)
        rw [j2] at y1
        injection y1 with y1
        subst y1
        exact absurd (p7 _ _ y2) (by omega)
      · obtain ⟨y, y1, y2⟩ := q6 j j1
        rw [j2] at y1
        injection y1 with y1
        subst y1
        exact absurd (p7 _ _ y2) (by omega)
    · by_cases hj0 : j = b0
      · rw [hj0, q7 b0 (Nat.le_refl _)] at hj
        cases hj
      · rw [f5 j hj0]
        exact hj
    · have nx : ∀ j, j < b0 → zr M (A + 5) j ≠ some (zsz M) := by
        intro j hj e
        obtain ⟨y, y1, y2⟩ := q6 j hj
        rw [e] at y1
        injection y1 with y1
        subst y1
        exact absurd (p7 _ _ y2) (by omega)
      have ez : zsz M' = zsz M + 1 := by rw [e3, zsz_pr, zsz_nw]
      have el : zsl M' = zsl M + 6 := by rw [e4, zsl_pr, zsl_nw]
      refine ⟨a0, b0 + 1, ⟨q1, by omega, fun j hj => ?_, fun j hj => by rw [f4]; exact q4 j hj, fun i j hi hj => by rw [f4, f4]; exact q5 i j hi hj, fun j hj => ?_, fun j hj => ?_, fun i j hi hj he => ?_⟩, p2, by omega, by omega, by omega, by omega, fun y s hs => ?_⟩
      · rw [f4]
        obtain ⟨y, y1, y2⟩ := q3 j hj
        exact ⟨y, y1, fsh _ _ y2⟩
      · by_cases hj0 : j = b0
        · subst hj0
          exact ⟨_, f50, by rw [e1, zsh_pr]; exact nsh⟩
        · rw [f5 j hj0]
          obtain ⟨y, y1, y2⟩ := q6 j (by omega)
          exact ⟨y, y1, fsh _ _ y2⟩
      · rw [f5 j (by omega)]
        exact q7 j (by omega)
      · by_cases hi0 : i = b0
        · by_cases hj0 : j = b0
          · omega
          · subst hi0
            rw [f50, f5 j hj0] at he
            exact absurd he.symm (nx j (by omega))
        · by_cases hj0 : j = b0
          · subst hj0
            rw [f50, f5 i hi0] at he
            exact absurd he (nx i (by omega))
          · rw [f5 i hi0, f5 j hj0] at he
            exact q8 i j (by omega) (by omega) he
      · rw [e1, zsh_pr, zsh_nw] at hs
        by_cases hy : y = zsz M
        · omega
        · rw [if_neg hy] at hs
          have := p7 y s hs
          omega
