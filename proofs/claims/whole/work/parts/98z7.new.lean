/-! COMPILING: new types, new members, new nodes -/
theorem kcS_k {A KC KS q n p a b c p' a' b' c' : Nat} {M M' : zM} {J J' : zJ} (h : kcS A KC KS q M J n p a b c) (hk : wMf A M M') (hP : kcP A KC KS q M' a' b') (h7 : zi M' (A + 2) 7 = nI p') (h8 : zi M' (A + 2) 8 = 0) (h4 : zi M' (A + 2) 4 = nI a') (h5 : zi M' (A + 2) 5 = nI b') (hj : kJ J J') (j3 : J' 0 3 = nI p') (j4 : J' 0 4 = 0) (j10 : J' 0 10 = nI c') (hpn : p' ≤ n) (ha : a' ≤ p') (hb : b' ≤ p') (hc : c' ≤ p') : kcS A KC KS q M' J' n p' a' b' c' := by
  obtain ⟨s1, s2, s3, ⟨x1, x2, x3⟩, -⟩ := h
  have j1 : J' 1 = J 1 := funext (fun k => hj 1 k (by omega) (by omega))
  refine ⟨wMf_lay hk s1, hP, s3, ⟨by rw [hk.2.2.2.2]; exact x1, by rw [hj 0 2 (by omega) (by omega)]; exact x2, fun k hkn => ?_⟩, ⟨h7, j3, hpn⟩, ⟨h8, j4⟩, h4, h5, j10, ha, hb, hc⟩
  rw [j1, hk.2.1 1 (by omega) (by omega)]
  exact x3 k hkn
def kU (A : Nat) (M : zM) (a b x : Nat) : Prop := (∃ j, j < a ∧ zr M (A + 4) j = some x) ∨ (∃ j, j < b ∧ zr M (A + 5) j = some x)
/-- x has been made anew: the pool e and its counter -/
def gN (A : Nat) (M M' : zM) (x e : Nat) : Prop := (∀ y s, zsh M y = some s → zsh M' y = some s) ∧ (∀ y, y ≠ x → y ≠ A + 2 → zi M' y = zi M y) ∧ (∀ j, j ≠ e → zi M' (A + 2) j = zi M (A + 2) j) ∧ (∀ y, y ≠ x → y ≠ A + e → zr M' y = zr M y) ∧ (∀ j y, zr M (A + e) j = some y → zr M' (A + e) j = some y) ∧ (∀ y, y ≠ x → zl M' y = zl M y)
theorem gN_wMf {A x e : Nat} {M M' : zM} (hx : ∀ c, c ≤ 72 → x ≠ A + c) (he : e = 4 ∨ e = 5) (h : gN A M M' x e) : wMf A M M' := by
  obtain ⟨h1, h2, h3, h4, h5, h6⟩ := h
  exact ⟨h1, fun c hc h2c => h2 _ (Ne.symm (hx c hc)) (by omega), fun c hc a b d => h4 _ (Ne.symm (hx c hc)) (by omega), fun c hc => h6 _ (Ne.symm (hx c hc)), h3 6 (by omega)⟩
def tBeg (M : zM) (x : Nat) (k tg : Int32) : zM := zpr (zpr (zpr (zpi (zpi (zpi (zpi (zpi (zpi (zpi (zpi (zpi M x 0 k) x 1 0) x 2 0) x 3 0) x 4 0) x 5 0) x 6 tg) x 7 0) x 8 0) x 9 none) x 10 none) x 11 none
theorem tBeg_io {M : zM} {x y j : Nat} {k tg : Int32} (h : y ≠ x) : zi (tBeg M x k tg) y j = zi M y j := by
  unfold tBeg
  simp only [zi_pr, zi_pi, h, false_and, if_false]
theorem tBeg_ro {M : zM} {x y j : Nat} {k tg : Int32} (h : y ≠ x) : zr (tBeg M x k tg) y j = zr M y j := by
  unfold tBeg
  simp only [zr_pr, zr_pi, h, false_and, if_false]
theorem tBeg_i0 {M : zM} {x : Nat} {k tg : Int32} : zi (tBeg M x k tg) x 0 = k := by
  unfold tBeg
  simp [zi_pr, zi_pi]
theorem tBeg_i6 {M : zM} {x : Nat} {k tg : Int32} : zi (tBeg M x k tg) x 6 = tg := by
  unfold tBeg
  simp [zi_pr, zi_pi]
theorem tBeg_ij {M : zM} {x j : Nat} {k tg : Int32} (h8 : j ≤ 8) (h0 : j ≠ 0) (h6 : j ≠ 6) : zi (tBeg M x k tg) x j = 0 := by
  have : j = 1 ∨ j = 2 ∨ j = 3 ∨ j = 4 ∨ j = 5 ∨ j = 7 ∨ j = 8 := by omega
  unfold tBeg
  rcases this with rfl | rfl | rfl | rfl | rfl | rfl | rfl <;> simp [zi_pr, zi_pi]
theorem tBeg_r {M : zM} {x j : Nat} {k tg : Int32} (h9 : 9 ≤ j) (h11 : j ≤ 11) : zr (tBeg M x k tg) x j = none := by
  have : j = 9 ∨ j = 10 ∨ j = 11 := by omega
  unfold tBeg
  rcases this with rfl | rfl | rfl <;> simp [zr_pr]
def tgK (k : Nat) : Int32 := if k = 1 then 2 else if k = 2 then 4 else if k = 4 then 16 else if k = 5 then 32 else if k = 6 ∨ k = 7 then 65536 else 0
def isK (k : Nat) : Prop := k = 1 ∨ k = 2 ∨ k = 4 ∨ k = 5 ∨ k = 6 ∨ k = 7 ∨ k = 9 ∨ k = 10
theorem eT_tags {k : Nat} (hk : isK k) (N : Nat) : FT_tagsOf N (nI k) = some (tgK k) := by
  unfold FT_tagsOf tgK
  rcases hk with rfl | rfl | rfl | rfl | rfl | rfl | rfl | rfl <;> decide
theorem eT_begin {k x KC KS : Nat} (hk : isK k) (M : zM) (N : Nat) : FT_begin N KC KS x (nI k) M = some ((), tBeg M x (nI k) (tgK k)) := by
  unfold FT_begin
  simp only
  rw [eT_tags hk, qc_some]
  rfl
theorem tBeg_all (M1 : zM) (x : Nat) (k tg v : Int32) (o : Nat) (hxo : x ≠ o) : ∃ M', M' = zpi (tBeg M1 x k tg) o 4 v ∧ zsh M' = zsh M1 ∧ zl M' = zl M1 ∧ zsz M' = zsz M1 ∧ zsl M' = zsl M1 ∧ (∀ y j, y ≠ x → y ≠ o → zi M' y j = zi M1 y j) ∧ (∀ j, j ≠ 4 → zi M' o j = zi M1 o j) ∧ zi M' o 4 = v ∧ (∀ y j, y ≠ x → zr M' y j = zr M1 y j) ∧ zi M' x 0 = k ∧ zi M' x 6 = tg ∧ (∀ j, j ≤ 8 → j ≠ 0 → j ≠ 6 → zi M' x j = 0) ∧ (∀ j, 9 ≤ j → j ≤ 11 → zr M' x j = none) := by
  refine ⟨_, rfl, ?_, ?_, ?_, ?_, fun y j h1 h2 => ?_, fun j hj => ?_, ?_, fun y j h1 => ?_, ?_, ?_, fun j h8 h0 h6 => ?_, fun j h9 h11 => ?_⟩
  · unfold tBeg
    simp only [zsh_pi, zsh_pr]
  · unfold tBeg
    simp only [zl_pi, zl_pr]
  · unfold tBeg
    simp only [zsz_pi, zsz_pr]
  · unfold tBeg
    simp only [zsl_pi, zsl_pr]
  · rw [zi_pi, if_neg (fun z => h2 z.1), tBeg_io h1]
  · rw [zi_pi, if_neg (by omega), tBeg_io (Ne.symm hxo)]
  · rw [zi_pi, if_pos ⟨rfl, rfl⟩]
  · rw [zr_pi, tBeg_ro h1]
  · rw [zi_pi, if_neg (fun z => hxo z.1), tBeg_i0]
  · rw [zi_pi, if_neg (fun z => hxo z.1), tBeg_i6]
  · rw [zi_pi, if_neg (fun z => hxo z.1), tBeg_ij h8 h0 h6]
  · rw [zr_pi, tBeg_r h9 h11]
theorem tBeg_sh (M : zM) (x y : Nat) (k tg : Int32) : zsh (tBeg M x k tg) y = zsh M y := by
  unfold tBeg
  simp only [zsh_pi, zsh_pr]
def tNew (M : zM) (x : Nat) (k tg : Int32) : Prop := zsh M x = some (.inl 6) ∧ zi M x 0 = k ∧ (∀ j, j ≤ 8 → j ≠ 0 → j ≠ 6 → zi M x j = 0) ∧ zi M x 6 = tg ∧ ∀ j, 9 ≤ j → j ≤ 11 → zr M x j = none
theorem iLay_out2 {M : zM} {A : Nat} (h : iLay M A) {b ci : Nat} (hci : ci = 6 ∨ ci = 1) (hs : zsh M b = some (.inl ci)) : ∀ c, c ≤ 72 → b ≠ A + c := by
  intro c hc e
  have h1 := iLay_out h hci hs
  have h2 : c = 72 := by omega
  subst h2 e
  rw [h.2.2] at hs
  cases hs
theorem kc_newT {A KC KS q n p a b c k : Nat} {M : zM} {J : zJ} (h : kcS A KC KS q M J n p a b c) (ha : a < p) (hk : isK k) : ∃ x M', (∀ N, FC_newType N KC KS (A + 2) (nI k) M = some (some x, M')) ∧ (∀ c, c ≤ 72 → x ≠ A + c) ∧ ¬ kU A M a b x ∧ zr M' (A + 4) a = some x ∧ tNew M' x (nI k) (tgK k) ∧ gN A M M' x 4 ∧ kcP A KC KS q M' (a + 1) b ∧ zi M' (A + 2) 4 = nI (a + 1) := by
  obtain ⟨s1, ⟨a0, b0, ⟨q1, q2, q3, q4, q5, q6, q7, q8⟩, p2, p3, p4, p5, p6, p7⟩, s3, s4, ⟨s5, s6, s7⟩, -, t4, -⟩ := h
  have hL := s1.1
  have r2 : zr M (A + 2) 2 = some (A + 4) := zLr hL 36 rfl
  have sh4 : zsh M (A + 4) = some (.inr (4, 150)) := zLs hL 4 rfl
  have sh2 : zsh M (A + 2) = some (.inl 0) := zLs hL 2 rfl
  have h55 : ∀ (M1 : zM) x N, zsh M1 x = some (.inl 6) → zsh M1 (A + 2) = some (.inl 0) → zi M1 (A + 2) 4 = nI a → x ≠ A + 2 → FC_newType_55 N KC KS (A + 2) (nI k) (some x) M1 = some (some x, zpi (tBeg M1 x (nI k) (tgK k)) (A + 2) 4 (nI (a + 1))) := by
    intro M1 x N e1 e2 e3 e4
    unfold FC_newType_55
    rw [qo_s rfl e1, eT_begin hk, qb_some, qk_d (by rw [tBeg_sh]; exact e2), tBeg_io (Ne.symm e4), e3, nI_add1]
  have hlt : (nI a < nI 150) := by rw [nI_ltI (by omega) (by omega)]; omega
  have qa150 : qi (nI a) 150 = true := qi_nI (by omega) (by omega)
  have ca : (nI a).toNatClampNeg = a := nI_clamp (by omega)
  by_cases ca0 : a < a0
  · obtain ⟨x, x1, x2⟩ := q3 a ca0
    have hx := iLay_out2 s1 (Or.inl rfl) x2
    have hx2 : x ≠ A + 2 := hx 2 (by omega)
    have hx4 : A + 4 ≠ x := Ne.symm (hx 4 (by omega))
    have hx5 : A + 5 ≠ x := Ne.symm (hx 5 (by omega))
    obtain ⟨M', e0, e1, e2, e3, e4, e5, e6, e7, e8, e9, e10, e11, e12⟩ := tBeg_all M x (nI k) (tgK k) (nI (a + 1)) (A + 2) hx2
    have h55 := fun N => h55 M x N x2 sh2 t4 hx2
    rw [← e0] at h55
    refine ⟨x, M', fun N => ?_, hx, ?_, by rw [e8 _ _ hx4]; exact x1, ⟨by rw [e1]; exact x2, e9, e11, e10, e12⟩, ⟨fun y s hs => by rw [e1]; exact hs, fun y h1 h2 => funext (fun j => e5 y j h1 h2), e6, fun y h1 _ => funext (fun j => e8 y j h1), fun j y hj => by rw [e8 _ _ hx4]; exact hj, fun y _ => by rw [e2]⟩, ?_, e7⟩
    · unfold FC_newType
      rw [ql_s r2 sh4, t4, if_pos hlt, qa_s r2 sh4 qa150, ca]
      simp only
      rw [x1, if_neg (by simp)]
      exact h55 N
    · rintro (⟨j, j1, j2⟩ | ⟨j, j1, j2⟩)
      · have := q5 j a (by omega) ca0 (by rw [j2, x1])
        omega
      · obtain ⟨y, y1, y2⟩ := q6 j (by omega)
        rw [j2] at y1
        injection y1 with y1
        subst y1
        rw [x2] at y2
        cases y2
    · have f4 : ∀ j, zr M' (A + 4) j = zr M (A + 4) j := fun j => e8 _ _ hx4
      have f5 : ∀ j, zr M' (A + 5) j = zr M (A + 5) j := fun j => e8 _ _ hx5
      refine ⟨a0, b0, ⟨q1, q2, fun j hj => by rw [f4, e1]; exact q3 j hj, fun j hj => by rw [f4]; exact q4 j hj, fun i j hi hj => by rw [f4, f4]; exact q5 i j hi hj, fun j hj => by rw [f5, e1]; exact q6 j hj, fun j hj => by rw [f5]; exact q7 j hj, fun i j hi hj => by rw [f5, f5]; exact q8 i j hi hj⟩, by omega, p3, by rw [e3]; exact p4, by rw [e4]; exact p5, by rw [e3]; exact p6, fun y s hs => by rw [e3]; exact p7 y s (by rw [← e1]; exact hs)⟩
  · have ea : a0 = a := by omega
    subst ea
    have hx : ∀ c, c ≤ 72 → zsz M ≠ A + c := fun c hc => by omega
    have hx2 : zsz M ≠ A + 2 := hx 2 (by omega)
    have hx4 : A + 4 ≠ zsz M := Ne.symm (hx 4 (by omega))
    have hx5 : A + 5 ≠ zsz M := Ne.symm (hx 5 (by omega))
    have m8i : ∀ y j, y ≠ zsz M → zi (znew M (.inl 6) 12) y j = zi M y j := fun y j hy => by rw [zi_nw, if_neg hy]
    have m8r : ∀ y j, y ≠ zsz M → zr (znew M (.inl 6) 12) y j = zr M y j := fun y j hy => by rw [zr_nw, if_neg hy]
    have nsh : zsh (znew M (.inl 6) 12) (zsz M) = some (.inl 6) := z_nsh _ _ _
    have oldsh : ∀ y s, zsh M y = some s → zsh (znew M (.inl 6) 12) y = some s := fun y s hs => by
      have := p7 y s hs
      rw [zsh_nw, if_neg (by omega)]
      exact hs
    obtain ⟨M', e0, e1, e2, e3, e4, e5, e6, e7, e8, e9, e10, e11, e12⟩ := tBeg_all (zpr (znew M (.inl 6) 12) (A + 4) a0 (some (zsz M))) (zsz M) (nI k) (tgK k) (nI (a0 + 1)) (A + 2) hx2
    have h55 := fun N => h55 (zpr (znew M (.inl 6) 12) (A + 4) a0 (some (zsz M))) (zsz M) N nsh (oldsh _ _ sh2) (by rw [zi_pr, m8i _ _ (Ne.symm hx2)]; exact t4) hx2
    rw [← e0] at h55
    have tr : ∀ y j, y ≠ zsz M → zr M' y j = if y = A + 4 ∧ j = a0 then some (zsz M) else zr M y j := fun y j hy => by
      rw [e8 y j hy, zr_pr]
      by_cases hc : y = A + 4 ∧ j = a0
      · rw [if_pos hc, if_pos hc]
      · rw [if_neg hc, if_neg hc, m8r y j hy]
    have f40 : zr M' (A + 4) a0 = some (zsz M) := by rw [tr _ _ hx4, if_pos ⟨rfl, rfl⟩]
    have f4 : ∀ j, j ≠ a0 → zr M' (A + 4) j = zr M (A + 4) j := fun j hj => by rw [tr _ _ hx4, if_neg (by omega)]
    have f5 : ∀ j, zr M' (A + 5) j = zr M (A + 5) j := fun j => by rw [tr _ _ hx5, if_neg (by omega)]
    have fsh : ∀ y s, zsh M y = some s → zsh M' y = some s := fun y s hs => by rw [e1, zsh_pr]; exact oldsh y s hs
    refine ⟨zsz M, M', fun N => ?_, hx, ?_, f40, ⟨by rw [e1, zsh_pr]; exact nsh, e9, e11, e10, e12⟩, ⟨fsh, fun y h1 h2 => funext (fun j => by rw [e5 y j h1 h2, zi_pr, m8i y j h1]), fun j hj => by rw [e6 j hj, zi_pr, m8i _ _ (Ne.symm hx2)], fun y h1 h4 => funext (fun j => by rw [tr y j h1, if_neg (by omega)]), fun j y hj => ?_, fun y hy => funext (fun j => by rw [e2, zl_pr, zl_nw, if_neg hy])⟩, ?_, e7⟩
    · unfold FC_newType FT_init
      rw [ql_s r2 sh4, t4, if_pos hlt, qa_s r2 sh4 qa150, ca]
      simp only
      rw [q4 a0 (Nat.le_refl _), if_pos rfl, qk_t (by simp; omega), qb_some, qk_d (oldsh _ _ sh2), m8i _ _ (Ne.symm hx2), t4, qa_s (b := A + 4) (n := 150) (by rw [m8r _ _ (Ne.symm hx2)]; exact r2) (oldsh _ _ sh4) qa150, qk_d nsh, ca]
      exact h55 N
    · rintro (⟨j, j1, j2⟩ | ⟨j, j1, j2⟩)
      · obtain ⟨y, y1, y2⟩ := q3 j j1
        rw [j2] at y1
        injection y1 with y1
        subst y1
        exact absurd (p7 _ _ y2) (by omega)
      · obtain ⟨y, y1, y2⟩ := q6 j (by omega)
        rw [j2] at y1
        injection y1 with y1
        subst y1
        exact absurd (p7 _ _ y2) (by omega)
    · by_cases hj0 : j = a0
      · rw [hj0, q4 a0 (Nat.le_refl _)] at hj
        cases hj
      · rw [f4 j hj0]
        exact hj
    · have nx : ∀ j, j < a0 → zr M (A + 4) j ≠ some (zsz M) := by
        intro j hj e
        obtain ⟨y, y1, y2⟩ := q3 j hj
        rw [e] at y1
        injection y1 with y1
        subst y1
        exact absurd (p7 _ _ y2) (by omega)
      have ez : zsz M' = zsz M + 1 := by rw [e3, zsz_pr, zsz_nw]
      have el : zsl M' = zsl M + 12 := by rw [e4, zsl_pr, zsl_nw]
      refine ⟨a0 + 1, b0, ⟨by omega, q2, fun j hj => ?_, fun j hj => ?_, fun i j hi hj he => ?_, fun j hj => ?_, fun j hj => by rw [f5]; exact q7 j hj, fun i j hi hj => by rw [f5, f5]; exact q8 i j hi hj⟩, by omega, p3, by omega, by omega, by omega, fun y s hs => ?_⟩
      · by_cases hj0 : j = a0
        · subst hj0
          exact ⟨_, f40, by rw [e1, zsh_pr]; exact nsh⟩
        · rw [f4 j hj0]
          obtain ⟨y, y1, y2⟩ := q3 j (by omega)
          exact ⟨y, y1, fsh _ _ y2⟩
      · rw [f4 j (by omega)]
        exact q4 j (by omega)
      · by_cases hi0 : i = a0
        · by_cases hj0 : j = a0
          · omega
          · subst hi0
            rw [f40, f4 j hj0] at he
            exact absurd he.symm (nx j (by omega))
        · by_cases hj0 : j = a0
          · subst hj0
            rw [f40, f4 i hi0] at he
            exact absurd he (nx i (by omega))
          · rw [f4 i hi0, f4 j hj0] at he
            exact q5 i j (by omega) (by omega) he
      · rw [f5]
        obtain ⟨y, y1, y2⟩ := q6 j hj
        exact ⟨y, y1, fsh _ _ y2⟩
      · rw [e1, zsh_pr, zsh_nw] at hs
        by_cases hy : y = zsz M
        · omega
        · rw [if_neg hy] at hs
          have := p7 y s hs
          omega
