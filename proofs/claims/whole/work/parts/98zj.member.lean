/-! COMPILING: a member with what follows it -/
theorem kI_mode {A KC KS q n d kd : Nat} {M0 : zM} {J0 : zJ} {a0 b0 c0 : Nat} {S0 R0 : Nat → Bool} {M M' : zM} {J J' : zJ} {p a b c p' : Nat} {S R : Nat → Bool} {x t k h j0 : Nat} {bs xs us hs : Nat → Nat} (hP0 : kcP A KC KS q M0 a0 b0) (hi : kI A KC KS q n d kd M0 J0 a0 b0 c0 S0 R0 M J p a b c S R x t k h bs xs us hs) (hk6 : k ≤ 6) (hj0 : j0 < k) (hS : kcS A KC KS q M' J' n p' a b c) (ho : oF A (bs j0) M M') (hzr : zr M' = zr M) (h2 : zi M' (bs j0) 2 = J' 14 (6 * t + j0)) (hmd : J' 14 (6 * t + j0) = 0 ∨ J' 14 (6 * t + j0) = 1 ∨ (J' 14 (6 * t + j0) = 2 ∧ (J 4 (bas (jcut J R) 6 (us j0)) = 1 ∨ J 4 (bas (jcut J R) 6 (us j0)) = 2) ∧ zi M' (bs j0) 3 = J' 15 (6 * t + j0))) (hb : ∀ j, j ≠ 2 → j ≠ 3 → zi M' (bs j0) j = zi M (bs j0) j) (hJ : ∀ c k, ¬ ((c = 14 ∨ c = 15) ∧ k = 6 * t + j0) → c ≠ 16 → c ≠ 17 → ¬ (c = 0 ∧ (k = 3 ∨ k = 6 ∨ k = 23 ∨ k = 24)) → J' c k = J c k) : kI A KC KS q n d kd M0 J0 a0 b0 c0 S0 R0 M' J' p' a b c S R x t k h bs xs us hs := by
  obtain ⟨i1, ⟨i2, i3⟩, ⟨f1, ⟨fa, fb, fc⟩, f3, f4, f5, f6⟩, i5, ⟨x1, x2, x3, x4, x5, x6, x7, x8, x9, x10⟩, ⟨t1, t2, t3, t4, t5, t6, t7, t8⟩, ⟨m1, m2, m3, m4⟩, i9, i10, i11⟩ := hi
  have hUx : ∀ z, kU A M a b z → ∀ c, c ≤ 72 → z ≠ A + c := fun z hz => (kU_x i1.1 i1.2.1 hz).1
  have hbx := hUx _ (i10 j0 hj0).1
  have s0 := (m1 j0 hj0).1
  have xb : x ≠ bs j0 := fun e => by rw [← e, x5] at s0; cases s0
  have hU : ∀ z, kU A M a b z → z ≠ bs j0 → zi M' z = zi M z := fun z hz hne => ho.2.2.2.2.1 z hne (hUx z hz 2 (by omega))
  have hSb : ∀ z, S z = true → z ≠ bs j0 := fun z hz e => by rw [e, (m1 j0 hj0).2.1] at hz; cases hz
  have shM : ∀ z s, zsh M z = some s → zsh M' z = some s := fun z s hs => by rw [ho.1]; exact hs
  have hm : wMf A M M' := oF_wMf hbx ho (by have := hS.2.2.2.1.1; rw [this]; exact i1.2.2.2.1.1.symm)
  have hj : kJ J J' := fun cc j h1 h2 => hJ cc j (by omega) (by omega) (by omega) (by omega)
  have tR : tAg R J J' := fun z hz => by
    have hzt : z ≠ t := fun e => by rw [e, t3] at hz; cases hz
    exact ⟨fun j h1 h2 => hJ j z (by omega) (by omega) (by omega) (by omega), fun i hi j h1 h2 => hJ j _ (by omega) (by omega) (by omega) (by omega)⟩
  have dU : ∀ z v hv, dT M J S R z v hv → dT M' J' S R z v hv := fun z v hv hz => dT_up (fun _ h => h) tR (fun w hw => ⟨hw, hU w (i5.1 w hw) (hSb w hw), by rw [hzr], fun s hs => shM w s hs⟩) hz
  have hUU : ∀ z, kU A M a b z → kU A M' a b z := fun z hz => by unfold kU; rw [hzr]; exact hz
  have tc : ∀ j, 4 ≤ j → j ≤ 12 → J' j t = J j t := fun j h1 h2 => hJ j t (by omega) (by omega) (by omega) (by omega)
  refine ⟨hS, ⟨by rw [hJ 0 5 (by omega) (by omega) (by omega) (by omega)]; exact i2, by rw [hJ 2 d (by omega) (by omega) (by omega) (by omega)]; exact i3⟩, ⟨?_, ⟨fa, fb, fc⟩, f3, f4, f5, f6⟩, ?_, ⟨x1, hUU x x2, x3, x4, shM _ _ x5, by rw [hU x x2 xb]; exact x6, by rw [hU x x2 xb]; exact x7, by rw [hU x x2 xb]; exact x8, by rw [hU x x2 xb]; exact x9, by rw [hU x x2 xb]; exact x10⟩, ⟨t1, t2, t3, by rw [tc 4 (by omega) (by omega)]; exact t4, by rw [tc 8 (by omega) (by omega)]; exact t5, by rw [tc 9 (by omega) (by omega)]; exact t6, by rw [tc 10 (by omega) (by omega)]; exact t7, by rw [tc 11 (by omega) (by omega)]; exact t8⟩, ⟨fun j hjk => ?_, m2, by rw [hzr]; exact m3, by rw [hzr]; exact m4⟩, fun hk j hjk => ?_, fun j hjk => ?_, i11⟩
  · refine kF_trans f1 (b1 := b0) (a1 := a0) (c1 := c0) (d1 := d) ⟨hm, hj, fun z hz => ?_, fun z hz => ?_, fun j hj => hJ 2 j (by omega) (by omega) (by omega) (by omega), funext (fun j => hJ 3 j (by omega) (by omega) (by omega) (by omega)), by rw [hzr], fun e j y _ hj => by rw [hzr]; exact hj⟩ (Nat.le_refl _) (Nat.le_refl _) (Nat.le_refl _) (Nat.le_refl _)
    · have hz0 := kU_dn hP0 f1.2.2.2.2.2.2.2 hz
      have hzU : kU A M a b z := kU_up (fun _ _ _ _ h => h) fa fb hz
      exact ⟨hU z hzU (fun e => (i10 j0 hj0).2.1 (by rw [← e]; exact hz0)), by rw [hzr]⟩
    · have := low_t.mp hz
      exact ⟨fun j h1 h2 => hJ j z (by omega) (by omega) (by omega) (by omega), fun i hi j h1 h2 => hJ j _ (by omega) (by omega) (by omega) (by omega)⟩
  · exact kcN_up i5 (fun z hz => ⟨hU z (i5.1 z hz) (hSb z hz), by rw [hzr], fun s hs => shM z s hs⟩) tR (funext (fun j => hJ 3 j (by omega) (by omega) (by omega) (by omega))) (by rw [hzr]) (fun e j y _ hj => by rw [hzr]; exact hj) (Nat.le_refl _) (Nat.le_refl _) (Nat.le_refl _)
  · obtain ⟨e1, e2, e3, e4, e5, e6, e7, e8⟩ := m1 j hjk
    have q13 : J' 13 (6 * t + j) = J 13 (6 * t + j) := hJ 13 _ (by omega) (by omega) (by omega) (by omega)
    by_cases hjj : j = j0
    · subst hjj
      exact ⟨shM _ _ e1, e2, by rw [hzr]; exact e3, by rw [hb 1 (by omega) (by omega)]; exact e4, by rw [hzr]; exact e5, by rw [hb 4 (by omega) (by omega)]; exact e6, by rw [q13]; exact e7, dU _ _ _ e8⟩
    · have hne : bs j ≠ bs j0 := fun e => hjj (m2 j j0 hjk hj0 e)
      have := hU _ (i10 j hjk).1 hne
      exact ⟨shM _ _ e1, e2, by rw [hzr]; exact e3, by rw [this]; exact e4, by rw [hzr]; exact e5, by rw [this]; exact e6, by rw [q13]; exact e7, dU _ _ _ e8⟩
  · have hdj := (m1 j hjk).2.2.2.2.2.2.2
    have h6 : hs j + 1 ≤ 6 := by have := (i10 j hjk).2.2.1; omega
    have hbq := (bas_R (fun _ h => h) tR hdj.1).resolve_right (fun z => z h6)
    by_cases hjj : j = j0
    · subst hjj
      refine ⟨h2, ?_⟩
      rcases hmd with e | e | ⟨e1, e2, e3⟩
      · exact Or.inl e
      · exact Or.inr (Or.inl e)
      · exact Or.inr (Or.inr ⟨e1, by rw [hbq]; exact e2, e3⟩)
    · have hne : bs j ≠ bs j0 := fun e => hjj (m2 j j0 hjk hj0 e)
      have q14 : J' 14 (6 * t + j) = J 14 (6 * t + j) := hJ 14 _ (by omega) (by omega) (by omega) (by omega)
      have q15 : J' 15 (6 * t + j) = J 15 (6 * t + j) := hJ 15 _ (by omega) (by omega) (by omega) (by omega)
      rw [hU _ (i10 j hjk).1 hne, q14, q15, hbq]
      exact i9 hk j hjk
  · obtain ⟨e1, e2, e3, e4⟩ := i10 j hjk
    exact ⟨hUU _ e1, e2, e3, e4⟩
theorem e103_bad {J : zJ} {t : Nat} (h : ¬ J 0 4 ≤ 0) (N : Nat) : FM_end_103 N (nI t) J = some (-1, J) := by
  unfold FM_end_103
  rw [if_neg h]
theorem kc_member {A KC KS q n d kd : Nat} {M0 : zM} {J0 : zJ} {a0 b0 c0 : Nat} {S0 R0 : Nat → Bool} {M : zM} {J : zJ} {p a b c : Nat} {S R : Nat → Bool} {x t k h : Nat} {bs xs us hs : Nat → Nat} {rec : Nat → (Nat × Int32 × zM) → Option (Option Nat × zM)} (hP0 : kcP A KC KS q M0 a0 b0) (hi : kI A KC KS q n d kd M0 J0 a0 b0 c0 S0 R0 M J p a b c S R x t k h bs xs us hs) (hkd : kd = 6 ∨ kd = 9) (hk : k < 6) (hrec : kTy A KC KS q (fun N M => rec N (A + 2, nI (d + 1), M)) (d + 1)) :
    (∃ M2 J2 p2 a2 b2 c2 S2 R2 h2 bs2 xs2 us2 hs2, Ev (fun N => FC_readMember N KC KS (rec N) (A + 2) (some x) (nI (d + 1)) M = some (true, M2)) ∧ (∀ s, Ev (fun N => FM_end_103 N (nI t) J2 = some s) → goW (-1, J) s) ∧ kI A KC KS q n d kd M0 J0 a0 b0 c0 S0 R0 M2 J2 p2 a2 b2 c2 S2 R2 x t (k + 1) h2 bs2 xs2 us2 hs2 ∧ p < p2 ∧ wMf A M M2 ∧ kJ J J2) ∨
    (∃ M2 J2, Ev (fun N => FC_readMember N KC KS (rec N) (A + 2) (some x) (nI (d + 1)) M = some (false, M2)) ∧ goW (-1, J) (-1, J2) ∧ kcBad A KC KS q M J M2 J2) := by
  have hi' := hi
  obtain ⟨i1, ⟨i2, i3⟩, i4, i5, -⟩ := hi
  rcases hrec M J n p a b c S R i1 i2 i5 with ⟨M1, J1, y, u, e1, e2, p1, a1, b1, c1, S1, R1, hu, g1, g2, ⟨g3, g4, g5, g6, g7⟩, g8, g9, g10, g11, g12, g13, g14⟩ | ⟨M1, J1, e1, e2, e3⟩
  case inr =>
    right
    refine ⟨M1, J1, ev_mono e1 (fun N hN => ?_), e2, e3⟩
    unfold FC_readMember
    rw [show rec N (A + 2, nI (d + 1), M) = some (none, M1) from hN, qb_some, if_pos rfl]
  have hI1 := kI_up hi' (by omega) g1 g14 g2 ⟨g3, g4, g5⟩ g8 g9 g10 g11
  obtain ⟨bo, M12, q1, q2, q3, q4, q5, q6, q7, q8, q9⟩ := kI_add hP0 hI1 hkd hk g7 g12 g13
  have hu160 : u < 160 := by
    have := (g11 u (dT_lt g12)).1
    have := g1.2.2.2.2.2.2.2.2.2.2.2
    have := (kc_7 g1).2.2.2
    omega
  have hgo : ∀ J2 s, (∀ N, FM_end_103 N (nI t) J2 = some s → FM_end N (nI u) J1 = some s) → Ev (fun N => FM_end_103 N (nI t) J2 = some s) → goW (-1, J) s := by
    intro J2 s h1 h2
    exact goW_trans e2 (goW_e hu160 g14 (by omega) (ev_mono h2 (fun N hN => h1 N hN)))
  by_cases k9 : kd = 9
  · left
    refine ⟨M12, eMm J1 t u k (max h (hu + 1)), p1, a1, b1 + 1, c1, S1, R1, max h (hu + 1), updN bs k bo, updN xs k y, updN us k u, updN hs k hu, ev_mono e1 (fun N hN => ?_), fun s hs => hgo _ s (fun N hN => ?_) hs, q3, g6, wMf_trans g2.1 q8, kJ_trans g2.2.1 (kJ_k _ _ _ _ _)⟩
    · rw [q1 N (rec N) (nI (d + 1)) M hN, if_pos k9]
    · rw [q2, if_neg (by omega)]
      exact hN
  · have k6 : kd = 6 := by omega
    have hRt : ∀ t', R1 t' = true → ∀ j, j < 6 → 6 * t' + j ≠ 6 * t + k := by
      intro t' ht' j hj e
      have htt : t' = t := by omega
      rw [htt] at ht'
      have := q3.2.2.2.2.2.1.2.2.1
      rw [this] at ht'
      cases ht'
    obtain ⟨be, r1, r2⟩ := kc_mode (y4 := 6 * t + k) q3.1 q4 q5 q9 (by omega) (fun t' ht' => (g11 t' ht').1) (by have := q3.2.2.2.2.2.1.1; have := q3.1.2.2.2.2.2.2.2.2.2.2.2; have := (kc_7 g1).2.2.2; omega) hRt q6 eMm_v.2.1 q7
    have hCm : ∀ N, rec N (A + 2, nI (d + 1), M) = some (some y, M1) → FT_untagged N M12 y = some (some be) → FC_readMember N KC KS (rec N) (A + 2) (some x) (nI (d + 1)) M = qb (FC_readMode N KC KS (A + 2) (some bo) (some be) M12) fun v17 M18 => if (bI v17) = 0 then some (false, M18) else some (true, M18) := by
      intro N h1 h2
      rw [q1 N (rec N) (nI (d + 1)) M h1, if_neg k9, h2, qc_some]
    rcases r2 with ⟨M', J', p', z1, z2, z3, z4, z5, z6, z7, z8, z9, z10⟩ | ⟨M', J', z1, z2, z3⟩
    · left
      have hb : updN bs k bo k = bo := updN_k _ _ _
      have hI3 := kI_mode (j0 := k) hP0 q3 (by omega) (by omega) z2 (by rw [hb]; exact z5) z6 (by rw [hb]; exact z7) (by rw [hb, updN_k]; exact z8) (by rw [hb]; exact z9) z10
      refine ⟨M', J', p', a1, b1 + 1, c1, S1, R1, max h (hu + 1), updN bs k bo, updN xs k y, updN us k u, updN hs k hu, ev_mono (ev_and (ev_and e1 r1) z3) (fun N hN => ?_), fun s hs => ?_, hI3, by omega, wMf_trans g2.1 (wMf_trans q8 (oF_wMf q4 z5 (by have := z2.2.2.2.1.1; rw [this]; exact q3.1.2.2.2.1.1.symm))), kJ_trans g2.2.1 (kJ_trans (kJ_k _ _ _ _ _) (fun cc j h1 h2 => z10 cc j (by omega) (by omega) (by omega) (by omega)))⟩
      · rw [hCm N hN.1.1 hN.1.2, hN.2, qb_some, if_neg (by decide)]
      · refine goW_trans e2 (goW_e hu160 g14 (by omega) (ev_mono (ev_and z4 hs) (fun N hN => ?_)))
        rw [q2, if_pos k6, hN.1, qb_some]
        exact hN.2
    · right
      obtain ⟨f, f1, f2, f3, f4, f5⟩ := kcBad_J z1
      refine ⟨M', J', ev_mono (ev_and (ev_and e1 r1) z2) (fun N hN => ?_), goW_trans e2 (goW_e hu160 g14 (by omega) (ev_mono z3 (fun N hN => ?_))), kcBad_l (wMf_trans g2.1 q8) (kJ_trans g2.2.1 (kJ_k _ _ _ _ _)) z1⟩
      · rw [hCm N hN.1.1 hN.1.2, hN.2, qb_some, if_pos (by decide)]
      · rw [q2, if_pos k6, hN, qb_some, e103_bad f4]
