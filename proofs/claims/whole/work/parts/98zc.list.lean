/-! COMPILING: lists -/
theorem kc_list {A KC KS q n p a b c d : Nat} {M : zM} {J : zJ} {S R : Nat → Bool} {rec : Nat → (Nat × Int32 × zM) → Option (Option Nat × zM)} (h : kcS A KC KS q M J n p a b c) (h5 : J 0 5 = nI d) (hN : kcN A M J S R a b c) (hd : d < 6) (hrec : kTy A KC KS q (fun N M => rec N (A + 2, nI (d + 1), M)) (d + 1)) (hpn : p < n) (hnm : ¬ (65 ≤ (cx J n p).toInt ∧ (cx J n p).toInt ≤ 90)) (hC : ∀ N, FC_kindOf N (cx J n p) = some (nI 7)) (hM : ∀ N, FM_begin N J = FM_begin_110 N (nI 7) J) : kRes A KC KS q n d M J p a b c S R (fun N => FC_readUntagged N KC KS (rec N) (A + 2) (nI d) M) := by
  obtain ⟨x, M8, g1, g2, g3⟩ := kc_up (rec := rec) h h5 hd (by unfold isK; omega) hpn hnm hC hM
  obtain ⟨k1, k2, k3, k4, k5, k6⟩ := kc_7 h
  have g1' := g1
  obtain ⟨m1, m2, m3, m4, ⟨n1, n2, n3, n4, n5⟩, m6, m7, m8, ⟨j4, j8, j10, j11, j9, j5⟩, m10, ma, mb, mc⟩ := g1
  have hC2 : ∀ N, FC_readUntagged N KC KS (rec N) (A + 2) (nI d) M = qb (FC_readBounds N KC KS (A + 2) (some x) M8) fun v10 M11 => if (bI v10) = 0 then some (none, M11) else qk (decide (zsh M11 (A + 2) = some (.inl 0))) <| qb (FC_readItems N KC KS (rec N) (A + 2) (some x) (nI d) M11) fun v13 M14 => if (bI v13) = 0 then some (none, M14) else some (some x, M14) := by
    intro N
    rw [g2, if_neg (by decide), if_neg (by decide), if_pos (by decide)]
  have hM2 : ∀ N, FM_begin N J = qb (FM_look N (aJ (jP J (p + 1)) c 7)) fun v4 J5 => if v4 = 40 then (if nI 7 = 2 then FM_begin_247 N (nI 7) (nI c) (nI c) 1 J5 else FM_begin_247 N (nI 7) (nI c) (nI c) 0 J5) else FM_begin_250 N (nI 7) (nI c) J5 := by
    intro N
    rw [g3, if_neg (by decide), if_neg (by decide), if_neg (by decide), if_neg (by decide)]
  rcases kc_bnd h g1' (by omega) with ⟨M9, J9, p9, b1, b2, b3, b4, b5, b6, b7, b8, b9, b10, b11, b12, b13, b14, b15, b16, b17, b18⟩ | ⟨M9, J9, b1, b2, b3⟩
  case inr =>
    right
    refine ⟨M9, J9, ev_mono b2 (fun N hN => ?_), goW_b k6 (ev_mono b3 (fun N hN => ?_)), b1⟩
    · dsimp only
      rw [hC2, hN, qb_some, if_pos (by decide)]
    · rw [hM2, hN]
  have h95 : J9 0 5 = nI d := by rw [b16]; exact h5
  have hpush : goW (-1, J) (-1, pJu J9 d c) := goW_b k6 (ev_mono b4 (fun N hN => by
    rw [hM2, hN]
    unfold FM_begin_250
    rw [(kc_7 b2).2.2.2.2.2, if_pos (by decide), if_pos (by decide), eM_push h95 (by omega), qb_some]))
  have hF9 : kF A a b c d M J M9 (pJu J9 d c) := kF_trans b5 (kF_u b2) (by omega) (Nat.le_refl _) (by omega) (Nat.le_refl _)
  have s9 : zsh M9 (A + 2) = some (.inl 0) := (kc_7 b2).2.2.1
  rcases hrec M9 (pJu J9 d c) n p9 (a + 1) b (c + 1) S R (kcS_u b2) pJu_v.2 (kcN_same hF9 hN (by omega) (Nat.le_refl _) (by omega)) with ⟨M10, J10, y, u, e1, e2, p', a', b', c', S', R', hu, f1, f2, ⟨f3, f4, f5, f6, f7⟩, f8, f9, f10, f11, f12, f13, f14⟩ | ⟨M10, J10, e1, e2, e3⟩
  case inr =>
    right
    refine ⟨M10, J10, ev_mono (ev_and b3 e1) (fun N hN => ?_), goW_trans hpush e2, kcBad_l hF9.1 hF9.2.1 e3⟩
    dsimp only
    rw [hC2, hN.1, qb_some, if_neg (by decide), qk_d s9]
    unfold FC_readItems
    rw [nI_add1, show rec N (A + 2, nI (d + 1), M9) = some (none, M10) from hN.2, qb_some, if_pos rfl, qb_some, if_pos (by decide)]
  left
  have hp150 := (kc_7 f1).2.2.2
  have cle : c' ≤ p' := f1.2.2.2.2.2.2.2.2.2.2.2
  have hxS : ∀ z, S' z = true → z ≠ x := by
    intro z hz e
    subst e
    rcases (f10 z hz).2 with q | q
    · exact m3 (hN.1 z q)
    · exact q b6
  have hcR : ∀ z, R' z = true → z ≠ c := by
    intro z hz e
    subst e
    rcases (f11 z hz).2 with q | q
    · exact absurd (hN.2.1 z q) (by omega)
    · omega
  have hRu := dT_lt f12
  have huc : u ≠ c := hcR u hRu
  have hu' := (f11 u hRu).1
  have hyin := dT_in f12
  have hyx : y ≠ x := hxS y hyin.1
  have x10i : ∀ j, zi M10 x j = zi M9 x j := fun j => by rw [(f2.2.2.1 x b6).1]
  have x10r : ∀ j, zr M10 x j = zr M9 x j := fun j => by rw [(f2.2.2.1 x b6).2]
  have hs10 : zsh M10 x = some (.inl 6) := f2.1.1 x _ b7
  have c10 : ∀ k, 4 ≤ k → k ≤ 12 → J10 k c = J9 k c := fun k h1 h2 => by
    rw [(f2.2.2.2.1 c (low_t.mpr (by omega))).1 k h1 h2, pJu_o (by omega) (by omega)]
  have t2 : J10 2 d = nI c := by rw [f2.2.2.2.2.1 d (by omega), pJu_v.1]
  have hend : ∀ N, FM_end N (nI u) J10 = some (nI c, eJ J10 c u hu d) := fun N => eM_end1 (k := 7) (Or.inl rfl) (by omega) (by omega) (by omega) huc (by omega) f14 t2 (by rw [c10 4 (by omega) (by omega)]; exact b12) (by rw [c10 8 (by omega) (by omega)]; exact b13) (by rw [c10 10 (by omega) (by omega)]; exact b14) f12.2.2.1 (kc_7 f1).2.2.2.2.2 N
  obtain ⟨v1, v2, v3, v4, v5⟩ := eJ_v (J := J10) (t := c) (u := u) (hu := hu) (d := d)
  have hM11 : kcS A KC KS q (zpi (zpr M10 x 9 (some y)) x 7 (nI (hu + 1))) (eJ J10 c u hu d) n p' a' b' c' := kcS_J (kcS_xM (kcS_xR f1 m2) m2) (kJ_e _ _ _ _ _) (eJ_o (by omega) (by omega) (by omega)) (eJ_o (by omega) (by omega) (by omega)) (eJ_o (by omega) (by omega) (by omega))
  have hF10 : kF A a b c d M J M10 J10 := kF_trans hF9 f2 (by omega) (Nat.le_refl _) (by omega) (by omega)
  have zx : zF A x M10 (zpi (zpr M10 x 9 (some y)) x 7 (nI (hu + 1))) := zF_trans (zF_o m2 (oF_r _ _ _ _ _)) (zF_o m2 (oF_x _ _ _ _ _))
  have hF11 : kF A a b c d M10 J10 (zpi (zpr M10 x 9 (some y)) x 7 (nI (hu + 1))) (eJ J10 c u hu d) := by
    refine kF_x (x0 := x) (fun z hz => ?_) (wMf_trans (wMf_xr m2) (wMf_xi m2)) (kJ_e _ _ _ _ _) zx (fun t ht => ?_) (fun k hk => eJ_o (by omega) (by omega) (by omega)) (funext (fun k => eJ_o (by omega) (by omega) (by omega)))
    · have hz' := kU_dn h.2.1 hF10.2.2.2.2.2.2.2 hz
      exact ⟨fun e => m3 (by rw [← e]; exact hz'), (kU_x h.1 h.2.1 hz').1⟩
    · have := low_t.mp ht
      exact ⟨fun k h1 h2 => eJ_o (by omega) (by omega) (by omega), fun j hj k h1 h2 => eJ_o (by omega) (by omega) (by omega)⟩
  have hFF := kF_trans hF10 hF11 (Nat.le_refl _) (Nat.le_refl _) (Nat.le_refl _) (Nat.le_refl _)
  have xi : ∀ j, j ≠ 7 → zi (zpi (zpr M10 x 9 (some y)) x 7 (nI (hu + 1))) x j = zi M9 x j := fun j hj => by rw [zi_pi, if_neg (by omega), zi_pr, x10i]
  have hdu : dT (zpi (zpr M10 x 9 (some y)) x 7 (nI (hu + 1))) (eJ J10 c u hu d) (ins S' x) (ins R' c) y u hu := by
    refine dT_up (fun t ht => ins_l ht) (fun t ht => ?_) (fun z hz => ?_) f12
    · have := hcR t ht
      exact ⟨fun k h1 h2 => eJ_o (by omega) (by omega) (by omega), fun j hj k h1 h2 => eJ_o (by omega) (by omega) (by omega)⟩
    · have hzx := hxS z hz
      refine ⟨ins_l hz, ?_, ?_, fun s hs => hs⟩
      · funext j
        rw [zi_pi, if_neg (fun q => hzx q.1), zi_pr]
      · funext j
        rw [zr_pi, zr_pr, if_neg (fun q => hzx q.1)]
  have ec : ∀ k, 4 ≤ k → k ≤ 12 → k ≠ 8 → k ≠ 10 → eJ J10 c u hu d k c = J9 k c := fun k h1 h2 h3 h4 => by rw [eJ_o (by omega) (by omega) (by omega), c10 k h1 h2]
  refine ⟨zpi (zpr M10 x 9 (some y)) x 7 (nI (hu + 1)), eJ J10 c u hu d, x, c, ev_mono (ev_and b3 e1) (fun N hN => ?_), goW_trans hpush (goW_trans e2 (goW_e (by omega) f14 (by omega) (ev_of hend))), p', a', b', c', ins S' x, ins R' c, hu + 1, hM11, hFF, ⟨by omega, f4, by omega, by omega, f7⟩, fun z hz => ins_l (f8 z hz), fun z hz => ins_l (f9 z hz), fun z hz => ?_, fun z hz => ?_, one_dT (k := 7) (ins_r S' x) (ins_r R' c) (by omega) (by omega) hs10 (Or.inl rfl) (by rw [xi 0 (by omega)]; exact b8) ?_ (by rw [zi_pi, if_pos ⟨rfl, rfl⟩]) (by rw [ec 4 (by omega) (by omega) (by omega) (by omega)]; exact b12) ?_ v4 ?_ ?_ ?_ v1 (fun hk => by omega) hdu, by omega, v5⟩
  · dsimp only
    rw [hC2, hN.1, qb_some, if_neg (by decide), qk_d s9]
    unfold FC_readItems
    rw [nI_add1, show rec N (A + 2, nI (d + 1), M9) = some (some y, M10) from hN.2, qb_some, if_neg (by simp), qo_s rfl hs10]
    simp only
    rw [qo_s (M := zpr M10 x 9 (some y)) rfl hyin.2, qo_s (M := zpr M10 x 9 (some y)) rfl hs10, show zi (zpr M10 x 9 (some y)) y 7 = nI hu from f12.2.2.2, nI_add1, qb_some, if_neg (by decide)]
  · rcases ins_o hz with hz | hz
    · obtain ⟨q1, q2⟩ := f10 z hz
      refine ⟨kU_up hF11.2.2.2.2.2.2.2 (Nat.le_refl _) (Nat.le_refl _) q1, ?_⟩
      rcases q2 with q2 | q2
      · exact Or.inl q2
      · exact Or.inr (fun q => q2 (kU_up hF9.2.2.2.2.2.2.2 (by omega) (Nat.le_refl _) q))
    · subst hz
      exact ⟨kU_up (fun e j y he hj => hF11.2.2.2.2.2.2.2 e j y he (f2.2.2.2.2.2.2.2 e j y he hj)) f3 f4 b6, Or.inr m3⟩
  · rcases ins_o hz with hz | hz
    · obtain ⟨q1, q2⟩ := f11 z hz
      exact ⟨q1, q2.imp_right (fun q => by omega)⟩
    · subst hz
      exact ⟨by omega, Or.inr (Nat.le_refl _)⟩
  · rw [ec 9 (by omega) (by omega) (by omega) (by omega), b15, xi 6 (by omega), b9]
    decide
  · rw [ec 9 (by omega) (by omega) (by omega) (by omega), b15]
    decide
  · rw [ec 11 (by omega) (by omega) (by omega) (by omega), xi 1 (by omega)]
    exact b17
  · rw [ec 11 (by omega) (by omega) (by omega) (by omega), ec 5 (by omega) (by omega) (by omega) (by omega), ec 6 (by omega) (by omega) (by omega) (by omega), xi 2 (by omega), xi 3 (by omega)]
    rcases b18 with q | ⟨q1, q2, q3, q4⟩
    · exact Or.inl q
    · exact Or.inr ⟨q1, rfl, q2, q3, q4⟩
  · rw [zr_pi, zr_pr, if_pos ⟨rfl, rfl⟩]
