/-! COMPILING: the end of the members -/
def sMm (S : Nat → Bool) (x k : Nat) (bs : Nat → Nat) : Nat → Bool := fun z => S z || (decide (z = x) || (List.range k).any (fun j => decide (z = bs j)))
theorem sMm_l {S : Nat → Bool} {x k : Nat} {bs : Nat → Nat} {z : Nat} (h : S z = true) : sMm S x k bs z = true := by unfold sMm; rw [h, Bool.true_or]
theorem sMm_x (S : Nat → Bool) (x k : Nat) (bs : Nat → Nat) : sMm S x k bs x = true := by unfold sMm; simp
theorem sMm_b {S : Nat → Bool} {x k : Nat} {bs : Nat → Nat} {j : Nat} (h : j < k) : sMm S x k bs (bs j) = true := by
  unfold sMm
  have : (List.range k).any (fun i => decide (bs j = bs i)) = true := by
    rw [List.any_eq_true]
    exact ⟨j, List.mem_range.mpr h, by simp⟩
  rw [this]
  simp
theorem sMm_o {S : Nat → Bool} {x k : Nat} {bs : Nat → Nat} {z : Nat} (h : sMm S x k bs z = true) : S z = true ∨ z = x ∨ ∃ j, j < k ∧ z = bs j := by
  unfold sMm at h
  rw [Bool.or_eq_true, Bool.or_eq_true, List.any_eq_true] at h
  rcases h with h | h | ⟨j, h1, h2⟩
  · exact Or.inl h
  · exact Or.inr (Or.inl (of_decide_eq_true h))
  · exact Or.inr (Or.inr ⟨j, List.mem_range.mp h1, of_decide_eq_true h2⟩)
theorem jRank_rk {J : zJ} {t k : Nat} {us : Nat → Nat} {tg : Nat → Int32} (h : ∀ j, j < k → J 13 (6 * t + j) = nI (us j) ∧ us j < 160 ∧ J 9 (us j) = tg j) {j : Nat} (hj : j < k) : jRank J t j k = rkC tg j k 0 := by
  have hl : ∀ i, i < k → jLeast J (6 * t + i) = lowB (tg i) := by
    intro i hi
    obtain ⟨h1, h2, h3⟩ := h i hi
    unfold jLeast
    rw [h1, nI_clamp (by omega), h3]
    rfl
  rw [rkC_f, ← List.range_eq_range']
  unfold jRank
  congr 1
  apply List.filter_congr
  intro i hi
  rw [hl i (List.mem_range.mp hi), hl j hj]
theorem kc_fin {A KC KS q n d kd : Nat} {M0 : zM} {J0 : zJ} {a0 b0 c0 p0 : Nat} {S0 R0 : Nat → Bool} {M Mg : zM} {J Jf : zJ} {p a b c : Nat} {S R : Nat → Bool} {x t k h : Nat} {bs xs us hs : Nat → Nat} (hP0 : kcP A KC KS q M0 a0 b0) (hi : kI A KC KS q n d kd M0 J0 a0 b0 c0 S0 R0 M J p a b c S R x t k h bs xs us hs) (hkd : kd = 6 ∨ kd = 9) (hk1 : 1 ≤ k) (hk6 : k ≤ 6) (hp0 : p0 ≤ p) (hpn : p < n)
    (g1 : zsh Mg = zsh M) (g2 : zr Mg = zr M) (g3 : zl Mg = zl M) (g4 : zsz Mg = zsz M) (g5 : zsl Mg = zsl M) (g6 : ∀ z i, ¬ (kd = 9 ∧ z = x ∧ i = 6) → ¬ (kd = 9 ∧ i = 4 ∧ ∃ j, j < k ∧ z = bs j) → zi Mg z i = zi M z i) (g7 : kd = 9 → zi Mg x 6 = cTag (clU (fun j => J 9 (us j)) k 0 0)) (g8 : kd = 9 → ∀ j, j < k → zi Mg (bs j) 4 = nI (rkC (fun j => J 9 (us j)) j k 0))
    (f1 : Jf 0 3 = nI (p + 1)) (f2 : Jf 0 5 = nI d) (f3 : kd = 9 → Jf 9 t = clU (fun j => J 9 (us j)) k 0 0) (f4 : ∀ cc j, ¬ (cc = 0 ∧ (j = 3 ∨ j = 5)) → ¬ (kd = 9 ∧ cc = 9 ∧ j = t) → Jf cc j = J cc j) (hcl : kd = 9 → clF (fun _ => false) (fun j => J 9 (us j)) k 0 0 = false) : kGood A KC KS q n d M0 J0 p0 a0 b0 c0 S0 R0 (mP Mg A (p + 1)) Jf x t := by
  obtain ⟨i1, ⟨i2, i3⟩, ⟨e1, ⟨fa, fb, fc⟩, e3, e4, e5, e6⟩, i5, ⟨x1, x2, x3, x4, x5, x6, x7, x8, x9, x10⟩, ⟨t1, t2, t3, t4, t5, t6, t7, t8⟩, ⟨m1, m2, m3, m4⟩, i9, i10, i11⟩ := hi
  obtain ⟨k1, k2, k3, k4, k5, k6⟩ := kc_7 i1
  obtain ⟨w1, w2, w3, wa, wb, wc⟩ := i1.2.2.2.2.2.2
  have hUx : ∀ z, kU A M a b z → ∀ c, c ≤ 72 → z ≠ A + c := fun z hz => (kU_x i1.1 i1.2.1 hz).1
  have hbx : ∀ j, j < k → ∀ c, c ≤ 72 → bs j ≠ A + c := fun j hj => hUx _ (i10 j hj).1
  have x2' : x ≠ A + 2 := x1 2 (by omega)
  have gc : ∀ cc, cc ≤ 72 → zi Mg (A + cc) = zi M (A + cc) := fun cc hc => funext (fun i => g6 _ i (fun z => x1 cc hc z.2.1.symm) (fun z => by obtain ⟨_, _, j, hj, e⟩ := z; exact hbx j hj cc hc e.symm))
  have mPi : ∀ z, z ≠ A + 2 → zi (mP Mg A (p + 1)) z = zi Mg z := fun z hz => funext (fun j => mP_x hz)
  have hUo : ∀ z, kU A M a b z → z ≠ x → (∀ j, j < k → z ≠ bs j) → zi (mP Mg A (p + 1)) z = zi M z := by
    intro z hz h1 h2
    rw [mPi z (hUx z hz 2 (by omega))]
    exact funext (fun i => g6 z i (fun q => h1 q.2.1) (fun q => by obtain ⟨_, _, j, hj, e⟩ := q; exact h2 j hj e))
  have hSn : ∀ z, S z = true → z ≠ x ∧ ∀ j, j < k → z ≠ bs j := by
    intro z hz
    refine ⟨fun e => (by rw [e, x4] at hz; cases hz), fun j hj e => ?_⟩
    rw [e, (m1 j hj).2.1] at hz
    cases hz
  have hSo : ∀ z, S z = true → zi (mP Mg A (p + 1)) z = zi M z := fun z hz => hUo z (i5.1 z hz) (hSn z hz).1 (hSn z hz).2
  have zrm : zr (mP Mg A (p + 1)) = zr M := by
    show zr Mg = _
    exact g2
  have zsm : zsh (mP Mg A (p + 1)) = zsh M := by
    show zsh Mg = _
    exact g1
  have hm : wMf A M (mP Mg A (p + 1)) := by
    refine ⟨fun z s hs => by rw [zsm]; exact hs, fun cc hc h2 => by rw [mPi _ (by omega)]; exact gc cc hc, fun cc _ _ _ _ => by rw [zrm], fun cc _ => ?_, ?_⟩
    · show zl Mg _ = _
      rw [g3]
    · unfold mP
      rw [zi_pi, if_neg (by omega), gc 2 (by omega)]
  have hj : kJ J Jf := fun cc j h1 h2 => f4 cc j (by omega) (by omega)
  have hk : kcS A KC KS q (mP Mg A (p + 1)) Jf n (p + 1) a b c := by
    have c2 : ∀ i, i ≠ 7 → zi (mP Mg A (p + 1)) (A + 2) i = zi M (A + 2) i := fun i hi => by
      unfold mP
      rw [zi_pi, if_neg (by omega), gc 2 (by omega)]
    refine kcS_k i1 hm (kcP_same i1.2.1 zsm g4 g5 (by rw [zrm]) (by rw [zrm])) (by unfold mP; rw [zi_pi, if_pos ⟨rfl, rfl⟩]) (by rw [c2 8 (by omega)]; exact i1.2.2.2.2.2.1.1) (by rw [c2 4 (by omega)]; exact w1) (by rw [c2 5 (by omega)]; exact w2) hj f1 (by rw [f4 0 4 (by omega) (by omega)]; exact k6) (by rw [f4 0 10 (by omega) (by omega)]; exact w3) (by omega) (by omega) (by omega) (by omega)
  have tR : tAg R J Jf := fun z hz => by
    have hzt : z ≠ t := fun e => by rw [e, t3] at hz; cases hz
    exact ⟨fun j h1 h2 => f4 j z (by omega) (by omega), fun i hi j h1 h2 => f4 j _ (by omega) (by omega)⟩
  have hF : kF A a0 b0 c0 d M0 J0 (mP Mg A (p + 1)) Jf := by
    refine kF_trans e1 (b1 := b0) (a1 := a0) (c1 := c0) (d1 := d) ⟨hm, hj, fun z hz => ?_, fun z hz => ?_, fun j hj => f4 2 j (by omega) (by omega), funext (fun j => f4 3 j (by omega) (by omega)), by rw [zrm], fun e j y _ hj => by rw [zrm]; exact hj⟩ (Nat.le_refl _) (Nat.le_refl _) (Nat.le_refl _) (Nat.le_refl _)
    · have hz0 := kU_dn hP0 e1.2.2.2.2.2.2.2 hz
      have hzU : kU A M a b z := kU_up (fun _ _ _ _ h => h) fa fb hz
      exact ⟨hUo z hzU (fun e => x3 (by rw [← e]; exact hz0)) (fun j hj e => (i10 j hj).2.1 (by rw [← e]; exact hz0)), by rw [zrm]⟩
    · have := low_t.mp hz
      exact ⟨fun j h1 h2 => f4 j z (by omega) (by omega), fun i hi j h1 h2 => f4 j _ (by omega) (by omega)⟩
  have dU : ∀ z v hv, dT M J S R z v hv → dT (mP Mg A (p + 1)) Jf (sMm S x k bs) (ins R t) z v hv := fun z v hv hz => dT_up (fun _ h => ins_l h) tR (fun w hw => ⟨sMm_l hw, hSo w hw, by rw [zrm], fun s hs => by rw [zsm]; exact hs⟩) hz
  have ust : ∀ j, j < k → us j ≠ t := fun j hj e => by
    have := dT_lt (m1 j hj).2.2.2.2.2.2.2
    rw [e, t3] at this
    cases this
  have hUU : ∀ z, kU A M a b z → kU A (mP Mg A (p + 1)) a b z := fun z hz => by unfold kU; rw [zrm]; exact hz
  have xg : ∀ i, i ≠ 6 → zi (mP Mg A (p + 1)) x i = zi M x i := fun i hi => by
    rw [mPi x x2']
    exact g6 x i (fun z => hi z.2.2) (fun z => by obtain ⟨_, _, j, hj, e⟩ := z; have := (m1 j hj).1; rw [← e, x5] at this; cases this)
  have jt : ∀ j, j ≠ 9 → 4 ≤ j → Jf j t = J j t := fun j hj h4 => f4 j t (by omega) (by omega)
  have hbg : ∀ j, j < k → ∀ i, i ≠ 4 → zi (mP Mg A (p + 1)) (bs j) i = zi M (bs j) i := fun j hj i hi => by
    rw [mPi _ (hbx j hj 2 (by omega))]
    refine g6 _ i (fun z => ?_) (fun z => hi z.2.1)
    have := (m1 j hj).1
    rw [z.2.1, x5] at this
    cases this
  have tgo : ∀ j, j < k → mOk (J 9 (us j)) ∧ J 9 (us j) ≠ 0 := fun j hj => (dT_tag (m1 j hj).2.2.2.2.2.2.2).2
  refine ⟨p + 1, a, b, c, sMm S x k bs, ins R t, h, hk, hF, ⟨fa, fb, fc, by omega, by omega⟩, fun z hz => sMm_l (e3 z hz), fun u hu => ins_l (e4 u hu), fun z hz => ?_, fun u hu => ?_, node_dT (k := k) (kd := kd) (bs := bs) (xs := xs) (us := us) (hs := hs) (by rw [zsm]; exact x5) hkd (by omega) hk6 (by omega) (by rw [xg 0 (by omega)]; exact x6) (by rw [xg 1 (by omega)]; exact x7) ?_ (by rw [xg 7 (by omega)]; exact x9) (by rw [xg 8 (by omega)]; exact x10) (by rw [jt 4 (by omega) (by omega)]; exact t4) (by rw [jt 8 (by omega) (by omega)]; exact t5) ?_ (by rw [jt 10 (by omega) (by omega)]; exact t7) (by rw [jt 11 (by omega) (by omega)]; exact t8) (sMm_x _ _ _ _) (ins_r _ _) (fun j hj => ?_) (by rw [zrm]; exact m3) (fun hk6' j hj => ?_) (fun k9 j hj => ?_) (fun k9 => ⟨hk1, fun i j hi hj hij => ?_⟩), i11, f2⟩
  · rcases sMm_o hz with q | q | ⟨j, hj, q⟩
    · exact ⟨hUU z (i5.1 z q), e5 z q⟩
    · subst q
      exact ⟨hUU z x2, Or.inr x3⟩
    · subst q
      exact ⟨hUU _ (i10 j hj).1, Or.inr (i10 j hj).2.1⟩
  · rcases ins_o hu with q | q
    · exact ⟨i5.2.1 u q, e6 u q⟩
    · subst q
      exact ⟨t1, Or.inr t2⟩
  · rw [mPi x x2']
    by_cases k9 : kd = 9
    · rw [g7 k9, f3 k9]
    · have k6' : kd = 6 := by omega
      rw [g6 x 6 (fun z => k9 z.1) (fun z => k9 z.1), f4 9 t (by omega) (fun z => k9 z.1), x8, t6, k6']
      decide
  · by_cases k9 : kd = 9
    · rw [f3 k9]
      exact ⟨clU_ne k 0 0 (Or.inr ⟨by omega, (tgo 0 (by omega)).2⟩), clU_ok k 0 0 mOk_0 (fun i h1 h2 => (tgo i (by omega)).1)⟩
    · have k6' : kd = 6 := by omega
      rw [f4 9 t (by omega) (fun z => k9 z.1), t6, k6']
      exact ⟨by decide, by unfold mOk; decide⟩
  · obtain ⟨q1, q2, q3, q4, q5, q6, q7, q8⟩ := m1 j hj
    obtain ⟨r1, r2, r3, r4⟩ := i10 j hj
    exact ⟨sMm_b hj, by rw [zsm]; exact q1, by rw [zrm]; exact q3, by rw [hbg j hj 1 (by omega)]; exact q4, by rw [zrm]; exact q5, by rw [f4 13 _ (by omega) (by omega)]; exact q7, r4, dU _ _ _ q8, r3⟩
  · have hdj := (m1 j hj).2.2.2.2.2.2.2
    have h6 : hs j + 1 ≤ 6 := by have := (i10 j hj).2.2.1; omega
    have hbq := (bas_R (R' := ins R t) (fun _ h => ins_l h) tR hdj.1).resolve_right (fun z => z h6)
    have q14 : Jf 14 (6 * t + j) = J 14 (6 * t + j) := f4 14 _ (by omega) (by omega)
    have q15 : Jf 15 (6 * t + j) = J 15 (6 * t + j) := f4 15 _ (by omega) (by omega)
    rw [hbg j hj 2 (by omega), hbg j hj 3 (by omega), q14, q15, hbq]
    exact i9 hk6' j hj
  · rw [mPi _ (hbx j hj 2 (by omega)), g8 k9 j hj, jRank_rk (us := us) (tg := fun j => J 9 (us j)) (fun i hi => ⟨by rw [f4 13 _ (by omega) (by omega)]; exact (m1 i hi).2.2.2.2.2.2.1, (i10 i hi).2.2.2, f4 9 _ (by omega) (fun z => ust i hi z.2.2)⟩) hj]
  · rw [f4 9 _ (by omega) (fun z => ust i hi z.2.2), f4 9 _ (by omega) (fun z => ust j hj z.2.2)]
    by_cases hlt : i < j
    · exact (clF_dis k 0 0 (hcl k9) i (by omega) (by omega)).2 j hlt (by omega)
    · rw [Int32.and_comm]
      exact (clF_dis k 0 0 (hcl k9) j (by omega) (by omega)).2 i (by omega) (by omega)
theorem kc_close {A KC KS q n d kd : Nat} {M0 : zM} {J0 : zJ} {a0 b0 c0 p0 : Nat} {S0 R0 : Nat → Bool} {M : zM} {J : zJ} {p a b c : Nat} {S R : Nat → Bool} {x t k h : Nat} {bs xs us hs : Nat → Nat} (hP0 : kcP A KC KS q M0 a0 b0) (hi : kI A KC KS q n d kd M0 J0 a0 b0 c0 S0 R0 M J p a b c S R x t k h bs xs us hs) (hkd : kd = 6 ∨ kd = 9) (hk1 : 1 ≤ k) (hk6 : k ≤ 6) (hp0 : p0 ≤ p) (hcx : cx J n p = nI 125) :
    (∃ M' J', Ev (fun N => FC_closeMembers N KC KS (A + 2) (some x) M = some (true, M')) ∧ Ev (fun N => FM_end_193 N (nI t) J = some (nI t, J')) ∧ kGood A KC KS q n d M0 J0 p0 a0 b0 c0 S0 R0 M' J' x t) ∨ (∃ M' J', Ev (fun N => FC_closeMembers N KC KS (A + 2) (some x) M = some (false, M')) ∧ Ev (fun N => FM_end_193 N (nI t) J = some (-1, J')) ∧ kcBad A KC KS q M J M' J') := by
  have hi' := hi
  obtain ⟨i1, ⟨i2, i3⟩, ⟨e1, ⟨fa, fb, fc⟩, e3, e4, e5, e6⟩, i5, ⟨x1, x2, x3, x4, x5, x6, x7, x8, x9, x10⟩, ⟨t1, t2, t3, t4, t5, t6, t7, t8⟩, hmC, i9, i10, i11⟩ := hi
  obtain ⟨k1, k2, k3, k4, k5, k6⟩ := kc_7 i1
  have wc := i1.2.2.2.2.2.2.2.2.2.2.2
  have hpn : p < n := cx_lt hcx (nI_n1 (by omega))
  have tgo : ∀ j, j < k → mOk (J 9 (us j)) ∧ J 9 (us j) ≠ 0 := fun j hj => (dT_tag (hmC.1 j hj).2.2.2.2.2.2.2).2
  have ust : ∀ j, j < k → us j ≠ t := fun j hj e => by
    have := dT_lt (hmC.1 j hj).2.2.2.2.2.2.2
    rw [e, t3] at this
    cases this
  -- the reference
  have jc : ∀ cc j, ¬ (cc = 0 ∧ j = 3) → jP J (p + 1) cc j = J cc j := fun cc j hh => jP_o hh
  have hclM : ∀ N, k + 1 ≤ N → FM_clashes N (nI t) (jP J (p + 1)) = some (clF (fun j => decide (kd = 6 ∧ J 14 (6 * t + j) = 0)) (fun j => J 9 (us j)) k 0 0, if kd = 9 then zu (jP J (p + 1)) 9 t (clU (fun j => J 9 (us j)) k 0 0) else jP J (p + 1)) := by
    intro N hN
    unfold FM_clashes
    have := m_clash (J := jP J (p + 1)) (t := t) (k := k) (kd := kd) (us := us) hkd (by omega) hk6 (by rw [jc 4 t (by omega)]; exact t4) (by rw [jc 8 t (by omega)]; exact t5) (fun j hj => ⟨by rw [jc 13 _ (by omega)]; exact (hmC.1 j hj).2.2.2.2.2.2.1, (i10 j hj).2.2.2⟩) k 0 0 false (by omega) N N hN
    have e14 : (fun j => decide (kd = 6 ∧ jP J (p + 1) 14 (6 * t + j) = 0)) = (fun j => decide (kd = 6 ∧ J 14 (6 * t + j) = 0)) := funext (fun j => by rw [jc 14 _ (by omega)])
    have e9 : (fun j => jP J (p + 1) 9 (us j)) = (fun j => J 9 (us j)) := funext (fun j => jc 9 _ (by omega))
    rw [e14, e9, Bool.false_or, Nat.add_zero] at this
    simp only
    rw [show (6 : Int32) * nI t = nI (6 * t) from by rw [show (6 : Int32) = nI 6 from rfl, nI_mul]]
    exact this
  have hJ1 : jP J (p + 1) 1 p = nI 125 := by
    rw [jc 1 p (by omega)]
    unfold cx at hcx
    rw [if_pos hpn] at hcx
    exact hcx
  have h193 : ∀ N, FM_end_193 N (nI t) J = qb (FM_clashes N (nI t) (jP J (p + 1))) fun v3 J4 => if (bI v3) = 0 then FM_end_242 N (nI t) J4 else qb (FM_stop N 6 ((J4 0 3) - 1) J4) fun v5 J6 => some (v5, J6) := by
    intro N
    unfold FM_end_193
    rw [k2, nI_add1]
    simp only
    rw [show zu J 0 3 (nI (p + 1)) = jP J (p + 1) from rfl, show jP J (p + 1) 0 3 = nI (p + 1) from zu_self _ _ _ _, nI_pred, qk_t (qi_nI (by omega) (by omega)), nI_clamp (by omega), hJ1, if_neg (by decide)]
  -- the class
  have h10 : zr M x 10 = chn k bs 0 := hmC.2.2.1
  have hclC : ∀ N, k + 1 ≤ N → FC_closeMembers N KC KS (A + 2) (some x) M = if clF (fun j => decide (kd = 6 ∧ J 14 (6 * t + j) = 0)) (fun j => J 9 (us j)) k 0 0 = true then some (false, mFt M A (6 + 16 * p)) else if kd = 9 then qb (FC_gatherAlternatives N KC KS (some x) M) fun v1 M2 => FC_closeMembers_56 N KC KS (A + 2) M2 else FC_closeMembers_56 N KC KS (A + 2) M := by
    intro N hN
    have h36 : FC_closeMembers_36 N KC KS (A + 2) M = some (false, mFt M A (6 + 16 * p)) := by
      unfold FC_closeMembers_36
      rw [qk_d k3, k1, show (6 : Int32) = nI 6 from rfl, eC_refuse, qb_some]
    unfold FC_closeMembers
    rw [qo_s rfl x5, x6]
    by_cases k9 : kd = 9
    · rw [if_pos (by rw [k9]; rfl)]
      unfold FC_closeMembers_14 FC_alternativesClash FC_closeMembers_48
      have := c_altC hmC k 0 0 (by omega) mOk_0 N N hN
      rw [cTag_z] at this
      rw [if_neg (by decide), qo_s rfl x5]
      simp only
      rw [h10, this, qc_some, clF_c (md' := fun j => decide (kd = 6 ∧ J 14 (6 * t + j) = 0)) k 0 0 (fun i _ _ => by rw [k9]; simp), if_neg (show ¬ (1 : Int32) = 0 by decide), h36, if_pos k9]
      cases clF (fun j => decide (kd = 6 ∧ J 14 (6 * t + j) = 0)) (fun j => J 9 (us j)) k 0 0 <;> rfl
    · have k6' : kd = 6 := by omega
      rw [if_neg (by rw [k6']; decide)]
      unfold FC_closeMembers_14 FC_componentsClash FC_closeMembers_48
      have := c_compC hmC (fun j hj => (i9 k6' j hj).1) k 0 0 (by omega) mOk_0 N N hN
      rw [cTag_z] at this
      rw [if_pos rfl, qo_s rfl x5]
      simp only
      rw [h10, this, qc_some, clF_c (md' := fun j => decide (kd = 6 ∧ J 14 (6 * t + j) = 0)) k 0 0 (fun i _ _ => by simp [k6']), h36, if_neg k9]
      cases clF (fun j => decide (kd = 6 ∧ J 14 (6 * t + j) = 0)) (fun j => J 9 (us j)) k 0 0 <;> rfl
  cases hcl : clF (fun j => decide (kd = 6 ∧ J 14 (6 * t + j) = 0)) (fun j => J 9 (us j)) k 0 0 with
  | true =>
    right
    have j4z : ∀ J4 : zJ, (∀ cc j, cc = 0 → J4 cc j = jP J (p + 1) cc j) → J4 0 4 = 0 ∧ J4 0 3 = nI (p + 1) := fun J4 hh => ⟨by rw [hh 0 4 rfl, jc 0 4 (by omega)]; exact k6, by rw [hh 0 3 rfl]; exact zu_self _ _ _ _⟩
    refine ⟨mFt M A (6 + 16 * p), jF (if kd = 9 then zu (jP J (p + 1)) 9 t (clU (fun j => J 9 (us j)) k 0 0) else jP J (p + 1)) (6 + 16 * p), ⟨k + 1, fun N hN => ?_⟩, ⟨k + 1, fun N hN => ?_⟩, ?_⟩
    · dsimp only
      rw [hclC N hN, hcl, if_pos rfl]
    · dsimp only
      rw [h193, hclM N hN, hcl, qb_some, if_neg (by decide)]
      obtain ⟨z1, z2⟩ := j4z (if kd = 9 then zu (jP J (p + 1)) 9 t (clU (fun j => J 9 (us j)) k 0 0) else jP J (p + 1)) (fun cc j hc => by
        by_cases k9 : kd = 9
        · rw [if_pos k9, zu_ne _ _ _ (by omega)]
        · rw [if_neg k9])
      rw [z2, nI_pred, show (6 : Int32) = nI 6 from rfl, eM_stop z1, qb_some]
    · refine kc_bad i1 (oF_c _ _ _ _ _) (by unfold mFt; rw [zi_pi, if_neg (by omega)]) (f := 6 + 16 * p) (by omega) (by omega) (by unfold mFt; rw [zi_pi, if_pos ⟨rfl, rfl⟩]) (fun cc j h1 h2 => ?_) (zu_self _ _ _ _)
      unfold jF
      rw [zu_at, if_neg (by omega)]
      by_cases k9 : kd = 9
      · rw [if_pos k9, zu_at, if_neg (by omega), jc cc j (by omega)]
      · rw [if_neg k9, jc cc j (by omega)]
  | false =>
    left
    by_cases k9 : kd = 9
    · have hgT : gaT M x k bs (fun j => J 9 (us j)) := by
        intro i hik
        obtain ⟨q1, q2, q3, q4, q5, q6, q7, q8⟩ := hmC.1 i hik
        have hin := dT_in q8
        exact ⟨q1, q5, xs i, q3, fun e => (by rw [e, x4] at hin; cases hin.1), hin.2, (dT_tag q8).1⟩
      obtain ⟨Mg, o1, o2, o3, o4, o5, o6, o7, o8, o9⟩ := ga_out (KC := KC) (KS := KS) hk6 tgo hmC.2.1 (fun i hik e => by have := (hmC.1 i hik).1; rw [e, x5] at this; cases this) k 0 M 0 (by omega) hgT x5 h10 (by rw [x8, k9]; decide) (fun i _ h2 => (hmC.1 i h2).2.2.2.2.2.1)
      have hJf : ∀ cc j, ¬ (cc = 0 ∧ (j = 3 ∨ j = 5)) → ¬ (kd = 9 ∧ cc = 9 ∧ j = t) → zu (zu (jP J (p + 1)) 9 t (clU (fun j => J 9 (us j)) k 0 0)) 0 5 (nI d) cc j = J cc j := fun cc j h1 h2 => by rw [zu_at, if_neg (by omega), zu_at, if_neg (by omega), jc cc j (by omega)]
      refine ⟨mP Mg A (p + 1), zu (zu (jP J (p + 1)) 9 t (clU (fun j => J 9 (us j)) k 0 0)) 0 5 (nI d), ⟨k + 1, fun N hN => ?_⟩, ⟨k + 1, fun N hN => ?_⟩, kc_fin hP0 hi' hkd hk1 hk6 hp0 hpn o2 o3 o4 o5 o6 (fun z i h1 h2 => o7 z i (fun w => h1 ⟨k9, w.1, w.2⟩) (fun w => h2 ⟨k9, w.1, by obtain ⟨_, j', _, b', c'⟩ := w; exact ⟨j', b', c'⟩⟩)) (fun _ => o8) (fun _ j hj => o9 j (by omega) hj) ?_ (zu_self _ _ _ _) (fun _ => ?_) hJf (fun _ => ?_)⟩
      · dsimp only
        rw [hclC N hN, hcl, if_neg (by decide), if_pos k9]
        unfold FC_gatherAlternatives
        rw [qo_s rfl x5]
        simp only
        rw [h10, o1 N N (by omega) hN, qb_some]
        unfold FC_closeMembers_56
        have s2 : zsh Mg (A + 2) = some (.inl 0) := by rw [o2]; exact k3
        have e7 : zi Mg (A + 2) 7 = nI p := by rw [o7 _ 7 (fun w => by omega) (fun w => by omega)]; exact k1
        rw [qk_d s2, e7, nI_add1]
        rfl
      · dsimp only
        rw [h193, hclM N hN, hcl, qb_some, if_pos (by decide), if_pos k9]
        unfold FM_end_242
        simp only
        rw [zu_ne _ _ _ (by omega), jc 0 5 (by omega), i2, nI_pred]
      · rw [zu_at, if_neg (by omega), zu_ne _ _ _ (by omega)]
        exact zu_self _ _ _ _
      · rw [zu_ne _ _ _ (by omega), zu_self]
      · exact (clF_c (md' := fun j => decide (kd = 6 ∧ J 14 (6 * t + j) = 0)) k 0 0 (fun i _ _ => by rw [k9]; simp)).trans hcl
    · have hJf : ∀ cc j, ¬ (cc = 0 ∧ (j = 3 ∨ j = 5)) → ¬ (kd = 9 ∧ cc = 9 ∧ j = t) → zu (jP J (p + 1)) 0 5 (nI d) cc j = J cc j := fun cc j h1 h2 => by rw [zu_at, if_neg (by omega), jc cc j (by omega)]
      refine ⟨mP M A (p + 1), zu (jP J (p + 1)) 0 5 (nI d), ⟨k + 1, fun N hN => ?_⟩, ⟨k + 1, fun N hN => ?_⟩, kc_fin hP0 hi' hkd hk1 hk6 hp0 hpn rfl rfl rfl rfl rfl (fun _ _ _ _ => rfl) (fun z => absurd z k9) (fun z => absurd z k9) ?_ (zu_self _ _ _ _) (fun z => absurd z k9) hJf (fun z => absurd z k9)⟩
      · dsimp only
        rw [hclC N hN, hcl, if_neg (by decide), if_neg k9]
        unfold FC_closeMembers_56
        rw [qk_d k3, k1, nI_add1]
        rfl
      · dsimp only
        rw [h193, hclM N hN, hcl, qb_some, if_pos (by decide), if_neg k9]
        unfold FM_end_242
        simp only
        rw [jc 0 5 (by omega), i2, nI_pred]
      · rw [zu_at, if_neg (by omega)]
        exact zu_self _ _ _ _
