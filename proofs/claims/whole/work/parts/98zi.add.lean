/-! COMPILING: one more member -/
def eMm (J : zJ) (t u k h : Nat) : zJ := zu (zu (zu (zu J 13 (6 * t + k) (nI u)) 14 (6 * t + k) 0) 8 t (nI (k + 1))) 10 t (nI h)
theorem eMm_o {J : zJ} {t u k h c j : Nat} (h1 : ¬ ((c = 13 ∨ c = 14) ∧ j = 6 * t + k)) (h2 : ¬ ((c = 8 ∨ c = 10) ∧ j = t)) : eMm J t u k h c j = J c j := by
  unfold eMm
  rw [zu_at, if_neg (by omega), zu_at, if_neg (by omega), zu_at, if_neg (by omega), zu_at, if_neg (by omega)]
theorem eMm_v {J : zJ} {t u k h : Nat} : eMm J t u k h 13 (6 * t + k) = nI u ∧ eMm J t u k h 14 (6 * t + k) = 0 ∧ eMm J t u k h 8 t = nI (k + 1) ∧ eMm J t u k h 10 t = nI h := by
  unfold eMm
  refine ⟨?_, ?_, ?_, zu_self _ _ _ _⟩
  · rw [zu_at, if_neg (by omega), zu_at, if_neg (by omega), zu_at, if_neg (by omega), zu_self]
  · rw [zu_at, if_neg (by omega), zu_at, if_neg (by omega), zu_self]
  · rw [zu_at, if_neg (by omega), zu_self]
theorem kJ_k (J : zJ) (t u k h : Nat) : kJ J (eMm J t u k h) := fun c j h1 h2 => eMm_o (by omega) (by omega)
theorem eM_endM {J : zJ} {t u hu h k d kd : Nat} (hkd : kd = 6 ∨ kd = 9) (ht : t < 160) (hu160 : u < 160) (hd : d < 150) (hut : u ≠ t) (hh : hu < 100) (hh2 : h < 100) (hk : k < 6) (h5 : J 0 5 = nI (d + 1)) (h2 : J 2 d = nI t) (h4 : J 4 t = nI kd) (h8 : J 8 t = nI k) (h10 : J 10 t = nI h) (h10u : J 10 u = nI hu) (N : Nat) : FM_end N (nI u) J = if kd = 6 then qb (FM_component N (nI (6 * t + k)) (nI u) (eMm J t u k (max h (hu + 1)))) fun v J5 => FM_end_103 N (nI t) J5 else FM_end_103 N (nI t) (eMm J t u k (max h (hu + 1))) := by
  have qt : qi (nI t) 160 = true := qi_nI ht (by omega)
  have qu : qi (nI u) 160 = true := qi_nI hu160 (by omega)
  have ct : (nI t).toNatClampNeg = t := nI_clamp (by omega)
  have cu : (nI u).toNatClampNeg = u := nI_clamp (by omega)
  have cd : (nI d).toNatClampNeg = d := nI_clamp (by omega)
  have e6 : (6 : Int32) * nI t + nI k = nI (6 * t + k) := by rw [show (6 : Int32) = nI 6 from rfl, nI_mul, nI_add]
  have q9 : qi (nI (6 * t + k)) 960 = true := qi_nI (by omega) (by omega)
  have c9 : (nI (6 * t + k)).toNatClampNeg = 6 * t + k := nI_clamp (by omega)
  unfold FM_end
  rw [h5, nI_pred, qk_t (qi_nI hd (by omega)), cd, h2]
  simp only
  rw [qk_t qt, ct, h8, e6, qk_t q9, c9, qk_t q9, qk_t qt, qk_t qt, qk_t qu, qk_t qt, cu]
  have z8 : zu (zu J 13 (6 * t + k) (nI u)) 14 (6 * t + k) 0 8 t + 1 = nI (k + 1) := by
    rw [zu_ne _ _ _ (by omega), zu_ne _ _ _ (by omega), h8, nI_add1]
  rw [z8]
  have z10u : zu (zu (zu J 13 (6 * t + k) (nI u)) 14 (6 * t + k) 0) 8 t (nI (k + 1)) 10 u = nI hu := by rw [zu_ne _ _ _ (by omega), zu_ne _ _ _ (by omega), zu_ne _ _ _ (by omega)]; exact h10u
  have z10t : zu (zu (zu J 13 (6 * t + k) (nI u)) 14 (6 * t + k) 0) 8 t (nI (k + 1)) 10 t = nI h := by rw [zu_ne _ _ _ (by omega), zu_ne _ _ _ (by omega), zu_ne _ _ _ (by omega)]; exact h10
  rw [z10u, z10t, qk_t qt, qk_t qu, nI_add1]
  have h85 : ∀ v, FM_end_85 N (nI u) (nI t) (nI (6 * t + k)) (nI t) (nI v) (zu (zu (zu J 13 (6 * t + k) (nI u)) 14 (6 * t + k) 0) 8 t (nI (k + 1))) = if kd = 6 then qb (FM_component N (nI (6 * t + k)) (nI u) (eMm J t u k v)) fun v J5 => FM_end_103 N (nI t) J5 else FM_end_103 N (nI t) (eMm J t u k v) := by
    intro v
    unfold FM_end_85
    rw [qk_t qt, ct]
    simp only
    rw [qk_t qt]
    have z4 : zu (zu (zu (zu J 13 (6 * t + k) (nI u)) 14 (6 * t + k) 0) 8 t (nI (k + 1))) 10 t (nI v) 4 t = nI kd := by rw [zu_ne _ _ _ (by omega), zu_ne _ _ _ (by omega), zu_ne _ _ _ (by omega), zu_ne _ _ _ (by omega)]; exact h4
    rw [z4]
    by_cases k6 : kd = 6
    · rw [if_pos (by rw [k6]; rfl), if_pos k6]
      rfl
    · rw [if_neg (by rw [show (6 : Int32) = nI 6 from rfl, nI_eq (by omega) (by omega)]; exact k6), if_neg k6]
      rfl
  by_cases c : hu < h
  · rw [if_pos (by rw [nI_ltI (by omega) (by omega)]; exact c), h85, Nat.max_eq_left (by omega)]
  · rw [if_neg (by rw [nI_ltI (by omega) (by omega)]; exact c), h85, Nat.max_eq_right (by omega)]
def updN (f : Nat → Nat) (k v : Nat) : Nat → Nat := fun j => if j = k then v else f j
theorem updN_k (f : Nat → Nat) (k v : Nat) : updN f k v k = v := if_pos rfl
theorem updN_o {f : Nat → Nat} {k v j : Nat} (h : j ≠ k) : updN f k v j = f j := if_neg h
theorem kcP_same {A KC KS q a b : Nat} {M M' : zM} (h : kcP A KC KS q M a b) (h1 : zsh M' = zsh M) (h2 : zsz M' = zsz M) (h3 : zsl M' = zsl M) (h4 : zr M' (A + 4) = zr M (A + 4)) (h5 : zr M' (A + 5) = zr M (A + 5)) : kcP A KC KS q M' a b := by
  obtain ⟨a0, b0, p1, p2, p3, p4, p5, p6, p7⟩ := h
  refine ⟨a0, b0, ?_, p2, p3, by omega, by omega, by omega, fun y s hs => by rw [h2]; exact p7 y s (by rw [← h1]; exact hs)⟩
  unfold iPool
  rw [h1, h4, h5]
  exact p1
theorem kI_add {A KC KS q n d kd : Nat} {M0 : zM} {J0 : zJ} {a0 b0 c0 : Nat} {S0 R0 : Nat → Bool} {M : zM} {J : zJ} {p a b c : Nat} {S R : Nat → Bool} {x t k h y u hu : Nat} {bs xs us hs : Nat → Nat} (hP0 : kcP A KC KS q M0 a0 b0) (hi : kI A KC KS q n d kd M0 J0 a0 b0 c0 S0 R0 M J p a b c S R x t k h bs xs us hs) (hkd : kd = 6 ∨ kd = 9) (hk : k < 6) (hbp : b < p) (hd : dT M J S R y u hu) (hdu : d + 1 + hu < 6) :
    ∃ bo M12, (∀ N (rec : (Nat × Int32 × zM) → Option (Option Nat × zM)) l2 Mp, rec (A + 2, l2, Mp) = some (some y, M) → FC_readMember N KC KS rec (A + 2) (some x) l2 Mp = if kd = 9 then some (true, M12) else qc (FT_untagged N M12 y) fun v15 => qb (FC_readMode N KC KS (A + 2) (some bo) v15 M12) fun v17 M18 => if (bI v17) = 0 then some (false, M18) else some (true, M18)) ∧ (∀ N, FM_end N (nI u) J = if kd = 6 then qb (FM_component N (nI (6 * t + k)) (nI u) (eMm J t u k (max h (hu + 1)))) fun v J5 => FM_end_103 N (nI t) J5 else FM_end_103 N (nI t) (eMm J t u k (max h (hu + 1)))) ∧ kI A KC KS q n d kd M0 J0 a0 b0 c0 S0 R0 M12 (eMm J t u k (max h (hu + 1))) p a (b + 1) c S R x t (k + 1) (max h (hu + 1)) (updN bs k bo) (updN xs k y) (updN us k u) (updN hs k hu) ∧ (∀ c, c ≤ 72 → bo ≠ A + c) ∧ zsh M12 bo = some (.inl 1) ∧ zi M12 bo 2 = 0 ∧ S bo = false ∧ wMf A M M12 ∧ dT M12 (eMm J t u k (max h (hu + 1))) S R y u hu := by
  obtain ⟨i1, ⟨i2, i3⟩, ⟨f1, ⟨fa, fb, fc⟩, f3, f4, f5, f6⟩, i5, ⟨x1, x2, x3, x4, x5, x6, x7, x8, x9, x10⟩, ⟨t1, t2, t3, t4, t5, t6, t7, t8⟩, ⟨m1, m2, m3, m4⟩, i9, i10, i11⟩ := hi
  obtain ⟨k1, k2, k3, k4, k5, k6⟩ := kc_7 i1
  obtain ⟨w1, w2, w3, wa, wb, wc⟩ := i1.2.2.2.2.2.2
  obtain ⟨bo, M2, g1, g2, g3, g4, ⟨n1, n2, n3, n4⟩, g6, g7, g8⟩ := kc_newK i1 hbp (some y)
  have hm2 := gN_wMf g2 (Or.inr rfl) g6
  have hz2 := zF_g g2 (Or.inr rfl) g6
  have hyin := dT_in hd
  have hyU := i5.1 y hyin.1
  have hyb : y ≠ bo := fun e => g3 (by rw [← e]; exact hyU)
  have hyx : y ≠ x := fun e => by rw [e, x4] at hyin; cases hyin.1
  have hxb : x ≠ bo := fun e => g3 (by rw [← e]; exact x2)
  have hbb : ∀ j, j < k → bs j ≠ bo := fun j hj e => g3 (by rw [← e]; exact (i10 j hj).1)
  have hUx : ∀ z, kU A M a b z → ∀ c, c ≤ 72 → z ≠ A + c := fun z hz => (kU_x i1.1 i1.2.1 hz).1
  have g2o : ∀ z, z ≠ bo → (∀ c, c ≤ 72 → z ≠ A + c) → zi M2 z = zi M z ∧ zr M2 z = zr M z := fun z h1 h2 => hz2.1 z h1 h2
  have gU : ∀ z, kU A M a b z → zi M2 z = zi M z ∧ zr M2 z = zr M z := fun z hz => g2o z (fun e => g3 (by rw [← e]; exact hz)) (hUx z hz)
  have sh2 : ∀ z s, zsh M z = some s → zsh M2 z = some s := g6.1
  obtain ⟨M12, a1, a2, a3, a4, a5, a6, a7, a8, a9, a10, a11, a12, a13⟩ := c_addM (KC := KC) (KS := KS) (M2 := M2) (x := x) (bo := bo) (y := y) (k := k) (h := h) (hu := hu) (lb := bs (k - 1)) (sh2 _ _ x5) n1 (sh2 _ _ hyin.2) hyx (by omega) (by omega) (by omega) (by rw [(gU x x2).1]; exact x9) (by rw [(gU y hyU).1]; exact hd.2.2.2) (by rw [(gU x x2).1]; exact x10) (by rw [(gU x x2).2]; exact m4) (fun hk0 => ⟨sh2 _ _ (m1 (k - 1) (by omega)).1, hbb (k - 1) (by omega)⟩)
  -- what of M12 is as in M
  have hU12 : ∀ z, kU A M a b z → z ≠ x → (∀ j, j < k → z ≠ bs j) → zi M12 z = zi M z ∧ zr M12 z = zr M z := by
    intro z hz h1 h2
    have hzb : z ≠ bo := fun e => g3 (by rw [← e]; exact hz)
    have := gU z hz
    refine ⟨funext (fun j => ?_), funext (fun j => ?_)⟩
    · rw [a6 z j (fun q => hzb q.1) (fun q => h1 q.1), this.1]
    · rw [a10 z j (fun q => h1 q.1) (fun q => h2 (k - 1) (by omega) q.2.1), this.2]
  have hS12 : ∀ z, S z = true → zi M12 z = zi M z ∧ zr M12 z = zr M z := by
    intro z hz
    refine hU12 z (i5.1 z hz) (fun e => by rw [e, x4] at hz; cases hz) (fun j hj e => ?_)
    have := (m1 j hj).2.1
    rw [e, this] at hz
    cases hz
  have hbS : S bo = false := by
    cases hs : S bo with
    | false => rfl
    | true => exact absurd (i5.1 bo hs) g3
  have shM : ∀ z s, zsh M z = some s → zsh M12 z = some s := fun z s hs => by rw [a2]; exact sh2 z s hs
  have fix_i : ∀ c, c ≤ 72 → c ≠ 2 → zi M12 (A + c) = zi M (A + c) := by
    intro c hc h2
    have e1 : zi M2 (A + c) = zi M (A + c) := hm2.2.1 c hc h2
    rw [← e1]
    exact funext (fun j => a6 _ j (fun q => g2 c hc q.1.symm) (fun q => x1 c hc q.1.symm))
  have bsx : ∀ j, j < k → ∀ c, c ≤ 72 → bs j ≠ A + c := fun j hj => hUx _ (i10 j hj).1
  have fix_r : ∀ c, c ≤ 72 → zr M12 (A + c) = zr M2 (A + c) := by
    intro c hc
    refine funext (fun j => a10 _ j (fun q => x1 c hc q.1.symm) (fun q => bsx (k - 1) (by omega) c hc q.2.1.symm))
  have hm12 : wMf A M M12 := by
    refine ⟨shM, fix_i, fun c hc h3 h4 h5 => by rw [fix_r c hc]; exact hm2.2.2.1 c hc h3 h4 h5, fun c hc => by rw [a3]; exact hm2.2.2.2.1 c hc, ?_⟩
    rw [a6 _ 6 (fun q => g2 2 (by omega) q.1.symm) (fun q => x1 2 (by omega) q.1.symm)]
    exact hm2.2.2.2.2
  have cmp : ∀ j, j ≠ 5 → zi M12 (A + 2) j = zi M (A + 2) j := by
    intro j hj
    rw [a6 _ j (fun q => g2 2 (by omega) q.1.symm) (fun q => x1 2 (by omega) q.1.symm)]
    exact g6.2.2.1 j hj
  have hp12 : ∀ e j z, (e = 4 ∨ e = 5) → zr M (A + e) j = some z → zr M12 (A + e) j = some z := fun e j z he hj => by rw [fix_r e (by omega)]; exact hz2.2.2 e j z he hj
  have hJ : kJ J (eMm J t u k (max h (hu + 1))) := kJ_k _ _ _ _ _
  have hRu := dT_lt hd
  have huc := i5.2.1 u hRu
  have hut : u ≠ t := fun e => by rw [e, t3] at hRu; cases hRu
  have tR : tAg R J (eMm J t u k (max h (hu + 1))) := fun z hz => by
    have hzt : z ≠ t := fun e => by rw [e, t3] at hz; cases hz
    exact ⟨fun j h1 h2 => eMm_o (by omega) (by omega), fun i hi j h1 h2 => eMm_o (by omega) (by omega)⟩
  have dU : ∀ z v hv, dT M J S R z v hv → dT M12 (eMm J t u k (max h (hu + 1))) S R z v hv := fun z v hv hz => dT_up (fun _ h => h) tR (fun w hw => ⟨hw, (hS12 w hw).1, (hS12 w hw).2, fun s hs => shM w s hs⟩) hz
  obtain ⟨v1, v2, v3, v4⟩ := eMm_v (J := J) (t := t) (u := u) (k := k) (h := max h (hu + 1))
  refine ⟨bo, M12, fun N rec l2 Mp hr => ?_, fun N => eM_endM hkd (by omega) (by omega) (by omega) hut (by omega) (by omega) hk i2 i3 t4 t5 t7 hd.2.2.1 N, ⟨?_, ⟨by rw [eMm_o (by omega) (by omega)]; exact i2, by rw [eMm_o (by omega) (by omega)]; exact i3⟩, ⟨?_, ⟨fa, by omega, fc⟩, f3, f4, f5, f6⟩, ?_, ⟨x1, kU_up hp12 (Nat.le_refl _) (by omega) x2, x3, x4, shM _ _ x5, ?_, ?_, ?_, a9, a8⟩, ⟨t1, t2, t3, by rw [eMm_o (by omega) (by omega)]; exact t4, v3, by rw [eMm_o (by omega) (by omega)]; exact t6, v4, by rw [eMm_o (by omega) (by omega)]; exact t8⟩, ⟨fun j hj => ?_, fun i j hi hj e => ?_, ?_, ?_⟩, fun hk6 j hj => ?_, fun j hj => ?_, by omega⟩, g2, by rw [a2]; exact n1, ?_, hbS, hm12, dU y u hu hd⟩
  · unfold FC_readMember
    rw [hr, qb_some, if_neg (by simp), qk_d k3, g1, qb_some, if_neg (by simp), qo_s rfl (sh2 _ _ x5)]
    rw [a1 N (fun M12 => qo (some x) M12 6 fun o13 => if (zi M12 o13 0) = 9 then some (true, M12) else qo (some y) M12 6 fun o14 => qc (FT_untagged N M12 o14) fun v15 => qk (decide (zsh M12 (A + 2) = some (.inl 0))) <| qb (FC_readMode N KC KS (A + 2) (some bo) v15 M12) fun v17 M18 => if (bI v17) = 0 then some (false, M18) else some (true, M18))]
    have ex0 : zi M12 x 0 = nI kd := by rw [a6 x 0 (fun q => by omega) (fun q => by omega), (gU x x2).1]; exact x6
    rw [qo_s rfl (shM _ _ x5), ex0, qo_s rfl (shM _ _ hyin.2)]
    have s12 : zsh M12 (A + 2) = some (.inl 0) := shM _ _ k3
    simp only [qk_d s12]
    by_cases k9 : kd = 9
    · rw [if_pos (by rw [k9]; rfl), if_pos k9]
    · rw [if_neg (by rw [show (9 : Int32) = nI 9 from rfl, nI_eq (by omega) (by omega)]; exact k9), if_neg k9]
  · exact kcS_k i1 hm12 (kcP_same g7 a2 a4 a5 (fix_r 4 (by omega)) (fix_r 5 (by omega))) (by rw [cmp 7 (by omega)]; exact k1) (by rw [cmp 8 (by omega)]; exact i1.2.2.2.2.2.1.1) (by rw [cmp 4 (by omega)]; exact w1) (by rw [a6 _ 5 (fun q => g2 2 (by omega) q.1.symm) (fun q => x1 2 (by omega) q.1.symm)]; exact g8) hJ (by rw [eMm_o (by omega) (by omega)]; exact k2) (by rw [eMm_o (by omega) (by omega)]; exact k6) (by rw [eMm_o (by omega) (by omega)]; exact w3) k4 wa (by omega) wc
  · refine kF_trans f1 (b1 := b0) (a1 := a0) (c1 := c0) (d1 := d) ⟨hm12, hJ, fun z hz => ?_, fun z hz => ?_, fun j hj => eMm_o (by omega) (by omega), funext (fun j => eMm_o (by omega) (by omega)), by rw [fix_r 3 (by omega)]; exact hz2.2.1, hp12⟩ (Nat.le_refl _) (Nat.le_refl _) (Nat.le_refl _) (Nat.le_refl _)
    · have hz0 := kU_dn hP0 f1.2.2.2.2.2.2.2 hz
      have hzU : kU A M a b z := kU_up (fun _ _ _ _ h => h) fa fb hz
      exact hU12 z hzU (fun e => x3 (by rw [← e]; exact hz0)) (fun j hj e => (i10 j hj).2.1 (by rw [← e]; exact hz0))
    · have := low_t.mp hz
      exact ⟨fun j h1 h2 => eMm_o (by omega) (by omega), fun i hi j h1 h2 => eMm_o (by omega) (by omega)⟩
  · exact kcN_up i5 (fun z hz => ⟨(hS12 z hz).1, (hS12 z hz).2, fun s hs => shM z s hs⟩) tR (funext (fun j => eMm_o (by omega) (by omega))) (by rw [fix_r 3 (by omega)]; exact hz2.2.1) hp12 (Nat.le_refl _) (by omega) (Nat.le_refl _)
  · rw [a6 x 0 (fun q => by omega) (fun q => by omega), (gU x x2).1]; exact x6
  · rw [a6 x 1 (fun q => hxb q.1) (fun q => by omega), (gU x x2).1]; exact x7
  · rw [a6 x 6 (fun q => by omega) (fun q => by omega), (gU x x2).1]; exact x8
  · by_cases hjk : j = k
    · subst hjk
      rw [updN_k, updN_k, updN_k, updN_k]
      refine ⟨by rw [a2]; exact n1, hbS, ?_, a7, ?_, ?_, v1, dU y u hu hd⟩
      · rw [a10 bo 0 (fun q => hxb q.1.symm) (fun q => by omega)]; exact n2
      · rw [if_neg (by omega), a10 bo 5 (fun q => hxb q.1.symm) (fun q => hbb (j - 1) (by omega) q.2.1.symm)]; exact n4
      · rw [a6 bo 4 (fun q => by omega) (fun q => hxb q.1.symm)]; exact n3 4 (by omega) (by omega)
    · have hj' : j < k := by omega
      rw [updN_o hjk, updN_o hjk, updN_o hjk, updN_o hjk]
      obtain ⟨e1, e2, e3, e4, e5, e6, e7, e8⟩ := m1 j hj'
      have hjU := (i10 j hj').1
      have hjx : bs j ≠ x := fun e => by rw [e, x5] at e1; cases e1
      refine ⟨shM _ _ e1, e2, ?_, ?_, ?_, ?_, by rw [eMm_o (by omega) (by omega)]; exact e7, dU _ _ _ e8⟩
      · rw [a10 _ 0 (fun q => hjx q.1) (fun q => by omega), (gU _ hjU).2]; exact e3
      · rw [a6 _ 1 (fun q => hbb j hj' q.1) (fun q => hjx q.1), (gU _ hjU).1]; exact e4
      · rw [if_pos (by omega)]
        by_cases hjl : j + 1 = k
        · rw [hjl, updN_k, show bs j = bs (k - 1) from by congr 1; omega]
          exact a13 (by omega)
        · rw [updN_o (by omega), a10 _ 5 (fun q => hjx q.1) (fun q => by have := m2 j (k - 1) hj' (by omega) q.2.1; omega), (gU _ hjU).2, e5, if_pos (by omega)]
      · rw [a6 _ 4 (fun q => hbb j hj' q.1) (fun q => hjx q.1), (gU _ hjU).1]; exact e6
  · by_cases hik : i = k
    · by_cases hjk : j = k
      · omega
      · rw [hik, updN_k, updN_o hjk] at e
        exact absurd e.symm (hbb j (by omega))
    · by_cases hjk : j = k
      · rw [hjk, updN_k, updN_o hik] at e
        exact absurd e (hbb i (by omega))
      · rw [updN_o hik, updN_o hjk] at e
        exact m2 i j (by omega) (by omega) e
  · rw [a12, if_pos (show 0 < k + 1 by omega)]
    by_cases hk0 : k = 0
    · subst hk0
      rw [if_pos rfl, updN_k]
    · rw [if_neg hk0, updN_o (by omega), (gU x x2).2, m3, if_pos (by omega)]
  · rw [a11, if_neg (by omega), show k + 1 - 1 = k by omega, updN_k]
  · by_cases hjk : j = k
    · subst hjk
      rw [updN_k, updN_k, v2, a6 bo 2 (fun q => by omega) (fun q => hxb q.1.symm)]
      exact ⟨n3 2 (by omega) (by omega), Or.inl rfl⟩
    · have hj' : j < k := by omega
      obtain ⟨e1, e2⟩ := i9 hk6 j hj'
      have hjU := (i10 j hj').1
      have hjx : bs j ≠ x := fun e => by have := (m1 j hj').1; rw [e, x5] at this; cases this
      have q14 : eMm J t u k (max h (hu + 1)) 14 (6 * t + j) = J 14 (6 * t + j) := eMm_o (by omega) (by omega)
      have q15 : eMm J t u k (max h (hu + 1)) 15 (6 * t + j) = J 15 (6 * t + j) := eMm_o (by omega) (by omega)
      rw [updN_o hjk, updN_o hjk, q14, q15, a6 _ 2 (fun q => by omega) (fun q => hjx q.1), a6 _ 3 (fun q => by omega) (fun q => hjx q.1), (gU _ hjU).1]
      refine ⟨e1, ?_⟩
      rcases e2 with e2 | e2 | ⟨e2, e3, e4⟩
      · exact Or.inl e2
      · exact Or.inr (Or.inl e2)
      · refine Or.inr (Or.inr ⟨e2, ?_, e4⟩)
        have hdj := (m1 j hj').2.2.2.2.2.2.2
        rcases bas_R (fun _ h => h) tR hdj.1 with q | q
        · rw [q]; exact e3
        · exact absurd (show hs j + 1 ≤ 6 by have := (i10 j hj').2.2.1; omega) q
  · by_cases hjk : j = k
    · subst hjk
      rw [updN_k, updN_k, updN_k]
      exact ⟨Or.inr ⟨b, by omega, by rw [fix_r 5 (by omega)]; exact g4⟩, fun z => g3 (kU_up f1.2.2.2.2.2.2.2 fa fb z), by omega, by omega⟩
    · rw [updN_o hjk, updN_o hjk, updN_o hjk]
      obtain ⟨e1, e2, e3, e4⟩ := i10 j (by omega)
      exact ⟨kU_up hp12 (Nat.le_refl _) (by omega) e1, e2, by omega, e4⟩
  · rw [a6 bo 2 (fun q => by omega) (fun q => hxb q.1.symm)]
    exact n3 2 (by omega) (by omega)
