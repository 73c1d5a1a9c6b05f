/-! COMPILING: between two members -/
def kIx (A : Nat) (M0 : zM) (a0 b0 : Nat) (M : zM) (a b : Nat) (S : Nat → Bool) (x kd h k : Nat) : Prop := (∀ c, c ≤ 72 → x ≠ A + c) ∧ kU A M a b x ∧ ¬ kU A M0 a0 b0 x ∧ S x = false ∧ zsh M x = some (.inl 6) ∧ zi M x 0 = nI kd ∧ zi M x 1 = 0 ∧ zi M x 6 = tgK kd ∧ zi M x 7 = nI h ∧ zi M x 8 = nI k
def kIt (J : zJ) (c0 c : Nat) (R : Nat → Bool) (t kd h k : Nat) : Prop := t < c ∧ c0 ≤ t ∧ R t = false ∧ J 4 t = nI kd ∧ J 8 t = nI k ∧ J 9 t = tgK kd ∧ J 10 t = nI h ∧ J 11 t = 0
def kIf (A : Nat) (M0 : zM) (J0 : zJ) (a0 b0 c0 d : Nat) (S0 R0 : Nat → Bool) (M : zM) (J : zJ) (a b c : Nat) (S R : Nat → Bool) : Prop := kF A a0 b0 c0 d M0 J0 M J ∧ (a0 ≤ a ∧ b0 ≤ b ∧ c0 ≤ c) ∧ (∀ y, S0 y = true → S y = true) ∧ (∀ u, R0 u = true → R u = true) ∧ (∀ y, S y = true → S0 y = true ∨ ¬ kU A M0 a0 b0 y) ∧ (∀ u, R u = true → R0 u = true ∨ c0 ≤ u)
def kIm (A : Nat) (M0 : zM) (a0 b0 : Nat) (M : zM) (a b h k : Nat) (bs us hs : Nat → Nat) : Prop := ∀ j, j < k → kU A M a b (bs j) ∧ ¬ kU A M0 a0 b0 (bs j) ∧ hs j + 1 ≤ h ∧ us j < 160
/-- k members have been read -/
def kI (A KC KS q n d kd : Nat) (M0 : zM) (J0 : zJ) (a0 b0 c0 : Nat) (S0 R0 : Nat → Bool) (M : zM) (J : zJ) (p a b c : Nat) (S R : Nat → Bool) (x t k h : Nat) (bs xs us hs : Nat → Nat) : Prop := kcS A KC KS q M J n p a b c ∧ (J 0 5 = nI (d + 1) ∧ J 2 d = nI t) ∧ kIf A M0 J0 a0 b0 c0 d S0 R0 M J a b c S R ∧ kcN A M J S R a b c ∧ kIx A M0 a0 b0 M a b S x kd h k ∧ kIt J c0 c R t kd h k ∧ mC M J S R x t k bs xs us hs ∧ (kd = 6 → mMd M J R t k bs us) ∧ kIm A M0 a0 b0 M a b h k bs us hs ∧ d + h < 6
theorem kcN_up {A a b c a' b' c' : Nat} {M M' : zM} {J J' : zJ} {S R : Nat → Bool} (h : kcN A M J S R a b c) (hM : ∀ x, S x = true → zi M' x = zi M x ∧ zr M' x = zr M x ∧ ∀ s, zsh M x = some s → zsh M' x = some s) (hJ : tAg R J J') (h3 : J' 3 = J 3) (hr : zr M' (A + 3) = zr M (A + 3)) (hp : ∀ e j y, (e = 4 ∨ e = 5) → zr M (A + e) j = some y → zr M' (A + e) j = some y) (ha : a ≤ a') (hb : b ≤ b') (hc : c ≤ c') : kcN A M' J' S R a' b' c' := by
  obtain ⟨h1, h2, h3'⟩ := h
  refine ⟨fun x hx => kU_up hp ha hb (h1 x hx), fun t ht => Nat.lt_of_lt_of_le (h2 t ht) hc, fun i hi => ?_⟩
  rw [hr, h3]
  rcases h3' i hi with g | ⟨x, t, ht, g1, g2, g3, g4⟩
  · exact Or.inl g
  · exact Or.inr ⟨x, t, ht, g1, g2, dT_up (fun _ h => h) hJ (fun y hy => ⟨hy, hM y hy⟩) g3, g4⟩
theorem bas_R {J J' : zJ} {R R' : Nat → Bool} {u hu : Nat} (hR : ∀ t, R t = true → R' t = true) (hJ : tAg R J J') (hw : wfT (jcut J R) (hu + 1) u) : J' 4 (bas (jcut J' R') 6 u) = J 4 (bas (jcut J R) 6 u) ∨ ¬ hu + 1 ≤ 6 := by
  by_cases h6 : hu + 1 ≤ 6
  · left
    have h0 : ∀ t, R t = false → jcut J R 4 t = 0 := fun t ht => jcut_ge ht
    have e1 := bas_up h0 (tAg_cut hJ hR) (hu + 1) 6 u hw
    have e2 := (bas_wf (hu + 1) 6 u hw h6).1
    obtain ⟨bw, hbw⟩ := bas_w _ _ hw
    have hbR := wf_c h0 hbw
    rw [e1, e2]
    exact (hJ _ hbR).1 4 (by omega) (by omega)
  · exact Or.inr h6
/-- an inner type has been read -/
theorem kI_up {A KC KS q n d kd : Nat} {M0 : zM} {J0 : zJ} {a0 b0 c0 : Nat} {S0 R0 : Nat → Bool} {M M' : zM} {J J' : zJ} {p a b c p' a' b' c' : Nat} {S R S' R' : Nat → Bool} {x t k h : Nat} {bs xs us hs : Nat → Nat} (hi : kI A KC KS q n d kd M0 J0 a0 b0 c0 S0 R0 M J p a b c S R x t k h bs xs us hs) (hk6 : k ≤ 6) (hS : kcS A KC KS q M' J' n p' a' b' c') (h5 : J' 0 5 = nI (d + 1)) (hF : kF A a b c (d + 1) M J M' J') (hab : a ≤ a' ∧ b ≤ b' ∧ c ≤ c') (hSS : ∀ x, S x = true → S' x = true) (hRR : ∀ t, R t = true → R' t = true) (hS' : ∀ x, S' x = true → kU A M' a' b' x ∧ (S x = true ∨ ¬ kU A M a b x)) (hR' : ∀ t, R' t = true → t < c' ∧ (R t = true ∨ c ≤ t)) : kI A KC KS q n d kd M0 J0 a0 b0 c0 S0 R0 M' J' p' a' b' c' S' R' x t k h bs xs us hs := by
  obtain ⟨i1, ⟨i2, i3⟩, ⟨f1, ⟨fa, fb, fc⟩, f3, f4, f5, f6⟩, i5, ⟨x1, x2, x3, x4, x5, x6, x7, x8, x9, x10⟩, ⟨t1, t2, t3, t4, t5, t6, t7, t8⟩, ⟨m1, m2, m3, m4⟩, i9, i10, i11⟩ := hi
  obtain ⟨ha, hb, hc⟩ := hab
  have hp := hF.2.2.2.2.2.2.2
  have sf : ∀ y, kU A M a b y → S y = false → S' y = false := by
    intro y hy hsy
    cases hs' : S' y with
    | false => rfl
    | true =>
      rcases (hS' y hs').2 with q | q
      · rw [hsy] at q; cases q
      · exact absurd hy q
  have xi : ∀ y, kU A M a b y → zi M' y = zi M y ∧ zr M' y = zr M y := hF.2.2.1
  have tl : ∀ u, u < c → (∀ k, 4 ≤ k → k ≤ 12 → J' k u = J k u) ∧ ∀ j, j < 6 → ∀ k, 13 ≤ k → k ≤ 15 → J' k (6 * u + j) = J k (6 * u + j) := fun u hu => hF.2.2.2.1 u (low_t.mpr hu)
  have hRt : R' t = false := by
    cases hs' : R' t with
    | false => rfl
    | true =>
      rcases (hR' t hs').2 with q | q
      · rw [t3] at q; cases q
      · omega
  have dF : ∀ y u hu, dT M J S R y u hu → dT M' J' S' R' y u hu := fun y u hu hd => dT_F hF i5.1 i5.2.1 hSS hRR hd
  refine ⟨hS, ⟨h5, by rw [hF.2.2.2.2.1 d (by omega)]; exact i3⟩, ⟨kF_trans f1 hF fa fb fc (by omega), ⟨by omega, by omega, by omega⟩, fun y hy => hSS y (f3 y hy), fun u hu => hRR u (f4 u hu), fun y hy => ?_, fun u hu => ?_⟩, kcN_F hF i5 (fun y hy => (hS' y hy).1) (fun u hu => (hR' u hu).1) hSS hRR, ⟨x1, kU_up hp ha hb x2, x3, sf x x2 x4, hF.1.1 x _ x5, by rw [(xi x x2).1]; exact x6, by rw [(xi x x2).1]; exact x7, by rw [(xi x x2).1]; exact x8, by rw [(xi x x2).1]; exact x9, by rw [(xi x x2).1]; exact x10⟩, ⟨by omega, t2, hRt, by rw [(tl t t1).1 4 (by omega) (by omega)]; exact t4, by rw [(tl t t1).1 8 (by omega) (by omega)]; exact t5, by rw [(tl t t1).1 9 (by omega) (by omega)]; exact t6, by rw [(tl t t1).1 10 (by omega) (by omega)]; exact t7, by rw [(tl t t1).1 11 (by omega) (by omega)]; exact t8⟩, ⟨fun j hj => ?_, m2, by rw [(xi x x2).2]; exact m3, by rw [(xi x x2).2]; exact m4⟩, fun hk j hj => ?_, fun j hj => ?_, i11⟩
  · rcases (hS' y hy).2 with q | q
    · exact f5 y q
    · exact Or.inr (fun z => q (kU_up f1.2.2.2.2.2.2.2 fa fb z))
  · rcases (hR' u hu).2 with q | q
    · exact f6 u q
    · exact Or.inr (by omega)
  · obtain ⟨g1, g2, g3, g4, g5, g6, g7, g8⟩ := m1 j hj
    obtain ⟨k1, k2, k3, k4⟩ := i10 j hj
    have := xi _ k1
    exact ⟨hF.1.1 _ _ g1, sf _ k1 g2, by rw [this.2]; exact g3, by rw [this.1]; exact g4, by rw [this.2]; exact g5, by rw [this.1]; exact g6, by rw [(tl t t1).2 j (by omega) 13 (by omega) (by omega)]; exact g7, dF _ _ _ g8⟩
  · obtain ⟨g1, g2⟩ := i9 hk j hj
    obtain ⟨k1, k2, k3, k4⟩ := i10 j hj
    have := xi _ k1
    rw [this.1, (tl t t1).2 j (by omega) 14 (by omega) (by omega), (tl t t1).2 j (by omega) 15 (by omega) (by omega)]
    refine ⟨g1, ?_⟩
    rcases g2 with g2 | g2 | ⟨g2, g3, g4⟩
    · exact Or.inl g2
    · exact Or.inr (Or.inl g2)
    · refine Or.inr (Or.inr ⟨g2, ?_, g4⟩)
      have hd := (m1 j hj).2.2.2.2.2.2.2
      rcases bas_R hRR (fun u hu => hF.2.2.2.1 u (low_t.mpr (i5.2.1 u hu))) hd.1 with e | e
      · rw [e]; exact g3
      · exact absurd (show hs j + 1 ≤ 6 by omega) e
  · obtain ⟨k1, k2, k3, k4⟩ := i10 j hj
    exact ⟨kU_up hp ha hb k1, k2, k3, k4⟩
/-- a member is added to the chain -/
theorem c_addM {KC KS : Nat} {M2 : zM} {x bo y k h hu lb : Nat} (hx : zsh M2 x = some (.inl 6)) (hbo : zsh M2 bo = some (.inl 1)) (hy : zsh M2 y = some (.inl 6)) (hyx : y ≠ x) (hh : h < 100) (hhu : hu < 100) (hk : k < 100) (x7 : zi M2 x 7 = nI h) (y7 : zi M2 y 7 = nI hu) (x8 : zi M2 x 8 = nI k) (x11 : zr M2 x 11 = if k = 0 then none else some lb) (hlb : 0 < k → zsh M2 lb = some (.inl 1) ∧ lb ≠ bo) :
    ∃ M12, (∀ N (f : zM → Option (Bool × zM)), (qb (FT_addMember N KC KS x (some bo) M2) fun v7 M8 => qo (some x) M8 6 fun o9 => qo (some y) M8 6 fun o10 => qo (some x) M8 6 fun o11 => f (zpi M8 o11 7 (if (zi M8 o9 7) < ((zi M8 o10 7) + 1) then ((zi M8 o10 7) + 1) else (zi M8 o9 7)))) = f M12) ∧ zsh M12 = zsh M2 ∧ zl M12 = zl M2 ∧ zsz M12 = zsz M2 ∧ zsl M12 = zsl M2 ∧ (∀ z j, ¬ (z = bo ∧ j = 1) → ¬ (z = x ∧ (j = 7 ∨ j = 8)) → zi M12 z j = zi M2 z j) ∧ zi M12 bo 1 = nI k ∧ zi M12 x 8 = nI (k + 1) ∧ zi M12 x 7 = nI (max h (hu + 1)) ∧ (∀ z j, ¬ (z = x ∧ (j = 10 ∨ j = 11)) → ¬ (0 < k ∧ z = lb ∧ j = 5) → zr M12 z j = zr M2 z j) ∧ zr M12 x 11 = some bo ∧ zr M12 x 10 = (if k = 0 then some bo else zr M2 x 10) ∧ (0 < k → zr M12 lb 5 = some bo) := by
  have hxb : x ≠ bo := by
    intro e
    subst e
    rw [hx] at hbo
    cases hbo
  have hyb : y ≠ bo := by
    intro e
    subst e
    rw [hy] at hbo
    cases hbo
  have hmax : ∀ M8 : zM, zi M8 x 7 = nI h → zi M8 y 7 = nI hu → (if (zi M8 x 7) < ((zi M8 y 7) + 1) then ((zi M8 y 7) + 1) else (zi M8 x 7)) = nI (max h (hu + 1)) := by
    intro M8 e1 e2
    rw [e1, e2, nI_add1]
    by_cases c : h < hu + 1
    · rw [if_pos (by rw [nI_ltI (by omega) (by omega)]; exact c), Nat.max_eq_right (by omega)]
    · rw [if_neg (by rw [nI_ltI (by omega) (by omega)]; exact c), Nat.max_eq_left (by omega)]
  by_cases k0 : k = 0
  · subst k0
    rw [if_pos rfl] at x11
    refine ⟨zpi (zpr (zpr (zpi (zpi M2 bo 1 (nI 0)) x 8 (nI 1)) x 10 (some bo)) x 11 (some bo)) x 7 (nI (max h (hu + 1))), fun N f => ?_, ?_, ?_, ?_, ?_, fun z j h1 h2 => ?_, ?_, ?_, ?_, fun z j h1 _ => ?_, ?_, ?_, fun h => absurd h (by omega)⟩
    · unfold FT_addMember
      rw [qo_s rfl hbo, x8]
      simp only
      rw [show zi (zpi M2 bo 1 (nI 0)) x 8 = nI 0 from by rw [zi_pi, if_neg (by omega)]; exact x8, nI_add1, zr_pi, zr_pi, x11, if_pos rfl, qb_some, qo_s (M := zpr (zpr (zpi (zpi M2 bo 1 (nI 0)) x 8 (nI (0 + 1))) x 10 (some bo)) x 11 (some bo)) rfl hx, qo_s (M := zpr (zpr (zpi (zpi M2 bo 1 (nI 0)) x 8 (nI (0 + 1))) x 10 (some bo)) x 11 (some bo)) rfl hy, qo_s (M := zpr (zpr (zpi (zpi M2 bo 1 (nI 0)) x 8 (nI (0 + 1))) x 10 (some bo)) x 11 (some bo)) rfl hx, hmax _ (by rw [zi_pr, zi_pr, zi_pi, if_neg (by omega), zi_pi, if_neg (by omega)]; exact x7) (by rw [zi_pr, zi_pr, zi_pi, if_neg (fun z => hyx z.1), zi_pi, if_neg (fun z => hyb z.1)]; exact y7)]
    · simp only [zsh_pi, zsh_pr]
    · simp only [zl_pi, zl_pr]
    · simp only [zsz_pi, zsz_pr]
    · simp only [zsl_pi, zsl_pr]
    · rw [zi_pi, if_neg (fun w => h2 ⟨w.1, Or.inl w.2⟩), zi_pr, zi_pr, zi_pi, if_neg (fun w => h2 ⟨w.1, Or.inr w.2⟩), zi_pi, if_neg h1]
    · rw [zi_pi, if_neg (by omega), zi_pr, zi_pr, zi_pi, if_neg (by omega), zi_pi, if_pos ⟨rfl, rfl⟩]
    · rw [zi_pi, if_neg (by omega), zi_pr, zi_pr, zi_pi, if_pos ⟨rfl, rfl⟩]
    · rw [zi_pi, if_pos ⟨rfl, rfl⟩]
    · rw [zr_pi, zr_pr, if_neg (fun w => h1 ⟨w.1, Or.inr w.2⟩), zr_pr, if_neg (fun w => h1 ⟨w.1, Or.inl w.2⟩), zr_pi, zr_pi]
    · rw [zr_pi, zr_pr, if_pos ⟨rfl, rfl⟩]
    · rw [zr_pi, zr_pr, if_neg (by omega), zr_pr, if_pos ⟨rfl, rfl⟩, if_pos rfl]
  · have kp : 0 < k := by omega
    obtain ⟨l1, l2⟩ := hlb kp
    rw [if_neg k0] at x11
    have hxl : x ≠ lb := by
      intro e
      subst e
      rw [hx] at l1
      cases l1
    refine ⟨zpi (zpr (zpr (zpi (zpi M2 bo 1 (nI k)) x 8 (nI (k + 1))) lb 5 (some bo)) x 11 (some bo)) x 7 (nI (max h (hu + 1))), fun N f => ?_, ?_, ?_, ?_, ?_, fun z j h1 h2 => ?_, ?_, ?_, ?_, fun z j h1 h2 => ?_, ?_, ?_, fun _ => ?_⟩
    · unfold FT_addMember
      rw [qo_s rfl hbo, x8]
      simp only
      rw [show zi (zpi M2 bo 1 (nI k)) x 8 = nI k from by rw [zi_pi, if_neg (by omega)]; exact x8, nI_add1, zr_pi, zr_pi, x11, if_neg (by simp), qo_s (M := zpi (zpi M2 bo 1 (nI k)) x 8 (nI (k + 1))) rfl l1, qb_some, qo_s (M := zpr (zpr (zpi (zpi M2 bo 1 (nI k)) x 8 (nI (k + 1))) lb 5 (some bo)) x 11 (some bo)) rfl hx, qo_s (M := zpr (zpr (zpi (zpi M2 bo 1 (nI k)) x 8 (nI (k + 1))) lb 5 (some bo)) x 11 (some bo)) rfl hy, qo_s (M := zpr (zpr (zpi (zpi M2 bo 1 (nI k)) x 8 (nI (k + 1))) lb 5 (some bo)) x 11 (some bo)) rfl hx, hmax _ (by rw [zi_pr, zi_pr, zi_pi, if_neg (by omega), zi_pi, if_neg (by omega)]; exact x7) (by rw [zi_pr, zi_pr, zi_pi, if_neg (fun z => hyx z.1), zi_pi, if_neg (fun z => hyb z.1)]; exact y7)]
    · simp only [zsh_pi, zsh_pr]
    · simp only [zl_pi, zl_pr]
    · simp only [zsz_pi, zsz_pr]
    · simp only [zsl_pi, zsl_pr]
    · rw [zi_pi, if_neg (fun w => h2 ⟨w.1, Or.inl w.2⟩), zi_pr, zi_pr, zi_pi, if_neg (fun w => h2 ⟨w.1, Or.inr w.2⟩), zi_pi, if_neg h1]
    · rw [zi_pi, if_neg (by omega), zi_pr, zi_pr, zi_pi, if_neg (by omega), zi_pi, if_pos ⟨rfl, rfl⟩]
    · rw [zi_pi, if_neg (by omega), zi_pr, zi_pr, zi_pi, if_pos ⟨rfl, rfl⟩]
    · rw [zi_pi, if_pos ⟨rfl, rfl⟩]
    · rw [zr_pi, zr_pr, if_neg (fun w => h1 ⟨w.1, Or.inr w.2⟩), zr_pr, if_neg (fun w => h2 ⟨kp, w.1, w.2⟩), zr_pi, zr_pi]
    · rw [zr_pi, zr_pr, if_pos ⟨rfl, rfl⟩]
    · rw [zr_pi, zr_pr, if_neg (by omega), zr_pr, if_neg (by omega), zr_pi, zr_pi, if_neg k0]
    · rw [zr_pi, zr_pr, if_neg (fun w => hxl w.1.symm), zr_pr, if_pos ⟨rfl, rfl⟩]
