/-! COMPILING: ranks of alternatives; a finished compound type -/
def lowB (y : Int32) : Int32 := y &&& -y
def rkC (tg : Nat → Int32) (j : Nat) : Nat → Nat → Nat
  | 0, _ => 0
  | m + 1, i => (if lowB (tg i) < lowB (tg j) then 1 else 0) + rkC tg j m (i + 1)
theorem rkC_f (tg : Nat → Int32) (j : Nat) : ∀ m i, rkC tg j m i = ((List.range' i m).filter (fun i => decide (lowB (tg i) < lowB (tg j)))).length := by
  intro m
  induction m with
  | zero => intro i; rfl
  | succ m ih =>
    intro i
    show (if lowB (tg i) < lowB (tg j) then 1 else 0) + rkC tg j m (i + 1) = _
    rw [ih, List.range'_succ, List.filter_cons]
    by_cases c : lowB (tg i) < lowB (tg j)
    · rw [if_pos c, if_pos (decide_eq_true c), List.length_cons, Nat.add_comm]
    · rw [if_neg c, if_neg (by simp [c]), Nat.zero_add]
theorem rkC_le (tg : Nat → Int32) (j : Nat) : ∀ m i, rkC tg j m i ≤ m := by
  intro m
  induction m with
  | zero => intro i; exact Nat.le_refl _
  | succ m ih =>
    intro i
    have := ih (i + 1)
    show (if lowB (tg i) < lowB (tg j) then 1 else 0) + rkC tg j m (i + 1) ≤ _
    split <;> omega
def gaT (M : zM) (x k : Nat) (bs : Nat → Nat) (tg : Nat → Int32) : Prop := ∀ i, i < k → zsh M (bs i) = some (.inl 1) ∧ zr M (bs i) 5 = chn k bs (i + 1) ∧ ∃ y, zr M (bs i) 0 = some y ∧ y ≠ x ∧ zsh M y = some (.inl 6) ∧ zi M y 6 = cTag (tg i)
theorem gaT_tags {M : zM} {x k : Nat} {bs : Nat → Nat} {tg : Nat → Int32} (h : gaT M x k bs tg) {i : Nat} (hi : i < k) (N : Nat) : FK_tags N M (bs i) = some (cTag (tg i)) := by
  obtain ⟨h1, h2, y, h3, h4, h5, h6⟩ := h i hi
  unfold FK_tags
  rw [h3, if_neg (by simp), qo_s rfl h5, h6]
theorem gaT_4 {M : zM} {x k : Nat} {bs : Nat → Nat} {tg : Nat → Int32} {z : Nat} {v : Int32} (h : gaT M x k bs tg) : gaT (zpi M z 4 v) x k bs tg := fun i hi => by
  obtain ⟨h1, h2, y, h3, h4, h5, h6⟩ := h i hi
  exact ⟨h1, h2, y, h3, h4, h5, by rw [zi_pi, if_neg (by omega)]; exact h6⟩
theorem gaT_6 {M : zM} {x k : Nat} {bs : Nat → Nat} {tg : Nat → Int32} {v : Int32} (h : gaT M x k bs tg) : gaT (zpi M x 6 v) x k bs tg := fun i hi => by
  obtain ⟨h1, h2, y, h3, h4, h5, h6⟩ := h i hi
  exact ⟨h1, h2, y, h3, h4, h5, by rw [zi_pi, if_neg (fun z => h4 z.1)]; exact h6⟩
theorem ga_in {KC KS x k j : Nat} {bs : Nat → Nat} {tg : Nat → Int32} (hj : j < k) (hk : k ≤ 6) (hm : ∀ i, i < k → mOk (tg i) ∧ tg i ≠ 0) {N : Nat} {K5 : (Option Nat × zM) → Option (Unit × zM)} : ∀ m i (M : zM) w, i + m = k → gaT M x k bs tg → zi M (bs j) 4 = nI w → w ≤ i → ∀ F, m + 1 ≤ F → qfix (FC_gatherAlternatives_27 N KC KS K5 (some x) (some (bs j))) F (chn k bs i, M) = K5 (chn k bs (j + 1), zpi M (bs j) 4 (nI (w + rkC tg j m i))) := by
  intro m
  induction m with
  | zero =>
    intro i M w hi hT hw hwi F hF
    obtain ⟨F, rfl⟩ : ∃ g, F = g + 1 := ⟨F - 1, by omega⟩
    rw [qfix_s, chn_n (by omega)]
    simp only [FC_gatherAlternatives_27]
    rw [if_pos trivial, qo_s rfl (hT j hj).1, (hT j hj).2.1, show w + rkC tg j 0 i = w from rfl, zpi_id hw]
  | succ m ih =>
    intro i M w hi hT hw hwi F hF
    obtain ⟨F, rfl⟩ : ∃ g, F = g + 1 := ⟨F - 1, by omega⟩
    have hik : i < k := by omega
    have l1 : ∀ i', i' < k → FK_leastTag N M (bs i') = some (lowB (cTag (tg i'))) := by
      intro i' hi'
      unfold FK_leastTag
      rw [gaT_tags hT hi', qc_some, qc_some]
      rfl
    rw [qfix_s, chn_s hik]
    simp only [FC_gatherAlternatives_27]
    rw [if_neg (by simp), qo_s rfl (hT i hik).1, l1 i hik, qc_some, qo_s rfl (hT j hj).1, l1 j hj, qc_some]
    have hlt : lowB (cTag (tg i)) < lowB (cTag (tg j)) ↔ lowB (tg i) < lowB (tg j) := low_lt (hm i hik).1 (hm i hik).2 (hm j hj).1 (hm j hj).2
    have hle : lowB (cTag (tg j)) ≤ lowB (cTag (tg i)) ↔ ¬ lowB (tg i) < lowB (tg j) := by
      rw [← hlt, Int32.le_iff_toInt_le, Int32.lt_iff_toInt_lt]
      omega
    by_cases c : lowB (tg i) < lowB (tg j)
    · have e : rkC tg j (m + 1) i = 1 + rkC tg j m (i + 1) := by
        show (if _ then 1 else 0) + _ = _
        rw [if_pos c]
      rw [if_neg (fun z => hle.mp z c), qo_s rfl (hT j hj).1, qo_s rfl (hT j hj).1, hw, nI_add1, qo_s (M := zpi M (bs j) 4 (nI (w + 1))) rfl (hT i hik).1, zr_pi, (hT i hik).2.1, ih (i + 1) (zpi M (bs j) 4 (nI (w + 1))) (w + 1) (by omega) (gaT_4 hT) (by rw [zi_pi, if_pos ⟨rfl, rfl⟩]) (by omega) F (by omega), zpi_same, e, show w + 1 + rkC tg j m (i + 1) = w + (1 + rkC tg j m (i + 1)) by omega]
    · have e : rkC tg j (m + 1) i = rkC tg j m (i + 1) := by
        show (if _ then 1 else 0) + _ = _
        rw [if_neg c, Nat.zero_add]
      rw [if_pos (hle.mpr c), qo_s rfl (hT i hik).1, (hT i hik).2.1, ih (i + 1) M w (by omega) hT hw (by omega) F (by omega), e]
theorem ga_out {KC KS x k : Nat} {bs : Nat → Nat} {tg : Nat → Int32} (hk : k ≤ 6) (hm : ∀ i, i < k → mOk (tg i) ∧ tg i ≠ 0) (hinj : ∀ i j, i < k → j < k → bs i = bs j → i = j) (hxb : ∀ i, i < k → bs i ≠ x) : ∀ m j (M : zM) acc, j + m = k → gaT M x k bs tg → zsh M x = some (.inl 6) → zr M x 10 = chn k bs 0 → zi M x 6 = cTag acc → (∀ i, j ≤ i → i < k → zi M (bs i) 4 = 0) → ∃ M', (∀ N F, m + 1 ≤ F → k + 1 ≤ N → qfix (FC_gatherAlternatives_5 N KC KS (some x)) F (chn k bs j, M) = some ((), M')) ∧ zsh M' = zsh M ∧ zr M' = zr M ∧ zl M' = zl M ∧ zsz M' = zsz M ∧ zsl M' = zsl M ∧ (∀ y i, ¬ (y = x ∧ i = 6) → ¬ (i = 4 ∧ ∃ j', j ≤ j' ∧ j' < k ∧ y = bs j') → zi M' y i = zi M y i) ∧ zi M' x 6 = cTag (clU tg m j acc) ∧ ∀ j', j ≤ j' → j' < k → zi M' (bs j') 4 = nI (rkC tg j' k 0) := by
  intro m
  induction m with
  | zero =>
    intro j M acc hj hT hs h10 h6 h4
    refine ⟨M, fun N F hF _ => ?_, rfl, rfl, rfl, rfl, rfl, fun _ _ _ _ => rfl, h6, fun j' h1 h2 => by omega⟩
    obtain ⟨F, rfl⟩ : ∃ g, F = g + 1 := ⟨F - 1, by omega⟩
    rw [qfix_s, chn_n (by omega)]
    simp only [FC_gatherAlternatives_5]
    rw [if_pos trivial]
  | succ m ih =>
    intro j M acc hj hT hs h10 h6 h4
    have hjk : j < k := by omega
    have hbx := hxb j hjk
    have hT5 : gaT (zpi M x 6 (cTag (acc ||| tg j))) x k bs tg := gaT_6 hT
    have h40 : zi (zpi M x 6 (cTag (acc ||| tg j))) (bs j) 4 = nI 0 := by rw [zi_pi, if_neg (fun z => hbx z.1)]; exact h4 j (Nat.le_refl _) hjk
    obtain ⟨M', i1, i2, i3, i4, i5, i6, i7, i8, i9⟩ := ih (j + 1) (zpi (zpi M x 6 (cTag (acc ||| tg j))) (bs j) 4 (nI (0 + rkC tg j k 0))) (acc ||| tg j) (by omega) (gaT_4 hT5) hs h10 (by rw [zi_pi, if_neg (by omega), zi_pi, if_pos ⟨rfl, rfl⟩]) (fun i h1 h2 => by rw [zi_pi, if_neg (fun z => by have := hinj i j h2 hjk z.1; omega), zi_pi, if_neg (fun z => hxb i h2 z.1)]; exact h4 i (by omega) h2)
    refine ⟨M', fun N F hF hN => ?_, i2, i3, i4, i5, i6, fun y i g1 g2 => ?_, i8, fun j' h1 h2 => ?_⟩
    · obtain ⟨F, rfl⟩ : ∃ g, F = g + 1 := ⟨F - 1, by omega⟩
      rw [qfix_s, chn_s hjk]
      simp only [FC_gatherAlternatives_5]
      rw [if_neg (by simp), qo_s rfl hs, qo_s rfl (hT j hjk).1, gaT_tags hT hjk, qc_some, qo_s rfl hs, h6, ← cTag_or, qo_s (M := zpi M x 6 (cTag (acc ||| tg j))) rfl hs, zr_pi, h10, ga_in hjk hk hm k 0 (zpi M x 6 (cTag (acc ||| tg j))) 0 (by omega) hT5 h40 (by omega) N hN]
      exact i1 N F (by omega) hN
    · rw [i7 y i g1 (fun z => g2 ⟨z.1, by obtain ⟨_, j', a, b, c⟩ := z; exact ⟨j', by omega, b, c⟩⟩), zi_pi, if_neg (fun z => g2 ⟨z.2, j, Nat.le_refl _, hjk, z.1⟩), zi_pi, if_neg g1]
    · by_cases c : j' = j
      · subst c
        rw [i7 (bs j') 4 (fun z => hbx z.1) (fun z => by obtain ⟨_, j'', a, b, c⟩ := z; have := hinj j' j'' hjk b c; omega), zi_pi, if_pos ⟨rfl, rfl⟩, Nat.zero_add]
      · exact i9 j' (by omega) h2
theorem rChain_of {M : zM} {T : zJ} {P : Nat → Nat → Prop} {t k : Nat} {bs xs us : Nat → Nat} (h : ∀ j, j < k → zsh M (bs j) = some (.inl 1) ∧ zr M (bs j) 0 = some (xs j) ∧ zi M (bs j) 1 = nI j ∧ zr M (bs j) 5 = chn k bs (j + 1) ∧ P (xs j) (chd T (6 * t + j)) ∧ (T 4 t = 6 → zi M (bs j) 2 = T 14 (6 * t + j)) ∧ (T 4 t = 6 → T 14 (6 * t + j) = 2 → zi M (bs j) 3 = T 15 (6 * t + j)) ∧ (T 4 t = 9 → zi M (bs j) 4 = nI (jRank T t j (cnt T t)))) : ∀ m j, j + m = k → rChain M T P t m j (chn k bs j) := by
  intro m
  induction m with
  | zero => intro j hj; exact chn_n (by omega)
  | succ m ih =>
    intro j hj
    obtain ⟨h1, h2, h3, h4, h5, h6, h7, h8⟩ := h j (by omega)
    refine ⟨bs j, xs j, chn_s (by omega), h1, h2, h5, h3, h6, h7, h8, ?_⟩
    rw [h4]
    exact ih (j + 1) (by omega)
theorem node_dT {M : zM} {J : zJ} {S R : Nat → Bool} {x t k kd ht : Nat} {bs xs us hs : Nat → Nat} (hx : zsh M x = some (.inl 6)) (hkd : kd = 6 ∨ kd = 9) (ht160 : t < 160) (hk6 : k ≤ 6) (ht6 : ht + 1 ≤ 6) (x0 : zi M x 0 = nI kd) (x1 : zi M x 1 = 0) (x6 : zi M x 6 = cTag (J 9 t)) (x7 : zi M x 7 = nI ht) (x8 : zi M x 8 = nI k) (j4 : J 4 t = nI kd) (j8 : J 8 t = nI k) (j9 : J 9 t ≠ 0 ∧ mOk (J 9 t)) (j10 : J 10 t = nI ht) (j11 : J 11 t = 0) (hSx : S x = true) (hRt : R t = true)
    (hm : ∀ j, j < k → S (bs j) = true ∧ zsh M (bs j) = some (.inl 1) ∧ zr M (bs j) 0 = some (xs j) ∧ zi M (bs j) 1 = nI j ∧ zr M (bs j) 5 = chn k bs (j + 1) ∧ J 13 (6 * t + j) = nI (us j) ∧ us j < 160 ∧ dT M J S R (xs j) (us j) (hs j) ∧ hs j + 1 ≤ ht) (h10 : zr M x 10 = chn k bs 0) (hmd : kd = 6 → mMd M J R t k bs us) (hrk : kd = 9 → ∀ j, j < k → zi M (bs j) 4 = nI (jRank J t j k)) (hdis : kd = 9 → 1 ≤ k ∧ ∀ i j, i < k → j < k → i ≠ j → J 9 (us i) &&& J 9 (us j) = 0) : dT M J S R x t ht := by
  have e : ∀ j, jcut J R j t = J j t := fun j => jcut_lt hRt
  have kn : ∀ m : Nat, m < 2 ^ 31 → jcut J R 4 t = nI m → kd = m := fun m hm hh => by
    rw [e, j4, nI_eq (by omega) hm] at hh
    exact hh
  have en : cnt (jcut J R) t = k := by unfold cnt; rw [e, j8, nI_clamp (by omega)]
  have ec : ∀ j, j < k → chd (jcut J R) (6 * t + j) = us j := fun j hj => by
    unfold chd
    rw [jcut_o (by omega), (hm j hj).2.2.2.2.2.1, nI_clamp (by have := (hm j hj).2.2.2.2.2.2.1; omega)]
  have eR : jRank (jcut J R) = jRank J := by
    funext t j c
    unfold jRank jLeast
    simp only [jcut_o (J := J) (c := R) (show (9 : Nat) ≠ 4 by omega), jcut_o (J := J) (c := R) (show (13 : Nat) ≠ 4 by omega)]
  have h0 : ∀ t, R t = false → jcut J R 4 t = 0 := fun t ht => jcut_ge ht
  refine ⟨⟨ht160, ?_, ?_, fun q => ?_, ?_, ?_, fun q => absurd (kn 7 (by omega) q) (by omega), fun q => absurd (kn 10 (by omega) q) (by omega), fun q => ?_, fun q j hj => ?_, fun q => ?_⟩, ⟨by rw [zcut_sh, if_pos hSx]; exact hx, ?_, ?_, fun q => ?_, ?_, fun q => absurd (kn 7 (by omega) q) (by omega), fun q => absurd (kn 10 (by omega) q) (by omega), fun q => ?_⟩, j10, x7⟩
  · rw [e, j4]
    rcases hkd with rfl | rfl
    · exact Or.inr (Or.inr (Or.inr (Or.inr (Or.inl rfl))))
    · exact Or.inr (Or.inr (Or.inr (Or.inr (Or.inr (Or.inr (Or.inl rfl))))))
  · rw [e]
    exact Or.inl j11
  · rw [e, j11] at q
    exact absurd q (by decide)
  · rw [e]
    exact j9.1
  · rw [e]
    exact j9.2
  · rw [en, e]
    refine ⟨j8, hk6, fun j hj => ?_⟩
    obtain ⟨m1, m2, m3, m4, m5, m6, m7, m8, m9⟩ := hm j hj
    rw [ec j hj, jcut_o (by omega)]
    exact ⟨m6, wfT_le m8.1 m9⟩
  · rw [en] at hj
    obtain ⟨m1, m2, m3, m4, m5, m6, m7, m8, m9⟩ := hm j hj
    have k6 := kn 6 (by omega) q
    obtain ⟨d1, d2⟩ := hmd k6 j hj
    rw [jcut_o (by omega), ec j hj]
    rcases d2 with d2 | d2 | ⟨d2, d3, d4⟩
    · exact Or.inl d2
    · exact Or.inr (Or.inl d2)
    · refine Or.inr (Or.inr ⟨d2, ?_⟩)
      have hb6 : bas (jcut J R) 6 (us j) = bas (jcut J R) (hs j + 1) (us j) := (bas_wf (hs j + 1) 6 _ m8.1 (by omega)).1
      obtain ⟨bw, hbw⟩ := bas_w _ _ m8.1
      have hbR : R (bas (jcut J R) (hs j + 1) (us j)) = true := wf_c h0 hbw
      rw [hb6, jcut_lt hbR]
      rw [hb6] at d3
      exact d3
  · have k9 := kn 9 (by omega) q
    obtain ⟨d1, d2⟩ := hdis k9
    rw [en]
    refine ⟨d1, fun i j hi hj hij => ?_⟩
    rw [ec i hi, ec j hj, jcut_o (by omega), jcut_o (by omega)]
    exact d2 i j hi hj hij
  · rw [e, j4]
    exact x0
  · rw [e, j11]
    exact x1
  · rw [e, j11] at q
    exact absurd q (by decide)
  · rw [e]
    exact x6
  · rw [e, en]
    refine ⟨by rw [j8]; exact x8, ?_⟩
    show rChain (zcut M S) (jcut J R) (rep (zcut M S) (jcut J R) ht) t k 0 (zr M x 10)
    rw [h10]
    refine rChain_of (bs := bs) (xs := xs) (us := us) (fun j hj => ?_) k 0 (by omega)
    obtain ⟨m1, m2, m3, m4, m5, m6, m7, m8, m9⟩ := hm j hj
    refine ⟨by rw [zcut_sh, if_pos m1]; exact m2, m3, m4, m5, by rw [ec j hj]; exact rep_le m8.2.1 m9, fun q6 => ?_, fun q6 q2 => ?_, fun q9 => ?_⟩
    · rw [jcut_o (by omega)]
      exact (hmd (kn 6 (by omega) q6) j hj).1
    · rw [jcut_o (by omega)] at q2 ⊢
      rcases (hmd (kn 6 (by omega) q6) j hj).2 with d | d | d
      · rw [d] at q2; exact absurd q2 (by decide)
      · rw [d] at q2; exact absurd q2 (by decide)
      · exact d.2.2
    · rw [eR, en]
      exact hrk (kn 9 (by omega) q9) j hj
