/-! COMPILING: types, definitions -/
theorem kGood_lift {A KC KS q n d : Nat} {M0 M M' : zM} {J0 J J' : zJ} {p0 a0 b0 c0 p a b c x t : Nat} {S R : Nat → Bool} (hF : kF A a0 b0 c0 d M0 J0 M J) (hab : a0 ≤ a ∧ b0 ≤ b ∧ c0 ≤ c) (hp : p0 ≤ p) (h : kGood A KC KS q n d M J p a b c S R M' J' x t) : kGood A KC KS q n d M0 J0 p0 a0 b0 c0 S R M' J' x t := by
  obtain ⟨p', a', b', c', S', R', ht, g1, g2, ⟨g3, g4, g5, g6, g7⟩, g8, g9, g10, g11, g12, g13, g14⟩ := h
  obtain ⟨ha, hb, hc⟩ := hab
  refine ⟨p', a', b', c', S', R', ht, g1, kF_trans hF g2 ha hb hc (Nat.le_refl _), ⟨by omega, by omega, by omega, by omega, g7⟩, g8, g9, fun z hz => ?_, fun z hz => ?_, g12, g13, g14⟩
  · obtain ⟨w1, w2⟩ := g10 z hz
    exact ⟨w1, w2.imp_right (fun w v => w (kU_up hF.2.2.2.2.2.2.2 ha hb v))⟩
  · obtain ⟨w1, w2⟩ := g11 z hz
    exact ⟨w1, w2.imp_right (fun w => by omega)⟩
theorem fst_upd (l : Nat) (xs : Nat → Nat) (x : Nat) : fstT (l + 1) (updN xs l x) = if l = 0 then some x else fstT l xs := by
  unfold fstT
  rw [if_neg (by omega)]
  by_cases c : l = 0
  · rw [if_pos c, c, updN_k]
  · rw [if_neg c, if_neg c, updN_o (by omega)]
theorem lst_upd (l : Nat) (xs : Nat → Nat) (x : Nat) : lstT (l + 1) (updN xs l x) = some x := by
  unfold lstT
  rw [if_neg (by omega), show l + 1 - 1 = l by omega, updN_k]
theorem kc_tags {A KC KS q n d : Nat} {M0 : zM} {J0 : zJ} {a0 b0 c0 p0 : Nat} {S R : Nat → Bool} {rec : Nat → (Nat × Int32 × zM) → Option (Option Nat × zM)} (hP0 : kcP A KC KS q M0 a0 b0) (hd : d ≤ 6) (hrec : ∀ e, d ≤ e → e < 6 → kTy A KC KS q (fun N M => rec N (A + 2, nI (e + 1), M)) (e + 1)) : ∀ m l (M : zM) (J : zJ) p a b c xs ts, n - p ≤ m → kTl A KC KS q n d M0 J0 a0 b0 c0 M J p a b c S R l xs ts → p0 ≤ p → 3 * l ≤ p →
    (∃ M' J' x t, Ev (fun N => ∀ F, m + 1 ≤ F → qfix (FC_readType_7 N KC KS (rec N) (A + 2) (nI d)) F (fstT l xs, lstT l xs, nI l, M) = some (some x, M')) ∧ goW (-1, J) (nI t, J') ∧ kGood A KC KS q n d M0 J0 p0 a0 b0 c0 S R M' J' x t) ∨ (∃ M' J', Ev (fun N => ∀ F, m + 1 ≤ F → qfix (FC_readType_7 N KC KS (rec N) (A + 2) (nI d)) F (fstT l xs, lstT l xs, nI l, M) = some (none, M')) ∧ goW (-1, J) (-1, J') ∧ kcBad A KC KS q M J M' J') := by
  intro m
  induction m with
  | zero =>
    intro l M J p a b c xs ts hm hi hp0 h3
    -- the text is at its end
    have hi' := hi
    obtain ⟨i1, i2, i3, i4, i5, i6⟩ := hi
    obtain ⟨k1, k2, k3, k4, k5, k6⟩ := kc_7 i1
    have h91 : cx J n p ≠ 91 := by
      unfold cx
      rw [if_neg (by omega)]
      decide
    have hst : ∀ N F, qfix (FC_readType_7 N KC KS (rec N) (A + 2) (nI d)) (F + 1) (fstT l xs, lstT l xs, nI l, M) = FC_readType_62 N KC KS (rec N) (A + 2) (nI d) (fstT l xs) (lstT l xs) (nI l) M := by
      intro N F
      rw [qfix_s]
      simp only [FC_readType_7]
      rw [if_neg (by rw [show (150 : Int32) = nI 150 from rfl, nI_leI (by omega) (by omega)]; omega), qk_d k3, (kc_look i1 N).1, qb_some, if_neg h91]
    rcases kc_untagged (d := d + l) (rec := rec) (fun h => hrec (d + l) (by omega) h) (by omega) i1 i2 i5 h91 with ⟨M1, J1, y, u, e1, e2, e3⟩ | ⟨M1, J1, e1, e2, e3⟩
    · left
      by_cases hl : l = 0
      · subst hl
        refine ⟨M1, J1, y, u, ev_mono e1 (fun N hN F hF => ?_), e2, kGood_lift i3 i4 hp0 e3⟩
        obtain ⟨F, rfl⟩ : ∃ g, F = g + 1 := ⟨F - 1, by omega⟩
        have hN : FC_readUntagged N KC KS (rec N) (A + 2) (nI (d + 0)) M = some (some y, M1) := hN
        rw [hst]
        unfold FC_readType_62
        rw [qk_d k3, nI_add, hN, qb_some, if_neg (by simp), if_pos (show lstT 0 xs = none from if_pos rfl)]
      · obtain ⟨Mf, Jf, w1, w2, w3⟩ := kc_wrap (p0 := p0) hP0 hi' (by omega) hp0 e3
        refine ⟨Mf, Jf, xs 0, ts 0, ev_mono (ev_and e1 (⟨l + 1, fun N hN => hN⟩ : Ev (fun N => l + 1 ≤ N))) (fun N hN F hF => ?_), goW_trans e2 w2, w3⟩
        obtain ⟨F, rfl⟩ : ∃ g, F = g + 1 := ⟨F - 1, by omega⟩
        have hN1 : FC_readUntagged N KC KS (rec N) (A + 2) (nI (d + l)) M = some (some y, M1) := hN.1
        have fl : fstT l xs = some (xs 0) := if_neg hl
        have ll : lstT l xs = some (xs (l - 1)) := if_neg hl
        rw [hst, fl, ll]
        unfold FC_readType_62 FC_readType_105
        rw [qk_d k3, nI_add, hN1, qb_some, if_neg (by simp), if_neg (by simp)]
        exact w1 N hN.2
    · right
      refine ⟨M1, J1, ev_mono e1 (fun N hN F hF => ?_), e2, e3⟩
      obtain ⟨F, rfl⟩ : ∃ g, F = g + 1 := ⟨F - 1, by omega⟩
      have hN : FC_readUntagged N KC KS (rec N) (A + 2) (nI (d + l)) M = some (none, M1) := hN
      rw [hst]
      unfold FC_readType_62
      rw [qk_d k3, nI_add, hN, qb_some, if_pos rfl]
  | succ m ih =>
    intro l M J p a b c xs ts hm hi hp0 h3
    have hi' := hi
    obtain ⟨i1, i2, i3, i4, i5, i6⟩ := hi
    obtain ⟨k1, k2, k3, k4, k5, k6⟩ := kc_7 i1
    have h150 : ¬ (150 : Int32) ≤ nI l := by rw [show (150 : Int32) = nI 150 from rfl, nI_leI (by omega) (by omega)]; omega
    by_cases h91 : cx J n p = 91
    · have hpn : p < n := cx_lt h91 (by decide)
      rcases kc_tag (e := d + l) i1 i2 (by omega) h91 with ⟨M6, J6, p6, x, g1, g2, g3, g4, g5, g6, g7, g8, g9, g10, g11, g12⟩ | ⟨M6, J6, g1, g2, g3⟩
      · obtain ⟨hT, hw⟩ := kTl_add hP0 hi' g4 g5 g6 g7 g9 g10 g11 g12
        have hst : ∀ N F, FC_readTag N KC KS (A + 2) M = some (some x, M6) → qfix (FC_readType_7 N KC KS (rec N) (A + 2) (nI d)) (F + 1) (fstT l xs, lstT l xs, nI l, M) = qfix (FC_readType_7 N KC KS (rec N) (A + 2) (nI d)) F (fstT (l + 1) (updN xs l x), lstT (l + 1) (updN xs l x), nI (l + 1), lkM M6 l xs x) := by
          intro N F hN
          rw [qfix_s]
          simp only [FC_readType_7]
          rw [if_neg h150, qk_d k3, (kc_look i1 N).1, qb_some, if_pos h91, qk_d k3, hN, qb_some, if_neg (by simp), fst_upd, lst_upd, nI_add1]
          by_cases hl : l = 0
          · have ll : lstT l xs = none := if_pos hl
            rw [ll, if_pos rfl, if_pos hl]
            unfold lkM
            rw [if_pos hl]
          · have ll : lstT l xs = some (xs (l - 1)) := if_neg hl
            have s6 : zsh M6 (xs (l - 1)) = some (.inl 6) := g5.1.1 _ _ (i6.1 (l - 1) (by omega)).1.1
            rw [ll, if_neg (by simp), if_neg hl, qo_s rfl s6]
            unfold lkM
            rw [if_neg hl]
        rcases ih (l + 1) (lkM M6 l xs x) J6 p6 (a + 1) b (c + 1) (updN xs l x) (updN ts l c) (by omega) hT (by omega) (by omega) with ⟨M', J', x', t', z1, z2, z3⟩ | ⟨M', J', z1, z2, z3⟩
        · left
          refine ⟨M', J', x', t', ev_mono (ev_and g2 z1) (fun N hN F hF => ?_), goW_trans g3 z2, z3⟩
          obtain ⟨F, rfl⟩ : ∃ g, F = g + 1 := ⟨F - 1, by omega⟩
          rw [hst N F hN.1]
          exact hN.2 F (by omega)
        · right
          refine ⟨M', J', ev_mono (ev_and g2 z1) (fun N hN F hF => ?_), goW_trans g3 z2, kcBad_l (wMf_trans g5.1 hw) g5.2.1 z3⟩
          obtain ⟨F, rfl⟩ : ∃ g, F = g + 1 := ⟨F - 1, by omega⟩
          rw [hst N F hN.1]
          exact hN.2 F (by omega)
      · right
        refine ⟨M6, J6, ev_mono g1 (fun N hN F hF => ?_), g2, g3⟩
        obtain ⟨F, rfl⟩ : ∃ g, F = g + 1 := ⟨F - 1, by omega⟩
        rw [qfix_s]
        simp only [FC_readType_7]
        rw [if_neg h150, qk_d k3, (kc_look i1 N).1, qb_some, if_pos h91, qk_d k3, hN, qb_some, if_pos rfl]
    · have hst : ∀ N F, qfix (FC_readType_7 N KC KS (rec N) (A + 2) (nI d)) (F + 1) (fstT l xs, lstT l xs, nI l, M) = FC_readType_62 N KC KS (rec N) (A + 2) (nI d) (fstT l xs) (lstT l xs) (nI l) M := by
        intro N F
        rw [qfix_s]
        simp only [FC_readType_7]
        rw [if_neg h150, qk_d k3, (kc_look i1 N).1, qb_some, if_neg h91]
      rcases kc_untagged (d := d + l) (rec := rec) (fun h => hrec (d + l) (by omega) h) (by omega) i1 i2 i5 h91 with ⟨M1, J1, y, u, e1, e2, e3⟩ | ⟨M1, J1, e1, e2, e3⟩
      · left
        by_cases hl : l = 0
        · subst hl
          refine ⟨M1, J1, y, u, ev_mono e1 (fun N hN F hF => ?_), e2, kGood_lift i3 i4 hp0 e3⟩
          obtain ⟨F, rfl⟩ : ∃ g, F = g + 1 := ⟨F - 1, by omega⟩
          have hN : FC_readUntagged N KC KS (rec N) (A + 2) (nI (d + 0)) M = some (some y, M1) := hN
          rw [hst]
          unfold FC_readType_62
          rw [qk_d k3, nI_add, hN, qb_some, if_neg (by simp), if_pos (show lstT 0 xs = none from if_pos rfl)]
        · obtain ⟨Mf, Jf, w1, w2, w3⟩ := kc_wrap (p0 := p0) hP0 hi' (by omega) hp0 e3
          refine ⟨Mf, Jf, xs 0, ts 0, ev_mono (ev_and e1 (⟨l + 1, fun N hN => hN⟩ : Ev (fun N => l + 1 ≤ N))) (fun N hN F hF => ?_), goW_trans e2 w2, w3⟩
          obtain ⟨F, rfl⟩ : ∃ g, F = g + 1 := ⟨F - 1, by omega⟩
          have hN1 : FC_readUntagged N KC KS (rec N) (A + 2) (nI (d + l)) M = some (some y, M1) := hN.1
          have fl : fstT l xs = some (xs 0) := if_neg hl
          have ll : lstT l xs = some (xs (l - 1)) := if_neg hl
          rw [hst, fl, ll]
          unfold FC_readType_62 FC_readType_105
          rw [qk_d k3, nI_add, hN1, qb_some, if_neg (by simp), if_neg (by simp)]
          exact w1 N hN.2
      · right
        refine ⟨M1, J1, ev_mono e1 (fun N hN F hF => ?_), e2, e3⟩
        obtain ⟨F, rfl⟩ : ∃ g, F = g + 1 := ⟨F - 1, by omega⟩
        have hN : FC_readUntagged N KC KS (rec N) (A + 2) (nI (d + l)) M = some (none, M1) := hN
        rw [hst]
        unfold FC_readType_62
        rw [qk_d k3, nI_add, hN, qb_some, if_pos rfl]
theorem kF_refl {A a b c d : Nat} (M : zM) (J : zJ) : kF A a b c d M J M J := ⟨wMf_refl A M, kJ_refl J, fun _ _ => ⟨rfl, rfl⟩, tAg_refl _ _, fun _ _ => rfl, rfl, rfl, fun _ _ _ _ h => h⟩
theorem kc_type {A KC KS q d : Nat} {rec : Nat → (Nat × Int32 × zM) → Option (Option Nat × zM)} (hd : d ≤ 6) (hrec : ∀ e, d ≤ e → e < 6 → kTy A KC KS q (fun N M => rec N (A + 2, nI (e + 1), M)) (e + 1)) : kTy A KC KS q (fun N M => FC_readType N KC KS (rec N) (A + 2) (nI d) M) d := by
  intro M J n p a b c S R h h5 hN
  have hT : kTl A KC KS q n d M J a b c M J p a b c S R 0 (fun _ => 0) (fun _ => 0) := ⟨h, h5, kF_refl M J, ⟨Nat.le_refl _, Nat.le_refl _, Nat.le_refl _⟩, hN, fun i hi => absurd hi (by omega), fun i j hi => absurd hi (by omega), fun i j hi => absurd hi (by omega)⟩
  rcases kc_tags (p0 := p) h.2.1 hd hrec (n - p) 0 M J p a b c _ _ (Nat.le_refl _) hT (Nat.le_refl _) (by omega) with ⟨M', J', x, t, z1, z2, z3⟩ | ⟨M', J', z1, z2, z3⟩
  · left
    refine ⟨M', J', x, t, ev_mono (ev_and z1 (⟨n - p + 1, fun N hN => hN⟩ : Ev (fun N => n - p + 1 ≤ N))) (fun N hN => ?_), z2, z3⟩
    exact hN.1 N hN.2
  · right
    refine ⟨M', J', ev_mono (ev_and z1 (⟨n - p + 1, fun N hN => hN⟩ : Ev (fun N => n - p + 1 ≤ N))) (fun N hN => ?_), z2, z3⟩
    exact hN.1 N hN.2
theorem kc_all {A KC KS q : Nat} : ∀ k d, d ≤ 6 → 7 ≤ k + d → kTy A KC KS q (fun N M => RC_readType N KC KS k (A + 2, nI d, M)) d := by
  intro k
  induction k with
  | zero => intro d h1 h2; omega
  | succ k ih =>
    intro d h1 h2
    exact kc_type (rec := fun N => RC_readType N KC KS k) h1 (fun e he h6 => ih (e + 1) (by omega) (by omega))
/-- a definition -/
theorem zu_ne_at {J : zJ} {c k c2 k2 : Nat} {v : Int32} (h : ¬ (c2 = c ∧ k2 = k)) : zu J c k v c2 k2 = J c2 k2 := by rw [zu_at, if_neg h]
theorem kc_def {A KC KS q n p a b c : Nat} {M : zM} {J : zJ} {S R : Nat → Bool} (h : kcS A KC KS q M J n p a b c) (hN : kcN A M J S R a b c) :
    (∃ M' J' p' a' b' c' S' R', p < p' ∧ Ev (fun N => FC_readDefinition N KC KS (A + 2) M = some ((), M')) ∧ Ev (fun N => FM_definition N J = some ((), J')) ∧ kcS A KC KS q M' J' n p' a' b' c' ∧ kcN A M' J' S' R' a' b' c' ∧ wMf A M M' ∧ kJ J J') ∨
    (∃ M' J', Ev (fun N => FC_readDefinition N KC KS (A + 2) M = some ((), M')) ∧ Ev (fun N => FM_definition N J = some ((), J')) ∧ kcBad A KC KS q M J M' J') := by
  obtain ⟨k1, k2, k3, k4, k5, k6⟩ := kc_7 h
  have hL := h.1.1
  have hname : ∀ N, FC_isName N (cx J n p) = some (decide (65 ≤ (cx J n p).toInt ∧ (cx J n p).toInt ≤ 90)) := by
    intro N
    unfold FC_isName
    simp only [Int32.lt_iff_toInt_lt, i_lit 65 (by omega), i_lit 90 (by omega)]
    by_cases c1 : (cx J n p).toInt < ((65 : Nat) : Int)
    · rw [if_pos c1, decide_eq_false (by omega)]
    · rw [if_neg c1]
      by_cases c2 : ((90 : Nat) : Int) < (cx J n p).toInt
      · rw [if_pos c2, decide_eq_false (by omega)]
      · rw [if_neg c2, decide_eq_true (by omega)]
  have b50 : ∀ N (l : Int32) (J' : zJ), ¬ J' 0 4 ≤ 0 → FM_definition_50 N l J' = some ((), J') := by
    intro N l J' hh
    unfold FM_definition_50
    rw [if_neg hh]
  have jFn : ∀ f, 1 ≤ f → f < 4096 → ¬ jF J f 0 4 ≤ 0 := by
    intro f f1 f2
    unfold jF
    rw [zu_self, show (0 : Int32) = nI 0 from rfl, nI_leI (by omega) (by omega)]
    omega
  have h26 : (decide (0 ≤ (cx J n p - 65).toInt) && decide ((cx J n p - 65).toInt ≤ 25)) = decide (65 ≤ (cx J n p).toInt ∧ (cx J n p).toInt ≤ 90) := by
    rcases cx_ch (p' := p) h with e | ⟨ch, c1, c2⟩
    · rw [e]
      decide
    · rw [c2]
      have : (nI ch - 65).toInt = (ch : Int) - 65 := by
        rw [Int32.toInt_sub, nI_toInt (by omega), i_lit 65 (by omega), Int.bmod_eq_of_le] <;> omega
      rw [this, nI_toInt (by omega)]
      by_cases cc : 65 ≤ (ch : Int) ∧ (ch : Int) ≤ 90
      · rw [decide_eq_true cc, decide_eq_true (by omega), decide_eq_true (by omega)]
        rfl
      · rw [decide_eq_false cc]
        simp
        omega
  have hMd : ∀ N, FM_definition N J = if (bI (decide (65 ≤ (cx J n p).toInt ∧ (cx J n p).toInt ≤ 90))) = 0 then FM_definition_50 N (cx J n p - 65) (jF J (1 + 16 * p)) else qk (qi (cx J n p - 65) 26) <| if (J 3 (cx J n p - 65).toNatClampNeg) < 0 then FM_definition_50 N (cx J n p - 65) J else FM_definition_50 N (cx J n p - 65) (jF J (2 + 16 * p)) := by
    intro N
    unfold FM_definition
    rw [(kc_look h N).2, qb_some]
    simp only
    rw [FM_in_eq, qc_some, i_0, i_lit 25 (by omega), k2, show (1 : Int32) = nI 1 from rfl, eM_stop k6, qb_some, show (2 : Int32) = nI 2 from rfl, eM_stop k6, qb_some, ← h26]
    rfl
  by_cases cn : 65 ≤ (cx J n p).toInt ∧ (cx J n p).toInt ≤ 90
  case neg =>
    right
    refine ⟨mFt M A (1 + 16 * p), jF J (1 + 16 * p), ev_of (fun N => ?_), ev_of (fun N => ?_), kc_bad0 h (by omega) (by omega)⟩
    · unfold FC_readDefinition
      rw [(kc_look h N).1, qb_some, hname, qc_some, decide_eq_false cn, if_pos (by decide), qk_d k3, k1, show (1 : Int32) = nI 1 from rfl, eC_refuse, qb_some]
    · rw [hMd, decide_eq_false cn, if_pos (by decide), b50 N _ _ (jFn _ (by omega) (by omega))]
  obtain ⟨ch, c1, c2, c3⟩ := nI_ex (x := cx J n p) (by omega)
  have hpn : p < n := cx_lt c2 (nI_n1 (by omega))
  have e65 : cx J n p - 65 = nI (ch - 65) := by rw [c2]; exact nI_subs (b := 65) (by omega)
  have q26 : qi (nI (ch - 65)) 26 = true := qi_nI (by omega) (by omega)
  have cl : (nI (ch - 65)).toNatClampNeg = ch - 65 := nI_clamp (by omega)
  have r1 : zr M (A + 2) 1 = some (A + 3) := zLr hL 37 rfl
  have s3 : zsh M (A + 3) = some (.inr (4, 26)) := zLs hL 3 rfl
  have hCd : ∀ N, FC_readDefinition N KC KS (A + 2) M = if (zr M (A + 3) (ch - 65)) = none then qb (FC_pass N KC KS (A + 2) 61 (mP M A (p + 1))) fun v7 M8 => if (bI v7) = 0 then some ((), M8) else qk (decide (zsh M8 (A + 2) = some (.inl 0))) <| qb (RC_readType N KC KS 8 (A + 2, 0, M8)) fun v10 M11 => if v10 = none then some ((), M11) else qk (decide (zsh M11 (A + 2) = some (.inl 0))) <| qb (FC_pass N KC KS (A + 2) 59 M11) fun v13 M14 => if (bI v13) = 0 then some ((), M14) else qk (decide (zsh M14 (A + 2) = some (.inl 0))) <| qa (zr M14 (A + 2) 1) M14 4 (nI (ch - 65)) fun a16 => qo v10 M14 6 fun o18 => let M17 := zpr M14 a16 (nI (ch - 65)).toNatClampNeg (some o18); some ((), M17) else some ((), mFt M A (2 + 16 * p)) := by
    intro N
    unfold FC_readDefinition
    rw [(kc_look h N).1, qb_some, hname, qc_some, decide_eq_true cn, if_neg (by decide), qk_d k3, e65, qa_s r1 s3 q26, cl, k1, nI_add1, show (2 : Int32) = nI 2 from rfl, eC_refuse, qb_some]
    rfl
  have hMd2 : ∀ N, FM_definition N J = if J 3 (ch - 65) < 0 then FM_definition_50 N (nI (ch - 65)) J else FM_definition_50 N (nI (ch - 65)) (jF J (2 + 16 * p)) := by
    intro N
    rw [hMd, decide_eq_true cn, if_neg (by decide), e65, qk_t q26, cl]
  rcases hN.2.2 (ch - 65) (by omega) with ⟨g1, g2⟩ | ⟨x, t, ht, g1, g2, g3, g4⟩
  case inr =>
    right
    have ht160 : t < 160 := by
      have := hN.2.1 t (dT_lt g3)
      have := h.2.2.2.2.2.2.2.2.2.2.2
      omega
    refine ⟨mFt M A (2 + 16 * p), jF J (2 + 16 * p), ev_of (fun N => ?_), ev_of (fun N => ?_), kc_bad0 h (by omega) (by omega)⟩
    · rw [hCd, g1, if_neg (by simp)]
    · rw [hMd2, g2, if_neg (by rw [show (0 : Int32) = nI 0 from rfl, nI_ltI (by omega) (by omega)]; omega), b50 N _ _ (jFn _ (by omega) (by omega))]
  have h6 := kc_go (p' := p + 1) h (by omega) (by omega)
  have h50 : ∀ N, FM_definition N J = qb (FM_need N (nI 61) (jP J (p + 1))) fun v2 J3 => if (bI v2) = 0 then FM_definition_85 N (nI (ch - 65)) (-1) J3 else qb (FM_whole N J3) fun v4 J5 => FM_definition_85 N (nI (ch - 65)) v4 J5 := by
    intro N
    rw [hMd2, g2, if_pos (by decide)]
    unfold FM_definition_50
    rw [k6, if_pos (by decide), k2, nI_add1]
    rfl
  have d85 : ∀ N (J' : zJ), FM_definition_85 N (nI (ch - 65)) (-1) J' = some ((), J') := by
    intro N J'
    unfold FM_definition_85
    rw [if_pos (by decide)]
  by_cases c61 : cx (jP J (p + 1)) n (p + 1) = nI 61
  case neg =>
    right
    refine ⟨mFt (mP M A (p + 1)) A (1 + 16 * (p + 1)), jF (jP J (p + 1)) (1 + 16 * (p + 1)), ev_of (fun N => ?_), ev_of (fun N => ?_), kcBad_l (wMf_P A M _) (kJ_P J _) (kc_bad0 h6 (by omega) (by omega))⟩
    · rw [hCd, if_pos g1, show (61 : Int32) = nI 61 from rfl, ((kc_pass h6 61 (by omega) N).2 c61).1, qb_some, if_pos (by decide)]
    · rw [h50, ((kc_pass h6 61 (by omega) N).2 c61).2, qb_some, if_pos (by decide), d85]
  have hpn2 : p + 1 < n := cx_lt c61 (nI_n1 (by omega))
  have hpass : ∀ N, FC_pass N KC KS (A + 2) (nI 61) (mP M A (p + 1)) = some (true, mP M A (p + 2)) ∧ FM_need N (nI 61) (jP J (p + 1)) = some (true, jP J (p + 2)) := by
    intro N
    have := (kc_pass h6 61 (by omega) N).1 c61
    rw [mP_P, jP_P] at this
    exact ⟨this.1, this.2.1⟩
  have h8 := kcS_5 (k := 5) (w := 0) (kc_go (p' := p + 2) h (by omega) (by omega)) (Or.inl rfl)
  have hF8 : kF A a b c 0 M J (mP M A (p + 2)) (zu (jP J (p + 2)) 0 5 0) := kF_trans (kF_P h) (kF_c (kc_go (p' := p + 2) h (by omega) (by omega)) (wMf_refl A _) (kJ_0 (by omega)) (fun _ _ => rfl) rfl (fun t ht => ⟨fun k a b => by rw [zu_at, if_neg (by omega)], fun j hj k a b => by rw [zu_at, if_neg (by omega)]⟩) (fun k hk => by omega) (funext (fun k => by rw [zu_at, if_neg (by omega)]))) (Nat.le_refl _) (Nat.le_refl _) (Nat.le_refl _) (Nat.le_refl _)
  have hN8 := kcN_same hF8 hN (Nat.le_refl _) (Nat.le_refl _) (Nat.le_refl _)
  have s8 : zsh (mP M A (p + 2)) (A + 2) = some (.inl 0) := k3
  rcases kc_all (q := q) 8 0 (by omega) (by omega) (mP M A (p + 2)) (zu (jP J (p + 2)) 0 5 0) n (p + 2) a b c S R h8 (zu_self _ _ _ _) hN8 with ⟨M1, J1, x, t, e1, e2, p1, a1, b1, c1', S1, R1, ht, f1, f2, ⟨f3, f4, f5, f6, f7⟩, f8, f9, f10, f11, f12, f13, f14⟩ | ⟨M1, J1, e1, e2, e3⟩
  case inr =>
    right
    obtain ⟨ff, y1, y2, y3, y4, y5⟩ := kcBad_J e3
    have hw := w_bad e2 y5
    refine ⟨M1, J1, ev_mono e1 (fun N hN => ?_), ev_mono hw (fun N hN => ?_), kcBad_l hF8.1 hF8.2.1 e3⟩
    · have hN : RC_readType N KC KS 8 (A + 2, 0, mP M A (p + 2)) = some (none, M1) := hN
      rw [hCd, if_pos g1, show (61 : Int32) = nI 61 from rfl, (hpass N).1, qb_some, if_neg (by decide), qk_d s8, hN, qb_some, if_pos rfl]
    · rw [h50, (hpass N).2, qb_some, if_neg (by decide), hN, qb_some, d85]
  have ht160 : t < 160 := by
    have := (f11 t (dT_lt f12)).1
    have := f1.2.2.2.2.2.2.2.2.2.2.2
    have := (kc_7 f1).2.2.2
    omega
  have hw := w_good ht160 e2 f14 (kc_7 f1).2.2.2.2.2
  have s1 := (kc_7 f1).2.2.1
  have h85 : ∀ N, FM_definition_85 N (nI (ch - 65)) (nI t) J1 = qb (FM_need N (nI 59) J1) fun v1 J2 => if (bI v1) = 0 then some ((), J2) else some ((), zu J2 3 (ch - 65) (nI t)) := by
    intro N
    unfold FM_definition_85
    rw [if_neg (by rw [show (0 : Int32) = nI 0 from rfl, nI_ltI (by omega) (by omega)]; omega), cl]
    simp only [qk_t q26]
    rfl
  have hF1 : kF A a b c 0 M J M1 J1 := kF_trans hF8 f2 (Nat.le_refl _) (Nat.le_refl _) (Nat.le_refl _) (Nat.le_refl _)
  by_cases c59 : cx J1 n p1 = nI 59
  case neg =>
    right
    refine ⟨mFt M1 A (1 + 16 * p1), jF J1 (1 + 16 * p1), ev_mono e1 (fun N hN => ?_), ev_mono hw (fun N hN => ?_), kcBad_l hF1.1 hF1.2.1 (kc_bad0 f1 (by omega) (by have := (kc_7 f1).2.2.2; omega))⟩
    · have hN : RC_readType N KC KS 8 (A + 2, 0, mP M A (p + 2)) = some (some x, M1) := hN
      rw [hCd, if_pos g1, show (61 : Int32) = nI 61 from rfl, (hpass N).1, qb_some, if_neg (by decide), qk_d s8, hN, qb_some, if_neg (by simp), qk_d s1, show (59 : Int32) = nI 59 from rfl, ((kc_pass f1 59 (by omega) N).2 c59).1, qb_some, if_pos (by decide)]
    · rw [h50, (hpass N).2, qb_some, if_neg (by decide), hN, qb_some, h85, ((kc_pass f1 59 (by omega) N).2 c59).2, qb_some, if_pos (by decide)]
  have hpn1 : p1 < n := cx_lt c59 (nI_n1 (by omega))
  have h9 := kc_go (p' := p1 + 1) f1 (by omega) (by omega)
  have hL9 := h9.1.1
  have r9 : zr (mP M1 A (p1 + 1)) (A + 2) 1 = some (A + 3) := zLr hL9 37 rfl
  have s9 : zsh (mP M1 A (p1 + 1)) (A + 3) = some (.inr (4, 26)) := zLs hL9 3 rfl
  have x9 : zsh (mP M1 A (p1 + 1)) x = some (.inl 6) := (dT_in f12).2
  have hF9 : kF A a1 b1 c1' 0 M1 J1 (mP M1 A (p1 + 1)) (jP J1 (p1 + 1)) := kF_P f1
  have N1 : kcN A M1 J1 S1 R1 a1 b1 c1' := kcN_F f2 hN8 (fun z hz => (f10 z hz).1) (fun z hz => (f11 z hz).1) f8 f9
  have N9 : kcN A (mP M1 A (p1 + 1)) (jP J1 (p1 + 1)) S1 R1 a1 b1 c1' := kcN_same hF9 N1 (Nat.le_refl _) (Nat.le_refl _) (Nat.le_refl _)
  have d9 : dT (mP M1 A (p1 + 1)) (jP J1 (p1 + 1)) S1 R1 x t ht := dT_F hF9 N1.1 N1.2.1 (fun _ h => h) (fun _ h => h) f12
  have hx3 : ∀ z, S1 z = true → z ≠ A + 3 := fun z hz => (kU_x h9.1 h9.2.1 (N9.1 z hz)).1 3 (by omega)
  let M17 : zM := zpr (mP M1 A (p1 + 1)) (A + 3) (ch - 65) (some x)
  let J17 : zJ := zu (jP J1 (p1 + 1)) 3 (ch - 65) (nI t)
  have r17 : ∀ z j, zr M17 z j = if z = A + 3 ∧ j = ch - 65 then some x else zr (mP M1 A (p1 + 1)) z j := fun z j => zr_pr _ _ _ z j _
  have hw17 : wMf A (mP M1 A (p1 + 1)) M17 := ⟨fun _ _ h => h, fun _ _ _ => rfl, fun cc hc h3 _ _ => funext (fun j => by rw [r17, if_neg (by omega)]), fun _ _ => rfl, rfl⟩
  have r45 : ∀ e, e = 4 ∨ e = 5 → zr M17 (A + e) = zr (mP M1 A (p1 + 1)) (A + e) := fun e he => funext (fun j => by rw [r17, if_neg (by omega)])
  obtain ⟨u4, u5, u10, ua, ub, uc⟩ := h9.2.2.2.2.2.2
  have hk17 : kcS A KC KS q M17 J17 n (p1 + 1) a1 b1 c1' := kcS_k h9 hw17 (kcP_same h9.2.1 rfl rfl rfl (r45 4 (Or.inl rfl)) (r45 5 (Or.inr rfl))) (kc_7 h9).1 h9.2.2.2.2.2.1.1 u4 u5 (kJ_zu (by omega)) (by show zu _ _ _ _ _ _ = _; rw [zu_ne _ _ _ (by omega)]; exact (kc_7 h9).2.1) (by show zu _ _ _ _ _ _ = _; rw [zu_ne _ _ _ (by omega)]; exact (kc_7 h9).2.2.2.2.2) (by show zu _ _ _ _ _ _ = _; rw [zu_ne _ _ _ (by omega)]; exact u10) (by omega) ua ub uc
  have tA : tAg R1 (jP J1 (p1 + 1)) J17 := fun z hz => ⟨fun k h1 h2 => zu_ne_at (by omega), fun j hj k h1 h2 => zu_ne_at (by omega)⟩
  have dU : ∀ z v hv, dT (mP M1 A (p1 + 1)) (jP J1 (p1 + 1)) S1 R1 z v hv → dT M17 J17 S1 R1 z v hv := fun z v hv hz => dT_up (M := mP M1 A (p1 + 1)) (M' := M17) (fun _ h => h) tA (fun w hw => ⟨hw, rfl, funext (fun j => by rw [r17, if_neg (fun q => hx3 w hw q.1)]), fun _ hs => hs⟩) hz
  left
  refine ⟨M17, J17, p1 + 1, a1, b1, c1', S1, R1, by omega, ev_mono e1 (fun N hN => ?_), ev_mono hw (fun N hN => ?_), hk17, ⟨fun z hz => ?_, N9.2.1, fun i hi => ?_⟩, wMf_trans hF1.1 (wMf_trans (wMf_P A _ _) hw17), kJ_trans hF1.2.1 (kJ_trans (kJ_P _ _) (kJ_zu (by omega)))⟩
  · have hN : RC_readType N KC KS 8 (A + 2, 0, mP M A (p + 2)) = some (some x, M1) := hN
    rw [hCd, if_pos g1, show (61 : Int32) = nI 61 from rfl, (hpass N).1, qb_some, if_neg (by decide), qk_d s8, hN, qb_some, if_neg (by simp), qk_d s1, show (59 : Int32) = nI 59 from rfl, ((kc_pass f1 59 (by omega) N).1 c59).1, qb_some, if_neg (by decide), qk_d (kc_7 h9).2.2.1, qa_s r9 s9 q26, qo_s rfl x9, cl]
  · rw [h50, (hpass N).2, qb_some, if_neg (by decide), hN, qb_some, h85, ((kc_pass f1 59 (by omega) N).1 c59).2.1, qb_some, if_neg (by decide)]
  · rcases N9.1 z hz with ⟨j, j1, j2⟩ | ⟨j, j1, j2⟩
    · exact Or.inl ⟨j, j1, by rw [r45 4 (Or.inl rfl)]; exact j2⟩
    · exact Or.inr ⟨j, j1, by rw [r45 5 (Or.inr rfl)]; exact j2⟩
  · by_cases hic : i = ch - 65
    · subst hic
      exact Or.inr ⟨x, t, ht, by rw [r17, if_pos ⟨rfl, rfl⟩], zu_self _ _ _ _, dU _ _ _ d9, by omega⟩
    · have j3 : J17 3 i = jP J1 (p1 + 1) 3 i := zu_ne_at (by omega)
      rw [r17, if_neg (by omega), j3]
      rcases N9.2.2 i hi with w | ⟨x', t', ht', w1, w2, w3, w4⟩
      · exact Or.inl w
      · exact Or.inr ⟨x', t', ht', w1, w2, dU _ _ _ w3, w4⟩
