/-! COMPILING: how a component may stand -/
theorem c_untag2 {M : zM} {T : zJ} : ∀ n a t, wfT T n t → rep M T n a t → ∃ b, (∀ k N F, k + n ≤ 6 → n ≤ F → qfix (FT_untagged_4 N M) F (some a, nI k) = some (some b)) ∧ zsh M b = some (.inl 6) ∧ zi M b 0 = T 4 (bas T n t) ∧ zi M b 1 = T 11 (bas T n t) ∧ (T 11 (bas T n t) = 1 → zi M b 2 = T 5 (bas T n t) ∧ zi M b 3 = T 6 (bas T n t)) := by
  intro n
  induction n with
  | zero => intro a t h; exact h.elim
  | succ n ih =>
    intro a t hw hr
    obtain ⟨e1, e2, _⟩ := rep_sh hr
    by_cases k10 : T 4 t = 10
    · obtain ⟨q1, q2, b, q3, q4⟩ := hr.2.2.2.2.2.2.1 k10
      obtain ⟨b', i1, i2⟩ := ih b _ (hw.2.2.2.2.2.2.2.1 k10).2.2.2.2 q4
      have hb : bas T (n + 1) t = bas T n (chd T (6 * t)) := by
        show (if T 4 t = 10 then _ else _) = _
        rw [if_pos k10]
      refine ⟨b', fun k N F hk hF => ?_, by rw [hb]; exact i2⟩
      obtain ⟨F, rfl⟩ : ∃ g, F = g + 1 := ⟨F - 1, by omega⟩
      rw [qfix_s]
      simp only [FT_untagged_4]
      rw [if_neg (by rw [show (6 : Int32) = nI 6 from rfl, nI_leI (by omega) (by omega)]; omega), qo_s rfl e1, e2, if_pos k10, qo_s rfl e1, q3, if_neg (by simp), qo_s rfl e1, nI_p1, q3]
      exact i1 (k + 1) N F (by omega) (by omega)
    · rw [bas_self k10]
      refine ⟨a, fun k N F hk hF => ?_, e1, e2, hr.2.2.1, hr.2.2.2.1⟩
      obtain ⟨F, rfl⟩ : ∃ g, F = g + 1 := ⟨F - 1, by omega⟩
      rw [qfix_s]
      simp only [FT_untagged_4]
      rw [if_neg (by rw [show (6 : Int32) = nI 6 from rfl, nI_leI (by omega) (by omega)]; omega), qo_s rfl e1, e2, if_neg k10]
theorem bas_w {T : zJ} : ∀ n t, wfT T n t → ∃ m, wfT T m (bas T n t) := by
  intro n
  induction n with
  | zero => intro t h; exact h.elim
  | succ n ih =>
    intro t h
    by_cases k10 : T 4 t = 10
    · have hb : bas T (n + 1) t = bas T n (chd T (6 * t)) := by
        show (if T 4 t = 10 then _ else _) = _
        rw [if_pos k10]
      rw [hb]
      exact ih _ (h.2.2.2.2.2.2.2.1 k10).2.2.2.2
    · rw [bas_self k10]
      exact ⟨n + 1, h⟩
/-- is v a default of base type be -/
def okD (T : zJ) (be : Nat) (v : Int32) : Bool := if T 4 be = 1 then decide (0 ≤ v.toInt ∧ v.toInt ≤ 1) else if T 4 be = 2 then (decide (T 11 be = 0) || decide ((T 5 be).toInt ≤ v.toInt ∧ v.toInt ≤ (T 6 be).toInt)) else false
theorem kc_mode {A KC KS q n p a b c bo y u hu y4 : Nat} {M : zM} {J : zJ} {S R : Nat → Bool} (h : kcS A KC KS q M J n p a b c) (hbx : ∀ c, c ≤ 72 → bo ≠ A + c) (hbs : zsh M bo = some (.inl 1)) (hd : dT M J S R y u hu) (hu6 : hu + 1 ≤ 6) (hR : ∀ t, R t = true → t < c) (hy4 : y4 < 960) (hRy : ∀ t', R t' = true → ∀ j, j < 6 → 6 * t' + j ≠ y4) (b2 : zi M bo 2 = 0) (j14 : J 14 y4 = 0) (hSb : S bo = false) :
    ∃ be, Ev (fun N => FT_untagged N M y = some (some be)) ∧
    ((∃ M' J' p', p ≤ p' ∧ kcS A KC KS q M' J' n p' a b c ∧ Ev (fun N => FC_readMode N KC KS (A + 2) (some bo) (some be) M = some (true, M')) ∧ Ev (fun N => FM_component N (nI y4) (nI u) J = some ((), J')) ∧ oF A bo M M' ∧ zr M' = zr M ∧ zi M' bo 2 = J' 14 y4 ∧ (J' 14 y4 = 0 ∨ J' 14 y4 = 1 ∨ (J' 14 y4 = 2 ∧ (J 4 (bas (jcut J R) 6 u) = 1 ∨ J 4 (bas (jcut J R) 6 u) = 2) ∧ zi M' bo 3 = J' 15 y4)) ∧ (∀ j, j ≠ 2 → j ≠ 3 → zi M' bo j = zi M bo j) ∧ (∀ c k, ¬ ((c = 14 ∨ c = 15) ∧ k = y4) → c ≠ 16 → c ≠ 17 → ¬ (c = 0 ∧ (k = 3 ∨ k = 6 ∨ k = 23 ∨ k = 24)) → J' c k = J c k)) ∨
    (∃ M' J', kcBad A KC KS q M J M' J' ∧ Ev (fun N => FC_readMode N KC KS (A + 2) (some bo) (some be) M = some (false, M')) ∧ Ev (fun N => FM_component N (nI y4) (nI u) J = some ((), J')))) := by
  obtain ⟨k1, k2, k3, k4, k5, k6⟩ := kc_7 h
  have cle : c ≤ p := h.2.2.2.2.2.2.2.2.2.2.2
  have hb2 : bo ≠ A + 2 := hbx 2 (by omega)
  have hlt := dT_lt hd
  have hu160 : u < 160 := by have := hR u hlt; omega
  obtain ⟨d1, d2, d3, d4⟩ := hd
  have h0 : ∀ t, R t = false → jcut J R 4 t = 0 := fun t ht => jcut_ge ht
  have hcutM : zag (zcut M S) M := fun b' ci hci hs => ⟨(zcut_s hs).2, rfl, rfl⟩
  have wJ : wfT J (hu + 1) u := wf_up h0 (tAg_out (tAg_refl R J)) _ _ d1
  have rJ : rep M J (hu + 1) y u := rep_up h0 (tAg_out (tAg_refl R J)) hcutM _ _ _ d1 d2
  have hbJ : bas J (hu + 1) u = bas (jcut J R) (hu + 1) u := bas_up h0 (tAg_out (tAg_refl R J)) (hu + 1) (hu + 1) u d1
  have hb6 : bas (jcut J R) 6 u = bas (jcut J R) (hu + 1) u := (bas_wf (hu + 1) 6 u d1 hu6).1
  obtain ⟨bw, hbw⟩ := bas_w _ _ d1
  have hbR : R (bas (jcut J R) (hu + 1) u) = true := wf_c h0 hbw
  generalize hbe : bas (jcut J R) (hu + 1) u = bn at hbJ hb6 hbw hbR
  obtain ⟨be, q1, q2, q3, q4, q5⟩ := c_untag2 _ _ _ wJ rJ
  rw [hbJ] at q3 q4 q5
  have hbn : bn < 160 := by have := hR bn hbR; omega
  refine ⟨be, ⟨hu + 1, fun N hN => q1 0 N N (by omega) hN⟩, ?_⟩
  have qy : qi (nI y4) 960 = true := qi_nI hy4 (by omega)
  have cy : (nI y4).toNatClampNeg = y4 := nI_clamp (by omega)
  by_cases c63 : cx J n p = 63
  · have hpn : p < n := cx_lt c63 (by decide)
    left
    refine ⟨zpi (mP M A (p + 1)) bo 2 1, jP (zu J 14 y4 1) (p + 1), p + 1, by omega, ?_, ev_of (fun N => ?_), ev_of (fun N => ?_), oF_trans (oF_P _ _ _ _) (oF_x _ _ _ _ _), rfl, ?_, Or.inr (Or.inl ?_), fun j h2 h3 => ?_, fun cc kk h1 h2 h3 h4 => ?_⟩
    · have := kcS_xM (k := 2) (v := 1) (kc_go (p' := p + 1) (kcS_xJ (cc := 14) (t := y4) (w := 1) h (by omega)) (by omega) (by omega)) hbx
      exact this
    · unfold FC_readMode
      rw [(kc_look h N).1, qb_some, if_pos c63, qk_d k3, k1, nI_add1]
      simp only
      rw [qo_s (M := zpi M (A + 2) 7 (nI (p + 1))) rfl hbs]
      rfl
    · unfold FM_component
      rw [(kc_look h N).2, qb_some, if_pos c63, qk_t qy, cy]
      simp only
      rw [zu_ne _ _ _ (by omega), k2, nI_add1]
      rfl
    · rw [zi_pi, if_pos ⟨rfl, rfl⟩, jP_o (by omega), zu_self]
    · rw [jP_o (by omega), zu_self]
    · rw [zi_pi, if_neg (by omega), mP_x hb2]
    · rw [jP_o (by omega), zu_at, if_neg (by omega)]
  by_cases c61 : cx J n p = 61
  case neg =>
    left
    refine ⟨M, J, p, by omega, h, ev_of (fun N => ?_), ev_of (fun N => ?_), oF_refl _ _ _, rfl, by rw [b2, j14], Or.inl j14, fun _ _ _ => rfl, fun _ _ _ _ _ _ => rfl⟩
    · unfold FC_readMode
      rw [(kc_look h N).1, qb_some, if_neg c63, qk_d k3, (kc_look h N).1, qb_some, if_neg c61]
    · unfold FM_component
      rw [(kc_look h N).2, qb_some, if_neg c63, (kc_look h N).2, qb_some, if_neg c61]
  have hpn : p < n := cx_lt c61 (by decide)
  have h7 := kc_go (p' := p + 1) (kcS_xJ (cc := 14) (t := y4) (w := 2) h (by omega)) (by omega) (by omega)
  have hC : ∀ N, FC_readMode N KC KS (A + 2) (some bo) (some be) M = qb (FC_readNumber N KC KS (A + 2) (mP M A (p + 1))) fun v8 M9 => if (bI v8) = 0 then some (false, M9) else qk (decide (zsh M9 (A + 2) = some (.inl 0))) <| qc (FC_isDefault N M9 (some be) (zi M9 (A + 2) 9)) fun v11 => if (bI v11) = 0 then qb (FC_refuse N KC KS (A + 2) 4 ((zi M9 (A + 2) 7) - 1) M9) fun v16 M17 => some (false, M17) else qo (some bo) M9 1 fun o12 => let M13 := zpi M9 o12 2 2; qo (some bo) M13 1 fun o14 => let M15 := zpi M13 o14 3 (zi M13 (A + 2) 9); some (true, M15) := by
    intro N
    unfold FC_readMode
    rw [(kc_look h N).1, qb_some, if_neg c63, qk_d k3, (kc_look h N).1, qb_some, if_pos c61, qk_d k3, k1, nI_add1]
    rfl
  have hM : ∀ N, FM_component N (nI y4) (nI u) J = qb (FM_numeral N (jP (zu J 14 y4 2) (p + 1))) fun v8 J9 => if (bI v8) = 0 then some ((), J9) else
        qk (qi (nI y4) 960) <|
        let J11 := zu J9 15 (nI y4).toNatClampNeg (J9 0 6)
        qb (FM_unwrap N (nI u) J11) fun v12 J13 =>
        qk (qi (J13 0 23) 160) <|
        if (J13 4 (J13 0 23).toNatClampNeg) = 1 then
          qc (FM_in N (J13 0 6) 0 1) fun v20 =>
          FM_component_161 N (bI v20) J13
        else
          qk (qi (J13 0 23) 160) <|
          if (J13 4 (J13 0 23).toNatClampNeg) = 2 then
            qk (qi (J13 0 23) 160) <|
            if (J13 11 (J13 0 23).toNatClampNeg) = 0 then
              FM_component_161 N 1 J13
            else
              qk (qi (J13 0 23) 160) <|
              qk (qi (J13 0 23) 160) <|
              qc (FM_in N (J13 0 6) (J13 5 (J13 0 23).toNatClampNeg) (J13 6 (J13 0 23).toNatClampNeg)) fun v19 =>
              if (bI v19) = 0 then
                FM_component_161 N 0 J13
              else
                FM_component_161 N 1 J13
          else
            FM_component_161 N 0 J13 := by
    intro N
    unfold FM_component
    rw [(kc_look h N).2, qb_some, if_neg c63, (kc_look h N).2, qb_some, if_pos c61, qk_t qy, cy]
    simp only
    rw [zu_ne _ _ _ (by omega), k2, nI_add1]
    rfl
  rcases kc_num h7 with ⟨p1, v, g1, g2, g3, g3', g4, g5⟩ | ⟨M', J', g1, g2, g3⟩
  case inr =>
    right
    refine ⟨M', J', kcBad_l (wMf_P A M (p + 1)) (kJ_trans (kJ_zu (by omega)) (kJ_P _ _)) g1, ev_mono g2 (fun N hN => ?_), ev_mono g3 (fun N hN => ?_)⟩
    · rw [hC, hN, qb_some, if_pos (by decide)]
    · rw [hM, hN, qb_some, if_pos (by decide)]
  have h8 := kcS_xJ (cc := 15) (t := y4) (w := v) (kc_N (v := v) h7 (by omega) g2) (by omega)
  generalize hM9 : mN (mP M A (p + 1)) A p1 v = M9 at h8
  generalize hJ11 : zu (jN (jP (zu J 14 y4 2) (p + 1)) p1 v) 15 y4 v = J11 at h8
  have jo : ∀ c k, ¬ ((c = 14 ∨ c = 15) ∧ k = y4) → ¬ (c = 0 ∧ (k = 3 ∨ k = 6)) → J11 c k = J c k := fun c k h1 h2 => by rw [← hJ11, zu_at, if_neg (by omega), jN_o (by omega), jP_o (by omega), zu_at, if_neg (by omega)]
  have j14' : J11 14 y4 = 2 := by rw [← hJ11, zu_at, if_neg (by omega), jN_o (by omega), jP_o (by omega), zu_self]
  have j15' : J11 15 y4 = v := by rw [← hJ11, zu_self]
  have j6' : J11 0 6 = v := by rw [← hJ11, zu_ne _ _ _ (by omega), jN_6]
  have tA : tAg R J J11 := fun t ht => ⟨fun k h1 h2 => jo k t (by omega) (by omega), fun j hj k h1 h2 => jo k _ (by have := hRy t ht j hj; omega) (by omega)⟩
  have w11 : wfT J11 (hu + 1) u := wf_up h0 (tAg_out tA) _ _ d1
  have b11 : bas J11 (hu + 1) u = bn := by rw [bas_up h0 (tAg_out tA) (hu + 1) (hu + 1) u d1]; exact hbe
  obtain ⟨J13, u1, u2, u3, u4⟩ := m_unw w11 hu6 (fun _ _ _ _ => rfl)
  rw [b11] at u2
  have u4 : ∀ c k, c ≠ 16 → c ≠ 17 → ¬ (c = 0 ∧ (k = 23 ∨ k = 24)) → J13 c k = J11 c k := fun c k a b d => u4 c k a (by omega) d
  have h13 : kcS A KC KS q M9 J13 n p1 a b c := kcS_J h8 (fun c k h1 h2 => u4 c k (by omega) (by omega) (by omega)) (u4 _ _ (by omega) (by omega) (by omega)) (u4 _ _ (by omega) (by omega) (by omega)) (u4 _ _ (by omega) (by omega) (by omega))
  have cellb : ∀ k, 4 ≤ k → k ≤ 12 → J13 k bn = J k bn := fun k h1 h2 => by rw [u4 k bn (by omega) (by omega) (by omega), jo k bn (by omega) (by omega)]
  have z9 : ∀ x j, x ≠ A + 2 → zi M9 x j = zi M x j := fun x j hx => by rw [← hM9, mN_x hx, mP_x hx]
  have zr9 : zr M9 = zr M := by rw [← hM9]; rfl
  have zs9 : zsh M9 = zsh M := by rw [← hM9]; rfl
  have z99 : zi M9 (A + 2) 9 = v := by rw [← hM9, mN_9]
  have be2 : be ≠ A + 2 := iLay_out2 h.1 (Or.inl rfl) q2 2 (by omega)
  have hdef : ∀ N, FC_isDefault N M9 (some be) v = some (okD J bn v) := by
    intro N
    unfold FC_isDefault FT_allows
    have sb : zsh M9 be = some (.inl 6) := by rw [zs9]; exact q2
    simp only [qo_s (M := M9) (a := some be) rfl sb, z9 be _ be2, q3, q4]
    unfold okD
    by_cases e1 : J 4 bn = 1
    · rw [if_pos e1, if_pos e1]
      by_cases ev0 : v = 0
      · rw [if_pos ev0, ev0]
        rfl
      · rw [if_neg ev0]
        by_cases ev1 : v = 1
        · rw [if_pos ev1, ev1]
          rfl
        · rw [if_neg ev1, decide_eq_false]
          rintro ⟨g1, g2⟩
          obtain ⟨j, j1, j2, j3⟩ := nI_ex g1
          have : j = 0 ∨ j = 1 := by omega
          rcases this with rfl | rfl
          · exact ev0 j2
          · exact ev1 j2
    · rw [if_neg e1, if_neg e1]
      by_cases e2 : J 4 bn = 2
      · rw [if_pos e2, if_pos e2]
        by_cases e11 : J 11 bn = 0
        · rw [if_pos e11, qc_some, if_neg (by decide), decide_eq_true e11, Bool.true_or]
        · rw [if_neg e11, decide_eq_false e11, Bool.false_or]
          have e111 : J 11 bn = 1 := by
            have := wf_up h0 (tAg_out (tAg_refl R J)) _ _ hbw
            cases bw with
            | zero => exact this.elim
            | succ bw => exact this.2.2.1.resolve_left e11
          obtain ⟨l1, l2⟩ := q5 e111
          rw [l1, l2]
          simp only [Int32.lt_iff_toInt_lt]
          by_cases c1 : v.toInt < (J 5 bn).toInt
          · rw [if_pos c1, qc_some, if_pos (by decide), decide_eq_false (by omega)]
          · rw [if_neg c1]
            by_cases c2 : (J 6 bn).toInt < v.toInt
            · rw [if_pos c2, qc_some, if_pos (by decide), decide_eq_false (by omega)]
            · rw [if_neg c2, qc_some, if_neg (by decide), decide_eq_true (by omega)]
      · rw [if_neg e2, if_neg e2]
  have hMc : ∀ N, FM_numeral N (jP (zu J 14 y4 2) (p + 1)) = some (true, jN (jP (zu J 14 y4 2) (p + 1)) p1 v) → FM_unwrap N (nI u) J11 = some ((), J13) → FM_component N (nI y4) (nI u) J = FM_component_161 N (bI (okD J bn v)) J13 := by
    intro N hN1 hN2
    have q160 : qi (nI bn) 160 = true := qi_nI hbn (by omega)
    have c160 : (nI bn).toNatClampNeg = bn := nI_clamp (by omega)
    rw [hM, hN1, qb_some, if_neg (by decide), qk_t qy, cy]
    simp only
    rw [jN_6, hJ11, hN2, qb_some, u2, qk_t q160, c160, cellb 4 (by omega) (by omega), show J13 0 6 = v from by rw [u4 0 6 (by omega) (by omega) (by omega)]; exact j6', qk_t q160, qk_t q160, qk_t q160, qk_t q160, cellb 11 (by omega) (by omega), cellb 5 (by omega) (by omega), cellb 6 (by omega) (by omega)]
    unfold okD
    by_cases e1 : J 4 bn = 1
    · rw [if_pos e1, if_pos e1, FM_in_eq, qc_some, i_0, i_1]
      congr 2
      simp
    · rw [if_neg e1, if_neg e1]
      by_cases e2 : J 4 bn = 2
      · rw [if_pos e2, if_pos e2]
        by_cases e11 : J 11 bn = 0
        · rw [if_pos e11, decide_eq_true e11, Bool.true_or]
          rfl
        · rw [if_neg e11, decide_eq_false e11, Bool.false_or, FM_in_eq, qc_some]
          by_cases cc : (J 5 bn).toInt ≤ v.toInt ∧ v.toInt ≤ (J 6 bn).toInt
          · rw [if_neg (by simp only [bI_eq0]; simp; omega), decide_eq_true cc]
            rfl
          · rw [if_pos (by simp only [bI_eq0]; simp; omega), decide_eq_false cc]
            rfl
      · rw [if_neg e2, if_neg e2]
        rfl
  have p1pos : p1 - 1 + 1 = p1 := by omega
  have hsub : nI p1 - 1 = nI (p1 - 1) := by
    have := nI_pred (p1 - 1)
    rw [p1pos] at this
    exact this
  have kjA : kJ J J13 := fun c k h1 h2 => by rw [u4 c k (by omega) (by omega) (by omega), jo c k (by omega) (by omega)]
  have kmA : wMf A M M9 := by rw [← hM9]; exact wMf_trans (wMf_P A M _) (wMf_N A _ _ _)
  cases hok : okD J bn v with
  | false =>
    right
    refine ⟨mFt M9 A (4 + 16 * (p1 - 1)), jF J13 (4 + 16 * (p1 - 1)), kcBad_l kmA kjA (kc_bad0 h13 (by omega) (by omega)), ev_mono g4 (fun N hN => ?_), ev_mono (ev_and g5 u1) (fun N hN => ?_)⟩
    · rw [hC, hN, qb_some, if_neg (by decide), hM9, qk_d (kc_7 h13).2.2.1, z99, hdef, qc_some, hok, if_pos (by decide), (kc_7 h13).1, hsub, show (4 : Int32) = nI 4 from rfl, eC_refuse, qb_some]
    · rw [hMc N hN.1 hN.2, hok]
      unfold FM_component_161
      rw [if_pos (by decide), (kc_7 h13).2.1, hsub, show (4 : Int32) = nI 4 from rfl, eM_stop (kc_7 h13).2.2.2.2.2, qb_some]
  | true =>
    left
    refine ⟨zpi (zpi M9 bo 2 2) bo 3 v, J13, p1, by omega, kcS_xM (kcS_xM h13 hbx) hbx, ev_mono g4 (fun N hN => ?_), ev_mono (ev_and g5 u1) (fun N hN => ?_), ?_, zr9, ?_, Or.inr (Or.inr ⟨?_, ?_, ?_⟩), fun j h2 h3 => ?_, fun cc kk h1 h2 h3 h4 => ?_⟩
    · have sb9 : zsh M9 bo = some (.inl 1) := by rw [zs9]; exact hbs
      rw [hC, hN, qb_some, if_neg (by decide), hM9, qk_d (kc_7 h13).2.2.1, z99, hdef, qc_some, hok, if_neg (by decide), qo_s rfl sb9]
      simp only
      rw [qo_s (M := zpi M9 bo 2 2) rfl sb9, zi_pi, if_neg (fun z => hb2 z.1.symm), z99]
    · rw [hMc N hN.1 hN.2, hok]
      unfold FM_component_161
      rw [if_neg (by decide)]
    · rw [← hM9]
      exact oF_trans (oF_P _ _ _ _) (oF_trans (oF_N _ _ _ _ _) (oF_trans (oF_x _ _ _ _ _) (oF_x _ _ _ _ _)))
    · rw [zi_pi, if_neg (by omega), zi_pi, if_pos ⟨rfl, rfl⟩, u4 14 y4 (by omega) (by omega) (by omega), j14']
    · rw [u4 14 y4 (by omega) (by omega) (by omega), j14']
    · rw [hb6]
      unfold okD at hok
      by_cases e1 : J 4 bn = 1
      · exact Or.inl e1
      · rw [if_neg e1] at hok
        by_cases e2 : J 4 bn = 2
        · exact Or.inr e2
        · rw [if_neg e2] at hok
          cases hok
    · rw [zi_pi, if_pos ⟨rfl, rfl⟩, u4 15 y4 (by omega) (by omega) (by omega), j15']
    · rw [zi_pi, if_neg (by omega), zi_pi, if_neg (by omega), z9 bo j hb2]
    · rw [u4 cc kk h2 h3 (by omega), jo cc kk h1 (by omega)]
