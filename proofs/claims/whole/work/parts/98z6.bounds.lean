/-! COMPILING: bounds, new types and members -/
theorem kcS_xM {A KC KS q n p a b c x k : Nat} {M : zM} {J : zJ} {v : Int32} (h : kcS A KC KS q M J n p a b c) (hx : ∀ c, c ≤ 72 → x ≠ A + c) : kcS A KC KS q (zpi M x k v) J n p a b c := by
  have e : ∀ j, zi (zpi M x k v) (A + 2) j = zi M (A + 2) j := fun j => by rw [zi_pi, if_neg (fun z => hx 2 (by omega) z.1.symm)]
  have h' := h
  obtain ⟨s1, s2, s3, s4, ⟨s5, s6, s7⟩, ⟨s8, s9⟩, s10, s11, s12, s13, s14, s15⟩ := h
  exact kcS_o h' hx (oF_x _ _ _ _ _) (e 6) (by rw [e]; exact s5) (by rw [e]; exact s8) (e 4) (e 5) (kJ_refl J) s6 s9 s12 (Nat.le_refl _) s7 s15
theorem kcS_xR {A KC KS q n p a b c x k : Nat} {M : zM} {J : zJ} {v : Option Nat} (h : kcS A KC KS q M J n p a b c) (hx : ∀ c, c ≤ 72 → x ≠ A + c) : kcS A KC KS q (zpr M x k v) J n p a b c := by
  have h' := h
  obtain ⟨s1, s2, s3, s4, ⟨s5, s6, s7⟩, ⟨s8, s9⟩, s10, s11, s12, s13, s14, s15⟩ := h
  exact kcS_o h' hx (oF_r _ _ _ _ _) rfl s5 s8 rfl rfl (kJ_refl J) s6 s9 s12 (Nat.le_refl _) s7 s15
theorem kcS_J {A KC KS q n p a b c : Nat} {M : zM} {J J' : zJ} (h : kcS A KC KS q M J n p a b c) (hj : kJ J J') (j3 : J' 0 3 = J 0 3) (j4 : J' 0 4 = J 0 4) (j10 : J' 0 10 = J 0 10) : kcS A KC KS q M J' n p a b c := by
  have h' := h
  obtain ⟨s1, s2, s3, s4, ⟨s5, s6, s7⟩, ⟨s8, s9⟩, s10, s11, s12, s13, s14, s15⟩ := h
  exact kcS_o h' (kNo_x A) (oF_refl _ _ _) rfl s5 s8 rfl rfl hj (by rw [j3]; exact s6) (by rw [j4]; exact s9) (by rw [j10]; exact s12) (Nat.le_refl _) s7 s15
theorem kJ_zu {J : zJ} {cc t : Nat} {w : Int32} (hcc : 2 ≤ cc ∧ cc ≤ 17) : kJ J (zu J cc t w) := fun c k h1 _ => by rw [zu_at, if_neg (by omega)]
theorem kJ_0 {J : zJ} {k : Nat} {w : Int32} (hk : k = 3 ∨ k = 4 ∨ k = 5 ∨ k = 6 ∨ k = 10 ∨ k = 23 ∨ k = 24) : kJ J (zu J 0 k w) := fun c j _ h2 => by rw [zu_at, if_neg (by omega)]
theorem kcS_xJ {A KC KS q n p a b c cc t : Nat} {M : zM} {J : zJ} {w : Int32} (h : kcS A KC KS q M J n p a b c) (hcc : 2 ≤ cc ∧ cc ≤ 17) : kcS A KC KS q M (zu J cc t w) n p a b c :=
  kcS_J h (kJ_zu hcc) (by rw [zu_at, if_neg (by omega)]) (by rw [zu_at, if_neg (by omega)]) (by rw [zu_at, if_neg (by omega)])
theorem kcS_5 {A KC KS q n p a b c k : Nat} {M : zM} {J : zJ} {w : Int32} (h : kcS A KC KS q M J n p a b c) (hk : k = 5 ∨ k = 6 ∨ k = 23 ∨ k = 24) : kcS A KC KS q M (zu J 0 k w) n p a b c :=
  kcS_J h (kJ_0 (by omega)) (by rw [zu_at, if_neg (by omega)]) (by rw [zu_at, if_neg (by omega)]) (by rw [zu_at, if_neg (by omega)])
theorem kc_N {A KC KS q n p a b c p' : Nat} {M : zM} {J : zJ} {v : Int32} (h : kcS A KC KS q M J n p a b c) (hp : p ≤ p') (hpn : p' ≤ n) : kcS A KC KS q (mN M A p' v) (jN J p' v) n p' a b c := by
  have h1 := kc_go h hp hpn
  unfold mN jN
  have h' := h1
  obtain ⟨s1, s2, s3, s4, ⟨s5, s6, s7⟩, ⟨s8, s9⟩, s10, s11, s12, s13, s14, s15⟩ := h1
  exact kcS_o (x := kNo A) h' (kNo_x A) (oF_c _ _ _ _ _) (by rw [zi_pi, if_neg (by omega)]) (by rw [zi_pi, if_neg (by omega)]; exact s5) (by rw [zi_pi, if_neg (by omega)]; exact s8) (by rw [zi_pi, if_neg (by omega)]) (by rw [zi_pi, if_neg (by omega)]) (kJ_0 (by omega)) (by rw [zu_at, if_neg (by omega)]; exact s6) (by rw [zu_at, if_neg (by omega)]; exact s9) (by rw [zu_at, if_neg (by omega)]; exact s12) (Nat.le_refl _) s7 s15
theorem kcBad_J {A KC KS q : Nat} {M M' : zM} {J J' : zJ} (h : kcBad A KC KS q M J M' J') : ∃ f, 1 ≤ f ∧ f < 4096 ∧ J' 0 4 = nI f ∧ ¬ J' 0 4 ≤ 0 ∧ J' 0 4 ≠ 0 := by
  obtain ⟨-, -, -, f, f1, f2, f3, f4⟩ := h
  refine ⟨f, f1, f2, f4, ?_, ?_⟩
  · rw [f4, show (0 : Int32) = nI 0 from rfl, nI_leI (by omega) (by omega)]; omega
  · rw [f4, show (0 : Int32) = nI 0 from rfl]; intro e; rw [nI_eq (by omega) (by omega)] at e; omega
def bndOK (k : Nat) (lo hi : Int32) : Prop := lo.toInt ≤ hi.toInt ∧ hi.toInt - lo.toInt < 65536 ∧ (k ≠ 2 → 0 ≤ lo.toInt ∧ hi.toInt ≤ 20)
theorem i_subs {x y : Int32} (hx : -99999 ≤ x.toInt ∧ x.toInt ≤ 99999) (hy : -99999 ≤ y.toInt ∧ y.toInt ≤ 99999) : (x - y).toInt = x.toInt - y.toInt := by
  rw [Int32.toInt_sub]
  rw [Int.bmod_eq_of_le] <;> omega
theorem mN_x {M : zM} {A p x j : Nat} {v : Int32} (hx : x ≠ A + 2) : zi (mN M A p v) x j = zi M x j := by
  unfold mN mP
  rw [zi_pi, if_neg (fun z => hx z.1), zi_pi, if_neg (fun z => hx z.1)]
theorem mP_x {M : zM} {A p x j : Nat} (hx : x ≠ A + 2) : zi (mP M A p) x j = zi M x j := by
  unfold mP
  rw [zi_pi, if_neg (fun z => hx z.1)]
theorem mN_9 {M : zM} {A p : Nat} {v : Int32} : zi (mN M A p v) (A + 2) 9 = v := by
  unfold mN
  rw [zi_pi, if_pos ⟨rfl, rfl⟩]
theorem jN_o {J : zJ} {p c k : Nat} {v : Int32} (h : ¬ (c = 0 ∧ (k = 3 ∨ k = 6))) : jN J p v c k = J c k := by
  unfold jN jP
  rw [zu_at, if_neg (by omega), zu_at, if_neg (by omega)]
theorem jN_6 {J : zJ} {p : Nat} {v : Int32} : jN J p v 0 6 = v := zu_self _ _ _ _
theorem jP_o {J : zJ} {p c k : Nat} (h : ¬ (c = 0 ∧ k = 3)) : jP J p c k = J c k := by
  unfold jP
  rw [zu_at, if_neg h]
theorem oF_P (A x : Nat) (M : zM) (p : Nat) : oF A x M (mP M A p) := oF_c _ _ _ _ _
theorem oF_N (A x : Nat) (M : zM) (p : Nat) (v : Int32) : oF A x M (mN M A p v) := oF_trans (oF_c _ _ _ _ _) (oF_c _ _ _ _ _)
theorem wMf_P (A : Nat) (M : zM) (p : Nat) : wMf A M (mP M A p) := oF_wMf (kNo_x A) (oF_P A (kNo A) M p) (by unfold mP; rw [zi_pi, if_neg (by omega)])
theorem wMf_N (A : Nat) (M : zM) (p : Nat) (v : Int32) : wMf A M (mN M A p v) := oF_wMf (kNo_x A) (oF_N A (kNo A) M p v) (by unfold mN mP; rw [zi_pi, if_neg (by omega), zi_pi, if_neg (by omega)])
theorem kJ_P (J : zJ) (p : Nat) : kJ J (jP J p) := kJ_0 (by omega)
theorem kJ_N (J : zJ) (p : Nat) (v : Int32) : kJ J (jN J p v) := kJ_trans (kJ_P J p) (kJ_0 (by omega))
theorem wMf_xi {A x k : Nat} {M : zM} {v : Int32} (hx : ∀ c, c ≤ 72 → x ≠ A + c) : wMf A M (zpi M x k v) := oF_wMf hx (oF_x _ _ _ _ _) (by rw [zi_pi, if_neg (fun z => hx 2 (by omega) z.1.symm)])
theorem wMf_xr {A x k : Nat} {M : zM} {v : Option Nat} (hx : ∀ c, c ≤ 72 → x ≠ A + c) : wMf A M (zpr M x k v) := oF_wMf hx (oF_r _ _ _ _ _) rfl
theorem kc_bounds {A KC KS q n p a b c x k t : Nat} {M : zM} {J : zJ} (h : kcS A KC KS q M J n p a b c) (hx : ∀ c, c ≤ 72 → x ≠ A + c) (hsx : zsh M x = some (.inl 6)) (hkx : zi M x 0 = nI k) (hk : k = 2 ∨ k = 4 ∨ k = 7) (ht : t < 160) (c40 : cx J n p = 40) :
    (∃ M' J' p' lo hi, p < p' ∧ kcS A KC KS q M' J' n p' a b c ∧ Ev (fun N => FC_readBounds N KC KS (A + 2) (some x) M = some (true, M')) ∧ Ev (fun N => FM_ranged N (nI t) (nI (if k = 2 then 1 else 0)) J = some ((), J')) ∧ bndOK k lo hi ∧ oF A x M M' ∧ zr M' = zr M ∧ zi M' x 1 = 1 ∧ zi M' x 2 = lo ∧ zi M' x 3 = hi ∧ (∀ j, ¬ (1 ≤ j ∧ j ≤ 3) → zi M' x j = zi M x j) ∧ J' 5 t = lo ∧ J' 6 t = hi ∧ J' 11 t = 1 ∧ (∀ c k, ¬ ((c = 5 ∨ c = 6 ∨ c = 11) ∧ k = t) → ¬ (c = 0 ∧ (k = 3 ∨ k = 6)) → J' c k = J c k)) ∨
    (∃ M' J', kcBad A KC KS q M J M' J' ∧ Ev (fun N => FC_readBounds N KC KS (A + 2) (some x) M = some (false, M')) ∧ Ev (fun N => FM_ranged N (nI t) (nI (if k = 2 then 1 else 0)) J = some ((), J'))) := by
  have hx2 : x ≠ A + 2 := hx 2 (by omega)
  obtain ⟨k1, k2, k3, k4, k5, k6⟩ := kc_7 h
  have hpn : p < n := cx_lt c40 (by decide)
  have h4 := kc_go (p' := p + 1) h (by omega) (by omega)
  have qt : qi (nI t) 160 = true := qi_nI ht (by omega)
  have ct : (nI t).toNatClampNeg = t := nI_clamp (by omega)
  have hC : ∀ N, FC_readBounds N KC KS (A + 2) (some x) M = qb (FC_readNumber N KC KS (A + 2) (mP M A (p + 1))) fun v5 M6 => if (bI v5) = 0 then some (false, M6) else
      qk (decide (zsh M6 (A + 2) = some (.inl 0))) <|
      qo (some x) M6 6 fun o8 =>
      let M9 := zpi M6 o8 2 (zi M6 (A + 2) 9)
      qb (FC_pass N KC KS (A + 2) 44 M9) fun v10 M11 =>
      if (bI v10) = 0 then
        some (false, M11)
      else
        qk (decide (zsh M11 (A + 2) = some (.inl 0))) <|
        qb (FC_readNumber N KC KS (A + 2) M11) fun v13 M14 =>
        if (bI v13) = 0 then
          some (false, M14)
        else
          qk (decide (zsh M14 (A + 2) = some (.inl 0))) <|
          qo (some x) M14 6 fun o16 =>
          let M17 := zpi M14 o16 3 (zi M14 (A + 2) 9)
          qb (FC_nextCharacter N KC KS (A + 2) M17) fun v18 M19 =>
          if v18 = 41 then
            qc (FC_areBounds N M19 (some x)) fun v20 =>
            if (bI v20) = 0 then
              qk (decide (zsh M19 (A + 2) = some (.inl 0))) <|
              qb (FC_refuse N KC KS (A + 2) 4 (zi M19 (A + 2) 7) M19) fun v22 M23 =>
              some (false, M23)
            else
              FC_readBounds_91 N KC KS (A + 2) (some x) M19
          else
            FC_readBounds_91 N KC KS (A + 2) (some x) M19 := by
    intro N
    unfold FC_readBounds
    rw [(kc_look h N).1, qb_some, if_pos c40, qk_d k3, k1, nI_add1]
    rfl
  have hM : ∀ N, FM_ranged N (nI t) (nI (if k = 2 then 1 else 0)) J = qb (FM_numeral N (jP J (p + 1))) fun v2 J3 => if (bI v2) = 0 then some ((), J3) else
    qk (qi (nI t) 160) <|
    let J5 := zu J3 5 (nI t).toNatClampNeg (J3 0 6)
    qb (FM_need N 44 J5) fun v6 J7 =>
    if (bI v6) = 0 then
      some ((), J7)
    else
      qb (FM_numeral N J7) fun v8 J9 =>
      if (bI v8) = 0 then
        some ((), J9)
      else
        qk (qi (nI t) 160) <|
        let J11 := zu J9 6 (nI t).toNatClampNeg (J9 0 6)
        qk (qi (nI t) 160) <|
        let J13 := zu J11 11 (nI t).toNatClampNeg 1
        if (nI (if k = 2 then 1 else 0)) = 0 then
          qk (qi (nI t) 160) <|
          if (J13 5 (nI t).toNatClampNeg) < 0 then
            FM_ranged_117 N (nI t) 0 J13
          else
            qk (qi (nI t) 160) <|
            if 20 < (J13 6 (nI t).toNatClampNeg) then
              FM_ranged_117 N (nI t) 0 J13
            else
              FM_ranged_117 N (nI t) 1 J13
        else
          qk (qi (nI t) 160) <|
          qk (qi (nI t) 160) <|
          if 65536 ≤ ((J13 6 (nI t).toNatClampNeg) - (J13 5 (nI t).toNatClampNeg)) then
            FM_ranged_117 N (nI t) 0 J13
          else
            FM_ranged_117 N (nI t) 1 J13 := by
    intro N
    unfold FM_ranged
    simp only
    rw [k2, nI_add1]
    rfl
  rcases kc_num h4 with ⟨p1, v1, g1, g2, g3, g3', g4, g5⟩ | ⟨M', J', g1, g2, g3⟩
  case inr =>
    right
    refine ⟨M', J', kcBad_l (wMf_P A M _) (kJ_P J _) g1, ev_mono g2 (fun N hN => ?_), ev_mono g3 (fun N hN => ?_)⟩
    · rw [hC, hN, qb_some, if_pos (by decide)]
    · rw [hM, hN, qb_some, if_pos (by decide)]
  -- the first number
  have h6 := kcS_xJ (cc := 5) (t := t) (w := v1) (kcS_xM (k := 2) (v := v1) (kc_N (v := v1) h4 (by omega) g2) hx) (by omega)
  generalize hM9 : zpi (mN (mP M A (p + 1)) A p1 v1) x 2 v1 = M9 at h6
  generalize hJ5 : zu (jN (jP J (p + 1)) p1 v1) 5 t v1 = J5 at h6
  have o9 : oF A x M M9 := by rw [← hM9]; exact oF_trans (oF_P _ _ _ _) (oF_trans (oF_N _ _ _ _ _) (oF_x _ _ _ _ _))
  have w9 : wMf A M M9 := by rw [← hM9]; exact wMf_trans (wMf_P A M _) (wMf_trans (wMf_N A _ _ _) (wMf_xi hx))
  have u5 : kJ J J5 := by rw [← hJ5]; exact kJ_trans (kJ_P J _) (kJ_trans (kJ_N _ _ _) (kJ_zu (by omega)))
  have hC1 : ∀ N, FC_readNumber N KC KS (A + 2) (mP M A (p + 1)) = some (true, mN (mP M A (p + 1)) A p1 v1) → FC_readBounds N KC KS (A + 2) (some x) M = qb (FC_pass N KC KS (A + 2) 44 M9) fun v10 M11 => if (bI v10) = 0 then some (false, M11) else
        qk (decide (zsh M11 (A + 2) = some (.inl 0))) <|
        qb (FC_readNumber N KC KS (A + 2) M11) fun v13 M14 =>
        if (bI v13) = 0 then
          some (false, M14)
        else
          qk (decide (zsh M14 (A + 2) = some (.inl 0))) <|
          qo (some x) M14 6 fun o16 =>
          let M17 := zpi M14 o16 3 (zi M14 (A + 2) 9)
          qb (FC_nextCharacter N KC KS (A + 2) M17) fun v18 M19 =>
          if v18 = 41 then
            qc (FC_areBounds N M19 (some x)) fun v20 =>
            if (bI v20) = 0 then
              qk (decide (zsh M19 (A + 2) = some (.inl 0))) <|
              qb (FC_refuse N KC KS (A + 2) 4 (zi M19 (A + 2) 7) M19) fun v22 M23 =>
              some (false, M23)
            else
              FC_readBounds_91 N KC KS (A + 2) (some x) M19
          else
            FC_readBounds_91 N KC KS (A + 2) (some x) M19 := by
    intro N hN
    rw [hC, hN, qb_some, if_neg (by decide), qk_d (show zsh (mN (mP M A (p + 1)) A p1 v1) (A + 2) = _ from k3), qo_s rfl (show zsh (mN (mP M A (p + 1)) A p1 v1) x = _ from hsx)]
    simp only
    rw [mN_9, hM9]
  have hM1 : ∀ N, FM_numeral N (jP J (p + 1)) = some (true, jN (jP J (p + 1)) p1 v1) → FM_ranged N (nI t) (nI (if k = 2 then 1 else 0)) J = qb (FM_need N 44 J5) fun v6 J7 => if (bI v6) = 0 then some ((), J7) else
      qb (FM_numeral N J7) fun v8 J9 =>
      if (bI v8) = 0 then
        some ((), J9)
      else
        qk (qi (nI t) 160) <|
        let J11 := zu J9 6 (nI t).toNatClampNeg (J9 0 6)
        qk (qi (nI t) 160) <|
        let J13 := zu J11 11 (nI t).toNatClampNeg 1
        if (nI (if k = 2 then 1 else 0)) = 0 then
          qk (qi (nI t) 160) <|
          if (J13 5 (nI t).toNatClampNeg) < 0 then
            FM_ranged_117 N (nI t) 0 J13
          else
            qk (qi (nI t) 160) <|
            if 20 < (J13 6 (nI t).toNatClampNeg) then
              FM_ranged_117 N (nI t) 0 J13
            else
              FM_ranged_117 N (nI t) 1 J13
        else
          qk (qi (nI t) 160) <|
          qk (qi (nI t) 160) <|
          if 65536 ≤ ((J13 6 (nI t).toNatClampNeg) - (J13 5 (nI t).toNatClampNeg)) then
            FM_ranged_117 N (nI t) 0 J13
          else
            FM_ranged_117 N (nI t) 1 J13 := by
    intro N hN
    rw [hM, hN, qb_some, if_neg (by decide), qk_t qt, ct]
    simp only
    rw [jN_6, hJ5]
  by_cases c44 : cx J5 n p1 = nI 44
  case neg =>
    right
    refine ⟨mFt M9 A (1 + 16 * p1), jF J5 (1 + 16 * p1), kcBad_l w9 u5 (kc_bad0 h6 (by omega) (by omega)), ev_mono g4 (fun N hN => ?_), ev_mono g5 (fun N hN => ?_)⟩
    · rw [hC1 N hN, show (44 : Int32) = nI 44 from rfl, ((kc_pass h6 44 (by omega) N).2 c44).1, qb_some, if_pos (by decide)]
    · rw [hM1 N hN, show (44 : Int32) = nI 44 from rfl, ((kc_pass h6 44 (by omega) N).2 c44).2, qb_some, if_pos (by decide)]
  have hp1 : p1 < n := cx_lt c44 (nI_n1 (by omega))
  have h7 := kc_go (p' := p1 + 1) h6 (by omega) (by omega)
  rcases kc_num h7 with ⟨p2, v2, f1, f2, f3, f3', f4, f5⟩ | ⟨M', J', f1, f2, f3⟩
  case inr =>
    right
    refine ⟨M', J', kcBad_l (wMf_trans w9 (wMf_P A _ _)) (kJ_trans u5 (kJ_P _ _)) f1, ev_mono (ev_and g4 f2) (fun N hN => ?_), ev_mono (ev_and g5 f3) (fun N hN => ?_)⟩
    · rw [hC1 N hN.1, show (44 : Int32) = nI 44 from rfl, ((kc_pass h6 44 (by omega) N).1 c44).1, qb_some, if_neg (by decide), qk_d (kc_7 h7).2.2.1, hN.2, qb_some, if_pos (by decide)]
    · rw [hM1 N hN.1, show (44 : Int32) = nI 44 from rfl, ((kc_pass h6 44 (by omega) N).1 c44).2.1, qb_some, if_neg (by decide), hN.2, qb_some, if_pos (by decide)]
  have h8 := kcS_xJ (cc := 11) (t := t) (w := 1) (kcS_xJ (cc := 6) (t := t) (w := v2) (kcS_xM (k := 3) (v := v2) (kc_N (v := v2) h7 (by omega) f2) hx) (by omega)) (by omega)
  generalize hM17 : zpi (mN (mP M9 A (p1 + 1)) A p2 v2) x 3 v2 = M17 at h8
  generalize hJ13 : zu (zu (jN (jP J5 (p1 + 1)) p2 v2) 6 t v2) 11 t 1 = J13 at h8
  have o17 : oF A x M M17 := by rw [← hM17]; exact oF_trans o9 (oF_trans (oF_P _ _ _ _) (oF_trans (oF_N _ _ _ _ _) (oF_x _ _ _ _ _)))
  have w17 : wMf A M M17 := by rw [← hM17]; exact wMf_trans w9 (wMf_trans (wMf_P A _ _) (wMf_trans (wMf_N A _ _ _) (wMf_xi hx)))
  have u13 : kJ J J13 := by rw [← hJ13]; exact kJ_trans u5 (kJ_trans (kJ_P _ _) (kJ_trans (kJ_N _ _ _) (kJ_trans (kJ_zu (by omega)) (kJ_zu (by omega)))))
  have hs9 : zsh M9 x = some (.inl 6) := by rw [o9.1]; exact hsx
  have hs17 : zsh M17 x = some (.inl 6) := by rw [o17.1]; exact hsx
  have x2 : zi M17 x 2 = v1 := by rw [← hM17, zi_pi, if_neg (by omega), mN_x hx2, mP_x hx2, ← hM9, zi_pi, if_pos ⟨rfl, rfl⟩]
  have x3 : zi M17 x 3 = v2 := by rw [← hM17, zi_pi, if_pos ⟨rfl, rfl⟩]
  have xo : ∀ j, ¬ (2 ≤ j ∧ j ≤ 3) → zi M17 x j = zi M x j := fun j hj => by rw [← hM17, zi_pi, if_neg (by omega), mN_x hx2, mP_x hx2, ← hM9, zi_pi, if_neg (by omega), mN_x hx2, mP_x hx2]
  have j5 : J13 5 t = v1 := by rw [← hJ13, zu_ne _ _ _ (by omega), zu_ne _ _ _ (by omega), jN_o (by omega), jP_o (by omega), ← hJ5, zu_self]
  have j6 : J13 6 t = v2 := by rw [← hJ13, zu_ne _ _ _ (by omega), zu_self]
  have j11 : J13 11 t = 1 := by rw [← hJ13, zu_self]
  have jo : ∀ c k, ¬ ((c = 5 ∨ c = 6 ∨ c = 11) ∧ k = t) → ¬ (c = 0 ∧ (k = 3 ∨ k = 6)) → J13 c k = J c k := fun c k h1 h2 => by rw [← hJ13, zu_at, if_neg (by omega), zu_at, if_neg (by omega), jN_o (by omega), jP_o (by omega), ← hJ5, zu_at, if_neg (by omega), jN_o (by omega), jP_o (by omega)]
  have zr17 : zr M17 = zr M := by rw [← hM17, ← hM9]; rfl
  have hb1 : v1.toInt ≤ 99999 := g3'
  -- what both ask of the bounds
  let ok : Bool := decide (v1.toInt ≤ v2.toInt) && (if k = 2 then decide (v2.toInt - v1.toInt < 65536) else decide (0 ≤ v1.toInt) && decide (v2.toInt ≤ 20))
  have hsub := i_subs (x := v2) (y := v1) ⟨f3, f3'⟩ ⟨g3, g3'⟩
  have hok : ok = true ↔ bndOK k v1 v2 := by
    show (decide (v1.toInt ≤ v2.toInt) && (if k = 2 then decide (v2.toInt - v1.toInt < 65536) else decide (0 ≤ v1.toInt) && decide (v2.toInt ≤ 20))) = true ↔ _
    unfold bndOK
    by_cases ck : k = 2
    · rw [if_pos ck]
      simp [ck]
    · rw [if_neg ck]
      simp [ck]
      omega
  have hCb : ∀ N, FC_areBounds N M17 (some x) = some ok := by
    intro N
    unfold FC_areBounds
    simp only [qo_s (M := M17) (a := some x) rfl hs17, x2, x3, xo 0 (by omega), hkx]
    show _ = some (decide (v1.toInt ≤ v2.toInt) && (if k = 2 then decide (v2.toInt - v1.toInt < 65536) else decide (0 ≤ v1.toInt) && decide (v2.toInt ≤ 20)))
    simp only [Int32.le_iff_toInt_le, Int32.lt_iff_toInt_lt, hsub, i_0, i_lit 65536 (by omega), i_lit 20 (by omega)]
    by_cases c1 : v1.toInt ≤ v2.toInt
    · rw [if_pos c1, decide_eq_true c1, Bool.true_and]
      by_cases ck : k = 2
      · rw [if_pos (by rw [ck]; rfl), if_pos ck]
        by_cases c2 : ((65536 : Nat) : Int) ≤ v2.toInt - v1.toInt
        · rw [if_pos c2, decide_eq_false (by omega)]
        · rw [if_neg c2, decide_eq_true (by omega)]
      · rw [if_neg (by rw [show (2 : Int32) = nI 2 from rfl, nI_eq (by omega) (by omega)]; exact ck), if_neg ck]
        by_cases c2 : v1.toInt < 0
        · rw [if_pos c2, decide_eq_false (by omega), Bool.false_and]
        · rw [if_neg c2, decide_eq_true (show 0 ≤ v1.toInt by omega), Bool.true_and]
          by_cases c3 : ((20 : Nat) : Int) < v2.toInt
          · rw [if_pos c3, decide_eq_false (by omega)]
          · rw [if_neg c3, decide_eq_true (by omega)]
    · rw [if_neg c1, decide_eq_false c1, Bool.false_and]
  have hC2 : ∀ N, FC_readNumber N KC KS (A + 2) (mP M A (p + 1)) = some (true, mN (mP M A (p + 1)) A p1 v1) → FC_readNumber N KC KS (A + 2) (mP M9 A (p1 + 1)) = some (true, mN (mP M9 A (p1 + 1)) A p2 v2) → FC_readBounds N KC KS (A + 2) (some x) M = if cx J13 n p2 = 41 then (if (bI ok) = 0 then some (false, mFt M17 A (4 + 16 * p2)) else FC_readBounds_91 N KC KS (A + 2) (some x) M17) else FC_readBounds_91 N KC KS (A + 2) (some x) M17 := by
    intro N hN1 hN2
    rw [hC1 N hN1, show (44 : Int32) = nI 44 from rfl, ((kc_pass h6 44 (by omega) N).1 c44).1, qb_some, if_neg (by decide), qk_d (kc_7 h7).2.2.1, hN2, qb_some, if_neg (by decide), qk_d (show zsh (mN (mP M9 A (p1 + 1)) A p2 v2) (A + 2) = _ from (kc_7 h7).2.2.1), qo_s rfl (show zsh (mN (mP M9 A (p1 + 1)) A p2 v2) x = _ from hs9)]
    simp only
    rw [mN_9, hM17, (kc_look h8 N).1, qb_some, hCb, qc_some, qk_d (kc_7 h8).2.2.1, (kc_7 h8).1, show (4 : Int32) = nI 4 from rfl, eC_refuse, qb_some]
  have m117 : ∀ N, FM_numeral N (jP J (p + 1)) = some (true, jN (jP J (p + 1)) p1 v1) → FM_numeral N (jP J5 (p1 + 1)) = some (true, jN (jP J5 (p1 + 1)) p2 v2) → FM_ranged N (nI t) (nI (if k = 2 then 1 else 0)) J = if cx J13 n p2 = 41 then (if (bI ok) = 0 then some ((), jF J13 (4 + 16 * p2)) else FM_ranged_159 N J13) else FM_ranged_159 N J13 := by
    intro N hN1 hN2
    have m117' : ∀ bb : Bool, FM_ranged_117 N (nI t) (bI bb) J13 = if cx J13 n p2 = 41 then (if v2 < v1 then some ((), jF J13 (4 + 16 * p2)) else if bb = false then some ((), jF J13 (4 + 16 * p2)) else FM_ranged_159 N J13) else FM_ranged_159 N J13 := by
      intro bb
      unfold FM_ranged_117 FM_ranged_146
      rw [(kc_look h8 N).2, qb_some, qk_t qt, qk_t qt, ct, j5, j6, (kc_7 h8).2.1, show (4 : Int32) = nI 4 from rfl, eM_stop (kc_7 h8).2.2.2.2.2, qb_some]
      simp only [bI_eq0]
    have key : ∀ bb : Bool, ok = (decide (v1.toInt ≤ v2.toInt) && bb) → FM_ranged_117 N (nI t) (bI bb) J13 = if cx J13 n p2 = 41 then (if (bI ok) = 0 then some ((), jF J13 (4 + 16 * p2)) else FM_ranged_159 N J13) else FM_ranged_159 N J13 := by
      intro bb hbb
      rw [m117']
      by_cases e41 : cx J13 n p2 = 41
      · rw [if_pos e41, if_pos e41, hbb]
        by_cases cl : v1.toInt ≤ v2.toInt
        · rw [if_neg (by rw [Int32.lt_iff_toInt_lt]; omega), decide_eq_true cl, Bool.true_and]
          cases bb <;> simp [bI]
        · rw [if_pos (by rw [Int32.lt_iff_toInt_lt]; omega), decide_eq_false cl, Bool.false_and, if_pos (by decide)]
      · rw [if_neg e41, if_neg e41]
    rw [hM1 N hN1, show (44 : Int32) = nI 44 from rfl, ((kc_pass h6 44 (by omega) N).1 c44).2.1, qb_some, if_neg (by decide), hN2, qb_some, if_neg (by decide), qk_t qt, ct]
    simp only
    rw [qk_t qt, jN_6, hJ13, j5, j6]
    by_cases ck : k = 2
    · rw [if_neg (by rw [if_pos ck]; decide), qk_t qt, qk_t qt]
      have ho : ok = (decide (v1.toInt ≤ v2.toInt) && decide (v2.toInt - v1.toInt < 65536)) := by
        show (_ && (if k = 2 then _ else _)) = _
        rw [if_pos ck]
      by_cases c2 : (65536 : Int32) ≤ v2 - v1
      · rw [if_pos c2]
        rw [Int32.le_iff_toInt_le, hsub, i_lit 65536 (by omega)] at c2
        exact key false (by rw [ho, decide_eq_false (show ¬ v2.toInt - v1.toInt < 65536 by omega)])
      · rw [if_neg c2]
        rw [Int32.le_iff_toInt_le, hsub, i_lit 65536 (by omega)] at c2
        exact key true (by rw [ho, decide_eq_true (show v2.toInt - v1.toInt < 65536 by omega)])
    · rw [if_pos (by rw [if_neg ck]; rfl), qk_t qt, qk_t qt]
      have ho : ok = (decide (v1.toInt ≤ v2.toInt) && (decide (0 ≤ v1.toInt) && decide (v2.toInt ≤ 20))) := by
        show (_ && (if k = 2 then _ else _)) = _
        rw [if_neg ck]
      by_cases c2 : v1 < 0
      · rw [if_pos c2]
        rw [Int32.lt_iff_toInt_lt, i_0] at c2
        exact key false (by rw [ho, decide_eq_false (show ¬ 0 ≤ v1.toInt by omega), Bool.false_and])
      · rw [if_neg c2]
        rw [Int32.lt_iff_toInt_lt, i_0] at c2
        by_cases c3 : (20 : Int32) < v2
        · rw [if_pos c3]
          rw [Int32.lt_iff_toInt_lt, i_lit 20 (by omega)] at c3
          exact key false (by rw [ho, decide_eq_false (show ¬ v2.toInt ≤ 20 by omega), Bool.and_false])
        · rw [if_neg c3]
          rw [Int32.lt_iff_toInt_lt, i_lit 20 (by omega)] at c3
          exact key true (by rw [ho, decide_eq_true (show 0 ≤ v1.toInt by omega), decide_eq_true (show v2.toInt ≤ 20 by omega), Bool.true_and])
  have h9 := kcS_xM (k := 1) (v := 1) h8 hx
  have c91 : ∀ N, FC_readBounds_91 N KC KS (A + 2) (some x) M17 = qb (FC_pass N KC KS (A + 2) (nI 41) (zpi M17 x 1 1)) fun v4 M5 => some (v4, M5) := by
    intro N
    unfold FC_readBounds_91
    rw [qo_s rfl hs17]
    simp only
    rw [qk_d (kc_7 h9).2.2.1]
    rfl
  have m159 : ∀ N, FM_ranged_159 N J13 = qb (FM_need N (nI 41) J13) fun v1 J2 => some ((), J2) := fun N => rfl
  have h8n : cx J13 n p2 = nI 41 → p2 < n := fun e => cx_lt e (nI_n1 (by omega))
  by_cases e41 : cx J13 n p2 = nI 41
  · by_cases cok : ok = true
    · left
      have hpn2 := h8n e41
      refine ⟨mP (zpi M17 x 1 1) A (p2 + 1), jP J13 (p2 + 1), p2 + 1, v1, v2, by omega, kc_go h9 (by omega) (by omega), ev_mono (ev_and g4 f4) (fun N hN => ?_), ev_mono (ev_and g5 f5) (fun N hN => ?_), hok.mp cok, oF_trans o17 (oF_trans (oF_x _ _ _ _ _) (oF_P _ _ _ _)), zr17, ?_, ?_, ?_, fun j hj => ?_, ?_, ?_, ?_, fun c k q1 q2 => ?_⟩
      · rw [hC2 N hN.1 hN.2, if_pos (show cx J13 n p2 = 41 from e41), cok, if_neg (by decide), c91, ((kc_pass h9 41 (by omega) N).1 e41).1, qb_some]
      · rw [m117 N hN.1 hN.2, if_pos (show cx J13 n p2 = 41 from e41), cok, if_neg (by decide), m159, ((kc_pass h9 41 (by omega) N).1 e41).2.1, qb_some]
      · rw [mP_x hx2, zi_pi, if_pos ⟨rfl, rfl⟩]
      · rw [mP_x hx2, zi_pi, if_neg (by omega), x2]
      · rw [mP_x hx2, zi_pi, if_neg (by omega), x3]
      · rw [mP_x hx2, zi_pi, if_neg (by omega), xo j (by omega)]
      · rw [jP_o (by omega), j5]
      · rw [jP_o (by omega), j6]
      · rw [jP_o (by omega), j11]
      · rw [jP_o (by omega), jo c k q1 q2]
    · right
      have cokf : ok = false := by simpa using cok
      refine ⟨mFt M17 A (4 + 16 * p2), jF J13 (4 + 16 * p2), kcBad_l w17 u13 (kc_bad0 h8 (by omega) (by have := (kc_7 h8).2.2.2.1; omega)), ev_mono (ev_and g4 f4) (fun N hN => ?_), ev_mono (ev_and g5 f5) (fun N hN => ?_)⟩
      · rw [hC2 N hN.1 hN.2, if_pos (show cx J13 n p2 = 41 from e41), cokf, if_pos (by decide)]
      · rw [m117 N hN.1 hN.2, if_pos (show cx J13 n p2 = 41 from e41), cokf, if_pos (by decide)]
  · right
    refine ⟨mFt (zpi M17 x 1 1) A (1 + 16 * p2), jF J13 (1 + 16 * p2), kcBad_l (wMf_trans w17 (wMf_xi hx)) u13 (kc_bad0 h9 (by omega) (by have := (kc_7 h8).2.2.2.1; omega)), ev_mono (ev_and g4 f4) (fun N hN => ?_), ev_mono (ev_and g5 f5) (fun N hN => ?_)⟩
    · rw [hC2 N hN.1 hN.2, if_neg (show ¬ cx J13 n p2 = 41 from e41), c91, ((kc_pass h9 41 (by omega) N).2 e41).1, qb_some]
    · rw [m117 N hN.1 hN.2, if_neg (show ¬ cx J13 n p2 = 41 from e41), m159, ((kc_pass h9 41 (by omega) N).2 e41).2, qb_some]
