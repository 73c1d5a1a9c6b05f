/-! COMPILING: one tag -/
theorem tag_all {KC KS : Nat} (M1 : zM) (x dg : Nat) (e : Bool) (hs : zsh M1 x = some (.inl 6)) : ∃ M', (∀ N, FT_beginTag N KC KS x (nI dg) (bI e) M1 = some ((), M')) ∧ zsh M' = zsh M1 ∧ zl M' = zl M1 ∧ zsz M' = zsz M1 ∧ zsl M' = zsl M1 ∧ (∀ y j, y ≠ x → zi M' y j = zi M1 y j) ∧ (∀ y j, y ≠ x → zr M' y j = zr M1 y j) ∧ zi M' x 0 = nI 10 ∧ zi M' x 1 = 0 ∧ zi M' x 4 = nI dg ∧ zi M' x 5 = bI e ∧ zi M' x 6 = (1 : Int32) <<< ((17 + nI dg) &&& 31) ∧ zr M' x 9 = none := by
  have qzb : ∀ {β : Type} (b : Bool) (f : Bool → Option β), qz (bI b) f = f b := by
    intro β b f
    cases b
    · exact qz_0 f
    · exact qz_1 f
  refine ⟨zpi (zpi (zpi (tBeg M1 x (nI 10) (tgK 10)) x 4 (nI dg)) x 5 (bI e)) x 6 ((1 : Int32) <<< ((17 + nI dg) &&& 31)), fun N => ?_, ?_, ?_, ?_, ?_, fun y j hy => ?_, fun y j hy => ?_, ?_, ?_, ?_, ?_, ?_, ?_⟩
  · unfold FT_beginTag
    rw [show (10 : Int32) = nI 10 from rfl, eT_begin (by unfold isK; omega), qb_some, qk_d (by rw [tBeg_sh]; exact hs), qzb]
  · funext y
    rw [zsh_pi, zsh_pi, zsh_pi, tBeg_sh]
  · rw [zl_pi, zl_pi, zl_pi]
    unfold tBeg
    simp only [zl_pi, zl_pr]
  · rw [zsz_pi, zsz_pi, zsz_pi]
    unfold tBeg
    simp only [zsz_pi, zsz_pr]
  · rw [zsl_pi, zsl_pi, zsl_pi]
    unfold tBeg
    simp only [zsl_pi, zsl_pr]
  · rw [zi_pi, if_neg (fun z => hy z.1), zi_pi, if_neg (fun z => hy z.1), zi_pi, if_neg (fun z => hy z.1), tBeg_io hy]
  · rw [zr_pi, zr_pi, zr_pi, tBeg_ro hy]
  · rw [zi_pi, if_neg (by omega), zi_pi, if_neg (by omega), zi_pi, if_neg (by omega), tBeg_i0]
  · rw [zi_pi, if_neg (by omega), zi_pi, if_neg (by omega), zi_pi, if_neg (by omega), tBeg_ij (by omega) (by omega) (by omega)]
  · rw [zi_pi, if_neg (by omega), zi_pi, if_neg (by omega), zi_pi, if_pos ⟨rfl, rfl⟩]
  · rw [zi_pi, if_neg (by omega), zi_pi, if_pos ⟨rfl, rfl⟩]
  · rw [zi_pi, if_pos ⟨rfl, rfl⟩]
  · rw [zr_pi, zr_pi, zr_pi, tBeg_r (by omega) (by omega)]
theorem tg_dg : ∀ g : Fin 10, cTag ((1 : Int32) <<< ((20 + nI (g : Nat)) &&& 31)) = (1 : Int32) <<< ((17 + nI (g : Nat)) &&& 31) ∧ ((1 : Int32) <<< ((20 + nI (g : Nat)) &&& 31)) ≠ 0 ∧ ((1 : Int32) <<< ((20 + nI (g : Nat)) &&& 31)) &&& 1072758838 = (1 : Int32) <<< ((20 + nI (g : Nat)) &&& 31) := by decide
/-- a tag that has been read: object x, node t -/
def kTi (M : zM) (J : zJ) (x t : Nat) : Prop := zsh M x = some (.inl 6) ∧ zi M x 0 = nI 10 ∧ zi M x 1 = 0 ∧ zi M x 4 = J 7 t ∧ zi M x 5 = (if J 12 t = 0 then 1 else 0) ∧ zi M x 6 = cTag (J 9 t) ∧ J 4 t = nI 10 ∧ (∃ dg, dg ≤ 9 ∧ J 7 t = nI dg) ∧ (J 12 t = 0 ∨ J 12 t = 1) ∧ J 8 t = 0 ∧ J 10 t = 0 ∧ J 11 t = 0 ∧ J 9 t ≠ 0 ∧ mOk (J 9 t)
theorem cx_ch {A KC KS q n p a b c p' : Nat} {M : zM} {J : zJ} (h : kcS A KC KS q M J n p a b c) : cx J n p' = -1 ∨ ∃ ch, ch < 65536 ∧ cx J n p' = nI ch := by
  unfold cx
  by_cases hp : p' < n
  · rw [if_pos hp]
    obtain ⟨_, ch, c1, c2⟩ := h.2.2.2.1.2.2 p' hp
    exact Or.inr ⟨ch, c1, c2⟩
  · rw [if_neg hp]
    exact Or.inl rfl
theorem kc_tag {A KC KS q n p a b c e : Nat} {M : zM} {J : zJ} (h : kcS A KC KS q M J n p a b c) (h5 : J 0 5 = nI e) (he : e < 150) (h91 : cx J n p = 91) :
    (∃ M' J' p' x, p + 3 ≤ p' ∧ Ev (fun N => FC_readTag N KC KS (A + 2) M = some (some x, M')) ∧ goW (-1, J) (-1, J') ∧ kcS A KC KS q M' J' n p' (a + 1) b (c + 1) ∧ kF A a b c e M J M' J' ∧ kU A M' (a + 1) b x ∧ ¬ kU A M a b x ∧ (∀ c, c ≤ 72 → x ≠ A + c) ∧ kTi M' J' x c ∧ zr M' x 9 = none ∧ J' 0 5 = nI (e + 1) ∧ J' 2 e = nI c) ∨
    (∃ M' J', Ev (fun N => FC_readTag N KC KS (A + 2) M = some (none, M')) ∧ goW (-1, J) (-1, J') ∧ kcBad A KC KS q M J M' J') := by
  obtain ⟨k1, k2, k3, k4, k5, k6⟩ := kc_7 h
  obtain ⟨t4, t5, t10, ta, tb, tc⟩ := h.2.2.2.2.2.2
  have hpn : p < n := cx_lt h91 (by decide)
  have h1 := kc_go (p' := p + 1) h (by omega) (by omega)
  have cxe : ∀ r, cx (jP J (p + 1)) n r = cx J n r := fun r => cx_P J (p + 1) n r
  have hadd : ∀ N, FM_add N (nI 10) (jP J (p + 1)) = some (nI c, aJ (jP J (p + 1)) c 10) := fun N => eM_add (by rw [jP_o (by omega)]; exact t10) (by omega) (by unfold isK; omega) N
  -- the reference: its state behind the node
  have hJ3k : kcS A KC KS q (mP M A (p + 1)) (aJ (jP J (p + 1)) c 10) n (p + 1) a b (c + 1) := by
    have h1' := h1
    obtain ⟨s1, s2, s3, s4, ⟨s5, s6, s7⟩, ⟨s8, s9⟩, s10, s11, s12, s13, s14, s15⟩ := h1
    exact kcS_o (x := kNo A) h1' (kNo_x A) (oF_refl _ _ _) rfl s5 s8 rfl rfl (kJ_a _ _ _) (by rw [aJ_o (by omega) (by omega)]; exact s6) (by rw [aJ_o (by omega) (by omega)]; exact s9) aJ_v.1 (Nat.le_refl _) s7 (by omega)
  have cx3 : ∀ r, cx (aJ (jP J (p + 1)) c 10) n r = cx J n r := fun r => by
    have : aJ (jP J (p + 1)) c 10 1 = J 1 := funext (fun j => by rw [aJ_o (by omega) (by omega), jP_o (by omega)])
    unfold cx
    rw [this]
  have qt : qi (nI c) 160 = true := qi_nI (by omega) (by omega)
  have ct : (nI c).toNatClampNeg = c := nI_clamp (by omega)
  have hb0 : ∀ N, FM_begin N J = FM_tagged N J := by
    intro N
    unfold FM_begin
    rw [(kc_look h N).2, qb_some, if_pos h91]
    cases FM_tagged N J with
    | none => rfl
    | some r => rfl
  have hdig : isDg (cx J n (p + 1)) = (decide (0 ≤ (cx J n (p + 1) - 48).toInt) && decide ((cx J n (p + 1) - 48).toInt ≤ 9)) := by
    rcases cx_ch (p' := p + 1) h with e | ⟨ch, c1, c2⟩
    · rw [e]
      decide
    · rw [c2]
      unfold isDg
      have : (nI ch - 48).toInt = (ch : Int) - 48 := by
        rw [Int32.toInt_sub, nI_toInt (by omega), i_lit 48 (by omega), Int.bmod_eq_of_le] <;> omega
      rw [this, nI_toInt (by omega)]
      by_cases cc : 48 ≤ (ch : Int) ∧ (ch : Int) ≤ 57
      · rw [decide_eq_true cc, decide_eq_true (by omega), decide_eq_true (by omega)]
        rfl
      · rw [decide_eq_false cc]
        symm
        simp
        omega
  have hT : ∀ N, FM_tagged N J = if (bI (isDg (cx J n (p + 1)))) = 0 then some (-1, jF (zu (aJ (jP J (p + 1)) c 10) 7 c (cx J n (p + 1) - 48)) (1 + 16 * (p + 1))) else qb (FM_look N (jP (zu (aJ (jP J (p + 1)) c 10) 7 c (cx J n (p + 1) - 48)) (p + 2))) fun v11 J12 => if v11 = 33 then FM_tagged_84 N (nI c) (nI c) 1 J12 else FM_tagged_84 N (nI c) (nI c) 0 J12 := by
    intro N
    unfold FM_tagged
    rw [k2, nI_add1]
    simp only
    rw [show zu J 0 3 (nI (p + 1)) = jP J (p + 1) from rfl, show (10 : Int32) = nI 10 from rfl, hadd, qb_some, (kc_look hJ3k N).2, qb_some, qk_t qt, ct, cx3]
    have z7 : zu (aJ (jP J (p + 1)) c 10) 7 c (cx J n (p + 1) - 48) 7 c = cx J n (p + 1) - 48 := zu_self _ _ _ _
    have z3 : zu (aJ (jP J (p + 1)) c 10) 7 c (cx J n (p + 1) - 48) 0 3 = nI (p + 1) := by rw [zu_ne _ _ _ (by omega)]; exact (kc_7 hJ3k).2.1
    have z4 : zu (aJ (jP J (p + 1)) c 10) 7 c (cx J n (p + 1) - 48) 0 4 = 0 := by rw [zu_ne _ _ _ (by omega)]; exact (kc_7 hJ3k).2.2.2.2.2
    rw [qk_t qt, z7, FM_in_eq, qc_some, i_0, i_lit 9 (by omega), z3, nI_add1, show (1 : Int32) = nI 1 from rfl, eM_stop z4, qb_some]
    rw [hdig]
    rfl
  have hC : ∀ N, FC_readTag N KC KS (A + 2) M = if (bI (isDg (cx J n (p + 1)))) = 0 then some (none, mFt (mP M A (p + 1)) A (1 + 16 * (p + 1))) else qb (FC_nextCharacter N KC KS (A + 2) (mP M A (p + 2))) fun v7 M8 => if v7 = 33 then FC_readTag_57 N KC KS (A + 2) (cx J n (p + 1)) 1 M8 else FC_readTag_57 N KC KS (A + 2) (cx J n (p + 1)) 0 M8 := by
    intro N
    unfold FC_readTag
    rw [k1, nI_add1]
    simp only
    rw [show zpi M (A + 2) 7 (nI (p + 1)) = mP M A (p + 1) from rfl, (kc_look h1 N).1, qb_some, cxe, eC_dig, qc_some, qk_d (kc_7 h1).2.2.1, (kc_7 h1).1, show (1 : Int32) = nI 1 from rfl, eC_refuse, qb_some, qk_d (show zsh (mP M A (p + 1)) (A + 2) = _ from k3), show nI (p + 1) + nI 1 = nI (p + 2) from nI_add _ _]
    show (if _ then _ else qb (FC_nextCharacter N KC KS (A + 2) (mP (mP M A (p + 1)) A (p + 2))) _) = _
    rw [mP_P]
  cases hd : isDg (cx J n (p + 1)) with
  | false =>
    right
    refine ⟨mFt (mP M A (p + 1)) A (1 + 16 * (p + 1)), jF (zu (aJ (jP J (p + 1)) c 10) 7 c (cx J n (p + 1) - 48)) (1 + 16 * (p + 1)), ev_of (fun N => ?_), goW_b k6 (ev_of (fun N => ?_)), ?_⟩
    · rw [hC, hd, if_pos (by decide)]
    · rw [hb0, hT, hd, if_pos (by decide)]
    · exact kcBad_l (wMf_P A M _) (kJ_P J _) (kc_bad h1 (oF_c _ _ _ _ _) (by unfold mFt; rw [zi_pi, if_neg (by omega)]) (f := 1 + 16 * (p + 1)) (by omega) (by omega) (by unfold mFt; rw [zi_pi, if_pos ⟨rfl, rfl⟩]) (kJ_trans (kJ_a _ _ _) (kJ_trans (kJ_zu (by omega)) (kJ_0 (by omega)))) (zu_self _ _ _ _))
  | true =>
    obtain ⟨g, g1, g2⟩ := isDg_v hd
    have hpn2 : p + 1 < n := cx_lt g2 (nI_n1 (by omega))
    have hsub : cx J n (p + 1) - 48 = nI g := by
      rw [g2, show (48 : Int32) = nI 48 from rfl, nI_subs (by omega)]
      congr 1
      omega
    -- the mark behind the digit
    obtain ⟨im, him⟩ : ∃ im : Bool, im = decide (cx J n (p + 2) = 33) := ⟨_, rfl⟩
    let r : Nat := if im = true then p + 3 else p + 2
    have hr : p + 2 ≤ r ∧ r ≤ n := by
      show p + 2 ≤ (if im = true then p + 3 else p + 2) ∧ (if im = true then p + 3 else p + 2) ≤ n
      by_cases ci : im = true
      · rw [if_pos ci]
        have := cx_lt (of_decide_eq_true (him ▸ ci)) (by decide)
        omega
      · rw [if_neg ci]
        omega
    have hCr : ∀ N, FC_readTag N KC KS (A + 2) M = FC_readTag_72 N KC KS (A + 2) (nI (48 + g)) (bI im) (mP M A r) := by
      intro N
      have h2 := kc_go (p' := p + 2) h (by omega) (by omega)
      rw [hC, hd, if_neg (by decide), (kc_look h2 N).1, qb_some, cx_P, g2]
      by_cases c33 : cx J n (p + 2) = 33
      · have im1 : im = true := by rw [him, decide_eq_true c33]
        have er : r = p + 3 := by show (if im = true then p + 3 else p + 2) = _; rw [if_pos im1]
        rw [if_pos c33, er, im1]
        unfold FC_readTag_57
        rw [if_neg (by decide), qk_d (kc_7 h2).2.2.1, (kc_7 h2).1, nI_add1]
        show FC_readTag_72 N KC KS (A + 2) (nI (48 + g)) 1 (mP (mP M A (p + 2)) A (p + 3)) = _
        rw [mP_P]
        rfl
      · have im1 : im = false := by rw [him, decide_eq_false c33]
        have er : r = p + 2 := by show (if im = true then p + 3 else p + 2) = _; rw [if_neg (by rw [im1]; decide)]
        rw [if_neg c33, er, im1]
        unfold FC_readTag_57
        rw [if_pos rfl]
        rfl
    generalize hJ7 : zu (zu (zu (aJ (jP J (p + 1)) c 10) 7 c (nI g)) 12 c (bI im)) 9 c ((1 : Int32) <<< ((20 + nI g) &&& 31)) = J7
    have j7o : ∀ cc j, ¬ ((cc = 4 ∨ cc = 7 ∨ cc = 8 ∨ cc = 9 ∨ cc = 10 ∨ cc = 11 ∨ cc = 12) ∧ j = c) → ¬ (cc = 0 ∧ (j = 3 ∨ j = 10)) → J7 cc j = J cc j := fun cc j h1 h2 => by rw [← hJ7, zu_at, if_neg (by omega), zu_at, if_neg (by omega), zu_at, if_neg (by omega), aJ_o (by omega) (by omega), jP_o (by omega)]
    obtain ⟨v1, v2, v3, v4, v5, v6⟩ := aJ_v (J := jP J (p + 1)) (c := c) (k := 10)
    have j74 : J7 4 c = nI 10 := by rw [← hJ7, zu_ne _ _ _ (by omega), zu_ne _ _ _ (by omega), zu_ne _ _ _ (by omega)]; exact v2
    have j77 : J7 7 c = nI g := by rw [← hJ7, zu_ne _ _ _ (by omega), zu_ne _ _ _ (by omega), zu_self]
    have j78 : J7 8 c = 0 := by rw [← hJ7, zu_ne _ _ _ (by omega), zu_ne _ _ _ (by omega), zu_ne _ _ _ (by omega)]; exact v3
    have j79 : J7 9 c = (1 : Int32) <<< ((20 + nI g) &&& 31) := by rw [← hJ7, zu_self]
    have j710 : J7 10 c = 0 := by rw [← hJ7, zu_ne _ _ _ (by omega), zu_ne _ _ _ (by omega), zu_ne _ _ _ (by omega)]; exact v4
    have j711 : J7 11 c = 0 := by rw [← hJ7, zu_ne _ _ _ (by omega), zu_ne _ _ _ (by omega), zu_ne _ _ _ (by omega)]; exact v5
    have j712 : J7 12 c = bI im := by rw [← hJ7, zu_ne _ _ _ (by omega), zu_self]
    have kj7 : kJ J J7 := fun cc j h1 h2 => j7o cc j (by omega) (by omega)
    have h7 : kcS A KC KS q (mP M A r) (jP J7 r) n r a b (c + 1) := by
      have h1r := kc_go (p' := r) h (by omega) hr.2
      have h1r' := h1r
      obtain ⟨s1, s2, s3, s4, ⟨s5, s6, s7⟩, ⟨s8, s9⟩, s10, s11, s12, s13, s14, s15⟩ := h1r
      exact kcS_o (x := kNo A) (J' := jP J7 r) h1r' (kNo_x A) (oF_refl _ _ _) rfl s5 s8 rfl rfl (fun cc j h1 h2 => by rw [jP_o (by omega), jP_o (by omega), j7o cc j (by omega) (by omega)]) (zu_self _ _ _ _) (by rw [jP_o (by omega), j7o 0 4 (by omega) (by omega)]; exact k6) (by rw [jP_o (by omega), ← hJ7, zu_ne _ _ _ (by omega), zu_ne _ _ _ (by omega), zu_ne _ _ _ (by omega)]; exact v1) (Nat.le_refl _) s7 (by omega)
    have hMr : ∀ N, FM_begin N J = qb (FM_need N (nI 93) (jP J7 r)) fun v5 J6 => if (bI v5) = 0 then some (-1, J6) else qb (FM_push N (nI c) J6) fun v7 J8 => some (v7, J8) := by
      intro N
      have hl : FM_look N (jP (zu (aJ (jP J (p + 1)) c 10) 7 c (nI g)) (p + 2)) = some (cx J n (p + 2), jP (zu (aJ (jP J (p + 1)) c 10) 7 c (nI g)) (p + 2)) := kc_look0 h _ (p + 2) (kJ_trans (kJ_P _ _) (kJ_trans (kJ_a _ _ _) (kJ_zu (by omega)))) (by omega) N
      rw [hb0, hT, hd, if_neg (by decide), hsub, hl, qb_some]
      have h84 : ∀ b : Bool, b = im → FM_tagged_84 N (nI c) (nI c) (bI b) (jP (zu (aJ (jP J (p + 1)) c 10) 7 c (nI g)) (p + 2)) = qb (FM_need N (nI 93) (jP J7 r)) fun v5 J6 => if (bI v5) = 0 then some (-1, J6) else qb (FM_push N (nI c) J6) fun v7 J8 => some (v7, J8) := by
        intro b hb
        unfold FM_tagged_84
        have qzb : ∀ {β : Type} (b : Bool) (f : Bool → Option β), qz (bI b) f = f b := by
          intro β b f
          cases b
          · exact qz_0 f
          · exact qz_1 f
        rw [qzb, qk_t qt, ct]
        simp only
        rw [qk_t qt, zu_self, zu_ne _ _ _ (show (0 : Nat) ≠ 12 by omega), show jP (zu (aJ (jP J (p + 1)) c 10) 7 c (nI g)) (p + 2) 0 3 = nI (p + 2) from zu_self _ _ _ _]
        have fin : ∀ t2 : Int32, nI (p + 2) + t2 = nI r → FM_tagged_104 N (nI c) (nI (p + 2)) t2 (zu (jP (zu (aJ (jP J (p + 1)) c 10) 7 c (nI g)) (p + 2)) 12 c (bI b)) = qb (FM_need N (nI 93) (jP J7 r)) fun v5 J6 => if (bI v5) = 0 then some (-1, J6) else qb (FM_push N (nI c) J6) fun v7 J8 => some (v7, J8) := by
          intro t2 ht2
          unfold FM_tagged_104
          rw [ht2]
          simp only
          rw [qk_t qt, qk_t qt, ct]
          have e7 : zu (zu (jP (zu (aJ (jP J (p + 1)) c 10) 7 c (nI g)) (p + 2)) 12 c (bI b)) 0 3 (nI r) 7 c = nI g := by rw [zu_ne _ _ _ (by omega), zu_ne _ _ _ (by omega), jP_o (by omega), zu_self]
          rw [e7]
          have eJ7 : zu (zu (zu (jP (zu (aJ (jP J (p + 1)) c 10) 7 c (nI g)) (p + 2)) 12 c (bI b)) 0 3 (nI r)) 9 c ((1 : Int32) <<< ((20 + nI g) &&& 31)) = jP J7 r := by
            rw [← hJ7, hb]
            unfold jP
            funext cc j
            simp only [zu_at]
            by_cases q1 : cc = 9 ∧ j = c
            · rw [if_pos q1, if_neg (by omega), if_pos q1]
            · by_cases q2 : cc = 0 ∧ j = 3
              · simp only [if_pos q2, if_neg q1]
              · simp only [if_neg q2, if_neg q1]
          rw [eJ7]
          rfl
        cases b with
        | false =>
          have er : r = p + 2 := by show (if im = true then p + 3 else p + 2) = _; rw [if_neg (by rw [← hb]; decide)]
          rw [if_pos (by decide)]
          exact fin 0 (by rw [Int32.add_zero, er])
        | true =>
          have er : r = p + 3 := by show (if im = true then p + 3 else p + 2) = _; rw [if_pos hb.symm]
          rw [if_neg (by decide)]
          exact fin 1 (by rw [nI_add1, er])
      by_cases c33 : cx J n (p + 2) = 33
      · rw [if_pos c33]
        exact h84 true (by rw [him, decide_eq_true c33])
      · rw [if_neg c33]
        exact h84 false (by rw [him, decide_eq_false c33])
    by_cases c93 : cx (jP J7 r) n r = nI 93
    case neg =>
      right
      refine ⟨mFt (mP M A r) A (1 + 16 * r), jF (jP J7 r) (1 + 16 * r), ev_of (fun N => ?_), goW_b k6 (ev_of (fun N => ?_)), kcBad_l (wMf_P A M r) (kJ_trans kj7 (kJ_P _ _)) (kc_bad0 h7 (by omega) (by omega))⟩
      · rw [hCr]
        unfold FC_readTag_72
        rw [qk_d (kc_7 h7).2.2.1, show (93 : Int32) = nI 93 from rfl, ((kc_pass h7 93 (by omega) N).2 c93).1, qb_some, if_pos (by decide)]
      · rw [hMr, ((kc_pass h7 93 (by omega) N).2 c93).2, qb_some, if_pos (by decide)]
    have hrn : r < n := cx_lt c93 (nI_n1 (by omega))
    -- the new type
    have h8 := kc_go (p' := r + 1) h (by omega) (by omega)
    obtain ⟨x, M6, n1, n2, n3, n4, n5, n6, n7, n8⟩ := kc_newT (k := 10) h8 (by omega) (by unfold isK; omega)
    obtain ⟨M9, w1, w2, w3, w4, w5, w6, w7, w8, w9, w10, w11, w12, w13⟩ := tag_all (KC := KC) (KS := KS) M6 x g (!im) n5.1
    have hx2 : x ≠ A + 2 := n2 2 (by omega)
    have hm6 := gN_wMf n2 (Or.inl rfl) n6
    have hz6 := zF_g n2 (Or.inl rfl) n6
    have hm9 : wMf A M6 M9 := ⟨fun y s hs => by rw [w2]; exact hs, fun cc hc _ => funext (fun j => w6 _ j (Ne.symm (n2 cc hc))), fun cc hc _ _ _ => funext (fun j => w7 _ j (Ne.symm (n2 cc hc))), fun cc _ => by rw [w3], w6 _ 6 (Ne.symm hx2)⟩
    have hz9 : zF A x M6 M9 := ⟨fun y h1 _ => ⟨funext (fun j => w6 y j h1), funext (fun j => w7 y j h1)⟩, funext (fun j => w7 _ j (Ne.symm (n2 3 (by omega)))), fun e' j y he hj => by rw [w7 _ j (Ne.symm (n2 e' (by omega)))]; exact hj⟩
    have hzM : zF A x M M9 := zF_trans (zF_o n2 (oF_P _ _ _ _)) (zF_trans hz6 hz9)
    have hmM : wMf A M M9 := wMf_trans (wMf_P A M _) (wMf_trans hm6 hm9)
    have kj8 : kJ J (pJu (jP J7 (r + 1)) e c) := kJ_trans kj7 (kJ_trans (kJ_P _ _) (kJ_u _ _ _))
    have po : ∀ cc j, ¬ (cc = 2 ∧ j = e) → ¬ (cc = 0 ∧ (j = 3 ∨ j = 5)) → pJu (jP J7 (r + 1)) e c cc j = J7 cc j := fun cc j h1 h2 => by rw [pJu_o h1 (by omega), jP_o (by omega)]
    have c9 : ∀ j, zi M9 (A + 2) j = zi M6 (A + 2) j := fun j => w6 _ j (Ne.symm hx2)
    have hK : kcS A KC KS q M9 (pJu (jP J7 (r + 1)) e c) n (r + 1) (a + 1) b (c + 1) := by
      refine kcS_k h hmM (kcP_same n7 w2 w4 w5 (funext (fun j => w7 _ j (Ne.symm (n2 4 (by omega))))) (funext (fun j => w7 _ j (Ne.symm (n2 5 (by omega)))))) (by rw [c9, n6.2.2.1 7 (by omega)]; exact (kc_7 h8).1) (by rw [c9, n6.2.2.1 8 (by omega)]; exact h8.2.2.2.2.2.1.1) (by rw [c9]; exact n8) (by rw [c9, n6.2.2.1 5 (by omega)]; exact h8.2.2.2.2.2.2.2.1) kj8 (by rw [pJu_o (by omega) (by omega)]; exact zu_self _ _ _ _) (by rw [po 0 4 (by omega) (by omega), j7o 0 4 (by omega) (by omega)]; exact k6) (by rw [po 0 10 (by omega) (by omega), ← hJ7, zu_ne _ _ _ (by omega), zu_ne _ _ _ (by omega), zu_ne _ _ _ (by omega)]; exact v1) (by omega) (by omega) (by omega) (by omega)
    have hU9 : kU A M9 (a + 1) b x := Or.inl ⟨a, by omega, by rw [w7 _ a (Ne.symm (n2 4 (by omega)))]; exact n4⟩
    have htg := tg_dg ⟨g, by omega⟩
    simp only at htg
    left
    refine ⟨M9, pJu (jP J7 (r + 1)) e c, r + 1, x, by omega, ev_of (fun N => ?_), goW_b k6 (ev_of (fun N => ?_)), hK, kF_mk h n3 hmM kj8 hzM (fun z hz => ?_) (fun j hj => by rw [po 2 j (by omega) (by omega), j7o 2 j (by omega) (by omega)]) (funext (fun j => by rw [po 3 j (by omega) (by omega), j7o 3 j (by omega) (by omega)])), hU9, n3, n2, ⟨by rw [w2]; exact n5.1, w8, w9, ?_, ?_, ?_, ?_, ?_, ?_, ?_, ?_, ?_, ?_, ?_⟩, w13, pJu_v.2, pJu_v.1⟩
    · rw [hCr]
      unfold FC_readTag_72
      rw [qk_d (kc_7 h7).2.2.1, show (93 : Int32) = nI 93 from rfl, ((kc_pass h7 93 (by omega) N).1 c93).1, qb_some, if_neg (by decide), mP_P, qk_d (kc_7 h8).2.2.1, show (10 : Int32) = nI 10 from rfl, n1, qb_some, if_neg (by simp), show nI (48 + g) - 48 = nI g from by rw [show (48 : Int32) = nI 48 from rfl, nI_subs (by omega), Nat.add_sub_cancel_left]]
      have h108 : ∀ eb : Bool, eb = (!im) → FC_readTag_108 N KC KS (some x) (some x) (nI g) (bI eb) M6 = some (some x, M9) := by
        intro eb heb
        unfold FC_readTag_108
        rw [qo_s rfl n5.1, heb, w1, qb_some]
      cases im with
      | false =>
        rw [if_pos (by decide)]
        exact h108 true rfl
      | true =>
        rw [if_neg (by decide)]
        exact h108 false rfl
    · rw [hMr, ((kc_pass h7 93 (by omega) N).1 c93).2.1, qb_some, if_neg (by decide), jP_P, eM_push (by rw [jP_o (by omega), j7o 0 5 (by omega) (by omega)]; exact h5) he, qb_some]
    · have := low_t.mp hz
      exact ⟨fun j h1 h2 => by rw [po j z (by omega) (by omega), j7o j z (by omega) (by omega)], fun i hi j h1 h2 => by rw [po j _ (by omega) (by omega), j7o j _ (by omega) (by omega)]⟩
    · rw [w10, po 7 c (by omega) (by omega), j77]
    · rw [w11, po 12 c (by omega) (by omega), j712]
      cases im <;> decide
    · rw [w12, po 9 c (by omega) (by omega), j79]
      exact htg.1.symm
    · rw [po 4 c (by omega) (by omega)]; exact j74
    · exact ⟨g, g1, by rw [po 7 c (by omega) (by omega), j77]⟩
    · rw [po 12 c (by omega) (by omega), j712]
      cases im
      · exact Or.inl rfl
      · exact Or.inr rfl
    · rw [po 8 c (by omega) (by omega)]; exact j78
    · rw [po 10 c (by omega) (by omega)]; exact j710
    · rw [po 11 c (by omega) (by omega)]; exact j711
    · rw [po 9 c (by omega) (by omega), j79]; exact htg.2.1
    · rw [po 9 c (by omega) (by omega), j79]; exact htg.2.2
