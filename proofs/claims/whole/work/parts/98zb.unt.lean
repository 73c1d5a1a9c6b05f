/-! COMPILING: plain types and lists, both sides -/
theorem kU_dn {A KC KS q a b x : Nat} {M M' : zM} (hP : kcP A KC KS q M a b) (hp : ∀ e j y, (e = 4 ∨ e = 5) → zr M (A + e) j = some y → zr M' (A + e) j = some y) (h : kU A M' a b x) : kU A M a b x := by
  obtain ⟨a0, b0, ⟨q1, q2, q3, q4, q5, q6, q7, q8⟩, p2, p3, -⟩ := hP
  rcases h with ⟨j, j1, j2⟩ | ⟨j, j1, j2⟩
  · obtain ⟨y, y1, y2⟩ := q3 j (by omega)
    have := hp 4 j y (Or.inl rfl) y1
    rw [j2] at this
    injection this with this
    subst this
    exact Or.inl ⟨j, j1, y1⟩
  · obtain ⟨y, y1, y2⟩ := q6 j (by omega)
    have := hp 5 j y (Or.inr rfl) y1
    rw [j2] at this
    injection this with this
    subst this
    exact Or.inr ⟨j, j1, y1⟩
theorem kF_x {A a b c d x0 : Nat} {M M' : zM} {J J' : zJ} (hU : ∀ y, kU A M a b y → y ≠ x0 ∧ ∀ c, c ≤ 72 → y ≠ A + c) (hk : wMf A M M') (hj : kJ J J') (hz : zF A x0 M M') (ht : tAg (low c) J J') (h2 : ∀ k, k < d → J' 2 k = J 2 k) (h3 : J' 3 = J 3) : kF A a b c d M J M' J' :=
  ⟨hk, hj, fun y hy => hz.1 y (hU y hy).1 (hU y hy).2, ht, h2, h3, hz.2.1, hz.2.2⟩
/-- behind the character of a kind, with a new type x and a new node c -/
def kMd (A KC KS q n d : Nat) (M : zM) (J : zJ) (p a b c k x : Nat) (M8 : zM) (J3 : zJ) : Prop := kcS A KC KS q M8 J3 n (p + 1) (a + 1) b (c + 1) ∧ (∀ c, c ≤ 72 → x ≠ A + c) ∧ ¬ kU A M a b x ∧ kU A M8 (a + 1) b x ∧ tNew M8 x (nI k) (tgK k) ∧ zF A x M M8 ∧ wMf A M M8 ∧ kF A a b c d M J M8 J3 ∧ (J3 4 c = nI k ∧ J3 8 c = 0 ∧ J3 10 c = 0 ∧ J3 11 c = 0 ∧ J3 9 c = tgK k ∧ J3 0 5 = J 0 5) ∧ p + 1 ≤ n ∧ a ≤ p ∧ b ≤ p ∧ c ≤ p
theorem kc_kind {A KC KS q n p a b c d k : Nat} {M : zM} {J : zJ} (h : kcS A KC KS q M J n p a b c) (hpn : p < n) (hk : isK k) : ∃ x M8, (∀ N, FC_newType N KC KS (A + 2) (nI k) (mP M A (p + 1)) = some (some x, M8)) ∧ (∀ N, FM_add N (nI k) (jP J (p + 1)) = some (nI c, aJ (jP J (p + 1)) c k)) ∧ kMd A KC KS q n d M J p a b c k x M8 (aJ (jP J (p + 1)) c k) := by
  have h6 := kc_go (p' := p + 1) h (by omega) (by omega)
  obtain ⟨t1, t2, t3, ta, tb, tc⟩ := h.2.2.2.2.2.2
  obtain ⟨x, M8, g1, g2, g3, g4, g5, g6, g7, g8, g9, g10⟩ := kc_make (d := d) h6 (by omega) (by omega) hk
  have hF0 : kF A a b c d M J (mP M A (p + 1)) (jP J (p + 1)) := kF_P h
  have hz0 : zF A x M (mP M A (p + 1)) := zF_o g4 (oF_P _ _ _ _)
  obtain ⟨v1, v2, v3, v4, v5, v6⟩ := aJ_v (J := jP J (p + 1)) (c := c) (k := k)
  exact ⟨x, M8, g1, g2, g3, g4, g5, g6, g7, zF_trans hz0 g8, wMf_trans (wMf_P A M _) g9, kF_trans hF0 g10 (Nat.le_refl _) (Nat.le_refl _) (Nat.le_refl _) (Nat.le_refl _), ⟨v2, v3, v4, v5, v6, by rw [aJ_o (by omega) (by omega), jP_o (by omega)]⟩, by omega, ta, tb, tc⟩
theorem kGood_leaf {A KC KS q n d : Nat} {M M' : zM} {J J' : zJ} {p a b c p' x : Nat} {S R : Nat → Bool} (hN : kcN A M J S R a b c) (h : kcS A KC KS q M' J' n p' (a + 1) b (c + 1)) (hF : kF A a b c d M J M' J') (hU : kU A M' (a + 1) b x) (hU0 : ¬ kU A M a b x) (hp : p < p') (hb : b ≤ p) (hd : dT M' J' (ins S x) (ins R c) x c 0) (hd6 : d < 6) (h5 : J' 0 5 = nI d) : kGood A KC KS q n d M J p a b c S R M' J' x c := by
  refine ⟨p', a + 1, b, c + 1, ins S x, ins R c, 0, h, hF, ⟨by omega, by omega, by omega, hp, by omega⟩, fun y hy => ins_l hy, fun t ht => ins_l ht, fun y hy => ?_, fun t ht => ?_, hd, by omega, h5⟩
  · rcases ins_o hy with hy | hy
    · exact ⟨kU_up hF.2.2.2.2.2.2.2 (by omega) (Nat.le_refl _) (hN.1 y hy), Or.inl hy⟩
    · subst hy
      exact ⟨hU, Or.inr hU0⟩
  · rcases ins_o ht with ht | ht
    · have := hN.2.1 t ht
      exact ⟨by omega, Or.inl ht⟩
    · subst ht
      exact ⟨by omega, Or.inr (Nat.le_refl _)⟩
/-- bounds if there are some -/
theorem kc_bnd {A KC KS q n d : Nat} {M : zM} {J : zJ} {p a b c k x : Nat} {M8 : zM} {J3 : zJ} (h : kcS A KC KS q M J n p a b c) (hm : kMd A KC KS q n d M J p a b c k x M8 J3) (hk : k = 2 ∨ k = 4 ∨ k = 7) :
    (∃ M9 J9 p9, p < p9 ∧ kcS A KC KS q M9 J9 n p9 (a + 1) b (c + 1) ∧ Ev (fun N => FC_readBounds N KC KS (A + 2) (some x) M8 = some (true, M9)) ∧ Ev (fun N => (qb (FM_look N J3) fun v4 J5 => if v4 = 40 then (if nI k = 2 then FM_begin_247 N (nI k) (nI c) (nI c) 1 J5 else FM_begin_247 N (nI k) (nI c) (nI c) 0 J5) else FM_begin_250 N (nI k) (nI c) J5) = FM_begin_250 N (nI k) (nI c) J9) ∧ kF A a b c d M J M9 J9 ∧ kU A M9 (a + 1) b x ∧ zsh M9 x = some (.inl 6) ∧ zi M9 x 0 = nI k ∧ zi M9 x 6 = tgK k ∧ zi M9 x 7 = 0 ∧ (∀ j, 9 ≤ j → j ≤ 11 → zr M9 x j = none) ∧ J9 4 c = nI k ∧ J9 8 c = 0 ∧ J9 10 c = 0 ∧ J9 9 c = tgK k ∧ J9 0 5 = J 0 5 ∧ zi M9 x 1 = J9 11 c ∧ ((J9 11 c = 0) ∨ (J9 11 c = 1 ∧ zi M9 x 2 = J9 5 c ∧ zi M9 x 3 = J9 6 c ∧ bndOK k (J9 5 c) (J9 6 c)))) ∨
    (∃ M9 J9, kcBad A KC KS q M J M9 J9 ∧ Ev (fun N => FC_readBounds N KC KS (A + 2) (some x) M8 = some (false, M9)) ∧ Ev (fun N => (qb (FM_look N J3) fun v4 J5 => if v4 = 40 then (if nI k = 2 then FM_begin_247 N (nI k) (nI c) (nI c) 1 J5 else FM_begin_247 N (nI k) (nI c) (nI c) 0 J5) else FM_begin_250 N (nI k) (nI c) J5) = some (-1, J9))) := by
  obtain ⟨m1, m2, m3, m4, ⟨n1, n2, n3, n4, n5⟩, m6, m7, m8, ⟨j4, j8, j10, j11, j9, j5⟩, m10, ma, mb, mc⟩ := hm
  have hn150 := (kc_7 h).2.2.2.2.1
  by_cases c40 : cx J3 n (p + 1) = 40
  · have hR : ∀ N, (qb (FM_look N J3) fun v4 J5 => if v4 = 40 then (if nI k = 2 then FM_begin_247 N (nI k) (nI c) (nI c) 1 J5 else FM_begin_247 N (nI k) (nI c) (nI c) 0 J5) else FM_begin_250 N (nI k) (nI c) J5) = qb (FM_ranged N (nI c) (nI (if k = 2 then 1 else 0)) J3) fun v1 J2 => FM_begin_250 N (nI k) (nI c) J2 := by
      intro N
      rw [(kc_look m1 N).2, qb_some, if_pos c40]
      by_cases ck : k = 2
      · rw [if_pos (by rw [ck]; rfl), if_pos ck]
        rfl
      · rw [if_neg (by rw [show (2 : Int32) = nI 2 from rfl, nI_eq (by omega) (by omega)]; exact ck), if_neg ck]
        rfl
    rcases kc_bounds (t := c) m1 m2 n1 n2 hk (by omega) c40 with ⟨M9, J9, p9, lo, hi, b1, b2, b3, b4, b5, b6, b7, b8, b9, b10, b11, b12, b13, b14, b15⟩ | ⟨M9, J9, b1, b2, b3⟩
    · left
      have zx : zF A x M M9 := zF_trans m6 (zF_o m2 b6)
      have hkM : wMf A M M9 := wMf_trans m7 (oF_wMf m2 b6 (by have := b2.2.2.2.1.1; rw [this]; exact (m1.2.2.2.1.1).symm))
      have hkJ : kJ J3 J9 := fun cc kk h1 h2 => b15 cc kk (by omega) (by omega)
      refine ⟨M9, J9, p9, by omega, b2, b3, ev_mono b4 (fun N hN => by rw [hR, hN, qb_some]), kF_mk h m3 hkM (kJ_trans m8.2.1 hkJ) zx (tAg_trans (fun _ h => h) m8.2.2.2.1 (fun t ht => ?_)) (fun kk hkk => ?_) ?_, ?_, by rw [b6.1]; exact n1, by rw [b11 0 (by omega)]; exact n2, by rw [b11 6 (by omega)]; exact n4, by rw [b11 7 (by omega)]; exact n3 7 (by omega) (by omega) (by omega), fun j h9 h11 => by rw [b7]; exact n5 j h9 h11, by rw [b15 4 c (by omega) (by omega)]; exact j4, by rw [b15 8 c (by omega) (by omega)]; exact j8, by rw [b15 10 c (by omega) (by omega)]; exact j10, by rw [b15 9 c (by omega) (by omega)]; exact j9, by rw [b15 0 5 (by omega) (by omega)]; exact j5, by rw [b8, b14], Or.inr ⟨b14, by rw [b9, b12], by rw [b10, b13], by rw [b12, b13]; exact b5⟩⟩
      · have := low_t.mp ht
        exact ⟨fun kk h1 h2 => b15 kk t (by omega) (by omega), fun j hj kk h1 h2 => b15 kk _ (by omega) (by omega)⟩
      · rw [b15 2 kk (by omega) (by omega)]
        exact m8.2.2.2.2.1 kk hkk
      · funext kk
        rw [b15 3 kk (by omega) (by omega), m8.2.2.2.2.2.1]
      · rcases m4 with ⟨j, q1, q2⟩ | ⟨j, q1, q2⟩
        · exact Or.inl ⟨j, q1, by rw [b7]; exact q2⟩
        · exact Or.inr ⟨j, q1, by rw [b7]; exact q2⟩
    · right
      refine ⟨M9, J9, kcBad_l m7 m8.2.1 b1, b2, ev_mono b3 (fun N hN => ?_)⟩
      rw [hR, hN, qb_some]
      unfold FM_begin_250
      obtain ⟨f, f1, f2, f3, f4, f5⟩ := kcBad_J b1
      rw [if_neg f4]
  · left
    refine ⟨M8, J3, p + 1, by omega, m1, ev_of (fun N => ?_), ev_of (fun N => ?_), m8, m4, n1, n2, n4, n3 7 (by omega) (by omega) (by omega), n5, j4, j8, j10, j9, j5, by rw [n3 1 (by omega) (by omega) (by omega), j11], Or.inl j11⟩
    · unfold FC_readBounds
      rw [(kc_look m1 N).1, qb_some, if_neg c40]
    · rw [(kc_look m1 N).2, qb_some, if_neg c40]
theorem dT_bnd {M : zM} {J : zJ} {x k c : Nat} (hk : k = 2 ∨ k = 4) (h : (J 11 c = 0) ∨ (J 11 c = 1 ∧ zi M x 2 = J 5 c ∧ zi M x 3 = J 6 c ∧ bndOK k (J 5 c) (J 6 c))) : (J 11 c = 0) ∨ (J 11 c = 1 ∧ (k = 2 ∨ k = 4) ∧ zi M x 2 = J 5 c ∧ zi M x 3 = J 6 c ∧ bndOK k (J 5 c) (J 6 c)) := by
  rcases h with h | ⟨h1, h2, h3, h4⟩
  · exact Or.inl h
  · exact Or.inr ⟨h1, hk, h2, h3, h4⟩
/-- the class and the reference up to a kind's own business -/
theorem kc_up {A KC KS q n p a b c d k : Nat} {M : zM} {J : zJ} {rec : Nat → (Nat × Int32 × zM) → Option (Option Nat × zM)} (h : kcS A KC KS q M J n p a b c) (h5 : J 0 5 = nI d) (hd : d < 6) (hk : isK k) (hpn : p < n) (hnm : ¬ (65 ≤ (cx J n p).toInt ∧ (cx J n p).toInt ≤ 90)) (hC : ∀ N, FC_kindOf N (cx J n p) = some (nI k)) (hM : ∀ N, FM_begin N J = FM_begin_110 N (nI k) J) :
    ∃ x M8, kMd A KC KS q n d M J p a b c k x M8 (aJ (jP J (p + 1)) c k) ∧
      (∀ N, FC_readUntagged N KC KS (rec N) (A + 2) (nI d) M = if nI k = 6 then FC_readUntagged_96 N KC KS (rec N) (A + 2) (nI d) (some x) M8 else if nI k = 9 then FC_readUntagged_96 N KC KS (rec N) (A + 2) (nI d) (some x) M8 else if nI k = 7 then qb (FC_readBounds N KC KS (A + 2) (some x) M8) fun v10 M11 => if (bI v10) = 0 then some (none, M11) else qk (decide (zsh M11 (A + 2) = some (.inl 0))) <| qb (FC_readItems N KC KS (rec N) (A + 2) (some x) (nI d) M11) fun v13 M14 => if (bI v13) = 0 then some (none, M14) else some (some x, M14) else if nI k = 2 then qb (FC_readBounds N KC KS (A + 2) (some x) M8) fun v2 M3 => if (bI v2) = 0 then some (none, M3) else some (some x, M3) else if nI k = 4 then qb (FC_readBounds N KC KS (A + 2) (some x) M8) fun v2 M3 => if (bI v2) = 0 then some (none, M3) else some (some x, M3) else some (some x, M8)) ∧
      (∀ N, FM_begin N J = if nI k = 6 then FM_begin_172 N (nI k) (nI c) (aJ (jP J (p + 1)) c k) else if nI k = 9 then FM_begin_172 N (nI k) (nI c) (aJ (jP J (p + 1)) c k) else if nI k = 1 then FM_begin_250 N (nI k) (nI c) (aJ (jP J (p + 1)) c k) else if nI k = 5 then FM_begin_250 N (nI k) (nI c) (aJ (jP J (p + 1)) c k) else qb (FM_look N (aJ (jP J (p + 1)) c k)) fun v4 J5 => if v4 = 40 then (if nI k = 2 then FM_begin_247 N (nI k) (nI c) (nI c) 1 J5 else FM_begin_247 N (nI k) (nI c) (nI c) 0 J5) else FM_begin_250 N (nI k) (nI c) J5) := by
  obtain ⟨k1, k2, k3, k4, k5, k6⟩ := kc_7 h
  obtain ⟨x, M8, g1, g2, g3⟩ := kc_kind (d := d) h hpn hk
  have kb : k < 100 := by unfold isK at hk; omega
  have d6 : nI d < 6 := by rw [show (6 : Int32) = nI 6 from rfl, nI_ltI (by omega) (by omega)]; exact hd
  refine ⟨x, M8, g3, fun N => ?_, fun N => ?_⟩
  · have hnm' : FC_isName N (cx J n p) = some false := by
      unfold FC_isName
      simp only [Int32.lt_iff_toInt_lt, i_lit 65 (by omega), i_lit 90 (by omega)]
      by_cases c1 : (cx J n p).toInt < ((65 : Nat) : Int)
      · rw [if_pos c1]
      · rw [if_neg c1, if_pos (by omega)]
    have s8 : zsh M8 (A + 2) = some (.inl 0) := (kc_7 g3.1).2.2.1
    unfold FC_readUntagged
    rw [(kc_look h N).1, qb_some, hnm', qc_some, if_pos (by decide), hC, qc_some, if_neg (nI_n1 (by omega)), if_pos d6, qk_d k3, k1, nI_add1]
    show qb (FC_newType N KC KS (A + 2) (nI k) (mP M A (p + 1))) _ = _
    rw [g1, qb_some, if_neg (by simp), qk_d s8]
    unfold FC_readUntagged_153 FC_readUntagged_161
    simp only [qk_d s8]
    rfl
  · rw [hM]
    unfold FM_begin_110
    rw [if_neg (by rw [show (0 : Int32) = nI 0 from rfl, nI_eq (by omega) (by omega)]; unfold isK at hk; omega), h5, if_pos d6, k2, nI_add1]
    simp only
    rw [show zu J 0 3 (nI (p + 1)) = jP J (p + 1) from rfl, g2, qb_some]
theorem b250_leaf {N k c : Nat} {J : zJ} (hk : k ≠ 7) (hk2 : k < 100) (h4 : J 0 4 = 0) : FM_begin_250 N (nI k) (nI c) J = some (nI c, J) := by
  unfold FM_begin_250
  rw [h4, if_pos (by decide), if_neg (by rw [show (7 : Int32) = nI 7 from rfl, nI_eq (by omega) (by omega)]; exact hk)]
theorem kc_plain {A KC KS q n p a b c d k : Nat} {M : zM} {J : zJ} {S R : Nat → Bool} {rec : Nat → (Nat × Int32 × zM) → Option (Option Nat × zM)} (h : kcS A KC KS q M J n p a b c) (h5 : J 0 5 = nI d) (hN : kcN A M J S R a b c) (hd : d < 6) (hk : k = 1 ∨ k = 5 ∨ k = 2 ∨ k = 4) (hpn : p < n) (hnm : ¬ (65 ≤ (cx J n p).toInt ∧ (cx J n p).toInt ≤ 90)) (hC : ∀ N, FC_kindOf N (cx J n p) = some (nI k)) (hM : ∀ N, FM_begin N J = FM_begin_110 N (nI k) J) : kRes A KC KS q n d M J p a b c S R (fun N => FC_readUntagged N KC KS (rec N) (A + 2) (nI d) M) := by
  obtain ⟨x, M8, g1, g2, g3⟩ := kc_up (rec := rec) h h5 hd (by unfold isK; omega) hpn hnm hC hM
  obtain ⟨k1, k2, k3, k4, k5, k6⟩ := kc_7 h
  have g1' := g1
  obtain ⟨m1, m2, m3, m4, ⟨n1, n2, n3, n4, n5⟩, m6, m7, m8, ⟨j4, j8, j10, j11, j9, j5⟩, m10, ma, mb, mc⟩ := g1
  have ne : ∀ m, m < 100 → m ≠ k → ¬ nI k = nI m := fun m hm hmk => by rw [nI_eq (by omega) (by omega)]; omega
  by_cases kb : k = 1 ∨ k = 5
  · left
    refine ⟨M8, _, x, c, ev_of (fun N => ?_), goW_b k6 (ev_of (fun N => ?_)), kGood_leaf hN m1 m8 m4 m3 (by omega) mb (leaf_dT (k := k) (ins_r S x) (ins_r R c) (by omega) n1 (by omega) n2 n4 (n3 7 (by omega) (by omega) (by omega)) j4 j9 j10 (by rw [n3 1 (by omega) (by omega) (by omega), j11]) (Or.inl j11)) hd (by rw [j5]; exact h5)⟩
    · dsimp only
      rw [g2, if_neg (show ¬ nI k = 6 from ne 6 (by omega) (by omega)), if_neg (show ¬ nI k = 9 from ne 9 (by omega) (by omega)), if_neg (show ¬ nI k = 7 from ne 7 (by omega) (by omega)), if_neg (show ¬ nI k = 2 from ne 2 (by omega) (by omega)), if_neg (show ¬ nI k = 4 from ne 4 (by omega) (by omega))]
    · rw [g3, if_neg (show ¬ nI k = 6 from ne 6 (by omega) (by omega)), if_neg (show ¬ nI k = 9 from ne 9 (by omega) (by omega))]
      have h4 := (kc_7 m1).2.2.2.2.2
      by_cases k1 : k = 1
      · rw [if_pos (by rw [k1]; rfl), b250_leaf (by omega) (by omega) h4]
      · rw [if_neg (show ¬ nI k = 1 from ne 1 (by omega) (by omega)), if_pos (by rw [kb.resolve_left k1]; rfl), b250_leaf (by omega) (by omega) h4]
  · have k24 : k = 2 ∨ k = 4 := by omega
    have hC2 : ∀ N, FC_readUntagged N KC KS (rec N) (A + 2) (nI d) M = qb (FC_readBounds N KC KS (A + 2) (some x) M8) fun v2 M3 => if (bI v2) = 0 then some (none, M3) else some (some x, M3) := by
      intro N
      rw [g2, if_neg (show ¬ nI k = 6 from ne 6 (by omega) (by omega)), if_neg (show ¬ nI k = 9 from ne 9 (by omega) (by omega)), if_neg (show ¬ nI k = 7 from ne 7 (by omega) (by omega))]
      by_cases k2 : k = 2
      · rw [if_pos (by rw [k2]; rfl)]
      · rw [if_neg (show ¬ nI k = 2 from ne 2 (by omega) (by omega)), if_pos (by rw [k24.resolve_left k2]; rfl)]
    have hM2 : ∀ N, FM_begin N J = qb (FM_look N (aJ (jP J (p + 1)) c k)) fun v4 J5 => if v4 = 40 then (if nI k = 2 then FM_begin_247 N (nI k) (nI c) (nI c) 1 J5 else FM_begin_247 N (nI k) (nI c) (nI c) 0 J5) else FM_begin_250 N (nI k) (nI c) J5 := by
      intro N
      rw [g3, if_neg (show ¬ nI k = 6 from ne 6 (by omega) (by omega)), if_neg (show ¬ nI k = 9 from ne 9 (by omega) (by omega)), if_neg (show ¬ nI k = 1 from ne 1 (by omega) (by omega)), if_neg (show ¬ nI k = 5 from ne 5 (by omega) (by omega))]
    rcases kc_bnd h g1' (by omega) with ⟨M9, J9, p9, b1, b2, b3, b4, b5, b6, b7, b8, b9, b10, b11, b12, b13, b14, b15, b16, b17, b18⟩ | ⟨M9, J9, b1, b2, b3⟩
    · left
      refine ⟨M9, J9, x, c, ev_mono b3 (fun N hN => ?_), goW_b k6 (ev_mono b4 (fun N hN => ?_)), kGood_leaf hN b2 b5 b6 m3 (by omega) mb (leaf_dT (ins_r S x) (ins_r R c) (by omega) b7 (by omega) b8 b9 b10 b12 b15 b14 b17 (dT_bnd k24 b18)) hd (by rw [b16]; exact h5)⟩
      · dsimp only
        rw [hC2, hN, qb_some, if_neg (by decide)]
      · rw [hM2, hN, b250_leaf (by omega) (by omega) (kc_7 b2).2.2.2.2.2]
    · right
      refine ⟨M9, J9, ev_mono b2 (fun N hN => ?_), goW_b k6 (ev_mono b3 (fun N hN => ?_)), b1⟩
      · dsimp only
        rw [hC2, hN, qb_some, if_pos (by decide)]
      · rw [hM2, hN]
/-- the reference opens a node -/
def pJu (J : zJ) (d t : Nat) : zJ := zu (zu J 2 d (nI t)) 0 5 (nI (d + 1))
theorem eM_push {J : zJ} {d t : Nat} (h5 : J 0 5 = nI d) (hd : d < 150) (N : Nat) : FM_push N (nI t) J = some (-1, pJu J d t) := by
  unfold FM_push
  rw [h5, qk_t (qi_nI hd (by omega)), nI_clamp (by omega)]
  simp only
  rw [zu_ne _ _ _ (by omega), h5, nI_add1]
  rfl
theorem pJu_o {J : zJ} {d t c k : Nat} (h1 : ¬ (c = 2 ∧ k = d)) (h2 : ¬ (c = 0 ∧ k = 5)) : pJu J d t c k = J c k := by
  unfold pJu
  rw [zu_at, if_neg h2, zu_at, if_neg h1]
theorem pJu_v {J : zJ} {d t : Nat} : pJu J d t 2 d = nI t ∧ pJu J d t 0 5 = nI (d + 1) := by
  unfold pJu
  exact ⟨by rw [zu_ne _ _ _ (by omega), zu_self], zu_self _ _ _ _⟩
theorem kJ_u (J : zJ) (d t : Nat) : kJ J (pJu J d t) := fun c k h1 h2 => pJu_o (by omega) (by omega)
theorem kcS_u {A KC KS q n p a b c d t : Nat} {M : zM} {J : zJ} (h : kcS A KC KS q M J n p a b c) : kcS A KC KS q M (pJu J d t) n p a b c := kcS_J h (kJ_u J d t) (pJu_o (by omega) (by omega)) (pJu_o (by omega) (by omega)) (pJu_o (by omega) (by omega))
theorem kF_u {A KC KS q n p a b c d t : Nat} {M : zM} {J : zJ} (h : kcS A KC KS q M J n p a b c) : kF A a b c d M J M (pJu J d t) := kF_c h (wMf_refl A M) (kJ_u J d t) (fun _ _ => rfl) rfl (fun u hu => ⟨fun k a b => pJu_o (by omega) (by omega), fun j hj k a b => pJu_o (by omega) (by omega)⟩) (fun k hk => pJu_o (by omega) (by omega)) (funext (fun k => pJu_o (by omega) (by omega)))
