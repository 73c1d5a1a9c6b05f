/-! THE REFERENCE writes strictly: all parts -/
def lfF (J : zJ) (i : Nat) : Prop := ∀ J', eK J J' → ∃ J2, Ev (fun N => FM_isLeft N (nI i) J' = some (false, J2)) ∧ uKp J' J2 0
/-- parts from i to j have been written, c are their bytes -/
def eR (J : zJ) (w i j : Nat) (c : List Nat) : Prop := ∃ J', Ev (fun N => ∀ F, qfix (FM_write_32 N 1) (F + (j - i)) (nI j + (-1), J) = qfix (FM_write_32 N 1) F (nI i + (-1), J')) ∧ eP J J' w c ∧ eK J J' ∧ J' 27 i = J' 0 29 ∧ (∀ k, j ≤ k → J' 27 k = J 27 k)
def eH (T J : zJ) (w i o : Nat) (blk : List Pt) (os : List Nat) : Prop := tyEq T J ∧ mH J i blk ∧ pBel J i blk ∧ mO J o os ∧ o + os.length ≤ 240 ∧ i + blk.length ≤ 100 ∧ J 27 (i + blk.length) = nI w ∧ J 0 29 = nI w ∧ w ≤ 4000
theorem eK_ty {T J J' : zJ} (h : eK J J') (hT : tyEq T J) : tyEq T J' := fun c k c1 c2 => by rw [h c k (by omega) (by omega) (by omega) (by omega) (by omega)]; exact hT c k c1 c2
theorem uKp_eK {J J' : zJ} (h : uKp J J' 0) : eK J J' := fun c k a b _ _ d => h c k a (by omega) (by omega)
theorem eK_lf {J J' : zJ} {i : Nat} (h : eK J J') (hl : lfF J i) : lfF J' i := fun J2 h2 => hl J2 (eK_trans h h2)
theorem eH_app {T J : zJ} {w i o : Nat} {b1 b2 : List Pt} {o1 o2 : List Nat} (h : eH T J w i o (b1 ++ b2) (o1 ++ o2)) : eH T J w (i + b1.length) (o + o1.length) b2 o2 ∧ mH J i b1 ∧ pBel J i b1 ∧ mO J o o1 ∧ o + o1.length ≤ 240 := by
  obtain ⟨h1, h2, h3, h4, h5, h6, h7, h8, h9⟩ := h
  rw [List.length_append] at h5 h6 h7
  refine ⟨⟨h1, fun k P hP => ?_, fun k P hP => ?_, fun k b hb => ?_, by omega, by omega, by rw [Nat.add_assoc]; exact h7, h8, h9⟩, fun k P hP => ?_, fun k P hP => ?_, fun k b hb => ?_, by omega⟩
  · have := h2 (b1.length + k) P (by rw [List.getElem?_append_right (by omega), Nat.add_sub_cancel_left]; exact hP)
    rw [← Nat.add_assoc] at this
    exact this
  · have := h3 (b1.length + k) P (by rw [List.getElem?_append_right (by omega), Nat.add_sub_cancel_left]; exact hP)
    rw [← Nat.add_assoc] at this
    exact this
  · have := h4 (o1.length + k) b (by rw [List.getElem?_append_right (by omega), Nat.add_sub_cancel_left]; exact hb)
    rw [← Nat.add_assoc] at this
    exact this
  · exact h2 k P (by rw [List.getElem?_append_left (List.getElem?_eq_some_iff.mp hP).1]; exact hP)
  · exact h3 k P (by rw [List.getElem?_append_left (List.getElem?_eq_some_iff.mp hP).1]; exact hP)
  · exact h4 k b (by rw [List.getElem?_append_left (List.getElem?_eq_some_iff.mp hb).1]; exact hb)
theorem mH_eK {J J' : zJ} {i : Nat} {b : List Pt} (hk : eK J J') (h : mH J i b) : mH J' i b := fun k P hP => by
  rw [hk 21 _ (by omega) (by omega) (by omega) (by omega) (by omega), hk 22 _ (by omega) (by omega) (by omega) (by omega) (by omega), hk 23 _ (by omega) (by omega) (by omega) (by omega) (by omega), hk 24 _ (by omega) (by omega) (by omega) (by omega) (by omega), hk 25 _ (by omega) (by omega) (by omega) (by omega) (by omega)]
  exact h k P hP
theorem pBel_eK {J J' : zJ} {i : Nat} {b : List Pt} (hk : eK J J') (h : pBel J i b) : pBel J' i b := fun k P hP => by
  rw [hk 26 _ (by omega) (by omega) (by omega) (by omega) (by omega)]; exact h k P hP
theorem mO_eK {J J' : zJ} {o : Nat} {l : List Nat} (hk : eK J J') (h : mO J o l) : mO J' o l := fun k b hb => by
  rw [hk 28 _ (by omega) (by omega) (by omega) (by omega) (by omega)]; exact h k b hb
/-- first the later parts, then the earlier ones -/
theorem eR_two {T J : zJ} {w i o : Nat} {b1 b2 : List Pt} {o1 o2 c1 c2 : List Nat} (h : eH T J w i o (b1 ++ b2) (o1 ++ o2)) (hle : c1.length + c2.length ≤ w) (h2 : eR J w (i + b1.length) (i + b1.length + b2.length) c2) (h1 : ∀ J1, eK J J1 → eH T J1 (w - c2.length) i o b1 o1 → c1.length ≤ w - c2.length → eR J1 (w - c2.length) i (i + b1.length) c1) : eR J w i (i + (b1 ++ b2).length) (c1 ++ c2) := by
  obtain ⟨g1, g2, g3, g4, g5⟩ := eH_app h
  obtain ⟨J1, a1, a2, a3, a4, a5⟩ := h2
  have hH1 : eH T J1 (w - c2.length) i o b1 o1 := ⟨eK_ty a3 h.1, mH_eK a3 g2, pBel_eK a3 g3, mO_eK a3 g4, g5, by have := g1.2.2.2.2.2.1; omega, by rw [a4]; exact a2.2.1, a2.2.1, by have := h.2.2.2.2.2.2.2.2; omega⟩
  obtain ⟨J2, b1', b2', b3', b4', b5'⟩ := h1 J1 a3 hH1 (by omega)
  refine ⟨J2, ev_mono (ev_and a1 b1') (fun N hN F => ?_), eP_trans a2 b2', eK_trans a3 b3', b4', fun k hk => ?_⟩
  · have q1 := hN.1 (F + b1.length)
    have q2 := hN.2 F
    rw [show i + b1.length + b2.length - (i + b1.length) = b2.length by omega] at q1
    rw [show i + b1.length - i = b1.length by omega] at q2
    rw [List.length_append, show i + (b1.length + b2.length) - i = b1.length + b2.length by omega, ← Nat.add_assoc, ← Nat.add_assoc, q1, q2]
  · rw [List.length_append] at hk
    rw [b5' k (by omega), a5 k (by omega)]
theorem eR_nil {J : zJ} {w i : Nat} (h29 : J 0 29 = nI w) (h27 : J 27 i = nI w) : eR J w i i [] :=
  ⟨J, ev_of (fun N F => by rw [Nat.sub_self]; rfl), eP_nil h29, eK_refl J, by rw [h27, h29], fun _ _ => rfl⟩
/-- a part that is left out -/
theorem eR_left {J : zJ} {w i : Nat} (h29 : J 0 29 = nI w) (hi : i < 100) (hl : ∃ J2, Ev (fun N => FM_isLeft N (nI i) J = some (true, J2)) ∧ uKp J J2 0) : eR J w i (i + 1) [] := by
  obtain ⟨J2, a1, a2⟩ := hl
  have h29' : J2 0 29 = nI w := by rw [a2 0 29 (by omega) (by omega) (by omega)]; exact h29
  refine ⟨zu J2 27 i (nI w), ev_mono a1 (fun N hN F => ?_), ⟨Nat.zero_le _, ?_, fun k b hk => (by simp at hk), fun k _ => ?_⟩, fun c k c1 c2 c3 c4 c5 => ?_, ?_, fun k hk => ?_⟩
  · rw [Nat.add_sub_cancel_left, qfix_s, nI_dec]
    simp only [FM_write_32]
    rw [if_neg (by rw [show (0 : Int32) = nI 0 from rfl, nI_ltI (by omega) (by omega)]; omega), if_pos trivial, hN, qb_some, bI_t, if_neg (by decide)]
    unfold FM_write_54
    rw [qk_t (qi_nI (by omega) (by omega)), nI_clamp (by omega), h29']
  · rw [zu_at, if_neg (by omega), h29']; rfl
  · rw [zu_at, if_neg (by omega), a2 20 k (by omega) (by omega) (by omega)]
  · rw [zu_at, if_neg (by omega), a2 c k c1 (by omega) (by omega)]
  · rw [zu_self, zu_at, if_neg (by omega), h29']
  · rw [zu_at, if_neg (by omega), a2 27 k (by omega) (by omega) (by omega)]
/-- a part that is written, behind those in it -/
theorem eR_head {T J : zJ} {w i o t0 n0 : Nat} {P : Pt} {b1 : List Pt} {os kc : List Nat} (h : eH T J w i o (P :: b1) os) (hw0 : wfT T n0 t0) (hn0 : n0 ≤ 6) (hP : pT P = t0) (hPf : pF P = o) (hPm : pM P = b1.length + 1) (h4 : T 4 (bas T n0 t0) = 4 → pV P = nI os.length) (h1 : T 4 (bas T n0 t0) = 1 → pV P = 0 ∨ pV P = 1) (hlf : lfF J i) (hk : eR J w (i + 1) (i + 1 + b1.length) kc) (hle : (wrapL (tls T n0 t0 none) (ownB (T 4 (bas T n0 t0)) (pV P) os ++ kc)).length ≤ w) : eR J w i (i + (b1.length + 1)) (wrapL (tls T n0 t0 none) (ownB (T 4 (bas T n0 t0)) (pV P) os ++ kc)) := by
  obtain ⟨g1, g2, g3, g4, g5, g6, g7, g8, g9⟩ := h
  obtain ⟨J1, a1, a2, a3, a4, a5⟩ := hk
  obtain ⟨J2, b1', b2'⟩ := hlf J1 a3
  have hz : ∀ c k, c ≠ 16 → c ≠ 17 → ¬ (c = 0 ∧ (k = 23 ∨ k = 24)) → J2 c k = J1 c k := fun c k a b d => b2' c k a (by omega) d
  have hk2 : eK J J2 := eK_trans a3 (uKp_eK b2')
  have hp2 : eP J J2 w kc := ⟨a2.1, by rw [hz 0 29 (by omega) (by omega) (by omega)]; exact a2.2.1, fun k b hk => by rw [hz 20 _ (by omega) (by omega) (by omega)]; exact a2.2.2.1 k b hk, fun k hk => by rw [hz 20 _ (by omega) (by omega) (by omega)]; exact a2.2.2.2 k hk⟩
  obtain ⟨m1, m2, m3, m4, m5⟩ := mH_eK hk2 g2 0 P rfl
  have m6 := pBel_eK hk2 g3 0 P rfl
  simp only [List.length_cons] at g6 g7
  obtain ⟨J3, c1, c2, c3, c4⟩ := m_encode (J0 := J) (J := J2) (w := w) (i := i) (sz := b1.length + 1) (o := o) (t0 := t0) (n0 := n0) (v := pV P) (os := os) (kc := kc) (eK_ty hk2 g1) hw0 hn0 (by omega) (by omega) (by rw [← hP]; exact m1) m2 (by rw [← hPf]; exact m5) (by rw [← hPm]; exact m6) (by rw [hz 27 _ (by omega) (by omega) (by omega), a5 _ (by omega)]; exact g7) (mO_eK hk2 g4) g5 h4 h1 g9 hp2 hle
  refine ⟨zu J3 27 i (J3 0 29), ev_mono (ev_and a1 (ev_and b1' c1)) (fun N hN F => ?_), ⟨c2.1, ?_, fun k b hk => ?_, fun k hk => ?_⟩, ?_, ?_, fun k hk => ?_⟩
  · have q1 := hN.1 (F + 1)
    rw [show i + 1 + b1.length - (i + 1) = b1.length by omega] at q1
    rw [show i + (b1.length + 1) - i = b1.length + 1 by omega, show F + (b1.length + 1) = F + 1 + b1.length by omega, show i + (b1.length + 1) = i + 1 + b1.length by omega, q1, qfix_s, nI_dec]
    simp only [FM_write_32]
    rw [if_neg (by rw [show (0 : Int32) = nI 0 from rfl, nI_ltI (by omega) (by omega)]; omega), if_pos trivial, hN.2.1, qb_some, bI_f, if_pos rfl, hN.2.2, qb_some]
    unfold FM_write_54
    rw [qk_t (qi_nI (by omega) (by omega)), nI_clamp (by omega)]
  · rw [zu_at, if_neg (by omega)]; exact c2.2.1
  · rw [zu_at, if_neg (by omega)]; exact c2.2.2.1 k b hk
  · rw [zu_at, if_neg (by omega)]; exact c2.2.2.2 k hk
  · refine eK_trans hk2 (eK_trans c3 (fun c k d1 d2 d3 d4 d5 => ?_))
    rw [zu_at, if_neg (by omega)]
  · rw [zu_self, zu_at, if_neg (by omega)]
  · rw [zu_at, if_neg (by omega), c4, hz 27 k (by omega) (by omega) (by omega), a5 k (by omega)]
def eB (T : zJ) (n : Nat) : Prop := ∀ t par wh i o blk os e pk J w, wfT T n t → n ≤ 6 → WV T n t t none par wh i o blk os e pk → eH T J w i o blk os → e.length ≤ w → lfF J i → eR J w i (i + blk.length) e
theorem hd_of {T : zJ} {m b t0 : Nat} {par : Int32} {wh i o : Nat} {blk : List Pt} {os c : List Nat} {pk : PK} (h : WB T m b t0 par wh i o blk os c pk) : ∃ P l, blk = P :: l ∧ pA P = par ∧ pW P = wh ∧ pT P = t0 ∧ pB P = b := by
  rcases h with ⟨_, k, b1, k1, _, h, _⟩ | ⟨_, num, sh, ma, b1, k1, h, _⟩ | ⟨_, q, b1, k1, _, h, _⟩ | ⟨v, h, _⟩
  · exact ⟨_, _, h, rfl, rfl, rfl, rfl⟩
  · exact ⟨_, _, h, rfl, rfl, rfl, rfl⟩
  · exact ⟨_, _, h, rfl, rfl, rfl, rfl⟩
  · exact ⟨_, _, h, rfl, rfl, rfl, rfl⟩
theorem wv_hd {T : zJ} {n t t0 : Nat} {dg : Option Nat} {par : Int32} {wh i o : Nat} {blk : List Pt} {os e : List Nat} {pk : PK} (hw : wfT T n t) (h : WV T n t t0 dg par wh i o blk os e pk) : ∃ P l, blk = P :: l ∧ pA P = par ∧ pW P = wh ∧ pT P = t0 ∧ pB P = bas T n t := by
  obtain ⟨m, c, _, _, _, hb⟩ := wv_base n t t0 dg par wh i o blk os e pk hw h
  exact hd_of hb
/-- a child of a part that is no sequence, or is shown -/
theorem lf_child {T J : zJ} {h t0 n0 b i wh : Nat} {P : Pt} {l : List Pt} (hT : tyEq T J) (hh : h < 100) (hi : i < 100) (h21 : J 21 h = nI t0) (hw0 : wfT T n0 t0) (hn0 : n0 ≤ 6) (hb : bas T 6 t0 = b) (hm : mH J i (P :: l)) (hA : pA P = nI h) (hW : pW P = wh) (hwh : T 4 b = 6 → wh < 6) (hnot : ¬ (T 4 b = 6 ∧ T 14 (6 * b + wh) = 2 ∧ T 15 (6 * b + wh) = pV P)) : lfF J i := by
  intro J' hk
  obtain ⟨m1, m2, m3, m4, m5⟩ := mH_eK hk hm 0 P rfl
  obtain ⟨J2, a1, a2⟩ := m_left (T := T) (J := J') (i := i) (h := h) (t0 := t0) (n0 := n0) (wh := wh) (b := b) (eK_ty hk hT) hi hh (by rw [← hA]; exact m4) (by rw [hk 21 h (by omega) (by omega) (by omega) (by omega) (by omega)]; exact h21) hw0 hn0 hb (by rw [← hW]; exact m3) hwh
  refine ⟨J2, ?_, a2⟩
  have e : decide (T 4 b = 6 ∧ T 14 (6 * b + wh) = 2 ∧ T 15 (6 * b + wh) = J' 22 i) = false := by
    refine decide_eq_false (fun q => hnot ⟨q.1, q.2.1, ?_⟩)
    have m2 : J' 22 i = pV P := m2
    rw [← m2]
    exact q.2.2
  rw [e] at a1
  exact a1
theorem eR_comps {T : zJ} {m b h t0 n0 : Nat} (hB : eB T m) (hm6 : m ≤ 6) (hk6 : T 4 b = 6) (hw0 : wfT T n0 t0) (hn0 : n0 ≤ 6) (hb : bas T 6 t0 = b) (hh : h < 100) :
    ∀ q j i o bl os c ma pk num sh J w, WVC T (WV T m) b (nI h) q j i o bl os c ma pk num sh → (∀ j', j' < j + q → wfT T m (chd T (6 * b + j'))) → j + q ≤ 6 → eH T J w i o bl os → c.length ≤ w → J 21 h = nI t0 → eR J w i (i + bl.length) c := by
  intro q
  induction q with
  | zero =>
    intro j i o bl os c ma pk num sh J w hv _ _ hH _ _
    obtain ⟨rfl, rfl, rfl, _⟩ := hv
    exact eR_nil hH.2.2.2.2.2.2.2.1 hH.2.2.2.2.2.2.1
  | succ q ih =>
    intro j i o bl os c ma pk num sh J w hv hwf hj hH hle h21
    have hwf' : ∀ j', j' < j + 1 + q → wfT T m (chd T (6 * b + j')) := fun j' hj' => hwf j' (by omega)
    unfold WVC at hv
    rcases hv with ⟨_, ma', _, hv⟩ | ⟨f2, b', ma', num', hbb, _, _, hv⟩ | ⟨b1, os1, e1, k1, b', os', c', ma', pk', num', sh', hv1, hnl, hbb, hos, hc, _, _, _, _, hv⟩
    · exact ih _ _ _ _ _ _ _ _ _ _ _ _ hv hwf' (by omega) hH hle h21
    · subst hbb
      have hH' : eH T J w i o ([mkP (chd T (6 * b + j)) (bas T 6 (chd T (6 * b + j))) (T 15 (6 * b + j)) j (nI h) o 0 1] ++ b') ([] ++ os) := hH
      have := eR_two (c1 := []) (c2 := c) hH' (by simpa using hle) (ih _ _ _ _ _ _ _ _ _ _ _ _ hv hwf' (by omega) (eH_app hH').1 hle h21) (fun J1 hk hH1 _ => ?_)
      · exact this
      · obtain ⟨z1, z2, z3, z4, z5, z6, z7, z8, z9⟩ := hH1
        refine eR_left z8 (by simp at z6; omega) ?_
        obtain ⟨m1, m2, m3, m4, m5⟩ := z2 0 _ rfl
        have m2 : J1 22 i = T 15 (6 * b + j) := m2
        obtain ⟨J2, a1, a2⟩ := m_left (T := T) (J := J1) (i := i) (h := h) (t0 := t0) (n0 := n0) (wh := j) (b := b) z1 (by simp at z6; omega) hh m4 (by rw [hk 21 h (by omega) (by omega) (by omega) (by omega) (by omega)]; exact h21) hw0 hn0 hb m3 (fun _ => by omega)
        refine ⟨J2, ?_, a2⟩
        rw [decide_eq_true ⟨hk6, f2, m2.symm⟩] at a1
        exact a1
    · subst hbb hos hc
      rw [List.length_append] at hle
      refine eR_two hH hle (ih _ _ _ _ _ _ _ _ _ _ _ _ hv hwf' (by omega) (eH_app hH).1 (by omega) h21) (fun J1 hk hH1 hle1 => ?_)
      have hwu := hwf j (by omega)
      refine hB _ _ _ _ _ _ _ _ _ _ _ hwu hm6 hv1 hH1 hle1 ?_
      obtain ⟨P, l, p1, p2, p3, p4, p5⟩ := wv_hd hwu hv1
      have hb6 := hH1.2.2.2.2.2.1
      rw [p1, List.length_cons] at hb6
      refine lf_child (t0 := t0) (n0 := n0) (b := b) hH1.1 hh (by omega) (by rw [hk 21 h (by omega) (by omega) (by omega) (by omega) (by omega)]; exact h21) hw0 hn0 hb (by rw [← p1]; exact hH1.2.1) p2 p3 (fun _ => by omega) (fun z => hnl ⟨z.2.1, ?_⟩)
      rw [p1]
      exact z.2.2.symm
theorem eR_items {T : zJ} {m b u h t0 n0 : Nat} (hB : eB T m) (hm6 : m ≤ 6) (hk6 : T 4 b ≠ 6) (hw0 : wfT T n0 t0) (hn0 : n0 ≤ 6) (hb : bas T 6 t0 = b) (hh : h < 100) (hwu : wfT T m u) :
    ∀ q k i o bl os c pk J w, WVL (WV T m) u (nI h) q k i o bl os c pk → eH T J w i o bl os → c.length ≤ w → J 21 h = nI t0 → eR J w i (i + bl.length) c := by
  intro q
  induction q with
  | zero =>
    intro k i o bl os c pk J w hv hH _ _
    obtain ⟨rfl, rfl, rfl, _⟩ := hv
    exact eR_nil hH.2.2.2.2.2.2.2.1 hH.2.2.2.2.2.2.1
  | succ q ih =>
    intro k i o bl os c pk J w hv hH hle h21
    obtain ⟨b1, os1, e1, k1, b', os', c', pk', hv1, rfl, rfl, rfl, _, hv⟩ := hv
    rw [List.length_append] at hle
    refine eR_two hH hle (ih _ _ _ _ _ _ _ _ _ hv (eH_app hH).1 (by omega) h21) (fun J1 hk hH1 hle1 => ?_)
    refine hB _ _ _ _ _ _ _ _ _ _ _ hwu hm6 hv1 hH1 hle1 ?_
    obtain ⟨P, l, p1, p2, p3, p4, p5⟩ := wv_hd hwu hv1
    have hb6 := hH1.2.2.2.2.2.1
    rw [p1, List.length_cons] at hb6
    exact lf_child (t0 := t0) (n0 := n0) (b := b) hH1.1 hh (by omega) (by rw [hk 21 h (by omega) (by omega) (by omega) (by omega) (by omega)]; exact h21) hw0 hn0 hb (by rw [← p1]; exact hH1.2.1) p2 p3 (fun z => absurd z hk6) (fun z => hk6 z.1)
theorem eB_all {T : zJ} : ∀ n, eB T n := by
  intro n
  induction n using Nat.strongRecOn with
  | ind n ih =>
    intro t par wh i o blk os e pk J w hw hn6 hv hH hle hlf
    obtain ⟨m, c, hm, hwb, he, hb⟩ := wv_base n t t none par wh i o blk os e pk hw hv
    have hB := ih m (by omega)
    have hbas : bas T 6 t = bas T n t := (bas_wf n 6 t hw hn6).1
    have hcle : c.length ≤ w := by
      have := wrapL_len c (tls T n t none) (tls T n t none).length
      rw [List.drop_length] at this
      rw [he] at hle
      exact Nat.le_trans this hle
    have hH0 := hH
    obtain ⟨g1, g2, g3, g4, g5, g6, g7, g8, g9⟩ := hH0
    generalize hbb : bas T n t = b at *
    rcases hb with ⟨k9, k, b1, k1, h1, h2, h3, _⟩ | ⟨k6, num, sh, ma, b1, k1, h2, h3, _⟩ | ⟨k7, q, b1, k1, h1, h2, h3, _⟩ | ⟨v, h2, h3⟩
    · subst h2
      have hown : ownB (T 4 b) (nI k) os = [] := by unfold ownB; rw [k9]; rfl
      have g21 : J 21 i = nI t := (g2 0 _ rfl).1
      simp only [List.length_cons] at g6
      have hkid : eR J w (i + 1) (i + 1 + b1.length) c := by
        have hH1 := (eH_app (b1 := [mkP t b (nI k) wh par o 0 (b1.length + 1)]) (o1 := []) hH).1
        have hwc := ((hwb.2.2.2.2.2.2.2.2.1 (Or.inr k9)).2.2 k h1).2
        refine hB _ _ _ _ _ _ _ _ _ _ _ hwc (by omega) h3 hH1 hcle ?_
        obtain ⟨P, l, p1, p2, p3, p4, p5⟩ := wv_hd hwc h3
        have : 1 ≤ b1.length := by rw [p1]; simp
        exact lf_child (t0 := t) (n0 := n) (b := b) g1 (by omega) (by omega) g21 hw hn6 hbas (by rw [← p1]; exact hH1.2.1) p2 p3 (fun z => by rw [k9] at z; exact absurd z (by decide)) (fun z => by have := z.1; rw [k9] at this; exact absurd this (by decide))
      have := eR_head (kc := c) hH hw hn6 rfl rfl rfl (fun z => by rw [hbb, k9] at z; exact absurd z (by decide)) (fun z => by rw [hbb, k9] at z; exact absurd z (by decide)) hlf hkid (by rw [hbb]; show (wrapL _ (ownB _ (nI k) os ++ c)).length ≤ w; rw [hown, List.nil_append, ← he]; exact hle)
      rw [hbb] at this
      have this : eR J w i (i + (b1.length + 1)) (wrapL (tls T n t none) (ownB (T 4 b) (nI k) os ++ c)) := this
      rw [hown, List.nil_append, ← he] at this
      exact this
    · subst h2
      have hown : ownB (T 4 b) (nI num) os = [] := by unfold ownB; rw [k6]; rfl
      have g21 : J 21 i = nI t := (g2 0 _ rfl).1
      simp only [List.length_cons] at g6
      obtain ⟨w1, w2, w3⟩ := hwb.2.2.2.2.2.2.2.2.1 (Or.inl k6)
      have hkid : eR J w (i + 1) (i + 1 + b1.length) c := by
        have hH1 := (eH_app (b1 := [mkP t b (nI num) wh par o sh (b1.length + 1)]) (o1 := []) hH).1
        exact eR_comps hB (by omega) k6 hw hn6 hbas (by omega) _ _ _ _ _ _ _ _ _ _ _ _ _ h3 (fun j' hj' => (w3 j' (by omega)).2) (by omega) hH1 hcle g21
      have := eR_head (kc := c) hH hw hn6 rfl rfl rfl (fun z => by rw [hbb, k6] at z; exact absurd z (by decide)) (fun z => by rw [hbb, k6] at z; exact absurd z (by decide)) hlf hkid (by rw [hbb]; show (wrapL _ (ownB _ (nI num) os ++ c)).length ≤ w; rw [hown, List.nil_append, ← he]; exact hle)
      rw [hbb] at this
      have this : eR J w i (i + (b1.length + 1)) (wrapL (tls T n t none) (ownB (T 4 b) (nI num) os ++ c)) := this
      rw [hown, List.nil_append, ← he] at this
      exact this
    · subst h2
      have hown : ownB (T 4 b) (nI q) os = [] := by unfold ownB; rw [k7]; rfl
      have g21 : J 21 i = nI t := (g2 0 _ rfl).1
      simp only [List.length_cons] at g6
      have hkid : eR J w (i + 1) (i + 1 + b1.length) c := by
        have hH1 := (eH_app (b1 := [mkP t b (nI q) wh par o 0 (b1.length + 1)]) (o1 := []) hH).1
        exact eR_items hB (by omega) (by rw [k7]; decide) hw hn6 hbas (by omega) (hwb.2.2.2.2.2.2.1 k7).2 _ _ _ _ _ _ _ _ _ _ h3 hH1 hcle g21
      have := eR_head (kc := c) hH hw hn6 rfl rfl rfl (fun z => by rw [hbb, k7] at z; exact absurd z (by decide)) (fun z => by rw [hbb, k7] at z; exact absurd z (by decide)) hlf hkid (by rw [hbb]; show (wrapL _ (ownB _ (nI q) os ++ c)).length ≤ w; rw [hown, List.nil_append, ← he]; exact hle)
      rw [hbb] at this
      have this : eR J w i (i + (b1.length + 1)) (wrapL (tls T n t none) (ownB (T 4 b) (nI q) os ++ c)) := this
      rw [hown, List.nil_append, ← he] at this
      exact this
    · subst h2
      have hkid : eR J w (i + 1) (i + 1 + ([] : List Pt).length) [] := eR_nil g8 g7
      have hown : ownB (T 4 b) v os = c := by
        unfold ownB
        rcases h3 with ⟨z, _, _, z2, _⟩ | ⟨z, _, z2, _⟩ | ⟨z, _, _, _, z2, _⟩ | ⟨z, _, _, z2, _⟩ <;> rw [z, z2] <;> rfl
      have h4 : T 4 (bas T n t) = 4 → v = nI os.length := by
        intro z
        rw [hbb] at z
        rcases h3 with ⟨y, _⟩ | ⟨y, _⟩ | ⟨y, y2, _⟩ | ⟨y, _⟩
        · rw [y] at z; exact absurd z (by decide)
        · rw [y] at z; exact absurd z (by decide)
        · exact y2
        · rw [y] at z; exact absurd z (by decide)
      have h1 : T 4 (bas T n t) = 1 → v = 0 ∨ v = 1 := by
        intro z
        rw [hbb] at z
        rcases h3 with ⟨y, y2, _⟩ | ⟨y, _⟩ | ⟨y, _⟩ | ⟨y, _⟩
        · exact y2
        · rw [y] at z; exact absurd z (by decide)
        · rw [y] at z; exact absurd z (by decide)
        · rw [y] at z; exact absurd z (by decide)
      have := eR_head (kc := []) hH hw hn6 rfl rfl rfl h4 h1 hlf hkid (by rw [hbb]; show (wrapL _ (ownB _ v os ++ [])).length ≤ w; rw [hown, List.append_nil, ← he]; exact hle)
      rw [hbb] at this
      have this : eR J w i (i + (0 + 1)) (wrapL (tls T n t none) (ownB (T 4 b) v os ++ [])) := this
      rw [hown, List.append_nil, ← he] at this
      exact this
