/-! THE REFERENCE writes packed bits: numbers, marks -/
theorem wrK_refl (J : zJ) : wrK J J := fun _ _ _ _ _ _ _ => rfl
theorem wrK_trans {J J1 J2 : zJ} (h1 : wrK J J1) (h2 : wrK J1 J2) : wrK J J2 := fun c k a b d e f => (h2 c k a b d e f).trans (h1 c k a b d e f)
theorem uKp_wrK {J J' : zJ} (h : uKp J J' 0) : wrK J J' := fun c k a b _ _ d => h c k a (by omega) (by omega)
theorem rK_wrK {J J' : zJ} (h : rK J J') : wrK J J' := fun c k _ _ a _ d => h c k a (by omega)
theorem wrK_ty {T J J' : zJ} (h : wrK J J') (hT : tyEq T J) : tyEq T J' := fun c k c1 c2 => by rw [h c k (by omega) (by omega) (by omega) (by omega) (by omega)]; exact hT c k c1 c2
theorem wrK_c {J J' : zJ} (h : wrK J J') {c : Nat} (k : Nat) (hc : 1 ≤ c ∧ c ≠ 16 ∧ c ≠ 17 ∧ c ≠ 20 ∧ c ≠ 27) : J' c k = J c k := h c k (by omega) (by omega) (by omega) (by omega) (by omega)
theorem mH_wrK {J J' : zJ} {i : Nat} {b : List Pt} (hk : wrK J J') (h : mH J i b) : mH J' i b := fun k P hP => by
  rw [wrK_c hk (c := 21) _ (by omega), wrK_c hk (c := 22) _ (by omega), wrK_c hk (c := 23) _ (by omega), wrK_c hk (c := 24) _ (by omega), wrK_c hk (c := 25) _ (by omega)]
  exact h k P hP
theorem pBel_wrK {J J' : zJ} {i : Nat} {b : List Pt} (hk : wrK J J') (h : pBel J i b) : pBel J' i b := fun k P hP => by
  rw [wrK_c hk (c := 26) _ (by omega)]; exact h k P hP
theorem mO_wrK {J J' : zJ} {o : Nat} {l : List Nat} (hk : wrK J J') (h : mO J o l) : mO J' o l := fun k b hb => by
  rw [wrK_c hk (c := 28) _ (by omega)]; exact h k b hb
theorem rW_uKp {J J' : zJ} {bs : List Bool} (hk : uKp J J' 0) (h : rW J bs) : rW J' bs := ⟨by rw [hk 0 30 (by omega) (by omega) (by omega)]; exact h.1, fun b hb => by rw [hk 20 b (by omega) (by omega) (by omega)]; exact h.2 b hb⟩
theorem ppad_len (p : Nat) : (ppad p).length ≤ 7 := by unfold ppad; rw [List.length_replicate]; omega
theorem pnum_len (v : Int32) (h p : Nat) : (pnum v h p).length ≤ 23 := by
  have hw := wid_le h
  have hp := ppad_len p
  unfold pnum
  split
  · unfold pcat pbits
    rw [List.length_append, ibits_len]
    omega
  · unfold pbits
    rw [ibits_len]
    omega
theorem r_num {J : zJ} {bs : List Bool} {lo hi v : Int32} {h : Nat} (hq : rW J bs) (hh : h < 65536) (hd : hi - lo = nI h) (hl : bs.length ≤ 29000) : ∃ J', Ev (fun N => FM_bringOf N v lo hi J = some ((), J')) ∧ rW J' (bs ++ pnum (v - lo) h bs.length) ∧ rK J J' := by
  have hw := wid_le h
  have h17 : ∀ (J : zJ) (bs : List Bool), rW J bs → bs.length ≤ 29008 → ∃ J', Ev (fun N => FM_bringOf_17 N v lo (nI h) J = some ((), J')) ∧ rW J' (bs ++ ibits (v - lo) (wid h)) ∧ rK J J' := by
    intro J bs hq hl
    obtain ⟨J', a1, a2, a3⟩ := r_bring hq (v - lo) (wid h) (by omega) (by omega)
    by_cases c : 255 ≤ h
    · refine ⟨J', ev_mono a1 (fun N hN => ?_), a2, a3⟩
      unfold FM_bringOf_17 FM_bringOf_52
      rw [show (255 : Int32) = nI 255 from rfl, if_pos (by rw [nI_leI (by omega) (by omega)]; exact c)]
      by_cases c2 : h = 255
      · subst c2
        rw [if_pos rfl]
        have hN : FM_bring N (v - lo) 8 J = some ((), J') := hN
        rw [hN, qb_some]
      · rw [if_neg (by rw [nI_eq (by omega) (by omega)]; exact c2)]
        have hw16 : wid h = 16 := by unfold wid; (repeat' rw [if_neg (by omega)])
        rw [hw16] at hN
        have hN : FM_bring N (v - lo) 16 J = some ((), J') := hN
        rw [hN, qb_some]
    · refine ⟨J', ev_mono (ev_and a1 (q_width (show h < 255 by omega))) (fun N hN => ?_), a2, a3⟩
      unfold FM_bringOf_17 FM_bringOf_52
      rw [show (255 : Int32) = nI 255 from rfl, if_neg (by rw [nI_leI (by omega) (by omega)]; exact c), hN.2, qc_some, hN.1, qb_some]
  unfold pnum
  by_cases c : 255 ≤ h
  · rw [if_pos c]
    obtain ⟨J1, a1, a2, a3⟩ := r_fill hq (by omega)
    have hp := ppad_len bs.length
    obtain ⟨J2, b1, b2, b3⟩ := h17 J1 _ a2 (by rw [List.length_append]; omega)
    refine ⟨J2, ev_mono b1 (fun N hN => ?_), ?_, rK_trans a3 b3⟩
    · unfold FM_bringOf
      simp only [hd]
      rw [show (254 : Int32) = nI 254 from rfl, if_neg (by rw [nI_leI (by omega) (by omega)]; omega), a1, qb_some, hN]
    · unfold pcat pbits
      rw [← List.append_assoc]
      exact b2
  · rw [if_neg c]
    obtain ⟨J2, b1, b2, b3⟩ := h17 J _ hq (by omega)
    refine ⟨J2, ev_mono b1 (fun N hN => ?_), b2, b3⟩
    unfold FM_bringOf
    simp only [hd]
    rw [show (254 : Int32) = nI 254 from rfl, if_pos (by rw [nI_leI (by omega) (by omega)]; omega), hN]
theorem r_count {T J : zJ} {n t : Nat} {bs : List Bool} {v : Int32} (hw : wfT T n t) (hT : tyEq T J) (hq : rW J bs) (hl : bs.length ≤ 28900) : ∃ J', Ev (fun N => FM_bringCount N v (nI t) J = some ((), J')) ∧ rW J' (bs ++ pcount T t v bs.length) ∧ rK J J' := by
  cases n with
  | zero => exact hw.elim
  | succ n =>
    have t160 := hw.1
    unfold pcount
    rcases hw.2.2.1 with h0 | h1
    · have n1 : ¬ T 11 t = 1 := by rw [h0]; decide
      rw [if_neg n1]
      obtain ⟨J1, a1, a2, a3⟩ := r_fill hq (by omega)
      have hp := ppad_len bs.length
      obtain ⟨J2, b1, b2, b3⟩ := r_bring a2 v 8 (by omega) (by rw [List.length_append]; omega)
      refine ⟨J2, ev_mono b1 (fun N hN => ?_), ?_, rK_trans a3 b3⟩
      · have hN : FM_bring N v 8 J1 = some ((), J2) := hN
        unfold FM_bringCount FM_bringCount_13
        rw [qk_t (qi_nI t160 (by omega)), nI_clamp (by omega), hT 11 t (by omega) (by omega), if_pos h0, a1, qb_some, qk_t (qi_nI t160 (by omega)), a3 11 t (by omega) (by omega), hT 11 t (by omega) (by omega), if_pos h0, hN, qb_some]
      · unfold pcat pbits
        rw [← List.append_assoc]
        exact b2
    · have n0 : ¬ T 11 t = 0 := by rw [h1]; decide
      rw [if_pos h1]
      obtain ⟨r1, r2⟩ := rng_I hw h1
      obtain ⟨J2, b1, b2, b3⟩ := r_num (v := v) hq r2 r1 (by omega)
      refine ⟨J2, ev_mono b1 (fun N hN => ?_), b2, b3⟩
      unfold FM_bringCount FM_bringCount_13
      simp only [qk_t (qi_nI t160 (show 160 < 2 ^ 31 by omega)), nI_clamp (show t < 2 ^ 31 by omega), hT 11 t (by omega) (by omega), if_neg n0, hT 5 t (by omega) (by omega), hT 6 t (by omega) (by omega)]
      rw [hN, qb_some]
theorem r_octs {i o : Nat} {os : List Nat} (hi : i < 100) (ho : o + os.length ≤ 240) : ∀ m k J bs, k + m = os.length → J 25 i = nI o → mO J o os → rW J bs → bs.length + 8 * m ≤ 30000 → ∃ J', Ev (fun N => ∀ F, m + 1 ≤ F → qfix (FM_packed_94 N (nI i) (nI os.length)) F (nI k, J) = some ((), J')) ∧ rW J' (bs ++ (os.drop k).flatMap (fun b => ibits (nI b) 8)) ∧ rK J J' := by
  intro m
  induction m with
  | zero =>
    intro k J bs hk h25 hO hq _
    refine ⟨J, ev_of (fun N F hF => ?_), by rw [List.drop_eq_nil_of_le (by omega)]; simpa using hq, rK_refl J⟩
    obtain ⟨F, rfl⟩ : ∃ g, F = g + 1 := ⟨F - 1, by omega⟩
    rw [qfix_s]
    simp only [FM_packed_94]
    rw [if_pos (by rw [nI_leI (by omega) (by omega)]; omega)]
  | succ m ih =>
    intro k J bs hk h25 hO hq hl
    have hlt : k < os.length := by omega
    have hg : os[k]? = some os[k] := List.getElem?_eq_getElem hlt
    obtain ⟨J1, a1, a2, a3⟩ := r_bring hq (nI os[k]) 8 (by omega) (by omega)
    obtain ⟨J', b1, b2, b3⟩ := ih (k + 1) J1 _ (by omega) (by rw [a3 25 i (by omega) (by omega)]; exact h25) (fun k b hb => by rw [a3 28 _ (by omega) (by omega)]; exact hO k b hb) a2 (by rw [List.length_append, ibits_len]; omega)
    refine ⟨J', ev_mono (ev_and a1 b1) (fun N hN F hF => ?_), ?_, rK_trans a3 b3⟩
    · obtain ⟨F, rfl⟩ : ∃ g, F = g + 1 := ⟨F - 1, by omega⟩
      have hN1 : FM_bring N (nI os[k]) 8 J = some ((), J1) := hN.1
      rw [qfix_s]
      simp only [FM_packed_94]
      rw [if_neg (by rw [nI_leI (by omega) (by omega)]; omega), qk_t (qi_nI hi (by omega)), nI_clamp (by omega), h25, nI_add, qk_t (qi_nI (by omega) (by omega)), nI_clamp (by omega), hO k _ hg, hN1, qb_some, nI_p1]
      exact hN.2 F (by omega)
    · rw [List.drop_eq_getElem_cons hlt, List.flatMap_cons, ← List.append_assoc]
      exact b2
theorem wvc_hd {T : zJ} {n t : Nat} {par : Int32} : ∀ m j i o b os c ma pk num sh, (∀ j', j' < j + m → wfT T n (chd T (6 * t + j'))) → WVC T (WV T n) t par m j i o b os c ma pk num sh → b = [] ∨ ∃ P l, b = P :: l ∧ pA P = par ∧ j ≤ pW P ∧ pW P < j + m := by
  intro m
  induction m with
  | zero => intro j i o b os c ma pk num sh _ h; exact Or.inl h.1
  | succ m ih =>
    intro j i o b os c ma pk num sh hwf h
    unfold WVC at h
    rcases h with ⟨f1, ma', _, h⟩ | ⟨f2, b', ma', num', hbb, _, _, _⟩ | ⟨b1, os1, e1, k1, b', os', c', ma', pk', num', sh', hv1, _, hbb, _⟩
    · rcases ih _ _ _ _ _ _ _ _ _ _ (fun j' hj' => hwf j' (by omega)) h with z | ⟨P, l, z1, z2, z3, z4⟩
      · exact Or.inl z
      · exact Or.inr ⟨P, l, z1, z2, by omega, by omega⟩
    · exact Or.inr ⟨_, _, hbb, rfl, Nat.le_refl _, by show j < _; omega⟩
    · obtain ⟨P, l, p1, p2, p3, p4, p5⟩ := wv_hd (hwf j (by omega)) hv1
      rw [p1] at hbb
      exact Or.inr ⟨P, l ++ b', hbb, p2, by omega, by omega⟩
theorem r_marks {T : zJ} {n n0 b0 t0 h iE : Nat} (hn : n ≤ 6) (hk6 : T 4 b0 = 6) (hb160 : b0 < 160) (hw0 : wfT T n0 t0) (hn0 : n0 ≤ 6) (hb : bas T 6 t0 = b0) (hh : h < 100) (h8 : T 8 b0 = nI (cnt T b0)) (hc6 : cnt T b0 ≤ 6) (hwf : ∀ j', j' < cnt T b0 → wfT T n (chd T (6 * b0 + j'))) (hiE : iE ≤ 100) (hhE : h ≤ iE) :
    ∀ m j ic o b os c ma pk num sh J bs, WVC T (WV T n) b0 (nI h) m j ic o b os c ma pk num sh → j + m = cnt T b0 → ic + b.length = iE → tyEq T J → mH J ic b → pBel J ic b → J 26 h = nI (iE - h) → J 21 h = nI t0 → rW J bs → bs.length + m ≤ 30000 →
      ∃ J', Ev (fun N => ∀ F, m + 1 ≤ F → qfix (FM_marks_7 N (nI h) (nI b0)) F (nI ic, nI j, J) = some ((), J')) ∧ rW J' (bs ++ ma) ∧ wrK J J' := by
  intro m
  induction m with
  | zero =>
    intro j ic o b os c ma pk num sh J bs hv hj hic hT hH hB h26 h21 hq _
    obtain ⟨rfl, rfl, rfl, rfl, _⟩ := hv
    refine ⟨J, ev_of (fun N F hF => ?_), by rw [List.append_nil]; exact hq, wrK_refl J⟩
    obtain ⟨F, rfl⟩ : ∃ g, F = g + 1 := ⟨F - 1, by omega⟩
    rw [qfix_s]
    simp only [FM_marks_7]
    rw [qk_t (qi_nI hb160 (by omega)), nI_clamp (by omega), hT 8 b0 (by omega) (by omega), h8, if_pos (by rw [nI_leI (by omega) (by omega)]; omega)]
  | succ m ih =>
    intro j ic o b os c ma pk num sh J bs hv hj hic hT hH hB h26 h21 hq hl
    have e6 : (6 : Int32) * nI b0 + nI j = nI (6 * b0 + j) := by rw [show (6 : Int32) = nI 6 from rfl, nI_mul, nI_add]
    have hic100 : ic ≤ 100 := by omega
    have hiE' : nI h + nI (iE - h) = nI iE := by rw [nI_add, show h + (iE - h) = iE by omega]
    have h7 : ∀ N F, qfix (FM_marks_7 N (nI h) (nI b0)) (F + 1) (nI ic, nI j, J) = if iE ≤ ic then FM_marks_46 N (qfix (FM_marks_7 N (nI h) (nI b0)) F) (nI h) (nI b0) (nI ic) (nI j) 0 J else if J 23 ic = nI j then FM_marks_46 N (qfix (FM_marks_7 N (nI h) (nI b0)) F) (nI h) (nI b0) (nI ic) (nI j) 1 J else FM_marks_46 N (qfix (FM_marks_7 N (nI h) (nI b0)) F) (nI h) (nI b0) (nI ic) (nI j) 0 J := by
      intro N F
      rw [qfix_s]
      simp only [FM_marks_7]
      rw [qk_t (qi_nI hb160 (by omega)), nI_clamp (by omega), hT 8 b0 (by omega) (by omega), h8, if_neg (by rw [nI_leI (by omega) (by omega)]; omega), qk_t (qi_nI hh (by omega)), nI_clamp (by omega), h26, hiE']
      simp (disch := omega) only [nI_leI]
      by_cases z : iE ≤ ic
      · rw [if_pos z, if_pos z]
      · rw [if_neg z, if_neg z, qk_t (qi_nI (by omega) (by omega)), nI_clamp (by omega)]
    have h46 : ∀ N K x, FM_marks_46 N K (nI h) (nI b0) (nI ic) (nI j) x J = if T 14 (6 * b0 + j) = 0 then FM_marks_86 N K (nI h) (nI b0) (nI ic) (nI j) x J else if x = 0 then FM_marks_82 N K (nI h) (nI b0) (nI ic) (nI j) x 0 J else qb (FM_isLeft N (nI ic) J) (fun v2 J3 => if bI v2 = 0 then FM_marks_82 N K (nI h) (nI b0) (nI ic) (nI j) x 1 J3 else FM_marks_82 N K (nI h) (nI b0) (nI ic) (nI j) x 0 J3) := by
      intro N K x
      unfold FM_marks_46
      rw [e6, qk_t (qi_nI (by omega) (by omega)), nI_clamp (by omega), hT 14 _ (by omega) (by omega)]
    have hwf' : ∀ j', j' < j + 1 + m → wfT T n (chd T (6 * b0 + j')) := fun j' hj' => hwf j' (by omega)
    unfold WVC at hv
    rcases hv with ⟨f1, ma', hma, hv⟩ | ⟨f2, b', ma', num', hbb, hma, _, hv⟩ | ⟨b1, os1, e1, k1, b', os', c', ma', pk', num', sh', hv1, hnl, hbb, hos, hc, hma, _, _, _, hv⟩
    · -- absent
      have n0' : ¬ T 14 (6 * b0 + j) = 0 := by rw [f1]; decide
      obtain ⟨J1, a1, a2, a3⟩ := r_bring hq 0 1 (by omega) (by omega)
      have hw1 := rK_wrK a3
      obtain ⟨J', q1, q2, q3⟩ := ih (j + 1) ic o b os c ma' pk num sh J1 _ hv (by omega) hic (wrK_ty hw1 hT) (mH_wrK hw1 hH) (pBel_wrK hw1 hB) (by rw [a3 26 h (by omega) (by omega)]; exact h26) (by rw [a3 21 h (by omega) (by omega)]; exact h21) a2 (by rw [List.length_append, ibits_len]; omega)
      refine ⟨J', ev_mono (ev_and a1 q1) (fun N hN F hF => ?_), by rw [hma, ← List.singleton_append, ← List.append_assoc, ← ib_0]; exact q2, wrK_trans hw1 q3⟩
      obtain ⟨F, rfl⟩ : ∃ g, F = g + 1 := ⟨F - 1, by omega⟩
      have hN1 : FM_bring N 0 1 J = some ((), J1) := hN.1
      have h0 : qfix (FM_marks_7 N (nI h) (nI b0)) (F + 1) (nI ic, nI j, J) = FM_marks_46 N (qfix (FM_marks_7 N (nI h) (nI b0)) F) (nI h) (nI b0) (nI ic) (nI j) 0 J := by
        rw [h7]
        rcases wvc_hd _ _ _ _ _ _ _ _ _ _ _ hwf' hv with z | ⟨P, l, z1, z2, z3, z4⟩
        · rw [if_pos (by rw [z] at hic; simp at hic; omega)]
        · rw [z1] at hic hH
          simp only [List.length_cons] at hic
          rw [if_neg (by omega), if_neg]
          have := (hH 0 P rfl).2.2.1
          rw [Nat.add_zero] at this
          rw [this, nI_eq (by omega) (by omega)]
          omega
      rw [h0, h46, if_neg n0', if_pos rfl]
      unfold FM_marks_82 FM_marks_86
      rw [hN1, qb_some, if_pos rfl]
      simp only [Int32.add_zero, nI_p1]
      exact hN.2 F (by omega)
    · -- as the default
      have n0' : ¬ T 14 (6 * b0 + j) = 0 := by rw [f2]; decide
      subst hbb
      simp only [List.length_cons] at hic
      obtain ⟨m1, m2, m3, m4, m5⟩ := hH 0 _ rfl
      have m6 := hB 0 _ rfl
      rw [Nat.add_zero] at m1 m2 m3 m4 m5 m6
      have m3 : J 23 ic = nI j := m3
      have m2 : J 22 ic = T 15 (6 * b0 + j) := m2
      have m6 : J 26 ic = nI 1 := m6
      obtain ⟨J0, l1, l2⟩ := m_left (T := T) (J := J) (i := ic) (h := h) (t0 := t0) (n0 := n0) (wh := j) (b := b0) hT (by omega) hh m4 h21 hw0 hn0 hb m3 (fun _ => by omega)
      rw [decide_eq_true ⟨hk6, f2, m2.symm⟩] at l1
      obtain ⟨J1, a1, a2, a3⟩ := r_bring (rW_uKp l2 hq) 0 1 (by omega) (by omega)
      have hw1 := wrK_trans (uKp_wrK l2) (rK_wrK a3)
      have hH' : mH J (ic + 1) b' := fun k P hP => by
        have := hH (k + 1) P (by simpa using hP)
        rw [show ic + (k + 1) = ic + 1 + k by omega] at this
        exact this
      have hB' : pBel J (ic + 1) b' := fun k P hP => by
        have := hB (k + 1) P (by simpa using hP)
        rw [show ic + (k + 1) = ic + 1 + k by omega] at this
        exact this
      obtain ⟨J', q1, q2, q3⟩ := ih (j + 1) (ic + 1) o b' os c ma' pk num' sh J1 _ hv (by omega) (by omega) (wrK_ty hw1 hT) (mH_wrK hw1 hH') (pBel_wrK hw1 hB') (by rw [wrK_c hw1 h (by omega)]; exact h26) (by rw [wrK_c hw1 h (by omega)]; exact h21) a2 (by rw [List.length_append, ibits_len]; omega)
      refine ⟨J', ev_mono (ev_and (ev_and l1 a1) q1) (fun N hN F hF => ?_), by rw [hma, ← List.singleton_append, ← List.append_assoc, ← ib_0]; exact q2, wrK_trans hw1 q3⟩
      obtain ⟨F, rfl⟩ : ∃ g, F = g + 1 := ⟨F - 1, by omega⟩
      have hN1 : FM_bring N 0 1 J0 = some ((), J1) := hN.1.2
      rw [h7, if_neg (by omega), if_pos m3, h46, if_neg n0', if_neg (by decide), hN.1.1, qb_some, bI_t, if_neg (by decide)]
      unfold FM_marks_82 FM_marks_86
      rw [hN1, qb_some, if_neg (by decide), qk_t (qi_nI (by omega) (by omega)), nI_clamp (by omega), wrK_c hw1 ic (by omega), m6, nI_add, nI_p1]
      exact hN.2 F (by omega)
    · -- present
      have hwj := hwf j (by omega)
      obtain ⟨P, l, p1, p2, p3, p4, p5⟩ := wv_hd hwj hv1
      obtain ⟨t1, P', l', t2, t3, t4⟩ := TR_ne _ _ _ _ (wv_tr _ _ _ _ _ _ _ _ _ _ _ _ hv1)
      have hPP : P' = P := by rw [p1] at t2; injection t2 with t2 _; exact t2.symm
      subst hPP
      subst hbb
      rw [List.length_append] at hic
      have hget : (b1 ++ b')[0]? = some P' := by rw [p1]; rfl
      obtain ⟨m1, m2, m3, m4, m5⟩ := hH 0 _ hget
      have m6 := hB 0 _ hget
      rw [Nat.add_zero] at m1 m2 m3 m4 m5 m6
      rw [p3] at m3
      rw [p2] at m4
      rw [t4] at m6
      have hH' : mH J (ic + b1.length) b' := fun k Q hQ => by
        have := hH (b1.length + k) Q (by rw [List.getElem?_append_right (by omega), Nat.add_sub_cancel_left]; exact hQ)
        rw [← Nat.add_assoc] at this
        exact this
      have hB' : pBel J (ic + b1.length) b' := fun k Q hQ => by
        have := hB (b1.length + k) Q (by rw [List.getElem?_append_right (by omega), Nat.add_sub_cancel_left]; exact hQ)
        rw [← Nat.add_assoc] at this
        exact this
      by_cases c0 : T 14 (6 * b0 + j) = 0
      · rw [if_pos c0] at hma
        obtain ⟨J', q1, q2, q3⟩ := ih (j + 1) (ic + b1.length) (o + os1.length) b' os' c' ma' pk' num' sh' J bs hv (by omega) (by omega) hT hH' hB' h26 h21 hq (by omega)
        refine ⟨J', ev_mono q1 (fun N hN F hF => ?_), by rw [hma]; exact q2, q3⟩
        obtain ⟨F, rfl⟩ : ∃ g, F = g + 1 := ⟨F - 1, by omega⟩
        rw [h7, if_neg (by omega), if_pos m3, h46, if_pos c0]
        unfold FM_marks_86
        rw [if_neg (by decide), qk_t (qi_nI (by omega) (by omega)), nI_clamp (by omega), m6, nI_add, nI_p1]
        exact hN F (by omega)
      · rw [if_neg c0] at hma
        obtain ⟨J0, l1, l2⟩ := m_left (T := T) (J := J) (i := ic) (h := h) (t0 := t0) (n0 := n0) (wh := j) (b := b0) hT (by omega) hh m4 h21 hw0 hn0 hb m3 (fun _ => by omega)
        have hdec : decide (T 4 b0 = 6 ∧ T 14 (6 * b0 + j) = 2 ∧ T 15 (6 * b0 + j) = J 22 ic) = false := by
          refine decide_eq_false (fun z => hnl ⟨z.2.1, ?_⟩)
          rw [p1]
          show pV P' = _
          rw [← m2]
          exact z.2.2.symm
        rw [hdec] at l1
        obtain ⟨J1, a1, a2, a3⟩ := r_bring (rW_uKp l2 hq) 1 1 (by omega) (by omega)
        have hw1 := wrK_trans (uKp_wrK l2) (rK_wrK a3)
        obtain ⟨J', q1, q2, q3⟩ := ih (j + 1) (ic + b1.length) (o + os1.length) b' os' c' ma' pk' num' sh' J1 _ hv (by omega) (by omega) (wrK_ty hw1 hT) (mH_wrK hw1 hH') (pBel_wrK hw1 hB') (by rw [wrK_c hw1 h (by omega)]; exact h26) (by rw [wrK_c hw1 h (by omega)]; exact h21) a2 (by rw [List.length_append, ibits_len]; omega)
        refine ⟨J', ev_mono (ev_and (ev_and l1 a1) q1) (fun N hN F hF => ?_), by rw [hma, ← List.singleton_append, ← List.append_assoc, ← ib_1]; exact q2, wrK_trans hw1 q3⟩
        obtain ⟨F, rfl⟩ : ∃ g, F = g + 1 := ⟨F - 1, by omega⟩
        have hN1 : FM_bring N 1 1 J0 = some ((), J1) := hN.1.2
        rw [h7, if_neg (by omega), if_pos m3, h46, if_neg c0, if_neg (by decide), hN.1.1, qb_some, bI_f, if_pos rfl]
        unfold FM_marks_82 FM_marks_86
        rw [hN1, qb_some, if_neg (by decide), qk_t (qi_nI (by omega) (by omega)), nI_clamp (by omega), wrK_c hw1 ic (by omega), m6, nI_add, nI_p1]
        exact hN.2 F (by omega)
