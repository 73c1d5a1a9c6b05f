/-! THE REFERENCE writes packed bits: all parts -/
theorem pint_len {T : zJ} {t : Nat} (v : Int32) (p : Nat) : (pint T t v p).length ≤ 50 := by
  unfold pint
  split
  · have := pnum_len (v - T 5 t) (rngT T t) p; omega
  · have h1 := ppad_len p
    have h2 := byC_le v
    unfold pcat pbits
    simp only [List.length_append, ibits_len]
    omega
theorem pcount_len {T : zJ} {t : Nat} (v : Int32) (p : Nat) : (pcount T t v p).length ≤ 23 := by
  unfold pcount
  split
  · exact pnum_len _ _ _
  · have h1 := ppad_len p
    unfold pcat pbits
    simp only [List.length_append, ibits_len]
    omega
theorem flat8 (os : List Nat) : (os.flatMap (fun b => ibits (nI b) 8)).length = 8 * os.length := by
  induction os with
  | nil => rfl
  | cons b os ih => rw [List.flatMap_cons, List.length_append, ih, ibits_len, List.length_cons]; omega
theorem pocts_len {T : zJ} {t : Nat} (os : List Nat) (p : Nat) : (pocts T t os p).length ≤ 30 + 8 * os.length := by
  unfold pocts
  show (pcount T t (nI os.length) p ++ pcat (if os ≠ [] ∧ alnd T t = true then ppad else pnil) (fun _ => os.flatMap (fun b => ibits (nI b) 8)) (p + (pcount T t (nI os.length) p).length)).length ≤ _
  have h1 := pcount_len (T := T) (t := t) (nI os.length) p
  rw [List.length_append]
  unfold pcat
  rw [List.length_append, flat8]
  have h2 : ∀ q, ((if os ≠ [] ∧ alnd T t = true then ppad else pnil : PK) q).length ≤ 7 := by
    intro q
    split
    · exact ppad_len q
    · show (0 : Nat) ≤ 7; omega
  have := h2 (p + (pcount T t (nI os.length) p).length)
  omega
theorem wvc_pk {T : zJ} {n t : Nat} {par : Int32} (ih : ∀ u t0 dg par wh i o blk os e pk, wfT T n u → WV T n u t0 dg par wh i o blk os e pk → ∀ p, (pk p).length ≤ 64 * blk.length + 8 * os.length) : ∀ m j i o b os c ma pk num sh, (∀ j', j' < j + m → wfT T n (chd T (6 * t + j'))) → WVC T (WV T n) t par m j i o b os c ma pk num sh → ma.length ≤ m ∧ ∀ p, (pk p).length ≤ 64 * b.length + 8 * os.length := by
  intro m
  induction m with
  | zero =>
    intro j i o b os c ma pk num sh _ h
    obtain ⟨rfl, rfl, _, rfl, rfl, _⟩ := h
    exact ⟨Nat.le_refl _, fun p => Nat.zero_le _⟩
  | succ m ihm =>
    intro j i o b os c ma pk num sh hwf h
    have hwf' : ∀ j', j' < j + 1 + m → wfT T n (chd T (6 * t + j')) := fun j' hj' => hwf j' (by omega)
    unfold WVC at h
    rcases h with ⟨_, ma', hma, h⟩ | ⟨_, b', ma', num', hbb, hma, _, h⟩ | ⟨b1, os1, e1, k1, b', os', c', ma', pk', num', sh', hv1, _, hbb, hos, _, hma, hpk, _, _, h⟩
    · obtain ⟨z1, z2⟩ := ihm _ _ _ _ _ _ _ _ _ _ hwf' h
      exact ⟨by rw [hma, List.length_cons]; omega, z2⟩
    · obtain ⟨z1, z2⟩ := ihm _ _ _ _ _ _ _ _ _ _ hwf' h
      refine ⟨by rw [hma, List.length_cons]; omega, fun p => ?_⟩
      have := z2 p
      rw [hbb, List.length_cons]
      omega
    · obtain ⟨z1, z2⟩ := ihm _ _ _ _ _ _ _ _ _ _ hwf' h
      have z3 := ih _ _ _ _ _ _ _ _ _ _ _ (hwf j (by omega)) hv1
      refine ⟨?_, fun p => ?_⟩
      · rw [hma]
        split
        · omega
        · rw [List.length_cons]; omega
      · rw [hpk, hbb, hos]
        unfold pcat
        simp only [List.length_append]
        have := z3 p
        have := z2 (p + (k1 p).length)
        omega
theorem wvl_pk {T : zJ} {n u : Nat} {par : Int32} (hw : wfT T n u) (ih : ∀ u t0 dg par wh i o blk os e pk, wfT T n u → WV T n u t0 dg par wh i o blk os e pk → ∀ p, (pk p).length ≤ 64 * blk.length + 8 * os.length) : ∀ m k i o b os c pk, WVL (WV T n) u par m k i o b os c pk → ∀ p, (pk p).length ≤ 64 * b.length + 8 * os.length := by
  intro m
  induction m with
  | zero =>
    intro k i o b os c pk h
    obtain ⟨rfl, rfl, _, rfl⟩ := h
    exact fun p => Nat.zero_le _
  | succ m ihm =>
    intro k i o b os c pk h p
    obtain ⟨b1, os1, e1, k1, b', os', c', pk', hv1, rfl, rfl, rfl, rfl, h⟩ := h
    have z3 := ih _ _ _ _ _ _ _ _ _ _ _ hw hv1 p
    have z2 := ihm _ _ _ _ _ _ _ h (p + (k1 p).length)
    unfold pcat
    simp only [List.length_append]
    omega
theorem wv_pk {T : zJ} : ∀ n t t0 dg par wh i o blk os e pk, wfT T n t → WV T n t t0 dg par wh i o blk os e pk → ∀ p, (pk p).length ≤ 64 * blk.length + 8 * os.length := by
  intro n
  induction n with
  | zero => intro t t0 dg par wh i o blk os e pk h; exact h.elim
  | succ n ih =>
    intro t t0 dg par wh i o blk os e pk hw h p
    unfold WV WVb at h
    rcases h with ⟨k10, _, e1, h, _⟩ | ⟨k10, _, h⟩ | ⟨k9, k, b1, k1, hk, hb, h, hpk⟩ | ⟨k6, num, sh, ma, b1, c, k1, hb, h, _, hpk⟩ | ⟨k7, m, b1, c, k1, _, hb, h, _, hpk⟩ | ⟨v, hb, h⟩
    · exact ih _ _ _ _ _ _ _ _ _ _ _ (hw.2.2.2.2.2.2.2.1 k10).2.2.2.2 h p
    · exact ih _ _ _ _ _ _ _ _ _ _ _ (hw.2.2.2.2.2.2.2.1 k10).2.2.2.2 h p
    · have h1 := pnum_len (nI (jRank T t k (cnt T t))) (cnt T t - 1) p
      have h2 := ih _ _ _ _ _ _ _ _ _ _ _ ((hw.2.2.2.2.2.2.2.2.1 (Or.inr k9)).2.2 k hk).2 h (p + (pnum (nI (jRank T t k (cnt T t))) (cnt T t - 1) p).length)
      rw [hpk, hb]
      unfold pcat
      rw [List.length_append, List.length_cons]
      omega
    · obtain ⟨w1, w2, w3⟩ := hw.2.2.2.2.2.2.2.2.1 (Or.inl k6)
      obtain ⟨z1, z2⟩ := wvc_pk ih _ _ _ _ _ _ _ _ _ _ _ (fun j' hj' => (w3 j' (by omega)).2) h
      have := z2 (p + ma.length)
      rw [hpk, hb]
      show (ma ++ k1 (p + ma.length)).length ≤ _
      rw [List.length_append, List.length_cons]
      omega
    · have h1 := pcount_len (T := T) (t := t) (nI m) p
      have h2 := wvl_pk (hw.2.2.2.2.2.2.1 k7).2 ih _ _ _ _ _ _ _ _ h (p + (pcount T t (nI m) p).length)
      rw [hpk, hb]
      unfold pcat
      rw [List.length_append, List.length_cons]
      omega
    · rw [hb, List.length_singleton]
      rcases h with ⟨_, _, _, _, hpk⟩ | ⟨_, _, _, hpk⟩ | ⟨_, _, _, _, _, hpk⟩ | ⟨_, _, _, _, hpk⟩
      · rw [hpk]; unfold pbits; rw [ibits_len]; omega
      · have := pint_len (T := T) (t := t) v p; rw [hpk]; omega
      · have := pocts_len (T := T) (t := t) os p; rw [hpk]; omega
      · rw [hpk]; exact Nat.zero_le _
def pH (T J : zJ) (tot i o : Nat) (blk : List Pt) (os : List Nat) : Prop := tyEq T J ∧ mH J i blk ∧ pBel J i blk ∧ mO J o os ∧ o + os.length ≤ 240 ∧ i + blk.length ≤ tot ∧ tot ≤ 100 ∧ J 0 34 = nI tot
theorem pH_wrK {T J J' : zJ} {tot i o : Nat} {blk : List Pt} {os : List Nat} (hk : wrK J J') (h : pH T J tot i o blk os) : pH T J' tot i o blk os := by
  obtain ⟨h1, h2, h3, h4, h5, h6, h7, h8⟩ := h
  exact ⟨wrK_ty hk h1, mH_wrK hk h2, pBel_wrK hk h3, mO_wrK hk h4, h5, h6, h7, by rw [hk 0 34 (by omega) (by omega) (by omega) (by omega) (by omega)]; exact h8⟩
theorem pH_app {T J : zJ} {tot i o : Nat} {b1 b2 : List Pt} {o1 o2 : List Nat} (h : pH T J tot i o (b1 ++ b2) (o1 ++ o2)) : pH T J tot i o b1 o1 ∧ pH T J tot (i + b1.length) (o + o1.length) b2 o2 := by
  obtain ⟨h1, h2, h3, h4, h5, h6, h7, h8⟩ := h
  rw [List.length_append] at h5 h6
  refine ⟨⟨h1, fun k P hP => ?_, fun k P hP => ?_, fun k b hb => ?_, by omega, by omega, h7, h8⟩, ⟨h1, fun k P hP => ?_, fun k P hP => ?_, fun k b hb => ?_, by omega, by omega, h7, h8⟩⟩
  · exact h2 k P (by rw [List.getElem?_append_left (List.getElem?_eq_some_iff.mp hP).1]; exact hP)
  · exact h3 k P (by rw [List.getElem?_append_left (List.getElem?_eq_some_iff.mp hP).1]; exact hP)
  · exact h4 k b (by rw [List.getElem?_append_left (List.getElem?_eq_some_iff.mp hb).1]; exact hb)
  · have := h2 (b1.length + k) P (by rw [List.getElem?_append_right (by omega), Nat.add_sub_cancel_left]; exact hP)
    rw [← Nat.add_assoc] at this
    exact this
  · have := h3 (b1.length + k) P (by rw [List.getElem?_append_right (by omega), Nat.add_sub_cancel_left]; exact hP)
    rw [← Nat.add_assoc] at this
    exact this
  · have := h4 (o1.length + k) b (by rw [List.getElem?_append_right (by omega), Nat.add_sub_cancel_left]; exact hb)
    rw [← Nat.add_assoc] at this
    exact this
def lfW (J : zJ) (i : Nat) : Prop := ∀ J', wrK J J' → ∃ J2, Ev (fun N => FM_isLeft N (nI i) J' = some (false, J2)) ∧ uKp J' J2 0
def rZ (J : zJ) (i j : Nat) (bs : List Bool) (pk : PK) : Prop := ∃ J', Ev (fun N => ∀ F, qfix (FM_write_125 N) (F + (j - i)) (nI i, J) = qfix (FM_write_125 N) F (nI j, J')) ∧ rW J' (bs ++ pk bs.length) ∧ wrK J J'
theorem rZ_two {J : zJ} {i a b : Nat} {bs : List Bool} {p1 p2 : PK} (h1 : rZ J i (i + a) bs p1) (h2 : ∀ J1, wrK J J1 → rW J1 (bs ++ p1 bs.length) → rZ J1 (i + a) (i + a + b) (bs ++ p1 bs.length) p2) : rZ J i (i + (a + b)) bs (pcat p1 p2) := by
  obtain ⟨J1, a1, a2, a3⟩ := h1
  obtain ⟨J2, b1, b2, b3⟩ := h2 J1 a3 a2
  refine ⟨J2, ev_mono (ev_and a1 b1) (fun N hN F => ?_), ?_, wrK_trans a3 b3⟩
  · have q1 := hN.1 (F + b)
    have q2 := hN.2 F
    rw [show i + a - i = a by omega] at q1
    rw [show i + a + b - (i + a) = b by omega] at q2
    rw [show i + (a + b) - i = a + b by omega, show F + (a + b) = F + b + a by omega, q1, q2, Nat.add_assoc]
  · unfold pcat
    rw [← List.append_assoc, ← List.length_append]
    exact b2
theorem rZ_nil {J : zJ} {i : Nat} {bs : List Bool} (h : rW J bs) : rZ J i i bs pnil :=
  ⟨J, ev_of (fun N F => by rw [Nat.sub_self]; rfl), by unfold pnil; rw [List.append_nil]; exact h, wrK_refl J⟩
theorem rZ_left {J : zJ} {i tot : Nat} {bs : List Bool} (h : rW J bs) (hi : i < tot) (ht : tot ≤ 100) (h34 : J 0 34 = nI tot) (hl : ∃ J2, Ev (fun N => FM_isLeft N (nI i) J = some (true, J2)) ∧ uKp J J2 0) : rZ J i (i + 1) bs pnil := by
  obtain ⟨J2, a1, a2⟩ := hl
  refine ⟨J2, ev_mono a1 (fun N hN F => ?_), by unfold pnil; rw [List.append_nil]; exact rW_uKp a2 h, uKp_wrK a2⟩
  rw [Nat.add_sub_cancel_left, qfix_s]
  simp only [FM_write_125]
  rw [h34, if_neg (by rw [nI_leI (by omega) (by omega)]; omega), hN, qb_some, bI_t, if_neg (by decide), nI_p1]
theorem rZ_head {J : zJ} {i tot : Nat} {bs : List Bool} {pk : PK} (h : rW J bs) (hi : i < tot) (ht : tot ≤ 100) (h34 : J 0 34 = nI tot) (hl : lfW J i) (hp : ∀ J1, wrK J J1 → rW J1 bs → ∃ J2, Ev (fun N => FM_packed N (nI i) J1 = some ((), J2)) ∧ rW J2 (bs ++ pk bs.length) ∧ wrK J1 J2) : rZ J i (i + 1) bs pk := by
  obtain ⟨J1, a1, a2⟩ := hl J (wrK_refl J)
  obtain ⟨J2, b1, b2, b3⟩ := hp J1 (uKp_wrK a2) (rW_uKp a2 h)
  refine ⟨J2, ev_mono (ev_and a1 b1) (fun N hN F => ?_), b2, wrK_trans (uKp_wrK a2) b3⟩
  rw [Nat.add_sub_cancel_left, qfix_s]
  simp only [FM_write_125]
  rw [h34, if_neg (by rw [nI_leI (by omega) (by omega)]; omega), hN.1, qb_some, bI_f, if_pos rfl, hN.2, qb_some, nI_p1]
/-- packed(): the base of the part's type -/
theorem r_pbase {T J : zJ} {i t n : Nat} (hT : tyEq T J) (hi : i < 100) (h21 : J 21 i = nI t) (hw : wfT T n t) (hn : n ≤ 6) : ∃ J2, Ev (fun N => FM_baseOf N (nI i) J = some (nI (bas T n t), J2)) ∧ uKp J J2 0 := by
  obtain ⟨J2, u1, u2, u3, u4⟩ := m_unw hw hn hT
  refine ⟨J2, ev_mono u1 (fun N hN => ?_), u4⟩
  unfold FM_baseOf
  rw [qk_t (qi_nI hi (by omega)), nI_clamp (by omega), h21, hN, qb_some, u2]
theorem lfW_child {T J : zJ} {h t0 n0 b i wh : Nat} {P : Pt} {l : List Pt} (hT : tyEq T J) (hh : h < 100) (hi : i < 100) (h21 : J 21 h = nI t0) (hw0 : wfT T n0 t0) (hn0 : n0 ≤ 6) (hb : bas T 6 t0 = b) (hm : mH J i (P :: l)) (hA : pA P = nI h) (hW : pW P = wh) (hwh : T 4 b = 6 → wh < 6) (hnot : ¬ (T 4 b = 6 ∧ T 14 (6 * b + wh) = 2 ∧ T 15 (6 * b + wh) = pV P)) : lfW J i := by
  intro J' hk
  obtain ⟨m1, m2, m3, m4, m5⟩ := mH_wrK hk hm 0 P rfl
  obtain ⟨J2, a1, a2⟩ := m_left (T := T) (J := J') (i := i) (h := h) (t0 := t0) (n0 := n0) (wh := wh) (b := b) (wrK_ty hk hT) hi hh (by rw [← hA]; exact m4) (by rw [wrK_c hk h (by omega)]; exact h21) hw0 hn0 hb (by rw [← hW]; exact m3) hwh
  refine ⟨J2, ?_, a2⟩
  have e : decide (T 4 b = 6 ∧ T 14 (6 * b + wh) = 2 ∧ T 15 (6 * b + wh) = J' 22 i) = false := by
    refine decide_eq_false (fun q => hnot ⟨q.1, q.2.1, ?_⟩)
    have m2 : J' 22 i = pV P := m2
    rw [← m2]
    exact q.2.2
  rw [e] at a1
  exact a1
theorem lfW_mono {J J' : zJ} {i : Nat} (h : wrK J J') (hl : lfW J i) : lfW J' i := fun J2 h2 => hl J2 (wrK_trans h h2)
def rBl (T : zJ) (n : Nat) : Prop := ∀ t par wh i o blk os e pk J bs tot, wfT T n t → n ≤ 6 → WV T n t t none par wh i o blk os e pk → pH T J tot i o blk os → rW J bs → bs.length + 64 * blk.length + 8 * os.length ≤ 28000 → lfW J i → rZ J i (i + blk.length) bs pk
theorem rZ_comps {T : zJ} {m b h t0 n0 : Nat} (hB : rBl T m) (hm6 : m ≤ 6) (hk6 : T 4 b = 6) (hw0 : wfT T n0 t0) (hn0 : n0 ≤ 6) (hb : bas T 6 t0 = b) (hh : h < 100) :
    ∀ q j i o bl os c ma pk num sh J bs tot, WVC T (WV T m) b (nI h) q j i o bl os c ma pk num sh → (∀ j', j' < j + q → wfT T m (chd T (6 * b + j'))) → j + q ≤ 6 → pH T J tot i o bl os → rW J bs → bs.length + 64 * bl.length + 8 * os.length ≤ 28000 → J 21 h = nI t0 → rZ J i (i + bl.length) bs pk := by
  intro q
  induction q with
  | zero =>
    intro j i o bl os c ma pk num sh J bs tot hv _ _ hH hq _ _
    obtain ⟨rfl, rfl, rfl, _, rfl, _⟩ := hv
    exact rZ_nil hq
  | succ q ih =>
    intro j i o bl os c ma pk num sh J bs tot hv hwf hj hH hq hle h21
    have hwf' : ∀ j', j' < j + 1 + q → wfT T m (chd T (6 * b + j')) := fun j' hj' => hwf j' (by omega)
    unfold WVC at hv
    rcases hv with ⟨_, ma', _, hv⟩ | ⟨f2, b', ma', num', hbb, _, _, hv⟩ | ⟨b1, os1, e1, k1, b', os', c', ma', pk', num', sh', hv1, hnl, hbb, hos, hc, _, hpk, _, _, hv⟩
    · exact ih _ _ _ _ _ _ _ _ _ _ _ _ _ hv hwf' (by omega) hH hq hle h21
    · subst hbb
      have hH' : pH T J tot i o ([mkP (chd T (6 * b + j)) (bas T 6 (chd T (6 * b + j))) (T 15 (6 * b + j)) j (nI h) o 0 1] ++ b') ([] ++ os) := hH
      obtain ⟨g1, g2⟩ := pH_app hH'
      simp only [List.length_cons] at hle ⊢
      have ht := hH.2.2.2.2.2.2.1
      have hil : i < tot := by have := hH.2.2.2.2.2.1; simp at this; omega
      have hleft : rZ J i (i + 1) bs pnil := by
        refine rZ_left hq hil ht hH.2.2.2.2.2.2.2 ?_
        obtain ⟨m1, m2, m3, m4, m5⟩ := g1.2.1 0 _ rfl
        have m2 : J 22 i = T 15 (6 * b + j) := m2
        obtain ⟨J2, a1, a2⟩ := m_left (T := T) (J := J) (i := i) (h := h) (t0 := t0) (n0 := n0) (wh := j) (b := b) hH.1 (by omega) hh m4 h21 hw0 hn0 hb m3 (fun _ => by omega)
        refine ⟨J2, ?_, a2⟩
        rw [decide_eq_true ⟨hk6, f2, m2.symm⟩] at a1
        exact a1
      have := rZ_two (b := b'.length) (p2 := pk) hleft (fun J1 hk hq1 => ih _ _ _ _ _ _ _ _ _ _ J1 _ tot hv hwf' (by omega) (pH_wrK hk g2) hq1 (by unfold pnil; rw [List.append_nil]; omega) (by rw [wrK_c hk h (by omega)]; exact h21))
      rw [pcat_nil] at this
      rw [show b'.length + 1 = 1 + b'.length by omega]
      exact this
    · subst hbb hos hc hpk
      obtain ⟨g1, g2⟩ := pH_app hH
      rw [List.length_append, List.length_append] at hle
      have hwu := hwf j (by omega)
      have hpl := wv_pk _ _ _ _ _ _ _ _ _ _ _ _ hwu hv1 bs.length
      rw [List.length_append]
      refine rZ_two (hB _ _ _ _ _ _ _ _ _ _ _ tot hwu hm6 hv1 g1 hq (by omega) ?_) (fun J1 hk hq1 => ih _ _ _ _ _ _ _ _ _ _ J1 _ tot hv hwf' (by omega) (pH_wrK hk g2) hq1 (by rw [List.length_append]; omega) (by rw [wrK_c hk h (by omega)]; exact h21))
      obtain ⟨P, l, p1, p2, p3, p4, p5⟩ := wv_hd hwu hv1
      have hb6 := g1.2.2.2.2.2.1
      have ht := g1.2.2.2.2.2.2.1
      rw [p1, List.length_cons] at hb6
      refine lfW_child (t0 := t0) (n0 := n0) (b := b) hH.1 hh (by omega) h21 hw0 hn0 hb (by rw [← p1]; exact g1.2.1) p2 p3 (fun _ => by omega) (fun z => hnl ⟨z.2.1, ?_⟩)
      rw [p1]
      exact z.2.2.symm
theorem rZ_items {T : zJ} {m b u h t0 n0 : Nat} (hB : rBl T m) (hm6 : m ≤ 6) (hk6 : T 4 b ≠ 6) (hw0 : wfT T n0 t0) (hn0 : n0 ≤ 6) (hb : bas T 6 t0 = b) (hh : h < 100) (hwu : wfT T m u) :
    ∀ q k i o bl os c pk J bs tot, WVL (WV T m) u (nI h) q k i o bl os c pk → pH T J tot i o bl os → rW J bs → bs.length + 64 * bl.length + 8 * os.length ≤ 28000 → J 21 h = nI t0 → rZ J i (i + bl.length) bs pk := by
  intro q
  induction q with
  | zero =>
    intro k i o bl os c pk J bs tot hv hH hq _ _
    obtain ⟨rfl, rfl, rfl, rfl⟩ := hv
    exact rZ_nil hq
  | succ q ih =>
    intro k i o bl os c pk J bs tot hv hH hq hle h21
    obtain ⟨b1, os1, e1, k1, b', os', c', pk', hv1, rfl, rfl, rfl, rfl, hv⟩ := hv
    obtain ⟨g1, g2⟩ := pH_app hH
    rw [List.length_append, List.length_append] at hle
    have hpl := wv_pk _ _ _ _ _ _ _ _ _ _ _ _ hwu hv1 bs.length
    rw [List.length_append]
    refine rZ_two (hB _ _ _ _ _ _ _ _ _ _ _ tot hwu hm6 hv1 g1 hq (by omega) ?_) (fun J1 hk hq1 => ih _ _ _ _ _ _ _ J1 _ tot hv (pH_wrK hk g2) hq1 (by rw [List.length_append]; omega) (by rw [wrK_c hk h (by omega)]; exact h21))
    obtain ⟨P, l, p1, p2, p3, p4, p5⟩ := wv_hd hwu hv1
    have hb6 := g1.2.2.2.2.2.1
    have ht := g1.2.2.2.2.2.2.1
    rw [p1, List.length_cons] at hb6
    exact lfW_child (t0 := t0) (n0 := n0) (b := b) hH.1 hh (by omega) h21 hw0 hn0 hb (by rw [← p1]; exact g1.2.1) p2 p3 (fun z => absurd z hk6) (fun z => hk6 z.1)
theorem rBl_all {T : zJ} : ∀ n, rBl T n := by
  intro n
  induction n using Nat.strongRecOn with
  | ind n ih =>
    intro t par wh i o blk os e pk J bs tot hw hn6 hv hH hq hle hlf
    obtain ⟨m, c, hm, hwb, he, hb⟩ := wv_base n t t none par wh i o blk os e pk hw hv
    have hB := ih m (by omega)
    have hbas : bas T 6 t = bas T n t := (bas_wf n 6 t hw hn6).1
    have hH0 := hH
    obtain ⟨g1, g2, g3, g4, g5, g6, g7, g8⟩ := hH0
    have b160 := bas_lt n t hw
    have hpb : ∀ J1, wrK J J1 → i < 100 → J 21 i = nI t → ∃ J2, Ev (fun N => FM_baseOf N (nI i) J1 = some (nI (bas T n t), J2)) ∧ uKp J1 J2 0 := fun J1 hk hi h21 => r_pbase (wrK_ty hk g1) hi (by rw [wrK_c hk i (by omega)]; exact h21) hw hn6
    generalize hbb : bas T n t = b at *
    rcases hb with ⟨k9, k, b1, k1, h1, h2, h3, hpk⟩ | ⟨k6, num, sh, ma, b1, k1, h2, h3, hpk⟩ | ⟨k7, q, b1, k1, h1, h2, h3, hpk⟩ | ⟨v, h2, h3⟩
    · subst h2
      have g21 : J 21 i = nI t := (g2 0 _ rfl).1
      have g22 : J 22 i = nI k := (g2 0 _ rfl).2.1
      simp only [List.length_cons] at g6 hle ⊢
      obtain ⟨w1, w2, w3⟩ := hwb.2.2.2.2.2.2.2.2.1 (Or.inr k9)
      rw [hpk, show b1.length + 1 = 1 + b1.length by omega]
      refine rZ_two (rZ_head hq (by omega) g7 g8 hlf (fun J1 hk hq1 => ?_)) (fun J1 hk hq1 => ?_)
      · obtain ⟨J2, u1, u2⟩ := hpb J1 hk (by omega) g21
        have hk2 := wrK_trans hk (uKp_wrK u2)
        have hT2 := wrK_ty hk2 g1
        obtain ⟨J3, a1, a2, a3⟩ := r_num (v := nI (jRank T b k (cnt T b))) (lo := 0) (hi := nI (cnt T b) - 1) (h := cnt T b - 1) (rW_uKp u2 hq1) (by omega) (by rw [show nI (cnt T b) - 1 = nI (cnt T b - 1) from nI_subs (b := 1) (by omega), Int32.sub_zero]) (by omega)
        rw [Int32.sub_zero] at a2
        refine ⟨J3, ev_mono (ev_and u1 (ev_and a1 (q_rank hwb k9 hT2 h1))) (fun N hN => ?_), a2, wrK_trans (uKp_wrK u2) (rK_wrK a3)⟩
        unfold FM_packed
        rw [hN.1, qb_some, qk_t (qi_nI b160 (by omega)), nI_clamp (by omega), qk_t (qi_nI (by omega) (by omega)), nI_clamp (by omega)]
        simp only [hT2 4 b (by omega) (by omega), wrK_c hk2 (c := 22) i (by omega), g22]
        rw [if_neg (by rw [k9]; decide), if_neg (by rw [k9]; decide), if_neg (by rw [k9]; decide), if_pos k9, hN.2.2, qb_some, qk_t (qi_nI b160 (by omega)), hT2 8 b (by omega) (by omega), w1, hN.2.1, qb_some]
      · have hH1 := (pH_app (b1 := [mkP t b (nI k) wh par o 0 (b1.length + 1)]) (o1 := []) hH).2
        have hwc := (w3 k h1).2
        have hnl := pnum_len (nI (jRank T b k (cnt T b))) (cnt T b - 1) bs.length
        obtain ⟨P, l, p1, p2, p3, p4, p5⟩ := wv_hd hwc h3
        have h1l : 1 ≤ b1.length := by rw [p1]; simp
        refine hB _ _ _ _ _ _ _ _ _ _ _ tot hwc (by omega) h3 (pH_wrK hk hH1) hq1 (by rw [List.length_append]; omega) (lfW_mono hk ?_)
        exact lfW_child (t0 := t) (n0 := n) (b := b) g1 (by omega) (by omega) g21 hw hn6 hbas (by rw [← p1]; exact hH1.2.1) p2 p3 (fun z => by rw [k9] at z; exact absurd z (by decide)) (fun z => by have := z.1; rw [k9] at this; exact absurd this (by decide))
    · subst h2
      have g21 : J 21 i = nI t := (g2 0 _ rfl).1
      have g26 : J 26 i = nI (b1.length + 1) := g3 0 _ rfl
      simp only [List.length_cons] at g6 hle ⊢
      obtain ⟨w1, w2, w3⟩ := hwb.2.2.2.2.2.2.2.2.1 (Or.inl k6)
      have hH1 := (pH_app (b1 := [mkP t b (nI num) wh par o sh (b1.length + 1)]) (o1 := []) hH).2
      have hH1' : pH T J tot (i + 1) o b1 os := hH1
      obtain ⟨hml, _⟩ := wvc_pk (fun u t0 dg par wh i o blk os e pk hw hv => wv_pk m u t0 dg par wh i o blk os e pk hw hv) _ _ _ _ _ _ _ _ _ _ _ (fun j' hj' => (w3 j' (by omega)).2) h3
      rw [hpk, show b1.length + 1 = 1 + b1.length by omega]
      refine rZ_two (rZ_head hq (by omega) g7 g8 hlf (fun J1 hk hq1 => ?_)) (fun J1 hk hq1 => ?_)
      · obtain ⟨J2, u1, u2⟩ := hpb J1 hk (by omega) g21
        have hk2 := wrK_trans hk (uKp_wrK u2)
        have hT2 := wrK_ty hk2 g1
        obtain ⟨J3, ⟨n1, a1⟩, a2, a3⟩ := r_marks (iE := i + 1 + b1.length) (h := i) (t0 := t) (n0 := n) (show m ≤ 6 by omega) k6 b160 hw hn6 hbas (by omega) w1 w2 (fun j' hj' => (w3 j' hj').2) (by omega) (by omega) (cnt T b) 0 (i + 1) o b1 os c ma k1 num sh J2 bs h3 (by omega) rfl hT2 (mH_wrK hk2 hH1'.2.1) (pBel_wrK hk2 hH1'.2.2.1) (by rw [wrK_c hk2 i (by omega), g26, show i + 1 + b1.length - i = b1.length + 1 by omega]) (by rw [wrK_c hk2 i (by omega)]; exact g21) (rW_uKp u2 hq1) (by omega)
        refine ⟨J3, ev_mono (ev_and u1 ⟨n1 + (cnt T b + 1), fun N hN => a1 N (by omega) N (by omega)⟩) (fun N hN => ?_), a2, wrK_trans (uKp_wrK u2) a3⟩
        have hN2 : qfix (FM_marks_7 N (nI i) (nI b)) N (nI (i + 1), 0, J2) = some ((), J3) := hN.2
        unfold FM_packed FM_marks
        rw [hN.1, qb_some, qk_t (qi_nI b160 (by omega)), nI_clamp (by omega), qk_t (qi_nI (by omega) (by omega)), nI_clamp (by omega)]
        simp only [hT2 4 b (by omega) (by omega)]
        rw [if_neg (by rw [k6]; decide), if_neg (by rw [k6]; decide), if_neg (by rw [k6]; decide), if_neg (by rw [k6]; decide), if_pos k6, nI_p1, hN2, qb_some]
      · exact rZ_comps hB (by omega) k6 hw hn6 hbas (by omega) _ _ _ _ _ _ _ _ _ _ _ J1 _ tot h3 (fun j' hj' => (w3 j' (by omega)).2) (by omega) (pH_wrK hk hH1') hq1 (by show (bs ++ ma).length + _ + _ ≤ _; rw [List.length_append]; omega) (by rw [wrK_c hk i (by omega)]; exact g21)
    · subst h2
      have g21 : J 21 i = nI t := (g2 0 _ rfl).1
      have g22 : J 22 i = nI q := (g2 0 _ rfl).2.1
      simp only [List.length_cons] at g6 hle ⊢
      have hH1 := (pH_app (b1 := [mkP t b (nI q) wh par o 0 (b1.length + 1)]) (o1 := []) hH).2
      have hnl := pcount_len (T := T) (t := b) (nI q) bs.length
      rw [hpk, show b1.length + 1 = 1 + b1.length by omega]
      refine rZ_two (rZ_head hq (by omega) g7 g8 hlf (fun J1 hk hq1 => ?_)) (fun J1 hk hq1 => ?_)
      · obtain ⟨J2, u1, u2⟩ := hpb J1 hk (by omega) g21
        have hk2 := wrK_trans hk (uKp_wrK u2)
        have hT2 := wrK_ty hk2 g1
        obtain ⟨J3, a1, a2, a3⟩ := r_count (v := nI q) hwb hT2 (rW_uKp u2 hq1) (by omega)
        refine ⟨J3, ev_mono (ev_and u1 a1) (fun N hN => ?_), a2, wrK_trans (uKp_wrK u2) (rK_wrK a3)⟩
        unfold FM_packed
        rw [hN.1, qb_some, qk_t (qi_nI b160 (by omega)), nI_clamp (by omega), qk_t (qi_nI (by omega) (by omega)), nI_clamp (by omega)]
        simp only [hT2 4 b (by omega) (by omega), wrK_c hk2 (c := 22) i (by omega), g22]
        rw [if_neg (by rw [k7]; decide), if_neg (by rw [k7]; decide), if_pos k7, hN.2, qb_some]
      · exact rZ_items hB (by omega) (by rw [k7]; decide) hw hn6 hbas (by omega) (hwb.2.2.2.2.2.2.1 k7).2 _ _ _ _ _ _ _ _ J1 _ tot h3 (pH_wrK hk hH1) hq1 (by rw [List.length_append]; omega) (by rw [wrK_c hk i (by omega)]; exact g21)
    · subst h2
      have g21 : J 21 i = nI t := (g2 0 _ rfl).1
      have g22 : J 22 i = v := (g2 0 _ rfl).2.1
      have g25 : J 25 i = nI o := (g2 0 _ rfl).2.2.2.2
      simp only [List.length_singleton] at g6 hle ⊢
      refine rZ_head hq (by omega) g7 g8 hlf (fun J1 hk hq1 => ?_)
      obtain ⟨J2, u1, u2⟩ := hpb J1 hk (by omega) g21
      have hk2 := wrK_trans hk (uKp_wrK u2)
      have hT2 := wrK_ty hk2 g1
      have hq2 := rW_uKp u2 hq1
      have hu : ∀ N, FM_baseOf N (nI i) J1 = some (nI b, J2) → FM_packed N (nI i) J1 = if T 4 b = 1 then FM_bring N v 1 J2 else if T 4 b = 4 then qb (FM_bringCount N v (nI b) J2) (fun v21 J22 => if J22 11 b = 0 then qfix (FM_packed_94 N (nI i) v) N (0, J22) else if v ≤ 0 then qfix (FM_packed_94 N (nI i) v) N (0, J22) else if J22 5 b = J22 6 b then (if J22 6 b ≤ 2 then qfix (FM_packed_94 N (nI i) v) N (0, J22) else FM_packed_87 N (nI i) v J22) else FM_packed_87 N (nI i) v J22) else if T 4 b = 7 then FM_bringCount N v (nI b) J2 else if T 4 b = 9 then qb (FM_rank N (nI b) v J2) (fun v14 J15 => FM_bringOf N v14 0 (J15 8 b - 1) J15) else if T 4 b = 6 then FM_marks N (nI i) (nI b) J2 else if T 4 b = 5 then FM_packed_225 N (T 4 b) v J2 else if T 11 b = 0 then FM_packed_225 N (T 4 b) v J2 else FM_bringOf N v (T 5 b) (T 6 b) J2 := by
        intro N hN
        have hid : ∀ x : Option (Unit × zJ), (qb x fun v J => some ((), J)) = x := fun x => qb_id x
        unfold FM_packed
        rw [hN, qb_some]
        simp only [qk_t (qi_nI b160 (show 160 < 2 ^ 31 by omega)), nI_clamp (show b < 2 ^ 31 by omega), qk_t (qi_nI (show i < 100 by omega) (show 100 < 2 ^ 31 by omega)), nI_clamp (show i < 2 ^ 31 by omega), hT2 4 b (by omega) (by omega), hT2 5 b (by omega) (by omega), hT2 6 b (by omega) (by omega), hT2 11 b (by omega) (by omega), wrK_c hk2 (c := 22) i (by omega), g22, hid]
      rcases h3 with ⟨k1, hvv, _, _, hpk⟩ | ⟨k2, _, _, hpk⟩ | ⟨k4, hvv, hol, hob, _, hpk⟩ | ⟨k5, hvv, _, _, hpk⟩
      · obtain ⟨J3, a1, a2, a3⟩ := r_bring hq2 v 1 (by omega) (by omega)
        refine ⟨J3, ev_mono (ev_and u1 a1) (fun N hN => ?_), by rw [hpk]; exact a2, wrK_trans (uKp_wrK u2) (rK_wrK a3)⟩
        rw [hu N hN.1, if_pos k1]
        exact hN.2
      · have n1 : ¬ T 4 b = 1 := by rw [k2]; decide
        have n4 : ¬ T 4 b = 4 := by rw [k2]; decide
        have n7 : ¬ T 4 b = 7 := by rw [k2]; decide
        have n9 : ¬ T 4 b = 9 := by rw [k2]; decide
        have n6 : ¬ T 4 b = 6 := by rw [k2]; decide
        have n5 : ¬ T 4 b = 5 := by rw [k2]; decide
        simp only [if_neg n1, if_neg n4, if_neg n7, if_neg n9, if_neg n6, if_neg n5] at hu
        rw [hpk]
        unfold pint
        rcases hwb.2.2.1 with h0 | h1
        · rw [if_neg (by rw [h0]; decide)]
          have hby := byC_le v
          have hp := ppad_len bs.length
          obtain ⟨J3, a1, a2, a3⟩ := r_fill hq2 (by omega)
          obtain ⟨J4, b1, b2, b3⟩ := r_bring a2 (nI (byC v)) 8 (by omega) (by rw [List.length_append]; omega)
          obtain ⟨J5, c1, c2, c3⟩ := r_bring b2 v (8 * byC v) (by omega) (by rw [List.length_append, List.length_append, ibits_len]; omega)
          refine ⟨J5, ev_mono (ev_and u1 (ev_and b1 c1)) (fun N hN => ?_), ?_, wrK_trans (uKp_wrK u2) (rK_wrK (rK_trans a3 (rK_trans b3 c3)))⟩
          · have hN1 : FM_bring N (nI (byC v)) 8 J3 = some ((), J4) := hN.2.1
            rw [hu N hN.1, if_pos h0]
            unfold FM_packed_225
            rw [if_neg n5, a1, qb_some, FM_bytesOf_eq, qc_some, hN1, qb_some, qc_some, show (8 : Int32) * nI (byC v) = nI (8 * byC v) from nI_mul 8 _, hN.2.2, qb_some]
          · unfold pcat pbits
            rw [← List.append_assoc, ← List.append_assoc]
            exact c2
        · rw [if_pos h1]
          obtain ⟨r1, r2⟩ := rng_I hwb h1
          obtain ⟨J3, a1, a2, a3⟩ := r_num (v := v) hq2 r2 r1 (by omega)
          refine ⟨J3, ev_mono (ev_and u1 a1) (fun N hN => ?_), a2, wrK_trans (uKp_wrK u2) (rK_wrK a3)⟩
          rw [hu N hN.1, if_neg (by rw [h1]; decide), hN.2]
      · have n1 : ¬ T 4 b = 1 := by rw [k4]; decide
        simp only [if_neg n1, if_pos k4] at hu
        have hcl := pcount_len (T := T) (t := b) v bs.length
        obtain ⟨J3, a1, a2, a3⟩ := r_count (v := v) hwb hT2 hq2 (by omega)
        have hk3 : wrK J J3 := wrK_trans hk2 (rK_wrK a3)
        have hT3 := wrK_ty hk3 g1
        have hl0 : (v ≤ 0) ↔ os = [] := by
          rw [hvv, show (0 : Int32) = nI 0 from rfl, nI_leI (by omega) (by omega)]
          constructor
          · intro z; exact List.length_eq_zero_iff.mp (by omega)
          · intro z; rw [z]; exact Nat.le_refl _
        have e62 : (T 6 b ≤ 2) ↔ (T 6 b).toInt ≤ 2 := by rw [Int32.le_iff_toInt_le]; exact Iff.rfl
        have hoc : ∀ J4 bs4, wrK J J4 → rW J4 bs4 → bs4.length ≤ bs.length + 30 → ∃ J', Ev (fun N => qfix (FM_packed_94 N (nI i) v) N (0, J4) = some ((), J')) ∧ rW J' (bs4 ++ os.flatMap (fun b => ibits (nI b) 8)) ∧ rK J4 J' := by
          intro J4 bs4 hk4 hq4 hl4
          obtain ⟨J', ⟨n1, c1⟩, c2, c3⟩ := r_octs (i := i) (o := o) (os := os) (by omega) g5 os.length 0 J4 bs4 (by omega) (by rw [wrK_c hk4 i (by omega)]; exact g25) (mO_wrK hk4 g4) hq4 (by omega)
          refine ⟨J', ⟨n1 + (os.length + 1), fun N hN => ?_⟩, c2, c3⟩
          dsimp only
          rw [hvv]
          exact c1 N (by omega) N (by omega)
        have hp87 : ∀ N, FM_packed_87 N (nI i) v J3 = qb (FM_fill N J3) (fun v1 J2 => qfix (FM_packed_94 N (nI i) v) N (0, J2)) := fun N => rfl
        have hu2 : ∀ N, FM_baseOf N (nI i) J1 = some (nI b, J2) → FM_bringCount N v (nI b) J2 = some ((), J3) → FM_packed N (nI i) J1 = if os ≠ [] ∧ alnd T b = true ∧ T 11 b = 1 then FM_packed_87 N (nI i) v J3 else qfix (FM_packed_94 N (nI i) v) N (0, J3) := by
          intro N hN1 hN2
          rw [hu N hN1, hN2, qb_some]
          simp only [hT3 11 b (by omega) (by omega), hT3 5 b (by omega) (by omega), hT3 6 b (by omega) (by omega), hl0, e62]
          rcases hwb.2.2.1 with h0 | h1
          · rw [if_pos h0, if_neg (fun z => by have := z.2.2; rw [h0] at this; exact absurd this (by decide))]
          · rw [if_neg (by rw [h1]; decide)]
            by_cases z1 : os = []
            · rw [if_pos z1, if_neg (fun z => z.1 z1)]
            · rw [if_neg z1]
              by_cases z2 : T 5 b = T 6 b
              · rw [if_pos z2]
                by_cases z3 : (T 6 b).toInt ≤ 2
                · rw [if_pos z3, if_neg (fun z => (of_decide_eq_true z.2.1) ⟨h1, z2, z3⟩)]
                · rw [if_neg z3, if_pos ⟨z1, decide_eq_true (fun z => z3 z.2.2), h1⟩]
              · rw [if_neg z2, if_pos ⟨z1, decide_eq_true (fun z => z2 z.2.1), h1⟩]
        have hpk' : pk = pcat (pcount T b v) (pcat (if os ≠ [] ∧ alnd T b = true then ppad else pnil) (fun _ => os.flatMap (fun b => ibits (nI b) 8))) := by rw [hpk, hvv]; rfl
        by_cases cc : os ≠ [] ∧ alnd T b = true
        · -- padded: where the count is unlimited, the bits stand at a byte already
          rw [if_pos cc] at hpk'
          have hp7 := ppad_len (bs ++ pcount T b v bs.length).length
          obtain ⟨J4, b1, b2, b3⟩ := r_fill a2 (by rw [List.length_append]; omega)
          have hk4 : wrK J J4 := wrK_trans hk3 (rK_wrK b3)
          obtain ⟨J5, c1, c2, c3⟩ := hoc J4 _ hk4 b2 (by rw [List.length_append (as := bs ++ pcount T b v bs.length)]; have := List.length_append (as := bs) (bs := pcount T b v bs.length); omega)
          refine ⟨J5, ev_mono (ev_and u1 (ev_and a1 c1)) (fun N hN => ?_), ?_, wrK_trans (uKp_wrK u2) (rK_wrK (rK_trans a3 (rK_trans b3 c3)))⟩
          · rw [hu2 N hN.1 hN.2.1]
            rcases hwb.2.2.1 with h0 | h1
            · rw [if_neg (fun z => by have := z.2.2; rw [h0] at this; exact absurd this (by decide))]
              have h8 : (bs ++ pcount T b v bs.length).length % 8 = 0 := by
                unfold pcount
                rw [if_neg (by rw [h0]; decide)]
                unfold pcat pbits ppad
                simp only [List.length_append, ibits_len, List.length_replicate]
                omega
              have hfz : J4 = J3 := by
                have := b1 N
                unfold FM_fill at this
                have e8 : nI (bs ++ pcount T b v bs.length).length / 8 = nI ((bs ++ pcount T b v bs.length).length / 8) := by
                  rw [show (8 : Int32) = nI 8 from rfl, nI_div (by rw [List.length_append]; omega) (by omega)]
                have e7 : nI (bs ++ pcount T b v bs.length).length - nI ((bs ++ pcount T b v bs.length).length / 8) * 8 = 0 := by
                  rw [show (8 : Int32) = nI 8 from rfl, nI_mul, nI_subs (by omega), show (bs ++ pcount T b v bs.length).length - (bs ++ pcount T b v bs.length).length / 8 * 8 = 0 by omega]
                  rfl
                rw [a2.1, e8, e7, if_pos (by decide)] at this
                injection this with this
                injection this with _ this
                exact this.symm
              rw [← hfz]
              exact hN.2.2
            · rw [if_pos ⟨cc.1, cc.2, h1⟩, hp87, b1, qb_some, hN.2.2]
          · rw [hpk']
            show rW J5 (bs ++ (pcount T b v bs.length ++ (ppad (bs.length + (pcount T b v bs.length).length) ++ os.flatMap (fun b => ibits (nI b) 8))))
            rw [← List.append_assoc, ← List.append_assoc, ← List.length_append]
            exact c2
        · rw [if_neg cc] at hpk'
          obtain ⟨J5, c1, c2, c3⟩ := hoc J3 _ hk3 a2 (by rw [List.length_append]; omega)
          refine ⟨J5, ev_mono (ev_and u1 (ev_and a1 c1)) (fun N hN => ?_), ?_, wrK_trans (uKp_wrK u2) (rK_wrK (rK_trans a3 c3))⟩
          · rw [hu2 N hN.1 hN.2.1, if_neg (fun z => cc ⟨z.1, z.2.1⟩), hN.2.2]
          · rw [hpk']
            show rW J5 (bs ++ (pcount T b v bs.length ++ ([] ++ os.flatMap (fun b => ibits (nI b) 8))))
            rw [List.nil_append, ← List.append_assoc]
            exact c2
      · have n1 : ¬ T 4 b = 1 := by rw [k5]; decide
        have n4 : ¬ T 4 b = 4 := by rw [k5]; decide
        have n7 : ¬ T 4 b = 7 := by rw [k5]; decide
        have n9 : ¬ T 4 b = 9 := by rw [k5]; decide
        have n6 : ¬ T 4 b = 6 := by rw [k5]; decide
        refine ⟨J2, ev_mono u1 (fun N hN => ?_), by rw [hpk]; unfold pnil; rw [List.append_nil]; exact hq2, uKp_wrK u2⟩
        rw [hu N hN, if_neg n1, if_neg n4, if_neg n7, if_neg n9, if_neg n6, if_pos k5]
        unfold FM_packed_225
        rw [if_pos k5]
theorem m_write2 {T J : zJ} {t : Nat} {blk : List Pt} {os e : List Nat} {pk : PK} (hw : wfT T 6 t) (hv : WV T 6 t t none (-1) 0 0 0 blk os e pk) (hT : tyEq T J) (hH : mH J 0 blk) (hB : pBel J 0 blk) (hO : mO J 0 os) (ho : os.length ≤ 120) (hl : blk.length ≤ 100) (h34 : J 0 34 = nI blk.length) :
    ∃ J', Ev (fun N => FM_write N 2 J = some ((), J')) ∧ J' 0 29 = nI (pkB (pkA pk)).length ∧ (pkB (pkA pk)).length ≤ 2920 ∧ (∀ k b, (pkB (pkA pk))[k]? = some b → J' 20 k = nI b) ∧ wrK J J' := by
  have hne := wv_ne _ _ _ _ _ _ _ _ _ _ _ _ hv
  have hpl := wv_pk _ _ _ _ _ _ _ _ _ _ _ _ hw hv 0
  let J4 := zu (zu (zu (zu J 0 30 0) 0 29 4000) 27 blk.length (nI 4000)) 0 29 0
  have hz : ∀ c k, ¬ (c = 0 ∧ (k = 29 ∨ k = 30)) → ¬ (c = 27 ∧ k = blk.length) → J4 c k = J c k := fun c k h1 h2 => by
    show zu (zu (zu (zu J 0 30 0) 0 29 4000) 27 blk.length (nI 4000)) 0 29 0 c k = _
    rw [zu_at, if_neg (by omega), zu_at, if_neg h2, zu_at, if_neg (by omega), zu_at, if_neg (by omega)]
  have hk4 : wrK J J4 := fun c k c1 c2 c3 c4 c5 => hz c k (by omega) (by omega)
  have hq4 : rW J4 [] := by
    refine ⟨?_, fun b hb => by simp at hb⟩
    show zu (zu (zu (zu J 0 30 0) 0 29 4000) 27 blk.length (nI 4000)) 0 29 0 0 30 = _
    rw [zu_at, if_neg (by omega), zu_at, if_neg (by omega), zu_at, if_neg (by omega), zu_self]
    rfl
  have hH4 : pH T J4 blk.length 0 0 blk os := pH_wrK hk4 ⟨hT, hH, hB, hO, by omega, by omega, hl, h34⟩
  have hlf : lfW J4 0 := by
    intro J' hk
    obtain ⟨P, l, p1, p2, _⟩ := wv_hd hw hv
    have := (mH_wrK hk hH4.2.1) 0 P (by rw [p1]; rfl)
    have h24 : J' 24 0 = -1 := by rw [← p2]; exact this.2.2.2.1
    exact ⟨J', ev_of (fun N => m_left0 (i := 0) (by omega) h24 N), fun c k _ _ _ => rfl⟩
  obtain ⟨J5, a1, a2, a3⟩ := rBl_all 6 t (-1) 0 0 0 blk os e pk J4 [] blk.length hw (by omega) hv hH4 hq4 (by simp; omega) hlf
  have a2 : rW J5 (pk 0) := a2
  have h345 : J5 0 34 = nI blk.length := by rw [a3 0 34 (by omega) (by omega) (by omega) (by omega) (by omega), hk4 0 34 (by omega) (by omega) (by omega) (by omega) (by omega)]; exact h34
  -- a byte at least
  obtain ⟨J6, b1, b2, b3⟩ : ∃ J6, Ev (fun N => qfix (FM_write_125 N) 1 (nI blk.length, J5) = FM_write_166 N J6) ∧ rW J6 (pkA pk) ∧ wrK J5 J6 := by
    unfold pkA
    by_cases c : pk 0 = []
    · rw [if_pos c]
      rw [c] at a2
      obtain ⟨J6, c1, c2, c3⟩ := r_bring a2 0 8 (by omega) (by simp)
      refine ⟨J6, ev_mono c1 (fun N hN => ?_), c2, rK_wrK c3⟩
      have hN : FM_bring N 0 8 J5 = some ((), J6) := hN
      rw [qfix_s]
      simp only [FM_write_125]
      rw [h345, if_pos (by rw [nI_leI (by omega) (by omega)]; omega), a2.1, if_pos (by decide), hN, qb_some]
    · rw [if_neg c]
      refine ⟨J5, ev_of (fun N => ?_), a2, wrK_refl J5⟩
      have hlen : 0 < (pk 0).length := List.length_pos_iff.mpr c
      rw [qfix_s]
      simp only [FM_write_125]
      rw [h345, if_pos (by rw [nI_leI (by omega) (by omega)]; omega), a2.1, if_neg (by rw [show (0 : Int32) = nI 0 from rfl, nI_eq (by omega) (by omega)]; omega)]
  have hlA : (pkA pk).length ≤ 7400 := by
    unfold pkA
    split
    · simp
    · omega
  have hlB : (pkB (pkA pk)).length = ((pkA pk).length + 7) / 8 := by unfold pkB; rw [List.length_map, List.length_range]
  refine ⟨zu J6 0 29 (nI (pkB (pkA pk)).length), ?_, zu_self _ _ _ _, by rw [hlB]; omega, fun k b hk => ?_, wrK_trans hk4 (wrK_trans a3 (wrK_trans b3 (fun c k c1 c2 c3 c4 c5 => by rw [zu_at, if_neg (by omega)])))⟩
  · refine ev_mono (ev_and (ev_and a1 b1) (⟨200, fun N hN => hN⟩ : Ev (fun N => 200 ≤ N))) (fun N hN => ?_)
    have h166 : FM_write_166 N J6 = some ((), zu J6 0 29 (nI (pkB (pkA pk)).length)) := by
      unfold FM_write_166
      rw [b2.1, show (7 : Int32) = nI 7 from rfl, nI_add, show (8 : Int32) = nI 8 from rfl, nI_div (by omega) (by omega), hlB]
    have h125 : qfix (FM_write_125 N) N (0, J4) = some ((), zu J6 0 29 (nI (pkB (pkA pk)).length)) := by
      obtain ⟨F, hF⟩ : ∃ F, N = F + 1 + blk.length := ⟨N - 1 - blk.length, by have := hN.2; omega⟩
      have h1 := hN.1.1 (F + 1)
      rw [Nat.zero_add, Nat.sub_zero, ← hF] at h1
      have h2 : qfix (FM_write_125 N) (F + 1) (nI blk.length, J5) = qfix (FM_write_125 N) 1 (nI blk.length, J5) := by
        rw [qfix_s, qfix_s]
        have hle : nI blk.length ≤ nI blk.length := by rw [nI_leI (by omega) (by omega)]; omega
        simp only [FM_write_125, h345, if_pos hle]
      have h1' : qfix (FM_write_125 N) N (0, J4) = qfix (FM_write_125 N) (F + 1) (nI blk.length, J5) := h1
      rw [h1', h2, hN.1.2, h166]
    unfold FM_write
    simp only
    have e34 : zu (zu J 0 30 0) 0 29 4000 0 34 = nI blk.length := by rw [zu_at, if_neg (by omega), zu_at, if_neg (by omega), h34]
    have e29 : zu (zu J 0 30 0) 0 29 4000 0 29 = nI 4000 := by rw [zu_self]; rfl
    rw [e34, qk_t (qi_nI (by omega) (by omega)), nI_clamp (by omega), e29]
    rw [show zu (zu (zu J 0 30 0) 0 29 4000) 27 blk.length (nI 4000) 0 34 = nI blk.length from by rw [zu_at, if_neg (by omega), e34], show nI blk.length - 1 = nI (blk.length - 1) from nI_subs (b := 1) (by omega)]
    have e29' : zu (zu (zu J 0 30 0) 0 29 4000) 27 blk.length (nI 4000) 0 29 = nI 4000 := by rw [zu_at, if_neg (by omega), e29]
    obtain ⟨G, hG⟩ : ∃ g, N = g + 1 := ⟨N - 1, by have := hN.2; omega⟩
    have h75 : ∀ G, qfix (FM_write_75 N 2) (G + 1) (nI 4000, zu (zu (zu J 0 30 0) 0 29 4000) 27 blk.length (nI 4000)) = some ((), zu J6 0 29 (nI (pkB (pkA pk)).length)) := by
      intro G
      rw [qfix_s]
      simp only [FM_write_75]
      rw [show (4000 : Int32) = nI 4000 from rfl, if_pos (by rw [nI_leI (by omega) (by omega)]; omega)]
      have e29'' : zu (zu (zu J 0 30 0) 0 29 (nI 4000)) 27 blk.length (nI 4000) 0 29 = nI 4000 := e29'
      rw [e29'', show nI 4000 - nI 4000 = 0 from by decide, if_neg (by decide)]
      exact h125
    have h32 : ∀ G, qfix (FM_write_32 N 2) (G + 1) (nI (blk.length - 1), zu (zu (zu J 0 30 0) 0 29 4000) 27 blk.length (nI 4000)) = qfix (FM_write_75 N 2) N (nI 4000, zu (zu (zu J 0 30 0) 0 29 4000) 27 blk.length (nI 4000)) := by
      intro G
      rw [qfix_s]
      simp only [FM_write_32]
      rw [if_neg (by rw [show (0 : Int32) = nI 0 from rfl, nI_ltI (by omega) (by omega)]; omega), if_neg (by decide), e29']
    have hN1 : qfix (FM_write_32 N 2) N (nI (blk.length - 1), zu (zu (zu J 0 30 0) 0 29 4000) 27 blk.length (nI 4000)) = qfix (FM_write_75 N 2) N (nI 4000, zu (zu (zu J 0 30 0) 0 29 4000) 27 blk.length (nI 4000)) := by
      have := h32 G
      rw [← hG] at this
      exact this
    have hN2 := h75 G
    rw [← hG] at hN2
    rw [hN1, hN2]
  · have hlt : k < (pkB (pkA pk)).length := (List.getElem?_eq_some_iff.mp hk).1
    rw [hlB] at hlt
    rw [zu_at, if_neg (by omega), b2.2 k (by omega)]
    unfold pkB at hk
    rw [List.getElem?_map, List.getElem?_range hlt] at hk
    injection hk with hk
    rw [hk]
