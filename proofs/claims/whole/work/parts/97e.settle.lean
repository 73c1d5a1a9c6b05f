/-! THE REFERENCE: how many parts each part is -/
def TRs (rc : Int32 → Nat → List Pt → Prop) (par : Int32) : List (List Pt) → Nat → Prop
  | [], _ => True
  | k :: ks, i => rc par i k ∧ TRs rc par ks (i + k.length)
def TR : Nat → Int32 → Nat → List Pt → Prop
  | 0 => fun _ _ _ => False
  | n + 1 => fun par i blk => ∃ P kids, blk = P :: List.flatten kids ∧ pA P = par ∧ pM P = blk.length ∧ TRs (TR n) (nI i) kids (i + 1)
theorem TRs_mono {rc rc' : Int32 → Nat → List Pt → Prop} (h : ∀ par i b, rc par i b → rc' par i b) {par : Int32} : ∀ ks i, TRs rc par ks i → TRs rc' par ks i := by
  intro ks
  induction ks with
  | nil => intro i _; trivial
  | cons k ks ih => intro i hq; exact ⟨h _ _ _ hq.1, ih _ hq.2⟩
theorem TR_mono : ∀ n par i b, TR n par i b → TR (n + 1) par i b := by
  intro n
  induction n with
  | zero => intro par i b h; exact h.elim
  | succ n ih =>
    intro par i b h
    obtain ⟨P, kids, h1, h2, h3, h4⟩ := h
    exact ⟨P, kids, h1, h2, h3, TRs_mono ih kids (i + 1) h4⟩
theorem wvc_tr {T : zJ} {n t : Nat} {par : Int32} (ih : ∀ t t0 dg par wh i o blk os e pk, WV T n t t0 dg par wh i o blk os e pk → TR (n + 1) par i blk) : ∀ m j i o b os c ma pk num sh, WVC T (WV T n) t par m j i o b os c ma pk num sh → ∃ kids, b = List.flatten kids ∧ TRs (TR (n + 1)) par kids i := by
  intro m
  induction m with
  | zero =>
    intro j i o b os c ma pk num sh h
    obtain ⟨rfl, _⟩ := h
    exact ⟨[], rfl, trivial⟩
  | succ m ihm =>
    intro j i o b os c ma pk num sh h
    unfold WVC at h
    rcases h with ⟨_, ma', _, h⟩ | ⟨_, b', ma', num', hb, _, _, h⟩ | ⟨b1, os1, e1', k1, b', os', c', ma', pk', num', sh', hv, _, hb, _, _, _, _, _, _, h⟩
    · exact ihm _ _ _ _ _ _ _ _ _ _ h
    · obtain ⟨kids, h1, h2⟩ := ihm _ _ _ _ _ _ _ _ _ _ h
      refine ⟨[mkP (chd T (6 * t + j)) (bas T 6 (chd T (6 * t + j))) (T 15 (6 * t + j)) j par o 0 1] :: kids, ?_, ⟨_, [], rfl, rfl, rfl, trivial⟩, h2⟩
      rw [hb, h1]
      rfl
    · obtain ⟨kids, h1, h2⟩ := ihm _ _ _ _ _ _ _ _ _ _ h
      refine ⟨b1 :: kids, ?_, ih _ _ _ _ _ _ _ _ _ _ _ hv, h2⟩
      rw [hb, h1]
      rfl
theorem wvl_tr {T : zJ} {n u : Nat} {par : Int32} (ih : ∀ t t0 dg par wh i o blk os e pk, WV T n t t0 dg par wh i o blk os e pk → TR (n + 1) par i blk) : ∀ m k i o b os c pk, WVL (WV T n) u par m k i o b os c pk → ∃ kids, b = List.flatten kids ∧ TRs (TR (n + 1)) par kids i := by
  intro m
  induction m with
  | zero =>
    intro k i o b os c pk h
    obtain ⟨rfl, _⟩ := h
    exact ⟨[], rfl, trivial⟩
  | succ m ihm =>
    intro k i o b os c pk h
    obtain ⟨b1, os1, e1, k1, b', os', c', pk', hv, hb, _, _, _, h⟩ := h
    obtain ⟨kids, h1, h2⟩ := ihm _ _ _ _ _ _ _ h
    refine ⟨b1 :: kids, ?_, ih _ _ _ _ _ _ _ _ _ _ _ hv, h2⟩
    rw [hb, h1]
    rfl
theorem wv_tr {T : zJ} : ∀ n t t0 dg par wh i o blk os e pk, WV T n t t0 dg par wh i o blk os e pk → TR (n + 1) par i blk := by
  intro n
  induction n with
  | zero => intro t t0 dg par wh i o blk os e pk h; exact h.elim
  | succ n ih =>
    intro t t0 dg par wh i o blk os e pk h
    unfold WV WVb at h
    rcases h with ⟨_, _, e1, h, _⟩ | ⟨_, _, h⟩ | ⟨_, k, b1, k1, _, hb, h, _⟩ | ⟨_, num, sh, ma, b1, c, k1, hb, h, _⟩ | ⟨_, m, b1, c, k1, _, hb, h, _⟩ | ⟨v, hb, _⟩
    · exact TR_mono _ _ _ _ (ih _ _ _ _ _ _ _ _ _ _ _ h)
    · exact TR_mono _ _ _ _ (ih _ _ _ _ _ _ _ _ _ _ _ h)
    · exact ⟨mkP t0 t (nI k) wh par o 0 (b1.length + 1), [b1], by rw [hb]; simp, rfl, by rw [hb]; rfl, ih _ _ _ _ _ _ _ _ _ _ _ h, trivial⟩
    · obtain ⟨kids, h1, h2⟩ := wvc_tr ih _ _ _ _ _ _ _ _ _ _ _ h
      exact ⟨mkP t0 t (nI num) wh par o sh (b1.length + 1), kids, by rw [hb, ← h1], rfl, by rw [hb]; rfl, h2⟩
    · obtain ⟨kids, h1, h2⟩ := wvl_tr ih _ _ _ _ _ _ _ _ h
      exact ⟨mkP t0 t (nI m) wh par o 0 (b1.length + 1), kids, by rw [hb, ← h1], rfl, by rw [hb]; rfl, h2⟩
    · exact ⟨_, [], hb, rfl, by rw [hb]; rfl, trivial⟩
/-- parents of parts, and how many parts they are -/
def pPar (J : zJ) (i : Nat) (l : List Pt) : Prop := ∀ k P, l[k]? = some P → J 24 (i + k) = pA P
def pBel (J : zJ) (i : Nat) (l : List Pt) : Prop := ∀ k P, l[k]? = some P → J 26 (i + k) = nI (pM P)
def b26 (J J' : zJ) (i j : Nat) : Prop := ∀ c k, ¬ (c = 26 ∧ i ≤ k ∧ k < j) → J' c k = J c k
theorem pPar_app {J : zJ} {i : Nat} {l1 l2 : List Pt} (h : pPar J i (l1 ++ l2)) : pPar J i l1 ∧ pPar J (i + l1.length) l2 := by
  refine ⟨fun k P hP => ?_, fun k P hP => ?_⟩
  · exact h k P (by rw [List.getElem?_append_left (List.getElem?_eq_some_iff.mp hP).1]; exact hP)
  · have := h (l1.length + k) P (by rw [List.getElem?_append_right (by omega), Nat.add_sub_cancel_left]; exact hP)
    rw [← Nat.add_assoc] at this
    exact this
theorem pBel_app {J : zJ} {i : Nat} {l1 l2 : List Pt} (h1 : pBel J i l1) (h2 : pBel J (i + l1.length) l2) : pBel J i (l1 ++ l2) := by
  intro k P hk
  by_cases c : k < l1.length
  · rw [List.getElem?_append_left c] at hk; exact h1 k P hk
  · rw [List.getElem?_append_right (by omega)] at hk
    have := h2 (k - l1.length) P hk
    rw [show i + l1.length + (k - l1.length) = i + k by omega] at this
    exact this
/-- what stands behind a block is no child of a part of it -/
def behind (J : zJ) (tot i j : Nat) : Prop := j = tot ∨ (j < tot ∧ ∀ q, i ≤ q → q < j → J 24 j ≠ nI q)
theorem TR_ne : ∀ n par i b, TR n par i b → 1 ≤ b.length ∧ ∃ P l, b = P :: l ∧ pA P = par ∧ pM P = b.length := by
  intro n par i b h
  cases n with
  | zero => exact h.elim
  | succ n =>
    obtain ⟨P, kids, h1, h2, h3, h4⟩ := h
    exact ⟨by rw [h1]; simp, P, _, h1, h2, h3⟩
/-- along the children -/
theorem st_walk {n : Nat} {tot i : Nat} (K7 : (Int32 × zJ) → Option (Unit × zJ)) (hi : i < 100) (ht : tot ≤ 100) : ∀ ks s J, TRs (TR n) (nI i) ks s → i < s → s + (List.flatten ks).length ≤ tot → J 0 34 = nI tot → pPar J s (List.flatten ks) → pBel J s (List.flatten ks) → behind J tot i (s + (List.flatten ks).length) → ∀ N F, ks.length + 1 ≤ F → qfix (FM_settle_15 N K7 (nI i)) F (nI s, J) = FM_settle_45 N K7 (nI i) (nI (s + (List.flatten ks).length)) J := by
  intro ks
  induction ks with
  | nil =>
    intro s J _ hs ht' h34 _ _ hb N F hF
    obtain ⟨F, rfl⟩ : ∃ g, F = g + 1 := ⟨F - 1, by omega⟩
    rw [qfix_s]
    simp only [FM_settle_15]
    simp only [List.flatten_nil, List.length_nil, Nat.add_zero] at hb ht' ⊢
    rcases hb with hb | ⟨hb1, hb2⟩
    · rw [h34, if_pos (by rw [nI_leI (by omega) (by omega)]; omega)]
    · rw [h34, if_neg (by rw [nI_leI (by omega) (by omega)]; omega), qk_t (qi_nI (by omega) (by omega)), nI_clamp (by omega), if_neg (hb2 i (Nat.le_refl _) hs)]
  | cons k ks ih =>
    intro s J hT hs ht' h34 hP hB hb N F hF
    obtain ⟨hT1, hT2⟩ := hT
    obtain ⟨l1, P, l, l2, l3, l4⟩ := TR_ne n _ _ _ hT1
    rw [List.flatten_cons] at hP hB hb ht' ⊢
    rw [List.length_append] at ht' hb ⊢
    have h24 : J 24 s = nI i := by
      have := hP 0 P (by rw [l2]; rfl)
      rw [l3] at this
      exact this
    have h26 : J 26 s = nI k.length := by
      have := hB 0 P (by rw [l2]; rfl)
      rw [l4] at this
      exact this
    obtain ⟨F, rfl⟩ : ∃ g, F = g + 1 := ⟨F - 1, by omega⟩
    have hstep : qfix (FM_settle_15 N K7 (nI i)) (F + 1) (nI s, J) = qfix (FM_settle_15 N K7 (nI i)) F (nI (s + k.length), J) := by
      rw [qfix_s]
      simp only [FM_settle_15]
      rw [h34, if_neg (by rw [nI_leI (by omega) (by omega)]; omega), qk_t (qi_nI (by omega) (by omega)), nI_clamp (by omega), h24, if_pos rfl, qk_t (qi_nI (by omega) (by omega)), h26, nI_add]
    rw [hstep, ih (s + k.length) J hT2 (by omega) (by omega) h34 (pPar_app hP).2 (fun k' P' hk' => ?_) (by rw [← Nat.add_assoc] at hb; exact hb) N F (by simp at hF; omega), Nat.add_assoc]
    have := hB (k.length + k') P' (by rw [List.getElem?_append_right (by omega), Nat.add_sub_cancel_left]; exact hk')
    rw [← Nat.add_assoc] at this
    exact this
theorem kids_len {n : Nat} {par : Int32} : ∀ ks s, TRs (TR n) par ks s → ks.length ≤ (List.flatten ks).length := by
  intro ks
  induction ks with
  | nil => intro s _; simp
  | cons k ks ih =>
    intro s h
    have := (TR_ne n _ _ _ h.1).1
    have := ih _ h.2
    rw [List.flatten_cons, List.length_append, List.length_cons]
    omega
theorem b26_trans {J J1 J2 : zJ} {i j a b : Nat} (h1 : b26 J J1 i j) (h2 : b26 J1 J2 a b) (ha : i ≤ a) (hb : b ≤ j) : b26 J J2 i j := fun c k h => (h2 c k (by omega)).trans (h1 c k h)
theorem b26_w {J J1 : zJ} {i j a b : Nat} (h : b26 J J1 a b) (ha : i ≤ a) (hb : b ≤ j) : b26 J J1 i j := fun c k hn => h c k (by omega)
def stOne (tot n : Nat) : Prop := ∀ par i blk J, TR n par i blk → i + blk.length ≤ tot → J 0 34 = nI tot → pPar J i blk → behind J tot i (i + blk.length) → ∃ J', (∀ N F, 200 ≤ N → qfix (FM_settle_7 N) (F + blk.length) (nI (i + blk.length) + (-1), J) = qfix (FM_settle_7 N) F (nI i + (-1), J')) ∧ b26 J J' i (i + blk.length) ∧ pBel J' i blk
theorem behind_c {J J' : zJ} {tot i j a b : Nat} (hb : b26 J J' a b) (h : behind J tot i j) : behind J' tot i j := by
  rcases h with h | ⟨h1, h2⟩
  · exact Or.inl h
  · exact Or.inr ⟨h1, fun q q1 q2 => by rw [hb 24 j (by omega)]; exact h2 q q1 q2⟩
theorem pPar_c {J J' : zJ} {i a b : Nat} {l : List Pt} (hb : b26 J J' a b) (h : pPar J i l) : pPar J' i l := fun k P hk => by rw [hb 24 _ (by omega)]; exact h k P hk
theorem pBel_c {J J' : zJ} {i a b : Nat} {l : List Pt} (hb : b26 J J' a b) (hd : i + l.length ≤ a ∨ b ≤ i) (h : pBel J i l) : pBel J' i l := fun k P hk => by
  have := (List.getElem?_eq_some_iff.mp hk).1
  rw [hb 26 _ (by omega)]
  exact h k P hk
theorem st_kids {tot n i : Nat} (ht : tot ≤ 100) (h1 : stOne tot n) : ∀ ks s J, TRs (TR n) (nI i) ks s → i < s → s + (List.flatten ks).length ≤ tot → J 0 34 = nI tot → pPar J s (List.flatten ks) → behind J tot i (s + (List.flatten ks).length) → ∃ J', (∀ N F, 200 ≤ N → qfix (FM_settle_7 N) (F + (List.flatten ks).length) (nI (s + (List.flatten ks).length) + (-1), J) = qfix (FM_settle_7 N) F (nI s + (-1), J')) ∧ b26 J J' s (s + (List.flatten ks).length) ∧ pBel J' s (List.flatten ks) := by
  intro ks
  induction ks with
  | nil =>
    intro s J _ _ _ _ _ _
    exact ⟨J, fun N F _ => rfl, fun _ _ _ => rfl, fun k P hk => by simp at hk⟩
  | cons k ks ih =>
    intro s J hT hs ht' h34 hP hb
    obtain ⟨hT1, hT2⟩ := hT
    rw [List.flatten_cons] at hP hb ht' ⊢
    rw [List.length_append] at ht' hb ⊢
    obtain ⟨hP1, hP2⟩ := pPar_app hP
    obtain ⟨J1, a1, a2, a3⟩ := ih (s + k.length) J hT2 (by omega) (by omega) h34 hP2 (by rw [← Nat.add_assoc] at hb; exact hb)
    have hbk : behind J1 tot s (s + k.length) := by
      cases ks with
      | nil =>
        simp only [List.flatten_nil, List.length_nil, Nat.add_zero] at hb
        rcases hb with hb | ⟨hb1, hb2⟩
        · exact Or.inl hb
        · refine Or.inr ⟨hb1, fun q q1 q2 => ?_⟩
          rw [a2 24 _ (by omega)]
          exact hb2 q (by omega) q2
      | cons k2 ks2 =>
        obtain ⟨l1, P, l, l2, l3, l4⟩ := TR_ne n _ _ _ hT2.1
        rw [List.flatten_cons, List.length_append] at ht'
        refine Or.inr ⟨by omega, fun q q1 q2 => ?_⟩
        have h24 : J 24 (s + k.length) = nI i := by
          have := hP2 0 P (by rw [List.flatten_cons, l2]; rfl)
          rw [l3] at this
          exact this
        rw [a2 24 _ (by omega), h24, Ne, nI_eq (by omega) (by omega)]
        omega
    obtain ⟨J2, c1, c2, c3⟩ := h1 (nI i) s k J1 hT1 (by omega) (by rw [a2 0 34 (by omega)]; exact h34) (pPar_c a2 hP1) hbk
    refine ⟨J2, fun N F hN => ?_, b26_trans (b26_w a2 (by omega) (by omega)) c2 (by omega) (by omega), pBel_app c3 (pBel_c c2 (by omega) a3)⟩
    rw [show F + (k.length + (List.flatten ks).length) = (F + k.length) + (List.flatten ks).length by omega, show s + (k.length + (List.flatten ks).length) = s + k.length + (List.flatten ks).length by omega, a1 N _ hN, c1 N F hN]
theorem st_one {tot : Nat} (ht : tot ≤ 100) : ∀ n, stOne tot n := by
  intro n
  induction n with
  | zero => intro par i blk J h; exact h.elim
  | succ n ih =>
    intro par i blk J h hle h34 hP hb
    obtain ⟨P, kids, h1, h2, h3, h4⟩ := h
    subst h1
    simp only [List.length_cons] at hle hb h3 ⊢
    have hP2 := (pPar_app (l1 := [P]) hP).2
    obtain ⟨J1, a1, a2, a3⟩ := st_kids ht ih kids (i + 1) J h4 (by omega) (by omega) h34 hP2 (by rw [show i + 1 + (List.flatten kids).length = i + ((List.flatten kids).length + 1) by omega]; exact hb)
    have hkl := kids_len kids (i + 1) h4
    refine ⟨zu J1 26 i (nI ((List.flatten kids).length + 1)), fun N F hN => ?_, fun c k hn => ?_, fun k Q hk => ?_⟩
    · rw [show F + ((List.flatten kids).length + 1) = (F + 1) + (List.flatten kids).length by omega, show i + ((List.flatten kids).length + 1) = i + 1 + (List.flatten kids).length by omega, a1 N (F + 1) hN, nI_dec, qfix_s]
      simp only [FM_settle_7]
      rw [if_neg (by rw [show (0 : Int32) = nI 0 from rfl, nI_ltI (by omega) (by omega)]; omega), nI_p1, st_walk (tot := tot) (n := n) (qfix (FM_settle_7 N) F) (by omega) ht kids (i + 1) J1 h4 (by omega) (by omega) (by rw [a2 0 34 (by omega)]; exact h34) (pPar_c a2 hP2) a3 (behind_c a2 (by rw [show i + 1 + (List.flatten kids).length = i + ((List.flatten kids).length + 1) by omega]; exact hb)) N N (by omega)]
      unfold FM_settle_45
      rw [qk_t (qi_nI (by omega) (by omega)), nI_clamp (by omega), nI_subs (by omega), show i + 1 + (List.flatten kids).length - i = (List.flatten kids).length + 1 by omega]
    · rw [zu_at, if_neg (by omega), a2 c k (by omega)]
    · cases k with
      | zero =>
        simp at hk
        subst hk
        rw [zu_at, if_pos ⟨rfl, Nat.add_zero i⟩, h3]
      | succ k =>
        have := a3 k Q (by simpa using hk)
        rw [zu_at, if_neg (by omega), show i + (k + 1) = i + 1 + k by omega]
        exact this
/-- settle() -/
theorem m_settle {J : zJ} {n : Nat} {blk : List Pt} (hT : TR n (-1) 0 blk) (hl : blk.length ≤ 100) (h34 : J 0 34 = nI blk.length) (hP : pPar J 0 blk) : ∃ J', Ev (fun N => FM_settle N J = some ((), J')) ∧ (∀ c k, c ≠ 26 → J' c k = J c k) ∧ pBel J' 0 blk := by
  obtain ⟨J', a1, a2, a3⟩ := st_one (tot := blk.length) hl n (-1) 0 blk J hT (by omega) h34 hP (Or.inl (by omega))
  refine ⟨J', ⟨200, fun N hN => ?_⟩, fun c k hc => a2 c k (by omega), a3⟩
  unfold FM_settle
  obtain ⟨F, hF⟩ : ∃ F, N = (F + 1) + blk.length := ⟨N - blk.length - 1, by omega⟩
  have h := a1 N (F + 1) hN
  rw [← hF, Nat.zero_add] at h
  rw [h34, Int32.sub_eq_add_neg]
  refine h.trans ?_
  rw [qfix_s]
  simp only [FM_settle_7]
  rw [if_pos (by decide)]
