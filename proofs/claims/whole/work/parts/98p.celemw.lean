/-! THE CLASS writes packed bits: values -/
theorem QW_nx {D : zJ} {st nx : Nat} {bs : List Bool} (h : QW D st nx bs) (y : Nat) : QW (zu D 27 3 (nI y)) st y bs := by
  obtain ⟨h1, h2, h3⟩ := h
  refine ⟨zu_self _ _ _ _, h2, ?_⟩
  rcases h3 with ⟨a1, a2, a3, a4⟩ | ⟨a1, a2, q, a3, a4⟩
  · exact Or.inl ⟨a1, by rw [zu_at, if_neg (by omega)]; exact a2, by rw [zu_at, if_neg (by omega)]; exact a3, fun b hb => by rw [zu_at, if_neg (by omega)]; exact a4 b hb⟩
  · exact Or.inr ⟨a1, by rw [zu_at, if_neg (by omega)]; exact a2, q, a3, by rw [zu_at, if_neg (by omega)]; exact a4⟩
theorem qP_nx {D D' : zJ} {st nx' : Nat} {bs : List Bool} {pk : PK} {x : Int32} (h : qP (zu D 27 3 x) D' st nx' bs pk) : qP D D' st nx' bs pk := by
  obtain ⟨h1, h2, h3⟩ := h
  exact ⟨h1, wK2_trans wK2_27 h2, fun hl k hk => by rw [h3 hl k hk, zu_at, if_neg (by omega)]⟩
theorem qP_cong {D D' : zJ} {st nx' : Nat} {bs : List Bool} {pk pk' : PK} (h : qP D D' st nx' bs pk) (e : pk bs.length = pk' bs.length) : qP D D' st nx' bs pk' := by
  unfold qP at h ⊢
  rw [← e]
  exact h
theorem sH_wK2 {T D D' : zJ} {tot i o : Nat} {blk : List Pt} {os : List Nat} (hk : wK2 D D') (h : sH T D tot i o blk os) : sH T D' tot i o blk os := by
  obtain ⟨h1, h2, h3, h4, h5, h6⟩ := h
  refine ⟨by rw [hk 16 (by omega) (by omega)]; exact h1, h2, h3, fun k P hP => ?_, fun k b hb => ?_, h6⟩
  · rw [hk 17 (by omega) (by omega), hk 18 (by omega) (by omega), hk 19 (by omega) (by omega), hk 20 (by omega) (by omega), hk 21 (by omega) (by omega), hk 22 (by omega) (by omega)]
    exact h4 k P hP
  · rw [hk 23 (by omega) (by omega)]
    exact h5 k b hb
theorem ib_0 : ibits 0 1 = [false] := by decide
theorem ib_1 : ibits 1 1 = [true] := by decide
theorem qP_octs {M : zM} {h o tot nx st : Nat} {os : List Nat} (ht : h < tot) (ht2 : tot ≤ 100) (ho : o + os.length ≤ 120) :
    ∀ m k D bs, k + m = os.length → D 16 0 = nI tot → D 17 h = 4 → D 18 h = nI os.length → D 21 h = nI o → cO D o os → QW D st nx bs →
      ∃ D', Ev (fun N => ∀ F, m + 1 ≤ F → qfix (FQ_writeOctets_39 N M (nI h)) F (nI k, D) = some ((), D')) ∧ qP D D' st nx bs (fun _ => (os.drop k).flatMap (fun b => ibits (nI b) 8)) := by
  intro m
  induction m with
  | zero =>
    intro k D bs hk h0 h17 h18 h21 hO hS
    refine ⟨D, ev_of (fun N F hF => ?_), ?_⟩
    · obtain ⟨F, rfl⟩ : ∃ g, F = g + 1 := ⟨F - 1, by omega⟩
      rw [qfix_s]
      simp only [FQ_writeOctets_39]
      rw [qk_t (qi_nI (by omega) (by omega)), nI_clamp (by omega), h18, if_pos (by rw [nI_leI (by omega) (by omega)]; omega)]
    · rw [List.drop_eq_nil_of_le (by omega)]
      exact qP_nil hS
  | succ m ih =>
    intro k D bs hk h0 h17 h18 h21 hO hS
    have hlt : k < os.length := by omega
    have hg : os[k]? = some os[k] := List.getElem?_eq_getElem hlt
    obtain ⟨D1, a1, a2⟩ := qP_bits hS (nI os[k]) 8 (by omega) M
    have hk1 := a2.2.1
    obtain ⟨D', q1, q2⟩ := ih (k + 1) D1 _ (by omega) (by rw [hk1 16 (by omega) (by omega)]; exact h0) (by rw [hk1 17 (by omega) (by omega)]; exact h17) (by rw [hk1 18 (by omega) (by omega)]; exact h18) (by rw [hk1 21 (by omega) (by omega)]; exact h21) (fun k b hb => by rw [hk1 23 (by omega) (by omega)]; exact hO k b hb) a2.1
    refine ⟨D', ev_mono (ev_and a1 q1) (fun N hN F hF => ?_), ?_⟩
    · obtain ⟨F, rfl⟩ : ∃ g, F = g + 1 := ⟨F - 1, by omega⟩
      have hN1 : FQ_appendBits N M (nI os[k]) 8 D = some ((), D1) := hN.1
      rw [qfix_s]
      simp only [FQ_writeOctets_39]
      rw [qk_t (qi_nI (by omega) (by omega)), nI_clamp (by omega), h18, if_neg (by rw [nI_leI (by omega) (by omega)]; omega), c_octAt h0 ht ht2 h17 h18 h21 hO ho hg, qb_some, hN1, qb_some, nI_p1]
      exact hN.2 F (by omega)
    · rw [List.drop_eq_getElem_cons hlt]
      exact qP_cong (qP_trans a2 q2) rfl
def qE (M : zM) (T : zJ) (n f ins st : Nat) : Prop := ∀ a u par wh i o blk os e pk D bs tot, wfT T n u → rep M T n a u → WV T n u u none par wh i o blk os e pk → sH T D tot i o blk os → QW D st i bs → ∃ D', Ev (fun N => RQ_writeValue N M f (some a, nI (ins + 1), D) = some ((), D')) ∧ qP D D' st (i + blk.length) bs pk
theorem qP_marks {M : zM} {T : zJ} {n t a0 f h ins shT st nx : Nat} {par : Int32} (e1 : zsh M a0 = some (.inl 6)) (hk : T 4 t = 6) (hh : h < 100) (hsT : shT < 64) :
    ∀ m j c i o b os e ma pk num sh low D bs, rChain M T (rep M T n) t m j c → j + m ≤ 6 → WVC T (WV T n) t par m j i o b os e ma pk num sh → (∀ j', j' < j + m → T 14 (6 * t + j') = 0 ∨ T 14 (6 * t + j') = 1 ∨ T 14 (6 * t + j') = 2) → shT = low + sh → low < 2 ^ j → D 22 h = nI shT → QW D st nx bs →
      ∃ D', Ev (fun N => ∀ F, m + 1 ≤ F → qfix (FQ_writeComponents_6 N M (RQ_writeValue N M f) (some a0) (nI h) (nI ins)) F (c, D) = qfix (FQ_writeComponents_58 N M (RQ_writeValue N M f) (nI h) (nI ins)) N (zr M a0 10, D')) ∧ qP D D' st nx bs (fun _ => ma) := by
  intro m
  induction m with
  | zero =>
    intro j c i o b os e ma pk num sh low D bs hch _ hv _ _ _ _ hS
    have : c = none := hch
    subst this
    obtain ⟨rfl, rfl, rfl, rfl, _⟩ := hv
    refine ⟨D, ev_of (fun N F hF => ?_), qP_nil hS⟩
    obtain ⟨F, rfl⟩ : ∃ g, F = g + 1 := ⟨F - 1, by omega⟩
    rw [qfix_s]
    simp only [FQ_writeComponents_6]
    rw [if_pos trivial, qo_s rfl e1]
  | succ m ih =>
    intro j c i o b os e ma pk num sh low D bs hch hj hv h14 hlow hl2 h22 hS
    obtain ⟨bb, a, rfl, hb, b0, hr, b1, b2, b3, _, hch'⟩ := hch
    have b2 := b2 hk
    have hsh := s_shows (D := D) hb b1 hh h22 hsT (show j < 6 by omega)
    have hj6 : j = 0 ∨ j = 1 ∨ j = 2 ∨ j = 3 ∨ j = 4 ∨ j = 5 := by omega
    have h14' : ∀ j', j' < j + 1 + m → T 14 (6 * t + j') = 0 ∨ T 14 (6 * t + j') = 1 ∨ T 14 (6 * t + j') = 2 := fun j' hj' => h14 j' (by omega)
    have hstep : ∀ N F, qfix (FQ_writeComponents_6 N M (RQ_writeValue N M f) (some a0) (nI h) (nI ins)) (F + 1) (some bb, D) = if T 14 (6 * t + j) = 0 then qfix (FQ_writeComponents_6 N M (RQ_writeValue N M f) (some a0) (nI h) (nI ins)) F (zr M bb 5, D) else qb (FQ_appendBits N M (if decide ((shT / 2 ^ j) % 2 = 1) = false then 0 else 1) 1 D) (fun _ J2 => qfix (FQ_writeComponents_6 N M (RQ_writeValue N M f) (some a0) (nI h) (nI ins)) F (zr M bb 5, J2)) := by
      intro N F
      rw [qfix_s]
      simp only [FQ_writeComponents_6, FQ_writeComponents_38, hsh, qb_some, bI_eq0, qo_s rfl hb, b2]
      rw [if_neg (by simp)]
      by_cases c0 : T 14 (6 * t + j) = 0
      · rw [if_pos c0, if_pos c0]
      · rw [if_neg c0, if_neg c0]
        by_cases c1 : decide ((shT / 2 ^ j) % 2 = 1) = false
        · rw [if_pos c1, if_pos c1]
        · rw [if_neg c1, if_neg c1]
    unfold WVC at hv
    rcases hv with ⟨f1, ma', hma, hv⟩ | ⟨f2, b', ma', num', hbb, hma, _, hv⟩ | ⟨b1', os1, e1', k1, b', os', c', ma', pk', num', sh', hv1, hnl, hbb, hos, hc, hma, _, _, hsh8, hv⟩
    · obtain ⟨z1, z2⟩ := wvc_sh _ _ _ _ _ _ _ _ _ _ _ (by omega) hv
      have hbit : decide ((shT / 2 ^ j) % 2 = 1) = false := by
        refine decide_eq_false ?_
        rcases hj6 with rfl | rfl | rfl | rfl | rfl | rfl <;> simp at z1 hl2 ⊢ <;> omega
      have n0 : ¬ T 14 (6 * t + j) = 0 := by rw [f1]; decide
      simp only [if_pos hbit, if_neg n0] at hstep
      obtain ⟨D1, a1, a2⟩ := qP_bits hS 0 1 (by omega) M
      obtain ⟨D', q1, q2⟩ := ih (j + 1) _ i o b os e ma' pk num sh low D1 _ hch' (by omega) hv h14' hlow (by rw [Nat.pow_succ]; omega) (by rw [a2.2.1 22 (by omega) (by omega)]; exact h22) a2.1
      refine ⟨D', ev_mono (ev_and a1 q1) (fun N hN F hF => ?_), qP_cong (qP_trans a2 q2) (by rw [hma]; unfold pcat pbits; rw [ib_0]; rfl)⟩
      obtain ⟨F, rfl⟩ : ∃ g, F = g + 1 := ⟨F - 1, by omega⟩
      have hN1 : FQ_appendBits N M 0 1 D = some ((), D1) := hN.1
      rw [hstep, hN1, qb_some, hN.2 F (by omega)]
    · obtain ⟨z1, z2⟩ := wvc_sh _ _ _ _ _ _ _ _ _ _ _ (by omega) hv
      have hbit : decide ((shT / 2 ^ j) % 2 = 1) = false := by
        refine decide_eq_false ?_
        rcases hj6 with rfl | rfl | rfl | rfl | rfl | rfl <;> simp at z1 hl2 ⊢ <;> omega
      have n0 : ¬ T 14 (6 * t + j) = 0 := by rw [f2]; decide
      simp only [if_pos hbit, if_neg n0] at hstep
      obtain ⟨D1, a1, a2⟩ := qP_bits hS 0 1 (by omega) M
      obtain ⟨D', q1, q2⟩ := ih (j + 1) _ (i + 1) o b' os e ma' pk num' sh low D1 _ hch' (by omega) hv h14' hlow (by rw [Nat.pow_succ]; omega) (by rw [a2.2.1 22 (by omega) (by omega)]; exact h22) a2.1
      refine ⟨D', ev_mono (ev_and a1 q1) (fun N hN F hF => ?_), qP_cong (qP_trans a2 q2) (by rw [hma]; unfold pcat pbits; rw [ib_0]; rfl)⟩
      obtain ⟨F, rfl⟩ : ∃ g, F = g + 1 := ⟨F - 1, by omega⟩
      have hN1 : FQ_appendBits N M 0 1 D = some ((), D1) := hN.1
      rw [hstep, hN1, qb_some, hN.2 F (by omega)]
    · obtain ⟨z1, z2⟩ := wvc_sh _ _ _ _ _ _ _ _ _ _ _ (by omega) hv
      have hbit : ¬ decide ((shT / 2 ^ j) % 2 = 1) = false := by
        rw [decide_eq_false_iff_not, Classical.not_not]
        rcases hj6 with rfl | rfl | rfl | rfl | rfl | rfl <;> simp at z1 hl2 hsh8 ⊢ <;> omega
      simp only [if_neg hbit] at hstep
      by_cases c0 : T 14 (6 * t + j) = 0
      · simp only [if_pos c0] at hstep
        rw [if_pos c0] at hma
        obtain ⟨D', q1, q2⟩ := ih (j + 1) _ _ _ b' os' c' ma' pk' num' sh' (low + 2 ^ j) D bs hch' (by omega) hv h14' (by omega) (by rw [Nat.pow_succ]; omega) h22 hS
        refine ⟨D', ev_mono q1 (fun N hN F hF => ?_), by rw [hma]; exact q2⟩
        obtain ⟨F, rfl⟩ : ∃ g, F = g + 1 := ⟨F - 1, by omega⟩
        rw [hstep, hN F (by omega)]
      · simp only [if_neg c0] at hstep
        rw [if_neg c0] at hma
        obtain ⟨D1, a1, a2⟩ := qP_bits hS 1 1 (by omega) M
        obtain ⟨D', q1, q2⟩ := ih (j + 1) _ _ _ b' os' c' ma' pk' num' sh' (low + 2 ^ j) D1 _ hch' (by omega) hv h14' (by omega) (by rw [Nat.pow_succ]; omega) (by rw [a2.2.1 22 (by omega) (by omega)]; exact h22) a2.1
        refine ⟨D', ev_mono (ev_and a1 q1) (fun N hN F hF => ?_), qP_cong (qP_trans a2 q2) (by rw [hma]; unfold pcat pbits; rw [ib_1]; rfl)⟩
        obtain ⟨F, rfl⟩ : ∃ g, F = g + 1 := ⟨F - 1, by omega⟩
        have hN1 : FQ_appendBits N M 1 1 D = some ((), D1) := hN.1
        rw [hstep, hN1, qb_some, hN.2 F (by omega)]
theorem qP_comps {M : zM} {T : zJ} {n t f h ins tot shT st : Nat} {par : Int32} (hk : T 4 t = 6) (hE : qE M T n f ins st) (hh : h < 100) (hsT : shT < 64) :
    ∀ m j c i o b os e ma pk num sh low D bs, rChain M T (rep M T n) t m j c → (∀ j', j' < j + m → wfT T n (chd T (6 * t + j'))) → j + m ≤ 6 → WVC T (WV T n) t par m j i o b os e ma pk num sh → shT = low + sh → low < 2 ^ j → D 22 h = nI shT → sH T D tot i o b os → QW D st i bs →
      ∃ D', Ev (fun N => ∀ F, m + 1 ≤ F → qfix (FQ_writeComponents_58 N M (RQ_writeValue N M f) (nI h) (nI ins)) F (c, D) = some ((), D')) ∧ qP D D' st (i + b.length) bs pk := by
  intro m
  induction m with
  | zero =>
    intro j c i o b os e ma pk num sh low D bs hch _ _ hv _ _ _ hH hS
    have : c = none := hch
    subst this
    obtain ⟨rfl, rfl, rfl, _, rfl, _⟩ := hv
    refine ⟨D, ev_of (fun N F hF => ?_), qP_nil hS⟩
    obtain ⟨F, rfl⟩ : ∃ g, F = g + 1 := ⟨F - 1, by omega⟩
    rw [qfix_s]
    simp only [FQ_writeComponents_58]
    rw [if_pos trivial]
  | succ m ih =>
    intro j c i o b os e ma pk num sh low D bs hch hwf hj hv hlow hl2 h22 hH hS
    obtain ⟨bb, a, rfl, hb, b0, hr, b1, b2, b3, _, hch'⟩ := hch
    have b2 := b2 hk
    have hwf' : ∀ j', j' < j + 1 + m → wfT T n (chd T (6 * t + j')) := fun j' hj' => hwf j' (by omega)
    have hsh := s_shows (D := D) hb b1 hh h22 hsT (show j < 6 by omega)
    have hj6 : j = 0 ∨ j = 1 ∨ j = 2 ∨ j = 3 ∨ j = 4 ∨ j = 5 := by omega
    have hstep : ∀ N F, qfix (FQ_writeComponents_58 N M (RQ_writeValue N M f) (nI h) (nI ins)) (F + 1) (some bb, D) = if decide ((shT / 2 ^ j) % 2 = 1) = false then (if T 14 (6 * t + j) = 2 then qfix (FQ_writeComponents_58 N M (RQ_writeValue N M f) (nI h) (nI ins)) F (zr M bb 5, zu D 27 3 (nI (i + 1))) else qfix (FQ_writeComponents_58 N M (RQ_writeValue N M f) (nI h) (nI ins)) F (zr M bb 5, D)) else qb (RQ_writeValue N M f (some a, nI (ins + 1), D)) (fun v10 J11 => qfix (FQ_writeComponents_58 N M (RQ_writeValue N M f) (nI h) (nI ins)) F (zr M bb 5, J11)) := by
      intro N F
      rw [qfix_s]
      simp only [FQ_writeComponents_58, hsh, qb_some, bI_eq0, qo_s rfl hb, b2, b0, nI_p1, hS.1]
      rw [if_neg (by simp)]
    unfold WVC at hv
    rcases hv with ⟨f1, ma', _, hv⟩ | ⟨f2, b', ma', num', hbb, _, _, hv⟩ | ⟨b1', os1, e1, k1, b', os', c', ma', pk', num', sh', hv1, hnl, hbb, hos, hc, _, hpk, _, hsh8, hv⟩
    · obtain ⟨z1, z2⟩ := wvc_sh _ _ _ _ _ _ _ _ _ _ _ (by omega) hv
      have hbit : decide ((shT / 2 ^ j) % 2 = 1) = false := by
        refine decide_eq_false ?_
        rcases hj6 with rfl | rfl | rfl | rfl | rfl | rfl <;> simp at z1 hl2 ⊢ <;> omega
      have n2 : ¬ T 14 (6 * t + j) = 2 := by rw [f1]; decide
      simp only [if_pos hbit, if_neg n2] at hstep
      obtain ⟨D', q1, q2⟩ := ih (j + 1) _ i o b os e ma' pk num sh low D bs hch' hwf' (by omega) hv hlow (by rw [Nat.pow_succ]; omega) h22 hH hS
      refine ⟨D', ev_mono q1 (fun N hN F hF => ?_), q2⟩
      obtain ⟨F, rfl⟩ : ∃ g, F = g + 1 := ⟨F - 1, by omega⟩
      rw [hstep, hN F (by omega)]
    · obtain ⟨z1, z2⟩ := wvc_sh _ _ _ _ _ _ _ _ _ _ _ (by omega) hv
      have hbit : decide ((shT / 2 ^ j) % 2 = 1) = false := by
        refine decide_eq_false ?_
        rcases hj6 with rfl | rfl | rfl | rfl | rfl | rfl <;> simp at z1 hl2 ⊢ <;> omega
      simp only [if_pos hbit, if_pos f2] at hstep
      subst hbb
      obtain ⟨D', q1, q2⟩ := ih (j + 1) _ (i + 1) o b' os e ma' pk num' sh low (zu D 27 3 (nI (i + 1))) bs hch' hwf' (by omega) hv hlow (by rw [Nat.pow_succ]; omega) (by rw [zu_at, if_neg (by omega)]; exact h22) (sH_wK2 wK2_27 (sH_cons hH).1) (QW_nx hS (i + 1))
      refine ⟨D', ev_mono q1 (fun N hN F hF => ?_), ?_⟩
      · obtain ⟨F, rfl⟩ : ∃ g, F = g + 1 := ⟨F - 1, by omega⟩
        rw [hstep, hN F (by omega)]
      · have := qP_nx q2
        rw [List.length_cons, show i + (b'.length + 1) = i + 1 + b'.length by omega]
        exact this
    · obtain ⟨z1, z2⟩ := wvc_sh _ _ _ _ _ _ _ _ _ _ _ (by omega) hv
      have hbit : ¬ decide ((shT / 2 ^ j) % 2 = 1) = false := by
        rw [decide_eq_false_iff_not, Classical.not_not]
        rcases hj6 with rfl | rfl | rfl | rfl | rfl | rfl <;> simp at z1 hl2 hsh8 ⊢ <;> omega
      simp only [if_neg hbit] at hstep
      subst hbb hos hc hpk
      obtain ⟨hH1, hH2⟩ := sH_app hH
      obtain ⟨D1, r1, r2⟩ := hE a (chd T (6 * t + j)) par j i o b1' os1 e1 k1 D bs tot (hwf j (by omega)) hr hv1 hH1 hS
      obtain ⟨D', q1, q2⟩ := ih (j + 1) _ (i + b1'.length) (o + os1.length) b' os' c' ma' pk' num' sh' (low + 2 ^ j) D1 _ hch' hwf' (by omega) hv (by omega) (by rw [Nat.pow_succ]; omega) (by rw [r2.2.1 22 (by omega) (by omega)]; exact h22) (sH_wK2 r2.2.1 hH2) r2.1
      refine ⟨D', ev_mono (ev_and r1 q1) (fun N hN F hF => ?_), ?_⟩
      · obtain ⟨F, rfl⟩ : ∃ g, F = g + 1 := ⟨F - 1, by omega⟩
        rw [hstep, hN.1, qb_some, hN.2 F (by omega)]
      · have := qP_trans r2 q2
        rw [List.length_append, ← Nat.add_assoc]
        exact this
theorem qP_items {M : zM} {T : zJ} {n u a b f ins tot mT st : Nat} {par : Int32} (hE : qE M T n f ins st) (hsh : zsh M a = some (.inl 6)) (h9 : zr M a 9 = some b) (hw : wfT T n u) (hr : rep M T n b u) (hm : mT < 1000) :
    ∀ m k i o bl os e pk D bs, k + m = mT → WVL (WV T n) u par m k i o bl os e pk → sH T D tot i o bl os → QW D st i bs →
      ∃ D', Ev (fun N => ∀ F, m + 1 ≤ F → qfix (FQ_writeItems_9 N M (RQ_writeValue N M f) (some a) (nI mT) (nI ins)) F (nI k, D) = some ((), D')) ∧ qP D D' st (i + bl.length) bs pk := by
  intro m
  induction m with
  | zero =>
    intro k i o bl os e pk D bs hk hv hH hS
    obtain ⟨rfl, rfl, rfl, rfl⟩ := hv
    refine ⟨D, ev_of (fun N F hF => ?_), qP_nil hS⟩
    obtain ⟨F, rfl⟩ : ∃ g, F = g + 1 := ⟨F - 1, by omega⟩
    rw [qfix_s]
    simp only [FQ_writeItems_9]
    rw [if_pos (by rw [nI_leI (by omega) (by omega)]; omega)]
  | succ m ih =>
    intro k i o bl os e pk D bs hk hv hH hS
    obtain ⟨b1, os1, e1, k1, b', os', c', pk', hv1, rfl, rfl, rfl, rfl, hv⟩ := hv
    obtain ⟨hH1, hH2⟩ := sH_app hH
    obtain ⟨D1, r1, r2⟩ := hE b u par k i o b1 os1 e1 k1 D bs tot hw hr hv1 hH1 hS
    obtain ⟨D', q1, q2⟩ := ih (k + 1) (i + b1.length) (o + os1.length) b' os' c' pk' D1 _ (by omega) hv (sH_wK2 r2.2.1 hH2) r2.1
    refine ⟨D', ev_mono (ev_and r1 q1) (fun N hN F hF => ?_), ?_⟩
    · obtain ⟨F, rfl⟩ : ∃ g, F = g + 1 := ⟨F - 1, by omega⟩
      rw [qfix_s]
      simp only [FQ_writeItems_9]
      rw [if_neg (by rw [nI_leI (by omega) (by omega)]; omega), qo_s rfl hsh, h9, nI_p1, hN.1, qb_some, nI_p1, hN.2 F (by omega)]
    · have := qP_trans r2 q2
      rw [List.length_append, ← Nat.add_assoc]
      exact this
theorem RQ_s (N : Nat) (M : zM) (g : Nat) (s : Option Nat × Int32 × zJ) : RQ_writeValue N M (g + 1) s = FQ_writeValue N M (RQ_writeValue N M g) s.1 s.2.1 s.2.2 := by
  unfold RQ_writeValue
  rw [qfix_s]
theorem c_alnd {M : zM} {T : zJ} {n a t : Nat} (hw : wfT T n t) (hr : rep M T n a t) (N : Nat) : FT_isAlignedOctets N M a = some (alnd T t) := by
  cases n with
  | zero => exact hw.elim
  | succ n =>
    unfold FT_isAlignedOctets alnd
    rw [hr.2.2.1]
    rcases hw.2.2.1 with h0 | h1
    · rw [if_pos h0, decide_eq_true]
      rintro ⟨z, _⟩
      rw [h0] at z
      exact absurd z (by decide)
    · obtain ⟨y1, y2⟩ := hr.2.2.2.1 h1
      rw [if_neg (by rw [h1]; decide), y1, y2]
      by_cases z1 : T 5 t = T 6 t
      · rw [if_pos z1]
        by_cases z2 : T 6 t ≤ 2
        · rw [if_pos z2, decide_eq_false]
          rw [Int32.le_iff_toInt_le] at z2
          exact fun q => q ⟨h1, z1, z2⟩
        · rw [if_neg z2, decide_eq_true]
          rw [Int32.le_iff_toInt_le] at z2
          exact fun q => z2 q.2.2
      · rw [if_neg z1, decide_eq_true]
        exact fun q => z1 q.2.1
theorem qP_elem {M : zM} {T : zJ} {st : Nat} : ∀ n f a t t0 dg par wh i o blk os e pk D ins bs tot, n ≤ f → n + ins ≤ 6 → wfT T n t → rep M T n a t → WV T n t t0 dg par wh i o blk os e pk → sH T D tot i o blk os → QW D st i bs → ∃ D', Ev (fun N => RQ_writeValue N M f (some a, nI ins, D) = some ((), D')) ∧ qP D D' st (i + blk.length) bs pk := by
  intro n
  induction n with
  | zero => intro f a t t0 dg par wh i o blk os e pk D ins bs tot _ _ hw; exact hw.elim
  | succ n ih =>
    intro f a t t0 dg par wh i o blk os e pk D ins bs tot hf hin hw hr hv hH hS
    obtain ⟨g, rfl⟩ : ∃ g, f = g + 1 := ⟨f - 1, by omega⟩
    obtain ⟨e1, e2, _⟩ := rep_sh hr
    have hE : qE M T n g ins st := by
      intro a u par wh i o blk os e pk D bs tot hw hr hv hH hS
      exact ih g a u u none par wh i o blk os e pk D (ins + 1) bs tot (by omega) (by omega) hw hr hv hH hS
    have hne := wv_ne _ _ _ _ _ _ _ _ _ _ _ _ hv
    have htot := hH.2.1
    have hitot := hH.2.2.1
    have hi : i < 100 := by omega
    have hid : ∀ x : Option (Unit × zJ), (qb x fun v J => some ((), J)) = x := fun x => qb_id x
    have hgo : ∀ N, RQ_writeValue N M (g + 1) (some a, nI ins, D) = if T 4 t = 10 then RQ_writeValue N M g (zr M a 9, nI ins + 1, D) else if T 4 t = 1 then FQ_appendBits N M (D 18 i) 1 (zu D 27 3 (nI (i + 1))) else if T 4 t = 2 then FQ_writeInteger N M (some a) (D 18 i) (zu D 27 3 (nI (i + 1))) else if T 4 t = 4 then FQ_writeOctets N M (some a) (nI i) (zu D 27 3 (nI (i + 1))) else if T 4 t = 6 then FQ_writeComponents N M (RQ_writeValue N M g) (some a) (nI i) (nI ins) (zu D 27 3 (nI (i + 1))) else if T 4 t = 7 then FQ_writeItems N M (RQ_writeValue N M g) (some a) (D 18 i) (nI ins) (zu D 27 3 (nI (i + 1))) else if T 4 t = 9 then FQ_writeChoice N M (RQ_writeValue N M g) (some a) (D 18 i) (nI ins) (zu D 27 3 (nI (i + 1))) else some ((), zu D 27 3 (nI (i + 1))) := by
      intro N
      rw [RQ_s]
      unfold FQ_writeValue
      simp only [hS.1, hH.1, qo_s rfl e1, e2, nI_p1, hid]
      rw [if_neg (by simp), if_neg (by rw [show (6 : Int32) = nI 6 from rfl, nI_leI (by omega) (by omega)]; omega), if_pos (by rw [nI_ltI (by omega) (by omega)]; omega), qk_t (qi_nI hi (by omega)), nI_clamp (by omega)]
      rw [show zu D 27 3 (nI (i + 1)) 18 i = D 18 i from by rw [zu_at, if_neg (by omega)]]
    simp only [hgo]
    have hS1 := QW_nx hS (i + 1)
    unfold WV WVb at hv
    rcases hv with ⟨k10, x, e1', hv, he⟩ | ⟨k10, x, hv⟩ | ⟨k9, k, b1, k1, hk, hb, hv, hpk⟩ | ⟨k6, num, sh, ma, b1, c, k1, hb, hv, he, hpk⟩ | ⟨k7, m, b1, c, k1, hm, hb, hv, he, hpk⟩ | hv
    · obtain ⟨w1, w2, w3, w4, w5⟩ := hw.2.2.2.2.2.2.2.1 k10
      obtain ⟨q1, q2, b, q3, q4⟩ := hr.2.2.2.2.2.2.1 k10
      simp only [if_pos k10, q3, nI_p1]
      exact ih g b (chd T (6 * t)) t0 none par wh i o blk os e1' pk D (ins + 1) bs tot (by omega) (by omega) w5 q4 hv hH hS
    · obtain ⟨w1, w2, w3, w4, w5⟩ := hw.2.2.2.2.2.2.2.1 k10
      obtain ⟨q1, q2, b, q3, q4⟩ := hr.2.2.2.2.2.2.1 k10
      simp only [if_pos k10, q3, nI_p1]
      exact ih g b (chd T (6 * t)) t0 _ par wh i o blk os e pk D (ins + 1) bs tot (by omega) (by omega) w5 q4 hv hH hS
    · -- choice
      have n10 : ¬ T 4 t = 10 := by rw [k9]; decide
      have n1 : ¬ T 4 t = 1 := by rw [k9]; decide
      have n2 : ¬ T 4 t = 2 := by rw [k9]; decide
      have n4 : ¬ T 4 t = 4 := by rw [k9]; decide
      have n6 : ¬ T 4 t = 6 := by rw [k9]; decide
      have n7 : ¬ T 4 t = 7 := by rw [k9]; decide
      simp only [if_neg n10, if_neg n1, if_neg n2, if_neg n4, if_neg n6, if_neg n7, if_pos k9]
      obtain ⟨w1, w2, w3⟩ := hw.2.2.2.2.2.2.2.2.1 (Or.inr k9)
      obtain ⟨q1, q2⟩ := hr.2.2.2.2.2.2.2 (Or.inr k9)
      subst hb
      obtain ⟨hH1, p17, p18, p21, p22, _⟩ := sH_cons hH
      have p18 : D 18 i = nI k := p18
      obtain ⟨mb, ma, m1, m2, m3, m4, m5⟩ := c_memAt (k := k) _ _ _ q2 (by omega) (by omega) (by omega)
      obtain ⟨D1, a1, a2⟩ := qP_num hS1 (nI (jRank T t k (cnt T t))) (show cnt T t - 1 < 65536 by omega) M
      obtain ⟨D2, r1, r2⟩ := hE ma (chd T (6 * t + k)) (nI i) 0 (i + 1) o b1 os e k1 D1 _ tot (w3 k hk).2 m4 hv (sH_wK2 a2.2.1 (sH_wK2 wK2_27 hH1)) a2.1
      refine ⟨D2, ev_mono (ev_and (ev_and a1 r1) ⟨cnt T t + 1, fun N hN => m1 N N (by omega)⟩) (fun N hN => ?_), ?_⟩
      · unfold FQ_writeChoice FT_memberAt
        rw [qo_s rfl e1, p18]
        show qc (qfix (FT_memberAt_5 N M (nI k)) N (zr M a 10)) _ = _
        rw [hN.2, qc_some, if_neg (by simp), qo_s rfl m2, qo_s rfl e1, m5 k9, q1, w1, show nI (cnt T t) - 1 = nI (cnt T t - 1) from nI_subs (b := 1) (by omega), hN.1.1, qb_some, qo_s rfl m2, m3, nI_p1, hid]
        exact hN.1.2
      · have := qP_nx (qP_trans a2 r2)
        rw [hpk, List.length_cons, show i + (b1.length + 1) = i + 1 + b1.length by omega]
        exact this
    · -- sequence
      have n10 : ¬ T 4 t = 10 := by rw [k6]; decide
      have n1 : ¬ T 4 t = 1 := by rw [k6]; decide
      have n2 : ¬ T 4 t = 2 := by rw [k6]; decide
      have n4 : ¬ T 4 t = 4 := by rw [k6]; decide
      simp only [if_neg n10, if_neg n1, if_neg n2, if_neg n4, if_pos k6]
      obtain ⟨w1, w2, w3⟩ := hw.2.2.2.2.2.2.2.2.1 (Or.inl k6)
      have w10 := hw.2.2.2.2.2.2.2.2.2.1 k6
      obtain ⟨q1, q2⟩ := hr.2.2.2.2.2.2.2 (Or.inl k6)
      subst hb
      obtain ⟨hH1, p17, p18, p21, p22, _⟩ := sH_cons hH
      have hsh := wvc_sh _ _ _ _ _ _ _ _ _ _ _ (by omega) hv
      have hsh64 : sh < 64 := by
        have : 2 ^ (0 + cnt T t) ≤ 2 ^ 6 := Nat.pow_le_pow_right (by omega) (by omega)
        omega
      have h14 : ∀ j', j' < 0 + cnt T t → T 14 (6 * t + j') = 0 ∨ T 14 (6 * t + j') = 1 ∨ T 14 (6 * t + j') = 2 := fun j' hj' => by
        rcases w10 j' (by omega) with z | z | z
        · exact Or.inl z
        · exact Or.inr (Or.inl z)
        · exact Or.inr (Or.inr z.1)
      obtain ⟨D1, a1, a2⟩ := qP_marks (h := i) (shT := sh) (f := g) (ins := ins) e1 k6 hi hsh64 (cnt T t) 0 (zr M a 10) (i + 1) o b1 os c ma k1 num sh 0 (zu D 27 3 (nI (i + 1))) bs q2 (by omega) hv h14 (by omega) (by decide) (by rw [zu_at, if_neg (by omega)]; exact p22) hS1
      obtain ⟨D2, r1, r2⟩ := qP_comps (h := i) (shT := sh) (tot := tot) k6 hE hi hsh64 (cnt T t) 0 (zr M a 10) (i + 1) o b1 os c ma k1 num sh 0 D1 _ q2 (fun j' hj' => (w3 j' (by omega)).2) (by omega) hv (by omega) (by decide) (by rw [a2.2.1 22 (by omega) (by omega), zu_at, if_neg (by omega)]; exact p22) (sH_wK2 a2.2.1 (sH_wK2 wK2_27 hH1)) a2.1
      refine ⟨D2, ev_mono (ev_and (ev_and a1 r1) (⟨cnt T t + 1, fun N hN => hN⟩ : Ev (fun N => cnt T t + 1 ≤ N))) (fun N hN => ?_), ?_⟩
      · unfold FQ_writeComponents
        rw [qo_s rfl e1]
        simp only
        rw [hN.1.1 N hN.2]
        exact hN.1.2 N hN.2
      · have := qP_nx (qP_trans a2 r2)
        rw [hpk, List.length_cons, show i + (b1.length + 1) = i + 1 + b1.length by omega]
        exact this
    · -- list
      have n10 : ¬ T 4 t = 10 := by rw [k7]; decide
      have n1 : ¬ T 4 t = 1 := by rw [k7]; decide
      have n2 : ¬ T 4 t = 2 := by rw [k7]; decide
      have n4 : ¬ T 4 t = 4 := by rw [k7]; decide
      have n6 : ¬ T 4 t = 6 := by rw [k7]; decide
      simp only [if_neg n10, if_neg n1, if_neg n2, if_neg n4, if_neg n6, if_pos k7]
      obtain ⟨w1, w2⟩ := hw.2.2.2.2.2.2.1 k7
      obtain ⟨b, q1, q2⟩ := hr.2.2.2.2.2.1 k7
      subst hb
      obtain ⟨hH1, p17, p18, p21, p22, _⟩ := sH_cons hH
      have p18 : D 18 i = nI m := p18
      obtain ⟨D1, a1, a2⟩ := qP_count hw hr hS1 (nI m)
      obtain ⟨D2, r1, r2⟩ := qP_items (mT := m) (tot := tot) hE e1 q1 w2 q2 (by omega) m 0 (i + 1) o b1 os c k1 D1 _ (by omega) hv (sH_wK2 a2.2.1 (sH_wK2 wK2_27 hH1)) a2.1
      refine ⟨D2, ev_mono (ev_and (ev_and a1 r1) (⟨m + 1, fun N hN => hN⟩ : Ev (fun N => m + 1 ≤ N))) (fun N hN => ?_), ?_⟩
      · unfold FQ_writeItems
        rw [p18, hN.1.1, qb_some]
        exact hN.1.2 N hN.2
      · have := qP_nx (qP_trans a2 r2)
        rw [hpk, List.length_cons, show i + (b1.length + 1) = i + 1 + b1.length by omega]
        exact this
    · -- plain
      obtain ⟨v, hb, hv⟩ := hv
      subst hb
      obtain ⟨hH1, p17, p18, p21, p22, _⟩ := sH_cons hH
      have p17 : D 17 i = T 4 t := p17
      have p18 : D 18 i = v := p18
      have p21 : D 21 i = nI o := p21
      rcases hv with ⟨k1, hvv, _, he, hpk⟩ | ⟨k2, _, he, hpk⟩ | ⟨k4, hvv, hol, hob, he, hpk⟩ | ⟨k5, hvv, _, he, hpk⟩
      · have n10 : ¬ T 4 t = 10 := by rw [k1]; decide
        simp only [if_neg n10, if_pos k1, p18]
        obtain ⟨D1, a1, a2⟩ := qP_bits hS1 v 1 (by omega) M
        exact ⟨D1, a1, by rw [hpk]; exact qP_nx a2⟩
      · have n10 : ¬ T 4 t = 10 := by rw [k2]; decide
        have n1 : ¬ T 4 t = 1 := by rw [k2]; decide
        simp only [if_neg n10, if_neg n1, if_pos k2, p18]
        obtain ⟨D1, a1, a2⟩ := qP_int hw hr hS1 v
        exact ⟨D1, a1, by rw [hpk]; exact qP_nx a2⟩
      · have n10 : ¬ T 4 t = 10 := by rw [k4]; decide
        have n1 : ¬ T 4 t = 1 := by rw [k4]; decide
        have n2 : ¬ T 4 t = 2 := by rw [k4]; decide
        simp only [if_neg n10, if_neg n1, if_neg n2, if_pos k4]
        obtain ⟨h1, h2, h3, h4, h5, h6⟩ := hH
        have hz : ∀ c x, c ≠ 27 → zu D 27 3 (nI (i + 1)) c x = D c x := fun c x h => by rw [zu_at, if_neg (by omega)]
        obtain ⟨D1, a1, a2⟩ := qP_count hw hr hS1 v
        have hk1 := a2.2.1
        have hl0 : (nI os.length ≤ 0) ↔ os = [] := by
          rw [show (0 : Int32) = nI 0 from rfl, nI_leI (by omega) (by omega)]
          constructor
          · intro z; exact List.length_eq_zero_iff.mp (by omega)
          · intro z; rw [z]; exact Nat.le_refl _
        have h181 : D1 18 i = nI os.length := by rw [hk1 18 (by omega) (by omega), hz 18 _ (by omega), p18]; exact hvv
        have hoc : ∀ D3 bs3, wK2 D1 D3 → QW D3 st (i + 1) bs3 → ∃ D', Ev (fun N => qfix (FQ_writeOctets_39 N M (nI i)) N (0, D3) = some ((), D')) ∧ qP D3 D' st (i + 1) bs3 (fun _ => os.flatMap (fun b => ibits (nI b) 8)) := by
          intro D3 bs3 hk3 hq3
          obtain ⟨D', ⟨n1, c1⟩, c2⟩ := qP_octs (M := M) (h := i) (o := o) (tot := tot) (os := os) (by omega) htot h6 os.length 0 D3 bs3 (by omega) (by rw [hk3 16 (by omega) (by omega), hk1 16 (by omega) (by omega), hz 16 _ (by omega)]; exact h1) (by rw [hk3 17 (by omega) (by omega), hk1 17 (by omega) (by omega), hz 17 _ (by omega), p17]; exact k4) (by rw [hk3 18 (by omega) (by omega)]; exact h181) (by rw [hk3 21 (by omega) (by omega), hk1 21 (by omega) (by omega), hz 21 _ (by omega)]; exact p21) (fun k b hb => by rw [hk3 23 (by omega) (by omega), hk1 23 (by omega) (by omega), hz 23 _ (by omega)]; exact h5 k b hb) hq3
          exact ⟨D', ⟨n1 + (os.length + 1), fun N hN => c1 N (by omega) N (by omega)⟩, c2⟩
        have hu : ∀ N D1', FQ_appendCount N M (some a) v (zu D 27 3 (nI (i + 1))) = some ((), D1') → D1' 18 i = nI os.length → FQ_writeOctets N M (some a) (nI i) (zu D 27 3 (nI (i + 1))) = if os ≠ [] ∧ alnd T t = true then qb (FQ_align N M D1') (fun v7 J8 => qfix (FQ_writeOctets_39 N M (nI i)) N (0, J8)) else qfix (FQ_writeOctets_39 N M (nI i)) N (0, D1') := by
          intro N D1' ha h18
          unfold FQ_writeOctets
          rw [qk_t (qi_nI hi (by omega)), nI_clamp (by omega), hz 18 _ (by omega), p18, ha, qb_some, qk_t (qi_nI hi (by omega)), h18]
          simp only [hl0, qo_s rfl e1, c_alnd hw hr, qc_some, bI_eq0]
          by_cases z1 : os = []
          · rw [if_pos z1, if_neg (fun z => z.1 z1)]
          · rw [if_neg z1]
            cases z2 : alnd T t with
            | false => rw [if_pos rfl, if_neg (fun z => by cases z.2)]
            | true => rw [if_neg (by decide), if_pos ⟨z1, rfl⟩]
        rw [hpk]
        unfold pocts
        rw [← hvv]
        by_cases cc : os ≠ [] ∧ alnd T t = true
        · rw [if_pos cc]
          obtain ⟨D2, b1, b2⟩ := qP_pad a2.1 M
          obtain ⟨D3, c1, c2⟩ := hoc D2 _ b2.2.1 b2.1
          refine ⟨D3, ev_mono (ev_and a1 c1) (fun N hN => ?_), qP_nx (qP_trans a2 (qP_trans b2 c2))⟩
          rw [hu N D1 hN.1 h181, if_pos cc, b1, qb_some, hN.2]
        · rw [if_neg cc]
          obtain ⟨D3, c1, c2⟩ := hoc D1 _ (wK2_refl D1) a2.1
          refine ⟨D3, ev_mono (ev_and a1 c1) (fun N hN => ?_), qP_cong (qP_nx (qP_trans a2 c2)) rfl⟩
          rw [hu N D1 hN.1 h181, if_neg cc, hN.2]
      · have n10 : ¬ T 4 t = 10 := by rw [k5]; decide
        have n1 : ¬ T 4 t = 1 := by rw [k5]; decide
        have n2 : ¬ T 4 t = 2 := by rw [k5]; decide
        have n4 : ¬ T 4 t = 4 := by rw [k5]; decide
        have n6 : ¬ T 4 t = 6 := by rw [k5]; decide
        have n7 : ¬ T 4 t = 7 := by rw [k5]; decide
        have n9 : ¬ T 4 t = 9 := by rw [k5]; decide
        simp only [if_neg n10, if_neg n1, if_neg n2, if_neg n4, if_neg n6, if_neg n7, if_neg n9]
        exact ⟨_, ev_of (fun N => rfl), by rw [hpk]; exact qP_nx (qP_nil hS1)⟩
/-- the bytes of packed bits -/
def pkB (bs : List Bool) : List Nat := (List.range ((bs.length + 7) / 8)).map (pby bs)
/-- all bits of a value: at least a byte -/
def pkA (pk : PK) : List Bool := if pk 0 = [] then List.replicate 8 false else pk 0
theorem qP_writeAll {M : zM} {T D : zJ} {a t st : Nat} {blk : List Pt} {os e : List Nat} {pk : PK} (hw : wfT T 6 t) (hr : rep M T 6 a t) (hv : WV T 6 t t none (-1) 0 0 0 blk os e pk) (hH : sH T D blk.length 0 0 blk os) (hst : st ≤ 119) :
    ∃ D', wK2 D D' ∧ (∀ k, k < st → st + (pkB (pkA pk)).length ≤ 120 → D' 7 k = D 7 k) ∧ ((st + (pkB (pkA pk)).length ≤ 120 ∧ Ev (fun N => FQ_writeAll N M (some a) (nI st) D = some (nI (st + (pkB (pkA pk)).length), D')) ∧ ∀ k b, (pkB (pkA pk))[k]? = some b → D' 7 (st + k) = nI b) ∨ (¬ st + (pkB (pkA pk)).length ≤ 120 ∧ Ev (fun N => FQ_writeAll N M (some a) (nI st) D = some (-1, D')))) := by
  have hS : QW (zu (zu (zu D 27 2 (nI (8 * st))) 27 3 0) 27 4 0) st 0 [] := by
    refine ⟨?_, by omega, Or.inl ⟨by simp; omega, zu_self _ _ _ _, ?_, fun b hb => by simp at hb⟩⟩
    · rw [zu_at, if_neg (by omega), zu_self]; rfl
    · rw [zu_at, if_neg (by omega), zu_at, if_neg (by omega), zu_self]; rfl
  have hk0 : wK2 D (zu (zu (zu D 27 2 (nI (8 * st))) 27 3 0) 27 4 0) := wK2_trans (wK2_trans wK2_27 wK2_27) wK2_27
  obtain ⟨D1, r1, r2⟩ := qP_elem (M := M) (st := st) 6 8 a t t none (-1) 0 0 0 blk os e pk _ 0 [] blk.length (by omega) (by omega) hw hr hv (sH_wK2 hk0 hH) hS
  have r2' : qP (zu (zu (zu D 27 2 (nI (8 * st))) 27 3 0) 27 4 0) D1 st (0 + blk.length) [] pk := r2
  obtain ⟨s1, s2, s3⟩ := r2'
  simp only [List.nil_append, List.length_nil] at s1 s3
  have h7 : ∀ k, zu (zu (zu D 27 2 (nI (8 * st))) 27 3 0) 27 4 0 7 k = D 7 k := fun k => by rw [zu_at, if_neg (by omega), zu_at, if_neg (by omega), zu_at, if_neg (by omega)]
  have hlB : (pkB (pkA pk)).length = ((pkA pk).length + 7) / 8 := by unfold pkB; rw [List.length_map, List.length_range]
  have hu : ∀ N, RQ_writeValue N M 8 (some a, 0, zu (zu (zu D 27 2 (nI (8 * st))) 27 3 0) 27 4 0) = some ((), D1) → FQ_writeAll N M (some a) (nI st) D = if D1 27 2 = nI (8 * st) then qb (FQ_appendBits N M 0 8 D1) (fun v6 J7 => FQ_writeAll_42 N M J7) else FQ_writeAll_42 N M D1 := by
    intro N hN
    unfold FQ_writeAll
    simp only [show (8 : Int32) * nI st = nI (8 * st) from nI_mul 8 st, hN, qb_some]
  -- the end
  have hend : ∀ D2 bs, QW D2 st (0 + blk.length) bs → ∃ D', (∀ N, FQ_writeAll_42 N M D2 = if 8 * st + bs.length ≤ 960 then some (nI (st + (bs.length + 7) / 8), D') else some (-1, D')) ∧ wK2 D2 D' ∧ w7 D2 D' st ∧ (8 * st + bs.length ≤ 960 → ∀ k, k < (bs.length + 7) / 8 → D' 7 (st + k) = nI (pby bs k)) := by
    intro D2 bs hq
    obtain ⟨D', a1, a2, a3, a4⟩ := c_alignW hq M
    have hlen : (bs ++ ppad bs.length).length = (bs.length + 7) / 8 * 8 := by unfold ppad; rw [List.length_append, List.length_replicate]; omega
    refine ⟨D', fun N => ?_, a3, a4, fun hl k hk => ?_⟩
    · unfold FQ_writeAll_42
      rw [a1, qb_some]
      by_cases c : 8 * st + bs.length ≤ 960
      · rcases a2.2.2 with ⟨b1, b2, b3, b4⟩ | ⟨b1, _⟩
        · rw [b2, if_pos rfl, if_pos c, b3, (c_byteAt (by omega)).1, hlen]
          congr 3
          omega
        · exact absurd (by rw [hlen]; omega) b1
      · rcases a2.2.2 with ⟨b1, _⟩ | ⟨b1, b2, _⟩
        · exact absurd b1 (by rw [hlen]; omega)
        · rw [b2, if_neg (by decide), if_neg c]
    · rcases a2.2.2 with ⟨b1, b2, b3, b4⟩ | ⟨b1, _⟩
      · rw [b4 k (by rw [hlen]; omega)]
        unfold ppad
        rw [pby_pad]
      · exact absurd (by rw [hlen]; omega) b1
  by_cases hov : 8 * st + (pk 0).length ≤ 960
  · -- there is room
    have hpos : D1 27 2 = nI (8 * st) ↔ pk 0 = [] := by
      rcases s1.2.2 with ⟨a1, a2, a3, a4⟩ | ⟨a1, _⟩
      · rw [a3, nI_eq (by omega) (by omega)]
        constructor
        · intro z; exact List.length_eq_zero_iff.mp (by omega)
        · intro z; rw [z]; rfl
      · exact absurd hov a1
    obtain ⟨D2, t1, t2, t3, t4⟩ : ∃ D2, Ev (fun N => FQ_writeAll N M (some a) (nI st) D = FQ_writeAll_42 N M D2) ∧ QW D2 st (0 + blk.length) (pkA pk) ∧ wK2 D D2 ∧ w7 D D2 st := by
      unfold pkA
      by_cases c : pk 0 = []
      · rw [if_pos c]
        rw [c] at s1 s3
        obtain ⟨D2, b1, b2⟩ := qP_bits s1 0 8 (by omega) M
        refine ⟨D2, ev_mono (ev_and r1 b1) (fun N hN => ?_), b2.1, wK2_trans (wK2_trans hk0 s2) b2.2.1, fun k hk => ?_⟩
        · have hN2 : FQ_appendBits N M 0 8 D1 = some ((), D2) := hN.2
          rw [hu N hN.1, if_pos (hpos.mpr c), hN2, qb_some]
        · rw [b2.2.2 (by show 8 * st + 8 ≤ 960; omega) k hk, s3 (by simp; omega) k hk, h7]
      · rw [if_neg c]
        refine ⟨D1, ev_mono r1 (fun N hN => ?_), s1, wK2_trans hk0 s2, fun k hk => ?_⟩
        · rw [hu N hN, if_neg (fun z => c (hpos.mp z))]
        · rw [s3 hov k hk, h7]
    have hle : 8 * st + (pkA pk).length ≤ 960 := by
      unfold pkA
      split
      · simp; omega
      · exact hov
    obtain ⟨D', u1, u2, u3, u4⟩ := hend D2 _ t2
    refine ⟨D', wK2_trans t3 u2, fun k hk _ => by rw [u3 k hk, t4 k hk], Or.inl ⟨by rw [hlB]; omega, ev_mono t1 (fun N hN => by rw [hN, u1, if_pos hle, hlB]), fun k b hk => ?_⟩⟩
    have hlt : k < (pkB (pkA pk)).length := (List.getElem?_eq_some_iff.mp hk).1
    rw [hlB] at hlt
    rw [u4 hle k hlt]
    unfold pkB at hk
    rw [List.getElem?_map, List.getElem?_range hlt] at hk
    injection hk with hk
    rw [hk]
  · -- there is none
    have hne : pk 0 ≠ [] := fun z => hov (by rw [z]; simp; omega)
    have hA : pkA pk = pk 0 := by unfold pkA; rw [if_neg hne]
    rw [hlB, hA]
    have hno : ¬ st + ((pk 0).length + 7) / 8 ≤ 120 := by omega
    by_cases c : D1 27 2 = nI (8 * st)
    · obtain ⟨D2, b1, b2⟩ := qP_bits s1 0 8 (by omega) M
      obtain ⟨D', u1, u2, u3, u4⟩ := hend D2 _ b2.1
      refine ⟨D', wK2_trans hk0 (wK2_trans s2 (wK2_trans b2.2.1 u2)), fun k hk z => absurd z hno, Or.inr ⟨hno, ev_mono (ev_and r1 b1) (fun N hN => ?_)⟩⟩
      have hN2 : FQ_appendBits N M 0 8 D1 = some ((), D2) := hN.2
      rw [hu N hN.1, if_pos c, hN2, qb_some, u1, if_neg (by rw [List.length_append]; omega)]
    · obtain ⟨D', u1, u2, u3, u4⟩ := hend D1 _ s1
      refine ⟨D', wK2_trans hk0 (wK2_trans s2 u2), fun k hk z => absurd z hno, Or.inr ⟨hno, ev_mono r1 (fun N hN => ?_)⟩⟩
      rw [hu N hN, if_neg c, u1, if_neg hov]
