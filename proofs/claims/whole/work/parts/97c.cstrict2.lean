/-! THE CLASS writes strictly: elements -/
theorem wv_ne {T : zJ} : ∀ n t t0 dg par wh i o blk os e pk, WV T n t t0 dg par wh i o blk os e pk → 1 ≤ blk.length := by
  intro n
  induction n with
  | zero => intro t t0 dg par wh i o blk os e pk h; exact h.elim
  | succ n ih =>
    intro t t0 dg par wh i o blk os e pk h
    unfold WV WVb at h
    rcases h with ⟨_, _, e1, h, _⟩ | ⟨_, _, h⟩ | ⟨_, k, b1, k1, _, h, _⟩ | ⟨_, num, sh, ma, b1, c, k1, h, _⟩ | ⟨_, m, b1, c, k1, _, h, _⟩ | ⟨v, h, _⟩
    · exact ih _ _ _ _ _ _ _ _ _ _ _ h
    · exact ih _ _ _ _ _ _ _ _ _ _ _ h
    · rw [h]; simp
    · rw [h]; simp
    · rw [h]; simp
    · rw [h]; simp
def sH (T D : zJ) (tot i o : Nat) (blk : List Pt) (os : List Nat) : Prop := D 16 0 = nI tot ∧ tot ≤ 100 ∧ i + blk.length ≤ tot ∧ cH T D i blk ∧ cO D o os ∧ o + os.length ≤ 120
theorem sH_wK {T D D' : zJ} {tot i o : Nat} {blk : List Pt} {os : List Nat} (hk : wK D D') (h : sH T D tot i o blk os) : sH T D' tot i o blk os := by
  obtain ⟨h1, h2, h3, h4, h5, h6⟩ := h
  refine ⟨by rw [hk 16 (by omega) (by omega)]; exact h1, h2, h3, fun k P hP => ?_, fun k b hb => ?_, h6⟩
  · rw [hk 17 (by omega) (by omega), hk 18 (by omega) (by omega), hk 19 (by omega) (by omega), hk 20 (by omega) (by omega), hk 21 (by omega) (by omega), hk 22 (by omega) (by omega)]
    exact h4 k P hP
  · rw [hk 23 (by omega) (by omega)]
    exact h5 k b hb
theorem sH_app {T D : zJ} {tot i o : Nat} {b1 b2 : List Pt} {o1 o2 : List Nat} (h : sH T D tot i o (b1 ++ b2) (o1 ++ o2)) : sH T D tot i o b1 o1 ∧ sH T D tot (i + b1.length) (o + o1.length) b2 o2 := by
  obtain ⟨h1, h2, h3, h4, h5, h6⟩ := h
  rw [List.length_append] at h3 h6
  refine ⟨⟨h1, h2, by omega, fun k P hP => ?_, fun k b hb => ?_, by omega⟩, ⟨h1, h2, by omega, fun k P hP => ?_, fun k b hb => ?_, by omega⟩⟩
  · exact h4 k P (by rw [List.getElem?_append_left (List.getElem?_eq_some_iff.mp hP).1]; exact hP)
  · exact h5 k b (by rw [List.getElem?_append_left (List.getElem?_eq_some_iff.mp hb).1]; exact hb)
  · have := h4 (b1.length + k) P (by rw [List.getElem?_append_right (by omega), Nat.add_sub_cancel_left]; exact hP)
    rw [← Nat.add_assoc] at this
    exact this
  · have := h5 (o1.length + k) b (by rw [List.getElem?_append_right (by omega), Nat.add_sub_cancel_left]; exact hb)
    rw [← Nat.add_assoc] at this
    exact this
theorem sH_cons {T D : zJ} {tot i o : Nat} {P : Pt} {b : List Pt} {os : List Nat} (h : sH T D tot i o (P :: b) os) : sH T D tot (i + 1) o b os ∧ D 17 i = T 4 (pB P) ∧ D 18 i = pV P ∧ D 21 i = nI (pF P) ∧ D 22 i = nI (pS P) ∧ i < 100 := by
  have h' := h
  obtain ⟨h1, h2, h3, h4, h5, h6⟩ := h
  simp at h3
  obtain ⟨q1, q2, q3, q4, q5, q6⟩ := h4 0 P rfl
  refine ⟨(sH_app (b1 := [P]) (o1 := []) h').2, q1, q2, q5, q6, by omega⟩
theorem wP_nx {D D' : zJ} {pos nx' : Nat} {fl : Bool} {e : List Nat} {x : Int32} (h : wP (zu D 26 3 x) D' pos fl e nx') : wP D D' pos fl e nx' := by
  obtain ⟨h1, h2, h3⟩ := h
  refine ⟨wK_trans wK_26 h1, h2, ?_⟩
  rcases h3 with ⟨a1, a2, a3, a4, a5, a6⟩ | h3
  · exact Or.inl ⟨a1, a2, a3, a4, fun k hk => by rw [a5 k hk, zu_at, if_neg (by omega)], a6⟩
  · exact Or.inr h3
theorem sS_nx {D : zJ} {pos nx : Nat} {fl : Bool} (h : sS D pos nx fl) (y : Nat) : sS (zu D 26 3 (nI y)) pos y fl := by
  obtain ⟨a1, a2, a3, a4⟩ := h
  refine ⟨by rw [zu_at, if_neg (by omega)]; exact a1, zu_self _ _ _ _, by rw [zu_at, if_neg (by omega)]; exact a3, a4⟩
/-- the member with an index -/
theorem c_memAt {M : zM} {T : zJ} {n t k : Nat} : ∀ m j c, rChain M T (rep M T n) t m j c → j ≤ k → k < j + m → j + m < 100 → ∃ b a, (∀ N F, m + 1 ≤ F → qfix (FT_memberAt_5 N M (nI k)) F c = some (some b)) ∧ zsh M b = some (.inl 1) ∧ zr M b 0 = some a ∧ rep M T n a (chd T (6 * t + k)) ∧ (T 4 t = 9 → zi M b 4 = nI (jRank T t k (cnt T t))) := by
  intro m
  induction m with
  | zero => intro j c _ h1 h2; omega
  | succ m ih =>
    intro j c hch h1 h2 h3
    obtain ⟨b, a, rfl, hb, b0, hr, b1, b2, b3, b4, hch'⟩ := hch
    have hstep : ∀ N F, qfix (FT_memberAt_5 N M (nI k)) (F + 1) (some b) = if j = k then some (some b) else qfix (FT_memberAt_5 N M (nI k)) F (zr M b 5) := by
      intro N F
      show FT_memberAt_5 N M (nI k) (qfix (FT_memberAt_5 N M (nI k)) F) (some b) = _
      simp only [FT_memberAt_5, qo_s rfl hb, b1]
      rw [if_neg (by simp)]
      simp (disch := omega) only [nI_eq]
    by_cases c : j = k
    · subst c
      refine ⟨b, a, fun N F hF => ?_, hb, b0, hr, b4⟩
      obtain ⟨F, rfl⟩ : ∃ g, F = g + 1 := ⟨F - 1, by omega⟩
      rw [hstep, if_pos rfl]
    · obtain ⟨b', a', q1, q2⟩ := ih (j + 1) _ hch' (by omega) (by omega) (by omega)
      refine ⟨b', a', fun N F hF => ?_, q2⟩
      obtain ⟨F, rfl⟩ : ∃ g, F = g + 1 := ⟨F - 1, by omega⟩
      rw [hstep, if_neg c, q1 N F (by omega)]
theorem sh_bit {tot j : Nat} (ht : tot < 64) (hj : j < 6) : ((nI tot >>> (nI j &&& 31)) &&& 1 = 0) ↔ (tot / 2 ^ j) % 2 = 0 := by
  have h1 : tot / 2 ^ j ≤ tot := Nat.div_le_self _ _
  rw [nI_and31 (by omega), nI_shr (by omega) (by omega), show (1 : Int32) = nI 1 from rfl, nI_and (by omega) (by omega), show (0 : Int32) = nI 0 from rfl, nI_eq (by have := Nat.and_le_left (n := tot / 2 ^ j) (m := 1); omega) (by omega), Nat.and_one_is_mod]
theorem wvc_sh {T : zJ} {rc : wvRec} {t : Nat} {par : Int32} : ∀ m j i o b os c ma pk num sh, j + m ≤ 6 → WVC T rc t par m j i o b os c ma pk num sh → sh % 2 ^ j = 0 ∧ sh + 2 ^ j ≤ 2 ^ (j + m) := by
  intro m
  induction m with
  | zero =>
    intro j i o b os c ma pk num sh hj h
    obtain ⟨_, _, _, _, _, _, rfl⟩ := h
    simp
  | succ m ih =>
    intro j i o b os c ma pk num sh hj h
    unfold WVC at h
    have e1 : 2 ^ (j + 1) = 2 * 2 ^ j := by rw [Nat.pow_succ]; omega
    have e2 : 2 ^ (j + (m + 1)) = 2 ^ (j + 1 + m) := by rw [show j + (m + 1) = j + 1 + m by omega]
    have hj6 : j = 0 ∨ j = 1 ∨ j = 2 ∨ j = 3 ∨ j = 4 ∨ j = 5 := by omega
    rcases h with ⟨_, ma', _, h⟩ | ⟨_, b', ma', num', _, _, _, h⟩ | ⟨b1, os1, e1', k1, b', os', c', ma', pk', num', sh', _, _, _, _, _, _, _, _, h8, h⟩
    · have := ih _ _ _ _ _ _ _ _ _ _ (by omega) h
      rw [e2]
      rcases hj6 with rfl | rfl | rfl | rfl | rfl | rfl <;> simp at this ⊢ <;> omega
    · have := ih _ _ _ _ _ _ _ _ _ _ (by omega) h
      rw [e2]
      rcases hj6 with rfl | rfl | rfl | rfl | rfl | rfl <;> simp at this ⊢ <;> omega
    · have := ih _ _ _ _ _ _ _ _ _ _ (by omega) h
      rw [e2, h8]
      rcases hj6 with rfl | rfl | rfl | rfl | rfl | rfl <;> simp at this ⊢ <;> omega
theorem s_shows {M : zM} {D : zJ} {b h j tot : Nat} (hb : zsh M b = some (.inl 1)) (b1 : zi M b 1 = nI j) (hh : h < 100) (h22 : D 22 h = nI tot) (ht : tot < 64) (hj : j < 6) (N : Nat) : FV_shows N M 16 (nI h) (some b) D = some (decide ((tot / 2 ^ j) % 2 = 1), D) := by
  unfold FV_shows
  rw [qk_t (qi_nI hh (by omega)), qo_s rfl hb, nI_clamp (by omega), h22, b1]
  simp only [sh_bit ht hj]
  by_cases c : (tot / 2 ^ j) % 2 = 0
  · rw [if_pos c, decide_eq_false (by omega)]
  · rw [if_neg c, decide_eq_true (by omega)]
def sE (M : zM) (T : zJ) (n f ins : Nat) : Prop := ∀ a u par wh i o blk os e pk D pos fl tot, wfT T n u → rep M T n a u → WV T n u u none par wh i o blk os e pk → sH T D tot i o blk os → sS D pos i fl → ∃ D', Ev (fun N => RS_writeElement N M f (some a, -1, nI (ins + 1), D) = some ((), D')) ∧ wP D D' pos fl e (i + blk.length)
theorem s_comps {M : zM} {T : zJ} {n t f h ins tot shT : Nat} {par : Int32} (hk : T 4 t = 6) (hE : sE M T n f ins) (hh : h < 100) (hsT : shT < 64) :
    ∀ m j c i o b os e ma pk num sh low D pos fl, rChain M T (rep M T n) t m j c → (∀ j', j' < j + m → wfT T n (chd T (6 * t + j'))) → j + m ≤ 6 → WVC T (WV T n) t par m j i o b os e ma pk num sh → shT = low + sh → low < 2 ^ j → D 22 h = nI shT → sH T D tot i o b os → sS D pos i fl →
      ∃ D', Ev (fun N => ∀ F, m + 1 ≤ F → qfix (FS_writeComponents_6 N M (RS_writeElement N M f) (nI h) (nI ins)) F (c, D) = some ((), D')) ∧ wP D D' pos fl e (i + b.length) := by
  intro m
  induction m with
  | zero =>
    intro j c i o b os e ma pk num sh low D pos fl hch _ _ hv _ _ _ hH hS
    have : c = none := hch
    subst this
    obtain ⟨rfl, rfl, rfl, _⟩ := hv
    refine ⟨D, ev_of (fun N F hF => ?_), wP_nil hS⟩
    obtain ⟨F, rfl⟩ : ∃ g, F = g + 1 := ⟨F - 1, by omega⟩
    rfl
  | succ m ih =>
    intro j c i o b os e ma pk num sh low D pos fl hch hwf hj hv hlow hl2 h22 hH hS
    obtain ⟨bb, a, rfl, hb, b0, hr, b1, b2, b3, _, hch'⟩ := hch
    have b2 := b2 hk
    have hwf' : ∀ j', j' < j + 1 + m → wfT T n (chd T (6 * t + j')) := fun j' hj' => hwf j' (by omega)
    have hsh := s_shows (D := D) hb b1 hh h22 hsT (show j < 6 by omega)
    have hj6 : j = 0 ∨ j = 1 ∨ j = 2 ∨ j = 3 ∨ j = 4 ∨ j = 5 := by omega
    have hstep : ∀ N F, qfix (FS_writeComponents_6 N M (RS_writeElement N M f) (nI h) (nI ins)) (F + 1) (some bb, D) = if decide ((shT / 2 ^ j) % 2 = 1) = false then (if T 14 (6 * t + j) = 2 then qfix (FS_writeComponents_6 N M (RS_writeElement N M f) (nI h) (nI ins)) F (zr M bb 5, zu D 26 3 (nI (i + 1))) else qfix (FS_writeComponents_6 N M (RS_writeElement N M f) (nI h) (nI ins)) F (zr M bb 5, D)) else qb (RS_writeElement N M f (some a, -1, nI (ins + 1), D)) (fun v10 J11 => qfix (FS_writeComponents_6 N M (RS_writeElement N M f) (nI h) (nI ins)) F (zr M bb 5, J11)) := by
      intro N F
      show FS_writeComponents_6 N M (RS_writeElement N M f) (nI h) (nI ins) (qfix (FS_writeComponents_6 N M (RS_writeElement N M f) (nI h) (nI ins)) F) (some bb, D) = _
      simp only [FS_writeComponents_6, hsh, qb_some, bI_eq0, qo_s rfl hb, b2, b0, nI_p1, hS.2.1]
      rw [if_neg (by simp)]
    unfold WVC at hv
    rcases hv with ⟨f1, ma', _, hv⟩ | ⟨f2, b', ma', num', hbb, _, _, hv⟩ | ⟨b1', os1, e1, k1, b', os', c', ma', pk', num', sh', hv1, hnl, hbb, hos, hc, _, _, _, hsh8, hv⟩
    · obtain ⟨z1, z2⟩ := wvc_sh _ _ _ _ _ _ _ _ _ _ _ (by omega) hv
      have hbit : decide ((shT / 2 ^ j) % 2 = 1) = false := by
        refine decide_eq_false ?_
        rcases hj6 with rfl | rfl | rfl | rfl | rfl | rfl <;> simp at z1 hl2 ⊢ <;> omega
      have n2 : ¬ T 14 (6 * t + j) = 2 := by rw [f1]; decide
      simp only [if_pos hbit, if_neg n2] at hstep
      obtain ⟨D', q1, q2⟩ := ih (j + 1) _ i o b os e ma' pk num sh low D pos fl hch' hwf' (by omega) hv hlow (by rw [Nat.pow_succ]; omega) h22 hH hS
      refine ⟨D', ev_mono q1 (fun N hN F hF => ?_), q2⟩
      obtain ⟨F, rfl⟩ : ∃ g, F = g + 1 := ⟨F - 1, by omega⟩
      rw [hstep, hN F (by omega)]
    · obtain ⟨z1, z2⟩ := wvc_sh _ _ _ _ _ _ _ _ _ _ _ (by omega) hv
      have hbit : decide ((shT / 2 ^ j) % 2 = 1) = false := by
        refine decide_eq_false ?_
        rcases hj6 with rfl | rfl | rfl | rfl | rfl | rfl <;> simp at z1 hl2 ⊢ <;> omega
      simp only [if_pos hbit, if_pos f2] at hstep
      subst hbb
      obtain ⟨D', q1, q2⟩ := ih (j + 1) _ (i + 1) o b' os e ma' pk num' sh low (zu D 26 3 (nI (i + 1))) pos fl hch' hwf' (by omega) hv hlow (by rw [Nat.pow_succ]; omega) (by rw [zu_at, if_neg (by omega)]; exact h22) (sH_wK wK_26 (sH_cons hH).1) (sS_nx hS (i + 1))
      refine ⟨D', ev_mono q1 (fun N hN F hF => ?_), ?_⟩
      · obtain ⟨F, rfl⟩ : ∃ g, F = g + 1 := ⟨F - 1, by omega⟩
        rw [hstep, hN F (by omega)]
      · have := wP_nx q2
        rw [List.length_cons, show i + (b'.length + 1) = i + 1 + b'.length by omega]
        exact this
    · obtain ⟨z1, z2⟩ := wvc_sh _ _ _ _ _ _ _ _ _ _ _ (by omega) hv
      have hbit : ¬ decide ((shT / 2 ^ j) % 2 = 1) = false := by
        rw [decide_eq_false_iff_not, Classical.not_not]
        rcases hj6 with rfl | rfl | rfl | rfl | rfl | rfl <;> simp at z1 hl2 hsh8 ⊢ <;> omega
      simp only [if_neg hbit] at hstep
      subst hbb hos hc
      obtain ⟨hH1, hH2⟩ := sH_app hH
      obtain ⟨D1, r1, r2⟩ := hE a (chd T (6 * t + j)) par j i o b1' os1 e1 k1 D pos fl tot (hwf j (by omega)) hr hv1 hH1 hS
      obtain ⟨p1, f1, s1, s2⟩ := wP_next r2
      obtain ⟨D', q1, q2⟩ := ih (j + 1) _ (i + b1'.length) (o + os1.length) b' os' c' ma' pk' num' sh' (low + 2 ^ j) D1 p1 f1 hch' hwf' (by omega) hv (by omega) (by rw [Nat.pow_succ]; omega) (by rw [r2.1 22 (by omega) (by omega)]; exact h22) (sH_wK r2.1 hH2) s1
      refine ⟨D', ev_mono (ev_and r1 q1) (fun N hN F hF => ?_), ?_⟩
      · obtain ⟨F, rfl⟩ : ∃ g, F = g + 1 := ⟨F - 1, by omega⟩
        rw [hstep, hN.1, qb_some, hN.2 F (by omega)]
      · have := s2 _ _ _ q2
        rw [List.length_append, ← Nat.add_assoc]
        exact this
