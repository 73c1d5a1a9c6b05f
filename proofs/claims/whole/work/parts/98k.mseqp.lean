/-! THE REFERENCE reads packed bits: frames, items, components -/
def elW (T : zJ) (src : Nat → Nat) (L n : Nat) : Prop := ∀ u par wh i o p fr J, wfT T n u → hS T J src L i o p fr → fr + n ≤ 12 → ∃ J1, Ev (fun N => FM_want N (nI u) par (nI wh) J = some ((), J1)) ∧ hR T src L J i o p fr (rdP T src false n u u none par wh i o (8 * L) p) J1
def hX (T : zJ) (src : Nat → Nat) (L : Nat) (J : zJ) (h i o p f : Nat) (X : Option (Nat × Nat × Rs)) (J1 : zJ) : Prop :=
  (X = none → ∃ J2, Rch2 J1 J2 ∧ J2 0 49 = 0 ∧ mK J J2) ∧ (∀ x, X = some x → ∃ J2, Rch2 J1 J2 ∧ mGh J J2 h i o f ∧ hS T J2 src L (i + x.2.2.1.length) (o + x.2.2.2.1.length) x.1 f ∧ p ≤ x.1 ∧ J2 22 h = nI x.2.1 ∧ mH J2 i x.2.2.1 ∧ mO J2 o x.2.2.2.1)
theorem hX_none {T : zJ} {src : Nat → Nat} {L : Nat} {J J1 J2 : zJ} {h i o p f : Nat} (hr : Rch2 J1 J2) (hb : J2 0 49 = 0) (hk : mK J J2) : hX T src L J h i o p f none J1 :=
  ⟨fun _ => ⟨J2, hr, hb, hk⟩, fun x hx => by cases hx⟩
theorem hX_some {T : zJ} {src : Nat → Nat} {L : Nat} {J J1 J2 : zJ} {h i o p f : Nat} {x : Nat × Nat × Rs} (hr : Rch2 J1 J2) (h1 : mGh J J2 h i o f) (h2 : hS T J2 src L (i + x.2.2.1.length) (o + x.2.2.2.1.length) x.1 f) (h3 : p ≤ x.1) (h4 : J2 22 h = nI x.2.1) (h5 : mH J2 i x.2.2.1) (h6 : mO J2 o x.2.2.2.1) : hX T src L J h i o p f (some x) J1 :=
  ⟨fun hx => (by cases hx), fun y hy => (by injection hy with hy; subst hy; exact ⟨J2, hr, h1, h2, h3, h4, h5, h6⟩)⟩
theorem uKp_hS {T J J' : zJ} {src : Nat → Nat} {L i o p fr : Nat} (h : uKp J J' 0) (hS0 : hS T J src L i o p fr) : hS T J' src L i o p fr := by
  refine hS_c hS0 (uKp_mG h 0 0 0).1 ?_ ?_ ?_ ?_ ?_ <;> exact h _ _ (by omega) (by omega) (by omega)
theorem hS_fr {T J : zJ} {src : Nat → Nat} {L i o p fr c k : Nat} {x : Int32} (hS0 : hS T J src L i o p fr) (hc : 31 ≤ c ∧ c ≤ 35) : hS T (zu J c k x) src L i o p fr := by
  refine hS_c hS0 (mK_zu (mW_r hc)) ?_ ?_ ?_ ?_ ?_ <;> rw [zu_at, if_neg (by omega)]
theorem hS_pop {T J : zJ} {src : Nat → Nat} {L i o p f : Nat} (h : hS T J src L i o p (f + 1)) : hS T (zu J 0 48 (nI f)) src L i o p f := by
  obtain ⟨a1, a2, a3, a4, a5, a6, a7, a8, a9, a10, a11, a12, a13⟩ := h
  refine ⟨?_, ?_, ?_, ?_, zu_self _ _ _ _, ?_, fun k hk => ?_, mK_ty (mK_zu (mW_f (by omega))) a8, a9, a10, a11, a12, by omega⟩
  · rw [zu_at, if_neg (by omega)]; exact a1
  · rw [zu_at, if_neg (by omega)]; exact a2
  · rw [zu_at, if_neg (by omega)]; exact a3
  · rw [zu_at, if_neg (by omega)]; exact a4
  · rw [zu_at, if_neg (by omega)]; exact a6
  · rw [zu_at, if_neg (by omega)]; exact a7 k hk
theorem q_goOn {T J : zJ} {src : Nat → Nat} {L i o p f h t0 n0 j b : Nat} (hS0 : hS T J src L i o p (f + 1)) (h31 : J 31 f = nI h) (hh : h < 100) (h21 : J 21 h = nI t0) (hw : wfT T n0 t0) (hn : n0 ≤ 6) (hb : bas T 6 t0 = b) (b160 : b < 160) (h33 : J 33 f = nI j) :
    ∃ J2, uKp J J2 0 ∧ J2 0 23 = nI b ∧ Ev (fun N => FM_goOnPacked N J = FM_goOnPacked_66 N (nI f) (nI h) (nI b) (nI j) (nI j) (if T 4 b = 6 then T 8 b else J 22 h) (zu J2 33 f (nI (j + 1)))) := by
  obtain ⟨J2, u1, u2, u3, u4⟩ := m_unw hw hn hS0.2.2.2.2.2.2.2.1
  rw [← (bas_wf n0 6 t0 hw hn).1, hb] at u2
  refine ⟨J2, u4, u2, ev_mono u1 (fun N hN => ?_)⟩
  have f100 := hS0.2.2.2.2.2.2.2.2.2.2.2.2
  have hS2 := uKp_hS u4 hS0
  have hT2 := hS2.2.2.2.2.2.2.2.1
  unfold FM_goOnPacked FM_baseOf
  rw [hS0.2.2.2.2.1, show nI (f + 1) - 1 = nI f from nI_subs (a := f + 1) (b := 1) (by omega)]
  simp only [qk_t (qi_nI (show f < 160 by omega) (show 160 < 2 ^ 31 by omega)), nI_clamp (show f < 2 ^ 31 by omega), h31, qk_t (qi_nI hh (show 100 < 2 ^ 31 by omega)), nI_clamp (show h < 2 ^ 31 by omega), h21, hN, qb_some, u2, qk_t (qi_nI b160 (show 160 < 2 ^ 31 by omega)), nI_clamp (show b < 2 ^ 31 by omega)]
  rw [show J2 33 f = nI j from by rw [u4 33 f (by omega) (by omega) (by omega)]; exact h33, nI_p1]
  have e : ∀ c k, c ≠ 33 → zu J2 33 f (nI (j + 1)) c k = J2 c k := fun c k hc => by rw [zu_at, if_neg (by omega)]
  simp only [e 4 _ (by omega), e 8 _ (by omega), e 22 _ (by omega), hT2 4 b (by omega) (by omega), hT2 8 b (by omega) (by omega), u4 22 h (by omega) (by omega) (by omega)]
  by_cases k : T 4 b = 6
  · rw [if_pos k, if_pos k]
  · rw [if_neg k, if_neg k]
theorem hX_step {T : zJ} {src : Nat → Nat} {L : Nat} {J J0 J1 : zJ} {h i o p p' f : Nat} {X : Option (Nat × Nat × Rs)} (hg : mGh J J0 h i o f) (hr : Rch2 J J1) (hp : p ≤ p') (hx : hX T src L J0 h i o p' f X J1) : hX T src L J h i o p f X J := by
  refine ⟨fun q => ?_, fun x hX => ?_⟩
  · obtain ⟨J2, z1, z2, z3⟩ := hx.1 q
    exact ⟨J2, Rch2_trans hr z1, z2, mK_trans hg.1 z3⟩
  · obtain ⟨J2, z1, z2, z3, z4, z5⟩ := hx.2 x hX
    exact ⟨J2, Rch2_trans hr z1, mGh_trans hg z2 (Nat.le_refl _) (Nat.le_refl _) (Nat.le_refl _), z3, Nat.le_trans hp z4, z5⟩
theorem q_list {T : zJ} {src : Nat → Nat} {L n n0 b t0 h f c : Nat} (hs : sOK src) (hw0 : wfT T n0 t0) (hn0 : n0 ≤ 6) (hb : bas T 6 t0 = b) (k7 : T 4 b = 7) (hwb : wfT T (n + 1) b) (hh : h < 100) (hE : elW T src L n) (hfn : f + 1 + n ≤ 12) (hc : c ≤ 127) :
    ∀ m k i o p J, k + m = c → h < i → hS T J src L i o p (f + 1) → J 31 f = nI h → J 21 h = nI t0 → J 22 h = nI c → J 33 f = nI k →
      hX T src L J h i o p f ((rpL (rdP T src false n) (chd T (6 * b)) (nI h) (8 * L) m k i o p).bind fun q => some (q.1, c, q.2)) J := by
  obtain ⟨w1, w2⟩ := hwb.2.2.2.2.2.2.1 k7
  have b160 := hwb.1
  have n6 : ¬ T 4 b = 6 := by rw [k7]; decide
  intro m
  induction m with
  | zero =>
    intro k i o p J hk hi hS0 h31 h21 h22 h33
    obtain ⟨J2, u4, u2, hg⟩ := q_goOn hS0 h31 hh h21 hw0 hn0 hb b160 h33
    have hS2 := uKp_hS u4 hS0
    have hS3 : hS T (zu J2 33 f (nI (k + 1))) src L i o p (f + 1) := hS_fr hS2 (by omega)
    have f100 := hS0.2.2.2.2.2.2.2.2.2.2.2.2
    have hstep : goS2 J (zu (zu J2 33 f (nI (k + 1))) 0 48 (nI f)) := by
      refine ⟨hS0.1, ⟨f, by omega, hS0.2.2.2.2.1⟩, ev_mono hg (fun N hN => ?_)⟩
      rw [hN, if_neg n6, h22]
      unfold FM_goOnPacked_66
      rw [if_pos (by rw [show k = c by omega])]
      simp only [hS3.2.2.2.2.1, show nI (f + 1) - 1 = nI f from nI_subs (a := f + 1) (b := 1) (by omega)]
    refine hX_some (J2 := zu (zu J2 33 f (nI (k + 1))) 0 48 (nI f)) (Rch2_step hstep (Rch2_refl _)) ?_ (hS_pop hS3) (Nat.le_refl _) ?_ (mH_nil _ _) (mO_nil _ _)
    · exact mGh_of (mG_trans (mG_trans (uKp_mG u4 i o f) (mG_zu (i := i) (o := o) (fr := f) (mW_r (by omega)) (by omega)) (Nat.le_refl _) (Nat.le_refl _) (Nat.le_refl _)) (mG_zu (i := i) (o := o) (fr := f) (mW_f (by omega)) (by omega)) (Nat.le_refl _) (Nat.le_refl _) (Nat.le_refl _))
    · rw [zu_at, if_neg (by omega), zu_at, if_neg (by omega), u4 22 h (by omega) (by omega) (by omega)]; exact h22
  | succ m ih =>
    intro k i o p J hk hi hS0 h31 h21 h22 h33
    obtain ⟨J2, u4, u2, hg⟩ := q_goOn hS0 h31 hh h21 hw0 hn0 hb b160 h33
    have hS2 := uKp_hS u4 hS0
    have hS3 : hS T (zu J2 33 f (nI (k + 1))) src L i o p (f + 1) := hS_fr hS2 (by omega)
    have f100 := hS0.2.2.2.2.2.2.2.2.2.2.2.2
    have hT3 := hS3.2.2.2.2.2.2.2.1
    obtain ⟨J4, e1, e2⟩ := hE (chd T (6 * b)) (nI h) k i o p (f + 1) _ w2 hS3 (by omega)
    have hstep : goS2 J J4 := by
      refine ⟨hS0.1, ⟨f, by omega, hS0.2.2.2.2.1⟩, ev_mono (ev_and hg e1) (fun N hN => ?_)⟩
      rw [hN.1, if_neg n6, h22]
      unfold FM_goOnPacked_66
      rw [if_neg (by rw [nI_eq (by omega) (by omega)]; omega), qk_t (qi_nI b160 (by omega)), nI_clamp (by omega), hT3 4 b (by omega) (by omega), if_neg n6, show (6 : Int32) * nI b = nI (6 * b) from nI_mul 6 b, qk_t (qi_nI (by omega) (by omega)), nI_clamp (by omega), hT3 13 _ (by omega) (by omega), w1, hN.2, qb_some]
    have hg3 : mGh J (zu J2 33 f (nI (k + 1))) h i o f := mGh_of (mG_trans (uKp_mG u4 i o f) (mG_zu (i := i) (o := o) (fr := f) (mW_r (by omega)) (by omega)) (Nat.le_refl _) (Nat.le_refl _) (Nat.le_refl _))
    have hz : ∀ c' x, c' ≠ 0 → c' ≠ 16 → c' ≠ 17 → ¬ (c' = 33 ∧ x = f) → zu J2 33 f (nI (k + 1)) c' x = J c' x := fun c' x q1 q2 q3 q4 => by rw [zu_at, if_neg q4, u4 c' x q2 (by omega) (by omega)]
    unfold rpL
    cases hr : rdP T src false n (chd T (6 * b)) (chd T (6 * b)) none (nI h) k i o (8 * L) p with
    | none =>
      obtain ⟨J5, z1, z2, z3⟩ := e2.1 hr
      exact hX_none (Rch2_step hstep z1) z2 (mK_trans hg3.1 z3)
    | some r =>
      obtain ⟨J5, q1, q2, q3, q4, q5, q6⟩ := e2.2 r hr
      have hgh : mGh J J5 h i o f := mGh_trans hg3 (mGh_of ⟨q2.1, q2.2.1, q2.2.2.1, fun c k c1 c2 hk => q2.2.2.2 c k c1 c2 (by omega)⟩) (Nat.le_refl _) (Nat.le_refl _) (Nat.le_refl _)
      have g := ih (k + 1) (i + r.2.1.length) (o + r.2.2.1.length) r.1 J5 (by omega) (by omega) q3 (by rw [q2.2.2.2 31 f (by omega) (by omega) (by omega), hz 31 f (by omega) (by omega) (by omega) (by omega)]; exact h31) (by rw [q2.2.1 21 h (by omega) (by omega) hi, hz 21 h (by omega) (by omega) (by omega) (by omega)]; exact h21) (by rw [q2.2.1 22 h (by omega) (by omega) hi, hz 22 h (by omega) (by omega) (by omega) (by omega)]; exact h22) (by rw [q2.2.2.2 33 f (by omega) (by omega) (by omega), zu_self])
      simp only [Option.bind_some]
      cases hl : rpL (rdP T src false n) (chd T (6 * b)) (nI h) (8 * L) m (k + 1) (i + r.2.1.length) (o + r.2.2.1.length) r.1 with
      | none =>
        rw [hl] at g
        obtain ⟨J6, z1, z2, z3⟩ := g.1 rfl
        exact hX_none (Rch2_trans (Rch2_step hstep q1) z1) z2 (mK_trans hgh.1 z3)
      | some q =>
        rw [hl] at g
        obtain ⟨J6, z1, z2, z3, z4, z5, z6, z7⟩ := g.2 _ rfl
        refine hX_some (J2 := J6) (Rch2_trans (Rch2_step hstep q1) z1) (mGh_trans hgh z2 (by omega) (by omega) (by omega)) ?_ (Nat.le_trans q4 z4) z5 (mH_apph hi q5 z2 z6) (mO_apph q6 z2 z7)
        show hS T J6 src L (i + (r.2.1 ++ q.2.1).length) (o + (r.2.2.1 ++ q.2.2.1).length) q.1 f
        rw [List.length_append, List.length_append, ← Nat.add_assoc, ← Nat.add_assoc]
        exact z3
/-- the marks of a frame as a number -/
def fbv : List Bool → Nat
  | [] => 0
  | b :: l => b.toNat * 2 ^ l.length + fbv l
theorem fbv_lt : ∀ l, fbv l < 2 ^ l.length := by
  intro l
  induction l with
  | nil => decide
  | cons b l ih =>
    unfold fbv
    rw [List.length_cons, Nat.pow_succ]
    cases b
    · simp; omega
    · simp; omega
theorem fbv_app (l : List Bool) (b : Bool) : fbv (l ++ [b]) = 2 * fbv l + b.toNat := by
  induction l with
  | nil => simp [fbv]
  | cons a l ih =>
    show a.toNat * 2 ^ (l ++ [b]).length + fbv (l ++ [b]) = 2 * (a.toNat * 2 ^ l.length + fbv l) + b.toNat
    rw [ih, List.length_append, List.length_singleton, Nat.pow_succ]
    cases a <;> simp <;> omega
theorem fbv_bit : ∀ l j, j < l.length → fbv l / 2 ^ (l.length - 1 - j) % 2 = (l.getD j false).toNat := by
  intro l
  induction l with
  | nil => intro j h; simp at h
  | cons a l ih =>
    intro j hj
    have hlt := fbv_lt l
    have hpos : 0 < 2 ^ l.length := Nat.two_pow_pos _
    cases j with
    | zero =>
      show (a.toNat * 2 ^ l.length + fbv l) / 2 ^ (l.length + 1 - 1 - 0) % 2 = a.toNat
      rw [show l.length + 1 - 1 - 0 = l.length by omega]
      cases a
      · simp [Nat.div_eq_of_lt hlt]
      · rw [show (true.toNat) = 1 from rfl, Nat.one_mul, Nat.add_comm, Nat.add_div_right _ hpos, Nat.div_eq_of_lt hlt]
    | succ j =>
      have hj' : j < l.length := by simpa using hj
      show (a.toNat * 2 ^ l.length + fbv l) / 2 ^ (l.length + 1 - 1 - (j + 1)) % 2 = (l.getD j false).toNat
      rw [← ih j hj', show l.length + 1 - 1 - (j + 1) = l.length - 1 - j by omega]
      have e : 2 ^ l.length = 2 ^ (l.length - 1 - j) * (2 * 2 ^ j) := by
        rw [Nat.mul_comm 2 (2 ^ j), ← Nat.pow_succ, ← Nat.pow_add]
        congr 1
        omega
      rw [e, Nat.mul_comm a.toNat, Nat.mul_assoc, Nat.mul_add_div (Nat.two_pow_pos _), Nat.mul_assoc, Nat.mul_add_mod]
theorem q_bitB {J : zJ} (h : J 0 49 = 0) (N : Nat) : ∃ J', FM_bit N J = some (0, J') ∧ J' 0 49 = 0 ∧ mK J J' ∧ J' 0 48 = J 0 48 := by
  unfold FM_bit FM_bit_19
  by_cases c : J 0 47 < 8 * J 0 28
  · rw [if_pos c]
    simp only
    rw [if_pos (by rw [zu_at, if_neg (by omega)]; exact h)]
    exact ⟨_, rfl, by rw [zu_at, if_neg (by omega)]; exact h, mK_zu (mW_f (by omega)), by rw [zu_at, if_neg (by omega)]⟩
  · rw [if_neg c]
    simp only
    rw [if_pos (by rw [zu_at, if_neg (by omega), zu_self])]
    exact ⟨_, rfl, by rw [zu_at, if_neg (by omega), zu_self], mK_trans (mK_zu (mW_f (by omega))) (mK_zu (mW_f (by omega))), by rw [zu_at, if_neg (by omega), zu_at, if_neg (by omega)]⟩
theorem q_bitsB {T : zJ} {n b i fr : Nat} (hw : wfT T n b) (k6 : T 4 b = 6) (hi : i < 100) (hf : fr < 100) : ∀ m j J, j + m = cnt T b → tyEq T J → J 0 49 = 0 → J 0 48 = nI (fr + 1) → ∃ J', (∀ N F, m + 1 ≤ F → qfix (FM_want_382 N (nI i) (nI b)) F (nI (6 * b + j), J) = some ((), J')) ∧ J' 0 49 = 0 ∧ mK J J' := by
  have b160 : b < 160 := by cases n with
    | zero => exact hw.elim
    | succ n => exact hw.1
  have w1 : T 8 b = nI (cnt T b) ∧ cnt T b ≤ 6 := by cases n with
    | zero => exact hw.elim
    | succ n => exact ⟨(hw.2.2.2.2.2.2.2.2.1 (Or.inl k6)).1, (hw.2.2.2.2.2.2.2.2.1 (Or.inl k6)).2.1⟩
  have e6 : ∀ j, (6 : Int32) * nI b + nI j = nI (6 * b + j) := fun j => by rw [show (6 : Int32) = nI 6 from rfl, nI_mul, nI_add]
  intro m
  induction m with
  | zero =>
    intro j J hj hT h0 h48
    refine ⟨zu J 22 i 0, fun N F hF => ?_, by rw [zu_at, if_neg (by omega)]; exact h0, mK_zu (mW_p (by omega))⟩
    obtain ⟨F, rfl⟩ : ∃ g, F = g + 1 := ⟨F - 1, by omega⟩
    rw [qfix_s]
    simp only [FM_want_382]
    rw [qk_t (qi_nI b160 (by omega)), nI_clamp (by omega), hT 8 b (by omega) (by omega), w1.1, e6, if_pos (by rw [nI_leI (by omega) (by omega)]; omega)]
    unfold FM_want_461
    rw [qk_t (qi_nI b160 (by omega)), nI_clamp (by omega), hT 4 b (by omega) (by omega), if_neg (by rw [k6]; decide), qk_t (qi_nI hi (by omega)), nI_clamp (by omega)]
  | succ m ih =>
    intro j J hj hT h0 h48
    have hbit : ∃ J3, (∀ N, FM_bit N J = some (0, J3)) ∧ J3 0 49 = 0 ∧ mK J J3 ∧ J3 0 48 = nI (fr + 1) := by
      obtain ⟨J3, b1, b2, b3, b4⟩ := q_bitB h0 0
      exact ⟨J3, fun N => b1, b2, b3, by rw [b4]; exact h48⟩
    obtain ⟨J3, b1, b2, b3, b4⟩ := hbit
    have hm1 : nI (fr + 1) - 1 = nI fr := nI_subs (a := fr + 1) (b := 1) (by omega)
    have hstep : ∀ N F, qfix (FM_want_382 N (nI i) (nI b)) (F + 1) (nI (6 * b + j), J) = if T 14 (6 * b + j) = 0 then qfix (FM_want_382 N (nI i) (nI b)) F (nI (6 * b + j + 1), zu J 34 fr (2 * J 34 fr + 1)) else qfix (FM_want_382 N (nI i) (nI b)) F (nI (6 * b + j + 1), zu J3 34 fr (2 * J 34 fr + 0)) := by
      intro N F
      rw [qfix_s]
      simp only [FM_want_382]
      rw [qk_t (qi_nI b160 (by omega)), nI_clamp (by omega), hT 8 b (by omega) (by omega), w1.1, e6, if_neg (by rw [nI_leI (by omega) (by omega)]; omega), qk_t (qi_nI b160 (by omega)), hT 4 b (by omega) (by omega), if_pos k6, h48, hm1, qk_t (qi_nI (by omega) (by omega)), qk_t (qi_nI (by omega) (by omega)), nI_clamp (by omega), hT 14 _ (by omega) (by omega), qk_t (qi_nI (by omega) (by omega)), nI_clamp (by omega), b1, qb_some, qk_t (qi_nI (by omega) (by omega)), nI_p1]
    by_cases c : T 14 (6 * b + j) = 0
    · simp only [if_pos c] at hstep
      obtain ⟨J', i1, i2, i3⟩ := ih (j + 1) (zu J 34 fr (2 * J 34 fr + 1)) (by omega) (mK_ty (mK_zu (mW_r (by omega))) hT) (by rw [zu_at, if_neg (by omega)]; exact h0) (by rw [zu_at, if_neg (by omega)]; exact h48)
      refine ⟨J', fun N F hF => ?_, i2, mK_trans (mK_zu (mW_r (by omega))) i3⟩
      obtain ⟨F, rfl⟩ : ∃ g, F = g + 1 := ⟨F - 1, by omega⟩
      rw [hstep]
      exact i1 N F (by omega)
    · simp only [if_neg c] at hstep
      obtain ⟨J', i1, i2, i3⟩ := ih (j + 1) (zu J3 34 fr (2 * J 34 fr + 0)) (by omega) (mK_ty (mK_trans b3 (mK_zu (mW_r (by omega)))) hT) (by rw [zu_at, if_neg (by omega)]; exact b2) (by rw [zu_at, if_neg (by omega)]; exact b4)
      refine ⟨J', fun N F hF => ?_, i2, mK_trans b3 (mK_trans (mK_zu (mW_r (by omega))) i3)⟩
      obtain ⟨F, rfl⟩ : ∃ g, F = g + 1 := ⟨F - 1, by omega⟩
      rw [hstep]
      exact i1 N F (by omega)
theorem prs_le {T : zJ} {src : Nat → Nat} {en t : Nat} : ∀ m j p q, prsP T src en t m j p = some q → p ≤ q.1 ∧ q.2.length = m ∧ (p ≤ en → q.1 ≤ en) := by
  intro m
  induction m with
  | zero =>
    intro j p q h
    injection h with h
    subst h
    exact ⟨Nat.le_refl _, rfl, fun h => h⟩
  | succ m ih =>
    intro j p q h
    unfold prsP at h
    by_cases c : T 14 (6 * t + j) = 0
    · rw [if_pos c] at h
      obtain ⟨r, e1, h⟩ := bind_some_eq h
      injection h with h
      subst h
      have := ih _ _ _ e1
      exact ⟨this.1, by simp [this.2.1], this.2.2⟩
    · rw [if_neg c] at h
      obtain ⟨c2, h⟩ := ite_some h
      obtain ⟨r, e1, h⟩ := bind_some_eq h
      injection h with h
      subst h
      have := ih _ _ _ e1
      exact ⟨by have := this.1; simp; omega, by simp [this.2.1], fun _ => this.2.2 c2⟩
theorem q_bits {T : zJ} {src : Nat → Nat} {L n b i i' o fr : Nat} (hs : sOK src) (hw : wfT T n b) (k6 : T 4 b = 6) (hi : i < 100) (hf : fr < 100) : ∀ m j p J l, j + m = cnt T b → l.length = j → hS T J src L i' o p (fr + 1) → J 34 fr = nI (fbv l) →
    (prsP T src (8 * L) b m j p = none → ∃ J', (∀ N F, m + 1 ≤ F → qfix (FM_want_382 N (nI i) (nI b)) F (nI (6 * b + j), J) = some ((), J')) ∧ J' 0 49 = 0 ∧ mK J J') ∧
    (∀ q, prsP T src (8 * L) b m j p = some q → ∃ J', (∀ N F, m + 1 ≤ F → qfix (FM_want_382 N (nI i) (nI b)) F (nI (6 * b + j), J) = some ((), zu J' 22 i 0)) ∧ mK J J' ∧ hS T J' src L i' o q.1 (fr + 1) ∧ J' 34 fr = nI (fbv (l ++ q.2)) ∧ (∀ c x, c ≠ 0 → ¬ (c = 34 ∧ x = fr) → J' c x = J c x)) := by
  have b160 : b < 160 := by cases n with
    | zero => exact hw.elim
    | succ n => exact hw.1
  have w1 : T 8 b = nI (cnt T b) ∧ cnt T b ≤ 6 := by cases n with
    | zero => exact hw.elim
    | succ n => exact ⟨(hw.2.2.2.2.2.2.2.2.1 (Or.inl k6)).1, (hw.2.2.2.2.2.2.2.2.1 (Or.inl k6)).2.1⟩
  have e6 : ∀ j, (6 : Int32) * nI b + nI j = nI (6 * b + j) := fun j => by rw [show (6 : Int32) = nI 6 from rfl, nI_mul, nI_add]
  have hm1 : nI (fr + 1) - 1 = nI fr := nI_subs (a := fr + 1) (b := 1) (by omega)
  intro m
  induction m with
  | zero =>
    intro j p J l hj hl hS0 h34
    have hT := hS0.2.2.2.2.2.2.2.1
    refine ⟨fun h => (by cases h), fun q hq => ?_⟩
    injection hq with hq
    subst hq
    refine ⟨J, fun N F hF => ?_, mK_refl J, hS0, by rw [List.append_nil]; exact h34, fun c x _ _ => rfl⟩
    obtain ⟨F, rfl⟩ : ∃ g, F = g + 1 := ⟨F - 1, by omega⟩
    rw [qfix_s]
    simp only [FM_want_382]
    rw [qk_t (qi_nI b160 (by omega)), nI_clamp (by omega), hT 8 b (by omega) (by omega), w1.1, e6, if_pos (by rw [nI_leI (by omega) (by omega)]; omega)]
    unfold FM_want_461
    rw [qk_t (qi_nI b160 (by omega)), nI_clamp (by omega), hT 4 b (by omega) (by omega), if_neg (by rw [k6]; decide), qk_t (qi_nI hi (by omega)), nI_clamp (by omega)]
  | succ m ih =>
    intro j p J l hj hl hS0 h34
    have hT := hS0.2.2.2.2.2.2.2.1
    have h48 := hS0.2.2.2.2.1
    have hll : fbv l < 2 ^ j := hl ▸ fbv_lt l
    have hstep : ∀ N F v (J3 : zJ), FM_bit N J = some (v, J3) → J3 0 48 = nI (fr + 1) → qfix (FM_want_382 N (nI i) (nI b)) (F + 1) (nI (6 * b + j), J) = if T 14 (6 * b + j) = 0 then qfix (FM_want_382 N (nI i) (nI b)) F (nI (6 * b + j + 1), zu J 34 fr (2 * nI (fbv l) + 1)) else qfix (FM_want_382 N (nI i) (nI b)) F (nI (6 * b + j + 1), zu J3 34 fr (2 * nI (fbv l) + v)) := by
      intro N F v J3 b1 b4
      rw [qfix_s]
      simp only [FM_want_382]
      rw [qk_t (qi_nI b160 (by omega)), nI_clamp (by omega), hT 8 b (by omega) (by omega), w1.1, e6, if_neg (by rw [nI_leI (by omega) (by omega)]; omega), qk_t (qi_nI b160 (by omega)), hT 4 b (by omega) (by omega), if_pos k6, h48, hm1, qk_t (qi_nI (by omega) (by omega)), qk_t (qi_nI (by omega) (by omega)), nI_clamp (by omega), hT 14 _ (by omega) (by omega), qk_t (qi_nI (by omega) (by omega)), nI_clamp (by omega), b1, qb_some, qk_t (qi_nI (by omega) (by omega)), nI_p1, h34]
    have hval : ∀ x : Bool, (2 : Int32) * nI (fbv l) + nI x.toNat = nI (fbv (l ++ [x])) := fun x => by
      rw [fbv_app, show (2 : Int32) = nI 2 from rfl, nI_mul, nI_add]
    have hsb : ∀ p, sbit src p = 0 ∨ sbit src p = 1 := fun p => by unfold sbit; omega
    unfold prsP
    by_cases c : T 14 (6 * b + j) = 0
    · simp only [if_pos c] at hstep ⊢
      have hb : ∀ N, ∃ v J3, FM_bit N J = some (v, J3) ∧ J3 0 48 = nI (fr + 1) := by
        intro N
        by_cases z : p < 8 * L
        · exact ⟨_, _, (q_bit hs hS0 N).1 z, by rw [zu_at, if_neg (by omega)]; exact h48⟩
        · exact ⟨_, _, ((q_bit hs hS0 N).2 z).1, by rw [zu_at, if_neg (by omega), zu_at, if_neg (by omega)]; exact h48⟩
      have hstep' : ∀ N F, qfix (FM_want_382 N (nI i) (nI b)) (F + 1) (nI (6 * b + j), J) = qfix (FM_want_382 N (nI i) (nI b)) F (nI (6 * b + j + 1), zu J 34 fr (nI (fbv (l ++ [true])))) := by
        intro N F
        obtain ⟨v, J3, b1, b4⟩ := hb N
        rw [hstep N F v J3 b1 b4, ← hval true]
        rfl
      obtain ⟨i1, i2⟩ := ih (j + 1) p (zu J 34 fr (nI (fbv (l ++ [true])))) (l ++ [true]) (by omega) (by simp [hl]) (hS_fr hS0 (by omega)) (zu_self _ _ _ _)
      refine ⟨fun h => ?_, fun q hq => ?_⟩
      · cases hr : prsP T src (8 * L) b m (j + 1) p with
        | some r => rw [hr] at h; cases h
        | none =>
          obtain ⟨J', z1, z2, z3⟩ := i1 hr
          refine ⟨J', fun N F hF => ?_, z2, mK_trans (mK_zu (mW_r (by omega))) z3⟩
          obtain ⟨F, rfl⟩ : ∃ g, F = g + 1 := ⟨F - 1, by omega⟩
          rw [hstep']
          exact z1 N F (by omega)
      · obtain ⟨r, hr, hq⟩ := bind_some_eq hq
        injection hq with hq
        subst hq
        obtain ⟨J', z1, z2, z3, z4, z5⟩ := i2 r hr
        refine ⟨J', fun N F hF => ?_, mK_trans (mK_zu (mW_r (by omega))) z2, z3, ?_, fun c x h1 h2 => ?_⟩
        · obtain ⟨F, rfl⟩ : ∃ g, F = g + 1 := ⟨F - 1, by omega⟩
          rw [hstep']
          exact z1 N F (by omega)
        · rw [z4, List.append_assoc]; rfl
        · rw [z5 c x h1 h2, zu_at, if_neg h2]
    · simp only [if_neg c] at hstep ⊢
      by_cases z : p < 8 * L
      · rw [if_pos (show p + 1 ≤ 8 * L by omega)]
        have hS1 := hS_pos hS0 (show p ≤ p + 1 by omega) (show p + 1 ≤ 8 * L by omega)
        have ebit : nI (sbit src p) = nI (decide (sbit src p = 1)).toNat := by
          rcases hsb p with h | h <;> rw [h] <;> rfl
        have hstep' : ∀ N F, qfix (FM_want_382 N (nI i) (nI b)) (F + 1) (nI (6 * b + j), J) = qfix (FM_want_382 N (nI i) (nI b)) F (nI (6 * b + j + 1), zu (zu J 0 47 (nI (p + 1))) 34 fr (nI (fbv (l ++ [decide (sbit src p = 1)])))) := by
          intro N F
          rw [hstep N F _ _ ((q_bit hs hS0 N).1 z) (by rw [zu_at, if_neg (by omega)]; exact h48), ← hval, ebit]
        obtain ⟨i1, i2⟩ := ih (j + 1) (p + 1) (zu (zu J 0 47 (nI (p + 1))) 34 fr (nI (fbv (l ++ [decide (sbit src p = 1)])))) (l ++ [decide (sbit src p = 1)]) (by omega) (by simp [hl]) (hS_fr hS1 (by omega)) (zu_self _ _ _ _)
        have hkk : mK J (zu (zu J 0 47 (nI (p + 1))) 34 fr (nI (fbv (l ++ [decide (sbit src p = 1)])))) := mK_trans (mK_zu (mW_f (by omega))) (mK_zu (mW_r (by omega)))
        refine ⟨fun h => ?_, fun q hq => ?_⟩
        · cases hr : prsP T src (8 * L) b m (j + 1) (p + 1) with
          | some r => rw [hr] at h; cases h
          | none =>
            obtain ⟨J', z1, z2, z3⟩ := i1 hr
            refine ⟨J', fun N F hF => ?_, z2, mK_trans hkk z3⟩
            obtain ⟨F, rfl⟩ : ∃ g, F = g + 1 := ⟨F - 1, by omega⟩
            rw [hstep']
            exact z1 N F (by omega)
        · obtain ⟨r, hr, hq⟩ := bind_some_eq hq
          injection hq with hq
          subst hq
          obtain ⟨J', z1, z2, z3, z4, z5⟩ := i2 r hr
          refine ⟨J', fun N F hF => ?_, mK_trans hkk z2, z3, ?_, fun c x h1 h2 => ?_⟩
          · obtain ⟨F, rfl⟩ : ∃ g, F = g + 1 := ⟨F - 1, by omega⟩
            rw [hstep']
            exact z1 N F (by omega)
          · rw [z4, List.append_assoc]; rfl
          · rw [z5 c x h1 h2, zu_at, if_neg h2, zu_at, if_neg (by omega)]
      · rw [if_neg (show ¬ p + 1 ≤ 8 * L by omega)]
        refine ⟨fun _ => ?_, fun q hq => (by cases hq)⟩
        have hb := fun N => (q_bit hs hS0 N).2 z
        have hbb := (hb 0).2
        obtain ⟨J', z1, z2, z3⟩ := q_bitsB (i := i) hw k6 hi hf m (j + 1) (zu (zu (zu J 0 49 0) 0 47 (nI (p + 1))) 34 fr (2 * nI (fbv l) + 0)) (by omega) (mK_ty (mK_trans hbb.2.2.1 (mK_zu (mW_r (by omega)))) hT) (by rw [zu_at, if_neg (by omega)]; exact hbb.1) (by rw [zu_at, if_neg (by omega)]; exact hbb.2.1)
        refine ⟨J', fun N F hF => ?_, z2, mK_trans hbb.2.2.1 (mK_trans (mK_zu (mW_r (by omega))) z3)⟩
        obtain ⟨F, rfl⟩ : ∃ g, F = g + 1 := ⟨F - 1, by omega⟩
        rw [hstep N F _ _ (hb N).1 hbb.2.1]
        exact z1 N F (by omega)
