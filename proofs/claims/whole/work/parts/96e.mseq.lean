/-! THE REFERENCE reads by the open rules: components -/
theorem bit0 (N : Nat) (x : Int32) : FM_bitOf N x = FM_bitOf 0 x := rfl
theorem bit_all : ∀ b : Fin 256, FM_bitOf 0 (nI b) = some (bt b) := by decide +kernel
def XC (T : zJ) (src : Nat → Nat) (n b h lim : Nat) (lo : Bool) (m j i o p num : Nat) : Option (Nat × Nat × Rs) := (rdC T src false (rdE T src false n) b (nI h) lim m j i o p).bind fun q => (cls src (ceO lo lim) lim q.1).bind fun p3 => some (p3, num + q.2.1, q.2.2.2.2)
theorem mX_tr {T : zJ} {src : Nat → Nat} {L : Nat} {J J0 J1 J1' : zJ} {h i o p p' f en0 : Nat} {X : Option (Nat × Nat × Rs)} (hg : mGh J J0 h i o f) (hr : Rch J1' J1) (hp : p ≤ p') (hX : mX T src L J0 h i o p' f en0 X J1) : mX T src L J h i o p f en0 X J1' := by
  refine ⟨fun hx => ?_, fun x hx => ?_⟩
  · obtain ⟨J2, z1, z2, z3⟩ := hX.1 hx
    exact ⟨J2, Rch_trans hr z1, z2, mK_trans hg.1 z3⟩
  · obtain ⟨J2, z1, z2, z3, z4, z5⟩ := hX.2 x hx
    exact ⟨J2, Rch_trans hr z1, mGh_trans hg z2 (Nat.le_refl _) (Nat.le_refl _) (Nat.le_refl _), z3, Nat.le_trans hp z4, z5⟩
/-- in a bad state the loop over components ends -/
theorem m_b207 {J : zJ} {f j b : Nat} {l2 l5 : Int32} (h0 : J 0 49 = 0) (h : J 0 48 = nI (f + 1)) (hf : f < 160) (hb : b < 160) (hj : j ≤ 10) : ∃ J', (∀ N F, 1 ≤ F → qfix (FM_goOn_207 N (nI f) l2 (nI b) l5) F (nI j, J) = some ((), J')) ∧ J' 0 49 = 0 ∧ mK J J' := by
  have hz : zu J 33 f (nI (j + 1)) 0 49 = 0 := by rw [zu_at, if_neg (by omega), h0]
  have hstep : ∀ N F, 1 ≤ F → qfix (FM_goOn_207 N (nI f) l2 (nI b) l5) F (nI j, J) = if nI j = J 8 b then FM_leaveFrame N (zu J 33 f (nI (j + 1))) else some ((), zu J 33 f (nI (j + 1))) := by
    intro N F hF
    obtain ⟨F, rfl⟩ : ∃ g, F = g + 1 := ⟨F - 1, by omega⟩
    show FM_goOn_207 N (nI f) l2 (nI b) l5 _ (nI j, J) = _
    simp only [FM_goOn_207, if_pos h0]
    unfold FM_goOn_265
    rw [qk_t (qi_nI hf (by omega)), nI_clamp (by omega), nI_p1, qk_t (qi_nI hb (by omega)), nI_clamp (by omega)]
    simp only
    rw [show zu J 33 f (nI (j + 1)) 8 b = J 8 b from by rw [zu_at, if_neg (by omega)], if_pos hz]
    by_cases c : nI j = J 8 b
    · rw [if_pos c, if_pos c]; exact qb_id _
    · rw [if_neg c, if_neg c]
  by_cases c : nI j = J 8 b
  · obtain ⟨J', l1, l2', l3⟩ := m_leaveB (J := zu J 33 f (nI (j + 1))) (f := f) hz (by rw [zu_at, if_neg (by omega)]; exact h) hf
    refine ⟨J', fun N F hF => ?_, l2', mK_trans (mK_zu (mW_r (by omega))) l3⟩
    rw [hstep N F hF, if_pos c, l1]
  · refine ⟨_, fun N F hF => ?_, hz, mK_zu (mW_r (by omega))⟩
    rw [hstep N F hF, if_neg c]
theorem m_seqG {T : zJ} {src : Nat → Nat} {L n n0 b t0 h f lim en0 : Nat} {lo : Bool} (hs : sOK src) (hw0 : wfT T n0 t0) (hn0 : n0 ≤ 6) (hb : bas T 6 t0 = b) (k6 : T 4 b = 6) (hwb : wfT T (n + 1) b) (hh : h < 100) (hE : elE T src L n) (hfn : f + 1 + n ≤ 12) (m : Nat)
    (ih : ∀ j i o p num J, j + m = cnt T b → h < i → mS T J src L i o p (f + 1) lim → mF J f (nI h) lo → J 21 h = nI t0 → J 22 h = nI num → mE J L f en0 → ∃ J1, Ev (fun N => ∀ F, m + 1 ≤ F → qfix (FM_goOn_207 N (nI f) (nI h) (nI b) (ntb src lim p)) F (nI j, J) = some ((), J1)) ∧ mX T src L J h i o p f en0 (XC T src n b h lim lo m j i o p num) J1) :
    ∀ j i o p num J, j + m = cnt T b → h < i → mS T J src L i o p (f + 1) lim → mF J f (nI h) lo → J 21 h = nI t0 → J 22 h = nI num → mE J L f en0 → J 33 f = nI j → mX T src L J h i o p f en0 (XC T src n b h lim lo m j i o p num) J := by
  obtain ⟨w1, w2, w3⟩ := hwb.2.2.2.2.2.2.2.2.1 (Or.inl k6)
  have b160 := hwb.1
  have k7 : T 4 b ≠ 7 := by rw [k6]; decide
  intro j i o p num J hj hi hS hF h21 h22 hE0 h33
  obtain ⟨J2, g1, g2, g3⟩ := m_goOn hs hS hF hh h21 hw0 hn0
  rw [hb] at g1 g3
  have hS2 := uKp_mS g2 hS
  have hT2 : tyEq T J2 := hS2.2.2.2.2.2.2.2.1
  have hpen := hS2.2.2.2.2.2.2.2.2.2.2.2.2.1
  have hlL := hS2.2.2.2.2.2.2.2.2.2.2.2.2.2.1
  have hL120 := hS2.2.2.2.2.2.2.2.2.2.2.2.2.2.2.1
  have h197 : ∀ N x, FM_goOn_197 N (nI f) (nI h) (nI b) x J2 = qfix (FM_goOn_207 N (nI f) (nI h) (nI b) x) N (nI j, J2) := by
    intro N x
    unfold FM_goOn_197
    rw [qk_t (qi_nI (by omega) (by omega)), nI_clamp (by omega), g2 33 f (by omega) (by omega) (by omega), h33]
  have h44 : ∀ N, FM_goOn_44 N (nI f) (nI h) (bI (cls src (ceO lo lim) lim p).isSome) (nI b) J2 = qfix (FM_goOn_207 N (nI f) (nI h) (nI b) (ntb src lim p)) N (nI j, J2) := by
    intro N
    unfold FM_goOn_44 FM_goOn_120
    rw [if_neg (by rw [show (0 : Int32) = nI 0 from rfl, nI_ltI (by omega) (by omega)]; omega)]
    simp only [qk_t (qi_nI b160 (show 160 < 2 ^ 31 by omega)), nI_clamp (show b < 2 ^ 31 by omega), hT2 4 b (by omega) (by omega), if_neg k7, h197, m_bnd hS2, qb_some, hS2.2.1, bI_eq0]
    cases hcl : cls src (ceO lo lim) lim p with
    | some p3 =>
      simp only [Option.isSome_some, Bool.true_eq_false, if_false]
      rw [cls_ntb hcl]
    | none =>
      simp only [Option.isSome_none, if_true]
      unfold ntb
      by_cases c : p < lim
      · rw [if_pos c, if_neg (by rw [nI_leI (by omega) (by omega)]; omega), qk_t (qi_nI (by omega) (by omega)), nI_clamp (by omega), hS2.2.2.2.2.2.2.1 p (by omega), bit0, bit_all ⟨src p, hs p⟩, qc_some]
      · rw [if_neg c, if_pos (by rw [nI_leI (by omega) (by omega)]; omega)]
  simp only [h44] at g1
  obtain ⟨J1, e1, e2⟩ := ih j i o p num J2 hj hi hS2 ⟨by rw [g2 31 f (by omega) (by omega) (by omega)]; exact hF.1, by rw [g2 35 f (by omega) (by omega) (by omega)]; exact hF.2⟩ (by rw [g2 21 h (by omega) (by omega) (by omega)]; exact h21) (by rw [g2 22 h (by omega) (by omega) (by omega)]; exact h22) (mE_c hE0 (fun k _ => g2 32 k (by omega) (by omega) (by omega)))
  obtain ⟨n1, e1⟩ := e1
  have hstep : goS J J1 := ⟨hS.1, ⟨f, by omega, hS.2.2.2.2.1⟩, ev_mono (ev_and g1 ⟨n1 + (m + 1), fun N hN => e1 N (by omega) N (by omega)⟩) (fun N hN => by rw [hN.1, hN.2])⟩
  exact mX_tr (mGh_of (uKp_mG g2 i o f)) (Rch_step hstep (Rch_refl _)) (Nat.le_refl _) e2
theorem m_seq {T : zJ} {src : Nat → Nat} {L n n0 b t0 h f lim en0 : Nat} {lo : Bool} (hs : sOK src) (hw0 : wfT T n0 t0) (hn0 : n0 ≤ 6) (hb : bas T 6 t0 = b) (k6 : T 4 b = 6) (hwb : wfT T (n + 1) b) (hh : h < 100) (hE : elE T src L n) (hfn : f + 1 + n ≤ 12) :
    ∀ m j i o p num J, j + m = cnt T b → h < i → mS T J src L i o p (f + 1) lim → mF J f (nI h) lo → J 21 h = nI t0 → J 22 h = nI num → mE J L f en0 →
      ∃ J1, Ev (fun N => ∀ F, m + 1 ≤ F → qfix (FM_goOn_207 N (nI f) (nI h) (nI b) (ntb src lim p)) F (nI j, J) = some ((), J1)) ∧ mX T src L J h i o p f en0 (XC T src n b h lim lo m j i o p num) J1 := by
  obtain ⟨w1, w2, w3⟩ := hwb.2.2.2.2.2.2.2.2.1 (Or.inl k6)
  have w10 := hwb.2.2.2.2.2.2.2.2.2.1 k6
  have b160 := hwb.1
  have k7 : T 4 b ≠ 7 := by rw [k6]; decide
  intro m
  induction m with
  | zero =>
    intro j i o p num J hj hi hS hF h21 h22 hE0
    have hT : tyEq T J := hS.2.2.2.2.2.2.2.1
    have hS2 : mS T (zu J 33 f (nI (j + 1))) src L i o p (f + 1) lim := by
      obtain ⟨a1, a2, a3, a4, a5, a6, a7, a8, a9, a10, a11⟩ := hS
      refine ⟨?_, ?_, ?_, ?_, ?_, ?_, fun k hk => ?_, mK_ty (mK_zu (mW_r (by omega))) a8, a9, fun f hf => ?_, a11⟩
      · rw [zu_at, if_neg (by omega)]; exact a1
      · rw [zu_at, if_neg (by omega)]; exact a2
      · rw [zu_at, if_neg (by omega)]; exact a3
      · rw [zu_at, if_neg (by omega)]; exact a4
      · rw [zu_at, if_neg (by omega)]; exact a5
      · rw [zu_at, if_neg (by omega)]; exact a6
      · rw [zu_at, if_neg (by omega)]; exact a7 k hk
      · rw [zu_at, if_neg (by omega)]; exact a10 f hf
    have hG2 : mG J (zu J 33 f (nI (j + 1))) i o f := mG_zu (mW_r (by omega)) (by omega)
    have hstep : ∀ N F, 1 ≤ F → qfix (FM_goOn_207 N (nI f) (nI h) (nI b) (ntb src lim p)) F (nI j, J) = FM_leaveFrame N (zu J 33 f (nI (j + 1))) := by
      intro N F hF
      obtain ⟨F, rfl⟩ : ∃ g, F = g + 1 := ⟨F - 1, by omega⟩
      show FM_goOn_207 N (nI f) (nI h) (nI b) (ntb src lim p) _ (nI j, J) = _
      simp only [FM_goOn_207]
      rw [if_neg (by rw [hS.1]; decide), qk_t (qi_nI b160 (by omega)), nI_clamp (by omega), hT 8 b (by omega) (by omega), w1, if_pos (by rw [nI_leI (by omega) (by omega)]; omega)]
      unfold FM_goOn_265
      rw [qk_t (qi_nI (by omega) (by omega)), nI_clamp (by omega), nI_p1, qk_t (qi_nI b160 (by omega)), nI_clamp (by omega)]
      simp only
      rw [show zu J 33 f (nI (j + 1)) 8 b = nI (cnt T b) from by rw [zu_at, if_neg (by omega), hT 8 b (by omega) (by omega), w1], if_pos (by rw [show j = cnt T b by omega])]
      exact qb_id _
    have hX : XC T src n b h lim lo 0 j i o p num = (cls src (ceO lo lim) lim p).bind fun p3 => some (p3, num + 0, rnil) := rfl
    rw [hX]
    obtain ⟨l1, l2⟩ := m_leave (lo := lo) hs hS2 (by rw [zu_at, if_neg (by omega)]; exact hF.2)
    cases hcl : cls src (ceO lo lim) lim p with
    | none =>
      obtain ⟨J', q1, q2⟩ := l1 hcl
      exact ⟨J', ev_of (fun N F hF => by rw [hstep N F (by omega), q1]), mX_none (Rch_refl _) q2.1 (mK_trans hG2.1 q2.2.2)⟩
    | some p3 =>
      obtain ⟨q1, q2, q3⟩ := l2 p3 hcl
      obtain ⟨z1, z2⟩ := m_pop hS2 q2 q3 (mE_c hE0 (fun k hk => by rw [zu_at, if_neg (by omega)]))
      refine ⟨_, ev_of (fun N F hF => by rw [hstep N F (by omega), q1]), mX_some (Rch_refl _) (mGh_of (mG_trans hG2 z2 (by omega) (by omega) (by omega))) z1 q2 ?_ (mH_nil _ _) (mO_nil _ _)⟩
      rw [zu_at, if_neg (by omega), zu_at, if_neg (by omega), zu_at, if_neg (by omega)]
      exact h22
  | succ m ih =>
    -- from the beginning of goOn()
    have G := m_seqG (en0 := en0) (lim := lim) (lo := lo) hs hw0 hn0 hb k6 hwb hh hE hfn m ih
    intro j i o p num J hj hi hS hF h21 h22 hE0
    have hT : tyEq T J := hS.2.2.2.2.2.2.2.1
    obtain ⟨v1, v2⟩ := w3 j (by omega)
    have u160 : chd T (6 * b + j) < 160 := by cases n with
      | zero => exact v2.elim
      | succ n => exact v2.1
    have e6 : (6 : Int32) * nI b + nI j = nI (6 * b + j) := by rw [show (6 : Int32) = nI 6 from rfl, nI_mul, nI_add]
    have hstep : ∀ N F, qfix (FM_goOn_207 N (nI f) (nI h) (nI b) (ntb src lim p)) (F + 1) (nI j, J) = if T 9 (chd T (6 * b + j)) &&& ntb src lim p = 0 then qb (FM_absent N (nI h) (nI b) (nI j) J) (fun v4 J5 => qfix (FM_goOn_207 N (nI f) (nI h) (nI b) (ntb src lim p)) F (nI (j + 1), J5)) else FM_goOn_265 N (nI f) (nI h) (nI b) (nI j) J := by
      intro N F
      show FM_goOn_207 N (nI f) (nI h) (nI b) (ntb src lim p) _ (nI j, J) = _
      simp only [FM_goOn_207]
      rw [if_neg (by rw [hS.1]; decide), qk_t (qi_nI b160 (by omega)), nI_clamp (by omega), hT 8 b (by omega) (by omega), w1, if_neg (by rw [nI_leI (by omega) (by omega)]; omega), e6, qk_t (qi_nI (by omega) (by omega)), nI_clamp (by omega), hT 13 _ (by omega) (by omega), v1, qk_t (qi_nI u160 (by omega)), nI_clamp (by omega), hT 9 _ (by omega) (by omega), nI_p1]
    have habs : ∀ N, FM_absent N (nI h) (nI b) (nI j) J = if T 14 (6 * b + j) = 0 then some ((), zu J 0 49 0) else if T 14 (6 * b + j) = 2 then qb (FM_adds N (nI (chd T (6 * b + j))) (nI h) (nI j) (T 15 (6 * b + j)) (zu J 22 h (nI (num + 1)))) (fun v7 J8 => some ((), J8)) else some ((), J) := by
      intro N
      unfold FM_absent FM_absent_23
      rw [e6]
      simp only [qk_t (qi_nI (show 6 * b + j < 960 by omega) (show 960 < 2 ^ 31 by omega)), qk_t (qi_nI hh (show 100 < 2 ^ 31 by omega)), nI_clamp (show 6 * b + j < 2 ^ 31 by omega), nI_clamp (show h < 2 ^ 31 by omega), hT 14 _ (show 4 ≤ 14 by omega) (show 14 ≤ 15 by omega), h22, nI_p1]
      by_cases c0 : T 14 (6 * b + j) = 0
      · rw [if_pos c0, if_pos c0]
        rw [if_neg (by rw [zu_at, if_neg (by omega), hT 14 _ (by omega) (by omega), c0]; decide)]
      · rw [if_neg c0, if_neg c0]
        by_cases c2 : T 14 (6 * b + j) = 2
        · rw [if_pos c2, if_pos c2]
          rw [show zu J 22 h (nI (num + 1)) 13 (6 * b + j) = nI (chd T (6 * b + j)) from by rw [zu_at, if_neg (by omega), hT 13 _ (by omega) (by omega)]; exact v1, show zu J 22 h (nI (num + 1)) 15 (6 * b + j) = T 15 (6 * b + j) from by rw [zu_at, if_neg (by omega), hT 15 _ (by omega) (by omega)]]
        · rw [if_neg c2, if_neg c2]
    by_cases c0 : T 9 (chd T (6 * b + j)) &&& ntb src lim p = 0
    · simp only [if_pos c0] at hstep
      rcases w10 j (by omega) with fl | fl | ⟨fl, fl2⟩
      · -- required
        have hX : XC T src n b h lim lo (m + 1) j i o p num = none := by
          unfold XC rdC
          rw [if_pos c0, if_neg (by rw [fl]; decide), if_neg (by rw [fl]; rintro ⟨q, _⟩; exact absurd q (by decide))]
          rfl
        rw [hX]
        simp only [if_pos fl] at habs
        obtain ⟨J', q1, q2, q3⟩ := m_b207 (J := zu J 0 49 0) (f := f) (j := j + 1) (b := b) (l2 := nI h) (l5 := ntb src lim p) (zu_self _ _ _ _) (by rw [zu_at, if_neg (by omega)]; exact hS.2.2.2.2.1) (by omega) b160 (by omega)
        refine ⟨J', ev_of (fun N F hF => ?_), mX_none (Rch_refl _) q2 (mK_trans (mK_zu (mW_f (by omega))) q3)⟩
        obtain ⟨F, rfl⟩ : ∃ g, F = g + 1 := ⟨F - 1, by omega⟩
        rw [hstep, habs, qb_some, q1 N F (by omega)]
      · -- optional
        have hX : XC T src n b h lim lo (m + 1) j i o p num = XC T src n b h lim lo m (j + 1) i o p num := by
          unfold XC
          rw [show rdC T src false (rdE T src false n) b (nI h) lim (m + 1) j i o p = (rdC T src false (rdE T src false n) b (nI h) lim m (j + 1) i o p).bind fun q => some (q.1, q.2.1, q.2.2.1, false :: q.2.2.2.1, q.2.2.2.2) from by
            show (if _ then _ else _) = _
            rw [if_pos c0, if_pos fl]]
          cases rdC T src false (rdE T src false n) b (nI h) lim m (j + 1) i o p <;> rfl
        rw [hX]
        have n0 : ¬ T 14 (6 * b + j) = 0 := by rw [fl]; decide
        have n2 : ¬ T 14 (6 * b + j) = 2 := by rw [fl]; decide
        simp only [if_neg n0, if_neg n2] at habs
        obtain ⟨J1, e1, e2⟩ := ih (j + 1) i o p num J (by omega) hi hS hF h21 h22 hE0
        refine ⟨J1, ev_mono e1 (fun N hN F hF => ?_), e2⟩
        obtain ⟨F, rfl⟩ : ∃ g, F = g + 1 := ⟨F - 1, by omega⟩
        rw [hstep, habs, qb_some, hN F (by omega)]
      · -- with a default
        have n0 : ¬ T 14 (6 * b + j) = 0 := by rw [fl]; decide
        have n1 : ¬ T 14 (6 * b + j) = 1 := by rw [fl]; decide
        simp only [if_neg n0, if_pos fl] at habs
        have hS1 : mS T (zu J 22 h (nI (num + 1))) src L i o p (f + 1) lim := mS_num hS
        by_cases hi100 : i < 100
        · obtain ⟨J2, d1, d2, d3, d4, d5, d6, d7⟩ := m_adds hS1 hi100 (chd T (6 * b + j)) (nI h) j (T 15 (6 * b + j))
          simp only [d1, qb_some] at habs
          have hgh : mGh J J2 h i o f := mGh_trans (mGh_num (i := i) (o := o) (f := f)) (mGh_of ⟨d2.1, d2.2.1, d2.2.2.1, fun c k c1 c2 hk => d2.2.2.2 c k c1 c2 (by omega)⟩) (by omega) (by omega) (by omega)
          obtain ⟨J1, e1, e2⟩ := ih (j + 1) (i + 1) o p (num + 1) J2 (by omega) (by omega) d3 ⟨by rw [d7 31 f (by omega), zu_at, if_neg (by omega)]; exact hF.1, by rw [d7 35 f (by omega), zu_at, if_neg (by omega)]; exact hF.2⟩ (by rw [d2.2.1 21 h (by omega) (by omega) hi, zu_at, if_neg (by omega)]; exact h21) (by rw [d2.2.1 22 h (by omega) (by omega) hi, zu_self]) (mE_c hE0 (fun k hk => by rw [d7 32 k (by omega), zu_at, if_neg (by omega)]))
          refine ⟨J1, ev_mono e1 (fun N hN F hF => ?_), ?_⟩
          · obtain ⟨F, rfl⟩ : ∃ g, F = g + 1 := ⟨F - 1, by omega⟩
            rw [hstep, habs, qb_some, hN F (by omega)]
          · have hrd : rdC T src false (rdE T src false n) b (nI h) lim (m + 1) j i o p = (rdC T src false (rdE T src false n) b (nI h) lim m (j + 1) (i + 1) o p).bind fun q => some (q.1, q.2.1 + 1, q.2.2.1, false :: q.2.2.2.1, rcat ([mkP (chd T (6 * b + j)) (bas T 6 (chd T (6 * b + j))) (T 15 (6 * b + j)) j (nI h) o 0 1], [], [], pnil) q.2.2.2.2) := by
              show (if _ then _ else _) = _
              rw [if_pos c0, if_neg n1, if_pos ⟨fl, hi100⟩]
            unfold XC at e2 ⊢
            rw [hrd]
            cases hr : rdC T src false (rdE T src false n) b (nI h) lim m (j + 1) (i + 1) o p with
            | none =>
              rw [hr] at e2
              obtain ⟨J6, z1, z2, z3⟩ := e2.1 rfl
              exact mX_none z1 z2 (mK_trans hgh.1 z3)
            | some q =>
              rw [hr] at e2
              simp only [Option.bind_some] at e2 ⊢
              cases hc3 : cls src (ceO lo lim) lim q.1 with
              | none =>
                rw [hc3] at e2
                obtain ⟨J6, z1, z2, z3⟩ := e2.1 rfl
                exact mX_none z1 z2 (mK_trans hgh.1 z3)
              | some p3 =>
                rw [hc3] at e2
                obtain ⟨J6, z1, z2, z3, z4, z5, z6, z7⟩ := e2.2 _ rfl
                refine mX_some (J2 := J6) z1 (mGh_trans hgh z2 (by omega) (by omega) (by omega)) ?_ z4 ?_ (mH_apph (l1 := [_]) hi (mH_one d4) z2 z6) z7
                · show mS T J6 src L (i + ([_] ++ q.2.2.2.2.1).length) (o + ([] ++ q.2.2.2.2.2.1).length) p3 f en0
                  rw [List.length_append, List.nil_append, ← Nat.add_assoc]
                  exact z3
                · rw [z5]
                  show nI (num + 1 + q.2.1) = nI (num + (q.2.1 + 1))
                  rw [show num + 1 + q.2.1 = num + (q.2.1 + 1) by omega]
        · have hX : XC T src n b h lim lo (m + 1) j i o p num = none := by
            unfold XC rdC
            rw [if_pos c0, if_neg n1, if_neg (fun q => hi100 q.2)]
            rfl
          rw [hX]
          simp only [m_adds0 hS1 hi100, qb_some] at habs
          obtain ⟨J', q1, q2, q3⟩ := m_b207 (J := zu (zu J 22 h (nI (num + 1))) 0 49 0) (f := f) (j := j + 1) (b := b) (l2 := nI h) (l5 := ntb src lim p) (zu_self _ _ _ _) (by rw [zu_at, if_neg (by omega), zu_at, if_neg (by omega)]; exact hS.2.2.2.2.1) (by omega) b160 (by omega)
          refine ⟨J', ev_of (fun N F hF => ?_), mX_none (Rch_refl _) q2 (mK_trans (mK_trans (mK_zu (mW_p (by omega))) (mK_zu (mW_f (by omega)))) q3)⟩
          obtain ⟨F, rfl⟩ : ∃ g, F = g + 1 := ⟨F - 1, by omega⟩
          rw [hstep, habs, qb_some, q1 N F (by omega)]
    · simp only [if_neg c0] at hstep
      have hSn : mS T (zu (zu J 33 f (nI (j + 1))) 22 h (nI (num + 1))) src L i o p (f + 1) lim := by
        refine mS_num ?_
        obtain ⟨a1, a2, a3, a4, a5, a6, a7, a8, a9, a10, a11⟩ := hS
        refine ⟨?_, ?_, ?_, ?_, ?_, ?_, fun k hk => ?_, mK_ty (mK_zu (mW_r (by omega))) a8, a9, fun f hf => ?_, a11⟩
        · rw [zu_at, if_neg (by omega)]; exact a1
        · rw [zu_at, if_neg (by omega)]; exact a2
        · rw [zu_at, if_neg (by omega)]; exact a3
        · rw [zu_at, if_neg (by omega)]; exact a4
        · rw [zu_at, if_neg (by omega)]; exact a5
        · rw [zu_at, if_neg (by omega)]; exact a6
        · rw [zu_at, if_neg (by omega)]; exact a7 k hk
        · rw [zu_at, if_neg (by omega)]; exact a10 f hf
      obtain ⟨J4, e1, e2⟩ := hE (chd T (6 * b + j)) (nI h) j i o lim p (f + 1) _ v2 hSn (by omega)
      have h265 : ∀ N, FM_goOn_265 N (nI f) (nI h) (nI b) (nI j) J = FM_element N (nI (chd T (6 * b + j))) (nI h) (nI j) (zu (zu J 33 f (nI (j + 1))) 22 h (nI (num + 1))) := by
        intro N
        unfold FM_goOn_265
        rw [qk_t (qi_nI (by omega) (by omega)), nI_clamp (by omega), nI_p1, qk_t (qi_nI b160 (by omega)), nI_clamp (by omega), e6]
        simp only
        rw [show zu J 33 f (nI (j + 1)) 8 b = nI (cnt T b) from by rw [zu_at, if_neg (by omega), hT 8 b (by omega) (by omega), w1], if_neg (by rw [nI_eq (by omega) (by omega)]; omega), if_neg (by rw [zu_at, if_neg (by omega), hS.1]; decide), qk_t (qi_nI hh (by omega)), qk_t (qi_nI hh (by omega)), nI_clamp (by omega), show zu J 33 f (nI (j + 1)) 22 h = nI num from by rw [zu_at, if_neg (by omega), h22], nI_p1, qk_t (qi_nI (by omega) (by omega)), nI_clamp (by omega)]
        rw [show zu (zu J 33 f (nI (j + 1))) 22 h (nI (num + 1)) 13 (6 * b + j) = nI (chd T (6 * b + j)) from by rw [zu_at, if_neg (by omega), zu_at, if_neg (by omega), hT 13 _ (by omega) (by omega)]; exact v1]
        exact qb_id _
      refine ⟨J4, ev_mono e1 (fun N hN F hF => ?_), ?_⟩
      · obtain ⟨F, rfl⟩ : ∃ g, F = g + 1 := ⟨F - 1, by omega⟩
        rw [hstep, h265, hN]
      · have hgh0 : mGh J (zu (zu J 33 f (nI (j + 1))) 22 h (nI (num + 1))) h i o f := mGh_trans (mGh_of (mG_zu (mW_r (by omega)) (by omega))) (mGh_num (i := i) (o := o) (f := f)) (by omega) (by omega) (by omega)
        cases hr : rdE T src false n (chd T (6 * b + j)) (chd T (6 * b + j)) none (nI h) j i o lim p with
        | none =>
          have hX : XC T src n b h lim lo (m + 1) j i o p num = none := by
            unfold XC rdC
            rw [if_neg c0, hr]
            rfl
          rw [hX]
          obtain ⟨J6, z1, z2, z3⟩ := e2.1 hr
          exact mX_none z1 z2 (mK_trans hgh0.1 z3)
        | some r =>
          obtain ⟨J5, q1, q2, q3, q4, q5, q6⟩ := e2.2 r hr
          have hgh : mGh J J5 h i o f := mGh_trans hgh0 (mGh_of ⟨q2.1, q2.2.1, q2.2.2.1, fun c k c1 c2 hk => q2.2.2.2 c k c1 c2 (by omega)⟩) (by omega) (by omega) (by omega)
          have g := G (j + 1) (i + r.2.1.length) (o + r.2.2.1.length) r.1 (num + 1) J5 (by omega) (by omega) q3 ⟨by rw [q2.2.2.2 31 f (by omega) (by omega) (by omega), zu_at, if_neg (by omega), zu_at, if_neg (by omega)]; exact hF.1, by rw [q2.2.2.2 35 f (by omega) (by omega) (by omega), zu_at, if_neg (by omega), zu_at, if_neg (by omega)]; exact hF.2⟩ (by rw [q2.2.1 21 h (by omega) (by omega) hi, zu_at, if_neg (by omega), zu_at, if_neg (by omega)]; exact h21) (by rw [q2.2.1 22 h (by omega) (by omega) hi, zu_self]) (mE_c hE0 (fun k hk => by rw [q2.2.2.2 32 k (by omega) (by omega) (by omega), zu_at, if_neg (by omega), zu_at, if_neg (by omega)])) (by rw [q2.2.2.2 33 f (by omega) (by omega) (by omega), zu_at, if_neg (by omega), zu_self])
          have hX : ∀ x, XC T src n b h lim lo (m + 1) j i o p num = some x → ∃ y, XC T src n b h lim lo m (j + 1) (i + r.2.1.length) (o + r.2.2.1.length) r.1 (num + 1) = some y ∧ x.1 = y.1 ∧ x.2.1 = y.2.1 ∧ x.2.2.1 = r.2.1 ++ y.2.2.1 ∧ x.2.2.2.1 = r.2.2.1 ++ y.2.2.2.1 := by
            intro x hx
            unfold XC rdC at hx
            unfold XC
            rw [if_neg c0, hr, Option.bind_some] at hx
            by_cases lf : T 14 (6 * b + j) = 2 ∧ hdV r.2.1 = T 15 (6 * b + j)
            · rw [if_pos lf, if_neg (by decide)] at hx
              cases hq : rdC T src false (rdE T src false n) b (nI h) lim m (j + 1) (i + r.2.1.length) (o + r.2.2.1.length) r.1 with
              | none => rw [hq] at hx; cases hx
              | some q =>
                rw [hq] at hx
                simp only [Option.bind_some] at hx ⊢
                cases hc : cls src (ceO lo lim) lim q.1 with
                | none => rw [hc] at hx; cases hx
                | some p3 =>
                  rw [hc] at hx
                  injection hx with hx
                  subst hx
                  refine ⟨_, rfl, rfl, ?_, rfl, rfl⟩
                  show num + (q.2.1 + 1) = num + 1 + q.2.1
                  omega
            · rw [if_neg lf] at hx
              cases hq : rdC T src false (rdE T src false n) b (nI h) lim m (j + 1) (i + r.2.1.length) (o + r.2.2.1.length) r.1 with
              | none => rw [hq] at hx; cases hx
              | some q =>
                rw [hq] at hx
                simp only [Option.bind_some] at hx ⊢
                cases hc : cls src (ceO lo lim) lim q.1 with
                | none => rw [hc] at hx; cases hx
                | some p3 =>
                  rw [hc] at hx
                  injection hx with hx
                  subst hx
                  refine ⟨_, rfl, rfl, ?_, rfl, rfl⟩
                  show num + (q.2.1 + 1) = num + 1 + q.2.1
                  omega
          have hXn : XC T src n b h lim lo (m + 1) j i o p num = none → XC T src n b h lim lo m (j + 1) (i + r.2.1.length) (o + r.2.2.1.length) r.1 (num + 1) = none := by
            intro hx
            unfold XC rdC at hx
            unfold XC
            rw [if_neg c0, hr, Option.bind_some, if_neg (show ¬ false = true by decide)] at hx
            cases hq : rdC T src false (rdE T src false n) b (nI h) lim m (j + 1) (i + r.2.1.length) (o + r.2.2.1.length) r.1 with
            | none => rfl
            | some q =>
              rw [hq] at hx
              simp only [Option.bind_some] at hx ⊢
              cases hc : cls src (ceO lo lim) lim q.1 with
              | none => rfl
              | some p3 =>
                exfalso
                by_cases lf : T 14 (6 * b + j) = 2 ∧ hdV r.2.1 = T 15 (6 * b + j)
                · rw [if_pos lf] at hx
                  simp only [Option.bind_some, hc] at hx
                  cases hx
                · rw [if_neg lf] at hx
                  simp only [Option.bind_some, hc] at hx
                  cases hx
          refine ⟨fun hx => ?_, fun x hx => ?_⟩
          · obtain ⟨J6, z1, z2, z3⟩ := g.1 (hXn hx)
            exact ⟨J6, Rch_trans q1 z1, z2, mK_trans hgh.1 z3⟩
          · obtain ⟨y, hy, y1, y2, y3, y4⟩ := hX x hx
            obtain ⟨J6, z1, z2, z3, z4, z5, z6, z7⟩ := g.2 y hy
            refine ⟨J6, Rch_trans q1 z1, mGh_trans hgh z2 (by omega) (by omega) (by omega), ?_, by rw [y1]; exact Nat.le_trans q4 z4, by rw [y2]; exact z5, by rw [y3]; exact mH_apph hi q5 z2 z6, by rw [y4]; exact mO_apph q6 z2 z7⟩
            rw [y1, y3, y4, List.length_append, List.length_append, ← Nat.add_assoc, ← Nat.add_assoc]
            exact z3
