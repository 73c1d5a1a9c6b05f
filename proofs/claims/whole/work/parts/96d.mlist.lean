/-! THE REFERENCE reads by the open rules: items and components -/
theorem m_leaveB {J : zJ} {f : Nat} (h0 : J 0 49 = 0) (h : J 0 48 = nI (f + 1)) (hf : f < 160) : ∃ J', (∀ N, FM_leaveFrame N J = some ((), J')) ∧ J' 0 49 = 0 ∧ mK J J' := by
  unfold FM_leaveFrame FM_leaveFrame_19 FM_leaveFrame_43
  simp only [if_pos h0, h, show nI (f + 1) - 1 = nI f from nI_subs (a := f + 1) (b := 1) (by omega), qk_t (qi_nI hf (show 160 < 2 ^ 31 by omega))]
  have e : ∀ x y, zu (zu J 0 47 x) 0 48 y 0 49 = 0 := fun x y => by rw [zu_at, if_neg (by omega), zu_at, if_neg (by omega), h0]
  by_cases c : J 35 (nI f).toNatClampNeg = 0
  · simp only [if_pos c]
    exact ⟨_, fun N => rfl, e _ _, mK_trans (mK_zu (mW_f (by omega))) (mK_zu (mW_f (by omega)))⟩
  · simp only [if_neg c]
    exact ⟨_, fun N => rfl, e _ _, mK_trans (mK_zu (mW_f (by omega))) (mK_zu (mW_f (by omega)))⟩
def elE (T : zJ) (src : Nat → Nat) (L n : Nat) : Prop := ∀ u par wh i o en p fr J, wfT T n u → mS T J src L i o p fr en → fr + n ≤ 12 → ∃ J1, Ev (fun N => FM_element N (nI u) par (nI wh) J = some ((), J1)) ∧ mR T src L J i o p fr en (rdE T src false n u u none par wh i o en p) J1
theorem mE_c {J J' : zJ} {L f en0 : Nat} (h : mE J L f en0) (hc : ∀ k, k < f → J' 32 k = J 32 k) : mE J' L f en0 := ⟨h.1, fun f' hf' => by rw [hc f' (by omega)]; exact h.2.1 f' hf', h.2.2⟩
theorem m_list {T : zJ} {src : Nat → Nat} {L n n0 b t0 h f lim en0 : Nat} {lo : Bool} (hs : sOK src) (hw0 : wfT T n0 t0) (hn0 : n0 ≤ 6) (hb : bas T 6 t0 = b) (k7 : T 4 b = 7) (hwb : wfT T (n + 1) b) (hh : h < 100) (hE : elE T src L n) (hfn : f + 1 + n ≤ 12) :
    ∀ m k i o p J, k + m = 100 → h + 1 + k ≤ i → mS T J src L i o p (f + 1) lim → mF J f (nI h) lo → J 21 h = nI t0 → J 22 h = nI k → mE J L f en0 →
      mX T src L J h i o p f en0 ((rdL src (rdE T src false n) (chd T (6 * b)) (nI h) lim m k i o p).bind fun q => if alw T b (nI (k + q.2.1)) = true then (cls src (ceO lo lim) lim q.1).bind fun p3 => some (p3, k + q.2.1, q.2.2) else none) J := by
  intro m
  induction m with
  | zero =>
    intro k i o p J hk hi hS
    have := hS.2.2.2.2.2.2.2.2.2.2.1
    omega
  | succ m ih =>
    intro k i o p J hk hi hS hF h21 h22 hE0
    obtain ⟨w1, w2⟩ := hwb.2.2.2.2.2.2.1 k7
    have b160 := hwb.1
    have w3 := hwb.2.2.1
    have hi100 := hS.2.2.2.2.2.2.2.2.2.2.1
    obtain ⟨J2, g1, g2, g3⟩ := m_goOn hs hS hF hh h21 hw0 hn0
    rw [hb] at g1 g3
    have hS2 := uKp_mS g2 hS
    have hG2 := uKp_mG g2 i o (f + 1)
    have hF2 : mF J2 f (nI h) lo := ⟨by rw [g2 31 f (by omega) (by omega) (by omega)]; exact hF.1, by rw [g2 35 f (by omega) (by omega) (by omega)]; exact hF.2⟩
    have h212 : J2 21 h = nI t0 := by rw [g2 21 h (by omega) (by omega) (by omega)]; exact h21
    have h222 : J2 22 h = nI k := by rw [g2 22 h (by omega) (by omega) (by omega)]; exact h22
    have hE2 : mE J2 L f en0 := mE_c hE0 (fun k _ => g2 32 k (by omega) (by omega) (by omega))
    have hT2 : tyEq T J2 := hS2.2.2.2.2.2.2.2.1
    have hgo : J 0 49 = 1 ∧ ∃ f, f < 160 ∧ J 0 48 = nI (f + 1) := ⟨hS.1, f, by omega, hS.2.2.2.2.1⟩
    have h44 : ∀ N x, FM_goOn_44 N (nI f) (nI h) (bI x) (nI b) J2 = if x = true then FM_goOn_66 N (nI h) (nI b) J2 else FM_goOn_120 N (nI f) (nI h) 0 (nI b) J2 := by
      intro N x
      unfold FM_goOn_44
      rw [if_neg (by rw [show (0 : Int32) = nI 0 from rfl, nI_ltI (by omega) (by omega)]; omega), qk_t (qi_nI b160 (by omega)), nI_clamp (by omega), hT2 4 b (by omega) (by omega), if_pos k7]
      cases x <;> rfl
    cases hcl : cls src (ceO lo lim) lim p with
    | some p3 =>
      rw [hcl] at g1
      simp only [Option.isSome_some, h44, if_true] at g1
      have hn := cls_ntb hcl
      have hrd : rdL src (rdE T src false n) (chd T (6 * b)) (nI h) lim (m + 1) k i o p = some (p, 0, rnil) := by
        unfold rdL
        rw [if_pos hn]
      rw [hrd]
      simp only [Option.bind_some, Nat.add_zero, hcl]
      have h66 : ∀ N, FM_goOn_66 N (nI h) (nI b) J2 = FM_goOn_112 N (bI (alw T b (nI k))) J2 := by
        intro N
        unfold FM_goOn_66 alw
        rw [if_neg (by rw [show (0 : Int32) = nI 0 from rfl, nI_ltI (by omega) (by omega)]; omega)]
        simp only [qk_t (qi_nI b160 (show 160 < 2 ^ 31 by omega)), qk_t (qi_nI hh (show 100 < 2 ^ 31 by omega)), nI_clamp (show b < 2 ^ 31 by omega), nI_clamp (show h < 2 ^ 31 by omega), hT2 11 b (by omega) (by omega), hT2 5 b (by omega) (by omega), hT2 6 b (by omega) (by omega), h222, FM_in_eq, qc_some]
        rcases w3 with w3 | w3
        · rw [if_pos w3, decide_eq_true (Or.inl w3)]
          rfl
        · have n0 : ¬ T 11 b = 0 := by rw [w3]; decide
          rw [if_neg n0]
          by_cases c : (T 5 b).toInt ≤ (nI k).toInt ∧ (nI k).toInt ≤ (T 6 b).toInt
          · rw [decide_eq_true (Or.inr c), decide_eq_true c.1, decide_eq_true c.2]
            rfl
          · have hc' : ¬ (T 11 b = 0 ∨ (T 5 b).toInt ≤ (nI k).toInt ∧ (nI k).toInt ≤ (T 6 b).toInt) := fun q => q.elim n0 c
            have : (decide ((T 5 b).toInt ≤ (nI k).toInt) && decide ((nI k).toInt ≤ (T 6 b).toInt)) = false := by
              rw [← Bool.decide_and, decide_eq_false c]
            rw [this, decide_eq_false hc']
            rfl
      simp only [h66] at g1
      have h112 : ∀ N x, FM_goOn_112 N (bI x) J2 = FM_leaveFrame N (zu J2 0 49 (bI x)) := by
        intro N x
        unfold FM_goOn_112
        cases x <;> exact qb_id _
      simp only [h112] at g1
      cases ha : alw T b (nI k) with
      | true =>
        rw [ha, bI_t, zu_id _ 0 49 1 hS2.1] at g1
        obtain ⟨l1, l2, l3⟩ := (m_leave hs hS2 hF2.2).2 p3 hcl
        obtain ⟨q1, q2⟩ := m_pop hS2 l2 l3 hE2
        simp only [if_true]
        refine mX_some (J2 := zu (zu J2 0 47 (nI p3)) 0 48 (nI f)) (Rch_step ⟨hgo.1, hgo.2, ev_mono g1 (fun N hN => by rw [hN, l1])⟩ (Rch_refl _)) (mGh_trans (mGh_of (uKp_mG g2 i o f)) (mGh_of q2) (by omega) (by omega) (by omega)) q1 l2 ?_ (mH_nil _ _) (mO_nil _ _)
        rw [zu_at, if_neg (by omega), zu_at, if_neg (by omega)]
        exact h222
      | false =>
        rw [ha, bI_f] at g1
        obtain ⟨J3, l1, l2, l3⟩ := m_leaveB (J := zu J2 0 49 0) (f := f) (zu_self _ _ _ _) (by rw [zu_at, if_neg (by omega)]; exact hS2.2.2.2.2.1) (by omega)
        simp only [Bool.false_eq_true, if_false]
        exact mX_none (J2 := J3) (Rch_step ⟨hgo.1, hgo.2, ev_mono g1 (fun N hN => by rw [hN, l1])⟩ (Rch_refl _)) l2 (mK_trans hG2.1 (mK_trans (mK_zu (mW_f (by omega))) l3))
    | none =>
      rw [hcl] at g1
      simp only [Option.isSome_none, h44, Bool.false_eq_true, if_false] at g1
      have hS8 : mS T (zu J2 22 h (nI (k + 1))) src L i o p (f + 1) lim := mS_num hS2
      obtain ⟨J4, e1, e2⟩ := hE (chd T (6 * b)) (nI h) k i o lim p (f + 1) _ w2 hS8 (by omega)
      have h120 : ∀ N, FM_goOn_120 N (nI f) (nI h) 0 (nI b) J2 = FM_element N (nI (chd T (6 * b))) (nI h) (nI k) (zu J2 22 h (nI (k + 1))) := by
        intro N
        unfold FM_goOn_120
        rw [show (6 : Int32) * nI b = nI (6 * b) from nI_mul 6 b]
        simp only [qk_t (qi_nI b160 (show 160 < 2 ^ 31 by omega)), qk_t (qi_nI hh (show 100 < 2 ^ 31 by omega)), qk_t (qi_nI (show 6 * b < 960 by omega) (show 960 < 2 ^ 31 by omega)), nI_clamp (show b < 2 ^ 31 by omega), nI_clamp (show h < 2 ^ 31 by omega), nI_clamp (show 6 * b < 2 ^ 31 by omega), hT2 4 b (by omega) (by omega), if_pos k7, h222, nI_p1, zu_self]
        rw [show zu J2 22 h (nI (k + 1)) 13 (6 * b) = nI (chd T (6 * b)) from by rw [zu_at, if_neg (by omega), hT2 13 _ (by omega) (by omega)]; exact w1, show nI (k + 1) - 1 = nI k from nI_subs (a := k + 1) (b := 1) (by omega)]
        exact qb_id _
      simp only [h120] at g1
      have hstep : goS J J4 := ⟨hgo.1, hgo.2, ev_mono (ev_and g1 e1) (fun N hN => by rw [hN.1, hN.2])⟩
      have hk8 : mK J (zu J2 22 h (nI (k + 1))) := mK_trans hG2.1 (mK_zu (mW_p (by omega)))
      have hX0 : ∀ X : Option (Nat × Nat × Rs), X = none → rdE T src false n (chd T (6 * b)) (chd T (6 * b)) none (nI h) k i o lim p = none → mX T src L J h i o p f en0 X J := by
        intro X hX hr
        obtain ⟨J5, q1, q2, q3⟩ := e2.1 hr
        rw [hX]
        exact mX_none (Rch_step hstep q1) q2 (mK_trans hk8 q3)
      by_cases hn : ntb src lim p = 0
      · refine hX0 _ ?_ (rd_ntb n _ _ _ _ _ _ _ _ _ w2 (fun d hd => by cases hd) hn)
        have hrd : rdL src (rdE T src false n) (chd T (6 * b)) (nI h) lim (m + 1) k i o p = some (p, 0, rnil) := by
          unfold rdL
          rw [if_pos hn]
        rw [hrd]
        simp only [Option.bind_some, hcl, Option.bind_none]
        split <;> rfl
      · have hrd : rdL src (rdE T src false n) (chd T (6 * b)) (nI h) lim (m + 1) k i o p = (rdE T src false n (chd T (6 * b)) (chd T (6 * b)) none (nI h) k i o lim p).bind fun r => (rdL src (rdE T src false n) (chd T (6 * b)) (nI h) lim m (k + 1) (i + r.2.1.length) (o + r.2.2.1.length) r.1).bind fun q => some (q.1, q.2.1 + 1, rcat r.2 q.2.2) := by
          show (if ntb src lim p = 0 then _ else _) = _
          rw [if_neg hn]
        rw [hrd]
        cases hr : rdE T src false n (chd T (6 * b)) (chd T (6 * b)) none (nI h) k i o lim p with
        | none => exact hX0 _ rfl hr
        | some r =>
          obtain ⟨J5, q1, q2, q3, q4, q5, q6⟩ := e2.2 r hr
          have hne := rd_ne T src false n _ _ _ _ _ _ _ _ _ _ hr
          have hx := ih (k + 1) (i + r.2.1.length) (o + r.2.2.1.length) r.1 J5 (by omega) (by omega) q3 ⟨by rw [q2.2.2.2 31 f (by omega) (by omega) (by omega), zu_at, if_neg (by omega)]; exact hF2.1, by rw [q2.2.2.2 35 f (by omega) (by omega) (by omega), zu_at, if_neg (by omega)]; exact hF2.2⟩ (by rw [q2.2.1 21 h (by omega) (by omega) (by omega), zu_at, if_neg (by omega)]; exact h212) (by rw [q2.2.1 22 h (by omega) (by omega) (by omega), zu_self]) (mE_c hE2 (fun k' hk' => by rw [q2.2.2.2 32 k' (by omega) (by omega) (by omega), zu_at, if_neg (by omega)]))
          have hreach : Rch J J5 := Rch_step hstep q1
          have hgh : mGh J J5 h i o f := by
            refine mGh_trans (mGh_trans (mGh_of (uKp_mG g2 i o f)) (mGh_num (i := i) (o := o) (f := f)) (by omega) (by omega) (by omega)) (mGh_of q2) (by omega) (by omega) (by omega)
          simp only [Option.bind_some]
          cases hrl : rdL src (rdE T src false n) (chd T (6 * b)) (nI h) lim m (k + 1) (i + r.2.1.length) (o + r.2.2.1.length) r.1 with
          | none =>
            rw [hrl] at hx
            obtain ⟨J6, z1, z2, z3⟩ := hx.1 rfl
            exact mX_none (Rch_trans hreach z1) z2 (mK_trans hgh.1 z3)
          | some q =>
            rw [hrl] at hx
            simp only [Option.bind_some] at hx ⊢
            rw [show k + 1 + q.2.1 = k + (q.2.1 + 1) by omega] at hx
            cases ha : alw T b (nI (k + (q.2.1 + 1))) with
            | false =>
              rw [ha] at hx
              simp only [Bool.false_eq_true, if_false] at hx ⊢
              obtain ⟨J6, z1, z2, z3⟩ := hx.1 rfl
              exact mX_none (Rch_trans hreach z1) z2 (mK_trans hgh.1 z3)
            | true =>
              rw [ha] at hx
              simp only [if_true] at hx ⊢
              cases hc3 : cls src (ceO lo lim) lim q.1 with
              | none =>
                rw [hc3] at hx
                obtain ⟨J6, z1, z2, z3⟩ := hx.1 rfl
                exact mX_none (Rch_trans hreach z1) z2 (mK_trans hgh.1 z3)
              | some p3 =>
                rw [hc3] at hx
                obtain ⟨J6, z1, z2, z3, z4, z5, z6, z7⟩ := hx.2 _ rfl
                refine mX_some (J2 := J6) (Rch_trans hreach z1) (mGh_trans hgh z2 (by omega) (by omega) (by omega)) ?_ (Nat.le_trans q4 z4) z5 (mH_apph (by omega) q5 z2 z6) (mO_apph q6 z2 z7)
                show mS T J6 src L (i + (r.2.1 ++ q.2.2.1).length) (o + (r.2.2.1 ++ q.2.2.2.1).length) p3 f en0
                rw [List.length_append, List.length_append, ← Nat.add_assoc, ← Nat.add_assoc]
                exact z3
