/-! THE REFERENCE reads by the open rules: elements -/
theorem m_b12 {J : zJ} (h : J 0 49 = 0) (N F : Nat) (hF : 1 ≤ F) (l4 l5 l6 l7 : Int32) : qfix (FM_element_12 N) F (l4, l5, l6, l7, J) = some ((), J) := by
  obtain ⟨F, rfl⟩ : ∃ g, F = g + 1 := ⟨F - 1, by omega⟩
  show FM_element_12 N _ (l4, l5, l6, l7, J) = _
  simp only [FM_element_12, FM_element_304, if_pos h]
  simp
theorem m_b59 {J : zJ} (h : J 0 49 = 0) (N F G : Nat) (hF : 1 ≤ F) (hG : 1 ≤ G) (l4 l5 l6 l8 x : Int32) : qfix (FM_element_59 N (qfix (FM_element_12 N) F) l4 l5 l6 l8) G (x, J) = some ((), J) := by
  obtain ⟨G, rfl⟩ : ∃ g, G = g + 1 := ⟨G - 1, by omega⟩
  show FM_element_59 N (qfix (FM_element_12 N) F) l4 l5 l6 l8 _ (x, J) = _
  have e : FM_element_121 N (qfix (FM_element_12 N) F) l4 l5 l6 J = some ((), J) := by
    unfold FM_element_121 FM_element_147
    rw [if_pos h, if_pos rfl, m_b12 h N F hF]
  simp only [FM_element_59, if_pos h, e]
  simp
def elF (T : zJ) (src : Nat → Nat) (L n : Nat) : Prop := ∀ u par wh i o en p fr J, wfT T n u → mS T J src L i o p fr en → fr + n ≤ 12 → ∃ J1, Ev (fun N => ∀ F, n + 1 ≤ F → qfix (FM_element_12 N) F (nI u, par, nI wh, 1, J) = some ((), J1)) ∧ mR T src L J i o p fr en (rdE T src false n u u none par wh i o en p) J1
def tgAt (J : zJ) (l : List Nat) : Prop := ∀ k, k < l.length → J 16 k = nI (l.getD (l.length - 1 - k) 0)
def chE (T : zJ) (src : Nat → Nat) (L n : Nat) : Prop := ∀ u t0 n0 dg par wh i o en p fr J, wfT T n u → wfT T n0 t0 → n0 ≤ 6 → bas T 6 t0 = bas T n u → (∀ d, dg = some d → d ≤ 9) → mS T J src L i o p fr en → fr + n ≤ 12 → J 0 23 = nI (bas T n u) → tgAt J (tls T n u dg) →
  ∃ J1, Ev (fun N => ∀ F G, n ≤ F → n + 1 ≤ G → qfix (FM_element_59 N (qfix (FM_element_12 N) F) (nI t0) par (nI wh) (if T 4 (bas T n u) = 9 then 0 else 1)) G (nI (tls T n u dg).length - 1, J) = some ((), J1)) ∧ mR T src L J i o p fr en (rdE T src false n u t0 dg par wh i o en p) J1
theorem mR_pre {T : zJ} {src : Nat → Nat} {L : Nat} {J J0 J1 : zJ} {i o p p' fr en : Nat} {res : Option (Nat × Rs)} (hg : mG J J0 i o fr) (hp : p ≤ p') (h : mR T src L J0 i o p' fr en res J1) : mR T src L J i o p fr en res J1 := by
  refine ⟨fun hx => ?_, fun q hq => ?_⟩
  · obtain ⟨J2, z1, z2, z3⟩ := h.1 hx
    exact ⟨J2, z1, z2, mK_trans hg.1 z3⟩
  · obtain ⟨J2, z1, z2, z3, z4, z5⟩ := h.2 q hq
    exact ⟨J2, z1, mG_trans hg z2 (Nat.le_refl _) (Nat.le_refl _) (Nat.le_refl _), z3, Nat.le_trans hp z4, z5⟩
theorem elF_of {T : zJ} {src : Nat → Nat} {L n : Nat} (hn : n ≤ 6) (h : chE T src L n) : elF T src L n := by
  intro u par wh i o en p fr J hw hS hf
  obtain ⟨J2, u1, u2, u3, u4⟩ := m_unw hw hn hS.2.2.2.2.2.2.2.1
  have hS2 := uKp_mS u4 hS
  obtain ⟨J1, e1, e2⟩ := h u u n none par wh i o en p fr J2 hw hw hn (bas_wf n 6 u hw hn).1 (fun d hd => by cases hd) hS2 hf u2 u3.2
  have hb160 : bas T n u < 160 := by
    have : ∀ m v, wfT T m v → bas T m v < 160 := by
      intro m
      induction m with
      | zero => intro v hv; exact hv.elim
      | succ m ih =>
        intro v hv
        unfold bas
        split
        · rename_i k; exact ih _ (hv.2.2.2.2.2.2.2.1 k).2.2.2.2
        · exact hv.1
    exact this n u hw
  obtain ⟨n1, e1⟩ := e1
  refine ⟨J1, ev_mono (ev_and u1 ⟨n1 + (n + 1), fun N hN => (⟨e1 N (by omega), by omega⟩ : _ ∧ n + 1 ≤ N)⟩) (fun N hN F hF => ?_), mR_pre (uKp_mG u4 i o fr) (Nat.le_refl _) e2⟩
  obtain ⟨F, rfl⟩ : ∃ g, F = g + 1 := ⟨F - 1, by omega⟩
  show FM_element_12 N _ (nI u, par, nI wh, 1, J) = _
  simp only [FM_element_12]
  rw [if_neg (by decide), if_neg (by rw [hS.1]; decide), hN.1, qb_some, u2, qk_t (qi_nI hb160 (by omega)), nI_clamp (by omega), hS2.2.2.2.2.2.2.2.1 4 _ (by omega) (by omega)]
  have := hN.2.1 F N (by omega) hN.2.2
  unfold FM_element_49
  rw [u3.1]
  by_cases k9 : T 4 (bas T n u) = 9
  · rw [if_pos k9] at this ⊢
    exact this
  · rw [if_neg k9] at this ⊢
    exact this
theorem elE_of {T : zJ} {src : Nat → Nat} {L n : Nat} (h : elF T src L n) : elE T src L n := by
  intro u par wh i o en p fr J hw hS hf
  obtain ⟨J1, ⟨n1, e1⟩, e2⟩ := h u par wh i o en p fr J hw hS hf
  exact ⟨J1, ⟨n1 + (n + 1), fun N hN => e1 N (by omega) N (by omega)⟩, e2⟩
theorem mH_cons {J : zJ} {i t0 t wh o m : Nat} {v par : Int32} {sh : Nat} {l : List Pt} (h1 : J 21 i = nI t0) (h2 : J 22 i = v) (h3 : J 23 i = nI wh) (h4 : J 24 i = par) (h5 : J 25 i = nI o) (h : mH J (i + 1) l) : mH J i (mkP t0 t v wh par o sh m :: l) := by
  intro k P hk
  cases k with
  | zero =>
    simp at hk
    subst hk
    exact ⟨h1, h2, h3, h4, h5⟩
  | succ k =>
    have := h k P (by simpa using hk)
    rw [show i + (k + 1) = i + 1 + k by omega]
    exact this
/-- the head of a sequence or list: inner() -/
theorem m_made {T J : zJ} {src : Nat → Nat} {L n b t0 tg i o p fr en wh : Nat} {par : Int32} (hs : sOK src) (hw : wfT T n b) (hk : T 4 b = 6 ∨ T 4 b = 7) (hS : mS T J src L i o p fr en) (h23 : J 0 23 = nI b) (h16 : J 16 0 = nI tg) (ht : tg < 256) (hf : fr < 100) :
    ((hdr false src tg true en p = none ∨ ¬ i < 100) → ∃ J1, (∀ N, FM_inner N (nI t0) par (nI wh) J = some ((), J1)) ∧ J1 0 49 = 0 ∧ mK J J1) ∧
    (∀ q, hdr false src tg true en p = some q → i < 100 → ∃ J1, (∀ N, FM_inner N (nI t0) par (nI wh) J = some ((), J1)) ∧ mG J J1 i o fr ∧ mS T J1 src L (i + 1) o q.1 (fr + 1) (q.2.getD en) ∧ mA J1 i t0 par wh 0 o ∧ mF J1 fr (nI i) q.2.isNone ∧ J1 33 fr = 0 ∧ p ≤ q.1 ∧ q.1 ≤ en) := by
  have hS' := hS
  have hn := m_next hS
  obtain ⟨a1, a2, a3, a4, a5, a6, a7, a8, a9, a10, a11, a12, a13, a14, a15, a16⟩ := hS
  have b160 : b < 160 := by cases n with
    | zero => exact hw.elim
    | succ n => exact hw.1
  have n1 : ¬ T 4 b = 1 := by rcases hk with h | h <;> rw [h] <;> decide
  have n2 : ¬ T 4 b = 2 := by rcases hk with h | h <;> rw [h] <;> decide
  have n5 : ¬ T 4 b = 5 := by rcases hk with h | h <;> rw [h] <;> decide
  have hsp := hs p
  rw [hdr_ln]
  unfold FM_inner
  simp only [h23, qk_t (qi_nI b160 (show 160 < 2 ^ 31 by omega)), nI_clamp (show b < 2 ^ 31 by omega), a8 4 b (by omega) (by omega), hn, qk_t (show qi 0 16 = true by decide), show ((0 : Int32).toNatClampNeg) = 0 from by decide]
  by_cases c0 : p < en
  case neg =>
    have c1 : ¬ (p < en ∧ src p = tg) := fun q => c0 q.1
    simp only [if_neg c0, if_neg c1, qb_some]
    have hb0 : zu (zu J 0 49 0) 0 47 (nI (p + 1)) 0 49 = 0 := by rw [zu_at, if_neg (by omega), zu_self]
    refine ⟨fun _ => ⟨zu (zu J 0 49 0) 0 47 (nI (p + 1)), fun N => ?_, hb0, mK_trans (mK_zu (mW_f (by omega))) (mK_zu (mW_f (by omega)))⟩, fun q hq => by cases hq⟩
    unfold FM_inner_29
    rw [zu_id _ 0 49 0 hb0, if_pos hb0, m_b48 hb0]
    simp
  simp only [if_pos c0, qb_some]
  have e16 : zu J 0 47 (nI (p + 1)) 16 0 = nI tg := by rw [zu_at, if_neg (by omega)]; exact h16
  have et : nI (src p) = nI tg ↔ src p = tg := nI_eq (by omega) (by omega)
  simp only [e16, et]
  have hS1 := mS_pos hS' (show p ≤ p + 1 by omega) (show p + 1 ≤ L by omega)
  have hg1 : mG J (zu J 0 47 (nI (p + 1))) i o fr := mG_zu (mW_f (by omega)) (by omega)
  by_cases c1 : src p = tg
  case neg =>
    have c2 : ¬ (p < en ∧ src p = tg) := fun q => c1 q.2
    simp only [if_neg c1, if_neg c2]
    have hb0 : zu (zu J 0 47 (nI (p + 1))) 0 49 0 0 49 = 0 := zu_self _ _ _ _
    refine ⟨fun _ => ⟨zu (zu J 0 47 (nI (p + 1))) 0 49 0, fun N => ?_, hb0, mK_trans hg1.1 (mK_zu (mW_f (by omega)))⟩, fun q hq => by cases hq⟩
    unfold FM_inner_29
    rw [if_pos hb0, m_b48 hb0]
  have c2 : p < en ∧ src p = tg := ⟨c0, c1⟩
  simp only [if_pos c1, if_pos c2]
  generalize zu J 0 47 (nI (p + 1)) = J1 at hS1 hg1 ⊢
  unfold FM_inner_29
  have g1 : ¬ J1 0 49 = 0 := by rw [hS1.1]; decide
  simp only [if_neg g1]
  by_cases hi : i < 100
  case neg =>
    simp only [m_adds0 hS1 hi, qb_some]
    have hb0 : zu J1 0 49 0 0 49 = 0 := zu_self _ _ _ _
    exact ⟨fun _ => ⟨zu J1 0 49 0, fun N => m_b48 hb0 N _ _, hb0, mK_trans hg1.1 (mK_zu (mW_f (by omega)))⟩, fun q hq h => absurd h hi⟩
  obtain ⟨J2, d1, d2, d3, d4, d5, d6, d7⟩ := m_adds hS1 hi t0 par wh 0
  have hg2 : mG J J2 i o fr := mG_trans hg1 d2 (by omega) (by omega) (by omega)
  simp only [d1, qb_some]
  have g2 : ¬ J2 0 49 = 0 := by rw [d3.1]; decide
  have h48 : ∀ N, FM_inner_48 N (T 4 b) (nI i) J2 = qb (FM_enter N (nI i) J2) fun v1 J3 => FM_inner_89 N (T 4 b) (nI i) 1 J3 := by
    intro N
    unfold FM_inner_48 FM_inner_69
    simp only [if_neg g2, if_neg (show ¬ (1 : Int32) = 0 by decide)]
    rcases hk with h | h
    · rw [if_pos h]
    · rw [if_neg (by rw [h]; decide), if_pos h]
  simp only [h48]
  obtain ⟨l1, l2⟩ := m_enter hs d3 hf (nI i)
  refine ⟨fun h => ?_, fun q hq _ => ?_⟩
  · rcases h with h | h
    · obtain ⟨J3, e1, e2⟩ := l1 h
      refine ⟨J3, fun N => ?_, e2.1, mK_trans hg2.1 e2.2.2⟩
      rw [e1, qb_some]
      unfold FM_inner_89
      rw [if_pos e2.1, m_b110 e2.1]
    · exact absurd hi h
  · obtain ⟨J3, e1, e2, e3, e4, e5, e6, e7, e8, e9, e10⟩ := l2 q hq
    obtain ⟨z1, z2, z3, z4, z5⟩ := d4
    refine ⟨J3, fun N => ?_, mG_trans hg2 e2 (by omega) (by omega) (by omega), e3, ⟨?_, ?_, ?_, ?_, ?_⟩, e4, e5, by omega, e9⟩
    · rw [e1, qb_some]
      unfold FM_inner_89 FM_inner_110 FM_inner_123 FM_inner_135 FM_inner_156
      rw [if_neg (by rw [e3.1]; decide), if_neg (by decide), if_neg n5, if_neg n1, if_neg n2, if_neg (by rw [e3.1]; decide), if_neg (by decide)]
    · rw [e2.2.1 21 i (by omega) (by omega) (by omega)]; exact z1
    · rw [e2.2.1 22 i (by omega) (by omega) (by omega)]; exact z2
    · rw [e2.2.1 23 i (by omega) (by omega) (by omega)]; exact z3
    · rw [e2.2.1 24 i (by omega) (by omega) (by omega)]; exact z4
    · rw [e2.2.1 25 i (by omega) (by omega) (by omega)]; exact z5
theorem cls_ce {src : Nat → Nat} {ce : Option Nat} {en p : Nat} : cls src (ceO ce.isNone (ce.getD en)) (ce.getD en) p = cls src ce en p := by
  cases ce <;> rfl
theorem rd_hdr {src : Nat → Nat} {tg en p : Nat} {made : Bool} {q : Nat × Option Nat} (h : hdr false src tg made en p = some q) : p < en := by
  unfold hdr at h
  by_cases c : en < p + 2
  · rw [if_pos c] at h; cases h
  · omega
