/-! THE REFERENCE reads by the open rules: frames, parts, plain contents -/
def fJ (J : zJ) (fr : Nat) (of e : Int32) (b : Bool) : zJ := zu (zu (zu (zu (zu (zu J 31 fr of) 32 fr e) 35 fr (bI b)) 33 fr 0) 34 fr 0) 0 48 (nI (fr + 1))
theorem m_frame {J : zJ} {fr : Nat} (h : J 0 48 = nI fr) (hf : fr ≤ 100) (of e : Int32) (b : Bool) (N : Nat) : FM_frame N of e (bI b) J = some ((), fJ J fr of e b) := by
  have hz : ∀ f : Bool → Option (Unit × zJ), qz (bI b) f = f b := by intro f; cases b <;> rfl
  unfold FM_frame
  have e1 : ∀ (K : zJ) (c k : Nat) (x : Int32), c ≠ 0 → zu K c k x 0 48 = K 0 48 := fun K c k x hc => by rw [zu_at, if_neg (by omega)]
  simp only [hz, e1 _ 31 _ _ (by omega), e1 _ 32 _ _ (by omega), e1 _ 33 _ _ (by omega), e1 _ 34 _ _ (by omega), e1 _ 35 _ _ (by omega), h, nI_clamp (show fr < 2 ^ 31 by omega), nI_p1, qk_t (qi_nI (show fr < 160 by omega) (show 160 < 2 ^ 31 by omega))]
  rfl
theorem fJ_at (J : zJ) (fr : Nat) (of e : Int32) (b : Bool) (c k : Nat) (h : ¬ (31 ≤ c ∧ c ≤ 35 ∧ k = fr) ∧ ¬ (c = 0 ∧ k = 48)) : fJ J fr of e b c k = J c k := by
  unfold fJ
  rw [zu_at, if_neg (by omega), zu_at, if_neg (by omega), zu_at, if_neg (by omega), zu_at, if_neg (by omega), zu_at, if_neg (by omega), zu_at, if_neg (by omega)]
theorem fJ_mK (J : zJ) (fr : Nat) (of e : Int32) (b : Bool) : mK J (fJ J fr of e b) := by
  intro c k h
  exact fJ_at J fr of e b c k ⟨fun q => h (by unfold mW; omega), fun q => h (by unfold mW; omega)⟩
def mF (J : zJ) (f : Nat) (of : Int32) (lo : Bool) : Prop := J 31 f = of ∧ J 35 f = bI lo
theorem m_push {T J : zJ} {src : Nat → Nat} {L i o p fr en lim : Nat} (hS : mS T J src L i o p fr en) (hf : fr < 100) (hl : lim ≤ L) (of : Int32) (b : Bool) : mG J (fJ J fr of (nI lim) b) i o fr ∧ mS T (fJ J fr of (nI lim) b) src L i o p (fr + 1) lim ∧ mF (fJ J fr of (nI lim) b) fr of b ∧ fJ J fr of (nI lim) b 33 fr = 0 := by
  obtain ⟨a1, a2, a3, a4, a5, a6, a7, a8, a9, a10, a11, a12, a13, a14, a15, a16⟩ := hS
  have hc := fJ_at J fr of (nI lim) b
  refine ⟨⟨fJ_mK J fr of _ b, fun c k c1 c2 hk => hc c k (by omega), fun k hk => hc 28 k (by omega), fun c k c1 c2 hk => hc c k (by omega)⟩, ⟨?_, ?_, ?_, ?_, zu_self _ _ _ _, ?_, fun k hk => ?_, mK_ty (fJ_mK J fr of _ b) a8, fun q => by omega, fun f hf => ?_, a11, a12, a13, hl, a15, by omega⟩, ⟨?_, ?_⟩, ?_⟩
  · rw [hc 0 49 (by omega)]; exact a1
  · rw [hc 0 47 (by omega)]; exact a2
  · rw [hc 0 34 (by omega)]; exact a3
  · rw [hc 0 35 (by omega)]; exact a4
  · rw [hc 0 28 (by omega)]; exact a6
  · rw [hc 19 k (by omega)]; exact a7 k hk
  · have : f = fr := by omega
    subst this
    unfold fJ
    rw [zu_at, if_neg (by omega), zu_at, if_neg (by omega), zu_at, if_neg (by omega), zu_at, if_neg (by omega), zu_self]
  · unfold fJ
    rw [zu_at, if_neg (by omega), zu_at, if_neg (by omega), zu_at, if_neg (by omega), zu_at, if_neg (by omega), zu_at, if_neg (by omega), zu_self]
  · unfold fJ
    rw [zu_at, if_neg (by omega), zu_at, if_neg (by omega), zu_at, if_neg (by omega), zu_self]
  · unfold fJ
    rw [zu_at, if_neg (by omega), zu_at, if_neg (by omega), zu_self]
theorem m_enter {T J : zJ} {src : Nat → Nat} {L i o p fr en : Nat} (hs : sOK src) (hS : mS T J src L i o p fr en) (hf : fr < 100) (of : Int32) :
    (lnS src true en p = none → ∃ J', (∀ N, FM_enter N of J = some ((), J')) ∧ mBad J J' (fr + 1)) ∧
    (∀ q, lnS src true en p = some q → ∃ J', (∀ N, FM_enter N of J = some ((), J')) ∧ mG J J' i o fr ∧ mS T J' src L i o q.1 (fr + 1) (q.2.getD en) ∧ mF J' fr of q.2.isNone ∧ J' 33 fr = 0 ∧ J' 16 = J 16 ∧ J' 0 23 = J 0 23 ∧ p + 1 ≤ q.1 ∧ q.1 ≤ en ∧ ∀ c, q.2 = some c → q.1 ≤ c ∧ c ≤ en) := by
  obtain ⟨l1, l2⟩ := m_len (made := true) hs hS
  have hen := hS.2.2.2.2.2.2.2.2.2.2.2.2.2.1
  have hL := hS.2.2.2.2.2.2.2.2.2.2.2.2.2.2.1
  constructor
  · intro h
    obtain ⟨J1, g1, g2⟩ := l1 h
    have g1 : ∀ N, FM_length N 1 J = some (0, J1) := g1
    refine ⟨fJ J1 fr of (J1 0 47 + 0) false, fun N => ?_, ?_, zu_self _ _ _ _, mK_trans g2.2.2 (fJ_mK _ _ _ _ _)⟩
    · unfold FM_enter FM_enter_25 FM_enter_34
      rw [g1, qb_some, if_pos (by decide), if_pos (by decide), show (0 : Int32) = bI false from rfl, m_frame g2.2.1 (by omega), qb_some]
    · rw [fJ_at _ _ _ _ _ 0 49 (by omega)]; exact g2.1
  · intro q h
    obtain ⟨g1, g2, g3, g4, g5⟩ := l2 q h
    have g1 : ∀ N, FM_length N 1 J = _ := g1
    have hS1 := mS_pos hS (show p ≤ q.1 by omega) (show q.1 ≤ L by omega)
    have hG1 : mG J (zu J 0 47 (nI q.1)) i o fr := mG_zu (mW_f (by omega)) (by omega)
    have hlim : q.2.getD en ≤ L := by
      cases hq : q.2 with
      | none => exact hen
      | some c => exact Nat.le_trans (g4 c hq).2 hen
    obtain ⟨p1, p2, p3, p4⟩ := m_push hS1 hf hlim of q.2.isNone
    have hc := fJ_at (zu J 0 47 (nI q.1)) fr of (nI (q.2.getD en)) q.2.isNone
    refine ⟨_, fun N => ?_, mG_trans hG1 p1 (Nat.le_refl _) (Nat.le_refl _) (Nat.le_refl _), p2, p3, p4, ?_, ?_, g2, g3, g4⟩
    · have hfr : zu J 0 47 (nI q.1) 0 48 = nI fr := hS1.2.2.2.2.1
      unfold FM_enter FM_enter_25 FM_enter_34
      rw [g1, qb_some]
      cases hq : q.2 with
      | none =>
        simp only
        rw [if_neg (by decide), m_bnd hS1, qb_some, if_neg (by decide), show (1 : Int32) = bI true from rfl, m_frame hfr (by omega), qb_some]
        rfl
      | some c =>
        have := g4 c hq
        have ep : (0 : Int32) ≤ nI (c - q.1) := by rw [show (0 : Int32) = nI 0 from rfl, nI_leI (by omega) (by omega)]; omega
        simp only
        rw [if_pos ep, if_pos ep, zu_self, nI_add, show q.1 + (c - q.1) = c by omega, show (0 : Int32) = bI false from rfl, m_frame hfr (by omega), qb_some]
        rfl
    · funext k
      rw [hc 16 k (by omega), zu_at, if_neg (by omega)]
    · rw [hc 0 23 (by omega), zu_at, if_neg (by omega)]
def mA (J : zJ) (i t : Nat) (of : Int32) (wh : Nat) (v : Int32) (o : Nat) : Prop := J 21 i = nI t ∧ J 22 i = v ∧ J 23 i = nI wh ∧ J 24 i = of ∧ J 25 i = nI o
theorem m_adds {T J : zJ} {src : Nat → Nat} {L i o p fr en : Nat} (hS : mS T J src L i o p fr en) (hi : i < 100) (t : Nat) (of : Int32) (wh : Nat) (v : Int32) : ∃ J', (∀ N, FM_adds N (nI t) of (nI wh) v J = some (nI i, J')) ∧ mG J J' i o fr ∧ mS T J' src L (i + 1) o p fr en ∧ mA J' i t of wh v o ∧ J' 16 = J 16 ∧ J' 0 23 = J 0 23 ∧ (∀ c k, 31 ≤ c → J' c k = J c k) := by
  obtain ⟨a1, a2, a3, a4, a5, a6, a7, a8, a9, a10, a11, a12, a13, a14⟩ := hS
  have hm : mG J (zu (zu (zu (zu (zu (zu J 21 i (nI t)) 24 i of) 23 i (nI wh)) 22 i v) 25 i (nI o)) 0 34 (nI (i + 1))) i o fr := by
    refine mG_trans (mG_trans (mG_trans (mG_trans (mG_trans (mG_zu (mW_p (by omega)) (by omega)) (mG_zu (i := i) (o := o) (fr := fr) (mW_p (by omega)) (by omega)) (by omega) (by omega) (by omega)) (mG_zu (i := i) (o := o) (fr := fr) (mW_p (by omega)) (by omega)) (by omega) (by omega) (by omega)) (mG_zu (i := i) (o := o) (fr := fr) (mW_p (by omega)) (by omega)) (by omega) (by omega) (by omega)) (mG_zu (i := i) (o := o) (fr := fr) (mW_p (by omega)) (by omega)) (by omega) (by omega) (by omega)) (mG_zu (i := i) (o := o) (fr := fr) (mW_f (by omega)) (by omega)) (by omega) (by omega) (by omega)
  refine ⟨_, fun N => ?_, hm, ⟨?_, ?_, zu_self _ _ _ _, ?_, ?_, ?_, fun k hk => ?_, mK_ty hm.1 a8, a9, fun f hf => ?_, by omega, a12, a13, a14⟩, ⟨?_, ?_, ?_, ?_, ?_⟩, ?_, ?_, fun c k hc => ?_⟩
  · unfold FM_adds FM_adds_14
    have e1 : ∀ (K : zJ) (c k : Nat) (x : Int32), c ≠ 0 → zu K c k x 0 34 = K 0 34 := fun K c k x hc => by rw [zu_at, if_neg (by omega)]
    have e2 : ∀ (K : zJ) (c k : Nat) (x : Int32), c ≠ 0 → zu K c k x 0 35 = K 0 35 := fun K c k x hc => by rw [zu_at, if_neg (by omega)]
    rw [a3, if_neg (by rw [show (100 : Int32) = nI 100 from rfl, nI_eq (by omega) (by omega)]; omega), a1, if_neg (by decide)]
    simp only [e1 _ 21 _ _ (by omega), e1 _ 22 _ _ (by omega), e1 _ 23 _ _ (by omega), e1 _ 24 _ _ (by omega), e1 _ 25 _ _ (by omega), e2 _ 21 _ _ (by omega), e2 _ 22 _ _ (by omega), e2 _ 23 _ _ (by omega), e2 _ 24 _ _ (by omega), a3, a4, nI_clamp (show i < 2 ^ 31 by omega), nI_p1, qk_t (qi_nI hi (show 100 < 2 ^ 31 by omega)), zu_self]
    rw [show nI (i + 1) - 1 = nI i from nI_subs (a := i + 1) (b := 1) (by omega)]
  · simp [zu_at, a1]
  · simp [zu_at, a2]
  · simp [zu_at, a4]
  · simp [zu_at, a5]
  · simp [zu_at, a6]
  · simp [zu_at, a7 k hk]
  · simp [zu_at, a10 f hf]
  · simp [zu_at]
  · simp [zu_at]
  · simp [zu_at]
  · simp [zu_at]
  · simp [zu_at]
  · funext k; simp [zu_at]
  · simp [zu_at]
  · rw [zu_at, if_neg (by omega), zu_at, if_neg (by omega), zu_at, if_neg (by omega), zu_at, if_neg (by omega), zu_at, if_neg (by omega), zu_at, if_neg (by omega)]
theorem m_adds0 {T J : zJ} {src : Nat → Nat} {L i o p fr en : Nat} (hS : mS T J src L i o p fr en) (hi : ¬ i < 100) (t of wh v : Int32) (N : Nat) : FM_adds N t of wh v J = some (99, zu J 0 49 0) := by
  obtain ⟨a1, a2, a3, a4, a5, a6, a7, a8, a9, a10, a11, a12, a13, a14⟩ := hS
  unfold FM_adds FM_adds_14
  rw [a3, if_pos (by rw [show (100 : Int32) = nI 100 from rfl, nI_eq (by omega) (by omega)]; omega)]
  simp only [zu_self, if_true]
/-- in a bad state nothing happens any more -/
theorem m_b156 {J : zJ} (h : J 0 49 = 0) (N : Nat) (l4 l5 l6 l7 : Int32) : FM_inner_156 N l4 l5 l6 l7 J = some ((), J) := by
  unfold FM_inner_156
  rw [if_pos h]
theorem m_b110 {J : zJ} (h : J 0 49 = 0) (N : Nat) (l4 l5 l6 t0 : Int32) : FM_inner_110 N l4 l5 l6 t0 J = some ((), J) := by
  unfold FM_inner_110 FM_inner_123 FM_inner_135
  simp only [zu_id J 0 49 0 h, m_b156 h, FM_in_eq, qc_some]
  simp
theorem m_b48 {J : zJ} (h : J 0 49 = 0) (N : Nat) (l4 t0 : Int32) : FM_inner_48 N l4 t0 J = some ((), J) := by
  unfold FM_inner_48 FM_inner_69 FM_inner_89
  simp only [if_pos h, m_b110 h]
  simp
def goS (J J' : zJ) : Prop := J 0 49 = 1 ∧ (∃ f, f < 160 ∧ J 0 48 = nI (f + 1)) ∧ Ev (fun N => FM_goOn N J = some ((), J'))
def goR : Nat → zJ → zJ → Prop
  | 0, J, J' => J' = J
  | m + 1, J, J' => ∃ J1, goS J J1 ∧ goR m J1 J'
def Rch (J J' : zJ) : Prop := ∃ m, goR m J J'
theorem goR_trans : ∀ m k J J1 J2, goR m J J1 → goR k J1 J2 → goR (m + k) J J2 := by
  intro m
  induction m with
  | zero => intro k J J1 J2 h1 h2; have : J1 = J := h1; subst this; rw [Nat.zero_add]; exact h2
  | succ m ih =>
    intro k J J1 J2 h1 h2
    obtain ⟨J3, h3, h4⟩ := h1
    rw [show m + 1 + k = (m + k) + 1 by omega]
    exact ⟨J3, h3, ih k J3 J1 J2 h4 h2⟩
theorem Rch_refl (J : zJ) : Rch J J := ⟨0, rfl⟩
theorem Rch_trans {J J1 J2 : zJ} (h1 : Rch J J1) (h2 : Rch J1 J2) : Rch J J2 := by
  obtain ⟨m, h1⟩ := h1
  obtain ⟨k, h2⟩ := h2
  exact ⟨m + k, goR_trans m k J J1 J2 h1 h2⟩
theorem Rch_step {J J1 J2 : zJ} (h1 : goS J J1) (h2 : Rch J1 J2) : Rch J J2 := by
  obtain ⟨k, h2⟩ := h2
  exact ⟨k + 1, J1, h1, h2⟩
def mH (J : zJ) (i : Nat) (l : List Pt) : Prop := ∀ k P, l[k]? = some P → J 21 (i + k) = nI (pT P) ∧ J 22 (i + k) = pV P ∧ J 23 (i + k) = nI (pW P) ∧ J 24 (i + k) = pA P ∧ J 25 (i + k) = nI (pF P)
def mO (J : zJ) (o : Nat) (l : List Nat) : Prop := ∀ k b, l[k]? = some b → J 28 (o + k) = nI b
/-- what becomes of J1, in which element() ends that began at J -/
def mR (T : zJ) (src : Nat → Nat) (L : Nat) (J : zJ) (i o p fr en : Nat) (res : Option (Nat × Rs)) (J1 : zJ) : Prop :=
  (res = none → ∃ J2, Rch J1 J2 ∧ J2 0 49 = 0 ∧ mK J J2) ∧ (∀ q, res = some q → ∃ J2, Rch J1 J2 ∧ mG J J2 i o fr ∧ mS T J2 src L (i + q.2.1.length) (o + q.2.2.1.length) q.1 fr en ∧ p ≤ q.1 ∧ mH J2 i q.2.1 ∧ mO J2 o q.2.2.1)
