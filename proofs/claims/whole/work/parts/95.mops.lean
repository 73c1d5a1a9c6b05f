/-! THE REFERENCE reads by the open rules: its small steps -/
def mW (c k : Nat) : Prop := (c = 0 ∧ (k = 23 ∨ k = 24 ∨ k = 34 ∨ k = 35 ∨ k = 47 ∨ k = 48 ∨ k = 49)) ∨ c = 16 ∨ c = 17 ∨ (21 ≤ c ∧ c ≤ 25) ∨ c = 28 ∨ (31 ≤ c ∧ c ≤ 35)
def mK (J J' : zJ) : Prop := ∀ c k, ¬ mW c k → J' c k = J c k
def mG (J J' : zJ) (i o fr : Nat) : Prop := mK J J' ∧ (∀ c k, 21 ≤ c → c ≤ 25 → k < i → J' c k = J c k) ∧ (∀ k, k < o → J' 28 k = J 28 k) ∧ (∀ c k, 31 ≤ c → c ≤ 35 → k < fr → J' c k = J c k)
def mS (T J : zJ) (src : Nat → Nat) (L i o p fr en : Nat) : Prop := J 0 49 = 1 ∧ J 0 47 = nI p ∧ J 0 34 = nI i ∧ J 0 35 = nI o ∧ J 0 48 = nI fr ∧ J 0 28 = nI L ∧ (∀ k, k < L → J 19 k = nI (src k)) ∧ tyEq T J ∧ (fr = 0 → en = L) ∧ (∀ f, fr = f + 1 → J 32 f = nI en) ∧ i ≤ 100 ∧ o ≤ p ∧ p ≤ L ∧ en ≤ L ∧ L ≤ 120 ∧ fr ≤ 100
def mBad (J J' : zJ) (fr : Nat) : Prop := J' 0 49 = 0 ∧ J' 0 48 = nI fr ∧ mK J J'
theorem mK_refl (J : zJ) : mK J J := fun _ _ _ => rfl
theorem mK_trans {J J1 J2 : zJ} (h1 : mK J J1) (h2 : mK J1 J2) : mK J J2 := fun c k h => (h2 c k h).trans (h1 c k h)
theorem mG_refl (J : zJ) (i o fr : Nat) : mG J J i o fr := ⟨mK_refl J, fun _ _ _ _ _ => rfl, fun _ _ => rfl, fun _ _ _ _ _ => rfl⟩
theorem mG_trans {J J1 J2 : zJ} {i o fr i' o' fr' : Nat} (h1 : mG J J1 i o fr) (h2 : mG J1 J2 i' o' fr') (hi : i ≤ i') (ho : o ≤ o') (hf : fr ≤ fr') : mG J J2 i o fr :=
  ⟨mK_trans h1.1 h2.1, fun c k c1 c2 hk => (h2.2.1 c k c1 c2 (by omega)).trans (h1.2.1 c k c1 c2 hk), fun k hk => (h2.2.2.1 k (by omega)).trans (h1.2.2.1 k hk), fun c k c1 c2 hk => (h2.2.2.2 c k c1 c2 (by omega)).trans (h1.2.2.2 c k c1 c2 hk)⟩
theorem mK_zu {J : zJ} {c k : Nat} {x : Int32} (h : mW c k) : mK J (zu J c k x) := by
  intro c' k' h'
  rw [zu_at, if_neg]
  rintro ⟨rfl, rfl⟩
  exact h' h
theorem mG_zu {J : zJ} {c k i o fr : Nat} {x : Int32} (h : mW c k) (h2 : (21 ≤ c ∧ c ≤ 25 → i ≤ k) ∧ (c = 28 → o ≤ k) ∧ (31 ≤ c ∧ c ≤ 35 → fr ≤ k)) : mG J (zu J c k x) i o fr := by
  refine ⟨mK_zu h, fun c' k' c1 c2 hk => ?_, fun k' hk => ?_, fun c' k' c1 c2 hk => ?_⟩
  · rw [zu_at, if_neg (by omega)]
  · rw [zu_at, if_neg (by omega)]
  · rw [zu_at, if_neg (by omega)]
theorem mW_f {k : Nat} (h : k = 23 ∨ k = 24 ∨ k = 34 ∨ k = 35 ∨ k = 47 ∨ k = 48 ∨ k = 49) : mW 0 k := Or.inl ⟨rfl, h⟩
theorem mW_p {c k : Nat} (h : 21 ≤ c ∧ c ≤ 25) : mW c k := Or.inr (Or.inr (Or.inr (Or.inl h)))
theorem mW_o {k : Nat} : mW 28 k := Or.inr (Or.inr (Or.inr (Or.inr (Or.inl rfl))))
theorem mW_r {c k : Nat} (h : 31 ≤ c ∧ c ≤ 35) : mW c k := Or.inr (Or.inr (Or.inr (Or.inr (Or.inr h))))
theorem mK_ty {T J J' : zJ} (h : mK J J') (hT : tyEq T J) : tyEq T J' := fun c k c1 c2 => by
  rw [h c k (by unfold mW; omega)]; exact hT c k c1 c2
theorem uKp_mG {J J' : zJ} (h : uKp J J' 0) (i o fr : Nat) : mG J J' i o fr :=
  ⟨fun c k hw => h c k (fun q => hw (by unfold mW; omega)) (fun q => hw (by unfold mW; omega)) (fun q => hw (by unfold mW; omega)), fun c k c1 c2 _ => h c k (by omega) (by omega) (by omega), fun k _ => h 28 k (by omega) (by omega) (by omega), fun c k c1 c2 _ => h c k (by omega) (by omega) (by omega)⟩
theorem uKp_mS {T J J' : zJ} {src : Nat → Nat} {L i o p fr en : Nat} (h : uKp J J' 0) (hS : mS T J src L i o p fr en) : mS T J' src L i o p fr en := by
  obtain ⟨a1, a2, a3, a4, a5, a6, a7, a8, a9, a10, a11⟩ := hS
  refine ⟨?_, ?_, ?_, ?_, ?_, ?_, fun k hk => ?_, mK_ty (uKp_mG h 0 0 0).1 a8, a9, fun f hf => ?_, a11⟩
  · rw [h 0 49 (by omega) (by omega) (by omega)]; exact a1
  · rw [h 0 47 (by omega) (by omega) (by omega)]; exact a2
  · rw [h 0 34 (by omega) (by omega) (by omega)]; exact a3
  · rw [h 0 35 (by omega) (by omega) (by omega)]; exact a4
  · rw [h 0 48 (by omega) (by omega) (by omega)]; exact a5
  · rw [h 0 28 (by omega) (by omega) (by omega)]; exact a6
  · rw [h 19 k (by omega) (by omega) (by omega)]; exact a7 k hk
  · rw [h 32 f (by omega) (by omega) (by omega)]; exact a10 f hf
theorem mS_pos {T J : zJ} {src : Nat → Nat} {L i o p p1 fr en : Nat} (hS : mS T J src L i o p fr en) (h1 : p ≤ p1) (h2 : p1 ≤ L) : mS T (zu J 0 47 (nI p1)) src L i o p1 fr en := by
  obtain ⟨a1, a2, a3, a4, a5, a6, a7, a8, a9, a10, a11, a12, a13, a14⟩ := hS
  refine ⟨?_, zu_self _ _ _ _, ?_, ?_, ?_, ?_, fun k hk => ?_, mK_ty (mK_zu (mW_f (by omega))) a8, a9, fun f hf => ?_, a11, by omega, h2, a14⟩
  · rw [zu_at, if_neg (by omega)]; exact a1
  · rw [zu_at, if_neg (by omega)]; exact a3
  · rw [zu_at, if_neg (by omega)]; exact a4
  · rw [zu_at, if_neg (by omega)]; exact a5
  · rw [zu_at, if_neg (by omega)]; exact a6
  · rw [zu_at, if_neg (by omega)]; exact a7 k hk
  · rw [zu_at, if_neg (by omega)]; exact a10 f hf
theorem m_bnd0 {J : zJ} {fr : Nat} (h : J 0 48 = nI fr) (hf : fr ≤ 100) (N : Nat) : FM_bound N J = some (if fr = 0 then J 0 28 else J 32 (fr - 1), J) := by
  unfold FM_bound
  rw [h, show (0 : Int32) = nI 0 from rfl]
  simp (disch := omega) only [nI_eq]
  by_cases c : fr = 0
  · rw [if_pos c, if_pos c]
  · rw [if_neg c, if_neg c, show nI fr - 1 = nI (fr - 1) from nI_subs (b := 1) (by omega), qk_t (qi_nI (by omega) (by omega)), nI_clamp (by omega)]
theorem m_bnd {T J : zJ} {src : Nat → Nat} {L i o p fr en : Nat} (hS : mS T J src L i o p fr en) (N : Nat) : FM_bound N J = some (nI en, J) := by
  obtain ⟨a1, a2, a3, a4, a5, a6, a7, a8, a9, a10, a11, a12, a13, a14, a15, a16⟩ := hS
  rw [m_bnd0 a5 a16]
  by_cases c : fr = 0
  · rw [if_pos c, a6, a9 c]
  · rw [if_neg c, a10 (fr - 1) (by omega)]
theorem m_next {T J : zJ} {src : Nat → Nat} {L i o p fr en : Nat} (hS : mS T J src L i o p fr en) (N : Nat) : FM_next N J = if p < en then some (nI (src p), zu J 0 47 (nI (p + 1))) else some (0, zu (zu J 0 49 0) 0 47 (nI (p + 1))) := by
  have hb := m_bnd hS N
  obtain ⟨a1, a2, a3, a4, a5, a6, a7, a8, a9, a10, a11, a12, a13, a14, a15, a16⟩ := hS
  unfold FM_next
  rw [hb, qb_some, a2]
  simp (disch := omega) only [nI_ltI]
  by_cases c : p < en
  · rw [if_pos c, if_pos c]
    unfold FM_next_16
    rw [a2, nI_p1]
    simp only
    rw [show zu J 0 47 (nI (p + 1)) 0 49 = 1 from by rw [zu_at, if_neg (by omega), a1], if_neg (by decide), zu_self, show nI (p + 1) - 1 = nI p from nI_subs (a := p + 1) (b := 1) (by omega), qk_t (qi_nI (by omega) (by omega)), nI_clamp (by omega), zu_at, if_neg (by omega), a7 p (by omega)]
  · rw [if_neg c, if_neg c]
    unfold FM_next_16
    simp only
    rw [show zu J 0 49 0 0 47 = nI p from by rw [zu_at, if_neg (by omega), a2], nI_p1, show zu (zu J 0 49 0) 0 47 (nI (p + 1)) 0 49 = 0 from by rw [zu_at, if_neg (by omega), zu_self], if_pos rfl]
theorem m_nextB {J0 J : zJ} {fr : Nat} (h : mBad J0 J fr) (hf : fr ≤ 100) (N : Nat) : ∃ J', FM_next N J = some (0, J') ∧ mBad J0 J' fr := by
  obtain ⟨b1, b2, b3⟩ := h
  unfold FM_next FM_next_16
  rw [m_bnd0 b2 hf, qb_some]
  simp only
  have e1 : zu J 0 47 (J 0 47 + 1) 0 49 = 0 := by rw [zu_at, if_neg (by omega), b1]
  have e2 : ∀ x, zu (zu J 0 49 0) 0 47 x 0 49 = 0 := fun x => by rw [zu_at, if_neg (by omega), zu_self]
  rw [if_pos e1, if_pos (e2 _)]
  generalize (if fr = 0 then J 0 28 else J 32 (fr - 1)) = bb
  by_cases cb : J 0 47 < bb
  · rw [if_pos cb]
    exact ⟨_, rfl, e1, by rw [zu_at, if_neg (by omega)]; exact b2, mK_trans b3 (mK_zu (mW_f (by omega)))⟩
  · rw [if_neg cb]
    exact ⟨_, rfl, e2 _, by rw [zu_at, if_neg (by omega), zu_at, if_neg (by omega)]; exact b2, mK_trans b3 (mK_trans (mK_zu (mW_f (by omega))) (mK_zu (mW_f (by omega))))⟩
/-- a length from p on: where the content begins and ends -/
def lnS (src : Nat → Nat) (made : Bool) (en p : Nat) : Option (Nat × Option Nat) :=
  if p < en then
    if src p = 128 then (if made = true then some (p + 1, none) else none)
    else if src p < 128 then (if p + 1 + src p ≤ en then some (p + 1, some (p + 1 + src p)) else none)
    else if 130 < src p then none
    else if src p = 129 then (if p + 2 + src (p + 1) ≤ en then some (p + 2, some (p + 2 + src (p + 1))) else none)
    else (if p + 3 + (256 * src (p + 1) + src (p + 2)) ≤ en then some (p + 3, some (p + 3 + (256 * src (p + 1) + src (p + 2)))) else none)
  else none
theorem hdr_ln (src : Nat → Nat) (tg : Nat) (made : Bool) (en p : Nat) : hdr false src tg made en p = if p < en ∧ src p = tg then lnS src made en (p + 1) else none := by
  unfold hdr lnS
  by_cases c0 : en < p + 2
  · rw [if_pos c0]
    by_cases c1 : p < en ∧ src p = tg
    · rw [if_pos c1, if_neg (by omega)]
    · rw [if_neg c1]
  · rw [if_neg c0]
    by_cases c1 : src p = tg
    · rw [if_pos c1, if_pos (show p < en ∧ src p = tg from ⟨by omega, c1⟩), if_pos (show p + 1 < en by omega)]
      by_cases c2 : src (p + 1) = 128
      · rw [if_pos c2, if_pos c2]
        cases made <;> simp
      · rw [if_neg c2, if_neg c2]
        by_cases c3 : src (p + 1) < 128
        · rw [if_pos c3, if_pos c3]
        · rw [if_neg c3, if_neg c3]
          by_cases c4 : 130 < src (p + 1)
          · rw [if_pos (Or.inr c4), if_pos c4]
          · rw [if_neg (by simp; omega), if_neg c4]
    · rw [if_neg c1, if_neg (fun q => c1 q.2)]
theorem m_len91 {J0 J : zJ} {fr : Nat} (h : mBad J0 J fr) (hf : fr ≤ 100) (v : Int32) (N : Nat) : ∃ J', FM_length_73 N v J = some (0, J') ∧ mBad J0 J' fr := by
  obtain ⟨b1, b2, b3⟩ := h
  unfold FM_length_73 FM_length_91
  rw [m_bnd0 b2 hf, qb_some]
  simp only
  have e2 : zu J 0 49 0 0 49 = 0 := zu_self _ _ _ _
  rw [if_pos b1, if_pos e2]
  generalize (if fr = 0 then J 0 28 else J 32 (fr - 1)) = bb
  by_cases cb : J 0 47 + v ≤ bb
  · rw [if_pos cb]
    exact ⟨_, rfl, b1, b2, b3⟩
  · rw [if_neg cb]
    exact ⟨_, rfl, e2, by rw [zu_at, if_neg (by omega)]; exact b2, mK_trans b3 (mK_zu (mW_f (by omega)))⟩
theorem m_len73 {T J : zJ} {src : Nat → Nat} {L i o p fr en v : Nat} (hS : mS T J src L i o p fr en) (hv : v < 70000) (N : Nat) : (p + v ≤ en → FM_length_73 N (nI v) J = some (nI v, J)) ∧ (¬ p + v ≤ en → ∃ J', FM_length_73 N (nI v) J = some (0, J') ∧ mBad J J' fr) := by
  have hb := m_bnd hS N
  obtain ⟨a1, a2, a3, a4, a5, a6, a7, a8, a9, a10, a11, a12, a13, a14, a15, a16⟩ := hS
  unfold FM_length_73 FM_length_91
  rw [hb, qb_some, a2, nI_add]
  simp (disch := omega) only [nI_leI]
  constructor
  · intro c
    rw [if_pos c, if_neg (by rw [a1]; decide)]
  · intro c
    rw [if_neg c, zu_self, if_pos rfl]
    exact ⟨_, rfl, zu_self _ _ _ _, by rw [zu_at, if_neg (by omega)]; exact a5, mK_zu (mW_f (by omega))⟩
theorem mBad_of {T J : zJ} {src : Nat → Nat} {L i o p fr en : Nat} (hS : mS T J src L i o p fr en) : mBad J (zu J 0 49 0) fr := by
  refine ⟨zu_self _ _ _ _, ?_, mK_zu (mW_f (by omega))⟩
  rw [zu_at, if_neg (by omega)]
  exact hS.2.2.2.2.1
theorem mBad_tr {J J1 J2 : zJ} {fr fr' : Nat} (h1 : mK J J1) (h2 : mBad J1 J2 fr) : mBad J J2 fr := ⟨h2.1, h2.2.1, mK_trans h1 h2.2.2⟩
theorem mBad_zu {J J1 : zJ} {fr k : Nat} {x : Int32} (h : mBad J J1 fr) (hk : k = 23 ∨ k = 24 ∨ k = 34 ∨ k = 35 ∨ k = 47) : mBad J (zu J1 0 k x) fr := by
  refine ⟨?_, ?_, mK_trans h.2.2 (mK_zu (mW_f (by omega)))⟩
  · rw [zu_at, if_neg (by omega)]; exact h.1
  · rw [zu_at, if_neg (by omega)]; exact h.2.1
theorem m_len {T J : zJ} {src : Nat → Nat} {L i o p fr en : Nat} {made : Bool} (hs : sOK src) (hS : mS T J src L i o p fr en) :
    (lnS src made en p = none → ∃ J', (∀ N, FM_length N (bI made) J = some (0, J')) ∧ mBad J J' fr) ∧
    (∀ q, lnS src made en p = some q → (∀ N, FM_length N (bI made) J = some (match q.2 with | none => -1 | some c => nI (c - q.1), zu J 0 47 (nI q.1))) ∧ p + 1 ≤ q.1 ∧ q.1 ≤ en ∧ (∀ c, q.2 = some c → q.1 ≤ c ∧ c ≤ en) ∧ (q.2 = none → made = true)) := by
  have hn := m_next hS
  have hS' := hS
  obtain ⟨a1, a2, a3, a4, a5, a6, a7, a8, a9, a10, a11, a12, a13, a14, a15, a16⟩ := hS
  have hsp := hs p
  unfold FM_length lnS
  simp only [hn]
  by_cases c0 : p < en
  case neg =>
    simp only [if_neg c0, qb_some]
    refine ⟨fun _ => ?_, fun q hq => by cases hq⟩
    have hb0 : mBad J (zu (zu J 0 49 0) 0 47 (nI (p + 1))) fr := mBad_zu (mBad_of hS') (by omega)
    obtain ⟨J', h1, h2⟩ := m_len91 hb0 a16 0 0
    refine ⟨J', fun N => ?_, h2⟩
    unfold FM_length_18 FM_length_37
    rw [if_neg (by decide), if_neg (by decide), if_neg (by decide), if_neg (by decide), if_neg (by decide)]
    exact h1
  simp only [if_pos c0, qb_some]
  have hS1 := mS_pos hS' (show p ≤ p + 1 by omega) (show p + 1 ≤ L by omega)
  have hk1 : mK J (zu J 0 47 (nI (p + 1))) := mK_zu (mW_f (by omega))
  generalize hJ1 : zu J 0 47 (nI (p + 1)) = J1 at hS1 hk1 ⊢
  have e128 : nI (src p) = 128 ↔ src p = 128 := by rw [show (128 : Int32) = nI 128 from rfl, nI_eq (by omega) (by omega)]
  have e129 : nI (src p) = 129 ↔ src p = 129 := by rw [show (129 : Int32) = nI 129 from rfl, nI_eq (by omega) (by omega)]
  have e130 : nI (src p) = 130 ↔ src p = 130 := by rw [show (130 : Int32) = nI 130 from rfl, nI_eq (by omega) (by omega)]
  have l130 : 130 < nI (src p) ↔ 130 < src p := by rw [show (130 : Int32) = nI 130 from rfl, nI_ltI (by omega) (by omega)]
  unfold FM_length_18 FM_length_37
  simp only [e128, e129, e130, l130]
  by_cases c1 : src p = 128
  · simp only [if_pos c1]
    cases made with
    | true =>
      refine ⟨fun h => (by simp at h), fun q hq => ?_⟩
      simp at hq
      subst hq
      refine ⟨fun N => ?_, by simp, by simp; omega, fun c hc => (by simp at hc), fun _ => rfl⟩
      rw [bI_t, if_neg (by decide)]
      simp only [hJ1]
    | false =>
      refine ⟨fun _ => ?_, fun q hq => (by simp at hq)⟩
      obtain ⟨J', h1, h2⟩ := m_len91 (mBad_of hS1) a16 (nI (src p)) 0
      refine ⟨J', fun N => ?_, mBad_tr (fr' := fr) hk1 h2⟩
      rw [bI_f, if_pos rfl, if_neg (by omega), if_neg (by omega), if_neg (by omega)]
      exact h1
  simp only [if_neg c1]
  by_cases c2 : src p < 128
  · have n1 : ¬ 130 < src p := by omega
    have n2 : ¬ src p = 129 := by omega
    have n3 : ¬ src p = 130 := by omega
    simp only [if_pos c2, if_neg n1, if_neg n2, if_neg n3]
    by_cases c3 : p + 1 + src p ≤ en
    · simp only [if_pos c3]
      refine ⟨fun h => (by simp at h), fun q hq => ?_⟩
      injection hq with hq
      subst hq
      refine ⟨fun N => ?_, by simp, by simp; omega, fun c hc => ?_, fun h => (by simp at h)⟩
      · rw [(m_len73 hS1 (by omega) N).1 c3, ← hJ1]
        simp
      · injection hc with hc
        subst hc
        simp; omega
    · simp only [if_neg c3]
      refine ⟨fun _ => ?_, fun q hq => (by cases hq)⟩
      obtain ⟨J', h1, h2⟩ := (m_len73 (v := src p) hS1 (by omega) 0).2 c3
      exact ⟨J', fun N => h1, mBad_tr (fr' := fr) hk1 h2⟩
  simp only [if_neg c2]
  by_cases c3 : 130 < src p
  · have n2 : ¬ src p = 129 := by omega
    have n3 : ¬ src p = 130 := by omega
    simp only [if_pos c3, if_neg n2, if_neg n3]
    refine ⟨fun _ => ?_, fun q hq => (by cases hq)⟩
    obtain ⟨J', h1, h2⟩ := m_len91 (mBad_of hS1) a16 (nI (src p)) 0
    exact ⟨J', fun N => h1, mBad_tr (fr' := fr) hk1 h2⟩
  simp only [if_neg c3]
  have hn1 := m_next hS1
  by_cases c4 : src p = 129
  · simp only [if_pos c4, hn1]
    by_cases c5 : p + 1 < en
    · have hS2 := mS_pos hS1 (show p + 1 ≤ p + 2 by omega) (show p + 2 ≤ L by omega)
      have hz : zu J1 0 47 (nI (p + 2)) = zu J 0 47 (nI (p + 2)) := by rw [← hJ1, zu_same]
      have hs2 := hs (p + 1)
      simp only [if_pos c5, qb_some]
      have e2 : ∀ x, zu J1 0 47 (nI (p + 1 + 1)) = x ↔ zu J1 0 47 (nI (p + 2)) = x := fun x => Iff.rfl
      by_cases c6 : p + 2 + src (p + 1) ≤ en
      · simp only [if_pos c6]
        refine ⟨fun h => (by simp at h), fun q hq => ?_⟩
        injection hq with hq
        subst hq
        refine ⟨fun N => ?_, by simp, by simp; omega, fun c hc => ?_, fun h => (by simp at h)⟩
        · rw [(m_len73 hS2 (by omega) N).1 c6, hz]
          simp
        · injection hc with hc
          subst hc
          simp; omega
      · simp only [if_neg c6]
        refine ⟨fun _ => ?_, fun q hq => (by cases hq)⟩
        obtain ⟨J', h1, h2⟩ := (m_len73 (v := src (p + 1)) hS2 (by omega) 0).2 c6
        exact ⟨J', fun N => h1, mBad_tr (fr' := fr) (mK_trans hk1 (mK_zu (mW_f (by omega)))) h2⟩
    · have c6 : ¬ p + 2 + src (p + 1) ≤ en := by omega
      simp only [if_neg c5, if_neg c6, qb_some]
      refine ⟨fun _ => ?_, fun q hq => (by cases hq)⟩
      obtain ⟨J', h1, h2⟩ := m_len91 (mBad_zu (k := 47) (x := nI (p + 1 + 1)) (mBad_of hS1) (by omega)) a16 0 0
      exact ⟨J', fun N => h1, mBad_tr (fr' := fr) hk1 h2⟩
  · have c5 : src p = 130 := by omega
    simp only [if_neg c4, if_pos c5, hn1]
    by_cases c6 : p + 1 < en
    · have hS2 := mS_pos hS1 (show p + 1 ≤ p + 2 by omega) (show p + 2 ≤ L by omega)
      have hk2 : mK J1 (zu J1 0 47 (nI (p + 2))) := mK_zu (mW_f (by omega))
      have hn2 := m_next hS2
      simp only [if_pos c6, qb_some]
      have hn2' : ∀ N, FM_next N (zu J1 0 47 (nI (p + 1 + 1))) = _ := hn2
      simp only [hn2']
      have hs1 := hs (p + 1)
      have hs2 := hs (p + 2)
      by_cases c7 : p + 2 < en
      · have hS3 := mS_pos hS2 (show p + 2 ≤ p + 3 by omega) (show p + 3 ≤ L by omega)
        have hz : zu (zu J1 0 47 (nI (p + 2))) 0 47 (nI (p + 3)) = zu J 0 47 (nI (p + 3)) := by rw [← hJ1, zu_same, zu_same]
        have ev : (256 : Int32) * nI (src (p + 1)) + nI (src (p + 2)) = nI (256 * src (p + 1) + src (p + 2)) := by
          rw [show (256 : Int32) = nI 256 from rfl, nI_mul, nI_add]
        simp only [if_pos c7, qb_some, ev]
        by_cases c8 : p + 3 + (256 * src (p + 1) + src (p + 2)) ≤ en
        · simp only [if_pos c8]
          refine ⟨fun h => (by simp at h), fun q hq => ?_⟩
          injection hq with hq
          subst hq
          refine ⟨fun N => ?_, by simp, by simp; omega, fun c hc => ?_, fun h => (by simp at h)⟩
          · have := (m_len73 hS3 (by omega) N).1 c8
            rw [hz] at this
            refine Eq.trans ?_ (this.trans ?_)
            · rw [← hz]
            · simp
          · injection hc with hc
            subst hc
            simp; omega
        · simp only [if_neg c8]
          refine ⟨fun _ => ?_, fun q hq => (by cases hq)⟩
          obtain ⟨J', h1, h2⟩ := (m_len73 (v := 256 * src (p + 1) + src (p + 2)) hS3 (by omega) 0).2 c8
          exact ⟨J', fun N => h1, mBad_tr (fr' := fr) (mK_trans hk1 (mK_trans hk2 (mK_zu (mW_f (by omega))))) h2⟩
      · have c8 : ¬ p + 3 + (256 * src (p + 1) + src (p + 2)) ≤ en := by omega
        simp only [if_neg c7, if_neg c8, qb_some]
        refine ⟨fun _ => ?_, fun q hq => (by cases hq)⟩
        obtain ⟨J', h1, h2⟩ := m_len91 (mBad_zu (k := 47) (x := nI (p + 2 + 1)) (mBad_of hS2) (by omega)) a16 (256 * nI (src (p + 1)) + 0) 0
        exact ⟨J', fun N => h1, mBad_tr (fr' := fr) (mK_trans hk1 hk2) h2⟩
    · have c8 : ¬ p + 3 + (256 * src (p + 1) + src (p + 2)) ≤ en := by omega
      simp only [if_neg c6, if_neg c8, qb_some]
      refine ⟨fun _ => ?_, fun q hq => (by cases hq)⟩
      have hb1 := mBad_zu (k := 47) (x := nI (p + 1 + 1)) (mBad_of hS1) (by omega)
      obtain ⟨J2, g1, g2⟩ := m_nextB hb1 a16 0
      obtain ⟨J', h1, h2⟩ := m_len91 g2 a16 (256 * 0 + 0) 0
      refine ⟨J', fun N => ?_, mBad_tr (fr' := fr) hk1 h2⟩
      have g1' : ∀ N, FM_next N (zu (zu J1 0 49 0) 0 47 (nI (p + 1 + 1))) = some (0, J2) := fun N => g1
      rw [g1', qb_some]
      exact h1
