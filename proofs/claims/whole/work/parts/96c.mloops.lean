/-! THE REFERENCE reads by the open rules: ends of frames, items -/
def ceO (lo : Bool) (lim : Nat) : Option Nat := if lo = true then none else some lim
theorem cls_f (src : Nat → Nat) (lim en p : Nat) : cls src (ceO false lim) en p = if p = lim then some p else none := rfl
theorem cls_t (src : Nat → Nat) (lim en p : Nat) : cls src (ceO true lim) en p = if p + 2 ≤ en ∧ src p = 0 ∧ src (p + 1) = 0 then some (p + 2) else none := rfl
theorem m_isEnd {T J : zJ} {src : Nat → Nat} {L i o p f lim : Nat} {lo : Bool} (hs : sOK src) (hS : mS T J src L i o p (f + 1) lim) (h35 : J 35 f = bI lo) (N : Nat) : FM_isEnd N J = some ((cls src (ceO lo lim) lim p).isSome, J) := by
  have hb := m_bnd hS N
  obtain ⟨a1, a2, a3, a4, a5, a6, a7, a8, a9, a10, a11, a12, a13, a14, a15, a16⟩ := hS
  unfold FM_isEnd
  rw [a5, show nI (f + 1) - 1 = nI f from nI_subs (a := f + 1) (b := 1) (by omega), qk_t (qi_nI (by omega) (by omega)), nI_clamp (by omega), h35]
  cases lo with
  | false =>
    rw [bI_f, if_pos rfl, hb, qb_some, a2]
    simp (disch := omega) only [nI_eq]
    unfold ceO cls
    by_cases c : p = lim
    · rw [if_pos c]; simp [c]
    · rw [if_neg c]; simp [c]
  | true =>
    rw [bI_t, if_neg (by decide), hb, qb_some, a2, nI_p1]
    simp (disch := omega) only [nI_leI]
    unfold ceO cls
    have h1 := hs p
    have h2 := hs (p + 1)
    by_cases c : p + 2 ≤ lim
    · rw [if_neg (by omega), qk_t (qi_nI (by omega) (by omega)), nI_clamp (by omega), a7 p (by omega), qk_t (qi_nI (by omega) (by omega)), nI_clamp (by omega), a7 (p + 1) (by omega), show (0 : Int32) = nI 0 from rfl]
      simp (disch := omega) only [nI_eq]
      by_cases c3 : src p = 0
      · by_cases c4 : src (p + 1) = 0
        · simp [c, c3, c4]
        · simp [c3, c4]
      · simp [c3]
    · rw [if_pos (by omega)]
      simp [c]
theorem m_leave {T J : zJ} {src : Nat → Nat} {L i o p f lim : Nat} {lo : Bool} (hs : sOK src) (hS : mS T J src L i o p (f + 1) lim) (h35 : J 35 f = bI lo) :
    (cls src (ceO lo lim) lim p = none → ∃ J', (∀ N, FM_leaveFrame N J = some ((), J')) ∧ mBad J J' f) ∧ (∀ p3, cls src (ceO lo lim) lim p = some p3 → (∀ N, FM_leaveFrame N J = some ((), zu (zu J 0 47 (nI p3)) 0 48 (nI f))) ∧ p ≤ p3 ∧ p3 ≤ L) := by
  have he := m_isEnd hs hS h35
  obtain ⟨a1, a2, a3, a4, a5, a6, a7, a8, a9, a10, a11, a12, a13, a14, a15, a16⟩ := hS
  have e1 : nI (f + 1) - 1 = nI f := nI_subs (a := f + 1) (b := 1) (by omega)
  constructor
  · intro h
    refine ⟨zu (zu (zu J 0 49 0) 0 47 (nI p + if lo = true then 2 else 0)) 0 48 (nI f), fun N => ?_, ?_, zu_self _ _ _ _, mK_trans (mK_trans (mK_zu (mW_f (by omega))) (mK_zu (mW_f (by omega)))) (mK_zu (mW_f (by omega)))⟩
    · unfold FM_leaveFrame FM_leaveFrame_19 FM_leaveFrame_43
      rw [if_neg (by rw [a1]; decide), he, h, qb_some]
      simp only [Option.isSome_none, bI_f, if_true]
      rw [show zu J 0 49 0 0 48 = nI (f + 1) from by rw [zu_at, if_neg (by omega), a5], e1, qk_t (qi_nI (by omega) (by omega)), nI_clamp (by omega), show zu J 0 49 0 35 f = bI lo from by rw [zu_at, if_neg (by omega), h35], show zu J 0 49 0 0 47 = nI p from by rw [zu_at, if_neg (by omega), a2]]
      have e48 : ∀ x, zu (zu J 0 49 0) 0 47 x 0 48 = nI (f + 1) := fun x => by rw [zu_at, if_neg (by omega), zu_at, if_neg (by omega), a5]
      simp only [e48, e1]
      cases lo <;> rfl
    · rw [zu_at, if_neg (by omega), zu_at, if_neg (by omega), zu_self]
  · intro p3 h
    have hp : nI p + (if lo = true then 2 else 0) = nI p3 ∧ p ≤ p3 ∧ p3 ≤ L := by
      cases lo with
      | false =>
        rw [cls_f] at h
        obtain ⟨c, h⟩ := ite_some h
        injection h with h
        subst h
        refine ⟨?_, Nat.le_refl _, a13⟩
        rw [if_neg (by decide), Int32.add_zero]
      | true =>
        rw [cls_t] at h
        obtain ⟨c, h⟩ := ite_some h
        injection h with h
        subst h
        refine ⟨?_, by omega, by omega⟩
        rw [if_pos rfl, nI_p2]
    refine ⟨fun N => ?_, hp.2⟩
    unfold FM_leaveFrame FM_leaveFrame_19 FM_leaveFrame_43
    rw [if_neg (by rw [a1]; decide), he, h, qb_some]
    simp only [Option.isSome_some, bI_t, if_neg (show ¬ (1 : Int32) = 0 by decide)]
    rw [a5, e1, qk_t (qi_nI (by omega) (by omega)), nI_clamp (by omega), h35, a2]
    have e48 : ∀ x, zu J 0 47 x 0 48 = nI (f + 1) := fun x => by rw [zu_at, if_neg (by omega), a5]
    simp only [e48, e1]
    rw [← hp.1]
    cases lo <;> rfl
/-- the bound of the frames below -/
def mE (J : zJ) (L f en0 : Nat) : Prop := (f = 0 → en0 = L) ∧ (∀ f', f = f' + 1 → J 32 f' = nI en0) ∧ en0 ≤ L
theorem m_pop {T J : zJ} {src : Nat → Nat} {L i o p p3 f lim en0 : Nat} (hS : mS T J src L i o p (f + 1) lim) (h1 : p ≤ p3) (h2 : p3 ≤ L) (he : mE J L f en0) : mS T (zu (zu J 0 47 (nI p3)) 0 48 (nI f)) src L i o p3 f en0 ∧ mG J (zu (zu J 0 47 (nI p3)) 0 48 (nI f)) i o f := by
  obtain ⟨a1, a2, a3, a4, a5, a6, a7, a8, a9, a10, a11, a12, a13, a14, a15, a16⟩ := hS
  have hg : mG J (zu (zu J 0 47 (nI p3)) 0 48 (nI f)) i o f := mG_trans (mG_zu (mW_f (by omega)) (by omega)) (mG_zu (i := i) (o := o) (fr := f) (mW_f (by omega)) (by omega)) (by omega) (by omega) (by omega)
  refine ⟨⟨?_, ?_, ?_, ?_, zu_self _ _ _ _, ?_, fun k hk => ?_, mK_ty hg.1 a8, he.1, fun f' hf' => ?_, a11, by omega, h2, he.2.2, a15, by omega⟩, hg⟩
  · simp [zu_at, a1]
  · simp [zu_at]
  · simp [zu_at, a3]
  · simp [zu_at, a4]
  · simp [zu_at, a6]
  · simp [zu_at, a7 k hk]
  · simp [zu_at, he.2.1 f' hf']
theorem cls_ntb {src : Nat → Nat} {lo : Bool} {lim p p3 : Nat} (h : cls src (ceO lo lim) lim p = some p3) : ntb src lim p = 0 := by
  unfold ntb
  cases lo with
  | false =>
    rw [cls_f] at h
    obtain ⟨c, h⟩ := ite_some h
    rw [if_neg (by omega)]
  | true =>
    rw [cls_t] at h
    obtain ⟨c, h⟩ := ite_some h
    rw [if_pos (by omega), c.2.1]
    decide
theorem bt_tg {T : zJ} {n t : Nat} {dg : Option Nat} (hw : wfT T n t) (hd : ∀ d, dg = some d → d ≤ 9) (h9 : T 4 t ≠ 9) : bt (tgB T t dg) ≠ 0 := by
  have h1 : ∀ d : Fin 10, bt (160 + d) ≠ 0 ∧ bt (128 + d) ≠ 0 := by decide
  cases n with
  | zero => exact hw.elim
  | succ n =>
    unfold tgB
    cases dg with
    | some d =>
      have := hd d rfl
      simp only
      split
      · exact (h1 ⟨d, by omega⟩).1
      · exact (h1 ⟨d, by omega⟩).2
    | none =>
      simp only
      split
      · rename_i k10
        exact (h1 ⟨dgt T t, by have := (hw.2.2.2.2.2.2.2.1 k10).2.1; omega⟩).1
      · split
        · decide
        · rename_i k10 km
          rcases hw.2.1 with z | z | z | z | z | z | z | z
          · rw [z]; decide
          · rw [z]; decide
          · rw [z]; decide
          · rw [z]; decide
          · exact absurd (Or.inl z) km
          · exact absurd (Or.inr z) km
          · exact absurd z h9
          · exact absurd z k10
theorem hdr_ntb {s : Bool} {src : Nat → Nat} {tg en p : Nat} {made : Bool} (h0 : ntb src en p = 0) (ht : bt tg ≠ 0) : hdr s src tg made en p = none := by
  unfold hdr
  by_cases c : en < p + 2
  · rw [if_pos c]
  · rw [if_neg c, if_neg]
    intro q
    unfold ntb at h0
    rw [if_pos (by omega), q] at h0
    exact ht h0
theorem altF_0 (T : zJ) (t : Nat) : ∀ m j, altF T t 0 m j = none := by
  intro m
  induction m with
  | zero => intro j; rfl
  | succ m ih => intro j; unfold altF; rw [Int32.and_zero, if_pos rfl]; exact ih _
theorem rd_ntb {T : zJ} {src : Nat → Nat} {s : Bool} : ∀ n t t0 dg par wh i o en p, wfT T n t → (∀ d, dg = some d → d ≤ 9) → ntb src en p = 0 → rdE T src s n t t0 dg par wh i o en p = none := by
  intro n
  induction n with
  | zero => intro t t0 dg par wh i o en p h; exact h.elim
  | succ n ih =>
    intro t t0 dg par wh i o en p hw hd h0
    unfold rdE rdB
    by_cases k10 : T 4 t = 10
    · rw [if_pos k10]
      obtain ⟨w1, w2, w3, w4, w5⟩ := hw.2.2.2.2.2.2.2.1 k10
      by_cases x : isX T t = true
      · rw [if_pos x, hdr_ntb h0 (bt_tg hw hd (by rw [k10]; decide))]
        rfl
      · rw [if_neg x]
        refine ih _ _ _ _ _ _ _ _ _ w5 (fun d hq => ?_) h0
        injection hq with hq
        subst hq
        cases dg with
        | none => exact w2
        | some d => exact hd d rfl
    · rw [if_neg k10]
      by_cases k9 : T 4 t = 9
      · rw [if_pos k9, h0, altF_0]
        rfl
      · rw [if_neg k9, hdr_ntb h0 (bt_tg hw hd k9)]
        rfl
def mGh (J J' : zJ) (h i o f : Nat) : Prop := mK J J' ∧ (∀ c k, 21 ≤ c → c ≤ 25 → k < i → ¬ (c = 22 ∧ k = h) → J' c k = J c k) ∧ (∀ k, k < o → J' 28 k = J 28 k) ∧ (∀ c k, 31 ≤ c → c ≤ 35 → k < f → J' c k = J c k)
theorem mGh_of {J J' : zJ} {h i o f : Nat} (hg : mG J J' i o f) : mGh J J' h i o f := ⟨hg.1, fun c k c1 c2 hk _ => hg.2.1 c k c1 c2 hk, hg.2.2⟩
theorem mGh_trans {J J1 J2 : zJ} {h i o fr i' o' fr' : Nat} (h1 : mGh J J1 h i o fr) (h2 : mGh J1 J2 h i' o' fr') (hi : i ≤ i') (ho : o ≤ o') (hf : fr ≤ fr') : mGh J J2 h i o fr :=
  ⟨mK_trans h1.1 h2.1, fun c k c1 c2 hk hn => (h2.2.1 c k c1 c2 (by omega) hn).trans (h1.2.1 c k c1 c2 hk hn), fun k hk => (h2.2.2.1 k (by omega)).trans (h1.2.2.1 k hk), fun c k c1 c2 hk => (h2.2.2.2 c k c1 c2 (by omega)).trans (h1.2.2.2 c k c1 c2 hk)⟩
theorem mGh_num {J : zJ} {h i o f : Nat} {x : Int32} : mGh J (zu J 22 h x) h i o f := by
  refine ⟨mK_zu (mW_p (by omega)), fun c k c1 c2 hk hn => ?_, fun k hk => ?_, fun c k c1 c2 hk => ?_⟩
  · rw [zu_at, if_neg hn]
  · rw [zu_at, if_neg (by omega)]
  · rw [zu_at, if_neg (by omega)]
theorem mS_num {T J : zJ} {src : Nat → Nat} {L i o p fr en h : Nat} {x : Int32} (hS : mS T J src L i o p fr en) : mS T (zu J 22 h x) src L i o p fr en := by
  obtain ⟨a1, a2, a3, a4, a5, a6, a7, a8, a9, a10, a11⟩ := hS
  refine ⟨?_, ?_, ?_, ?_, ?_, ?_, fun k hk => ?_, mK_ty (mK_zu (mW_p (by omega))) a8, a9, fun f hf => ?_, a11⟩
  · rw [zu_at, if_neg (by omega)]; exact a1
  · rw [zu_at, if_neg (by omega)]; exact a2
  · rw [zu_at, if_neg (by omega)]; exact a3
  · rw [zu_at, if_neg (by omega)]; exact a4
  · rw [zu_at, if_neg (by omega)]; exact a5
  · rw [zu_at, if_neg (by omega)]; exact a6
  · rw [zu_at, if_neg (by omega)]; exact a7 k hk
  · rw [zu_at, if_neg (by omega)]; exact a10 f hf
theorem mH_apph {J J' : zJ} {h i o f : Nat} {l1 l2 : List Pt} (hh : h < i) (h1 : mH J i l1) (hg : mGh J J' h (i + l1.length) o f) (h2 : mH J' (i + l1.length) l2) : mH J' i (l1 ++ l2) := by
  intro k P hk
  by_cases c : k < l1.length
  · rw [List.getElem?_append_left c] at hk
    obtain ⟨a1, a2, a3, a4, a5⟩ := h1 k P hk
    refine ⟨?_, ?_, ?_, ?_, ?_⟩
    · rw [hg.2.1 21 _ (by omega) (by omega) (by omega) (by omega)]; exact a1
    · rw [hg.2.1 22 _ (by omega) (by omega) (by omega) (by omega)]; exact a2
    · rw [hg.2.1 23 _ (by omega) (by omega) (by omega) (by omega)]; exact a3
    · rw [hg.2.1 24 _ (by omega) (by omega) (by omega) (by omega)]; exact a4
    · rw [hg.2.1 25 _ (by omega) (by omega) (by omega) (by omega)]; exact a5
  · rw [List.getElem?_append_right (by omega)] at hk
    have := h2 (k - l1.length) P hk
    rw [show i + l1.length + (k - l1.length) = i + k by omega] at this
    exact this
theorem mO_apph {J J' : zJ} {h i o f : Nat} {l1 l2 : List Nat} (h1 : mO J o l1) (hg : mGh J J' h i (o + l1.length) f) (h2 : mO J' (o + l1.length) l2) : mO J' o (l1 ++ l2) := by
  intro k b hk
  by_cases c : k < l1.length
  · rw [List.getElem?_append_left c] at hk
    rw [hg.2.2.1 _ (by omega)]
    exact h1 k b hk
  · rw [List.getElem?_append_right (by omega)] at hk
    have := h2 (k - l1.length) b hk
    rw [show o + l1.length + (k - l1.length) = o + k by omega] at this
    exact this
/-- what becomes of J1 where a frame of part h is open -/
def mX (T : zJ) (src : Nat → Nat) (L : Nat) (J : zJ) (h i o p f en0 : Nat) (X : Option (Nat × Nat × Rs)) (J1 : zJ) : Prop :=
  (X = none → ∃ J2, Rch J1 J2 ∧ J2 0 49 = 0 ∧ mK J J2) ∧ (∀ x, X = some x → ∃ J2, Rch J1 J2 ∧ mGh J J2 h i o f ∧ mS T J2 src L (i + x.2.2.1.length) (o + x.2.2.2.1.length) x.1 f en0 ∧ p ≤ x.1 ∧ J2 22 h = nI x.2.1 ∧ mH J2 i x.2.2.1 ∧ mO J2 o x.2.2.2.1)
theorem mX_none {T : zJ} {src : Nat → Nat} {L : Nat} {J J1 J2 : zJ} {h i o p f en0 : Nat} (hr : Rch J1 J2) (hb : J2 0 49 = 0) (hk : mK J J2) : mX T src L J h i o p f en0 none J1 :=
  ⟨fun _ => ⟨J2, hr, hb, hk⟩, fun x hx => by cases hx⟩
theorem mX_some {T : zJ} {src : Nat → Nat} {L : Nat} {J J1 J2 : zJ} {h i o p f en0 : Nat} {x : Nat × Nat × Rs} (hr : Rch J1 J2) (h1 : mGh J J2 h i o f) (h2 : mS T J2 src L (i + x.2.2.1.length) (o + x.2.2.2.1.length) x.1 f en0) (h3 : p ≤ x.1) (h4 : J2 22 h = nI x.2.1) (h5 : mH J2 i x.2.2.1) (h6 : mO J2 o x.2.2.2.1) : mX T src L J h i o p f en0 (some x) J1 :=
  ⟨fun hx => (by cases hx), fun y hy => (by injection hy with hy; subst hy; exact ⟨J2, hr, h1, h2, h3, h4, h5, h6⟩)⟩
/-- goOn() where a frame with a part is open: the type of the part is looked up -/
theorem m_goOn {T J : zJ} {src : Nat → Nat} {L i o p f lim h t0 n0 : Nat} {lo : Bool} (hs : sOK src) (hS : mS T J src L i o p (f + 1) lim) (hF : mF J f (nI h) lo) (hh : h < 100) (h21 : J 21 h = nI t0) (hw : wfT T n0 t0) (hn : n0 ≤ 6) :
    ∃ J2, Ev (fun N => FM_goOn N J = FM_goOn_44 N (nI f) (nI h) (bI (cls src (ceO lo lim) lim p).isSome) (nI (bas T 6 t0)) J2) ∧ uKp J J2 0 ∧ J2 0 23 = nI (bas T 6 t0) := by
  obtain ⟨J2, u1, u2, u3, u4⟩ := m_unw hw hn hS.2.2.2.2.2.2.2.1
  rw [← (bas_wf n0 6 t0 hw hn).1] at u2
  refine ⟨J2, ev_mono u1 (fun N hN => ?_), u4, u2⟩
  have f100 := hS.2.2.2.2.2.2.2.2.2.2.2.2.2.2.2
  unfold FM_goOn
  rw [hS.2.2.2.2.1, show nI (f + 1) - 1 = nI f from nI_subs (a := f + 1) (b := 1) (by omega), qk_t (qi_nI (by omega) (by omega)), nI_clamp (by omega), hF.1, if_neg (by rw [show (0 : Int32) = nI 0 from rfl, nI_ltI (by omega) (by omega)]; omega), m_isEnd hs hS hF.2, qb_some]
  have h30 : ∀ x, FM_goOn_30 N (nI f) (nI h) x J = FM_goOn_44 N (nI f) (nI h) x (nI (bas T 6 t0)) J2 := by
    intro x
    unfold FM_goOn_30 FM_baseOf
    rw [if_pos (by rw [show (0 : Int32) = nI 0 from rfl, nI_leI (by omega) (by omega)]; omega), qk_t (qi_nI hh (by omega)), nI_clamp (by omega), h21, hN, qb_some, qb_some, u2]
  rw [h30, h30]
  cases (cls src (ceO lo lim) lim p).isSome <;> rfl
/-- goOn() where a frame of a tag is open -/
theorem m_goTag {T J : zJ} {src : Nat → Nat} {L i o p f lim : Nat} {lo : Bool} (hS : mS T J src L i o p (f + 1) lim) (hF : mF J f (-1) lo) (N : Nat) : FM_goOn N J = FM_leaveFrame N J := by
  have f100 := hS.2.2.2.2.2.2.2.2.2.2.2.2.2.2.2
  unfold FM_goOn FM_goOn_30 FM_goOn_44 FM_goOn_66 FM_goOn_112
  rw [hS.2.2.2.2.1, show nI (f + 1) - 1 = nI f from nI_subs (a := f + 1) (b := 1) (by omega), qk_t (qi_nI (by omega) (by omega)), nI_clamp (by omega), hF.1, if_pos (by decide), if_neg (by decide), if_pos (by decide), if_pos (by decide)]
  show qb (FM_leaveFrame N (zu J 0 49 (bI true))) (fun v3 J4 => some ((), J4)) = _
  rw [bI_t, zu_id _ 0 49 1 hS.1]
  exact qb_id _
