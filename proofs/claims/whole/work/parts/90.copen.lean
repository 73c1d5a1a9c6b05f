/-! THE CLASS reads by the open rules as the specification does: pieces -/
def sOK (src : Nat → Nat) : Prop := ∀ k, src k < 256
def cK (D D' : zJ) : Prop := ∀ c, ¬ (16 ≤ c ∧ c ≤ 24) → D' c = D c
def cS (D : zJ) (src : Nat → Nat) (st L : Nat) (s : Bool) (i o p : Nat) : Prop := D 24 2 = bI s ∧ D 24 3 = nI (st + p) ∧ D 16 0 = nI i ∧ D 16 8 = nI o ∧ (∀ k, k < L → D 6 (st + k) = nI (src k)) ∧ i ≤ 100 ∧ o ≤ p ∧ p ≤ L ∧ st + L ≤ 120
def cG (D D' : zJ) (i o : Nat) : Prop := cK D D' ∧ (∀ c k, 17 ≤ c → c ≤ 22 → k < i → D' c k = D c k) ∧ (∀ k, k < o → D' 23 k = D 23 k)
def cH (T D : zJ) (i : Nat) (l : List Pt) : Prop := ∀ k P, l[k]? = some P → D 17 (i + k) = T 4 (pB P) ∧ D 18 (i + k) = pV P ∧ D 19 (i + k) = nI (pW P) ∧ D 20 (i + k) = pA P ∧ D 21 (i + k) = nI (pF P) ∧ D 22 (i + k) = nI (pS P)
def cO (D : zJ) (o : Nat) (l : List Nat) : Prop := ∀ k b, l[k]? = some b → D 23 (o + k) = nI b
theorem cK_refl (D : zJ) : cK D D := fun _ _ => rfl
theorem cK_trans {D D1 D2 : zJ} (h1 : cK D D1) (h2 : cK D1 D2) : cK D D2 := fun c hc => (h2 c hc).trans (h1 c hc)
theorem cG_refl (D : zJ) (i o : Nat) : cG D D i o := ⟨cK_refl D, fun _ _ _ _ _ => rfl, fun _ _ => rfl⟩
theorem cG_trans {D D1 D2 : zJ} {i o i' o' : Nat} (h1 : cG D D1 i o) (h2 : cG D1 D2 i' o') (hi : i ≤ i') (ho : o ≤ o') : cG D D2 i o :=
  ⟨cK_trans h1.1 h2.1, fun c k c1 c2 hk => (h2.2.1 c k c1 c2 (by omega)).trans (h1.2.1 c k c1 c2 hk), fun k hk => (h2.2.2 k (by omega)).trans (h1.2.2 k hk)⟩
theorem cH_app {T D D' : zJ} {i o : Nat} {l1 l2 : List Pt} (h1 : cH T D i l1) (hg : cG D D' (i + l1.length) o) (h2 : cH T D' (i + l1.length) l2) : cH T D' i (l1 ++ l2) := by
  intro k P hk
  by_cases c : k < l1.length
  · rw [List.getElem?_append_left c] at hk
    obtain ⟨a1, a2, a3, a4, a5, a6⟩ := h1 k P hk
    refine ⟨?_, ?_, ?_, ?_, ?_, ?_⟩
    · rw [hg.2.1 17 _ (by omega) (by omega) (by omega)]; exact a1
    · rw [hg.2.1 18 _ (by omega) (by omega) (by omega)]; exact a2
    · rw [hg.2.1 19 _ (by omega) (by omega) (by omega)]; exact a3
    · rw [hg.2.1 20 _ (by omega) (by omega) (by omega)]; exact a4
    · rw [hg.2.1 21 _ (by omega) (by omega) (by omega)]; exact a5
    · rw [hg.2.1 22 _ (by omega) (by omega) (by omega)]; exact a6
  · rw [List.getElem?_append_right (by omega)] at hk
    have := h2 (k - l1.length) P hk
    rw [show i + l1.length + (k - l1.length) = i + k by omega] at this
    exact this
theorem cO_app {D D' : zJ} {i o : Nat} {l1 l2 : List Nat} (h1 : cO D o l1) (hg : cG D D' i (o + l1.length)) (h2 : cO D' (o + l1.length) l2) : cO D' o (l1 ++ l2) := by
  intro k b hk
  by_cases c : k < l1.length
  · rw [List.getElem?_append_left c] at hk
    rw [hg.2.2 _ (by omega)]
    exact h1 k b hk
  · rw [List.getElem?_append_right (by omega)] at hk
    have := h2 (k - l1.length) b hk
    rw [show o + l1.length + (k - l1.length) = o + k by omega] at this
    exact this
theorem cH_nil (T D : zJ) (i : Nat) : cH T D i [] := by intro k P h; simp at h
theorem cO_nil (D : zJ) (o : Nat) : cO D o [] := by intro k P h; simp at h
theorem zu_same (J : zJ) (c k : Nat) (x y : Int32) : zu (zu J c k x) c k y = zu J c k y := by
  funext a b
  rw [zu_at, zu_at, zu_at]
  by_cases h : a = c ∧ b = k
  · rw [if_pos h, if_pos h]
  · rw [if_neg h, if_neg h, if_neg h]
theorem cK_zu {D : zJ} {c k : Nat} {x : Int32} (h : 16 ≤ c ∧ c ≤ 24) : cK D (zu D c k x) := by
  intro c' hc
  rw [zu_ne _ _ _ (by omega)]
theorem cG_pos (D : zJ) (x : Int32) (i o : Nat) : cG D (zu D 24 3 x) i o := by
  refine ⟨cK_zu (by omega), fun c k c1 c2 hk => ?_, fun k hk => ?_⟩
  · rw [zu_at, if_neg (by omega)]
  · rw [zu_at, if_neg (by omega)]
theorem cS_pos {D : zJ} {src : Nat → Nat} {st L : Nat} {s : Bool} {i o p p1 : Nat} (h : cS D src st L s i o p) (h1 : p ≤ p1) (h2 : p1 ≤ L) : cS (zu D 24 3 (nI (st + p1))) src st L s i o p1 := by
  obtain ⟨a1, a2, a3, a4, a5, a6, a7, a8, a9⟩ := h
  refine ⟨?_, zu_self _ _ _ _, ?_, ?_, fun k hk => ?_, a6, by omega, h2, a9⟩
  · rw [zu_at, if_neg (by omega)]; exact a1
  · rw [zu_at, if_neg (by omega)]; exact a3
  · rw [zu_at, if_neg (by omega)]; exact a4
  · rw [zu_at, if_neg (by omega)]; exact a5 k hk
theorem fbt0 (N : Nat) (x : Int32) : FO_tagBitOf N x = FO_tagBitOf 0 x := rfl
theorem fbt_all : ∀ b : Fin 256, FO_tagBitOf 0 (nI b) = some (cTag (bt b)) := by decide +kernel
theorem c_ntb {D : zJ} {src : Nat → Nat} {st L : Nat} {s : Bool} {i o p en : Nat} (hs : sOK src) (h : cS D src st L s i o p) (he : en ≤ L) (N : Nat) (M : zM) : FO_nextTagBit N M (nI (st + en)) D = some (cTag (ntb src en p), D) := by
  obtain ⟨a1, a2, a3, a4, a5, a6, a7, a8, a9⟩ := h
  unfold FO_nextTagBit ntb
  rw [a2]
  simp (disch := omega) only [nI_leI]
  by_cases c : p < en
  · rw [if_neg (by omega), qk_t (qi_nI (by omega) (by omega)), nI_clamp (by omega), a5 p (by omega), fbt0, fbt_all ⟨src p, hs p⟩, if_pos c]
    rfl
  · rw [if_pos (by omega), if_neg c]
    rfl
theorem sh831 : (8 &&& 31 : Int32) = 8 := by decide
theorem c_long1 {D : zJ} {a e : Nat} (h2 : D 24 2 = 0) (h3 : D 24 3 = nI a) (ha : a < 120) (he : a + 1 ≤ e) (he2 : e < 2 ^ 31) (M : zM) : Ev (fun N => FO_readLongLength N M 1 (nI e) D = some (D 6 a, zu D 24 3 (nI (a + 1)))) := by
  refine ⟨2, fun N hN => ?_⟩
  obtain ⟨k, rfl⟩ : ∃ k, N = k + 2 := ⟨N - 2, by omega⟩
  unfold FO_readLongLength
  rw [if_pos h2, if_neg (by decide), h3, nI_p1, if_pos ((nI_leI (by omega) (by omega)).mpr he)]
  simp only [qfix, FO_readLongLength_29]
  rw [if_neg (by decide), h3, qk_t (qi_nI ha (by omega)), nI_clamp (by omega), nI_p1, if_pos (by decide), sh831]
  rw [show ((0 : Int32) <<< (8 : Int32)) = 0 from by decide, Int32.zero_or]
theorem c_long2 {D : zJ} {a e : Nat} (h2 : D 24 2 = 0) (h3 : D 24 3 = nI a) (ha : a + 1 < 120) (he : a + 2 ≤ e) (he2 : e < 2 ^ 31) (M : zM) : Ev (fun N => FO_readLongLength N M 2 (nI e) D = some ((D 6 a <<< (8 : Int32)) ||| D 6 (a + 1), zu D 24 3 (nI (a + 2)))) := by
  refine ⟨3, fun N hN => ?_⟩
  obtain ⟨k, rfl⟩ : ∃ k, N = k + 3 := ⟨N - 3, by omega⟩
  unfold FO_readLongLength
  rw [if_pos h2, if_neg (by decide), h3, nI_p2, if_pos ((nI_leI (by omega) (by omega)).mpr he)]
  simp only [qfix, FO_readLongLength_29]
  rw [if_neg (by decide), h3, qk_t (qi_nI (by omega) (by omega)), nI_clamp (by omega), nI_p1, if_neg (by decide), sh831]
  rw [show ((0 : Int32) <<< (8 : Int32)) = 0 from by decide, Int32.zero_or, zu_self, qk_t (qi_nI ha (by omega)), nI_clamp (by omega), if_pos (by decide), nI_p1, zu_same]
  rw [zu_at, if_neg (by omega)]
def ceI (st : Nat) (ce : Option Nat) : Int32 := match ce with
  | some c => nI (st + c)
  | none => -2
theorem c_h98 {D : zJ} {a e v : Nat} (h3 : D 24 3 = nI a) (ha : a ≤ e) (he : e < 120 ∨ e = 120) (hv : v < 65536) (N : Nat) (M : zM) : FO_readHeader_98 N M (nI e) (nI v) D = if a + v ≤ e then some (nI (a + v), D) else some (-1, D) := by
  unfold FO_readHeader_98
  rw [if_neg (nI_n1 (by omega)), h3, nI_subs ha, nI_add]
  simp (disch := omega) only [nI_leI]
  by_cases c : a + v ≤ e
  · rw [if_pos c, if_pos (by omega)]
  · rw [if_neg c, if_neg (by omega)]
theorem c_hdr0 {D : zJ} {src : Nat → Nat} {st L : Nat} {s : Bool} {i o p en tg : Nat} {made : Bool} (hs : sOK src) (h : cS D src st L s i o p) (he : en ≤ L) (htg : tg < 256) (M : zM) (N : Nat) : FO_readHeader N M (nI tg) (bI made) (nI (st + en)) D = if en < p + 2 then some (-1, D) else if src p = tg then (if src (p + 1) = 128 then (if made = true ∧ s = false then some (-2, zu D 24 3 (nI (st + (p + 2)))) else some (-1, zu D 24 3 (nI (st + (p + 2))))) else if src (p + 1) < 128 then FO_readHeader_98 N M (nI (st + en)) (nI (src (p + 1))) (zu D 24 3 (nI (st + (p + 2)))) else qb (FO_readLongLength N M (nI (src (p + 1) - 128)) (nI (st + en)) (zu D 24 3 (nI (st + (p + 2))))) fun v5 J6 => FO_readHeader_98 N M (nI (st + en)) v5 J6) else some (-1, D) := by
  obtain ⟨a1, a2, a3, a4, a5, a6, a7, a8, a9⟩ := h
  unfold FO_readHeader
  have hsp := hs p
  have hsq := hs (p + 1)
  rw [a2, nI_p2, nI_p1, Nat.add_assoc, Nat.add_assoc]
  simp (disch := omega) only [nI_ltI]
  by_cases c0 : en < p + 2
  · rw [if_pos c0, if_pos (by omega)]
  rw [if_neg c0, if_neg (by omega), qk_t (qi_nI (k := st + p) (by omega) (by omega)), nI_clamp (by omega), a5 p (by omega)]
  simp (disch := omega) only [nI_eq]
  by_cases c1 : src p = tg
  case neg => rw [if_neg c1, if_neg c1]
  rw [if_pos c1, if_pos c1, qk_t (qi_nI (k := st + (p + 1)) (by omega) (by omega)), nI_clamp (by omega), a5 (p + 1) (by omega)]
  have e128 : (128 : Int32) = nI 128 := rfl
  rw [e128]
  simp (disch := omega) only [nI_eq, nI_leI]
  by_cases c2 : src (p + 1) = 128
  · rw [if_pos c2, if_pos c2]
    rw [show (zu D 24 3 (nI (st + (p + 2)))) 24 2 = D 24 2 from by rw [zu_at, if_neg (by omega)], a1]
    cases made <;> cases s <;> rfl
  rw [if_neg c2, if_neg c2]
  by_cases c3 : src (p + 1) < 128
  · rw [if_pos c3, if_neg (by omega)]
  · rw [if_neg c3, if_pos (by omega), nI_subs (by omega)]
theorem c_hdr {D : zJ} {src : Nat → Nat} {st L : Nat} {s : Bool} {i o p en tg : Nat} {made : Bool} (hs : sOK src) (h : cS D src st L s i o p) (he : en ≤ L) (htg : tg < 256) (M : zM) :
    (hdr s src tg made en p = none → ∃ D', Ev (fun N => FO_readHeader N M (nI tg) (bI made) (nI (st + en)) D = some (-1, D')) ∧ ∀ c, c ≠ 24 → D' c = D c) ∧
    (∀ q, hdr s src tg made en p = some q → Ev (fun N => FO_readHeader N M (nI tg) (bI made) (nI (st + en)) D = some (ceI st q.2, zu D 24 3 (nI (st + q.1)))) ∧ p + 2 ≤ q.1 ∧ q.1 ≤ en ∧ (∀ c, q.2 = some c → q.1 ≤ c ∧ c ≤ en) ∧ (q.2 = none → made = true ∧ s = false)) := by
  simp only [c_hdr0 hs h he htg]
  obtain ⟨a1, a2, a3, a4, a5, a6, a7, a8, a9⟩ := h
  have hD : ∀ x, ∀ c, c ≠ 24 → zu D 24 3 x c = D c := fun x c hc => zu_ne _ _ _ hc
  unfold hdr
  by_cases c0 : en < p + 2
  · simp only [if_pos c0]
    exact ⟨fun _ => ⟨D, ev_of (fun N => rfl), fun _ _ => rfl⟩, fun q hq => by cases hq⟩
  simp only [if_neg c0]
  have hsp := hs p
  have hsq := hs (p + 1)
  by_cases c1 : src p = tg
  case neg =>
    simp only [if_neg c1]
    exact ⟨fun _ => ⟨D, ev_of (fun N => rfl), fun _ _ => rfl⟩, fun q hq => by cases hq⟩
  simp only [if_pos c1]
  by_cases c2 : src (p + 1) = 128
  · simp only [if_pos c2]
    by_cases c3 : made = true ∧ s = false
    · simp only [if_pos c3]
      refine ⟨fun h => by simp at h, fun q hq => ?_⟩
      injection hq with hq
      subst hq
      exact ⟨ev_of (fun N => rfl), by simp, by simp; omega, fun c hc => by simp at hc, fun _ => c3⟩
    · simp only [if_neg c3]
      exact ⟨fun _ => ⟨_, ev_of (fun N => rfl), hD _⟩, fun q hq => by simp at hq⟩
  simp only [if_neg c2]
  have p2 : (zu D 24 3 (nI (st + (p + 2)))) 24 3 = nI (st + (p + 2)) := zu_self _ _ _ _
  by_cases c3 : src (p + 1) < 128
  · simp only [if_pos c3]
    simp only [c_h98 p2 (show st + (p + 2) ≤ st + en by omega) (by omega) (show src (p + 1) < 65536 by omega)]
    by_cases c4 : p + 2 + src (p + 1) ≤ en
    · have c5 : st + (p + 2) + src (p + 1) ≤ st + en := by omega
      simp only [if_pos c4, if_pos c5]
      refine ⟨fun h => by simp at h, fun q hq => ?_⟩
      injection hq with hq
      subst hq
      refine ⟨ev_of (fun N => ?_), by simp, by simp; omega, ?_, fun h => by simp at h⟩
      · simp only [ceI]
        rw [Nat.add_assoc]
      · intro c hc
        injection hc with hc
        subst hc
        simp
        omega
    · have c5 : ¬ st + (p + 2) + src (p + 1) ≤ st + en := by omega
      simp only [if_neg c4, if_neg c5]
      exact ⟨fun _ => ⟨_, ev_of (fun N => rfl), hD _⟩, fun q hq => by simp at hq⟩
  simp only [if_neg c3]
  have p1 : (zu D 24 3 (nI (st + (p + 2)))) 24 2 = bI s := by rw [zu_at, if_neg (by omega)]; exact a1
  have b6 : ∀ k, k < L → (zu D 24 3 (nI (st + (p + 2)))) 6 (st + k) = nI (src k) := fun k hk => by rw [zu_at, if_neg (by omega)]; exact a5 k hk
  have hz : ∀ x, zu (zu D 24 3 (nI (st + (p + 2)))) 24 3 x = zu D 24 3 x := fun x => zu_same _ _ _ _ _
  have hd1 := hD (nI (st + (p + 2)))
  generalize zu D 24 3 (nI (st + (p + 2))) = D1 at *
  by_cases c4 : s = true ∨ 130 < src (p + 1)
  · simp only [if_pos c4]
    refine ⟨fun _ => ⟨D1, ev_of (fun N => ?_), hd1⟩, fun q hq => by simp at hq⟩
    unfold FO_readLongLength
    rw [p1]
    cases s
    · rw [bI_f, if_pos rfl, if_pos (by rw [show (2 : Int32) = nI 2 from rfl, nI_ltI (by omega) (by omega)]; simp at c4; omega)]
      rfl
    · rfl
  simp only [if_neg c4]
  have s0 : s = false := by cases s <;> simp at c4 ⊢
  subst s0
  by_cases c5 : src (p + 1) = 129
  · simp only [if_pos c5]
    rw [c5]
    have e1 : nI (129 - 128) = 1 := rfl
    simp only [e1]
    by_cases c6 : p + 3 ≤ en
    · have h1 := c_long1 p1 p2 (show st + (p + 2) < 120 by omega) (e := st + en) (by omega) (by omega) M
      rw [b6 (p + 2) (by omega), hz] at h1
      have hs2 := hs (p + 2)
      have p3 : zu D 24 3 (nI (st + (p + 2) + 1)) 24 3 = nI (st + (p + 3)) := by rw [zu_self]; rfl
      have h2 : Ev (fun N => qb (FO_readLongLength N M 1 (nI (st + en)) D1) (fun v5 J6 => FO_readHeader_98 N M (nI (st + en)) v5 J6) = if st + (p + 3) + src (p + 2) ≤ st + en then some (nI (st + (p + 3) + src (p + 2)), zu D 24 3 (nI (st + (p + 2) + 1))) else some (-1, zu D 24 3 (nI (st + (p + 2) + 1)))) := by
        refine ev_mono h1 (fun N h => ?_)
        rw [h, qb_some, c_h98 p3 (by omega) (by omega) (by omega)]
      by_cases c7 : p + 3 + src (p + 2) ≤ en
      · have c8 : st + (p + 3) + src (p + 2) ≤ st + en := by omega
        simp only [if_pos c7]
        rw [if_pos c8] at h2
        refine ⟨fun h => by simp at h, fun q hq => ?_⟩
        injection hq with hq
        subst hq
        refine ⟨?_, by simp, by simp; omega, ?_, fun h => by simp at h⟩
        · rw [Nat.add_assoc] at h2
          exact h2
        · intro c hc
          injection hc with hc
          subst hc
          simp
          omega
      · have c8 : ¬ st + (p + 3) + src (p + 2) ≤ st + en := by omega
        simp only [if_neg c7]
        rw [if_neg c8] at h2
        exact ⟨fun _ => ⟨_, h2, hD _⟩, fun q hq => by simp at hq⟩
    · have c7 : ¬ p + 3 + src (p + 2) ≤ en := by omega
      simp only [if_neg c7]
      refine ⟨fun _ => ⟨D1, ev_of (fun N => ?_), hd1⟩, fun q hq => by simp at hq⟩
      unfold FO_readLongLength
      rw [p1, bI_f, if_pos rfl, if_neg (by decide), p2, nI_p1, if_neg (by rw [nI_leI (by omega) (by omega)]; omega)]
      rfl
  · simp only [if_neg c5]
    have c130 : src (p + 1) = 130 := by simp at c4; omega
    rw [c130]
    have e1 : nI (130 - 128) = 2 := rfl
    simp only [e1]
    by_cases c6 : p + 4 ≤ en
    · have h1 := c_long2 p1 p2 (show st + (p + 2) + 1 < 120 by omega) (e := st + en) (by omega) (by omega) M
      rw [Nat.add_assoc st, b6 (p + 2) (by omega), b6 (p + 2 + 1) (by omega), hz, show p + 2 + 1 = p + 3 from rfl] at h1
      have hs2 := hs (p + 2)
      have hs3 := hs (p + 3)
      rw [show (8 : Int32) = nI 8 from rfl, nI_shl (by omega), nI_or (by omega) (by omega), n_or (by omega)] at h1
      have p3 : zu D 24 3 (nI (st + (p + 2) + 2)) 24 3 = nI (st + (p + 4)) := by rw [zu_self]; rfl
      have h2 : Ev (fun N => qb (FO_readLongLength N M 2 (nI (st + en)) D1) (fun v5 J6 => FO_readHeader_98 N M (nI (st + en)) v5 J6) = if st + (p + 4) + (256 * src (p + 2) + src (p + 3)) ≤ st + en then some (nI (st + (p + 4) + (256 * src (p + 2) + src (p + 3))), zu D 24 3 (nI (st + (p + 2) + 2))) else some (-1, zu D 24 3 (nI (st + (p + 2) + 2)))) := by
        refine ev_mono h1 (fun N h => ?_)
        rw [h, qb_some, show src (p + 2) * 2 ^ 8 + src (p + 3) = 256 * src (p + 2) + src (p + 3) by omega, c_h98 p3 (by omega) (by omega) (by omega)]
      by_cases c7 : p + 4 + (256 * src (p + 2) + src (p + 3)) ≤ en
      · have c8 : st + (p + 4) + (256 * src (p + 2) + src (p + 3)) ≤ st + en := by omega
        simp only [if_pos c7]
        rw [if_pos c8] at h2
        refine ⟨fun h => by simp at h, fun q hq => ?_⟩
        injection hq with hq
        subst hq
        refine ⟨?_, by simp, by simp; omega, ?_, fun h => by simp at h⟩
        · rw [Nat.add_assoc] at h2
          exact h2
        · intro c hc
          injection hc with hc
          subst hc
          simp
          omega
      · have c8 : ¬ st + (p + 4) + (256 * src (p + 2) + src (p + 3)) ≤ st + en := by omega
        simp only [if_neg c7]
        rw [if_neg c8] at h2
        exact ⟨fun _ => ⟨_, h2, hD _⟩, fun q hq => by simp at hq⟩
    · have c7 : ¬ p + 4 + (256 * src (p + 2) + src (p + 3)) ≤ en := by omega
      simp only [if_neg c7]
      refine ⟨fun _ => ⟨D1, ev_of (fun N => ?_), hd1⟩, fun q hq => by simp at hq⟩
      unfold FO_readLongLength
      rw [p1, bI_f, if_pos rfl, if_neg (by decide), p2, nI_p2, if_neg (by rw [nI_leI (by omega) (by omega)]; omega)]
      rfl
