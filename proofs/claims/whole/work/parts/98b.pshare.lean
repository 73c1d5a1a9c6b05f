/-! THE CLASS reads packed bits: what it shares with the other reader (tools/genP.py) -/
def kpS (D : zJ) (src : Nat → Nat) (st L : Nat) (i o p : Nat) : Prop := D 25 3 = nI (8 * (st + L)) ∧ D 25 2 = nI (8 * st + p) ∧ D 16 0 = nI i ∧ D 16 8 = nI o ∧ (∀ k, k < L → D 6 (st + k) = nI (src k)) ∧ i ≤ 100 ∧ 8 * o ≤ p ∧ p ≤ 8 * L ∧ st + L ≤ 120
def kpK (D D' : zJ) : Prop := ∀ c, ¬ (16 ≤ c ∧ c ≤ 25) → D' c = D c
def kpG (D D' : zJ) (i o : Nat) : Prop := kpK D D' ∧ (∀ c k, 17 ≤ c → c ≤ 22 → k < i → D' c k = D c k) ∧ (∀ k, k < o → D' 23 k = D 23 k)
theorem kpK_refl (D : zJ) : kpK D D := fun _ _ => rfl
theorem kpK_trans {D D1 D2 : zJ} (h1 : kpK D D1) (h2 : kpK D1 D2) : kpK D D2 := fun c hc => (h2 c hc).trans (h1 c hc)
theorem kpG_refl (D : zJ) (i o : Nat) : kpG D D i o := ⟨kpK_refl D, fun _ _ _ _ _ => rfl, fun _ _ => rfl⟩
theorem kpG_trans {D D1 D2 : zJ} {i o i' o' : Nat} (h1 : kpG D D1 i o) (h2 : kpG D1 D2 i' o') (hi : i ≤ i') (ho : o ≤ o') : kpG D D2 i o :=
  ⟨kpK_trans h1.1 h2.1, fun c k c1 c2 hk => (h2.2.1 c k c1 c2 (by omega)).trans (h1.2.1 c k c1 c2 hk), fun k hk => (h2.2.2 k (by omega)).trans (h1.2.2 k hk)⟩
theorem kpH_app {T D D' : zJ} {i o : Nat} {l1 l2 : List Pt} (h1 : cH T D i l1) (hg : kpG D D' (i + l1.length) o) (h2 : cH T D' (i + l1.length) l2) : cH T D' i (l1 ++ l2) := by
  intro k P hk
  by_cases c : k < l1.length
  · rw [List.getElem?_append_left c] at hk
    obtain ⟨a1, a2, a3, a4, a5, a6⟩ := h1 k P hk
    refine ⟨?_, ?_, ?_, ?_, ?_, ?_⟩
    · rw [hg.2.1 17 _ (by omega) (by omega) (by omega)]; exact a1
    · rw [hg.2.1 18 _ (by omega) (by omega) (by omega)]; exact a2
    · rw [hg.2.1 19 _ (by omega) (by omega) (by omega)]; exact a3
    · rw [hg.2.1 20 _ (by omega) (by omega) (by omega)]; exact a4
    · rw [hg.2.1 21 _ (by omega) (by omega) (by omega)]; exact a5
    · rw [hg.2.1 22 _ (by omega) (by omega) (by omega)]; exact a6
  · rw [List.getElem?_append_right (by omega)] at hk
    have := h2 (k - l1.length) P hk
    rw [show i + l1.length + (k - l1.length) = i + k by omega] at this
    exact this
theorem kpO_app {D D' : zJ} {i o : Nat} {l1 l2 : List Nat} (h1 : cO D o l1) (hg : kpG D D' i (o + l1.length)) (h2 : cO D' (o + l1.length) l2) : cO D' o (l1 ++ l2) := by
  intro k b hk
  by_cases c : k < l1.length
  · rw [List.getElem?_append_left c] at hk
    rw [hg.2.2 _ (by omega)]
    exact h1 k b hk
  · rw [List.getElem?_append_right (by omega)] at hk
    have := h2 (k - l1.length) b hk
    rw [show o + l1.length + (k - l1.length) = o + k by omega] at this
    exact this
theorem kpK_zu {D : zJ} {c k : Nat} {x : Int32} (h : 16 ≤ c ∧ c ≤ 25) : kpK D (zu D c k x) := by
  intro c' hc
  rw [zu_ne _ _ _ (by omega)]
theorem kpG_zu {D : zJ} {c k i o : Nat} {x : Int32} (h : (c = 16) ∨ (c = 24) ∨ (c = 25) ∨ (17 ≤ c ∧ c ≤ 22 ∧ i ≤ k) ∨ (c = 23 ∧ o ≤ k)) : kpG D (zu D c k x) i o := by
  refine ⟨kpK_zu (by omega), fun c' k' c1 c2 hk => ?_, fun k' hk => ?_⟩
  · rw [zu_at, if_neg (by omega)]
  · rw [zu_at, if_neg (by omega)]
theorem kp_add {D : zJ} {src : Nat → Nat} {st L : Nat} {i o p : Nat} (h : kpS D src st L i o p) (hi : i < 100) (kd par : Int32) (wh : Nat) : ∃ D1, (∀ N M, FV_addPart N M 16 kd par (nI wh) D = some (nI i, D1)) ∧ kpG D D1 i o ∧ kpS D1 src st L (i + 1) o p ∧ cA D1 i kd par wh o := by
  obtain ⟨a1, a2, a3, a4, a5, a6, a7, a8, a9⟩ := h
  refine ⟨zu (zu (zu (zu (zu (zu (zu D 16 0 (nI (i + 1))) 17 i kd) 18 i 0) 19 i (nI wh)) 20 i par) 21 i (nI o)) 22 i 0, fun N M => ?_, ?_, ?_, ?_⟩
  · unfold FV_addPart
    rw [a3, if_pos (by rw [show (100 : Int32) = nI 100 from rfl, nI_ltI (by omega) (by omega)]; exact hi)]
    simp only [qk_t (qi_nI hi (show 100 < 2 ^ 31 by omega)), nI_clamp (show i < 2 ^ 31 by omega), nI_p1]
    simp [zu_at, a4]
  · refine kpG_trans (kpG_trans (kpG_trans (kpG_trans (kpG_trans (kpG_trans (kpG_zu (by omega)) (kpG_zu (i := i) (o := o) (by omega)) (by omega) (by omega)) (kpG_zu (i := i) (o := o) (by omega)) (by omega) (by omega)) (kpG_zu (i := i) (o := o) (by omega)) (by omega) (by omega)) (kpG_zu (i := i) (o := o) (by omega)) (by omega) (by omega)) (kpG_zu (i := i) (o := o) (by omega)) (by omega) (by omega)) (kpG_zu (i := i) (o := o) (by omega)) (by omega) (by omega)
  · refine ⟨?_, ?_, ?_, ?_, fun k hk => ?_, by omega, a7, a8, a9⟩ <;> simp [zu_at, a1, a2, a4]
    exact a5 k hk
  · simp [cA, zu_at]
theorem kp_add0 {D : zJ} {src : Nat → Nat} {st L : Nat} {i o p : Nat} (h : kpS D src st L i o p) (hi : ¬ i < 100) (kd par w : Int32) (N : Nat) (M : zM) : FV_addPart N M 16 kd par w D = some (-1, D) := by
  unfold FV_addPart
  have := h.2.2.2.2.2.1
  rw [h.2.2.1, if_neg (by rw [show (100 : Int32) = nI 100 from rfl, nI_ltI (by omega) (by omega)]; exact hi)]
def kpGh (D D' : zJ) (h i o : Nat) : Prop := kpK D D' ∧ (∀ c k, 17 ≤ c → c ≤ 22 → k < i → ¬ ((c = 18 ∨ c = 22) ∧ k = h) → D' c k = D c k) ∧ (∀ k, k < o → D' 23 k = D 23 k)
theorem kpGh_of {D D' : zJ} {h i o : Nat} (hg : kpG D D' i o) : kpGh D D' h i o := ⟨hg.1, fun c k c1 c2 hk _ => hg.2.1 c k c1 c2 hk, hg.2.2⟩
theorem kpGh_trans {D D1 D2 : zJ} {h i o i' o' : Nat} (h1 : kpGh D D1 h i o) (h2 : kpGh D1 D2 h i' o') (hi : i ≤ i') (ho : o ≤ o') : kpGh D D2 h i o :=
  ⟨kpK_trans h1.1 h2.1, fun c k c1 c2 hk hn => (h2.2.1 c k c1 c2 (by omega) hn).trans (h1.2.1 c k c1 c2 hk hn), fun k hk => (h2.2.2 k (by omega)).trans (h1.2.2 k hk)⟩
theorem kpGh_zu {D : zJ} {k h i o c : Nat} {x : Int32} (hc : ((c = 18 ∨ c = 22) ∧ k = h) ∨ (c = 16) ∨ (17 ≤ c ∧ c ≤ 22 ∧ i ≤ k)) : kpGh D (zu D c k x) h i o := by
  refine ⟨kpK_zu (by omega), fun c' k' c1 c2 hk hn => ?_, fun k' hk => ?_⟩
  · rw [zu_at, if_neg (by omega)]
  · rw [zu_at, if_neg (by omega)]
theorem kpH_apph {T D D' : zJ} {h i o : Nat} {l1 l2 : List Pt} (hh : h < i) (h1 : cH T D i l1) (hg : kpGh D D' h (i + l1.length) o) (h2 : cH T D' (i + l1.length) l2) : cH T D' i (l1 ++ l2) := by
  intro k P hk
  by_cases c : k < l1.length
  · rw [List.getElem?_append_left c] at hk
    obtain ⟨a1, a2, a3, a4, a5, a6⟩ := h1 k P hk
    refine ⟨?_, ?_, ?_, ?_, ?_, ?_⟩
    · rw [hg.2.1 17 _ (by omega) (by omega) (by omega) (by omega)]; exact a1
    · rw [hg.2.1 18 _ (by omega) (by omega) (by omega) (by omega)]; exact a2
    · rw [hg.2.1 19 _ (by omega) (by omega) (by omega) (by omega)]; exact a3
    · rw [hg.2.1 20 _ (by omega) (by omega) (by omega) (by omega)]; exact a4
    · rw [hg.2.1 21 _ (by omega) (by omega) (by omega) (by omega)]; exact a5
    · rw [hg.2.1 22 _ (by omega) (by omega) (by omega) (by omega)]; exact a6
  · rw [List.getElem?_append_right (by omega)] at hk
    have := h2 (k - l1.length) P hk
    rw [show i + l1.length + (k - l1.length) = i + k by omega] at this
    exact this
theorem kpO_apph {D D' : zJ} {h i o : Nat} {l1 l2 : List Nat} (h1 : cO D o l1) (hg : kpGh D D' h i (o + l1.length)) (h2 : cO D' (o + l1.length) l2) : cO D' o (l1 ++ l2) := by
  intro k b hk
  by_cases c : k < l1.length
  · rw [List.getElem?_append_left c] at hk
    rw [hg.2.2 _ (by omega)]
    exact h1 k b hk
  · rw [List.getElem?_append_right (by omega)] at hk
    have := h2 (k - l1.length) b hk
    rw [show o + l1.length + (k - l1.length) = o + k by omega] at this
    exact this
theorem kpS_zu {D : zJ} {src : Nat → Nat} {st L : Nat} {i o p c k : Nat} {x : Int32} (h : kpS D src st L i o p) (hc : 17 ≤ c ∧ c ≤ 22) : kpS (zu D c k x) src st L i o p := by
  obtain ⟨a1, a2, a3, a4, a5, a6, a7, a8, a9⟩ := h
  refine ⟨?_, ?_, ?_, ?_, fun k' hk => ?_, a6, a7, a8, a9⟩
  · rw [zu_at, if_neg (by omega)]; exact a1
  · rw [zu_at, if_neg (by omega)]; exact a2
  · rw [zu_at, if_neg (by omega)]; exact a3
  · rw [zu_at, if_neg (by omega)]; exact a4
  · rw [zu_at, if_neg (by omega)]; exact a5 k' hk
theorem kp_leave {M : zM} {T D : zJ} {src : Nat → Nat} {st L : Nat} {n a b u i o p h j num sh : Nat} {gv : Int32} (hw : wfT T n u) (hr : rep M T n a u) (hn : n ≤ 6) (hc : kpS D src st L i o p) (hh : h < i) (hb : zsh M b = some (.inl 1)) (b0 : zr M b 0 = some a) (b1 : zi M b 1 = nI j) (b2 : zi M b 2 = 2) (b3 : zi M b 3 = gv) (n1 : D 18 h = nI num) (n2 : D 22 h = nI sh) :
    (i < 100 → ∃ D1, Ev (fun N => FV_leaveOutComponent N M 16 (some b) (nI h) D = some (true, D1)) ∧ kpGh D D1 h i o ∧ kpS D1 src st L (i + 1) o p ∧ cH T D1 i [mkP u (bas T 6 u) gv j (nI h) o 0 1] ∧ D1 18 h = nI (num + 1) ∧ D1 22 h = nI sh) ∧
    (¬ i < 100 → Ev (fun N => FV_leaveOutComponent N M 16 (some b) (nI h) D = some (false, D))) := by
  have hu := c_untag' hw hr hn
  obtain ⟨e1, e2, _⟩ := rep_sh hr
  have i100 := hc.2.2.2.2.2.1
  constructor
  · intro hi
    obtain ⟨D1, d1, d2, d3, d4, d5, d6, d7, d8, d9⟩ := kp_add hc hi (T 4 (bas T 6 u)) (nI h) j
    refine ⟨zu (zu D1 18 i gv) 18 h (nI (num + 1)), ev_mono hu (fun N hN => ?_), ?_, kpS_zu (kpS_zu d3 (by omega)) (by omega), cH_one ?_ ?_ ?_ ?_ ?_ ?_, zu_self _ _ _ _, ?_⟩
    · obtain ⟨b', u1, u2, u3⟩ := hN
      unfold FV_leaveOutComponent
      rw [qo_s rfl hb, b2, if_pos rfl, qo_s rfl hb, b0, if_neg (by simp), qo_s rfl hb, b0, qo_s rfl e1, u1, qc_some, qo_s rfl u2, qo_s rfl hb, u3, b1, d1, qb_some, if_neg (nI_n1 (by omega)), qo_s rfl hb, qk_t (qi_nI (by omega) (by omega)), nI_clamp (by omega), b3, qk_t (qi_nI (by omega) (by omega)), qk_t (qi_nI (by omega) (by omega)), nI_clamp (by omega)]
      simp only
      rw [zu_at, if_neg (by omega), d2.2.1 18 h (by omega) (by omega) hh, n1, nI_p1]
    · exact kpGh_trans (kpGh_trans (kpGh_of d2) (kpGh_zu (i := i) (o := o) (by omega)) (Nat.le_refl _) (Nat.le_refl _)) (kpGh_zu (i := i) (o := o) (by omega)) (Nat.le_refl _) (Nat.le_refl _)
    · rw [zu_at, if_neg (by omega), zu_at, if_neg (by omega)]; exact d4
    · rw [zu_at, if_neg (by omega), zu_self]
    · rw [zu_at, if_neg (by omega), zu_at, if_neg (by omega)]; exact d6
    · rw [zu_at, if_neg (by omega), zu_at, if_neg (by omega)]; exact d7
    · rw [zu_at, if_neg (by omega), zu_at, if_neg (by omega)]; exact d8
    · rw [zu_at, if_neg (by omega), zu_at, if_neg (by omega)]; exact d9
    · rw [zu_at, if_neg (by omega), zu_at, if_neg (by omega), d2.2.1 22 h (by omega) (by omega) hh, n2]
  · intro hi
    refine ev_mono hu (fun N hN => ?_)
    obtain ⟨b', u1, u2, u3⟩ := hN
    unfold FV_leaveOutComponent
    rw [qo_s rfl hb, b2, if_pos rfl, qo_s rfl hb, b0, if_neg (by simp), qo_s rfl hb, b0, qo_s rfl e1, u1, qc_some, qo_s rfl u2, qo_s rfl hb, u3, b1, kp_add0 hc hi, qb_some, if_pos rfl]
theorem kp_take {M : zM} {D : zJ} {src : Nat → Nat} {st L : Nat} {b i i' o p h j num sh : Nat} {fl gv : Int32} (hc : kpS D src st L i' o p) (hi : i < i') (hh : h < i) (hb : zsh M b = some (.inl 1)) (b1 : zi M b 1 = nI j) (b2 : zi M b 2 = fl) (b3 : fl = 2 → zi M b 3 = gv) (n1 : D 18 h = nI num) (n2 : D 22 h = nI sh) (hj : j < 6) (hsh : sh < 2 ^ j) (N : Nat) :
    FV_takeComponent N M 16 (some b) (nI h) (nI i) 1 D = if fl = 2 ∧ D 18 i = gv then some (false, zu D 18 h (nI (num + 1))) else some (true, zu (zu D 18 h (nI (num + 1))) 22 h (nI (sh + 2 ^ j))) := by
  obtain ⟨a1, a2, a3, a4, a5, a6, a7, a8, a9⟩ := hc
  have ht : FV_takeComponent_50 N M 16 (some b) (nI h) (zu D 18 h (nI (num + 1))) = some (true, zu (zu D 18 h (nI (num + 1))) 22 h (nI (sh + 2 ^ j))) := by
    unfold FV_takeComponent_50
    rw [qk_t (qi_nI (by omega) (by omega)), qo_s rfl hb, qk_t (qi_nI (by omega) (by omega)), nI_clamp (by omega), b1, zu_at, if_neg (by omega), n2, sh_add hsh hj]
  unfold FV_takeComponent
  rw [qk_t (qi_nI (by omega) (by omega)), qk_t (qi_nI (by omega) (by omega)), nI_clamp (by omega), n1, nI_p1, qo_s rfl hb, b2]
  by_cases c1 : fl = 2
  · have e16 : zu D (16 + 2) h (nI (num + 1)) 16 0 = nI i' := by rw [zu_at, if_neg (by omega), a3]
    have e18 : zu D (16 + 2) h (nI (num + 1)) (16 + 2) i = D 18 i := by rw [zu_at, if_neg (by omega)]
    rw [if_pos c1, e16, if_neg (by rw [nI_leI (by omega) (by omega)]; omega), qk_t (qi_nI (by omega) (by omega)), qo_s rfl hb, nI_clamp (by omega), e18, b3 c1]
    by_cases c2 : D 18 i = gv
    · rw [if_pos c2, if_pos (show fl = 2 ∧ D 18 i = gv from ⟨c1, c2⟩)]
      rw [if_neg (by decide)]
    · rw [if_neg c2, if_neg (show ¬ (fl = 2 ∧ D 18 i = gv) from fun q => c2 q.2)]
      exact ht
  · rw [if_neg c1, if_neg (show ¬ (fl = 2 ∧ D 18 i = gv) from fun q => c1 q.1)]
    exact ht
