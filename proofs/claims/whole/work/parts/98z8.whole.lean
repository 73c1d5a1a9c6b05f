/-! COMPILING: the reference's machine of one type, step by step -/
def gow1 (s s' : Int32 × zJ) : Prop := (s.1 < 0 ∧ s.2 0 4 = 0 ∧ Ev (fun N => FM_begin N s.2 = some s')) ∨ (¬ s.1 < 0 ∧ ¬ s.2 0 5 ≤ 0 ∧ Ev (fun N => FM_end N s.1 s.2 = some s'))
def gow : Nat → (Int32 × zJ) → (Int32 × zJ) → Prop
  | 0, s, s' => s' = s
  | n + 1, s, s' => ∃ s1, gow1 s s1 ∧ gow n s1 s'
def goW (s s' : Int32 × zJ) : Prop := ∃ n, gow n s s'
theorem gow_trans : ∀ n m s s1 s2, gow n s s1 → gow m s1 s2 → gow (n + m) s s2 := by
  intro n
  induction n with
  | zero =>
    intro m s s1 s2 h1 h2
    have : s1 = s := h1
    subst this
    rw [Nat.zero_add]
    exact h2
  | succ n ih =>
    intro m s s1 s2 h1 h2
    obtain ⟨x, g1, g2⟩ := h1
    rw [show n + 1 + m = (n + m) + 1 by omega]
    exact ⟨x, g1, ih m x s1 s2 g2 h2⟩
theorem goW_trans {s s1 s2 : Int32 × zJ} (h1 : goW s s1) (h2 : goW s1 s2) : goW s s2 := by
  obtain ⟨n, h1⟩ := h1
  obtain ⟨m, h2⟩ := h2
  exact ⟨n + m, gow_trans n m s s1 s2 h1 h2⟩
theorem goW_1 {s s' : Int32 × zJ} (h : gow1 s s') : goW s s' := ⟨1, s', h, rfl⟩
theorem goW_b {J : zJ} {s' : Int32 × zJ} (h4 : J 0 4 = 0) (h : Ev (fun N => FM_begin N J = some s')) : goW (-1, J) s' := goW_1 (Or.inl ⟨(by decide : (-1 : Int32) < 0), h4, h⟩)
theorem goW_e {t d : Nat} {J : zJ} {s' : Int32 × zJ} (ht : t < 160) (h5 : J 0 5 = nI (d + 1)) (hd : d < 1000) (h : Ev (fun N => FM_end N (nI t) J = some s')) : goW (nI t, J) s' := by
  refine goW_1 (Or.inr ⟨?_, ?_, h⟩)
  · show ¬ nI t < 0
    rw [show (0 : Int32) = nI 0 from rfl, nI_ltI (by omega) (by omega)]
    omega
  · show ¬ J 0 5 ≤ 0
    rw [h5, show (0 : Int32) = nI 0 from rfl, nI_leI (by omega) (by omega)]
    omega
theorem w_run {fin r : Int32 × zJ} (hfin : ∀ N f5 f17, 1 ≤ f5 → 1 ≤ f17 → qfix (FM_whole_17 N (qfix (FM_whole_5 N) f5)) f17 fin = some r) : ∀ n s, gow n s fin → Ev (fun N => ∀ f5 f17, n + 1 ≤ f5 → n + 1 ≤ f17 → qfix (FM_whole_17 N (qfix (FM_whole_5 N) f5)) f17 s = some r) := by
  intro n
  induction n with
  | zero =>
    intro s h
    have : fin = s := h
    subst this
    exact ev_of (fun N f5 f17 h1 h2 => hfin N f5 f17 (by omega) (by omega))
  | succ n ih =>
    intro s h
    obtain ⟨s1, h1, h2⟩ := h
    rcases h1 with ⟨g1, g2, g3⟩ | ⟨g1, g2, g3⟩
    · refine ev_mono (ev_and (ev_and g3 (ih s1 h2)) (⟨n + 1, fun N hN => hN⟩ : Ev (fun N => n + 1 ≤ N))) (fun N hN f5 f17 k5 k17 => ?_)
      obtain ⟨f17, rfl⟩ : ∃ g, f17 = g + 1 := ⟨f17 - 1, by omega⟩
      obtain ⟨f5, rfl⟩ : ∃ g, f5 = g + 1 := ⟨f5 - 1, by omega⟩
      rw [qfix_s]
      simp only [FM_whole_17]
      rw [if_pos g1]
      unfold FM_whole_37
      rw [if_pos g1, qfix_s]
      simp only [FM_whole_5]
      rw [if_pos g2, hN.1.1]
      exact hN.1.2 f5 N (by omega) hN.2
    · refine ev_mono (ev_and g3 (ih s1 h2)) (fun N hN f5 f17 k5 k17 => ?_)
      obtain ⟨f17, rfl⟩ : ∃ g, f17 = g + 1 := ⟨f17 - 1, by omega⟩
      rw [qfix_s]
      simp only [FM_whole_17]
      rw [if_neg g1, if_neg g2, hN.1]
      exact hN.2 f5 f17 (by omega) (by omega)
theorem w_start {J : zJ} {fin r : Int32 × zJ} (hfin : ∀ N f5 f17, 1 ≤ f5 → 1 ≤ f17 → qfix (FM_whole_17 N (qfix (FM_whole_5 N) f5)) f17 fin = some r) (h : goW (-1, zu J 0 5 0) fin) : Ev (fun N => FM_whole N J = some r) := by
  obtain ⟨n, h⟩ := h
  refine ev_mono (ev_and (w_run hfin n _ h) (⟨n + 1, fun N hN => hN⟩ : Ev (fun N => n + 1 ≤ N))) (fun N hN => ?_)
  have := hN.1 N (n + 1) hN.2 (Nat.le_refl _)
  rw [qfix_s] at this
  simp only [FM_whole_17] at this
  rw [if_pos (by decide)] at this
  unfold FM_whole_37 at this
  rw [if_pos (by decide)] at this
  unfold FM_whole
  exact this
theorem w_good {J J' : zJ} {t : Nat} (ht : t < 160) (h : goW (-1, zu J 0 5 0) (nI t, J')) (h5 : J' 0 5 = 0) (h4 : J' 0 4 = 0) : Ev (fun N => FM_whole N J = some (nI t, J')) := by
  refine w_start (fun N f5 f17 k5 k17 => ?_) h
  obtain ⟨f17, rfl⟩ : ∃ g, f17 = g + 1 := ⟨f17 - 1, by omega⟩
  have h0 : ¬ nI t < 0 := by
    rw [show (0 : Int32) = nI 0 from rfl, nI_ltI (by omega) (by omega)]
    omega
  rw [qfix_s]
  simp only [FM_whole_17]
  rw [if_neg h0, if_pos (by rw [h5]; decide)]
  unfold FM_whole_37
  rw [if_neg h0, if_pos h4]
theorem w_bad {J J' : zJ} (h : goW (-1, zu J 0 5 0) (-1, J')) (h4 : J' 0 4 ≠ 0) : Ev (fun N => FM_whole N J = some (-1, J')) := by
  refine w_start (fun N f5 f17 k5 k17 => ?_) h
  obtain ⟨f17, rfl⟩ : ∃ g, f17 = g + 1 := ⟨f17 - 1, by omega⟩
  obtain ⟨f5, rfl⟩ : ∃ g, f5 = g + 1 := ⟨f5 - 1, by omega⟩
  rw [qfix_s]
  simp only [FM_whole_17]
  rw [if_pos (by decide)]
  unfold FM_whole_37
  rw [if_pos (by decide), qfix_s]
  simp only [FM_whole_5]
  rw [if_neg h4]
