/-! THE REFERENCE writes strictly: write() -/
def cpJ (J : zJ) (a : Nat) : Nat → zJ
  | 0 => J
  | k + 1 => zu (cpJ J a k) 20 k (cpJ J a k 20 (a + k))
theorem cpJ_o (J : zJ) (a c x : Nat) (h : c ≠ 20) : ∀ k, cpJ J a k c x = J c x := by
  intro k
  induction k with
  | zero => rfl
  | succ k ih => unfold cpJ; rw [zu_at, if_neg (by omega), ih]
theorem cpJ_20 (J : zJ) (a x : Nat) : ∀ k, cpJ J a k 20 x = if x < k then J 20 (a + x) else J 20 x := by
  intro k
  induction k generalizing x with
  | zero => rw [if_neg (by omega)]; rfl
  | succ k ih =>
    unfold cpJ
    rw [zu_at]
    by_cases h : x = k
    · rw [if_pos ⟨rfl, h⟩, ih, if_neg (by omega), if_pos (by omega), h]
    · rw [if_neg (by omega), ih]
      by_cases h2 : x < k
      · rw [if_pos h2, if_pos (by omega)]
      · rw [if_neg h2, if_neg (by omega)]
def wrK (J J' : zJ) : Prop := ∀ c k, c ≠ 16 → c ≠ 17 → c ≠ 20 → c ≠ 27 → ¬ (c = 0 ∧ (k = 23 ∨ k = 24 ∨ k = 29 ∨ k = 30)) → J' c k = J c k
theorem m_write1 {T J : zJ} {t : Nat} {blk : List Pt} {os e : List Nat} {pk : PK} (hw : wfT T 6 t) (hv : WV T 6 t t none (-1) 0 0 0 blk os e pk) (hT : tyEq T J) (hH : mH J 0 blk) (hB : pBel J 0 blk) (hO : mO J 0 os) (ho : os.length ≤ 120) (hl : blk.length ≤ 100) (h34 : J 0 34 = nI blk.length) :
    ∃ J', Ev (fun N => FM_write N 1 J = some ((), J')) ∧ J' 0 29 = nI e.length ∧ e.length ≤ 2920 ∧ (∀ k b, e[k]? = some b → J' 20 k = nI b) ∧ wrK J J' := by
  have hel := wv_len 6 t t none (-1) 0 0 0 blk os e pk (by omega) hv
  have hel2 : e.length ≤ 2920 := by omega
  have hz : ∀ c k, ¬ (c = 0 ∧ (k = 29 ∨ k = 30)) → ¬ (c = 27 ∧ k = blk.length) → zu (zu (zu J 0 30 0) 0 29 4000) 27 blk.length (nI 4000) c k = J c k := fun c k h1 h2 => by
    rw [zu_at, if_neg h2, zu_at, if_neg (by omega), zu_at, if_neg (by omega)]
  have hJ29 : zu (zu (zu J 0 30 0) 0 29 4000) 27 blk.length (nI 4000) 0 29 = nI 4000 := by rw [zu_at, if_neg (by omega), zu_self]; rfl
  have hH4 : eH T (zu (zu (zu J 0 30 0) 0 29 4000) 27 blk.length (nI 4000)) 4000 0 0 blk os := by
    refine ⟨fun c k c1 c2 => by rw [hz c k (by omega) (by omega)]; exact hT c k c1 c2, fun k P hP => ?_, fun k P hP => ?_, fun k b hb => ?_, by omega, by omega, ?_, hJ29, by omega⟩
    · rw [hz 21 _ (by omega) (by omega), hz 22 _ (by omega) (by omega), hz 23 _ (by omega) (by omega), hz 24 _ (by omega) (by omega), hz 25 _ (by omega) (by omega)]
      exact hH k P hP
    · rw [hz 26 _ (by omega) (by omega)]; exact hB k P hP
    · rw [hz 28 _ (by omega) (by omega)]; exact hO k b hb
    · rw [Nat.zero_add, zu_self]
  have hlf : lfF (zu (zu (zu J 0 30 0) 0 29 4000) 27 blk.length (nI 4000)) 0 := by
    intro J' hk
    obtain ⟨P, l, p1, p2, _⟩ := wv_hd hw hv
    have := (mH_eK hk hH4.2.1) 0 P (by rw [p1]; rfl)
    have h24 : J' 24 0 = -1 := by rw [← p2]; exact this.2.2.2.1
    exact ⟨J', ev_of (fun N => m_left0 (i := 0) (by omega) h24 N), fun c k _ _ _ => rfl⟩
  obtain ⟨J1, a1, a2, a3, a4, a5⟩ := eB_all 6 t (-1) 0 0 0 blk os e pk _ 4000 hw (by omega) hv hH4 (by omega) hlf
  have h129 : J1 0 29 = nI (4000 - e.length) := a2.2.1
  -- the bytes go to the beginning
  have hcopy : Ev (fun N => qfix (FM_write_75 N 1) N (nI (4000 - e.length), J1) = some ((), zu (cpJ J1 (4000 - e.length) e.length) 0 29 (nI e.length))) := by
    refine ev_loop (B := fun N => FM_write_75 N 1) (fun k => (nI (4000 - e.length + k), cpJ J1 (4000 - e.length) k)) e.length (ev_of (fun N k hk K => ?_)) (ev_of (fun N K => ?_))
    · simp only [FM_write_75]
      rw [show (4000 : Int32) = nI 4000 from rfl, if_neg (by rw [nI_leI (by omega) (by omega)]; omega), qk_t (qi_nI (by omega) (by omega)), cpJ_o _ _ 0 29 (by omega), h129, nI_subs (by omega), Nat.add_sub_cancel_left, qk_t (qi_nI (by omega) (by omega)), nI_clamp (by omega), nI_clamp (by omega), nI_p1]
      rfl
    · simp only [FM_write_75]
      rw [show (4000 : Int32) = nI 4000 from rfl, if_pos (by rw [nI_leI (by omega) (by omega)]; omega), cpJ_o _ _ 0 29 (by omega), h129, nI_subs (by omega), if_pos trivial, show 4000 - (4000 - e.length) = e.length by omega]
  refine ⟨zu (cpJ J1 (4000 - e.length) e.length) 0 29 (nI e.length), ?_, zu_self _ _ _ _, hel2, fun k b hk => ?_, fun c k c1 c2 c3 c4 c5 => ?_⟩
  · obtain ⟨n1, a1⟩ := a1
    refine ev_mono (ev_and ⟨n1, a1⟩ (ev_and hcopy ⟨200, fun N hN => hN⟩)) (fun N hN => ?_)
    unfold FM_write
    simp only
    have e34 : zu (zu J 0 30 0) 0 29 4000 0 34 = nI blk.length := by rw [zu_at, if_neg (by omega), zu_at, if_neg (by omega), h34]
    rw [e34, qk_t (qi_nI (by omega) (by omega)), nI_clamp (by omega), show zu (zu J 0 30 0) 0 29 4000 0 29 = nI 4000 from by rw [zu_self]; rfl]
    rw [show zu (zu (zu J 0 30 0) 0 29 4000) 27 blk.length (nI 4000) 0 34 = nI blk.length from by rw [zu_at, if_neg (by omega), e34], Int32.sub_eq_add_neg]
    obtain ⟨F, hF⟩ : ∃ F, N = F + 1 + blk.length := ⟨N - 1 - blk.length, by have := hN.2.2; omega⟩
    have h1 := hN.1 (F + 1)
    rw [Nat.zero_add, Nat.sub_zero, ← hF] at h1
    rw [h1, qfix_s]
    simp only [FM_write_32]
    rw [if_pos (by decide), h129]
    exact hN.2.1
  · have hlt : k < e.length := (List.getElem?_eq_some_iff.mp hk).1
    rw [zu_at, if_neg (by omega), cpJ_20, if_pos hlt]
    exact a2.2.2.1 k b hk
  · rw [zu_at, if_neg (by omega), cpJ_o _ _ c k (by omega), a3 c k c1 c2 c3 c4 (by omega), hz c k (by omega) (by omega)]
/-- the reference by the open rules, settled: what isValue() leaves -/
theorem m_rch {l2 : Int32} (hl : ¬ 2 ≤ l2) : ∀ m J J', goR m J J' → Ev (fun N => ∀ F, m + 1 ≤ F → qfix (FM_isValue_47 N l2) F J = qfix (FM_isValue_47 N l2) (F - m) J') := by
  intro m
  induction m with
  | zero =>
    intro J J' h
    have : J' = J := h
    subst this
    exact ev_of (fun N F hF => rfl)
  | succ m ih =>
    intro J J' h
    obtain ⟨J1, ⟨h1, ⟨f, hf, h2⟩, h3⟩, h4⟩ := h
    refine ev_mono (ev_and h3 (ih J1 J' h4)) (fun N hN F hF => ?_)
    obtain ⟨F, rfl⟩ : ∃ g, F = g + 1 := ⟨F - 1, by omega⟩
    rw [qfix_s]
    have : FM_isValue_47 N l2 (qfix (FM_isValue_47 N l2) F) J = qfix (FM_isValue_47 N l2) F J1 := by
      simp only [FM_isValue_47]
      rw [if_neg (by rw [h1]; decide), h2, if_neg (by rw [show (0 : Int32) = nI 0 from rfl, nI_leI (by omega) (by omega)]; omega), if_neg hl, hN.1, qb_some]
    rw [this, hN.2 F (by omega), show F + 1 - (m + 1) = F - m by omega]
