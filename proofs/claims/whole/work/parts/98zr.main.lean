/-! THE LAW'S LOOP -/
theorem t_any {KC KS A sn q i : Nat} {sx : Nat → Int32} {M : zM} (h : INV M A KC KS (q + 1)) (hi : i + 5 ≤ sn) (hn : sn ≤ 2560) : lTurn KC KS A sn sx q i M := by
  by_cases c0 : sx i &&& 15 = 0
  · exact t_type h hi hn c0
  by_cases c1 : sx i &&& 15 = 1
  · exact t_clear h hi hn c1
  by_cases c2 : sx i &&& 15 = 2
  · exact t_compile h hi hn c2
  by_cases c3 : sx i &&& 15 = 3
  · exact t_put h hi hn c3
  by_cases c4 : sx i &&& 15 = 4
  · exact t_wipe h hi hn c4
  by_cases c5 : sx i &&& 15 = 5
  · exact t_at h hi hn c5
  by_cases c6 : sx i &&& 15 = 6
  · exact t_transcode h hi hn c6
  by_cases c7 : sx i &&& 15 = 7
  · exact t_parts h hi hn c7
  by_cases c8 : sx i &&& 15 = 8
  · exact t_part h hi hn c8
  by_cases c9 : sx i &&& 15 = 9
  · exact t_octet h hi hn c9
  by_cases c10 : sx i &&& 15 = 10
  · exact t_operation h hi hn c10
  by_cases c11 : sx i &&& 15 = 11
  · exact t_serve h hi hn c11
  refine t_none h hi hn (fun k hk e => ?_)
  have : k = 0 ∨ k = 1 ∨ k = 2 ∨ k = 3 ∨ k = 4 ∨ k = 5 ∨ k = 6 ∨ k = 7 ∨ k = 8 ∨ k = 9 ∨ k = 10 ∨ k = 11 := by omega
  rcases this with rfl | rfl | rfl | rfl | rfl | rfl | rfl | rfl | rfl | rfl | rfl | rfl
  · exact c0 e
  · exact c1 e
  · exact c2 e
  · exact c3 e
  · exact c4 e
  · exact c5 e
  · exact c6 e
  · exact c7 e
  · exact c8 e
  · exact c9 e
  · exact c10 e
  · exact c11 e
theorem l_loop {KC KS A sn : Nat} {sx : Nat → Int32} (hn : sn ≤ 2560) : ∀ m i M, sn ≤ i + 5 * m → i ≤ 2560 → INV M A KC KS m → ∃ M1, Ev (fun N => ∀ F, m + 1 ≤ F → qfix (FL_law_23 N KC KS sn sx A (A + 32) (A + 72)) F (nI i, M) = some (true, M1)) := by
  have hsub : (nI sn - 5).toInt = (sn : Int) - 5 := by
    rw [Int32.toInt_sub, nI_toInt (by omega), i_lit 5 (by omega), Int.bmod_eq_of_le] <;> omega
  have hexit : ∀ m i (M : zM), ¬ i + 5 ≤ sn → i ≤ 2560 → ∃ M1, Ev (fun N => ∀ F, m + 1 ≤ F → qfix (FL_law_23 N KC KS sn sx A (A + 32) (A + 72)) F (nI i, M) = some (true, M1)) := by
    intro m i M h1 h2
    refine ⟨M, ev_of (fun N F hF => ?_)⟩
    obtain ⟨F, rfl⟩ : ∃ g, F = g + 1 := ⟨F - 1, by omega⟩
    rw [qfix_s]
    simp only [FL_law_23]
    rw [if_pos (by rw [Int32.lt_iff_toInt_lt, hsub, nI_toInt (by omega)]; omega)]
  intro m
  induction m with
  | zero =>
    intro i M h1 h2 h
    exact hexit 0 i M (by omega) h2
  | succ m ih =>
    intro i M h1 h2 h
    by_cases hi : i + 5 ≤ sn
    · obtain ⟨M', g1, g2⟩ := t_any (sx := sx) h hi hn
      obtain ⟨M1, g3⟩ := ih (i + 5) M' (by omega) (by omega) g1
      refine ⟨M1, ev_mono (ev_and g2 g3) (fun N hN F hF => ?_)⟩
      obtain ⟨F, rfl⟩ : ∃ g, F = g + 1 := ⟨F - 1, by omega⟩
      rw [qfix_s, hN.1]
      exact hN.2 F (by omega)
    · exact hexit (m + 1) i M hi h2
theorem INV_0 {M : zM} {A KC KS : Nat} (h : zST M A KC KS) (hx : ∀ x s, zsh M x = some s → x < zsz M) : INV M A KC KS 512 := by
  obtain ⟨h1, h2, h3, h4, h5, h6, h7, h8, h9⟩ := h
  have d : ∀ c k, c < 32 → zJo M A c k = 0 := fun c k hc => (h2 c k hc).1
  have j : ∀ c k, c < 40 → c ≠ 36 → zJo M (A + 32) c k = 0 := fun c k hc h36 => by
    show zi M (A + 32 + c) k = 0
    rw [h5 c k hc, if_neg (by omega)]
  refine ⟨⟨h1, h4, h6⟩, ⟨0, 0, ⟨by omega, by omega, fun j hj => absurd hj (by omega), fun j _ => h3 4 j (by omega), fun i j hi => absurd hi (by omega), fun j hj => absurd hj (by omega), fun j _ => h3 5 j (by omega), fun i j hi => absurd hi (by omega)⟩, by omega, by omega, by omega, hx⟩, ⟨0, by omega, d 0 1 (by omega), j 0 2 (by omega) (by omega), fun k hk => absurd hk (by omega)⟩, ⟨0, by omega, d 0 5 (by omega), j 0 27 (by omega) (by omega), fun k hk => absurd hk (by omega)⟩, ⟨0, by omega, d 8 0 (by omega), j 0 44 (by omega) (by omega), fun k hk => absurd hk (by omega)⟩, ⟨by rw [d 0 3 (by omega), j 0 1 (by omega) (by omega)], Or.inl (j 0 1 (by omega) (by omega))⟩, fun k hk => Or.inl ⟨h3 28 k (by omega), ?_⟩, fun id hid => ?_⟩
  · show zi M (A + 32 + 36) k = -1
    rw [h5 36 k (by omega), if_pos ⟨rfl, hk⟩]
  · rw [j 39 id (by omega) (by omega)]
    unfold sBit
    rw [(h2 31 _ (by omega)).2]
    simp
    rfl
