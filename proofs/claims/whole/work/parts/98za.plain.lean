/-! COMPILING: plain types, lists -/
theorem leaf_dT {M : zM} {J : zJ} {S R : Nat → Bool} {x t k : Nat} (hS : S x = true) (hR : R t = true) (ht : t < 160) (hs : zsh M x = some (.inl 6)) (hk : k = 1 ∨ k = 2 ∨ k = 4 ∨ k = 5) (x0 : zi M x 0 = nI k) (x6 : zi M x 6 = tgK k) (x7 : zi M x 7 = 0) (j4 : J 4 t = nI k) (j9 : J 9 t = tgK k) (j10 : J 10 t = 0) (x1 : zi M x 1 = J 11 t) (hb : (J 11 t = 0) ∨ (J 11 t = 1 ∧ (k = 2 ∨ k = 4) ∧ zi M x 2 = J 5 t ∧ zi M x 3 = J 6 t ∧ bndOK k (J 5 t) (J 6 t))) : dT M J S R x t 0 := by
  have e : ∀ j, jcut J R j t = J j t := fun j => jcut_lt hR
  have kn : ∀ m : Nat, m < 2 ^ 31 → jcut J R 4 t = nI m → k = m := fun m hm hh => by
    rw [e, j4, nI_eq (by omega) hm] at hh
    exact hh
  refine ⟨⟨ht, ?_, ?_, fun q => ?_, ?_, ?_, fun q => absurd (kn 7 (by omega) q) (by omega), fun q => absurd (kn 10 (by omega) q) (by omega), fun q => ?_, fun q => absurd (kn 6 (by omega) q) (by omega), fun q => absurd (kn 9 (by omega) q) (by omega)⟩, ⟨by rw [zcut_sh, if_pos hS]; exact hs, ?_, ?_, fun q => ?_, ?_, fun q => absurd (kn 7 (by omega) q) (by omega), fun q => absurd (kn 10 (by omega) q) (by omega), fun q => ?_⟩, j10, x7⟩
  · rw [e, j4]
    rcases hk with rfl | rfl | rfl | rfl
    · exact Or.inl rfl
    · exact Or.inr (Or.inl rfl)
    · exact Or.inr (Or.inr (Or.inl rfl))
    · exact Or.inr (Or.inr (Or.inr (Or.inl rfl)))
  · rw [e]
    rcases hb with hb | hb
    · exact Or.inl hb
    · exact Or.inr hb.1
  · rw [e] at q
    rw [e, e, e]
    rcases hb with hb | ⟨b1, b2, b3, b4, b5, b6, b7⟩
    · rw [hb] at q
      exact absurd q (by decide)
    · refine ⟨?_, b5, b6, fun h2 => b7 (fun h => h2 (by rw [j4, h]; rfl))⟩
      rw [j4]
      rcases b2 with rfl | rfl
      · exact Or.inl rfl
      · exact Or.inr (Or.inl rfl)
  · rw [e, j9]
    rcases hk with rfl | rfl | rfl | rfl <;> decide
  · rw [e, j9]
    rcases hk with rfl | rfl | rfl | rfl <;> decide
  · rcases q with q | q
    · exact absurd (kn 6 (by omega) q) (by omega)
    · exact absurd (kn 9 (by omega) q) (by omega)
  · rw [e, j4]
    exact x0
  · rw [e]
    exact x1
  · rw [e] at q
    rw [e, e]
    rcases hb with hb | ⟨b1, b2, b3, b4, -⟩
    · rw [hb] at q
      exact absurd q (by decide)
    · exact ⟨b3, b4⟩
  · rw [e, j9]
    show zi M x 6 = _
    rw [x6]
    rcases hk with rfl | rfl | rfl | rfl <;> decide
  · rcases q with q | q
    · exact absurd (kn 6 (by omega) q) (by omega)
    · exact absurd (kn 9 (by omega) q) (by omega)
/-- which kind a character begins -/
theorem kind_cases (v : Int32) (h91 : v ≠ 91) (hn : ¬ (65 ≤ v.toInt ∧ v.toInt ≤ 90)) : (∃ k, isK k ∧ k ≠ 10 ∧ v ≠ -1 ∧ ∀ N, FC_kindOf N v = some (nI k) ∧ ∀ J, FM_look N J = some (v, J) → FM_begin N J = FM_begin_110 N (nI k) J) ∨ (∀ N, FC_kindOf N v = some (-1) ∧ ∀ J, FM_look N J = some (v, J) → FM_begin N J = FM_begin_110 N 0 J) := by
  have hb : ∀ N J, FM_look N J = some (v, J) → FM_begin N J = (if v = 98 then FM_begin_110 N 1 J else if v = 105 then FM_begin_110 N 2 J else if v = 111 then FM_begin_110 N 4 J else if v = 110 then FM_begin_110 N 5 J else if v = 113 then FM_begin_110 N 6 J else if v = 108 then FM_begin_110 N 7 J else if v = 99 then FM_begin_110 N 9 J else FM_begin_110 N 0 J) := by
    intro N J hl
    unfold FM_begin
    rw [hl, qb_some, if_neg h91, FM_in_eq, qc_some, i_lit 65 (by omega), i_lit 90 (by omega), if_pos (by simp only [bI_eq0]; simp; omega)]
  have go : ∀ (ch k : Nat), ch < 1000 → isK k → k ≠ 10 → v = nI ch → (∀ N, FC_kindOf N (nI ch) = some (nI k)) → (∀ N J, (if (nI ch) = 98 then FM_begin_110 N 1 J else if (nI ch) = 105 then FM_begin_110 N 2 J else if (nI ch) = 111 then FM_begin_110 N 4 J else if (nI ch) = 110 then FM_begin_110 N 5 J else if (nI ch) = 113 then FM_begin_110 N 6 J else if (nI ch) = 108 then FM_begin_110 N 7 J else if (nI ch) = 99 then FM_begin_110 N 9 J else FM_begin_110 N 0 J) = FM_begin_110 N (nI k) J) → ∃ k, isK k ∧ k ≠ 10 ∧ v ≠ -1 ∧ ∀ N, FC_kindOf N v = some (nI k) ∧ ∀ J, FM_look N J = some (v, J) → FM_begin N J = FM_begin_110 N (nI k) J := by
    intro ch k hch h1 h2 hv h3 h4
    refine ⟨k, h1, h2, by rw [hv]; exact nI_n1 (by omega), fun N => ⟨by rw [hv]; exact h3 N, fun J hl => ?_⟩⟩
    rw [hb N J hl, hv]
    exact h4 N J
  by_cases c1 : v = 98
  · exact Or.inl (go 98 1 (by omega) (by unfold isK; omega) (by omega) c1 (fun N => rfl) (fun N J => rfl))
  by_cases c2 : v = 105
  · exact Or.inl (go 105 2 (by omega) (by unfold isK; omega) (by omega) c2 (fun N => rfl) (fun N J => rfl))
  by_cases c3 : v = 111
  · exact Or.inl (go 111 4 (by omega) (by unfold isK; omega) (by omega) c3 (fun N => rfl) (fun N J => rfl))
  by_cases c4 : v = 110
  · exact Or.inl (go 110 5 (by omega) (by unfold isK; omega) (by omega) c4 (fun N => rfl) (fun N J => rfl))
  by_cases c5 : v = 113
  · exact Or.inl (go 113 6 (by omega) (by unfold isK; omega) (by omega) c5 (fun N => rfl) (fun N J => rfl))
  by_cases c6 : v = 108
  · exact Or.inl (go 108 7 (by omega) (by unfold isK; omega) (by omega) c6 (fun N => rfl) (fun N J => rfl))
  by_cases c7 : v = 99
  · exact Or.inl (go 99 9 (by omega) (by unfold isK; omega) (by omega) c7 (fun N => rfl) (fun N J => rfl))
  refine Or.inr (fun N => ⟨?_, fun J hl => ?_⟩)
  · unfold FC_kindOf
    rw [if_neg c1, if_neg c7, if_neg c2, if_neg c6, if_neg c4, if_neg c3, if_neg c5]
  · rw [hb N J hl, if_neg c1, if_neg c2, if_neg c3, if_neg c4, if_neg c5, if_neg c6, if_neg c7]
/-- a child ends; its node has but one -/
def eJ (J : zJ) (t u hu d : Nat) : zJ := zu (zu (zu (zu (zu J 13 (6 * t) (nI u)) 14 (6 * t) 0) 8 t (nI 1)) 10 t (nI (hu + 1))) 0 5 (nI d)
theorem eM_end1 {J : zJ} {t u hu d k : Nat} (hk : k = 7 ∨ k = 10) (ht : t < 160) (hu160 : u < 160) (hd : d < 150) (hut : u ≠ t) (hh : hu + 1 < 2 ^ 20) (h5 : J 0 5 = nI (d + 1)) (h2 : J 2 d = nI t) (h4 : J 4 t = nI k) (h8 : J 8 t = 0) (h10 : J 10 t = 0) (h10u : J 10 u = nI hu) (j4 : J 0 4 = 0) (N : Nat) : FM_end N (nI u) J = some (nI t, eJ J t u hu d) := by
  have qt : qi (nI t) 160 = true := qi_nI ht (by omega)
  have qu : qi (nI u) 160 = true := qi_nI hu160 (by omega)
  have ct : (nI t).toNatClampNeg = t := nI_clamp (by omega)
  have cu : (nI u).toNatClampNeg = u := nI_clamp (by omega)
  have cd : (nI d).toNatClampNeg = d := nI_clamp (by omega)
  have e6 : (6 : Int32) * nI t + 0 = nI (6 * t) := by rw [show (6 : Int32) = nI 6 from rfl, nI_mul, Int32.add_zero]
  unfold FM_end
  rw [h5, nI_pred, qk_t (qi_nI hd (by omega)), cd, h2]
  simp only
  rw [qk_t qt, ct, h8, e6, qk_t (qi_nI (by omega) (by omega)), nI_clamp (show 6 * t < 2 ^ 31 by omega), qk_t (qi_nI (by omega) (by omega)), qk_t qt, qk_t qt, qk_t qu, qk_t qt, cu]
  have z10u : zu (zu (zu J 13 (6 * t) (nI u)) 14 (6 * t) 0) 8 t (zu (zu J 13 (6 * t) (nI u)) 14 (6 * t) 0 8 t + 1) 10 u = nI hu := by rw [zu_ne _ _ _ (by omega), zu_ne _ _ _ (by omega), zu_ne _ _ _ (by omega)]; exact h10u
  have z10t : zu (zu (zu J 13 (6 * t) (nI u)) 14 (6 * t) 0) 8 t (zu (zu J 13 (6 * t) (nI u)) 14 (6 * t) 0 8 t + 1) 10 t = 0 := by rw [zu_ne _ _ _ (by omega), zu_ne _ _ _ (by omega), zu_ne _ _ _ (by omega)]; exact h10
  have z8 : zu (zu J 13 (6 * t) (nI u)) 14 (6 * t) 0 8 t + 1 = nI 1 := by
    rw [zu_ne _ _ _ (by omega), zu_ne _ _ _ (by omega), h8]
    rfl
  rw [z10u, z10t, if_neg (by rw [show (0 : Int32) = nI 0 from rfl, nI_ltI (by omega) (by omega)]; omega), qk_t qu, nI_add1, z8]
  unfold FM_end_85
  rw [qk_t qt, ct]
  simp only
  rw [qk_t qt]
  have z4 : zu (zu (zu (zu J 13 (6 * t) (nI u)) 14 (6 * t) 0) 8 t (nI 1)) 10 t (nI (hu + 1)) 4 t = nI k := by rw [zu_ne _ _ _ (by omega), zu_ne _ _ _ (by omega), zu_ne _ _ _ (by omega), zu_ne _ _ _ (by omega)]; exact h4
  have z04 : zu (zu (zu (zu J 13 (6 * t) (nI u)) 14 (6 * t) 0) 8 t (nI 1)) 10 t (nI (hu + 1)) 0 4 = 0 := by rw [zu_ne _ _ _ (by omega), zu_ne _ _ _ (by omega), zu_ne _ _ _ (by omega), zu_ne _ _ _ (by omega)]; exact j4
  have z05 : zu (zu (zu (zu J 13 (6 * t) (nI u)) 14 (6 * t) 0) 8 t (nI 1)) 10 t (nI (hu + 1)) 0 5 = nI (d + 1) := by rw [zu_ne _ _ _ (by omega), zu_ne _ _ _ (by omega), zu_ne _ _ _ (by omega), zu_ne _ _ _ (by omega)]; exact h5
  have n6 : ¬ nI k = 6 := by rw [show (6 : Int32) = nI 6 from rfl, nI_eq (by omega) (by omega)]; omega
  have n9 : ¬ nI k = 9 := by rw [show (9 : Int32) = nI 9 from rfl, nI_eq (by omega) (by omega)]; omega
  rw [z4, if_neg n6]
  unfold FM_end_103
  rw [z04, if_pos (by decide), qk_t qt, ct, z4, if_neg n6, qk_t qt, if_neg n9]
  unfold FM_end_242
  simp only
  rw [z05, nI_pred]
  rfl
theorem eJ_o {J : zJ} {t u hu d c k : Nat} (h1 : ¬ ((c = 13 ∨ c = 14) ∧ k = 6 * t)) (h2 : ¬ ((c = 8 ∨ c = 10) ∧ k = t)) (h3 : ¬ (c = 0 ∧ k = 5)) : eJ J t u hu d c k = J c k := by
  unfold eJ
  rw [zu_at, if_neg h3, zu_at, if_neg (by omega), zu_at, if_neg (by omega), zu_at, if_neg (by omega), zu_at, if_neg (by omega)]
theorem eJ_v {J : zJ} {t u hu d : Nat} : eJ J t u hu d 13 (6 * t) = nI u ∧ eJ J t u hu d 14 (6 * t) = 0 ∧ eJ J t u hu d 8 t = nI 1 ∧ eJ J t u hu d 10 t = nI (hu + 1) ∧ eJ J t u hu d 0 5 = nI d := by
  unfold eJ
  refine ⟨?_, ?_, ?_, ?_, zu_self _ _ _ _⟩
  · rw [zu_at, if_neg (by omega), zu_at, if_neg (by omega), zu_at, if_neg (by omega), zu_at, if_neg (by omega), zu_self]
  · rw [zu_at, if_neg (by omega), zu_at, if_neg (by omega), zu_at, if_neg (by omega), zu_self]
  · rw [zu_at, if_neg (by omega), zu_at, if_neg (by omega), zu_self]
  · rw [zu_at, if_neg (by omega), zu_self]
theorem kJ_e (J : zJ) (t u hu d : Nat) : kJ J (eJ J t u hu d) := fun c k h1 h2 => eJ_o (by omega) (by omega) (by omega)
/-- one child: lists and tags -/
theorem one_dT {M : zM} {J : zJ} {S R : Nat → Bool} {x t y u hu k : Nat} (hS : S x = true) (hR : R t = true) (ht : t < 160) (hu160 : u < 160) (hs : zsh M x = some (.inl 6)) (hk : k = 7 ∨ k = 10) (x0 : zi M x 0 = nI k) (x6 : zi M x 6 = cTag (J 9 t)) (x7 : zi M x 7 = nI (hu + 1)) (j4 : J 4 t = nI k) (j9 : J 9 t ≠ 0 ∧ J 9 t &&& 1072758838 = J 9 t) (j10 : J 10 t = nI (hu + 1)) (x1 : zi M x 1 = J 11 t) (hb : (J 11 t = 0) ∨ (J 11 t = 1 ∧ k = 7 ∧ zi M x 2 = J 5 t ∧ zi M x 3 = J 6 t ∧ bndOK k (J 5 t) (J 6 t)))
    (hr : zr M x 9 = some y) (j13 : J 13 (6 * t) = nI u) (htg : k = 10 → ∃ dg, dg ≤ 9 ∧ J 7 t = nI dg ∧ (J 12 t = 0 ∨ J 12 t = 1) ∧ zi M x 4 = J 7 t ∧ zi M x 5 = (if J 12 t = 0 ∨ J 4 u = 9 then 1 else 0)) (hc : dT M J S R y u hu) : dT M J S R x t (hu + 1) := by
  have e : ∀ j, jcut J R j t = J j t := fun j => jcut_lt hR
  have e13 : jcut J R 13 (6 * t) = nI u := by rw [jcut_o (by omega)]; exact j13
  have ec : chd (jcut J R) (6 * t) = u := by unfold chd; rw [e13, nI_clamp (by omega)]
  have eu : ∀ j, jcut J R j u = J j u := fun j => jcut_lt (dT_lt hc)
  obtain ⟨c1, c2, c3, c4⟩ := hc
  have kn : ∀ m : Nat, m < 2 ^ 31 → jcut J R 4 t = nI m → k = m := fun m hm hh => by
    rw [e, j4, nI_eq (by omega) hm] at hh
    exact hh
  refine ⟨⟨ht, ?_, ?_, fun q => ?_, ?_, ?_, fun q => ?_, fun q => ?_, fun q => ?_, fun q => absurd (kn 6 (by omega) q) (by omega), fun q => absurd (kn 9 (by omega) q) (by omega)⟩, ⟨by rw [zcut_sh, if_pos hS]; exact hs, ?_, ?_, fun q => ?_, ?_, fun q => ?_, fun q => ?_, fun q => ?_⟩, j10, x7⟩
  · rw [e, j4]
    rcases hk with rfl | rfl
    · exact Or.inr (Or.inr (Or.inr (Or.inr (Or.inr (Or.inl rfl)))))
    · exact Or.inr (Or.inr (Or.inr (Or.inr (Or.inr (Or.inr (Or.inr rfl))))))
  · rw [e]
    rcases hb with hb | hb
    · exact Or.inl hb
    · exact Or.inr hb.1
  · rw [e] at q
    rw [e, e, e]
    rcases hb with hb | ⟨b1, b2, b3, b4, b5, b6, b7⟩
    · rw [hb] at q
      exact absurd q (by decide)
    · refine ⟨?_, b5, b6, fun h2 => b7 (fun h => h2 (by rw [j4, h]; rfl))⟩
      rw [j4, b2]
      exact Or.inr (Or.inr rfl)
  · rw [e]
    exact j9.1
  · rw [e]
    exact j9.2
  · rw [e13, ec]
    exact ⟨rfl, c1⟩
  · have k10 := kn 10 (by omega) q
    obtain ⟨dg, d1, d2, d3, -⟩ := htg k10
    have ed : dgt (jcut J R) t = dg := by unfold dgt; rw [e, d2, nI_clamp (by omega)]
    rw [ed, e, e, e13, ec]
    exact ⟨d2, d1, d3, rfl, c1⟩
  · rcases q with q | q
    · exact absurd (kn 6 (by omega) q) (by omega)
    · exact absurd (kn 9 (by omega) q) (by omega)
  · rw [e, j4]
    exact x0
  · rw [e]
    exact x1
  · rw [e] at q
    rw [e, e]
    rcases hb with hb | ⟨b1, b2, b3, b4, -⟩
    · rw [hb] at q
      exact absurd q (by decide)
    · exact ⟨b3, b4⟩
  · rw [e]
    exact x6
  · rw [ec]
    exact ⟨y, hr, c2⟩
  · obtain ⟨dg, d1, d2, d3, d4, d5⟩ := htg (kn 10 (by omega) q)
    rw [e, e, ec, eu]
    exact ⟨d4, d5, y, hr, c2⟩
  · rcases q with q | q
    · exact absurd (kn 6 (by omega) q) (by omega)
    · exact absurd (kn 9 (by omega) q) (by omega)
