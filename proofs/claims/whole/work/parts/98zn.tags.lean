/-! COMPILING: tags in front of a type -/
def kTg (A : Nat) (M0 : zM) (a0 b0 c0 d : Nat) (M : zM) (J : zJ) (a b c : Nat) (S R : Nat → Bool) (l : Nat) (xs ts : Nat → Nat) : Prop := (∀ i, i < l → kTi M J (xs i) (ts i) ∧ kU A M a b (xs i) ∧ ¬ kU A M0 a0 b0 (xs i) ∧ S (xs i) = false ∧ zr M (xs i) 9 = (if i + 1 < l then some (xs (i + 1)) else none) ∧ ts i < c ∧ c0 ≤ ts i ∧ R (ts i) = false ∧ J 2 (d + i) = nI (ts i)) ∧ (∀ i j, i < l → j < l → xs i = xs j → i = j) ∧ (∀ i j, i < l → j < l → ts i = ts j → i = j)
theorem kTi_c {M M' : zM} {J J' : zJ} {x t : Nat} (hs : ∀ s, zsh M x = some s → zsh M' x = some s) (hi : zi M' x = zi M x) (hJ : ∀ k, 4 ≤ k → k ≤ 12 → J' k t = J k t) (h : kTi M J x t) : kTi M' J' x t := by
  obtain ⟨h1, h2, h3, h4, h5, h6, h7, h8, h9, h10, h11, h12, h13, h14⟩ := h
  unfold kTi
  rw [hi, hJ 7 (by omega) (by omega), hJ 12 (by omega) (by omega), hJ 9 (by omega) (by omega), hJ 4 (by omega) (by omega), hJ 8 (by omega) (by omega), hJ 10 (by omega) (by omega), hJ 11 (by omega) (by omega)]
  exact ⟨hs _ h1, h2, h3, h4, h5, h6, h7, h8, h9, h10, h11, h12, h13, h14⟩
theorem kTg_up {A : Nat} {M0 : zM} {a0 b0 c0 d : Nat} {M M' : zM} {J J' : zJ} {a b c a' b' c' : Nat} {S R S' R' : Nat → Bool} {l : Nat} {xs ts : Nat → Nat} (h : kTg A M0 a0 b0 c0 d M J a b c S R l xs ts) (hF : kF A a b c (d + l) M J M' J') (hab : a ≤ a' ∧ b ≤ b' ∧ c ≤ c') (hS' : ∀ x, S' x = true → S x = true ∨ ¬ kU A M a b x) (hR' : ∀ t, R' t = true → R t = true ∨ c ≤ t) : kTg A M0 a0 b0 c0 d M' J' a' b' c' S' R' l xs ts := by
  obtain ⟨h1, h2, h3⟩ := h
  refine ⟨fun i hi => ?_, h2, h3⟩
  obtain ⟨g1, g2, g3, g4, g5, g6, g7, g8, g9⟩ := h1 i hi
  have hx := hF.2.2.1 _ g2
  refine ⟨kTi_c (fun s hs => hF.1.1 _ s hs) hx.1 (fun k h1 h2 => (hF.2.2.2.1 _ (low_t.mpr g6)).1 k h1 h2) g1, kU_up hF.2.2.2.2.2.2.2 hab.1 hab.2.1 g2, g3, ?_, by rw [hx.2]; exact g5, by omega, g7, ?_, by rw [hF.2.2.2.2.1 _ (by omega)]; exact g9⟩
  · cases hs : S' (xs i) with
    | false => rfl
    | true =>
      rcases hS' _ hs with q | q
      · rw [g4] at q; cases q
      · exact absurd g2 q
  · cases hs : R' (ts i) with
    | false => rfl
    | true =>
      rcases hR' _ hs with q | q
      · rw [g8] at q; cases q
      · omega
/-- the heights of the tags -/
def shM (xs : Nat → Nat) (hu : Nat) : Nat → Nat → zM → zM
  | 0, _, M => M
  | m + 1, i, M => shM xs hu m (i + 1) (zpi M (xs i) 7 (nI (hu + (m + 1))))
theorem shM_f (xs : Nat → Nat) (hu : Nat) : ∀ m i M, zsh (shM xs hu m i M) = zsh M ∧ zr (shM xs hu m i M) = zr M ∧ zl (shM xs hu m i M) = zl M ∧ zsz (shM xs hu m i M) = zsz M ∧ zsl (shM xs hu m i M) = zsl M ∧ (∀ z j, ¬ (j = 7 ∧ ∃ i', i ≤ i' ∧ i' < i + m ∧ z = xs i') → zi (shM xs hu m i M) z j = zi M z j) ∧ ((∀ i' j', i ≤ i' → i' < i + m → i ≤ j' → j' < i + m → xs i' = xs j' → i' = j') → ∀ i', i ≤ i' → i' < i + m → zi (shM xs hu m i M) (xs i') 7 = nI (hu + (i + m - i'))) := by
  intro m
  induction m with
  | zero => intro i M; exact ⟨rfl, rfl, rfl, rfl, rfl, fun _ _ _ => rfl, fun _ i' h1 h2 => by omega⟩
  | succ m ih =>
    intro i M
    obtain ⟨e1, e2, e3, e4, e5, e6, e7⟩ := ih (i + 1) (zpi M (xs i) 7 (nI (hu + (m + 1))))
    refine ⟨e1, e2, e3, e4, e5, fun z j hn => ?_, fun hinj i' h1 h2 => ?_⟩
    · show zi (shM xs hu m (i + 1) (zpi M (xs i) 7 (nI (hu + (m + 1))))) z j = _
      rw [e6 z j (fun q => hn ⟨q.1, by obtain ⟨_, i', a, b, c⟩ := q; exact ⟨i', by omega, by omega, c⟩⟩), zi_pi, if_neg (fun q => hn ⟨q.2, i, by omega, by omega, q.1⟩)]
    · show zi (shM xs hu m (i + 1) (zpi M (xs i) 7 (nI (hu + (m + 1))))) (xs i') 7 = _
      by_cases hii : i' = i
      · subst hii
        rw [e6 (xs i') 7 (fun q => by obtain ⟨_, j', a, b, c⟩ := q; have := hinj i' j' (by omega) (by omega) (by omega) (by omega) c; omega), zi_pi, if_pos ⟨rfl, rfl⟩]
        congr 1
        omega
      · rw [e7 (fun a b h1 h2 h3 h4 => hinj a b (by omega) (by omega) (by omega) (by omega)) i' (by omega) (by omega)]
        congr 1
        omega
theorem c_heights {KC KS l y hu : Nat} {xs : Nat → Nat} : ∀ m i (M : zM), i + m = l → (∀ i', i' < l → zsh M (xs i') = some (.inl 6) ∧ xs i' ≠ y ∧ zr M (xs i') 9 = (if i' + 1 < l then some (xs (i' + 1)) else some y)) → zsh M y = some (.inl 6) → zi M y 7 = nI hu → m < 100 → ∀ N F, m + 1 ≤ F → qfix (FC_setHeights_5 N KC KS (some y)) F (nI m, (if i < l then some (xs i) else some y), M) = some ((), shM xs hu m i M) := by
  intro m
  induction m with
  | zero =>
    intro i M hi hx hy h7 _ N F hF
    obtain ⟨F, rfl⟩ : ∃ g, F = g + 1 := ⟨F - 1, by omega⟩
    rw [qfix_s, if_neg (by omega)]
    simp only [FC_setHeights_5]
    rw [if_neg (by simp), if_pos trivial]
    rfl
  | succ m ih =>
    intro i M hi hx hy h7 hm N F hF
    obtain ⟨F, rfl⟩ : ∃ g, F = g + 1 := ⟨F - 1, by omega⟩
    have hil : i < l := by omega
    obtain ⟨x1, x2, x3⟩ := hx i hil
    rw [qfix_s, if_pos hil]
    simp only [FC_setHeights_5]
    rw [if_neg (by simp), if_neg (fun e => x2 (Option.some.inj e)), qo_s rfl hy, qo_s rfl x1, h7, nI_add, nI_dec, qo_s (M := zpi M (xs i) 7 (nI (hu + (m + 1)))) rfl x1, zr_pi, x3]
    exact ih (i + 1) (zpi M (xs i) 7 (nI (hu + (m + 1)))) (by omega) (fun i' hi' => hx i' hi') hy (by rw [zi_pi, if_neg (fun q => x2 q.1.symm)]; exact h7) (by omega) N F (by omega)
/-- the tags end one behind the other -/
theorem kc_ends {A KC KS q n d l y u hu p a b c : Nat} {M0 : zM} {J0 : zJ} {a0 b0 c0 : Nat} {Mf : zM} {J1 : zJ} {S1 R1 : Nat → Bool} {xs ts : Nat → Nat} (hl : d + l + hu < 6) (hlo : ∀ i, i < l → ts i < 160 ∧ R1 (ts i) = false ∧ J1 2 (d + i) = nI (ts i)) (hti : ∀ i j, i < l → j < l → ts i = ts j → i = j) (hR1 : ∀ t, R1 t = true → t < 160) (j5 : J1 0 5 = nI (d + l)) (j4 : J1 0 4 = 0)
    (hT : ∀ i, i < l → zsh Mf (xs i) = some (.inl 6) ∧ zi Mf (xs i) 0 = nI 10 ∧ zi Mf (xs i) 1 = 0 ∧ zi Mf (xs i) 4 = J1 7 (ts i) ∧ zi Mf (xs i) 6 = cTag (J1 9 (ts i)) ∧ J1 4 (ts i) = nI 10 ∧ (∃ dg, dg ≤ 9 ∧ J1 7 (ts i) = nI dg) ∧ (J1 12 (ts i) = 0 ∨ J1 12 (ts i) = 1) ∧ J1 8 (ts i) = 0 ∧ J1 10 (ts i) = 0 ∧ J1 11 (ts i) = 0 ∧ J1 9 (ts i) ≠ 0 ∧ mOk (J1 9 (ts i)) ∧ zi Mf (xs i) 7 = nI (hu + (l - i)) ∧ zr Mf (xs i) 9 = (if i + 1 < l then some (xs (i + 1)) else some y) ∧ zi Mf (xs i) 5 = (if J1 12 (ts i) = 0 ∨ (i + 1 = l ∧ J1 4 u = 9) then 1 else 0)) (hd : dT Mf J1 S1 R1 y u hu) :
    ∀ m, m ≤ l → ∃ J' S' R', goW (nI u, J1) (nI (if m = 0 then u else ts (l - m)), J') ∧ dT Mf J' S' R' (if m = 0 then y else xs (l - m)) (if m = 0 then u else ts (l - m)) (hu + m) ∧ J' 0 5 = nI (d + (l - m)) ∧ (∀ z, S1 z = true → S' z = true) ∧ (∀ z, R1 z = true → R' z = true) ∧ (∀ z, S' z = true → S1 z = true ∨ ∃ i, i < l ∧ z = xs i) ∧ (∀ z, R' z = true → R1 z = true ∨ ∃ i, l - m ≤ i ∧ i < l ∧ z = ts i) ∧ (∀ cc j, ¬ ((cc = 8 ∨ cc = 10) ∧ ∃ i, l - m ≤ i ∧ i < l ∧ j = ts i) → ¬ ((cc = 13 ∨ cc = 14) ∧ ∃ i, l - m ≤ i ∧ i < l ∧ j = 6 * ts i) → ¬ (cc = 0 ∧ j = 5) → J' cc j = J1 cc j) := by
  intro m
  induction m with
  | zero =>
    intro _
    exact ⟨J1, S1, R1, ⟨0, rfl⟩, hd, j5, fun _ h => h, fun _ h => h, fun _ h => Or.inl h, fun _ h => Or.inl h, fun _ _ _ _ _ => rfl⟩
  | succ m ih =>
    intro hm
    obtain ⟨J', S', R', e1, e2, e3, e4, e5, e6, e7, e8⟩ := ih (by omega)
    have hi : l - (m + 1) < l := by omega
    generalize hii : l - (m + 1) = i at hi
    have him : l - m = i + 1 := by omega
    obtain ⟨l1, l2, l3⟩ := hlo i hi
    obtain ⟨t1, t2, t3, t4, t5, t6, ⟨dg, t7, t7'⟩, t8, t9, t10, t11, t12, t13, t14, t15, t16⟩ := hT i hi
    rw [him] at e1 e2 e3 e7 e8
    -- the child
    generalize hch : (if m = 0 then u else ts (i + 1)) = ch at e1 e2
    generalize hcx : (if m = 0 then y else xs (i + 1)) = cy at e2
    have hRch := dT_lt e2
    have hch160 : ch < 160 := by
      rcases e7 ch hRch with q | ⟨i', a, b, q⟩
      · exact hR1 ch q
      · rw [q]; exact (hlo i' b).1
    have hRt : R' (ts i) = false := by
      cases hs : R' (ts i) with
      | false => rfl
      | true =>
        rcases e7 _ hs with q | ⟨i', a, b, q⟩
        · rw [l2] at q; cases q
        · have := hti i i' hi b q; omega
    have hcht : ch ≠ ts i := fun e => by rw [e, hRt] at hRch; cases hRch
    have jt : ∀ k, 4 ≤ k → k ≤ 12 → J' k (ts i) = J1 k (ts i) := fun k h1 h2 => e8 k (ts i) (fun q => by obtain ⟨_, i', a, b, c⟩ := q; have := hti i i' hi b c; omega) (fun q => by omega) (by omega)
    have j'5 : J' 0 5 = nI (d + i + 1) := by rw [e3]; congr 1
    have hend : ∀ N, FM_end N (nI ch) J' = some (nI (ts i), eJ J' (ts i) ch (hu + m) (d + i)) := fun N => eM_end1 (k := 10) (Or.inr rfl) l1 hch160 (by omega) hcht (by omega) j'5 (by rw [e8 2 _ (by omega) (by omega) (by omega)]; exact l3) (by rw [jt 4 (by omega) (by omega)]; exact t6) (by rw [jt 8 (by omega) (by omega)]; exact t9) (by rw [jt 10 (by omega) (by omega)]; exact t10) e2.2.2.1 (by rw [e8 0 4 (by omega) (by omega) (by omega)]; exact j4) N
    obtain ⟨v1, v2, v3, v4, v5⟩ := eJ_v (J := J') (t := ts i) (u := ch) (hu := hu + m) (d := d + i)
    have hcy : zr Mf (xs i) 9 = some cy := by
      rw [t15, ← hcx]
      by_cases m0 : m = 0
      · rw [if_neg (by omega), if_pos m0]
      · rw [if_pos (by omega), if_neg m0]
    have et : ∀ k, 4 ≤ k → k ≤ 12 → k ≠ 8 → k ≠ 10 → eJ J' (ts i) ch (hu + m) (d + i) k (ts i) = J1 k (ts i) := fun k h1 h2 h3 h4 => by rw [eJ_o (by omega) (by omega) (by omega), jt k h1 h2]
    have tA : tAg R' J' (eJ J' (ts i) ch (hu + m) (d + i)) := fun z hz => by
      have hzt : z ≠ ts i := fun e => by rw [e, hRt] at hz; cases hz
      exact ⟨fun k h1 h2 => eJ_o (by omega) (by omega) (by omega), fun j hj k h1 h2 => eJ_o (by omega) (by omega) (by omega)⟩
    have hdc : dT Mf (eJ J' (ts i) ch (hu + m) (d + i)) (ins S' (xs i)) (ins R' (ts i)) cy ch (hu + m) := dT_up (fun _ h => ins_l h) tA (fun w hw => ⟨ins_l hw, rfl, rfl, fun _ hs => hs⟩) e2
    have hne0 : m + 1 ≠ 0 := by omega
    refine ⟨eJ J' (ts i) ch (hu + m) (d + i), ins S' (xs i), ins R' (ts i), ?_, ?_, by rw [v5], fun z hz => ins_l (e4 z hz), fun z hz => ins_l (e5 z hz), fun z hz => ?_, fun z hz => ?_, fun cc j h1 h2 h3 => ?_⟩
    · rw [if_neg hne0]
      exact goW_trans e1 (goW_e hch160 j'5 (by omega) (ev_of hend))
    · rw [if_neg hne0, if_neg hne0]
      refine one_dT (k := 10) (hu := hu + m) (ins_r _ _) (ins_r _ _) l1 hch160 t1 (Or.inr rfl) t2 (by rw [et 9 (by omega) (by omega) (by omega) (by omega)]; exact t5) (by rw [t14, show hu + (l - i) = hu + m + 1 by omega]) (by rw [et 4 (by omega) (by omega) (by omega) (by omega)]; exact t6) (by rw [et 9 (by omega) (by omega) (by omega) (by omega)]; exact ⟨t12, t13⟩) v4 (by rw [et 11 (by omega) (by omega) (by omega) (by omega), t11]; exact t3) (Or.inl (by rw [et 11 (by omega) (by omega) (by omega) (by omega)]; exact t11)) hcy v1 (fun _ => ⟨dg, t7, by rw [et 7 (by omega) (by omega) (by omega) (by omega)]; exact t7', by rw [et 12 (by omega) (by omega) (by omega) (by omega)]; exact t8, by rw [et 7 (by omega) (by omega) (by omega) (by omega)]; exact t4, ?_⟩) hdc
      have e4c : eJ J' (ts i) ch (hu + m) (d + i) 4 ch = J' 4 ch := eJ_o (by omega) (by omega) (by omega)
      rw [et 12 (by omega) (by omega) (by omega) (by omega), e4c, t16]
      by_cases m0 : m = 0
      · have hil : i + 1 = l := by omega
        rw [if_pos m0] at hch
        subst hch
        have e4u : J' 4 u = J1 4 u := e8 4 u (by omega) (by omega) (by omega)
        rw [e4u]
        simp only [hil, true_and]
      · have hil : ¬ i + 1 = l := by omega
        rw [if_neg m0] at hch
        have h10 : J' 4 ch = nI 10 := by
          rw [← hch, e8 4 _ (by omega) (by omega) (by omega)]
          exact (hT (i + 1) (by omega)).2.2.2.2.2.1
        have h9 : ¬ J' 4 ch = 9 := by rw [h10]; decide
        simp only [hil, h9, false_and]
    · rcases ins_o hz with q | q
      · exact e6 z q
      · exact Or.inr ⟨i, hi, q⟩
    · rcases ins_o hz with q | q
      · rcases e7 z q with q | ⟨i', a, b, q⟩
        · exact Or.inl q
        · exact Or.inr ⟨i', by omega, b, q⟩
      · exact Or.inr ⟨i, by omega, hi, q⟩
    · rw [eJ_o (fun q => h2 ⟨q.1, i, by omega, hi, q.2⟩) (fun q => h1 ⟨q.1, i, by omega, hi, q.2⟩) h3, e8 cc j (fun q => h1 ⟨q.1, by obtain ⟨_, i', a, b, c⟩ := q; exact ⟨i', by omega, b, c⟩⟩) (fun q => h2 ⟨q.1, by obtain ⟨_, i', a, b, c⟩ := q; exact ⟨i', by omega, b, c⟩⟩) h3]
