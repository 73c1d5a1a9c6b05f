/-! VALUES read from packed bits belong together -/
theorem bit01 (src : Nat → Nat) (p : Nat) : sbit src p = 0 ∨ sbit src p = 1 := by unfold sbit; omega
theorem octP_lt (src : Nat → Nat) (p n : Nat) : ∀ b, b ∈ octP src p n → b < 256 := by
  intro b hb
  obtain ⟨k, _, rfl⟩ := List.mem_map.mp hb
  exact bvs_lt src _ 8
theorem numP_le {s : Bool} {src : Nat → Nat} {en h p : Nat} {q : Nat × Nat} (hq : numP s src en h p = some q) : q.1 ≤ en ∧ q.2 ≤ h := by
  unfold numP at hq
  obtain ⟨p1, _, hq⟩ := bind_some_eq hq
  obtain ⟨c, hq⟩ := ite_some hq
  injection hq with hq
  subst hq
  exact c
theorem cntP_le {T : zJ} {s : Bool} {src : Nat → Nat} {n en t p : Nat} {q : Nat × Nat} (hw : wfT T n t) (hk : T 4 t ≠ 2) (hq : cntP T s src en t p = some q) : q.2 ≤ 127 := by
  unfold cntP at hq
  by_cases h1 : T 11 t = 1
  · rw [if_pos h1] at hq
    obtain ⟨x, hx, hq⟩ := bind_some_eq hq
    injection hq with hq
    subst hq
    have := (numP_le hx).2
    have := (lo_I hw h1 hk).2
    show loT T t + x.2 ≤ 127
    omega
  · rw [if_neg h1] at hq
    obtain ⟨p1, _, hq⟩ := bind_some_eq hq
    obtain ⟨c, hq⟩ := ite_some hq
    injection hq with hq
    subst hq
    exact c.2
theorem altR_k {T : zJ} {t r k : Nat} : ∀ m j, altR T t r m j = some k → j ≤ k ∧ k < j + m ∧ jRank T t k (cnt T t) = r := by
  intro m
  induction m with
  | zero => intro j h; cases h
  | succ m ih =>
    intro j h
    unfold altR at h
    by_cases c : jRank T t j (cnt T t) = r
    · rw [if_pos c] at h
      injection h with h
      subst h
      exact ⟨Nat.le_refl _, by omega, c⟩
    · rw [if_neg c] at h
      have := ih _ h
      exact ⟨by omega, by omega, this.2.2⟩
theorem rpc_wv {T : zJ} {src : Nat → Nat} {s : Bool} {n t : Nat} {par : Int32} {lim : Nat} (hn : n ≤ 6)
    (ih : ∀ u t0 dg par wh i o en p q, wfT T n u → en ≤ 960 → rdP T src s n u t0 dg par wh i o en p = some q → WV T n u t0 dg par wh i o q.2.1 q.2.2.1 q.2.2.2.1 q.2.2.2.2) (hlim : lim ≤ 960) :
    ∀ ths j i o p q, (∀ j', j' < j + ths.length → wfT T n (chd T (6 * t + j')) ∧ (T 14 (6 * t + j') = 2 → T 4 (bas T 6 (chd T (6 * t + j'))) = 1 ∨ T 4 (bas T 6 (chd T (6 * t + j'))) = 2)) → rpC T s (rdP T src s n) t par lim ths j i o p = some q → WVC T (WV T n) t par ths.length j i o q.2.2.2.2.1 q.2.2.2.2.2.1 q.2.2.2.2.2.2.1 q.2.2.2.1 q.2.2.2.2.2.2.2 q.2.1 q.2.2.1 := by
  intro ths
  induction ths with
  | nil =>
    intro j i o p q _ h
    unfold rpC at h
    injection h with h
    subst h
    exact ⟨rfl, rfl, rfl, rfl, rfl, rfl, rfl⟩
  | cons th ths ihm =>
    intro j i o p q hwf h
    rw [List.length_cons] at hwf ⊢
    obtain ⟨hw, hdf⟩ := hwf j (by omega)
    have hwf' : ∀ j', j' < j + 1 + ths.length → wfT T n (chd T (6 * t + j')) ∧ (T 14 (6 * t + j') = 2 → T 4 (bas T 6 (chd T (6 * t + j'))) = 1 ∨ T 4 (bas T 6 (chd T (6 * t + j'))) = 2) := fun j' hj' => hwf j' (by omega)
    unfold rpC at h
    unfold WVC
    by_cases c0 : th = false
    · rw [if_pos c0] at h
      by_cases f1 : T 14 (6 * t + j) = 1
      · rw [if_pos f1] at h
        obtain ⟨x, hx, h⟩ := bind_some_eq h
        injection h with h
        subst h
        exact Or.inl ⟨f1, _, rfl, ihm _ _ _ _ _ hwf' hx⟩
      · rw [if_neg f1] at h
        obtain ⟨f2, h⟩ := ite_some h
        obtain ⟨x, hx, h⟩ := bind_some_eq h
        injection h with h
        subst h
        refine Or.inr (Or.inl ⟨f2.1, _, _, _, rfl, rfl, rfl, ?_⟩)
        have := ihm _ _ _ _ _ hwf' hx
        show WVC T (WV T n) t par ths.length (j + 1) (i + 1) o _ _ _ _ (pcat pnil _) _ _
        rw [pcat_nil]
        exact this
    · rw [if_neg c0] at h
      obtain ⟨r, hr, h⟩ := bind_some_eq h
      have hv := ih _ _ _ _ _ _ _ _ _ _ hw hlim hr
      by_cases lf : T 14 (6 * t + j) = 2 ∧ hdV r.2.1 = T 15 (6 * t + j)
      · rw [if_pos lf] at h
        by_cases hs : s = true
        · rw [if_pos hs] at h; cases h
        · rw [if_neg hs] at h
          obtain ⟨x, hx, h⟩ := bind_some_eq h
          injection h with h
          subst h
          obtain ⟨o1, v, o2⟩ := wv_one n _ _ _ _ _ _ _ _ _ _ _ hw hv (by rw [← (bas_wf n 6 _ hw hn).1]; exact hdf lf.1)
          have hvv : v = T 15 (6 * t + j) := by
            have := lf.2
            rw [o2] at this
            exact this
          refine Or.inr (Or.inl ⟨lf.1, x.2.2.2.2.1, x.2.2.2.1, x.2.1, ?_, rfl, rfl, ?_⟩)
          · show r.2.1 ++ x.2.2.2.2.1 = _
            rw [o2, hvv, (bas_wf n 6 _ hw hn).1]
            rfl
          · have := ihm _ _ _ _ _ hwf' hx
            rw [o2, o1] at this
            show WVC T (WV T n) t par ths.length (j + 1) (i + 1) o x.2.2.2.2.1 (r.2.2.1 ++ x.2.2.2.2.2.1) ([] ++ x.2.2.2.2.2.2.1) _ (pcat pnil _) _ _
            rw [pcat_nil, o1, List.nil_append, List.nil_append]
            exact this
      · rw [if_neg lf] at h
        obtain ⟨x, hx, h⟩ := bind_some_eq h
        injection h with h
        subst h
        exact Or.inr (Or.inr ⟨_, _, _, _, _, _, _, _, _, _, _, hv, lf, rfl, rfl, rfl, rfl, rfl, rfl, rfl, ihm _ _ _ _ _ hwf' hx⟩)
theorem rpl_wv {T : zJ} {src : Nat → Nat} {s : Bool} {n u : Nat} {par : Int32} {lim : Nat} (hw : wfT T n u)
    (ih : ∀ u t0 dg par wh i o en p q, wfT T n u → en ≤ 960 → rdP T src s n u t0 dg par wh i o en p = some q → WV T n u t0 dg par wh i o q.2.1 q.2.2.1 q.2.2.2.1 q.2.2.2.2) (hlim : lim ≤ 960) :
    ∀ m k i o p q, rpL (rdP T src s n) u par lim m k i o p = some q → WVL (WV T n) u par m k i o q.2.1 q.2.2.1 q.2.2.2.1 q.2.2.2.2 := by
  intro m
  induction m with
  | zero =>
    intro k i o p q h
    unfold rpL at h
    injection h with h
    subst h
    exact ⟨rfl, rfl, rfl, rfl⟩
  | succ m ihm =>
    intro k i o p q h
    unfold rpL at h
    obtain ⟨r, hr, h⟩ := bind_some_eq h
    obtain ⟨x, hx, h⟩ := bind_some_eq h
    injection h with h
    subst h
    exact ⟨_, _, _, _, _, _, _, _, ih _ _ _ _ _ _ _ _ _ _ hw hlim hr, rfl, rfl, rfl, rfl, ihm _ _ _ _ _ hx⟩
theorem rp_wv {T : zJ} {src : Nat → Nat} {s : Bool} : ∀ n u t0 dg par wh i o en p q, n ≤ 6 → wfT T n u → en ≤ 960 → rdP T src s n u t0 dg par wh i o en p = some q → WV T n u t0 dg par wh i o q.2.1 q.2.2.1 q.2.2.2.1 q.2.2.2.2 := by
  intro n
  induction n with
  | zero => intro u t0 dg par wh i o en p q _ h; exact h.elim
  | succ n ih =>
    intro t t0 dg par wh i o en p q hn hw hen h
    have ih' : ∀ u t0 dg par wh i o en p q, wfT T n u → en ≤ 960 → rdP T src s n u t0 dg par wh i o en p = some q → WV T n u t0 dg par wh i o q.2.1 q.2.2.1 q.2.2.2.1 q.2.2.2.2 := fun u t0 dg par wh i o en p q => ih u t0 dg par wh i o en p q (by omega)
    unfold rdP rpB at h
    unfold WV WVb
    by_cases k10 : T 4 t = 10
    · rw [if_pos k10] at h
      have hw5 := (hw.2.2.2.2.2.2.2.1 k10).2.2.2.2
      by_cases x : isX T t = true
      · rw [if_pos x] at h
        obtain ⟨r, e2, h⟩ := bind_some_eq h
        injection h with h
        subst h
        have hv := ih' _ _ _ _ _ _ _ _ _ _ hw5 hen e2
        exact Or.inl ⟨k10, x, _, hv, rfl⟩
      · rw [if_neg x] at h
        exact Or.inr (Or.inl ⟨k10, x, ih' _ _ _ _ _ _ _ _ _ _ hw5 hen h⟩)
    · rw [if_neg k10] at h
      obtain ⟨_, h⟩ := ite_some h
      by_cases k9 : T 4 t = 9
      · rw [if_pos k9] at h
        obtain ⟨y, e1, h⟩ := bind_some_eq h
        obtain ⟨k, e2, h⟩ := bind_some_eq h
        obtain ⟨r, e3, h⟩ := bind_some_eq h
        injection h with h
        subst h
        obtain ⟨_, hk, _⟩ := altR_k _ _ e2
        have hk : k < cnt T t := by omega
        exact Or.inr (Or.inr (Or.inl ⟨k9, k, _, _, hk, rfl, ih' _ _ _ _ _ _ _ _ _ _ ((hw.2.2.2.2.2.2.2.2.1 (Or.inr k9)).2.2 k hk).2 hen e3, rfl⟩))
      · rw [if_neg k9] at h
        by_cases k6 : T 4 t = 6
        · rw [if_pos k6] at h
          obtain ⟨y, e1, h⟩ := bind_some_eq h
          obtain ⟨r, e2, h⟩ := bind_some_eq h
          injection h with h
          subst h
          obtain ⟨w1, w2, w3⟩ := hw.2.2.2.2.2.2.2.2.1 (Or.inl k6)
          have w10 := hw.2.2.2.2.2.2.2.2.2.1 k6
          obtain ⟨_, hyl, _⟩ := prs_le _ _ _ _ e1
          have hc := rpc_wv (show n ≤ 6 by omega) ih' hen y.2 0 (i + 1) o y.1 r (fun j' hj' => ⟨(w3 j' (by omega)).2, fun hf => by
            rcases w10 j' (by omega) with z | z | z
            · rw [z] at hf; exact absurd hf (by decide)
            · rw [z] at hf; exact absurd hf (by decide)
            · exact z.2⟩) e2
          rw [hyl] at hc
          exact Or.inr (Or.inr (Or.inr (Or.inl ⟨k6, _, _, _, _, _, _, rfl, hc, rfl, rfl⟩)))
        · rw [if_neg k6] at h
          by_cases k7 : T 4 t = 7
          · rw [if_pos k7] at h
            obtain ⟨y, e1, h⟩ := bind_some_eq h
            obtain ⟨r, e2, h⟩ := bind_some_eq h
            injection h with h
            subst h
            have hle := cntP_le hw (by rw [k7]; decide) e1
            exact Or.inr (Or.inr (Or.inr (Or.inr (Or.inl ⟨k7, _, _, _, _, hle, rfl, rpl_wv (hw.2.2.2.2.2.2.1 k7).2 ih' hen _ _ _ _ _ _ e2, rfl, rfl⟩))))
          · rw [if_neg k7] at h
            refine Or.inr (Or.inr (Or.inr (Or.inr (Or.inr ?_))))
            unfold rpPl at h
            by_cases k1 : T 4 t = 1
            · rw [if_pos k1] at h
              obtain ⟨_, h⟩ := ite_some h
              injection h with h
              subst h
              refine ⟨_, rfl, Or.inl ⟨k1, ?_, rfl, rfl, rfl⟩⟩
              rcases bit01 src p with z | z <;> rw [z]
              · exact Or.inl rfl
              · exact Or.inr rfl
            · rw [if_neg k1] at h
              by_cases k2 : T 4 t = 2
              · rw [if_pos k2] at h
                by_cases h1 : T 11 t = 1
                · rw [if_pos h1] at h
                  obtain ⟨y, e1, h⟩ := bind_some_eq h
                  injection h with h
                  subst h
                  exact ⟨_, rfl, Or.inr (Or.inl ⟨k2, rfl, rfl, rfl⟩)⟩
                · rw [if_neg h1] at h
                  obtain ⟨y, e1, h⟩ := bind_some_eq h
                  obtain ⟨_, h⟩ := ite_some h
                  injection h with h
                  subst h
                  exact ⟨_, rfl, Or.inr (Or.inl ⟨k2, rfl, rfl, rfl⟩)⟩
              · rw [if_neg k2] at h
                by_cases k4 : T 4 t = 4
                · rw [if_pos k4] at h
                  obtain ⟨y, e1, h⟩ := bind_some_eq h
                  obtain ⟨z, e2, h⟩ := bind_some_eq h
                  obtain ⟨c, h⟩ := ite_some h
                  injection h with h
                  subst h
                  refine ⟨_, rfl, Or.inr (Or.inr (Or.inl ⟨k4, ?_, ?_, octP_lt src _ _, rfl, rfl⟩))⟩
                  · show nI y.2 = nI (octP src z y.2).length
                    rw [octP_len]
                  · show (octP src z y.2).length ≤ 120
                    rw [octP_len]
                    omega
                · rw [if_neg k4] at h
                  injection h with h
                  subst h
                  have k5 : T 4 t = 5 := by
                    rcases hw.2.1 with y | y | y | y | y | y | y | y
                    · exact absurd y k1
                    · exact absurd y k2
                    · exact absurd y k4
                    · exact y
                    · exact absurd y k6
                    · exact absurd y k7
                    · exact absurd y k9
                    · exact absurd y k10
                  exact ⟨_, rfl, Or.inr (Or.inr (Or.inr ⟨k5, rfl, rfl, rfl, rfl⟩))⟩
