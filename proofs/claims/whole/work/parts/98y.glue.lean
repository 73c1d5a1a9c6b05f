/-! VALUES from desk to desk: reading and writing put together, keeping, loading -/
/-- the bytes of a value by rules l3 -/
def wB (l3 : Nat) (r : Rs) : List Nat := if l3 = 2 then pkB (pkA r.2.2.2) else r.2.2.1
theorem c_read {M : zM} {T D : zJ} {src : Nat → Nat} {st L a t l2 : Nat} (hs : sOK src) (hw : wfT T 6 t) (hr : rep M T 6 a t) (h5 : D 0 5 = nI (st + L)) (hb : ∀ k, k < L → D 6 (st + k) = nI (src k)) (hL : st + L ≤ 120) (hl2 : l2 ≤ 2) :
    ∃ D', Ev (fun N => FD_readBuffer N M (some a) (nI l2) (nI st) D = some ((rdV T src t L l2).isSome, D')) ∧ kpK D D' ∧ ∀ r, rdV T src t L l2 = some r → sH T D' r.1.length 0 0 r.1 r.2.1 ∧ D' 16 8 = nI r.2.1.length ∧ r.1.length ≤ 100 ∧ r.2.1.length ≤ L := by
  have hz : kpK D (zu (zu D 16 0 0) 16 8 0) := fun c hc => by rw [zu_ne _ _ _ (by omega), zu_ne _ _ _ (by omega)]
  have z5 : zu (zu D 16 0 0) 16 8 0 0 5 = nI (st + L) := by rw [hz 0 (by omega)]; exact h5
  have z6 : ∀ k, k < L → zu (zu D 16 0 0) 16 8 0 6 (st + k) = nI (src k) := fun k hk => by rw [hz 6 (by omega)]; exact hb k hk
  have z0 : zu (zu D 16 0 0) 16 8 0 16 0 = 0 := by rw [zu_at, if_neg (by omega), zu_self]
  have z8 : zu (zu D 16 0 0) 16 8 0 16 8 = 0 := zu_self _ _ _ _
  have done : ∀ D' r, kpK (zu (zu D 16 0 0) 16 8 0) D' → D' 16 0 = nI (r : Rs).1.length → r.1.length ≤ 100 → r.2.1.length ≤ L → cH T D' 0 r.1 → cO D' 0 r.2.1 → sH T D' r.1.length 0 0 r.1 r.2.1 := fun D' r _ h2 h3 h4 h5 h6 => ⟨h2, h3, by omega, h5, h6, by omega⟩
  by_cases c2 : l2 = 2
  · have hV : rdV T src t L l2 = rdPA T src t L := by unfold rdV; rw [if_pos c2]
    obtain ⟨r1, r2⟩ := kp_readAll (M := M) (D := zu (zu D 16 0 0) 16 8 0) hs hw hr z0 z8 z6 hL
    have hN : ∀ N b D', FP_readAll N M (some a) (nI st) (nI (st + L)) (zu (zu D 16 0 0) 16 8 0) = some (b, D') → FD_readBuffer N M (some a) (nI l2) (nI st) D = some (b, D') := by
      intro N b D' h
      unfold FD_readBuffer FV_empty
      simp only
      rw [qb_some, if_pos (by rw [c2]; decide), z5, h, qb_some]
    rw [hV]
    cases hrd : rdPA T src t L with
    | none =>
      obtain ⟨D', e1, e2⟩ := r1 hrd
      exact ⟨D', ev_mono e1 (fun N h => hN N _ _ h), kpK_trans hz e2, fun r h => by cases h⟩
    | some r =>
      obtain ⟨D', e1, e2, e3, e4, e5, e6, e7, e8⟩ := r2 r hrd
      refine ⟨D', ev_mono e1 (fun N h => hN N _ _ h), kpK_trans hz e2, fun r' h => ?_⟩
      injection h with h
      subst h
      exact ⟨done D' r e2 e3 e5 e6 e7 e8, e4, e5, e6⟩
  · have hV : rdV T src t L l2 = rdA T src (decide (l2 = 1)) t L := by unfold rdV; rw [if_neg c2]
    obtain ⟨r1, r2⟩ := c_readAll (M := M) (D := zu (zu D 16 0 0) 16 8 0) (decide (l2 = 1)) hs hw hr z0 z8 z6 hL
    have hN : ∀ N b D', FO_readAll N M (some a) (nI st) (nI (st + L)) (bI (decide (l2 = 1))) (zu (zu D 16 0 0) 16 8 0) = some (b, D') → FD_readBuffer N M (some a) (nI l2) (nI st) D = some (b, D') := by
      intro N b D' h
      unfold FD_readBuffer FV_empty
      simp only
      rw [qb_some, if_neg (by rw [show (2 : Int32) = nI 2 from rfl, nI_eq (by omega) (by omega)]; exact c2), z5]
      by_cases c1 : l2 = 1
      · rw [if_pos (by rw [c1]; decide)]
        rw [decide_eq_true c1] at h
        unfold FD_readBuffer_46
        rw [show (1 : Int32) = bI true from rfl, h, qb_some]
      · rw [if_neg (by rw [show (1 : Int32) = nI 1 from rfl, nI_eq (by omega) (by omega)]; exact c1)]
        rw [decide_eq_false c1] at h
        unfold FD_readBuffer_46
        have h : FO_readAll N M (some a) (nI st) (nI (st + L)) 0 (zu (zu D 16 0 0) 16 8 0) = some (b, D') := h
        rw [h, qb_some]
    have hck : ∀ D', cK (zu (zu D 16 0 0) 16 8 0) D' → kpK (zu (zu D 16 0 0) 16 8 0) D' := fun D' h c hc => h c (by omega)
    rw [hV]
    cases hrd : rdA T src (decide (l2 = 1)) t L with
    | none =>
      obtain ⟨D', e1, e2⟩ := r1 hrd
      exact ⟨D', ev_mono e1 (fun N h => hN N _ _ h), kpK_trans hz (hck _ e2), fun r h => by cases h⟩
    | some r =>
      obtain ⟨D', e1, e2, e3, e4, e5, e6, e7, e8⟩ := r2 r hrd
      refine ⟨D', ev_mono e1 (fun N h => hN N _ _ h), kpK_trans hz (hck _ e2), fun r' h => ?_⟩
      injection h with h
      subst h
      exact ⟨done D' r (hck _ e2) e3 e5 e6 e7 e8, e4, e5, e6⟩
theorem c_write {M : zM} {T D : zJ} {a t st l3 : Nat} {r : Rs} (hw : wfT T 6 t) (hr : rep M T 6 a t) (hv : WV T 6 t t none (-1) 0 0 0 r.1 r.2.1 r.2.2.1 r.2.2.2) (hH : sH T D r.1.length 0 0 r.1 r.2.1) (hst : st ≤ 119) (hl3 : l3 = 1 ∨ l3 = 2) :
    ∃ D', (∀ c, c ≠ 7 → c ≠ 26 → c ≠ 27 → D' c = D c) ∧ (∀ k, k < st → st + (wB l3 r).length ≤ 120 → D' 7 k = D 7 k) ∧ ((st + (wB l3 r).length ≤ 120 ∧ Ev (fun N => FD_writeFound N M (some a) (nI l3) (nI st) D = some (nI (st + (wB l3 r).length), D')) ∧ ∀ k b, (wB l3 r)[k]? = some b → D' 7 (st + k) = nI b) ∨ (¬ st + (wB l3 r).length ≤ 120 ∧ Ev (fun N => FD_writeFound N M (some a) (nI l3) (nI st) D = some (-1, D')))) := by
  rcases hl3 with rfl | rfl
  · obtain ⟨D', h1, h2, h3⟩ := s_writeAll (M := M) (D := D) (st := st) hw hr hv hH (by omega)
    have hN : ∀ N v, FS_writeAll N M (some a) (nI st) D = some (v, D') → FD_writeFound N M (some a) (nI 1) (nI st) D = some (v, D') := by
      intro N v h
      unfold FD_writeFound
      rw [if_neg (by decide), h, qb_some]
    refine ⟨D', fun c a b _ => h1 c a b, h2, ?_⟩
    rcases h3 with ⟨g1, g2, g3⟩ | ⟨g1, g2⟩
    · exact Or.inl ⟨g1, ev_mono g2 (fun N h => hN N _ h), g3⟩
    · exact Or.inr ⟨g1, ev_mono g2 (fun N h => hN N _ h)⟩
  · obtain ⟨D', h1, h2, h3⟩ := qP_writeAll (M := M) (D := D) (st := st) hw hr hv hH hst
    have hN : ∀ N v, FQ_writeAll N M (some a) (nI st) D = some (v, D') → FD_writeFound N M (some a) (nI 2) (nI st) D = some (v, D') := by
      intro N v h
      unfold FD_writeFound
      rw [if_pos (by decide), h, qb_some]
    refine ⟨D', fun c a _ b => h1 c a b, h2, ?_⟩
    rcases h3 with ⟨g1, g2, g3⟩ | ⟨g1, g2⟩
    · exact Or.inl ⟨g1, ev_mono g2 (fun N h => hN N _ h), g3⟩
    · exact Or.inr ⟨g1, ev_mono g2 (fun N h => hN N _ h)⟩
theorem m_wr {T J : zJ} {t l3 : Nat} {r : Rs} (hw : wfT T 6 t) (hv : WV T 6 t t none (-1) 0 0 0 r.1 r.2.1 r.2.2.1 r.2.2.2) (hT : tyEq T J) (hk : vOk T J r) (hl3 : l3 = 1 ∨ l3 = 2) :
    ∃ J', Ev (fun N => FM_write N (nI l3) J = some ((), J')) ∧ J' 0 29 = nI (wB l3 r).length ∧ (wB l3 r).length ≤ 2920 ∧ (∀ k b, (wB l3 r)[k]? = some b → J' 20 k = nI b) ∧ wrK J J' := by
  obtain ⟨k1, k2, k3, k4, k5, k6, k7⟩ := hk
  rcases hl3 with rfl | rfl
  · exact m_write1 hw hv hT k5 k7 k6 k4 k3 k1
  · exact m_write2 hw hv hT k5 k7 k6 k4 k3 k1
/-- the parts of a value: their types; where octets lie -/
def pOk (T : zJ) (o no : Nat) (P : Pt) : Prop := (∃ m, m ≤ 6 ∧ wfT T m (pT P) ∧ pB P = bas T m (pT P)) ∧ (T 4 (pB P) = 4 → ∃ c, pV P = nI c ∧ o ≤ pF P ∧ pF P + c ≤ o + no)
theorem pOk_mono {T : zJ} {o no o' no' : Nat} {P : Pt} (h1 : o' ≤ o) (h2 : o + no ≤ o' + no') (h : pOk T o no P) : pOk T o' no' P := by
  refine ⟨h.1, fun k => ?_⟩
  obtain ⟨c, c1, c2, c3⟩ := h.2 k
  exact ⟨c, c1, by omega, by omega⟩
theorem wvc_parts {T : zJ} {n t : Nat} {par : Int32} (hn : n ≤ 6) (ih : ∀ t t0 dg par wh i o blk os e pk, wfT T n t → (∃ m, m ≤ 6 ∧ wfT T m t0 ∧ bas T m t0 = bas T n t) → WV T n t t0 dg par wh i o blk os e pk → ∀ P, P ∈ blk → pOk T o os.length P) : ∀ m j i o b os c ma pk num sh, (∀ j', j' < j + m → wfT T n (chd T (6 * t + j')) ∧ (T 14 (6 * t + j') = 2 → T 4 (bas T 6 (chd T (6 * t + j'))) = 1 ∨ T 4 (bas T 6 (chd T (6 * t + j'))) = 2)) → WVC T (WV T n) t par m j i o b os c ma pk num sh → ∀ P, P ∈ b → pOk T o os.length P := by
  intro m
  induction m with
  | zero =>
    intro j i o b os c ma pk num sh _ h P hP
    obtain ⟨rfl, _⟩ := h
    simp at hP
  | succ m ihm =>
    intro j i o b os c ma pk num sh hwf h P hP
    have hwf' : ∀ j', j' < j + 1 + m → wfT T n (chd T (6 * t + j')) ∧ (T 14 (6 * t + j') = 2 → T 4 (bas T 6 (chd T (6 * t + j'))) = 1 ∨ T 4 (bas T 6 (chd T (6 * t + j'))) = 2) := fun j' hj' => hwf j' (by omega)
    unfold WVC at h
    rcases h with ⟨_, ma', _, h⟩ | ⟨k2, b', ma', num', hb, _, _, h⟩ | ⟨b1, os1, e1, k1, b', os', c', ma', pk', num', sh', hv1, _, hb, ho, hc, _, _, _, _, h⟩
    · exact ihm _ _ _ _ _ _ _ _ _ _ hwf' h P hP
    · subst hb
      rcases List.mem_cons.mp hP with hP | hP
      · subst hP
        obtain ⟨w1, w2⟩ := hwf j (by omega)
        refine ⟨⟨n, hn, w1, (bas_wf n 6 _ w1 hn).1⟩, fun h4 => ?_⟩
        have h4 : T 4 (bas T 6 (chd T (6 * t + j))) = 4 := h4
        rcases w2 k2 with w | w <;> rw [w] at h4 <;> exact absurd h4 (by decide)
      · exact ihm _ _ _ _ _ _ _ _ _ _ hwf' h P hP
    · subst hb ho
      rw [List.length_append]
      rcases List.mem_append.mp hP with hP | hP
      · exact pOk_mono (Nat.le_refl _) (by omega) (ih _ _ _ _ _ _ _ _ _ _ _ (hwf j (by omega)).1 ⟨n, hn, (hwf j (by omega)).1, rfl⟩ hv1 P hP)
      · exact pOk_mono (by omega) (by omega) (ihm _ _ _ _ _ _ _ _ _ _ hwf' h P hP)
theorem wvl_parts {T : zJ} {n u : Nat} {par : Int32} (hn : n ≤ 6) (hw : wfT T n u) (ih : ∀ t t0 dg par wh i o blk os e pk, wfT T n t → (∃ m, m ≤ 6 ∧ wfT T m t0 ∧ bas T m t0 = bas T n t) → WV T n t t0 dg par wh i o blk os e pk → ∀ P, P ∈ blk → pOk T o os.length P) : ∀ m k i o b os c pk, WVL (WV T n) u par m k i o b os c pk → ∀ P, P ∈ b → pOk T o os.length P := by
  intro m
  induction m with
  | zero =>
    intro k i o b os c pk h P hP
    obtain ⟨rfl, _⟩ := h
    simp at hP
  | succ m ihm =>
    intro k i o b os c pk h P hP
    obtain ⟨b1, os1, e1, k1, b', os', c', pk', hv1, hb, ho, hc, _, h⟩ := h
    subst hb ho
    rw [List.length_append]
    rcases List.mem_append.mp hP with hP | hP
    · exact pOk_mono (Nat.le_refl _) (by omega) (ih _ _ _ _ _ _ _ _ _ _ _ hw ⟨n, hn, hw, rfl⟩ hv1 P hP)
    · exact pOk_mono (by omega) (by omega) (ihm _ _ _ _ _ _ _ h P hP)
theorem wv_parts {T : zJ} : ∀ n, n ≤ 6 → ∀ t t0 dg par wh i o blk os e pk, wfT T n t → (∃ m, m ≤ 6 ∧ wfT T m t0 ∧ bas T m t0 = bas T n t) → WV T n t t0 dg par wh i o blk os e pk → ∀ P, P ∈ blk → pOk T o os.length P := by
  intro n
  induction n with
  | zero => intro hn t t0 dg par wh i o blk os e pk h; exact h.elim
  | succ n ih =>
    intro hn t t0 dg par wh i o blk os e pk hw h0 h P hP
    have ih := ih (by omega)
    unfold WV WVb at h
    rcases h with ⟨k10, _, e1, h, he⟩ | ⟨k10, _, h⟩ | ⟨k9, k, b1, k1, hk, hb, h, _⟩ | ⟨k6, num, sh, ma, b1, c, k1, hb, h, he, _⟩ | ⟨k7, m, b1, c, k1, _, hb, h, he, _⟩ | ⟨v, hb, h⟩
    · have hb : bas T (n + 1) t = bas T n (chd T (6 * t)) := by
        show (if T 4 t = 10 then _ else _) = _
        rw [if_pos k10]
      rw [hb] at h0
      exact ih _ _ _ _ _ _ _ _ _ _ _ (hw.2.2.2.2.2.2.2.1 k10).2.2.2.2 h0 h P hP
    · have hb : bas T (n + 1) t = bas T n (chd T (6 * t)) := by
        show (if T 4 t = 10 then _ else _) = _
        rw [if_pos k10]
      rw [hb] at h0
      exact ih _ _ _ _ _ _ _ _ _ _ _ (hw.2.2.2.2.2.2.2.1 k10).2.2.2.2 h0 h P hP
    · rw [bas_self (by rw [k9]; decide)] at h0
      obtain ⟨m, m1, m2, m3⟩ := h0
      subst hb
      rcases List.mem_cons.mp hP with hP | hP
      · subst hP
        refine ⟨⟨m, m1, m2, m3.symm⟩, fun h4 => ?_⟩
        have h4 : T 4 t = 4 := h4
        rw [k9] at h4
        exact absurd h4 (by decide)
      · have w := ((hw.2.2.2.2.2.2.2.2.1 (Or.inr k9)).2.2 k hk).2
        exact ih _ _ _ _ _ _ _ _ _ _ _ w ⟨n, by omega, w, rfl⟩ h P hP
    · rw [bas_self (by rw [k6]; decide)] at h0
      obtain ⟨m, m1, m2, m3⟩ := h0
      subst hb
      rcases List.mem_cons.mp hP with hP | hP
      · subst hP
        refine ⟨⟨m, m1, m2, m3.symm⟩, fun h4 => ?_⟩
        have h4 : T 4 t = 4 := h4
        rw [k6] at h4
        exact absurd h4 (by decide)
      · obtain ⟨w1, w2, w3⟩ := hw.2.2.2.2.2.2.2.2.1 (Or.inl k6)
        have w4 := hw.2.2.2.2.2.2.2.2.2.1 k6
        refine wvc_parts (by omega) ih _ _ _ _ _ _ _ _ _ _ _ (fun j' hj' => ⟨(w3 j' (by omega)).2, fun q => ?_⟩) h P hP
        rcases w4 j' (by omega) with w | w | w
        · rw [w] at q; exact absurd q (by decide)
        · rw [w] at q; exact absurd q (by decide)
        · exact w.2
    · rw [bas_self (by rw [k7]; decide)] at h0
      obtain ⟨m', m1, m2, m3⟩ := h0
      subst hb
      rcases List.mem_cons.mp hP with hP | hP
      · subst hP
        refine ⟨⟨m', m1, m2, m3.symm⟩, fun h4 => ?_⟩
        have h4 : T 4 t = 4 := h4
        rw [k7] at h4
        exact absurd h4 (by decide)
      · exact wvl_parts (by omega) (hw.2.2.2.2.2.2.1 k7).2 ih _ _ _ _ _ _ _ _ h P hP
    · have hk : T 4 t ≠ 10 := by
        rcases h with h | h | h | h <;> rw [h.1] <;> decide
      rw [bas_self hk] at h0
      obtain ⟨m, m1, m2, m3⟩ := h0
      subst hb
      simp at hP
      subst hP
      refine ⟨⟨m, m1, m2, m3.symm⟩, fun h4 => ?_⟩
      have h4 : T 4 t = 4 := h4
      rcases h with ⟨k, _⟩ | ⟨k, _⟩ | ⟨k, h, _⟩ | ⟨k, _⟩
      · rw [k] at h4; exact absurd h4 (by decide)
      · rw [k] at h4; exact absurd h4 (by decide)
      · exact ⟨os.length, h, Nat.le_refl _, Nat.le_refl _⟩
      · rw [k] at h4; exact absurd h4 (by decide)
theorem wv_ob {T : zJ} : ∀ n t t0 dg par wh i o blk os e pk, WV T n t t0 dg par wh i o blk os e pk → ∀ b, b ∈ os → b < 256 := by
  intro n
  induction n with
  | zero => intro t t0 dg par wh i o blk os e pk h; exact h.elim
  | succ n ih =>
    intro t t0 dg par wh i o blk os e pk h x hx
    have hc : ∀ {t : Nat} {par : Int32} m j i o b os c ma pk num sh, WVC T (WV T n) t par m j i o b os c ma pk num sh → ∀ x, x ∈ os → x < 256 := by
      intro t par m
      induction m with
      | zero =>
        intro j i o b os c ma pk num sh h x hx
        obtain ⟨_, rfl, _⟩ := h
        simp at hx
      | succ m ihm =>
        intro j i o b os c ma pk num sh h x hx
        unfold WVC at h
        rcases h with ⟨_, ma', _, h⟩ | ⟨k2, b', ma', num', hb, _, _, h⟩ | ⟨b1, os1, e1, k1, b', os', c', ma', pk', num', sh', hv1, _, hb, ho, hc, _, _, _, _, h⟩
        · exact ihm _ _ _ _ _ _ _ _ _ _ h x hx
        · exact ihm _ _ _ _ _ _ _ _ _ _ h x hx
        · subst ho
          rcases List.mem_append.mp hx with hx | hx
          · exact ih _ _ _ _ _ _ _ _ _ _ _ hv1 x hx
          · exact ihm _ _ _ _ _ _ _ _ _ _ h x hx
    have hl : ∀ {u : Nat} {par : Int32} m k i o b os c pk, WVL (WV T n) u par m k i o b os c pk → ∀ x, x ∈ os → x < 256 := by
      intro u par m
      induction m with
      | zero =>
        intro k i o b os c pk h x hx
        obtain ⟨_, rfl, _⟩ := h
        simp at hx
      | succ m ihm =>
        intro k i o b os c pk h x hx
        obtain ⟨b1, os1, e1, k1, b', os', c', pk', hv1, hb, ho, hc, _, h⟩ := h
        subst ho
        rcases List.mem_append.mp hx with hx | hx
        · exact ih _ _ _ _ _ _ _ _ _ _ _ hv1 x hx
        · exact ihm _ _ _ _ _ _ _ h x hx
    unfold WV WVb at h
    rcases h with ⟨k10, _, e1, h, he⟩ | ⟨k10, _, h⟩ | ⟨k9, k, b1, k1, hk, hb, h, _⟩ | ⟨k6, num, sh, ma, b1, c, k1, hb, h, he, _⟩ | ⟨k7, m, b1, c, k1, _, hb, h, he, _⟩ | ⟨v, hb, h⟩
    · exact ih _ _ _ _ _ _ _ _ _ _ _ h x hx
    · exact ih _ _ _ _ _ _ _ _ _ _ _ h x hx
    · exact ih _ _ _ _ _ _ _ _ _ _ _ h x hx
    · exact hc _ _ _ _ _ _ _ _ _ _ _ h x hx
    · exact hl _ _ _ _ _ _ _ _ h x hx
    · rcases h with ⟨_, _, h, _⟩ | ⟨_, h, _⟩ | ⟨_, _, _, h, _⟩ | ⟨_, _, h, _⟩
      · subst h; simp at hx
      · subst h; simp at hx
      · exact h x hx
      · subst h; simp at hx
/-- keep() of the reference -/
def kKp (J J' : zJ) : Prop := ∀ c k, c ≠ 16 → c ≠ 17 → c ≠ 29 → c ≠ 30 → ¬ (c = 0 ∧ (k = 23 ∨ k = 24 ∨ k = 44)) → J' c k = J c k
def kPt (T J : zJ) (k : Nat) (P : Pt) : Prop := J 29 (5 * k) = T 4 (pB P) ∧ J 29 (5 * k + 1) = pV P ∧ J 29 (5 * k + 2) = nI (pW P) ∧ J 29 (5 * k + 3) = pA P ∧ J 29 (5 * k + 4) = nI (pF P)
theorem m_keep {T J : zJ} {blk : List Pt} {os : List Nat} (hT : tyEq T J) (hp : ∀ P, P ∈ blk → ∃ m, m ≤ 6 ∧ wfT T m (pT P) ∧ pB P = bas T m (pT P)) (h34 : J 0 34 = nI blk.length) (h35 : J 0 35 = nI os.length) (hl : blk.length ≤ 100) (ho : os.length ≤ 120) (hH : mH J 0 blk) (hO : mO J 0 os) :
    ∃ J', Ev (fun N => FM_keep N J = some ((), J')) ∧ J' 0 44 = nI blk.length ∧ (∀ k P, blk[k]? = some P → kPt T J' k P) ∧ (∀ k b, os[k]? = some b → J' 30 k = nI b) ∧ kKp J J' := by
  have l2 : ∀ J2 : zJ, J2 0 35 = nI os.length → mO J2 0 os → ∃ J', Ev (fun N => qfix (FM_keep_108 N) N (0, J2) = some ((), J')) ∧ (∀ k b, os[k]? = some b → J' 30 k = nI b) ∧ (∀ c k, c ≠ 30 → J' c k = J2 c k) := by
    intro J2 g35 gO
    let f : Nat → zJ := fun s => fun c k => if c = 30 ∧ k < s then J2 28 k else J2 c k
    have f0 : f 0 = J2 := by
      funext c k
      show (if _ then _ else _) = _
      rw [if_neg (by omega)]
    have fo : ∀ s c k, c ≠ 30 → f s c k = J2 c k := fun s c k hc => by
      show (if _ then _ else _) = _
      rw [if_neg (by omega)]
    have fs : ∀ s, zu (f s) 30 s (J2 28 s) = f (s + 1) := by
      intro s
      funext c k
      rw [zu_at]
      show (if _ then _ else (if _ then _ else _)) = (if _ then _ else _)
      by_cases h1 : c = 30 ∧ k = s
      · rw [if_pos h1, if_pos (by omega), h1.2]
      · rw [if_neg h1]
        by_cases h2 : c = 30 ∧ k < s
        · rw [if_pos h2, if_pos (by omega)]
        · rw [if_neg h2, if_neg (by omega)]
    refine ⟨f os.length, ?_, fun k b hb => ?_, fun c k hc => fo _ c k hc⟩
    · have := ev_loop (B := fun N => FM_keep_108 N) (r := some ((), f os.length)) (fun s => (nI s, f s)) os.length (ev_of (fun N s hs K => ?_)) (ev_of (fun N K => ?_))
      · rw [f0] at this
        exact this
      · simp only [FM_keep_108]
        rw [fo s 0 35 (by omega), g35, if_neg (by rw [nI_leI (by omega) (by omega)]; omega), qk_t (qi_nI (by omega) (by omega)), qk_t (qi_nI (by omega) (by omega)), nI_clamp (by omega), fo s 28 s (by omega), fs, nI_add1]
      · simp only [FM_keep_108]
        rw [fo _ 0 35 (by omega), g35, if_pos (by rw [nI_leI (by omega) (by omega)]; omega)]
    · have := (List.getElem?_eq_some_iff.mp hb).1
      show (if _ then _ else _) = _
      rw [if_pos ⟨rfl, this⟩]
      have := gO k b hb
      rw [Nat.zero_add] at this
      exact this
  -- the parts
  have l1 : ∀ m s (J1 : zJ), s + m = blk.length → kKp J J1 → J1 0 44 = nI blk.length → (∀ k P, k < s → blk[k]? = some P → kPt T J1 k P) → ∃ J', Ev (fun N => ∀ F, m + 1 ≤ F → qfix (FM_keep_10 N) F (nI s, J1) = some ((), J')) ∧ J' 0 44 = nI blk.length ∧ (∀ k P, blk[k]? = some P → kPt T J' k P) ∧ (∀ k b, os[k]? = some b → J' 30 k = nI b) ∧ kKp J J' := by
    intro m
    induction m with
    | zero =>
      intro s J1 hs hk h44 hpt
      have g35 : J1 0 35 = nI os.length := by rw [hk 0 35 (by omega) (by omega) (by omega) (by omega) (by omega)]; exact h35
      have g34 : J1 0 34 = nI blk.length := by rw [hk 0 34 (by omega) (by omega) (by omega) (by omega) (by omega)]; exact h34
      have gO : mO J1 0 os := fun k b hb => by rw [hk 28 _ (by omega) (by omega) (by omega) (by omega) (by omega)]; exact hO k b hb
      obtain ⟨J', e1, e2, e3⟩ := l2 J1 g35 gO
      refine ⟨J', ev_mono e1 (fun N hN F hF => ?_), by rw [e3 _ _ (by omega)]; exact h44, fun k P hP => ?_, e2, fun c k a b c' d e => by rw [e3 c k d]; exact hk c k a b c' d e⟩
      · obtain ⟨F, rfl⟩ : ∃ g, F = g + 1 := ⟨F - 1, by omega⟩
        rw [qfix_s]
        simp only [FM_keep_10]
        rw [g34, if_pos (by rw [nI_leI (by omega) (by omega)]; omega)]
        exact hN
      · have := (List.getElem?_eq_some_iff.mp hP).1
        obtain ⟨q1, q2, q3, q4, q5⟩ := hpt k P (by omega) hP
        exact ⟨by rw [e3 _ _ (by omega)]; exact q1, by rw [e3 _ _ (by omega)]; exact q2, by rw [e3 _ _ (by omega)]; exact q3, by rw [e3 _ _ (by omega)]; exact q4, by rw [e3 _ _ (by omega)]; exact q5⟩
    | succ m ih =>
      intro s J1 hs hk h44 hpt
      have hsl : s < blk.length := by omega
      obtain ⟨P, hP⟩ : ∃ P, blk[s]? = some P := ⟨_, List.getElem?_eq_getElem hsl⟩
      have g34 : J1 0 34 = nI blk.length := by rw [hk 0 34 (by omega) (by omega) (by omega) (by omega) (by omega)]; exact h34
      obtain ⟨w, w1, w2, w3⟩ := hp P (List.mem_of_getElem? hP)
      obtain ⟨p1, p2, p3, p4, p5⟩ := hH s P hP
      rw [Nat.zero_add] at p1 p2 p3 p4 p5
      have hT1 : tyEq T J1 := fun c k c1 c2 => by rw [hk c k (by omega) (by omega) (by omega) (by omega) (by omega)]; exact hT c k c1 c2
      obtain ⟨J2, u1, u2, u3, u4⟩ := m_unw w2 w1 hT1
      have u4 : ∀ c k, c ≠ 16 → c ≠ 17 → ¬ (c = 0 ∧ (k = 23 ∨ k = 24)) → J2 c k = J1 c k := fun c k a b d => u4 c k a (by omega) d
      have hbl := bas_lt w _ w2
      have k2 : ∀ c k, c ≠ 16 → c ≠ 17 → c ≠ 29 → c ≠ 30 → ¬ (c = 0 ∧ (k = 23 ∨ k = 24 ∨ k = 44)) → J2 c k = J c k := fun c k a b d e f => by rw [u4 c k a b (by omega)]; exact hk c k a b d e f
      have v4 : J2 4 (bas T w (pT P)) = T 4 (bas T w (pT P)) := by rw [u4 4 _ (by omega) (by omega) (by omega)]; exact hT1 4 _ (by omega) (by omega)
      let J5 := zu (zu (zu (zu (zu J2 29 (5 * s) (T 4 (pB P))) 29 (5 * s + 1) (pV P)) 29 (5 * s + 2) (nI (pW P))) 29 (5 * s + 3) (pA P)) 29 (5 * s + 4) (nI (pF P))
      have z : ∀ c k, ¬ (c = 29 ∧ 5 * s ≤ k ∧ k ≤ 5 * s + 4) → J5 c k = J2 c k := by
        intro c k h
        show zu _ _ _ _ c k = _
        rw [zu_at, if_neg (by omega), zu_at, if_neg (by omega), zu_at, if_neg (by omega), zu_at, if_neg (by omega), zu_at, if_neg (by omega)]
      have hk5 : kKp J J5 := fun c k a b d e f => by rw [z c k (by omega)]; exact k2 c k a b d e f
      have hpt5 : ∀ k P', k < s + 1 → blk[k]? = some P' → kPt T J5 k P' := by
        intro k P' hks hP'
        by_cases hkn : k = s
        · subst hkn
          rw [hP] at hP'
          injection hP' with hP'
          subst hP'
          refine ⟨?_, ?_, ?_, ?_, ?_⟩
          · show zu _ _ _ _ _ _ = _
            rw [zu_at, if_neg (by omega), zu_at, if_neg (by omega), zu_at, if_neg (by omega), zu_at, if_neg (by omega), zu_self]
          · show zu _ _ _ _ _ _ = _
            rw [zu_at, if_neg (by omega), zu_at, if_neg (by omega), zu_at, if_neg (by omega), zu_self]
          · show zu _ _ _ _ _ _ = _
            rw [zu_at, if_neg (by omega), zu_at, if_neg (by omega), zu_self]
          · show zu _ _ _ _ _ _ = _
            rw [zu_at, if_neg (by omega), zu_self]
          · exact zu_self _ _ _ _
        · obtain ⟨q1, q2, q3, q4, q5⟩ := hpt k P' (by omega) hP'
          refine ⟨?_, ?_, ?_, ?_, ?_⟩
          · rw [z _ _ (by omega), u4 _ _ (by omega) (by omega) (by omega)]; exact q1
          · rw [z _ _ (by omega), u4 _ _ (by omega) (by omega) (by omega)]; exact q2
          · rw [z _ _ (by omega), u4 _ _ (by omega) (by omega) (by omega)]; exact q3
          · rw [z _ _ (by omega), u4 _ _ (by omega) (by omega) (by omega)]; exact q4
          · rw [z _ _ (by omega), u4 _ _ (by omega) (by omega) (by omega)]; exact q5
      obtain ⟨J', i1, i2⟩ := ih (s + 1) J5 (by omega) hk5 (by rw [z _ _ (by omega), u4 _ _ (by omega) (by omega) (by omega)]; exact h44) hpt5
      refine ⟨J', ev_mono (ev_and u1 i1) (fun N hN F hF => ?_), i2⟩
      obtain ⟨F, rfl⟩ : ∃ g, F = g + 1 := ⟨F - 1, by omega⟩
      rw [qfix_s]
      have j21 : J1 21 s = nI (pT P) := by rw [hk 21 s (by omega) (by omega) (by omega) (by omega) (by omega)]; exact p1
      have j22 : J2 22 s = pV P := by rw [k2 22 s (by omega) (by omega) (by omega) (by omega) (by omega)]; exact p2
      have j23 : J2 23 s = nI (pW P) := by rw [k2 23 s (by omega) (by omega) (by omega) (by omega) (by omega)]; exact p3
      have j24 : J2 24 s = pA P := by rw [k2 24 s (by omega) (by omega) (by omega) (by omega) (by omega)]; exact p4
      have j25 : J2 25 s = nI (pF P) := by rw [k2 25 s (by omega) (by omega) (by omega) (by omega) (by omega)]; exact p5
      have e5 : (5 : Int32) * nI s = nI (5 * s) := by rw [show (5 : Int32) = nI 5 from rfl, nI_mul]
      have hb : FM_baseOf N (nI s) J1 = some (nI (pB P), J2) := by
        unfold FM_baseOf
        rw [qk_t (qi_nI (by omega) (by omega)), nI_clamp (by omega), j21, hN.1, qb_some, u2, w3]
      simp only [FM_keep_10]
      rw [g34, if_neg (by rw [nI_leI (by omega) (by omega)]; omega), hb, qb_some, e5, nI_p1, nI_p2, nI_p3, nI_p4, nI_p1]
      have q1 : qi (nI (pB P)) 160 = true := by rw [w3]; exact qi_nI hbl (by omega)
      rw [qk_t q1, qk_t (qi_nI (k := 5 * s) (n := 500) (by omega) (by omega)), qk_t (qi_nI (k := s) (n := 100) (by omega) (by omega)), qk_t (qi_nI (k := 5 * s + 1) (n := 500) (by omega) (by omega)), qk_t (qi_nI (k := s) (n := 100) (by omega) (by omega)), qk_t (qi_nI (k := 5 * s + 2) (n := 500) (by omega) (by omega)), qk_t (qi_nI (k := s) (n := 100) (by omega) (by omega)), qk_t (qi_nI (k := 5 * s + 3) (n := 500) (by omega) (by omega)), qk_t (qi_nI (k := s) (n := 100) (by omega) (by omega)), qk_t (qi_nI (k := 5 * s + 4) (n := 500) (by omega) (by omega))]
      rw [nI_clamp (show pB P < 2 ^ 31 by rw [w3]; omega), nI_clamp (show 5 * s < 2 ^ 31 by omega), nI_clamp (show 5 * s + 1 < 2 ^ 31 by omega), nI_clamp (show 5 * s + 2 < 2 ^ 31 by omega), nI_clamp (show 5 * s + 3 < 2 ^ 31 by omega), nI_clamp (show 5 * s + 4 < 2 ^ 31 by omega), nI_clamp (show s < 2 ^ 31 by omega)]
      rw [zu_ne _ _ _ (show (25 : Nat) ≠ 29 by omega), zu_ne _ _ _ (show (25 : Nat) ≠ 29 by omega), zu_ne _ _ _ (show (25 : Nat) ≠ 29 by omega), zu_ne _ _ _ (show (25 : Nat) ≠ 29 by omega), zu_ne _ _ _ (show (24 : Nat) ≠ 29 by omega), zu_ne _ _ _ (show (24 : Nat) ≠ 29 by omega), zu_ne _ _ _ (show (24 : Nat) ≠ 29 by omega), zu_ne _ _ _ (show (23 : Nat) ≠ 29 by omega), zu_ne _ _ _ (show (23 : Nat) ≠ 29 by omega), zu_ne _ _ _ (show (22 : Nat) ≠ 29 by omega), j22, j23, j24, j25]
      rw [show J2 4 (pB P) = T 4 (pB P) from by rw [w3]; exact v4]
      exact hN.2 F (by omega)
  obtain ⟨J', e1, e2⟩ := l1 blk.length 0 (zu J 0 44 (nI blk.length)) (by omega) (fun c k _ _ _ _ h => by rw [zu_at, if_neg (by omega)]) (zu_self _ _ _ _) (fun k P hk => by omega)
  refine ⟨J', ev_mono (ev_and e1 (⟨blk.length + 1, fun N hN => hN⟩ : Ev (fun N => blk.length + 1 ≤ N))) (fun N hN => ?_), e2⟩
  unfold FM_keep
  simp only
  rw [h34]
  exact hN.1 N hN.2
/-- load() of the reference -/
theorem m_load {J : zJ} {st L : Nat} (h27 : J 0 27 = nI (st + L)) (hL : st + L ≤ 120) : ∃ J', Ev (fun N => FM_load N (nI st) J = some ((), J')) ∧ J' 0 28 = nI L ∧ (∀ k, k < L → J' 19 k = J 18 (st + k)) ∧ (∀ c k, c ≠ 19 → ¬ (c = 0 ∧ k = 28) → J' c k = J c k) := by
  let f : Nat → zJ := fun s => fun c k => if c = 19 ∧ k < s then J 18 (st + k) else zu J 0 28 (nI L) c k
  have f0 : f 0 = zu J 0 28 (nI L) := by
    funext c k
    show (if _ then _ else _) = _
    rw [if_neg (by omega)]
  have fo : ∀ s c k, c ≠ 19 → f s c k = zu J 0 28 (nI L) c k := fun s c k hc => by
    show (if _ then _ else _) = _
    rw [if_neg (by omega)]
  have fs : ∀ s, zu (f s) 19 s (J 18 (st + s)) = f (s + 1) := by
    intro s
    funext c k
    rw [zu_at]
    show (if _ then _ else (if _ then _ else _)) = (if _ then _ else _)
    by_cases h1 : c = 19 ∧ k = s
    · rw [if_pos h1, if_pos (by omega), h1.2]
    · rw [if_neg h1]
      by_cases h2 : c = 19 ∧ k < s
      · rw [if_pos h2, if_pos (by omega)]
      · rw [if_neg h2, if_neg (by omega)]
  have e28 : ∀ s, f s 0 28 = nI L := fun s => by rw [fo s 0 28 (by omega), zu_self]
  have e18 : ∀ s k, f s 18 k = J 18 k := fun s k => by rw [fo s 18 k (by omega), zu_ne _ _ _ (by omega)]
  refine ⟨f L, ?_, e28 L, fun k hk => ?_, fun c k h1 h2 => by rw [fo L c k h1, zu_at, if_neg h2]⟩
  · have := ev_loop (B := fun N => FM_load_12 N (nI st)) (r := some ((), f L)) (fun s => (nI s, f s)) L (ev_of (fun N s hs K => ?_)) (ev_of (fun N K => ?_))
    · refine ev_mono this (fun N hN => ?_)
      rw [f0] at hN
      unfold FM_load
      simp only
      rw [h27, nI_subs (by omega), Nat.add_sub_cancel_left]
      exact hN
    · simp only [FM_load_12]
      rw [e28, if_neg (by rw [nI_leI (by omega) (by omega)]; omega), nI_add, qk_t (qi_nI (by omega) (by omega)), qk_t (qi_nI (by omega) (by omega)), nI_clamp (show s < 2 ^ 31 by omega), nI_clamp (show st + s < 2 ^ 31 by omega), e18, fs, nI_add1]
    · simp only [FM_load_12]
      rw [e28, if_pos (by rw [nI_leI (by omega) (by omega)]; omega)]
  · show (if _ then _ else _) = _
    rw [if_pos ⟨rfl, hk⟩]
/-- what was made becomes the buffer -/
theorem m_mkbuf {J : zJ} {len : Nat} (h29 : J 0 29 = nI len) (hl : len ≤ 120) : ∃ J', Ev (fun N => qfix (FM_transcode_88 N) N (0, J) = some (nI len, J')) ∧ J' 0 27 = nI len ∧ (∀ k, k < len → J' 18 k = J 20 k) ∧ (∀ c k, c ≠ 18 → ¬ (c = 0 ∧ k = 27) → J' c k = J c k) := by
  let f : Nat → zJ := fun s => fun c k => if c = 18 ∧ k < s then J 20 k else J c k
  have f0 : f 0 = J := by
    funext c k
    show (if _ then _ else _) = _
    rw [if_neg (by omega)]
  have fo : ∀ s c k, c ≠ 18 → f s c k = J c k := fun s c k hc => by
    show (if _ then _ else _) = _
    rw [if_neg (by omega)]
  have fs : ∀ s, zu (f s) 18 s (J 20 s) = f (s + 1) := by
    intro s
    funext c k
    rw [zu_at]
    show (if _ then _ else (if _ then _ else _)) = (if _ then _ else _)
    by_cases h1 : c = 18 ∧ k = s
    · rw [if_pos h1, if_pos (by omega), h1.2]
    · rw [if_neg h1]
      by_cases h2 : c = 18 ∧ k < s
      · rw [if_pos h2, if_pos (by omega)]
      · rw [if_neg h2, if_neg (by omega)]
  refine ⟨zu (f len) 0 27 (nI len), ?_, zu_self _ _ _ _, fun k hk => ?_, fun c k h1 h2 => by rw [zu_at, if_neg h2, fo len c k h1]⟩
  · have := ev_loop (B := fun N => FM_transcode_88 N) (r := some (nI len, zu (f len) 0 27 (nI len))) (fun s => (nI s, f s)) len (ev_of (fun N s hs K => ?_)) (ev_of (fun N K => ?_))
    · rw [f0] at this
      exact this
    · simp only [FM_transcode_88]
      rw [fo s 0 29 (by omega), h29, if_neg (by rw [nI_leI (by omega) (by omega)]; omega), qk_t (qi_nI (by omega) (by omega)), qk_t (qi_nI (by omega) (by omega)), nI_clamp (by omega), fo s 20 s (by omega), fs, nI_add1]
    · simp only [FM_transcode_88]
      rw [fo len 0 29 (by omega), h29, if_pos (by rw [nI_leI (by omega) (by omega)]; omega), zu_at, if_neg (by omega), fo len 0 29 (by omega), h29]
  · rw [zu_ne _ _ _ (by omega)]
    show (if _ then _ else _) = _
    rw [if_pos ⟨rfl, hk⟩]
/-- reply 2: the answer behind three bytes -/
theorem m_answer {J : zJ} {len : Nat} (l1 l2 : Int32) (h29 : J 0 29 = nI len) (hl : len + 3 ≤ 120) : ∃ J', Ev (fun N => qfix (FM_serve_204 N l1 l2) N (0, J) = some (2, J')) ∧ J' 0 27 = nI (len + 3) ∧ (∀ k, k < len → J' 18 (3 + k) = J 20 k) ∧ J' 18 0 = 2 ∧ J' 18 1 = l1 ∧ J' 18 2 = l2 ∧ (∀ c k, c ≠ 18 → ¬ (c = 0 ∧ k = 27) → J' c k = J c k) := by
  let f : Nat → zJ := fun s => fun c k => if c = 18 ∧ 3 ≤ k ∧ k < 3 + s then J 20 (k - 3) else J c k
  have f0 : f 0 = J := by
    funext c k
    show (if _ then _ else _) = _
    rw [if_neg (by omega)]
  have fo : ∀ s c k, c ≠ 18 → f s c k = J c k := fun s c k hc => by
    show (if _ then _ else _) = _
    rw [if_neg (by omega)]
  have fs : ∀ s, zu (f s) 18 (3 + s) (J 20 s) = f (s + 1) := by
    intro s
    funext c k
    rw [zu_at]
    show (if _ then _ else (if _ then _ else _)) = (if _ then _ else _)
    by_cases h1 : c = 18 ∧ k = 3 + s
    · rw [if_pos h1, if_pos (by omega), h1.2, Nat.add_sub_cancel_left]
    · rw [if_neg h1]
      by_cases h2 : c = 18 ∧ 3 ≤ k ∧ k < 3 + s
      · rw [if_pos h2, if_pos (by omega)]
      · rw [if_neg h2, if_neg (by omega)]
  refine ⟨zu (zu (zu (zu (f len) 18 0 2) 18 1 l1) 18 2 l2) 0 27 (nI (len + 3)), ?_, zu_self _ _ _ _, fun k hk => ?_, ?_, ?_, ?_, fun c k h1 h2 => by rw [zu_at, if_neg h2, zu_ne _ _ _ h1, zu_ne _ _ _ h1, zu_ne _ _ _ h1, fo len c k h1]⟩
  · have := ev_loop (B := fun N => FM_serve_204 N l1 l2) (r := some (2, zu (zu (zu (zu (f len) 18 0 2) 18 1 l1) 18 2 l2) 0 27 (nI (len + 3)))) (fun s => (nI s, f s)) len (ev_of (fun N s hs K => ?_)) (ev_of (fun N K => ?_))
    · rw [f0] at this
      exact this
    · simp only [FM_serve_204]
      rw [fo s 0 29 (by omega), h29, if_neg (by rw [nI_leI (by omega) (by omega)]; omega), show (3 : Int32) + nI s = nI (3 + s) from nI_add 3 s, qk_t (qi_nI (by omega) (by omega)), qk_t (qi_nI (by omega) (by omega)), nI_clamp (show s < 2 ^ 31 by omega), nI_clamp (show 3 + s < 2 ^ 31 by omega), fo s 20 s (by omega), fs, nI_add1]
    · simp only [FM_serve_204]
      rw [fo len 0 29 (by omega), h29, if_pos (by rw [nI_leI (by omega) (by omega)]; omega)]
      unfold FM_reply
      rw [qk_t (by decide), qk_t (by decide), qk_t (by decide), nI_p3, qb_some]
      rfl
  · rw [zu_ne _ _ _ (by omega), zu_at, if_neg (by omega), zu_at, if_neg (by omega), zu_at, if_neg (by omega)]
    show (if _ then _ else _) = _
    rw [if_pos (by omega), Nat.add_sub_cancel_left]
  · rw [zu_ne _ _ _ (by omega), zu_at, if_neg (by omega), zu_at, if_neg (by omega), zu_self]
  · rw [zu_ne _ _ _ (by omega), zu_at, if_neg (by omega), zu_self]
  · rw [zu_ne _ _ _ (by omega), zu_self]
theorem m_reply (N : Nat) (l1 l2 l3 l4 : Int32) (J : zJ) : FM_reply N l1 l2 l3 l4 J = some (l1, zu (zu (zu (zu J 18 0 l1) 18 1 l2) 18 2 l3) 0 27 l4) := by
  unfold FM_reply
  rw [qk_t (by decide), qk_t (by decide), qk_t (by decide)]
  rfl
/-- the class copies a value -/
theorem cpy_i (f g : Nat → Int32) (n k : Nat) : va_cpy f g 0 0 n k = if k < n then f k else g k := by
  unfold va_cpy
  by_cases h : k < n
  · rw [if_pos ⟨by omega, by omega⟩, if_pos h, Nat.zero_add, Nat.sub_zero]
  · rw [if_neg (by omega), if_neg h]
theorem zcpJ_i (J : zJ) (c0 c n k : Nat) : zcpJ J c0 c 0 0 n c k = if k < n then J c0 k else J c k := by
  unfold zcpJ
  rw [if_pos rfl, cpy_i]
theorem zcpJ_n (J : zJ) {c0 c n d : Nat} (h : d ≠ c) : zcpJ J c0 c 0 0 n d = J d := by
  unfold zcpJ
  rw [if_neg h]
theorem qcp_ok {n m : Nat} (h : n ≤ m) (hm : m < 2 ^ 31) : qcp 0 0 (nI n) m m = true := by
  unfold qcp
  rw [nI_clamp (by omega)]
  have h1 : ¬ nI n < 0 := by rw [show (0 : Int32) = nI 0 from rfl, nI_ltI (by omega) (by omega)]; omega
  have h2 : (0 : Int32).toNatClampNeg = 0 := rfl
  rw [h2]
  simp [h1, h]
theorem c_copy {D : zJ} {n m : Nat} (M : zM) (h0 : D 16 0 = nI n) (h8 : D 16 8 = nI m) (hn : n ≤ 100) (hm : m ≤ 120) : ∃ D', (∀ N, FV_copyOf N M D = some ((), D')) ∧ D' 8 0 = nI n ∧ (∀ k, k < n → D' 9 k = D 17 k ∧ D' 10 k = D 18 k ∧ D' 11 k = D 19 k ∧ D' 12 k = D 20 k ∧ D' 13 k = D 21 k) ∧ (∀ k, k < m → D' 15 k = D 23 k) ∧ (∀ c, ¬ (8 ≤ c ∧ c ≤ 15) → D' c = D c) := by
  let D2 := zu (zu D 8 0 (nI n)) 8 8 (nI m)
  have d0 : D2 8 0 = nI n := by
    show zu _ _ _ _ _ _ = _
    rw [zu_at, if_neg (by omega), zu_self]
  have d8 : D2 8 8 = nI m := zu_self _ _ _ _
  have dc : ∀ c, c ≠ 8 → D2 c = D c := fun c hc => by
    show zu _ _ _ _ _ = _
    rw [zu_ne _ _ _ hc, zu_ne _ _ _ hc]
  let D4 := zcpJ D2 17 9 0 0 n
  let D6 := zcpJ D4 18 10 0 0 n
  let D8 := zcpJ D6 19 11 0 0 n
  let D10 := zcpJ D8 20 12 0 0 n
  let D12 := zcpJ D10 21 13 0 0 n
  let D14 := zcpJ D12 23 15 0 0 m
  have a4 : ∀ c, c ≠ 9 → D4 c = D2 c := fun c h => zcpJ_n _ h
  have a6 : ∀ c, c ≠ 10 → D6 c = D4 c := fun c h => zcpJ_n _ h
  have a8 : ∀ c, c ≠ 11 → D8 c = D6 c := fun c h => zcpJ_n _ h
  have a10 : ∀ c, c ≠ 12 → D10 c = D8 c := fun c h => zcpJ_n _ h
  have a12 : ∀ c, c ≠ 13 → D12 c = D10 c := fun c h => zcpJ_n _ h
  have a14 : ∀ c, c ≠ 15 → D14 c = D12 c := fun c h => zcpJ_n _ h
  refine ⟨D14, fun N => ?_, ?_, fun k hk => ⟨?_, ?_, ?_, ?_, ?_⟩, fun k hk => ?_, fun c hc => ?_⟩
  · unfold FV_copyOf
    simp only
    have e1 : zu (zu D 8 0 (D 16 0)) 8 8 (zu D 8 0 (D 16 0) 16 8) = D2 := by rw [h0, zu_ne _ _ _ (by omega), h8]
    rw [e1, d0]
    show qk _ (qk (qcp 0 0 (zcpJ D2 17 9 _ _ _ 8 0) 100 100) _) = _
    have c0 : ((0 : Int32).toNatClampNeg) = 0 := rfl
    have cn : (nI n).toNatClampNeg = n := nI_clamp (by omega)
    have cm : (nI m).toNatClampNeg = m := nI_clamp (by omega)
    simp only [c0, cn]
    rw [qk_t (qcp_ok hn (by omega)), show zcpJ D2 17 9 0 0 n = D4 from rfl, show D4 8 0 = nI n from by rw [a4 8 (by omega), d0], qk_t (qcp_ok hn (by omega)), cn, show zcpJ D4 18 10 0 0 n = D6 from rfl, show D6 8 0 = nI n from by rw [a6 8 (by omega), a4 8 (by omega), d0], qk_t (qcp_ok hn (by omega)), cn, show zcpJ D6 19 11 0 0 n = D8 from rfl, show D8 8 0 = nI n from by rw [a8 8 (by omega), a6 8 (by omega), a4 8 (by omega), d0], qk_t (qcp_ok hn (by omega)), cn, show zcpJ D8 20 12 0 0 n = D10 from rfl, show D10 8 0 = nI n from by rw [a10 8 (by omega), a8 8 (by omega), a6 8 (by omega), a4 8 (by omega), d0], qk_t (qcp_ok hn (by omega)), cn, show zcpJ D10 21 13 0 0 n = D12 from rfl, show D12 8 8 = nI m from by rw [a12 8 (by omega), a10 8 (by omega), a8 8 (by omega), a6 8 (by omega), a4 8 (by omega), d8], qk_t (qcp_ok hm (by omega)), cm]
  · rw [a14 8 (by omega), a12 8 (by omega), a10 8 (by omega), a8 8 (by omega), a6 8 (by omega), a4 8 (by omega), d0]
  · rw [a14 9 (by omega), a12 9 (by omega), a10 9 (by omega), a8 9 (by omega), a6 9 (by omega)]
    show zcpJ D2 17 9 0 0 n 9 k = _
    rw [zcpJ_i, if_pos hk, dc 17 (by omega)]
  · rw [a14 10 (by omega), a12 10 (by omega), a10 10 (by omega), a8 10 (by omega)]
    show zcpJ D4 18 10 0 0 n 10 k = _
    rw [zcpJ_i, if_pos hk, a4 18 (by omega), dc 18 (by omega)]
  · rw [a14 11 (by omega), a12 11 (by omega), a10 11 (by omega)]
    show zcpJ D6 19 11 0 0 n 11 k = _
    rw [zcpJ_i, if_pos hk, a6 19 (by omega), a4 19 (by omega), dc 19 (by omega)]
  · rw [a14 12 (by omega), a12 12 (by omega)]
    show zcpJ D8 20 12 0 0 n 12 k = _
    rw [zcpJ_i, if_pos hk, a8 20 (by omega), a6 20 (by omega), a4 20 (by omega), dc 20 (by omega)]
  · rw [a14 13 (by omega)]
    show zcpJ D10 21 13 0 0 n 13 k = _
    rw [zcpJ_i, if_pos hk, a10 21 (by omega), a8 21 (by omega), a6 21 (by omega), a4 21 (by omega), dc 21 (by omega)]
  · show zcpJ D12 23 15 0 0 m 15 k = _
    rw [zcpJ_i, if_pos hk, a12 23 (by omega), a10 23 (by omega), a8 23 (by omega), a6 23 (by omega), a4 23 (by omega), dc 23 (by omega)]
  · rw [a14 c (by omega), a12 c (by omega), a10 c (by omega), a8 c (by omega), a6 c (by omega), a4 c (by omega), dc c (by omega)]
theorem c_keepW {D : zJ} {len : Nat} (M : zM) (hl : len ≤ 120) : ∃ D', (∀ N, FD_keepWritten N M (nI len) D = some ((), D')) ∧ D' 0 5 = nI len ∧ (∀ k, k < len → D' 6 k = D 7 k) ∧ (∀ c, c ≠ 0 → c ≠ 6 → D' c = D c) ∧ (∀ k, k ≠ 5 → D' 0 k = D 0 k) := by
  refine ⟨zu (zcpJ D 7 6 0 0 len) 0 5 (nI len), fun N => ?_, zu_self _ _ _ _, fun k hk => ?_, fun c h1 h2 => ?_, fun k hk => ?_⟩
  · unfold FD_keepWritten
    rw [qk_t (qcp_ok hl (by omega)), nI_clamp (by omega)]
    rfl
  · rw [zu_ne _ _ _ (by omega), zcpJ_i, if_pos hk]
  · rw [zu_ne _ _ _ h1, zcpJ_n _ h2]
  · rw [zu_at, if_neg (by omega), zcpJ_n _ (by omega)]
/-- a value that both keep -/
theorem iVal_of {T D J : zJ} {blk : List Pt} {os : List Nat} (hl : blk.length ≤ 100) (ho : os.length ≤ 120) (hob : ∀ b, b ∈ os → b < 256) (hp : ∀ P, P ∈ blk → pOk T 0 os.length P) (d0 : D 8 0 = nI blk.length) (j44 : J 0 44 = nI blk.length) (hd : ∀ k P, blk[k]? = some P → D 9 k = T 4 (pB P) ∧ D 10 k = pV P ∧ D 11 k = nI (pW P) ∧ D 12 k = pA P ∧ D 13 k = nI (pF P)) (hdo : ∀ k b, os[k]? = some b → D 15 k = nI b) (hj : ∀ k P, blk[k]? = some P → kPt T J k P) (hjo : ∀ k b, os[k]? = some b → J 30 k = nI b) : iVal D J := by
  refine ⟨blk.length, hl, d0, j44, fun k hk => ?_⟩
  obtain ⟨P, hP⟩ : ∃ P, blk[k]? = some P := ⟨_, List.getElem?_eq_getElem hk⟩
  obtain ⟨a1, a2, a3, a4, a5⟩ := hd k P hP
  obtain ⟨b1, b2, b3, b4, b5⟩ := hj k P hP
  refine ⟨by rw [a1, b1], by rw [a2, b2], by rw [a3, b3], by rw [a4, b4], fun h4 => ?_⟩
  rw [b1] at h4
  obtain ⟨c, c1, c2, c3⟩ := (hp P (List.mem_of_getElem? hP)).2 h4
  refine ⟨pF P, c, by omega, a5, b5, by rw [b2, c1], fun i hi => ?_⟩
  obtain ⟨b, hb⟩ : ∃ b, os[pF P + i]? = some b := ⟨_, List.getElem?_eq_getElem (by omega)⟩
  refine ⟨by rw [hdo _ b hb, hjo _ b hb], b, hob b (List.mem_of_getElem? hb), hjo _ b hb⟩
