/-! THE REFERENCE reads packed bits: all of it -/
def cutE (q : Nat × Rs) : Nat × List Pt × List Nat × PK := (q.1, q.2.1, q.2.2.1, q.2.2.2.2)
theorem bind_cut {α : Type} {a : Option α} {f f' : α → Option (Nat × Rs)} (h : ∀ x, (f x).map cutE = (f' x).map cutE) : (a.bind f).map cutE = (a.bind f').map cutE := by
  cases a with
  | none => rfl
  | some x => exact h x
theorem ite_cut {c : Prop} [Decidable c] {a a' b b' : Option (Nat × Rs)} (h1 : a.map cutE = a'.map cutE) (h2 : b.map cutE = b'.map cutE) : (if c then a else b).map cutE = (if c then a' else b').map cutE := by
  split
  · exact h1
  · exact h2
theorem rpPl_cut (T : zJ) (src : Nat → Nat) (s : Bool) (t t0 tg tg' : Nat) (par : Int32) (wh o en p : Nat) : (rpPl T src s t t0 tg par wh o en p).map cutE = (rpPl T src s t t0 tg' par wh o en p).map cutE := by
  unfold rpPl
  refine ite_cut (ite_cut rfl rfl) (ite_cut (ite_cut (bind_cut (fun x => rfl)) (bind_cut (fun x => ite_cut rfl rfl))) (ite_cut (bind_cut (fun x => bind_cut (fun y => ite_cut rfl rfl))) rfl))
theorem rpB_cut {T : zJ} {src : Nat → Nat} {s : Bool} {rc : rdRec} {t t0 wh i o en p : Nat} {dg : Option Nat} {par : Int32} (k10 : T 4 t ≠ 10) : (rpB T src s rc t t0 dg par wh i o en p).map cutE = (rpB T src s rc t t0 none par wh i o en p).map cutE := by
  unfold rpB
  rw [if_neg k10, if_neg k10]
  refine ite_cut (ite_cut rfl (ite_cut (bind_cut (fun x => bind_cut (fun y => rfl))) (ite_cut (bind_cut (fun x => bind_cut (fun y => rfl))) (rpPl_cut _ _ _ _ _ _ _ _ _ _ _ _)))) rfl
theorem rp_base {T : zJ} {src : Nat → Nat} {s : Bool} : ∀ n u t0 dg par wh i o en p, wfT T n u → ∃ m, m + 1 ≤ n ∧ wfT T (m + 1) (bas T n u) ∧ T 4 (bas T n u) ≠ 10 ∧ (rdP T src s n u t0 dg par wh i o en p).map cutE = (rdP T src s (m + 1) (bas T n u) t0 none par wh i o en p).map cutE := by
  intro n
  induction n with
  | zero => intro u t0 dg par wh i o en p h; exact h.elim
  | succ n ih =>
    intro u t0 dg par wh i o en p hw
    by_cases k10 : T 4 u = 10
    · have hb : bas T (n + 1) u = bas T n (chd T (6 * u)) := by
        show (if T 4 u = 10 then _ else _) = _
        rw [if_pos k10]
      have w5 := (hw.2.2.2.2.2.2.2.1 k10).2.2.2.2
      rw [hb]
      by_cases x : isX T u = true
      · obtain ⟨m, m1, m2, m3, m4⟩ := ih (chd T (6 * u)) t0 none par wh i o en p w5
        refine ⟨m, by omega, m2, m3, ?_⟩
        rw [← m4]
        conv => lhs; unfold rdP rpB
        rw [if_pos k10, if_pos x]
        cases rdP T src s n (chd T (6 * u)) t0 none par wh i o en p <;> rfl
      · obtain ⟨m, m1, m2, m3, m4⟩ := ih (chd T (6 * u)) t0 (some (dg.getD (dgt T u))) par wh i o en p w5
        refine ⟨m, by omega, m2, m3, ?_⟩
        rw [← m4]
        conv => lhs; unfold rdP rpB
        rw [if_pos k10, if_neg x]
    · have hb : bas T (n + 1) u = u := bas_self k10
      rw [hb]
      refine ⟨n, by omega, hw, k10, ?_⟩
      exact rpB_cut k10
theorem hR_cut {T : zJ} {src : Nat → Nat} {L : Nat} {J J1 : zJ} {i o p fr : Nat} {a b : Option (Nat × Rs)} (h : a.map cutE = b.map cutE) (ha : hR T src L J i o p fr b J1) : hR T src L J i o p fr a J1 := by
  cases a with
  | none =>
    cases b with
    | none => exact ha
    | some y => cases h
  | some x =>
    cases b with
    | none => cases h
    | some y =>
      injection h with h
      have h1 : x.1 = y.1 := congrArg (fun z => z.1) h
      have h2 : x.2.1 = y.2.1 := congrArg (fun z => z.2.1) h
      have h3 : x.2.2.1 = y.2.2.1 := congrArg (fun z => z.2.2.1) h
      refine ⟨fun q => (by cases q), fun q hq => ?_⟩
      injection hq with hq
      subst hq
      rw [h1, h2, h3]
      exact ha.2 y rfl
def elP (T : zJ) (src : Nat → Nat) (L n : Nat) : Prop := ∀ u par wh i o p fr J, wfT T n u → hS T J src L i o p fr → fr + n ≤ 12 → J 0 23 = nI (bas T n u) → ∃ J1, Ev (fun N => ∀ F, n + 1 ≤ F → qfix (FM_want_15 N) F (nI u, par, nI wh, J) = some ((), J1)) ∧ hR T src L J i o p fr (rdP T src false n u u none par wh i o (8 * L) p) J1
theorem elW_of {T : zJ} {src : Nat → Nat} {L n : Nat} (hn : n ≤ 6) (h : elP T src L n) : elW T src L n := by
  intro u par wh i o p fr J hw hS0 hf
  obtain ⟨J2, u1, u2, u3, u4⟩ := m_unw hw hn hS0.2.2.2.2.2.2.2.1
  obtain ⟨J1, ⟨n1, e1⟩, e2⟩ := h u par wh i o p fr J2 hw (uKp_hS u4 hS0) hf u2
  refine ⟨J1, ev_mono (ev_and u1 (⟨n1 + (n + 1), fun N hN => e1 N (by omega) N (by omega)⟩ : Ev (fun N => qfix (FM_want_15 N) N (nI u, par, nI wh, J2) = some ((), J1)))) (fun N hN => ?_), hR_pre (uKp_mG u4 i o fr) (Nat.le_refl _) e2⟩
  unfold FM_want
  rw [hN.1, qb_some, hN.2]
theorem q_15b {J : zJ} (h : J 0 49 = 0) (N F : Nat) (hF : 1 ≤ F) (l4 l5 l6 : Int32) : qfix (FM_want_15 N) F (l4, l5, l6, J) = some ((), J) := by
  obtain ⟨F, rfl⟩ : ∃ g, F = g + 1 := ⟨F - 1, by omega⟩
  rw [qfix_s]
  simp only [FM_want_15, if_pos h]
  exact q_128b h N _ _ _
theorem q_85b {T J J3 : zJ} {n b k : Nat} {l4 l5 l6 v : Int32} (hn : n ≤ 6) (hw : wfT T (n + 1) b) (k9 : T 4 b = 9) (hk : k < cnt T b) (ha : ∀ N, FM_adds N l4 l5 l6 (nI k) J = some (v, J3)) (h0 : J3 0 49 = 0) (h23 : J3 0 23 = nI b) (hT : tyEq T J3) : ∃ J6, Ev (fun N => ∀ F, 1 ≤ F → FM_want_85 N (qfix (FM_want_15 N) F) l4 l5 l6 (nI k) J = some ((), J6)) ∧ J6 0 49 = 0 ∧ mK J3 J6 := by
  obtain ⟨w1, w2, w3⟩ := hw.2.2.2.2.2.2.2.2.1 (Or.inr k9)
  have b160 := hw.1
  obtain ⟨v1, v2⟩ := w3 k hk
  obtain ⟨J6, u1, u2, u3, u4⟩ := m_unw v2 hn hT
  have h6 : J6 0 49 = 0 := by rw [u4 0 49 (by omega) (by omega) (by omega)]; exact h0
  refine ⟨J6, ev_mono u1 (fun N hN F hF => ?_), h6, (uKp_mG u4 0 0 0).1⟩
  unfold FM_want_85
  rw [ha, qb_some]
  simp only [h23]
  rw [show (6 : Int32) * nI b + nI k = nI (6 * b + k) from by rw [show (6 : Int32) = nI 6 from rfl, nI_mul, nI_add], qk_t (qi_nI (by omega) (by omega)), nI_clamp (by omega), hT 13 _ (by omega) (by omega), v1, hN, qb_some]
  exact q_15b h6 N F hF _ _ _
theorem q_57 {J : zJ} {b k r c : Nat} {f : Nat → Nat} {l4 l5 l6 : Int32} {K15 : (Int32 × Int32 × Int32 × zJ) → Option (Unit × zJ)} {N : Nat} (h1 : J 0 49 = 1) (h23 : J 0 23 = nI b) (hr : ∀ j, j < c → FM_rank N (nI b) (nI j) J = some (nI (f j), J)) (hk : k < c) (hc : c ≤ 6) (hf : ∀ j, j < c → f j < 6) (hr6 : r < 6) (e1 : f k = r) (e2 : ∀ j, j < k → f j ≠ r) : ∀ m j F, j + m = k → m + 1 ≤ F → qfix (FM_want_57 N K15 l4 l5 l6 (nI r)) F (nI j, J) = FM_want_85 N K15 l4 l5 l6 (nI k) J := by
  intro m
  induction m with
  | zero =>
    intro j F hj hF
    obtain ⟨F, rfl⟩ : ∃ g, F = g + 1 := ⟨F - 1, by omega⟩
    rw [qfix_s]
    simp only [FM_want_57]
    rw [if_neg (by rw [h1]; decide), h23, hr j (by omega), qb_some, if_pos (by rw [show j = k by omega, e1]), show j = k by omega]
  | succ m ih =>
    intro j F hj hF
    obtain ⟨F, rfl⟩ : ∃ g, F = g + 1 := ⟨F - 1, by omega⟩
    rw [qfix_s]
    simp only [FM_want_57]
    have := hf j (by omega)
    rw [if_neg (by rw [h1]; decide), h23, hr j (by omega), qb_some, if_neg (by rw [nI_eq (by omega) (by omega)]; exact e2 j (by omega)), nI_p1]
    exact ih (j + 1) F (by omega) (by omega)
/-- a sequence's or list's head, then its frame -/
theorem h_push {T J : zJ} {src : Nat → Nat} {L i o p fr : Nat} (h : hS T J src L i o p fr) (hf : fr < 100) (of : Int32) : mG J (fJ J fr of 0 false) i o fr ∧ hS T (fJ J fr of 0 false) src L i o p (fr + 1) ∧ fJ J fr of 0 false 31 fr = of ∧ fJ J fr of 0 false 33 fr = 0 ∧ fJ J fr of 0 false 34 fr = 0 ∧ (∀ c k, c ≠ 0 → c < 31 → fJ J fr of 0 false c k = J c k) := by
  obtain ⟨a1, a2, a3, a4, a5, a6, a7, a8, a9, a10, a11, a12, a13⟩ := h
  have hc := fJ_at J fr of 0 false
  refine ⟨⟨fJ_mK J fr of _ _, fun c k c1 c2 hk => hc c k (by omega), fun k hk => hc 28 k (by omega), fun c k c1 c2 hk => hc c k (by omega)⟩, ⟨?_, ?_, ?_, ?_, zu_self _ _ _ _, ?_, fun k hk => ?_, mK_ty (fJ_mK J fr of _ _) a8, a9, a10, a11, a12, by omega⟩, ?_, ?_, ?_, fun c k h1 h2 => hc c k (by omega)⟩
  · rw [hc 0 49 (by omega)]; exact a1
  · rw [hc 0 47 (by omega)]; exact a2
  · rw [hc 0 34 (by omega)]; exact a3
  · rw [hc 0 35 (by omega)]; exact a4
  · rw [hc 0 28 (by omega)]; exact a6
  · rw [hc 19 k (by omega)]; exact a7 k hk
  · unfold fJ
    rw [zu_at, if_neg (by omega), zu_at, if_neg (by omega), zu_at, if_neg (by omega), zu_at, if_neg (by omega), zu_at, if_neg (by omega), zu_self]
  · unfold fJ
    rw [zu_at, if_neg (by omega), zu_at, if_neg (by omega), zu_self]
  · unfold fJ
    rw [zu_at, if_neg (by omega), zu_self]
theorem hX_hR {T : zJ} {src : Nat → Nat} {L : Nat} {J J1 : zJ} {i o p p1 fr t0 b wh : Nat} {par x : Int32} {X : Option (Nat × Nat × Rs)} {res : Option (Nat × Rs)} (hg : mG J J1 i o fr) (hp : p ≤ p1) (ha : mA J1 i t0 par wh x o) (h : hX T src L J1 i (i + 1) o p1 fr X J1) (h0 : X = none → res = none) (h1 : ∀ y, X = some y → ∃ sh e pk, res = some (y.1, mkP t0 b (nI y.2.1) wh par o sh (y.2.2.1.length + 1) :: y.2.2.1, y.2.2.2.1, e, pk)) : hR T src L J i o p fr res J1 := by
  cases hX : X with
  | none =>
    rw [h0 hX]
    obtain ⟨J6, z1, z2, z3⟩ := h.1 hX
    exact ⟨fun _ => ⟨J6, z1, z2, mK_trans hg.1 z3⟩, fun q hq => by cases hq⟩
  | some y =>
    obtain ⟨sh, e, pk, h1⟩ := h1 y hX
    rw [h1]
    obtain ⟨J6, z1, z2, z3, z4, z5, z6, z7⟩ := h.2 y hX
    obtain ⟨y1, y2, y3, y4, y5⟩ := ha
    refine ⟨fun q => (by cases q), fun q hq => ?_⟩
    injection hq with hq
    subst hq
    refine ⟨J6, z1, mG_trans hg ⟨z2.1, fun c k c1 c2 hk => z2.2.1 c k c1 c2 (by omega) (by omega), z2.2.2.1, z2.2.2.2⟩ (Nat.le_refl _) (Nat.le_refl _) (Nat.le_refl _), ?_, Nat.le_trans hp z4, mH_cons ?_ z5 ?_ ?_ ?_ z6, z7⟩
    · show hS T J6 src L (i + (y.2.2.1.length + 1)) (o + y.2.2.2.1.length) y.1 fr
      rw [show i + (y.2.2.1.length + 1) = i + 1 + y.2.2.1.length by omega]
      exact z3
    · rw [z2.2.1 21 i (by omega) (by omega) (by omega) (by omega)]; exact y1
    · rw [z2.2.1 23 i (by omega) (by omega) (by omega) (by omega)]; exact y3
    · rw [z2.2.1 24 i (by omega) (by omega) (by omega) (by omega)]; exact y4
    · rw [z2.2.1 25 i (by omega) (by omega) (by omega) (by omega)]; exact y5
theorem q_chain {T : zJ} {src : Nat → Nat} {L : Nat} (hs : sOK src) : ∀ n, n ≤ 6 → ∀ m, m ≤ n → elP T src L m := by
  intro n
  induction n with
  | zero =>
    intro _ m hm u par wh i o p fr J hw
    have : m = 0 := by omega
    subst this
    exact hw.elim
  | succ n ih0 =>
    intro hn6 m0 hm0 u par wh i o p fr J hw hS0 hf h23
    obtain ⟨m, m1, hwb, k10, hcut⟩ := rp_base (T := T) (src := src) (s := false) m0 u u none par wh i o (8 * L) p hw
    have hbs : bas T 6 u = bas T m0 u := (bas_wf m0 6 u hw (by omega)).1
    generalize hbb : bas T m0 u = b at *
    have hEP : elP T src L m := ih0 (by omega) m (by omega)
    have hEW : elW T src L m := elW_of (by omega) hEP
    have hT := hS0.2.2.2.2.2.2.2.1
    have b160 := hwb.1
    have f100 := hS0.2.2.2.2.2.2.2.2.2.2.2.2
    suffices hs2 : ∃ J1, Ev (fun N => ∀ F, m0 + 1 ≤ F → qfix (FM_want_15 N) F (nI u, par, nI wh, J) = some ((), J1)) ∧ hR T src L J i o p fr (rdP T src false (m + 1) b u none par wh i o (8 * L) p) J1 by
      obtain ⟨J1, e1, e2⟩ := hs2
      exact ⟨J1, e1, hR_cut hcut e2⟩
    unfold rdP rpB
    rw [if_neg k10]
    by_cases k9 : T 4 b = 9
    · obtain ⟨w1, w2, w3⟩ := hwb.2.2.2.2.2.2.2.2.1 (Or.inr k9)
      have w4 := (hwb.2.2.2.2.2.2.2.2.2.2 k9).1
      have hstep : ∀ N F, qfix (FM_want_15 N) (F + 1) (nI u, par, nI wh, J) = qb (FM_ranging N 0 (nI (cnt T b) - 1) J) (fun v3 J4 => qfix (FM_want_57 N (qfix (FM_want_15 N) F) (nI u) par (nI wh) v3) N (0, J4)) := by
        intro N F
        rw [qfix_s]
        simp only [FM_want_15]
        rw [if_neg (by rw [hS0.1]; decide), h23, qk_t (qi_nI b160 (by omega)), nI_clamp (by omega), hT 4 b (by omega) (by omega), if_pos k9, qk_t (qi_nI b160 (by omega)), hT 8 b (by omega) (by omega), w1]
      obtain ⟨q1, q2⟩ := q_rng (lo := 0) (hi := nI (cnt T b) - 1) (h := cnt T b - 1) hs hS0 (by omega) (by rw [show nI (cnt T b) - 1 = nI (cnt T b - 1) from nI_subs (a := cnt T b) (b := 1) (by omega), Int32.sub_zero])
      cases hnum : numP false src (8 * L) (cnt T b - 1) p with
      | none =>
        obtain ⟨w, J', z1, z2⟩ := q1 hnum
        obtain ⟨J6, g1, g2, g3⟩ := q_85b (k := 0) (l4 := nI u) (l5 := par) (l6 := nI wh) (J := J') (by omega) hwb k9 (by omega) (fun N => h_addsB z2.1 _ _ _ _ N) z2.1 (by rw [z2.2.2.2.2.1]; exact h23) (mK_ty z2.2.2.1 hT)
        refine ⟨J6, ev_mono (ev_and (ev_and z1 g1) (⟨1, fun N hN => hN⟩ : Ev (fun N => 1 ≤ N))) (fun N hN F hF => ?_), ?_⟩
        · obtain ⟨F, rfl⟩ : ∃ g, F = g + 1 := ⟨F - 1, by omega⟩
          obtain ⟨G, hG⟩ : ∃ g, N = g + 1 := ⟨N - 1, by have := hN.2; omega⟩
          rw [hstep, hN.1.1, qb_some]
          have : qfix (FM_want_57 N (qfix (FM_want_15 N) F) (nI u) par (nI wh) w) (G + 1) (0, J') = some ((), J6) := by
            rw [qfix_s]
            simp only [FM_want_57, if_pos z2.1]
            exact hN.1.2 F (by omega)
          rw [← hG] at this
          exact this
        · rw [show (if i < 100 then _ else _ : Option (Nat × Rs)) = none from by
            rw [if_pos k9]
            split <;> rfl]
          exact hR_none g2 (mK_trans z2.2.2.1 g3)
      | some x =>
        obtain ⟨z1, z2, z3, z4⟩ := q2 x hnum
        obtain ⟨k, k1, k2, k3, k4⟩ := altR_some hwb k9 (show x.2 < cnt T b by omega)
        have hS1 := hS_pos hS0 z2 z3
        have hT1 := hS1.2.2.2.2.2.2.2.1
        have h231 : zu J 0 47 (nI x.1) 0 23 = nI b := by rw [zu_at, if_neg (by omega)]; exact h23
        have hg1 : mG J (zu J 0 47 (nI x.1)) i o fr := mG_zu (mW_f (by omega)) (by omega)
        have hrk := ev_all (cnt T b) (fun j hj => q_rank hwb k9 hT1 hj)
        obtain ⟨v1, v2⟩ := w3 k k2
        have h57 : Ev (fun N => ∀ F, m0 + 1 ≤ F → qfix (FM_want_15 N) F (nI u, par, nI wh, J) = FM_want_85 N (qfix (FM_want_15 N) (F - 1)) (nI u) par (nI wh) (nI k) (zu J 0 47 (nI x.1))) := by
          refine ev_mono (ev_and (ev_and z1 hrk) (⟨7, fun N hN => hN⟩ : Ev (fun N => 7 ≤ N))) (fun N hN F hF => ?_)
          obtain ⟨F, rfl⟩ : ∃ g, F = g + 1 := ⟨F - 1, by omega⟩
          rw [hstep, hN.1.1, qb_some, Int32.zero_add]
          exact q_57 hS1.1 h231 hN.1.2 k2 w2 (fun j hj => by have := jRank_lt (T := T) (t := b) hj; omega) (by omega) k3 k4 k 0 N (by omega) (by have := hN.2; omega)
        by_cases hi : i < 100
        · simp only [if_pos hi, if_pos k9, Option.bind_some, k1]
          obtain ⟨J4, d1, d2, d3, d4, d5, d6, d7⟩ := h_adds hS1 hi u par wh (nI k)
          obtain ⟨J6, u1, u2, u3, u4⟩ := m_unw v2 (show m ≤ 6 by omega) d3.2.2.2.2.2.2.2.1
          obtain ⟨J1, f1, f2⟩ := hEP (chd T (6 * b + k)) (nI i) 0 (i + 1) o x.1 fr J6 v2 (uKp_hS u4 d3) (by omega) u2
          have hg4 : mG J J6 i o fr := mG_trans (mG_trans hg1 d2 (Nat.le_refl _) (Nat.le_refl _) (Nat.le_refl _)) (uKp_mG u4 i o fr) (Nat.le_refl _) (Nat.le_refl _) (Nat.le_refl _)
          refine ⟨J1, ev_mono (ev_and h57 (ev_and u1 f1)) (fun N hN F hF => ?_), ?_⟩
          · rw [hN.1 F hF]
            unfold FM_want_85
            rw [d1, qb_some]
            simp only [d6, h231]
            rw [show (6 : Int32) * nI b + nI k = nI (6 * b + k) from by rw [show (6 : Int32) = nI 6 from rfl, nI_mul, nI_add], qk_t (qi_nI (by omega) (by omega)), nI_clamp (by omega), d3.2.2.2.2.2.2.2.1 13 _ (by omega) (by omega), v1, hN.2.1, qb_some]
            exact hN.2.2 (F - 1) (by omega)
          · cases hrd : rdP T src false m (chd T (6 * b + k)) (chd T (6 * b + k)) none (nI i) 0 (i + 1) o (8 * L) x.1 with
            | none =>
              obtain ⟨J7, z1, z2, z3⟩ := f2.1 hrd
              exact ⟨fun _ => ⟨J7, z1, z2, mK_trans hg4.1 z3⟩, fun q hq => by cases hq⟩
            | some r =>
              obtain ⟨J7, y1, y2, y3, y4, y5, y6⟩ := f2.2 r hrd
              refine ⟨fun h => (by cases h), fun qq hq => ?_⟩
              injection hq with hq
              subst hq
              obtain ⟨a1, a2, a3, a4, a5⟩ := d4
              refine ⟨J7, y1, mG_trans hg4 y2 (by omega) (by omega) (by omega), ?_, Nat.le_trans z2 y4, mH_cons ?_ ?_ ?_ ?_ ?_ y5, y6⟩
              · show hS T J7 src L (i + (r.2.1.length + 1)) (o + r.2.2.1.length) r.1 fr
                rw [show i + (r.2.1.length + 1) = i + 1 + r.2.1.length by omega]
                exact y3
              · rw [y2.2.1 21 i (by omega) (by omega) (by omega), u4 21 i (by omega) (by omega) (by omega)]; exact a1
              · rw [y2.2.1 22 i (by omega) (by omega) (by omega), u4 22 i (by omega) (by omega) (by omega)]; exact a2
              · rw [y2.2.1 23 i (by omega) (by omega) (by omega), u4 23 i (by omega) (by omega) (by omega)]; exact a3
              · rw [y2.2.1 24 i (by omega) (by omega) (by omega), u4 24 i (by omega) (by omega) (by omega)]; exact a4
              · rw [y2.2.1 25 i (by omega) (by omega) (by omega), u4 25 i (by omega) (by omega) (by omega)]; exact a5
        · rw [if_neg hi]
          obtain ⟨J6, g1, g2, g3⟩ := q_85b (k := k) (l4 := nI u) (l5 := par) (l6 := nI wh) (J := zu J 0 47 (nI x.1)) (by omega) hwb k9 k2 (fun N => h_adds0 hS1 hi _ _ _ _ N) (zu_self _ _ _ _) (by rw [zu_at, if_neg (by omega)]; exact h231) (mK_ty (mK_zu (mW_f (by omega))) hT1)
          refine ⟨J6, ev_mono (ev_and h57 g1) (fun N hN F hF => ?_), hR_none g2 (mK_trans hg1.1 (mK_trans (mK_zu (mW_f (by omega))) g3))⟩
          rw [hN.1 F hF]
          exact hN.2 (F - 1) (by omega)
    have hstep : ∀ N F, qfix (FM_want_15 N) (F + 1) (nI u, par, nI wh, J) = FM_want_128 N (nI u) par (nI wh) J := by
      intro N F
      rw [qfix_s]
      simp only [FM_want_15]
      rw [if_neg (by rw [hS0.1]; decide), h23, qk_t (qi_nI b160 (by omega)), nI_clamp (by omega), hT 4 b (by omega) (by omega), if_neg k9]
    suffices hs3 : ∃ J1, Ev (fun N => FM_want_128 N (nI u) par (nI wh) J = some ((), J1)) ∧ hR T src L J i o p fr (if i < 100 then _ else none) J1 by
      obtain ⟨J1, e1, e2⟩ := hs3
      refine ⟨J1, ev_mono e1 (fun N hN F hF => ?_), e2⟩
      obtain ⟨F, rfl⟩ : ∃ g, F = g + 1 := ⟨F - 1, by omega⟩
      rw [hstep, hN]
    by_cases hi : i < 100
    case neg =>
      rw [if_neg hi]
      exact ⟨zu J 0 49 0, ev_of (fun N => q_128f hS0 hi _ _ _ N), hR_none (zu_self _ _ _ _) (mK_zu (mW_f (by omega)))⟩
    rw [if_pos hi, if_neg k9]
    by_cases kp : T 4 b = 6 ∨ T 4 b = 7
    case neg =>
      have k6 : ¬ T 4 b = 6 := fun q => kp (Or.inl q)
      have k7 : ¬ T 4 b = 7 := fun q => kp (Or.inr q)
      have hkk : T 4 b = 1 ∨ T 4 b = 2 ∨ T 4 b = 4 ∨ T 4 b = 5 := by
        rcases hwb.2.1 with z | z | z | z | z | z | z | z
        · exact Or.inl z
        · exact Or.inr (Or.inl z)
        · exact Or.inr (Or.inr (Or.inl z))
        · exact Or.inr (Or.inr (Or.inr z))
        · exact absurd z k6
        · exact absurd z k7
        · exact absurd z k9
        · exact absurd z k10
      rw [if_neg k6, if_neg k7]
      exact q_plain hs hwb hkk hS0 h23 hi
    obtain ⟨J2, d1, d2, d3, d4, d5, d6, d7⟩ := h_adds hS0 hi u par wh 0
    obtain ⟨p1, p2, p3, p4, p5, p6⟩ := h_push d3 (show fr < 100 by omega) (nI i)
    have hT2 := d3.2.2.2.2.2.2.2.1
    have hT3 := p2.2.2.2.2.2.2.2.1
    have n5 : ¬ T 4 b = 5 := by rcases kp with h | h <;> rw [h] <;> decide
    have n1 : ¬ T 4 b = 1 := by rcases kp with h | h <;> rw [h] <;> decide
    have n4 : ¬ T 4 b = 4 := by rcases kp with h | h <;> rw [h] <;> decide
    have h128 : ∀ N, FM_want_128 N (nI u) par (nI wh) J = qfix (FM_want_382 N (nI i) (nI b)) N (nI (6 * b), fJ J2 fr (nI i) 0 false) := by
      intro N
      have h367 : FM_want_367 N (nI i) (nI b) J2 = qfix (FM_want_382 N (nI i) (nI b)) N (nI (6 * b), fJ J2 fr (nI i) 0 false) := by
        unfold FM_want_367
        rw [show FM_frame N (nI i) 0 0 J2 = some ((), fJ J2 fr (nI i) 0 false) from m_frame d3.2.2.2.2.1 (by omega) (nI i) 0 false N, qb_some]
        simp only [show (6 : Int32) * nI b = nI (6 * b) from nI_mul 6 b]
      unfold FM_want_128
      rw [d1, qb_some]
      simp only [d6, h23]
      rw [if_neg (by rw [d3.1]; decide), qk_t (qi_nI b160 (by omega)), nI_clamp (by omega), hT2 4 b (by omega) (by omega), if_neg n5, qk_t (qi_nI b160 (by omega)), if_neg n1, qk_t (qi_nI b160 (by omega)), if_neg n4, qk_t (qi_nI b160 (by omega)), h367]
      by_cases k6 : T 4 b = 6
      · rw [if_pos k6]
      · rw [if_neg k6, qk_t (qi_nI b160 (by omega)), if_pos (kp.resolve_left k6)]
    have hg3 : mG J (fJ J2 fr (nI i) 0 false) i o fr := mG_trans d2 p1 (by omega) (by omega) (Nat.le_refl _)
    obtain ⟨y1, y2, y3, y4, y5⟩ := d4
    by_cases k6 : T 4 b = 6
    · rw [if_pos k6]
      obtain ⟨g1, g2⟩ := q_bits (L := L) (i := i) (i' := i + 1) (o := o) hs hwb k6 hi (show fr < 100 by omega) (cnt T b) 0 p (fJ J2 fr (nI i) 0 false) [] (by omega) rfl p2 p5
      rw [Nat.add_zero] at g1 g2
      cases hpr : prsP T src (8 * L) b (cnt T b) 0 p with
      | none =>
        obtain ⟨J', z1, z2, z3⟩ := g1 hpr
        refine ⟨J', ⟨cnt T b + 1, fun N hN => ?_⟩, hR_none z2 (mK_trans hg3.1 z3)⟩
        dsimp only
        rw [h128]
        exact z1 N N hN
      | some q =>
        obtain ⟨J', z1, z2, z3, z4, z5⟩ := g2 q hpr
        obtain ⟨q1, q2, q3⟩ := prs_le _ _ _ _ hpr
        have hS5 : hS T (zu J' 22 i 0) src L (i + 1) o q.1 (fr + 1) := hS_num z3
        have e : ∀ c k, c ≠ 0 → ¬ (c = 22 ∧ k = i) → ¬ (c = 34 ∧ k = fr) → zu J' 22 i 0 c k = fJ J2 fr (nI i) 0 false c k := fun c k c1 c2 c3 => by rw [zu_at, if_neg c2, z5 c k c1 c3]
        have hx := q_seq (full := q.2) hs hw (by omega) hbs k6 hwb hi hEW (by omega) q2 q.2 0 (i + 1) o q.1 0 (zu J' 22 i 0) rfl (by omega) (by omega) (by omega) hS5 (by rw [e 31 fr (by omega) (by omega) (by omega)]; exact p3) (by rw [e 21 i (by omega) (by omega) (by omega), p6 21 i (by omega) (by omega)]; exact y1) (zu_self _ _ _ _) (by rw [e 33 fr (by omega) (by omega) (by omega)]; exact p4) (by rw [zu_at, if_neg (by omega)]; exact z4)
        have hg5 : mG J (zu J' 22 i 0) i o fr := mG_trans hg3 ⟨mK_trans z2 (mK_zu (mW_p (by omega))), fun c k c1 c2 hk => e c k (by omega) (by omega) (by omega), fun k hk => e 28 k (by omega) (by omega) (by omega), fun c k c1 c2 hk => e c k (by omega) (by omega) (by omega)⟩ (Nat.le_refl _) (Nat.le_refl _) (Nat.le_refl _)
        refine ⟨zu J' 22 i 0, ⟨cnt T b + 1, fun N hN => ?_⟩, hX_hR (b := b) (t0 := u) (wh := wh) (par := par) (x := 0) hg5 q1 ⟨?_, zu_self _ _ _ _, ?_, ?_, ?_⟩ hx (fun hx0 => ?_) (fun y hy => ?_)⟩
        · dsimp only
          rw [h128]
          exact z1 N N hN
        · rw [e 21 i (by omega) (by omega) (by omega), p6 21 i (by omega) (by omega)]; exact y1
        · rw [e 23 i (by omega) (by omega) (by omega), p6 23 i (by omega) (by omega)]; exact y3
        · rw [e 24 i (by omega) (by omega) (by omega), p6 24 i (by omega) (by omega)]; exact y4
        · rw [e 25 i (by omega) (by omega) (by omega), p6 25 i (by omega) (by omega)]; exact y5
        · unfold YC at hx0
          rw [Option.bind_some]
          cases hrc : rpC T false (rdP T src false m) b (nI i) (8 * L) q.2 0 (i + 1) o q.1 with
          | none => rfl
          | some r => rw [hrc] at hx0; cases hx0
        · unfold YC at hy
          rw [Option.bind_some]
          cases hrc : rpC T false (rdP T src false m) b (nI i) (8 * L) q.2 0 (i + 1) o q.1 with
          | none => rw [hrc] at hy; cases hy
          | some r =>
            rw [hrc] at hy
            injection hy with hy
            subst hy
            simp only [Nat.zero_add]
            exact ⟨_, _, _, rfl⟩
    · have k7 := kp.resolve_left k6
      rw [if_neg k6, if_pos k7]
      have h461 : ∀ N, 1 ≤ N → qfix (FM_want_382 N (nI i) (nI b)) N (nI (6 * b), fJ J2 fr (nI i) 0 false) = qb (FM_counted N (nI b) (fJ J2 fr (nI i) 0 false)) (fun v4 J5 => some ((), zu J5 22 i v4)) := by
        intro N hN
        obtain ⟨G, hG⟩ : ∃ g, N = g + 1 := ⟨N - 1, by omega⟩
        have : ∀ G, qfix (FM_want_382 N (nI i) (nI b)) (G + 1) (nI (6 * b), fJ J2 fr (nI i) 0 false) = qb (FM_counted N (nI b) (fJ J2 fr (nI i) 0 false)) (fun v4 J5 => some ((), zu J5 22 i v4)) := by
          intro G
          have h4 : fJ J2 fr (nI i) 0 false 4 b = T 4 b := hT3 4 b (by omega) (by omega)
          have hq : FM_want_461 N (nI i) (nI b) (fJ J2 fr (nI i) 0 false) = qb (FM_counted N (nI b) (fJ J2 fr (nI i) 0 false)) (fun v4 J5 => some ((), zu J5 22 i v4)) := by
            unfold FM_want_461
            rw [qk_t (qi_nI b160 (by omega)), nI_clamp (show b < 2 ^ 31 by omega), if_pos (by rw [h4]; exact k7)]
            simp only [qk_t (qi_nI hi (show 100 < 2 ^ 31 by omega)), nI_clamp (show i < 2 ^ 31 by omega)]
          have n6 : ¬ fJ J2 fr (nI i) 0 false 4 b = 6 := by rw [h4]; exact k6
          rw [qfix_s]
          simp only [FM_want_382]
          simp only [qk_t (qi_nI b160 (show 160 < 2 ^ 31 by omega)), nI_clamp (show b < 2 ^ 31 by omega), if_neg n6, hq, ite_self]
        conv => lhs; rw [show qfix (FM_want_382 N (nI i) (nI b)) N = qfix (FM_want_382 N (nI i) (nI b)) (G + 1) from by rw [← hG]]
        exact this G
      obtain ⟨g1, g2⟩ := q_cnt hs hwb (by rw [k7]; decide) p2
      cases hcn : cntP T false src (8 * L) b p with
      | none =>
        obtain ⟨w, J', z1, z2⟩ := g1 hcn
        refine ⟨zu J' 22 i w, ev_mono (ev_and z1 (⟨1, fun N hN => hN⟩ : Ev (fun N => 1 ≤ N))) (fun N hN => ?_), hR_none (by rw [zu_at, if_neg (by omega)]; exact z2.1) (mK_trans hg3.1 (mK_trans z2.2.2.1 (mK_zu (mW_p (by omega)))))⟩
        rw [h128, h461 N hN.2, hN.1, qb_some]
      | some q =>
        obtain ⟨z1, z2, z3, z4⟩ := g2 q hcn
        have hS5 : hS T (zu (zu (fJ J2 fr (nI i) 0 false) 0 47 (nI q.1)) 22 i (nI q.2)) src L (i + 1) o q.1 (fr + 1) := hS_num (hS_pos p2 z2 z3)
        have e : ∀ c k, c ≠ 0 → ¬ (c = 22 ∧ k = i) → zu (zu (fJ J2 fr (nI i) 0 false) 0 47 (nI q.1)) 22 i (nI q.2) c k = fJ J2 fr (nI i) 0 false c k := fun c k c1 c2 => by rw [zu_at, if_neg c2, zu_at, if_neg (by omega)]
        have hx := q_list hs hw (by omega) hbs k7 hwb hi hEW (by omega) z4 q.2 0 (i + 1) o q.1 (zu (zu (fJ J2 fr (nI i) 0 false) 0 47 (nI q.1)) 22 i (nI q.2)) (by omega) (by omega) hS5 (by rw [e 31 fr (by omega) (by omega)]; exact p3) (by rw [e 21 i (by omega) (by omega), p6 21 i (by omega) (by omega)]; exact y1) (zu_self _ _ _ _) (by rw [e 33 fr (by omega) (by omega)]; exact p4)
        have hg5 : mG J (zu (zu (fJ J2 fr (nI i) 0 false) 0 47 (nI q.1)) 22 i (nI q.2)) i o fr := mG_trans hg3 ⟨mK_trans (mK_zu (mW_f (by omega))) (mK_zu (mW_p (by omega))), fun c k c1 c2 hk => e c k (by omega) (by omega), fun k hk => e 28 k (by omega) (by omega), fun c k c1 c2 hk => e c k (by omega) (by omega)⟩ (Nat.le_refl _) (Nat.le_refl _) (Nat.le_refl _)
        refine ⟨zu (zu (fJ J2 fr (nI i) 0 false) 0 47 (nI q.1)) 22 i (nI q.2), ev_mono (ev_and z1 (⟨1, fun N hN => hN⟩ : Ev (fun N => 1 ≤ N))) (fun N hN => ?_), hX_hR (b := b) (t0 := u) (wh := wh) (par := par) (x := nI q.2) hg5 z2 ⟨?_, zu_self _ _ _ _, ?_, ?_, ?_⟩ hx (fun hx0 => ?_) (fun y hy => ?_)⟩
        · rw [h128, h461 N hN.2, hN.1, qb_some]
        · rw [e 21 i (by omega) (by omega), p6 21 i (by omega) (by omega)]; exact y1
        · rw [e 23 i (by omega) (by omega), p6 23 i (by omega) (by omega)]; exact y3
        · rw [e 24 i (by omega) (by omega), p6 24 i (by omega) (by omega)]; exact y4
        · rw [e 25 i (by omega) (by omega), p6 25 i (by omega) (by omega)]; exact y5
        · rw [Option.bind_some]
          cases hrc : rpL (rdP T src false m) (chd T (6 * b)) (nI i) (8 * L) q.2 0 (i + 1) o q.1 with
          | none => rfl
          | some r => rw [hrc] at hx0; cases hx0
        · rw [Option.bind_some]
          cases hrc : rpL (rdP T src false m) (chd T (6 * b)) (nI i) (8 * L) q.2 0 (i + 1) o q.1 with
          | none => rw [hrc] at hy; cases hy
          | some r =>
            rw [hrc] at hy
            injection hy with hy
            subst hy
            exact ⟨_, _, _, rfl⟩
