/-! THE CLASS reads by the open rules: elements -/
def dgI (dg : Option Nat) : Int32 := match dg with
  | some d => nI d
  | none => -1
theorem c_tgB0 {M : zM} {T : zJ} {a t : Nat} (e2 : zi M a 0 = T 4 t) (l1 : Int32) (N : Nat) : FT_tagByte N M a l1 = FT_tagByte_32 N M a l1 (if T 4 t = 6 ∨ T 4 t = 7 ∨ T 4 t = 10 then 1 else 0) := by
  unfold FT_tagByte
  rw [e2]
  by_cases k6 : T 4 t = 6
  · rw [if_pos k6, if_pos (Or.inl k6)]
  · rw [if_neg k6]
    by_cases k7 : T 4 t = 7
    · rw [if_pos k7, if_pos (Or.inr (Or.inl k7))]
    · rw [if_neg k7]
      by_cases k10 : T 4 t = 10
      · rw [if_pos k10, if_pos (Or.inr (Or.inr k10))]
      · rw [if_neg k10, if_neg (by rintro (q | q | q) <;> contradiction)]
theorem c_tgB {M : zM} {T : zJ} {n a t : Nat} {dg : Option Nat} (hw : wfT T n t) (hr : rep M T n a t) (hd : ∀ d, dg = some d → d ≤ 9) (h9 : T 4 t ≠ 9) : (∀ N, FT_tagByte N M a (dgI dg) = some (nI (tgB T t dg))) ∧ tgB T t dg < 256 := by
  obtain ⟨e1, e2, _⟩ := rep_sh hr
  cases n with
  | zero => exact hw.elim
  | succ n =>
    have w2 := hw.2.1
    have w8 := hw.2.2.2.2.2.2.2.1
    have r7 := hr.2.2.2.2.2.2.1
    simp only [c_tgB0 e2]
    unfold FT_tagByte_32 tgB
    cases dg with
    | some d =>
      have hd := hd d rfl
      simp only [dgI, if_neg (nI_n1 (show d < 2 ^ 31 by omega))]
      by_cases m : T 4 t = 6 ∨ T 4 t = 7 ∨ T 4 t = 10
      · simp only [if_pos m]
        refine ⟨fun _ => ?_, by omega⟩
        rw [if_neg (nI_n1 (by omega)), if_neg (by decide)]
        exact congrArg some (nI_add 160 d)
      · simp only [if_neg m]
        refine ⟨fun _ => ?_, by omega⟩
        rw [if_neg (nI_n1 (by omega)), if_pos trivial]
        exact congrArg some (nI_add 128 d)
    | none =>
      simp only [dgI, if_true, qk_d e1, e2]
      by_cases k10 : T 4 t = 10
      · obtain ⟨d1, d2, _⟩ := w8 k10
        simp only [if_pos k10, (r7 k10).1]
        rw [d1]
        exact ⟨fun _ => congrArg some (nI_add 160 (dgt T t)), by omega⟩
      · simp only [if_neg k10]
        by_cases m : T 4 t = 6 ∨ T 4 t = 7
        · have m' : T 4 t = 6 ∨ T 4 t = 7 ∨ T 4 t = 10 := by rcases m with m | m <;> simp [m]
          simp only [if_pos m, if_pos m']
          exact ⟨fun _ => rfl, by omega⟩
        · have m' : ¬ (T 4 t = 6 ∨ T 4 t = 7 ∨ T 4 t = 10) := by rintro (q | q | q) <;> simp_all
          simp only [if_neg m, if_neg m', if_true]
          rcases w2 with w2 | w2 | w2 | w2 | w2 | w2 | w2 | w2
          · rw [w2]; exact ⟨fun _ => rfl, by decide⟩
          · rw [w2]; exact ⟨fun _ => rfl, by decide⟩
          · rw [w2]; exact ⟨fun _ => rfl, by decide⟩
          · rw [w2]; exact ⟨fun _ => rfl, by decide⟩
          · exact absurd (Or.inl w2) m
          · exact absurd (Or.inr w2) m
          · exact absurd w2 h9
          · exact absurd w2 k10
theorem zu_id (J : zJ) (c k : Nat) (x : Int32) (h : J c k = x) : zu J c k x = J := by
  funext a b
  rw [zu_at]
  by_cases q : a = c ∧ b = k
  · rw [if_pos q, q.1, q.2, h]
  · rw [if_neg q]
theorem cH_zu {T D : zJ} {i : Nat} {l : List Pt} {c k : Nat} {x : Int32} (h : cH T D i l) (hc : ¬ (17 ≤ c ∧ c ≤ 22 ∧ i ≤ k)) : cH T (zu D c k x) i l := by
  intro k' P hk
  obtain ⟨a1, a2, a3, a4, a5, a6⟩ := h k' P hk
  refine ⟨?_, ?_, ?_, ?_, ?_, ?_⟩
  · rw [zu_at, if_neg (by omega)]; exact a1
  · rw [zu_at, if_neg (by omega)]; exact a2
  · rw [zu_at, if_neg (by omega)]; exact a3
  · rw [zu_at, if_neg (by omega)]; exact a4
  · rw [zu_at, if_neg (by omega)]; exact a5
  · rw [zu_at, if_neg (by omega)]; exact a6
theorem cO_zu {D : zJ} {o : Nat} {l : List Nat} {c k : Nat} {x : Int32} (h : cO D o l) (hc : c ≠ 23) : cO (zu D c k x) o l := by
  intro k' b hk
  rw [zu_at, if_neg (by omega)]
  exact h k' b hk
theorem c_close {M : zM} {D : zJ} {src : Nat → Nat} {st L : Nat} {s : Bool} {i o p en : Nat} {ce : Option Nat} (hs : sOK src) (h : cS D src st L s i o p) (he : en ≤ L) (hce : ∀ c, ce = some c → c ≤ L) :
    (cls src ce en p = none → ∀ N, FO_readContentEnd N M (ceI st ce) (nI (st + en)) D = some (false, D)) ∧ (∀ p3, cls src ce en p = some p3 → (∀ N, FO_readContentEnd N M (ceI st ce) (nI (st + en)) D = some (true, zu D 24 3 (nI (st + p3)))) ∧ p ≤ p3 ∧ p3 ≤ L) := by
  obtain ⟨a1, a2, a3, a4, a5, a6, a7, a8, a9⟩ := h
  unfold FO_readContentEnd cls
  cases ce with
  | some c =>
    have hc := hce c rfl
    simp only [ceI, if_neg (nI_n2 (show st + c < 2 ^ 31 by omega)), a2]
    simp (disch := omega) only [nI_eq]
    by_cases c1 : p = c
    · have c2 : st + p = st + c := by omega
      simp only [if_pos c1, if_pos c2]
      refine ⟨fun hq => by simp at hq, fun p3 hq => ?_⟩
      injection hq with hq
      subst hq
      rw [zu_id D 24 3 _ a2]
      exact ⟨fun _ => rfl, Nat.le_refl _, a8⟩
    · have c2 : ¬ st + p = st + c := by omega
      simp only [if_neg c1, if_neg c2]
      exact ⟨fun _ => by simp, fun p3 hq => by cases hq⟩
  | none =>
    simp only [ceI, if_true, a2, nI_p2, nI_p1]
    simp (disch := omega) only [nI_ltI]
    by_cases c1 : p + 2 ≤ en
    · have c2 : ¬ st + en < st + p + 2 := by omega
      have h1 := hs p
      have h2 := hs (p + 1)
      simp only [if_neg c2, qk_t (qi_nI (show st + p < 120 by omega) (show 120 < 2 ^ 31 by omega)), qk_t (qi_nI (show st + p + 1 < 120 by omega) (show 120 < 2 ^ 31 by omega)), nI_clamp (show st + p < 2 ^ 31 by omega), nI_clamp (show st + p + 1 < 2 ^ 31 by omega), a5 p (by omega)]
      rw [Nat.add_assoc st p 1, a5 (p + 1) (by omega), show (0 : Int32) = nI 0 from rfl]
      simp (disch := omega) only [nI_eq]
      by_cases c3 : src p = 0
      · by_cases c4 : src (p + 1) = 0
        · have c5 : p + 2 ≤ en ∧ src p = 0 ∧ src (p + 1) = 0 := ⟨c1, c3, c4⟩
          simp only [if_pos c3, if_pos c4, if_pos c5]
          refine ⟨fun hq => by simp at hq, fun p3 hq => ?_⟩
          injection hq with hq
          subst hq
          exact ⟨fun _ => rfl, by omega, by omega⟩
        · have c5 : ¬ (p + 2 ≤ en ∧ src p = 0 ∧ src (p + 1) = 0) := by omega
          simp only [if_pos c3, if_neg c4, if_neg c5]
          exact ⟨fun _ => by simp, fun p3 hq => by cases hq⟩
      · have c5 : ¬ (p + 2 ≤ en ∧ src p = 0 ∧ src (p + 1) = 0) := by omega
        simp only [if_neg c3, if_neg c5]
        exact ⟨fun _ => by simp, fun p3 hq => by cases hq⟩
    · have c2 : st + en < st + p + 2 := by omega
      have c5 : ¬ (p + 2 ≤ en ∧ src p = 0 ∧ src (p + 1) = 0) := by omega
      simp only [if_pos c2, if_neg c5]
      exact ⟨fun _ => by simp, fun p3 hq => by cases hq⟩
theorem c_items {M : zM} {T : zJ} {src : Nat → Nat} {st L : Nat} {s : Bool} {n a b u f h lim ins : Nat} (hs : sOK src) (hlim : lim ≤ L) (hsh : zsh M a = some (.inl 6)) (h9 : zr M a 9 = some b) (hw : wfT T n u) (hr : rep M T n b u)
    (hrec : ∀ a u par wh i o en p D, wfT T n u → rep M T n a u → cS D src st L s i o p → en ≤ L → cR T src st L s D i o p (rdE T src s n u u none par wh i o en p) (fun N => RO_readElement N M f (some a, -1, par, nI wh, nI (st + en), nI (ins + 1), D))) :
    ∀ m k i o p D, k + m = 100 → cS D src st L s i o p →
      (rdL src (rdE T src s n) u (nI h) lim m k i o p = none → ∃ D', Ev (fun N => ∀ F, m + 1 ≤ F → qfix (FO_readItems_3 N M (RO_readElement N M f) (some a) (nI h) (nI (st + lim)) (nI ins)) F (nI k, D) = some (false, D')) ∧ cK D D') ∧
      (∀ q, rdL src (rdE T src s n) u (nI h) lim m k i o p = some q → ∃ D', Ev (fun N => ∀ F, m + 1 ≤ F → qfix (FO_readItems_3 N M (RO_readElement N M f) (some a) (nI h) (nI (st + lim)) (nI ins)) F (nI k, D) = FO_readItems_46 N M (RO_readElement N M f) (some a) (nI h) (nI (k + q.2.1)) D') ∧ cG D D' i o ∧ cS D' src st L s (i + q.2.2.1.length) (o + q.2.2.2.1.length) q.1 ∧ p ≤ q.1 ∧ cH T D' i q.2.2.1 ∧ cO D' o q.2.2.2.1) := by
  intro m
  induction m with
  | zero =>
    intro k i o p D hk hc
    unfold rdL
    refine ⟨fun hq => by simp at hq, fun q hq => ?_⟩
    injection hq with hq
    subst hq
    refine ⟨D, ev_of (fun N F hF => ?_), cG_refl D i o, hc, Nat.le_refl _, cH_nil _ _ _, cO_nil _ _⟩
    obtain ⟨F, rfl⟩ : ∃ g, F = g + 1 := ⟨F - 1, by omega⟩
    show FO_readItems_3 N M _ _ _ _ _ _ (nI k, D) = _
    simp only [FO_readItems_3]
    rw [if_pos (by rw [show (100 : Int32) = nI 100 from rfl, nI_leI (by omega) (by omega)]; omega)]
    rfl
  | succ m ih =>
    intro k i o p D hk hc
    have hstep : ∀ N F, qfix (FO_readItems_3 N M (RO_readElement N M f) (some a) (nI h) (nI (st + lim)) (nI ins)) (F + 1) (nI k, D) = if ntb src lim p = 0 then FO_readItems_46 N M (RO_readElement N M f) (some a) (nI h) (nI k) D else qb (RO_readElement N M f (some b, -1, nI h, nI k, nI (st + lim), nI (ins + 1), D)) (fun v4 J5 => if (bI v4) = 0 then some (false, J5) else qfix (FO_readItems_3 N M (RO_readElement N M f) (some a) (nI h) (nI (st + lim)) (nI ins)) F (nI (k + 1), J5)) := by
      intro N F
      show FO_readItems_3 N M (RO_readElement N M f) (some a) (nI h) (nI (st + lim)) (nI ins) (qfix (FO_readItems_3 N M (RO_readElement N M f) (some a) (nI h) (nI (st + lim)) (nI ins)) F) (nI k, D) = _
      simp only [FO_readItems_3, c_ntb hs hc hlim, qb_some, qo_s rfl hsh, h9, nI_p1]
      rw [if_neg (by rw [show (100 : Int32) = nI 100 from rfl, nI_leI (by omega) (by omega)]; omega)]
      have e : cTag (ntb src lim p) = 0 ↔ ntb src lim p = 0 := by
        unfold ntb
        by_cases c : p < lim
        · rw [if_pos c]; exact cTag_0 (hs p)
        · rw [if_neg c]; exact ⟨fun _ => rfl, fun _ => by decide⟩
      simp only [e]
    unfold rdL
    by_cases c0 : ntb src lim p = 0
    · simp only [if_pos c0] at hstep ⊢
      refine ⟨fun hq => by simp at hq, fun q hq => ?_⟩
      injection hq with hq
      subst hq
      refine ⟨D, ev_of (fun N F hF => ?_), cG_refl D i o, hc, Nat.le_refl _, cH_nil _ _ _, cO_nil _ _⟩
      obtain ⟨F, rfl⟩ : ∃ g, F = g + 1 := ⟨F - 1, by omega⟩
      rw [hstep]
      rfl
    · simp only [if_neg c0] at hstep ⊢
      obtain ⟨r1, r2⟩ := hrec b u (nI h) k i o lim p D hw hr hc hlim
      cases hrd : rdE T src s n u u none (nI h) k i o lim p with
      | none =>
        obtain ⟨D', g1, g2⟩ := r1 hrd
        dsimp only at g1
        refine ⟨fun _ => ⟨D', ev_mono g1 (fun N hN F hF => ?_), g2⟩, fun q hq => by cases hq⟩
        obtain ⟨F, rfl⟩ : ∃ g, F = g + 1 := ⟨F - 1, by omega⟩
        rw [hstep, hN, qb_some]
        rfl
      | some r =>
        obtain ⟨D1, g1, g2, g3, g4, g5, g6⟩ := r2 r hrd
        dsimp only at g1
        simp only [Option.bind_some]
        obtain ⟨i1, i2⟩ := ih (k + 1) (i + r.2.1.length) (o + r.2.2.1.length) r.1 D1 (by omega) g3
        refine ⟨fun hq => ?_, fun q hq => ?_⟩
        · rcases bind_none_eq hq with hq | ⟨x, _, hq⟩
          · obtain ⟨D', k1, k2⟩ := i1 hq
            refine ⟨D', ev_mono (ev_and g1 k1) (fun N hN F hF => ?_), cK_trans g2.1 k2⟩
            obtain ⟨F, rfl⟩ : ∃ g, F = g + 1 := ⟨F - 1, by omega⟩
            rw [hstep, hN.1, qb_some, bI_t, if_neg (by decide), hN.2 F (by omega)]
          · cases hq
        · obtain ⟨x, hx, hq⟩ := bind_some_eq hq
          injection hq with hq
          subst hq
          obtain ⟨D', k1, k2, k3, k4, k5, k6⟩ := i2 x hx
          refine ⟨D', ev_mono (ev_and g1 k1) (fun N hN F hF => ?_), cG_trans g2 k2 (by omega) (by omega), ?_, Nat.le_trans g4 k4, cH_app g5 k2 k5, cO_app g6 k2 k6⟩
          · obtain ⟨F, rfl⟩ : ∃ g, F = g + 1 := ⟨F - 1, by omega⟩
            rw [hstep, hN.1, qb_some, bI_t, if_neg (by decide), hN.2 F (by omega)]
            show FO_readItems_46 N M _ _ _ (nI (k + 1 + x.2.1)) D' = FO_readItems_46 N M _ _ _ (nI (k + (x.2.1 + 1))) D'
            rw [show k + 1 + x.2.1 = k + (x.2.1 + 1) by omega]
          · show cS D' src st L s (i + (r.2.1 ++ x.2.2.1).length) (o + (r.2.2.1 ++ x.2.2.2.1).length) x.1
            rw [List.length_append, List.length_append, ← Nat.add_assoc, ← Nat.add_assoc]
            exact k3
/-- the member with a tag -/
theorem c_alt {M : zM} {T : zJ} {src : Nat → Nat} {n t en p : Nat} (hs : sOK src) : ∀ m j c, rChain M T (rep M T n) t m j c → (altF T t (ntb src en p) m j = none → ∀ N F, m + 1 ≤ F → qfix (FT_memberWithTag_5 N M (cTag (ntb src en p))) F c = some none) ∧ (∀ k, altF T t (ntb src en p) m j = some k → ∃ b a, (∀ N F, m + 1 ≤ F → qfix (FT_memberWithTag_5 N M (cTag (ntb src en p))) F c = some (some b)) ∧ zsh M b = some (.inl 1) ∧ zi M b 1 = nI k ∧ zr M b 0 = some a ∧ rep M T n a (chd T (6 * t + k)) ∧ j ≤ k ∧ k < j + m) := by
  intro m
  induction m with
  | zero =>
    intro j c hch
    have : c = none := hch
    subst this
    refine ⟨fun _ N F hF => ?_, fun k hk => by cases hk⟩
    obtain ⟨F, rfl⟩ : ∃ g, F = g + 1 := ⟨F - 1, by omega⟩
    rfl
  | succ m ih =>
    intro j c hch
    obtain ⟨b, a, rfl, hb, b0, hr, b1, b2, b3, _, hch'⟩ := hch
    obtain ⟨i1, i2⟩ := ih (j + 1) _ hch'
    have hstep : ∀ N F, qfix (FT_memberWithTag_5 N M (cTag (ntb src en p))) (F + 1) (some b) = if T 9 (chd T (6 * t + j)) &&& ntb src en p = 0 then qfix (FT_memberWithTag_5 N M (cTag (ntb src en p))) F (zr M b 5) else some (some b) := by
      intro N F
      show FT_memberWithTag_5 N M (cTag (ntb src en p)) (qfix (FT_memberWithTag_5 N M (cTag (ntb src en p))) F) (some b) = _
      simp only [FT_memberWithTag_5, qo_s rfl hb, c_ktags hr b0, qc_some, cTag_ntb hs]
      rw [if_neg (by simp)]
    unfold altF
    by_cases c0 : T 9 (chd T (6 * t + j)) &&& ntb src en p = 0
    · simp only [if_pos c0] at hstep ⊢
      refine ⟨fun hq N F hF => ?_, fun k hk => ?_⟩
      · obtain ⟨F, rfl⟩ : ∃ g, F = g + 1 := ⟨F - 1, by omega⟩
        rw [hstep, i1 hq N F (by omega)]
      · obtain ⟨b', a', q1, q2, q3, q4, q5, q6, q7⟩ := i2 k hk
        refine ⟨b', a', fun N F hF => ?_, q2, q3, q4, q5, by omega, by omega⟩
        obtain ⟨F, rfl⟩ : ∃ g, F = g + 1 := ⟨F - 1, by omega⟩
        rw [hstep, q1 N F (by omega)]
    · simp only [if_neg c0] at hstep ⊢
      refine ⟨fun hq => (by cases hq), fun k hk => ?_⟩
      injection hk with hk
      subst hk
      refine ⟨b, a, fun N F hF => ?_, hb, b1, b0, hr, by omega, by omega⟩
      obtain ⟨F, rfl⟩ : ∃ g, F = g + 1 := ⟨F - 1, by omega⟩
      rw [hstep]
theorem qb_id {α σ : Type} (x : Option (α × σ)) : qb x (fun v s => some (v, s)) = x := by cases x <;> rfl
theorem cR_out {T : zJ} {src : Nat → Nat} {st L : Nat} {s : Bool} {D : zJ} {i o p : Nat} {res : Option (Nat × Rs)} {o1 o2 : Nat → Option (Bool × zJ)} (h : ∀ N, o1 N = o2 N) (hr : cR T src st L s D i o p res o2) : cR T src st L s D i o p res o1 := by
  rw [funext h]; exact hr
theorem cR_none {T : zJ} {src : Nat → Nat} {st L : Nat} {s : Bool} {D D' : zJ} {i o p : Nat} {out : Nat → Option (Bool × zJ)} (h : Ev (fun N => out N = some (false, D'))) (hk : cK D D') : cR T src st L s D i o p none out :=
  ⟨fun _ => ⟨D', h, hk⟩, fun q hq => by cases hq⟩
theorem cR_some {T : zJ} {src : Nat → Nat} {st L : Nat} {s : Bool} {D D' : zJ} {i o p : Nat} {q : Nat × Rs} {out : Nat → Option (Bool × zJ)} (h : Ev (fun N => out N = some (true, D'))) (hg : cG D D' i o) (hc : cS D' src st L s (i + q.2.1.length) (o + q.2.2.1.length) q.1) (hp : p ≤ q.1) (hh : cH T D' i q.2.1) (ho : cO D' o q.2.2.1) : cR T src st L s D i o p (some q) out :=
  ⟨fun hq => (by cases hq), fun q' hq => (by injection hq with hq; subst hq; exact ⟨D', h, hg, hc, hp, hh, ho⟩)⟩
theorem cK_24 {D D' : zJ} (h : ∀ c, c ≠ 24 → D' c = D c) : cK D D' := fun c hc => h c (by omega)
theorem bI_made (T : zJ) (t : Nat) : bI (isMade T t) = if T 4 t = 6 ∨ T 4 t = 7 then 1 else 0 := by
  unfold isMade
  by_cases m : T 4 t = 6 ∨ T 4 t = 7
  · rw [decide_eq_true m, if_pos m]; rfl
  · rw [decide_eq_false m, if_neg m]; rfl
theorem cR_tr {T : zJ} {src : Nat → Nat} {st L : Nat} {s : Bool} {D D1 : zJ} {i o p p1 : Nat} {res : Option (Nat × Rs)} {out : Nat → Option (Bool × zJ)} (hg : cG D D1 i o) (hp : p ≤ p1) (h : cR T src st L s D1 i o p1 res out) : cR T src st L s D i o p res out := by
  refine ⟨fun hq => ?_, fun q hq => ?_⟩
  · obtain ⟨D', a1, a2⟩ := h.1 hq
    exact ⟨D', a1, cK_trans hg.1 a2⟩
  · obtain ⟨D', a1, a2, a3, a4, a5, a6⟩ := h.2 q hq
    exact ⟨D', a1, cG_trans hg a2 (Nat.le_refl _) (Nat.le_refl _), a3, Nat.le_trans hp a4, a5, a6⟩
theorem cH_cons {T D : zJ} {i t0 t wh o m : Nat} {v par : Int32} {sh : Nat} {l : List Pt} (h1 : D 17 i = T 4 t) (h2 : D 18 i = v) (h3 : D 19 i = nI wh) (h4 : D 20 i = par) (h5 : D 21 i = nI o) (h6 : D 22 i = nI sh) (h : cH T D (i + 1) l) : cH T D i (mkP t0 t v wh par o sh m :: l) := by
  intro k P hk
  cases k with
  | zero =>
    simp at hk
    subst hk
    exact ⟨h1, h2, h3, h4, h5, h6⟩
  | succ k =>
    have := h k P (by simpa using hk)
    rw [show i + (k + 1) = i + 1 + k by omega]
    exact this
theorem c_elem {M : zM} {T : zJ} {src : Nat → Nat} {st L : Nat} {s : Bool} (hs : sOK src) : ∀ n f a t t0 dg par wh i o en p D ins, n ≤ f → n + ins ≤ 6 → wfT T n t → rep M T n a t → (∀ d, dg = some d → d ≤ 9) → cS D src st L s i o p → en ≤ L → cR T src st L s D i o p (rdE T src s n t t0 dg par wh i o en p) (fun N => RO_readElement N M f (some a, dgI dg, par, nI wh, nI (st + en), nI ins, D)) := by
  intro n
  induction n with
  | zero => intro f a t t0 dg par wh i o en p D ins hf hin hw; exact hw.elim
  | succ n ih =>
    intro f a t t0 dg par wh i o en p D ins hf hin hw hr hd hc he
    obtain ⟨g, rfl⟩ : ∃ g, f = g + 1 := ⟨f - 1, by omega⟩
    obtain ⟨e1, e2, _⟩ := rep_sh hr
    have i100 := hc.2.2.2.2.2.1
    have hcs := hc
    obtain ⟨a1, a2, a3, a4, a5, a6, a7, a8, a9⟩ := hcs
    have hE : ∀ N, RO_readElement N M (g + 1) (some a, dgI dg, par, nI wh, nI (st + en), nI ins, D) = if T 4 t = 10 then FO_readTagged N M (RO_readElement N M g) (some a) (dgI dg) par (nI wh) (nI (st + en)) (nI ins) D else if T 4 t = 9 then FO_readChoice N M (RO_readElement N M g) (some a) par (nI wh) (nI (st + en)) (nI ins) D else FO_readElement_81 N M (RO_readElement N M g) (some a) (dgI dg) par (nI wh) (nI (st + en)) (nI ins) (bI (isMade T t)) D := by
      intro N
      show FO_readElement N M (RO_readElement N M g) (some a) (dgI dg) par (nI wh) (nI (st + en)) (nI ins) D = _
      unfold FO_readElement
      simp only [qo_s rfl e1, e2, qb_id]
      rw [if_neg (by simp), if_pos (by rw [show (6 : Int32) = nI 6 from rfl, nI_ltI (by omega) (by omega)]; omega), bI_made]
      by_cases k10 : T 4 t = 10
      · rw [if_pos k10, if_pos k10]
      · rw [if_neg k10, if_neg k10]
        by_cases k9 : T 4 t = 9
        · rw [if_pos k9, if_pos k9]
        · rw [if_neg k9, if_neg k9]
          by_cases k6 : T 4 t = 6
          · rw [if_pos k6, if_pos (show T 4 t = 6 ∨ T 4 t = 7 from Or.inl k6)]
          · rw [if_neg k6]
            by_cases k7 : T 4 t = 7
            · rw [if_pos k7, if_pos (show T 4 t = 6 ∨ T 4 t = 7 from Or.inr k7)]
            · rw [if_neg k7, if_neg (show ¬ (T 4 t = 6 ∨ T 4 t = 7) from fun q => q.elim k6 k7)]
    refine cR_out hE ?_
    have ih' : ∀ a u par wh i o en p D, wfT T n u → rep M T n a u → cS D src st L s i o p → en ≤ L → cR T src st L s D i o p (rdE T src s n u u none par wh i o en p) (fun N => RO_readElement N M g (some a, -1, par, nI wh, nI (st + en), nI (ins + 1), D)) := by
      intro a u par wh i o en p D hw hr hc he
      exact ih g a u u none par wh i o en p D (ins + 1) (by omega) (by omega) hw hr (fun d hd => by cases hd) hc he
    unfold rdE rdB
    by_cases k10 : T 4 t = 10
    · simp only [if_pos k10]
      obtain ⟨w1, w2, w3, w4, w5⟩ := hw.2.2.2.2.2.2.2.1 k10
      obtain ⟨q1, q2, b, q3, q4⟩ := hr.2.2.2.2.2.2.1 k10
      unfold FO_readTagged
      simp only [qo_s rfl e1, q1, q2]
      by_cases x : T 12 t = 0 ∨ T 4 (chd T (6 * t)) = 9
      · have x' : isX T t = true := decide_eq_true x
        simp only [if_pos x, if_pos x']
        obtain ⟨tb1, tb2⟩ := c_tgB hw hr hd (by rw [k10]; decide)
        obtain ⟨h1, h2⟩ := c_hdr (made := true) hs hc he tb2 M
        cases hh : hdr s src (tgB T t dg) true en p with
        | none =>
          obtain ⟨D', g1, g2⟩ := h1 hh
          have g1 : Ev (fun N => FO_readHeader N M (nI (tgB T t dg)) 1 (nI (st + en)) D = some (-1, D')) := g1
          refine cR_none (D' := D') (ev_mono g1 (fun N hN => ?_)) (cK_24 g2)
          rw [if_neg (by decide), tb1, qc_some, hN, qb_some, if_pos rfl]
        | some q =>
          obtain ⟨g1, g2, g3, g4, g5⟩ := h2 q hh
          have g1 : Ev (fun N => FO_readHeader N M (nI (tgB T t dg)) 1 (nI (st + en)) D = some (ceI st q.2, zu D 24 3 (nI (st + q.1)))) := g1
          have hl : q.2.getD en ≤ L := by
            cases hq : q.2 with
            | none => exact he
            | some c => exact Nat.le_trans (g4 c hq).2 he
          have hc1 := cS_pos hc (show p ≤ q.1 by omega) (show q.1 ≤ L by omega)
          obtain ⟨c1, c2⟩ := ih g b (chd T (6 * t)) t0 none par wh i o (q.2.getD en) q.1 _ (ins + 1) (by omega) (by omega) w5 q4 (fun d hd => by cases hd) hc1 hl
          have hgo : Ev (fun N => qc (FT_tagByte N M a (dgI dg)) (fun v3 => qb (FO_readHeader N M v3 1 (nI (st + en)) D) fun v4 J5 => if v4 = -1 then some (false, J5) else if v4 = -2 then FO_readTagged_78 N M (RO_readElement N M g) (some a) par (nI wh) (nI (st + en)) (nI ins) v4 (nI (st + en)) J5 else FO_readTagged_78 N M (RO_readElement N M g) (some a) par (nI wh) (nI (st + en)) (nI ins) v4 v4 J5) = qb (RO_readElement N M g (some b, -1, par, nI wh, nI (st + q.2.getD en), nI (ins + 1), zu D 24 3 (nI (st + q.1)))) fun v2 J3 => if bI v2 = 0 then some (false, J3) else qb (FO_readContentEnd N M (ceI st q.2) (nI (st + en)) J3) fun v4 J5 => if bI v4 = 0 then some (false, J5) else some (true, J5)) := by
            refine ev_mono g1 (fun N hN => ?_)
            rw [tb1, qc_some, hN, qb_some]
            unfold FO_readTagged_78
            simp only [qo_s rfl e1, q3, nI_p1]
            cases hq : q.2 with
            | none =>
              rw [if_neg (show ceI st none ≠ -1 by simp only [ceI]; decide), if_pos (show ceI st none = -2 from rfl)]
              rfl
            | some c =>
              have := g4 c hq
              rw [if_neg (show ceI st (some c) ≠ -1 from nI_n1 (by omega)), if_neg (show ceI st (some c) ≠ -2 from nI_n2 (by omega))]
              rfl
          simp only [if_neg (show ¬ (1 : Int32) = 0 by decide), Option.bind_some]
          cases hrd : rdE T src s n (chd T (6 * t)) t0 none par wh i o (q.2.getD en) q.1 with
          | none =>
            obtain ⟨D', k1, k2⟩ := c1 hrd
            dsimp only [dgI] at k1
            refine cR_none (D' := D') (ev_mono (ev_and hgo k1) (fun N hN => ?_)) (cK_trans (cK_zu (by omega)) k2)
            rw [hN.1, hN.2, qb_some]
            rfl
          | some r =>
            obtain ⟨D1, k1, k2, k3, k4, k5, k6⟩ := c2 r hrd
            dsimp only [dgI] at k1
            obtain ⟨l1, l2⟩ := c_close (M := M) (ce := q.2) (en := en) hs k3 he (fun c hq => Nat.le_trans (g4 c hq).2 he)
            simp only [Option.bind_some]
            have hg : cG D D1 i o := cG_trans (cG_pos D _ i o) k2 (Nat.le_refl _) (Nat.le_refl _)
            cases hcl : cls src q.2 en r.1 with
            | none =>
              refine cR_none (D' := D1) (ev_mono (ev_and hgo k1) (fun N hN => ?_)) hg.1
              rw [hN.1, hN.2, qb_some, bI_t, if_neg (by decide), l1 hcl, qb_some]
              rfl
            | some p3 =>
              obtain ⟨m1, m2, m3⟩ := l2 p3 hcl
              simp only [Option.bind_some]
              refine cR_some (D' := zu D1 24 3 (nI (st + p3))) (ev_mono (ev_and hgo k1) (fun N hN => ?_)) (cG_trans hg (cG_pos _ _ i o) (Nat.le_refl _) (Nat.le_refl _)) (cS_pos k3 m2 m3) (by show p ≤ p3; omega) (cH_zu k5 (by omega)) (cO_zu k6 (by omega))
              rw [hN.1, hN.2, qb_some, bI_t, if_neg (by decide), m1, qb_some]
              rfl
      · have x' : ¬ isX T t = true := by unfold isX; simpa using x
        simp only [if_neg x, if_neg x']
        refine cR_out (fun N => ?_) (ih g b (chd T (6 * t)) t0 (some (dg.getD (dgt T t))) par wh i o en p D (ins + 1) (by omega) (by omega) w5 q4 ?_ hc he)
        · unfold FO_readTagged_20
          simp only [qo_s rfl e1, q3, nI_p1, qb_id]
          rw [if_pos trivial]
          cases dg with
          | none =>
            rw [if_pos (show dgI none = -1 from rfl), w1]
            rfl
          | some d =>
            have := hd d rfl
            rw [if_neg (show dgI (some d) ≠ -1 from nI_n1 (by omega))]
            rfl
        · intro d hq
          injection hq with hq
          subst hq
          cases dg with
          | none => exact w2
          | some d => exact hd d rfl
    simp only [if_neg k10]
    by_cases k9 : T 4 t = 9
    · simp only [if_pos k9]
      obtain ⟨w1, w2, w3⟩ := hw.2.2.2.2.2.2.2.2.1 (Or.inr k9)
      obtain ⟨q1, q2⟩ := hr.2.2.2.2.2.2.2 (Or.inr k9)
      obtain ⟨m1, m2⟩ := c_alt (en := en) (p := p) hs _ _ _ q2
      unfold FO_readChoice FT_memberWithTag
      simp only [c_ntb hs hc he, qb_some, qo_s rfl e1]
      cases hal : altF T t (ntb src en p) (cnt T t) 0 with
      | none =>
        refine cR_none (D' := D) ⟨cnt T t + 1, fun N hN => ?_⟩ (cK_refl D)
        dsimp only
        rw [m1 hal N N hN, qc_some, if_pos rfl]
        rfl
      | some k =>
        obtain ⟨b, a', j1, j2, j3, j4, j5, j6, j7⟩ := m2 k hal
        simp only [Option.bind_some]
        by_cases hi : i < 100
        · rw [if_pos hi]
          obtain ⟨D1, d1, d2, d3, d4, d5, d6, d7, d8, d9⟩ := c_add hc hi 9 par wh
          obtain ⟨c1, c2⟩ := ih' a' (chd T (6 * t + k)) (nI i) 0 (i + 1) o en p (zu D1 18 i (nI k)) (w3 k (by omega)).2 j5 (cS_zu d3 (by omega)) he
          have hgo : Ev (fun N => qc (qfix (FT_memberWithTag_5 N M (cTag (ntb src en p))) N (zr M a 10)) (fun v4 => if v4 = none then FO_readChoice_32 N M (RO_readElement N M g) (nI (st + en)) (nI ins) v4 (-1) D else qb (FV_addPart N M 16 9 par (nI wh) D) fun v5 J6 => FO_readChoice_32 N M (RO_readElement N M g) (nI (st + en)) (nI ins) v4 v5 J6) = RO_readElement N M g (some a', -1, nI i, nI 0, nI (st + en), nI (ins + 1), zu D1 18 i (nI k))) := by
            refine ⟨cnt T t + 1, fun N hN => ?_⟩
            dsimp only
            rw [j1 N N hN, qc_some, if_neg (by simp), d1, qb_some]
            unfold FO_readChoice_32
            rw [if_neg (nI_n1 (by omega)), qo_s rfl j2, qk_t (qi_nI hi (by omega)), j3, qo_s rfl j2, j4, nI_clamp (by omega), nI_p1, qb_id]
            rfl
          have hgD : cG D (zu D1 18 i (nI k)) i o := cG_trans d2 (cG_zu (by omega)) (Nat.le_refl _) (Nat.le_refl _)
          cases hrd : rdE T src s n (chd T (6 * t + k)) (chd T (6 * t + k)) none (nI i) 0 (i + 1) o en p with
          | none =>
            obtain ⟨D', k1, k2⟩ := c1 hrd
            dsimp only at k1
            refine cR_none (D' := D') (ev_mono (ev_and hgo k1) (fun N hN => ?_)) (cK_trans hgD.1 k2)
            rw [hN.1, hN.2]
          | some r =>
            obtain ⟨D', k1, k2, k3, k4, k5, k6⟩ := c2 r hrd
            dsimp only at k1
            refine cR_some (D' := D') (ev_mono (ev_and hgo k1) (fun N hN => ?_)) (cG_trans hgD k2 (by omega) (Nat.le_refl _)) ?_ k4 ?_ k6
            · rw [hN.1, hN.2]
            · show cS D' src st L s (i + (r.2.1.length + 1)) (o + r.2.2.1.length) r.1
              rw [show i + (r.2.1.length + 1) = i + 1 + r.2.1.length by omega]
              exact k3
            · refine cH_app (l1 := [mkP t0 t (nI k) wh par o 0 (r.2.1.length + 1)]) (D := zu D1 18 i (nI k)) (cH_one ?_ ?_ ?_ ?_ ?_ ?_) k2 k5
              · rw [zu_at, if_neg (by omega), d4, k9]
              · rw [zu_self]
              · rw [zu_at, if_neg (by omega)]; exact d6
              · rw [zu_at, if_neg (by omega)]; exact d7
              · rw [zu_at, if_neg (by omega)]; exact d8
              · rw [zu_at, if_neg (by omega)]; exact d9
        · rw [if_neg hi]
          refine cR_none (D' := D) ⟨cnt T t + 1, fun N hN => ?_⟩ (cK_refl D)
          dsimp only
          rw [j1 N N hN, qc_some, if_neg (by simp), c_add0 hc hi, qb_some]
          rfl
    simp only [if_neg k9]
    obtain ⟨tb1, tb2⟩ := c_tgB hw hr hd k9
    obtain ⟨h1, h2⟩ := c_hdr (made := isMade T t) hs hc he tb2 M
    unfold FO_readElement_81
    simp only [qo_s rfl e1, tb1, qc_some, e2]
    cases hh : hdr s src (tgB T t dg) (isMade T t) en p with
    | none =>
      obtain ⟨D', g1, g2⟩ := h1 hh
      refine cR_none (D' := D') (ev_mono g1 (fun N hN => ?_)) (cK_24 g2)
      rw [hN, qb_some, if_pos rfl]
      rfl
    | some q =>
      obtain ⟨g1, g2, g3, g4, g5⟩ := h2 q hh
      have hl : q.2.getD en ≤ L ∧ q.1 ≤ q.2.getD en := by
        cases hq : q.2 with
        | none => exact ⟨he, g3⟩
        | some c => exact ⟨Nat.le_trans (g4 c hq).2 he, (g4 c hq).1⟩
      have hc1 := cS_pos hc (show p ≤ q.1 by omega) (show q.1 ≤ L by omega)
      have hce1 : ceI st q.2 ≠ -1 := by
        cases hq : q.2 with
        | none => simp only [ceI]; decide
        | some c => have := g4 c hq; exact nI_n1 (by omega)
      simp only [Option.bind_some]
      by_cases hi : i < 100
      case neg =>
        rw [if_neg hi]
        refine cR_none (D' := zu D 24 3 (nI (st + q.1))) (ev_mono g1 (fun N hN => ?_)) (cK_zu (by omega))
        rw [hN, qb_some, if_neg hce1, c_add0 hc1 hi, qb_some]
        rfl
      simp only [if_pos hi]
      obtain ⟨D1, d1, d2, d3, d4⟩ := c_add hc1 hi (T 4 t) par wh
      have hgD : cG D D1 i o := cG_trans (cG_pos D _ i o) d2 (Nat.le_refl _) (Nat.le_refl _)
      have hgo : Ev (fun N => qb (FO_readHeader N M (nI (tgB T t dg)) (bI (isMade T t)) (nI (st + en)) D) (fun v3 J4 => if v3 = -1 then FO_readElement_122 N M (RO_readElement N M g) (some a) (nI (st + en)) (nI ins) (bI (isMade T t)) v3 (-1) J4 else qb (FV_addPart N M 16 (T 4 t) par (nI wh) J4) fun v6 J7 => FO_readElement_122 N M (RO_readElement N M g) (some a) (nI (st + en)) (nI ins) (bI (isMade T t)) v3 v6 J7) = if isMade T t = false then FO_readPlain N M (some a) (nI i) (ceI st q.2) D1 else FO_readElement_161 N M (RO_readElement N M g) (some a) (nI (st + en)) (nI ins) (ceI st q.2) (nI i) (nI (st + q.2.getD en)) D1) := by
        refine ev_mono g1 (fun N hN => ?_)
        rw [hN, qb_some, if_neg hce1, d1, qb_some]
        unfold FO_readElement_122
        rw [if_neg (nI_n1 (by omega))]
        simp only [qb_id, bI_eq0]
        by_cases m : isMade T t = false
        · rw [if_pos m, if_pos m]
        · rw [if_neg m, if_neg m]
          cases hq : q.2 with
          | none =>
            rw [if_pos (show ceI st none = -2 from rfl)]
            rfl
          | some c =>
            have := g4 c hq
            rw [if_neg (show ceI st (some c) ≠ -2 from nI_n2 (by omega))]
            rfl
      have hclose : ∀ (D' : zJ) (x : Nat × Rs), cG D D' i o → cS D' src st L s (i + x.2.1.length) (o + x.2.2.1.length) x.1 → p ≤ x.1 → cH T D' i x.2.1 → cO D' o x.2.2.1 → Ev (fun N => qb (FO_readHeader N M (nI (tgB T t dg)) (bI (isMade T t)) (nI (st + en)) D) (fun v3 J4 => if v3 = -1 then FO_readElement_122 N M (RO_readElement N M g) (some a) (nI (st + en)) (nI ins) (bI (isMade T t)) v3 (-1) J4 else qb (FV_addPart N M 16 (T 4 t) par (nI wh) J4) fun v6 J7 => FO_readElement_122 N M (RO_readElement N M g) (some a) (nI (st + en)) (nI ins) (bI (isMade T t)) v3 v6 J7) = FO_readElement_197 N M (RO_readElement N M g) (nI (st + en)) (ceI st q.2) (bI true) D') → ∀ e pk, cR T src st L s D i o p ((cls src q.2 en x.1).bind fun p3 => some (p3, x.2.1, x.2.2.1, e, pk)) (fun N => qb (FO_readHeader N M (nI (tgB T t dg)) (bI (isMade T t)) (nI (st + en)) D) (fun v3 J4 => if v3 = -1 then FO_readElement_122 N M (RO_readElement N M g) (some a) (nI (st + en)) (nI ins) (bI (isMade T t)) v3 (-1) J4 else qb (FV_addPart N M 16 (T 4 t) par (nI wh) J4) fun v6 J7 => FO_readElement_122 N M (RO_readElement N M g) (some a) (nI (st + en)) (nI ins) (bI (isMade T t)) v3 v6 J7)) := by
        intro D' x k2 k3 k4 k5 k6 hrun e pk
        obtain ⟨l1, l2⟩ := c_close (M := M) (ce := q.2) (en := en) hs k3 he (fun c hq => Nat.le_trans (g4 c hq).2 he)
        cases hcl : cls src q.2 en x.1 with
        | none =>
          refine cR_none (D' := D') (ev_mono hrun (fun N hN => ?_)) k2.1
          rw [hN]
          unfold FO_readElement_197
          rw [bI_t, if_neg (by decide), l1 hcl, qb_some]
          rfl
        | some p3 =>
          obtain ⟨m1, m2, m3⟩ := l2 p3 hcl
          refine cR_some (D' := zu D' 24 3 (nI (st + p3))) (ev_mono hrun (fun N hN => ?_)) (cG_trans k2 (cG_pos _ _ i o) (Nat.le_refl _) (Nat.le_refl _)) (cS_pos k3 m2 m3) (by show p ≤ p3; omega) (cH_zu k5 (by omega)) (cO_zu k6 (by omega))
          rw [hN]
          unfold FO_readElement_197
          rw [bI_t, if_neg (by decide), m1, qb_some]
          rfl
      by_cases k6 : T 4 t = 6
      · simp only [if_pos k6]
        have hmade : isMade T t = true := decide_eq_true (Or.inl k6)
        obtain ⟨w1, w2, w3⟩ := hw.2.2.2.2.2.2.2.2.1 (Or.inl k6)
        have w10 := hw.2.2.2.2.2.2.2.2.2.1 k6
        obtain ⟨r1, r2⟩ := hr.2.2.2.2.2.2.2 (Or.inl k6)
        obtain ⟨b1, b2, b3, b4, b5, b6⟩ := d4
        obtain ⟨c1, c2⟩ := c_comps hs k6 (show n ≤ 6 by omega) hl.1 ih' (cnt T t) 0 (zr M a 10) (i + 1) o q.1 0 0 D1 r2 (fun j' hj' => ⟨(w3 j' (by omega)).2, by rcases w10 j' (by omega) with w | w | w <;> simp [w]⟩) (by omega) d3 (show i < i + 1 by omega) b2 b6 (by decide)
        have hgo2 : Ev (fun N => qb (FO_readHeader N M (nI (tgB T t dg)) (bI (isMade T t)) (nI (st + en)) D) (fun v3 J4 => if v3 = -1 then FO_readElement_122 N M (RO_readElement N M g) (some a) (nI (st + en)) (nI ins) (bI (isMade T t)) v3 (-1) J4 else qb (FV_addPart N M 16 (T 4 t) par (nI wh) J4) fun v6 J7 => FO_readElement_122 N M (RO_readElement N M g) (some a) (nI (st + en)) (nI ins) (bI (isMade T t)) v3 v6 J7) = qb (qfix (FO_readComponents_6 N M (RO_readElement N M g) (nI i) (nI (st + q.2.getD en)) (nI ins)) N (zr M a 10, D1)) fun v2 J3 => FO_readElement_197 N M (RO_readElement N M g) (nI (st + en)) (ceI st q.2) (bI v2) J3) := by
          refine ev_mono hgo (fun N hN => ?_)
          rw [hN, if_neg (by rw [hmade]; decide)]
          unfold FO_readElement_161 FO_readComponents
          rw [qo_s rfl e1, e2, if_neg (by rw [k6]; decide), qo_s rfl e1]
        cases hrd : rdC T src s (rdE T src s n) t (nI i) (q.2.getD en) (cnt T t) 0 (i + 1) o q.1 with
        | none =>
          obtain ⟨D', k1, k2⟩ := c1 hrd
          obtain ⟨n0, k1⟩ := k1
          refine cR_none (D' := D') (ev_mono (ev_and hgo2 ⟨n0 + (cnt T t + 1), fun N hN => k1 N (by omega) N (by omega)⟩) (fun N hN => ?_)) (cK_trans hgD.1 k2)
          rw [hN.1, hN.2, qb_some]
          rfl
        | some x =>
          obtain ⟨D', k1, k2, k3, k4, k5, k7, k8, k9'⟩ := c2 x hrd
          obtain ⟨n0, k1⟩ := k1
          simp only [Option.bind_some]
          have hgD' : cG D D' i o := ⟨cK_trans hgD.1 k2.1, fun c k h1 h2 hk => (k2.2.1 c k h1 h2 (by omega) (by omega)).trans (hgD.2.1 c k h1 h2 hk), fun k hk => (k2.2.2 k hk).trans (hgD.2.2 k hk)⟩
          refine hclose D' (x.1, mkP t0 t (nI x.2.1) wh par o x.2.2.1 (x.2.2.2.2.1.length + 1) :: x.2.2.2.2.1, x.2.2.2.2.2.1, [], pnil) hgD' ?_ (by show p ≤ x.1; omega) (cH_cons ?_ ?_ ?_ ?_ ?_ ?_ k5) k7 (ev_mono (ev_and hgo2 ⟨n0 + (cnt T t + 1), fun N hN => k1 N (by omega) N (by omega)⟩) (fun N hN => ?_)) _ _
          · show cS D' src st L s (i + (x.2.2.2.2.1.length + 1)) (o + x.2.2.2.2.2.1.length) x.1
            rw [show i + (x.2.2.2.2.1.length + 1) = i + 1 + x.2.2.2.2.1.length by omega]
            exact k3
          · rw [k2.2.1 17 i (by omega) (by omega) (by omega) (by omega)]; exact b1
          · rw [k8, Nat.zero_add]
          · rw [k2.2.1 19 i (by omega) (by omega) (by omega) (by omega)]; exact b3
          · rw [k2.2.1 20 i (by omega) (by omega) (by omega) (by omega)]; exact b4
          · rw [k2.2.1 21 i (by omega) (by omega) (by omega) (by omega)]; exact b5
          · rw [k9', Nat.zero_add]
          · rw [hN.1, hN.2, qb_some]
      simp only [if_neg k6]
      by_cases k7 : T 4 t = 7
      · simp only [if_pos k7]
        have hmade : isMade T t = true := decide_eq_true (Or.inr k7)
        obtain ⟨w1, w2⟩ := hw.2.2.2.2.2.2.1 k7
        obtain ⟨b, r1, r2⟩ := hr.2.2.2.2.2.1 k7
        obtain ⟨b1, b2, b3, b4, b5, b6⟩ := d4
        obtain ⟨c1, c2⟩ := c_items (h := i) hs hl.1 e1 r1 w2 r2 ih' 100 0 (i + 1) o q.1 D1 (by omega) d3
        have hgo2 : Ev (fun N => qb (FO_readHeader N M (nI (tgB T t dg)) (bI (isMade T t)) (nI (st + en)) D) (fun v3 J4 => if v3 = -1 then FO_readElement_122 N M (RO_readElement N M g) (some a) (nI (st + en)) (nI ins) (bI (isMade T t)) v3 (-1) J4 else qb (FV_addPart N M 16 (T 4 t) par (nI wh) J4) fun v6 J7 => FO_readElement_122 N M (RO_readElement N M g) (some a) (nI (st + en)) (nI ins) (bI (isMade T t)) v3 v6 J7) = qb (qfix (FO_readItems_3 N M (RO_readElement N M g) (some a) (nI i) (nI (st + q.2.getD en)) (nI ins)) N (nI 0, D1)) fun v2 J3 => FO_readElement_197 N M (RO_readElement N M g) (nI (st + en)) (ceI st q.2) (bI v2) J3) := by
          refine ev_mono hgo (fun N hN => ?_)
          rw [hN, if_neg (by rw [hmade]; decide)]
          unfold FO_readElement_161 FO_readItems
          rw [qo_s rfl e1, e2, if_pos k7]
          rfl
        cases hrd : rdL src (rdE T src s n) (chd T (6 * t)) (nI i) (q.2.getD en) 100 0 (i + 1) o q.1 with
        | none =>
          obtain ⟨D', k1, k2⟩ := c1 hrd
          obtain ⟨n0, k1⟩ := k1
          refine cR_none (D' := D') (ev_mono (ev_and hgo2 ⟨n0 + (100 + 1), fun N hN => k1 N (by omega) N (by omega)⟩) (fun N hN => ?_)) (cK_trans hgD.1 k2)
          rw [hN.1, hN.2, qb_some]
          rfl
        | some x =>
          obtain ⟨D', k1, k2, k3, k4, k5, k7'⟩ := c2 x hrd
          obtain ⟨n0, k1⟩ := k1
          simp only [Option.bind_some]
          have h46 : ∀ N, FO_readItems_46 N M (RO_readElement N M g) (some a) (nI i) (nI (0 + x.2.1)) D' = some (alw T t (nI x.2.1), zu D' 18 i (nI x.2.1)) := by
            intro N
            unfold FO_readItems_46
            rw [qk_t (qi_nI hi (by omega)), qo_s rfl e1, Nat.zero_add, c_alw hw hr, qc_some, nI_clamp (by omega)]
          have hgD' : cG D (zu D' 18 i (nI x.2.1)) i o := cG_trans (cG_trans hgD k2 (by omega) (Nat.le_refl _)) (cG_zu (by omega)) (Nat.le_refl _) (Nat.le_refl _)
          by_cases hal : alw T t (nI x.2.1) = true
          · simp only [if_pos hal]
            refine hclose (zu D' 18 i (nI x.2.1)) (x.1, mkP t0 t (nI x.2.1) wh par o 0 (x.2.2.1.length + 1) :: x.2.2.1, x.2.2.2.1, [], pnil) hgD' ?_ (by show p ≤ x.1; omega) (cH_cons ?_ ?_ ?_ ?_ ?_ ?_ (cH_zu k5 (by omega))) (cO_zu k7' (by omega)) (ev_mono (ev_and hgo2 ⟨n0 + (100 + 1), fun N hN => k1 N (by omega) N (by omega)⟩) (fun N hN => ?_)) _ _
            · show cS _ src st L s (i + (x.2.2.1.length + 1)) (o + x.2.2.2.1.length) x.1
              rw [show i + (x.2.2.1.length + 1) = i + 1 + x.2.2.1.length by omega]
              exact cS_zu k3 (by omega)
            · rw [zu_at, if_neg (by omega), k2.2.1 17 i (by omega) (by omega) (by omega)]; exact b1
            · rw [zu_self]
            · rw [zu_at, if_neg (by omega), k2.2.1 19 i (by omega) (by omega) (by omega)]; exact b3
            · rw [zu_at, if_neg (by omega), k2.2.1 20 i (by omega) (by omega) (by omega)]; exact b4
            · rw [zu_at, if_neg (by omega), k2.2.1 21 i (by omega) (by omega) (by omega)]; exact b5
            · rw [zu_at, if_neg (by omega), k2.2.1 22 i (by omega) (by omega) (by omega)]; exact b6
            · rw [hN.1, hN.2, h46, hal, qb_some]
          · simp only [if_neg hal]
            have hal' : alw T t (nI x.2.1) = false := by simpa using hal
            refine cR_none (D' := zu D' 18 i (nI x.2.1)) (ev_mono (ev_and hgo2 ⟨n0 + (100 + 1), fun N hN => k1 N (by omega) N (by omega)⟩) (fun N hN => ?_)) hgD'.1
            rw [hN.1, hN.2, h46, hal', qb_some]
            rfl
      simp only [if_neg k7]
      have hmade : isMade T t = false := decide_eq_false (fun q => q.elim k6 k7)
      cases hq : q.2 with
      | none => exact absurd (g5 hq).1 (by rw [hmade]; decide)
      | some c =>
        have := g4 c hq
        have hpl := c_plain (t0 := t0) (tg := tgB T t dg) hs hw hr ⟨k6, k7, k9, k10⟩ d3 d4 this.1 (show c ≤ L by omega)
        refine cR_tr hgD (show p ≤ q.1 by omega) ?_
        refine ⟨fun h => ?_, fun x h => ?_⟩
        · obtain ⟨D', k1, k2⟩ := hpl.1 h
          refine ⟨D', ev_mono (ev_and hgo k1) (fun N hN => ?_), k2⟩
          dsimp only
          rw [hN.1, if_pos hmade, hq]
          exact hN.2
        · obtain ⟨D', k1, k2⟩ := hpl.2 x h
          refine ⟨D', ev_mono (ev_and hgo k1) (fun N hN => ?_), k2⟩
          dsimp only
          rw [hN.1, if_pos hmade, hq]
          exact hN.2
/-- a whole value by the open rules -/
def rdA (T : zJ) (src : Nat → Nat) (s : Bool) (t L : Nat) : Option Rs := (rdE T src s 6 t t none (-1) 0 0 0 L 0).bind fun q => if q.1 = L then some q.2 else none
theorem c_readAll {M : zM} {T D : zJ} {src : Nat → Nat} {st L a t : Nat} (s : Bool) (hs : sOK src) (hw : wfT T 6 t) (hr : rep M T 6 a t) (h0 : D 16 0 = 0) (h8 : D 16 8 = 0) (hb : ∀ k, k < L → D 6 (st + k) = nI (src k)) (hL : st + L ≤ 120) :
    (rdA T src s t L = none → ∃ D', Ev (fun N => FO_readAll N M (some a) (nI st) (nI (st + L)) (bI s) D = some (false, D')) ∧ cK D D') ∧
    (∀ r, rdA T src s t L = some r → ∃ D', Ev (fun N => FO_readAll N M (some a) (nI st) (nI (st + L)) (bI s) D = some (true, D')) ∧ cK D D' ∧ D' 16 0 = nI r.1.length ∧ D' 16 8 = nI r.2.1.length ∧ r.1.length ≤ 100 ∧ r.2.1.length ≤ L ∧ cH T D' 0 r.1 ∧ cO D' 0 r.2.1) := by
  have hc : cS (zu (zu D 24 2 (bI s)) 24 3 (nI (st + 0))) src st L s 0 0 0 := by
    refine ⟨?_, zu_self _ _ _ _, ?_, ?_, fun k hk => ?_, by omega, by omega, by omega, hL⟩
    · rw [zu_at, if_neg (by omega), zu_self]
    · rw [zu_at, if_neg (by omega), zu_at, if_neg (by omega), h0]; rfl
    · rw [zu_at, if_neg (by omega), zu_at, if_neg (by omega), h8]; rfl
    · rw [zu_at, if_neg (by omega), zu_at, if_neg (by omega)]; exact hb k hk
  obtain ⟨c1, c2⟩ := c_elem (M := M) hs 6 8 a t t none (-1) 0 0 0 L 0 _ 0 (by omega) (by omega) hw hr (fun d hd => by cases hd) hc (Nat.le_refl _)
  have hk0 : cK D (zu (zu D 24 2 (bI s)) 24 3 (nI (st + 0))) := cK_trans (cK_zu (by omega)) (cK_zu (by omega))
  have hgo : ∀ N, FO_readAll N M (some a) (nI st) (nI (st + L)) (bI s) D = qb (RO_readElement N M 8 (some a, dgI none, -1, nI 0, nI (st + L), nI 0, zu (zu D 24 2 (bI s)) 24 3 (nI (st + 0)))) fun v4 J5 => if (bI v4) = 0 then some (false, J5) else if (J5 24 3) = nI (st + L) then some (true, J5) else some (false, J5) := by
    intro N
    unfold FO_readAll qz
    cases s
    · rw [if_pos bI_f]
      simp only
      rw [if_neg (by rw [nI_ltI (by omega) (by omega)]; omega)]
      rfl
    · rw [if_neg (by decide), if_pos bI_t]
      simp only
      rw [if_neg (by rw [nI_ltI (by omega) (by omega)]; omega)]
      rfl
  simp only [hgo]
  unfold rdA
  cases hrd : rdE T src s 6 t t none (-1) 0 0 0 L 0 with
  | none =>
    obtain ⟨D', k1, k2⟩ := c1 hrd
    refine ⟨fun _ => ⟨D', ev_mono k1 (fun N hN => ?_), cK_trans hk0 k2⟩, fun r hr => by cases hr⟩
    dsimp only at hN
    rw [hN, qb_some]
    rfl
  | some q =>
    obtain ⟨D', k1, k2, k3, k4, k5, k6⟩ := c2 q hrd
    obtain ⟨a1, a2, a3, a4, a5, a6, a7, a8, a9⟩ := k3
    simp only [Option.bind_some]
    by_cases cq : q.1 = L
    · rw [if_pos cq]
      refine ⟨fun h => (by cases h), fun r hr => ?_⟩
      injection hr with hr
      subst hr
      refine ⟨D', ev_mono k1 (fun N hN => ?_), cK_trans hk0 k2.1, by rw [a3, Nat.zero_add], by rw [a4, Nat.zero_add], by omega, by omega, k5, k6⟩
      dsimp only at hN
      rw [hN, qb_some, bI_t, if_neg (by decide), a2, if_pos (by rw [cq])]
    · rw [if_neg cq]
      refine ⟨fun _ => ⟨D', ev_mono k1 (fun N hN => ?_), cK_trans hk0 k2.1⟩, fun r hr => by cases hr⟩
      dsimp only at hN
      rw [hN, qb_some, bI_t, if_neg (by decide), a2, if_neg (by rw [nI_eq (by omega) (by omega)]; omega)]
