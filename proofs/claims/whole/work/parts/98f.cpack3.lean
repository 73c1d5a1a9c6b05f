/-! THE CLASS reads packed bits: all of it -/
theorem jRank_le (T : zJ) (t j c : Nat) : jRank T t j c ≤ c := by
  unfold jRank
  have := List.length_filter_le (fun i => decide (jLeast T (6 * t + i) < jLeast T (6 * t + j))) (List.range c)
  simp at this ⊢
  exact this
theorem c_memRk {M : zM} {T : zJ} {n t : Nat} (k9 : T 4 t = 9) (hc6 : cnt T t ≤ 6) (r : Option Nat) (hr : ∀ x, r = some x → x < 100) : ∀ m j c, rChain M T (rep M T n) t m j c → ((r = none ∨ ∃ x, r = some x ∧ altR T t x m j = none) → ∀ N F, m + 1 ≤ F → qfix (FT_memberRanked_5 N M (match r with | none => -1 | some x => nI x)) F c = some none) ∧ (∀ x k, r = some x → altR T t x m j = some k → ∃ b a, (∀ N F, m + 1 ≤ F → qfix (FT_memberRanked_5 N M (nI x)) F c = some (some b)) ∧ zsh M b = some (.inl 1) ∧ zi M b 1 = nI k ∧ zr M b 0 = some a ∧ rep M T n a (chd T (6 * t + k)) ∧ j ≤ k ∧ k < j + m) := by
  intro m
  induction m with
  | zero =>
    intro j c hch
    have : c = none := hch
    subst this
    refine ⟨fun _ N F hF => ?_, fun x k hx hk => by cases hk⟩
    obtain ⟨F, rfl⟩ : ∃ g, F = g + 1 := ⟨F - 1, by omega⟩
    rfl
  | succ m ih =>
    intro j c hch
    obtain ⟨b, a, rfl, hb, b0, hrp, b1, b2, b3, b4, hch'⟩ := hch
    have b4 := b4 k9
    have hjr := jRank_le T t j (cnt T t)
    obtain ⟨i1, i2⟩ := ih (j + 1) _ hch'
    have hstep : ∀ N F v, qfix (FT_memberRanked_5 N M v) (F + 1) (some b) = if nI (jRank T t j (cnt T t)) = v then some (some b) else qfix (FT_memberRanked_5 N M v) F (zr M b 5) := by
      intro N F v
      rw [qfix_s]
      simp only [FT_memberRanked_5, qo_s rfl hb, b4]
      rw [if_neg (by simp)]
    refine ⟨fun h N F hF => ?_, fun x k hx hk => ?_⟩
    · obtain ⟨F, rfl⟩ : ∃ g, F = g + 1 := ⟨F - 1, by omega⟩
      rw [hstep]
      rcases h with h | ⟨x, h, hal⟩
      · subst h
        rw [if_neg (nI_n1 (by omega))]
        exact i1 (Or.inl rfl) N F (by omega)
      · subst h
        have hx := hr x rfl
        unfold altR at hal
        by_cases z : jRank T t j (cnt T t) = x
        · rw [if_pos z] at hal; cases hal
        · rw [if_neg z] at hal
          rw [if_neg (by simp only; rw [nI_eq (by omega) (by omega)]; exact z)]
          exact i1 (Or.inr ⟨x, rfl, hal⟩) N F (by omega)
    · have hxl := hr x hx
      unfold altR at hk
      by_cases z : jRank T t j (cnt T t) = x
      · rw [if_pos z] at hk
        injection hk with hk
        subst hk
        refine ⟨b, a, fun N F hF => ?_, hb, b1, b0, hrp, by omega, by omega⟩
        obtain ⟨F, rfl⟩ : ∃ g, F = g + 1 := ⟨F - 1, by omega⟩
        rw [hstep, if_pos (by rw [z])]
      · rw [if_neg z] at hk
        obtain ⟨b', a', q1, q2, q3, q4, q5, q6, q7⟩ := i2 x k hx hk
        refine ⟨b', a', fun N F hF => ?_, q2, q3, q4, q5, by omega, by omega⟩
        obtain ⟨F, rfl⟩ : ∃ g, F = g + 1 := ⟨F - 1, by omega⟩
        rw [hstep, if_neg (by rw [nI_eq (by omega) (by omega)]; exact z), q1 N F (by omega)]
theorem kp_items {M : zM} {T : zJ} {src : Nat → Nat} {st L n a b u f h ins c : Nat} (hsh : zsh M a = some (.inl 6)) (h9 : zr M a 9 = some b) (hw : wfT T n u) (hr : rep M T n b u) (hc : c < 1000) (hrec : kpE M T src st L n f ins) :
    ∀ r k i o p D, k + r = c → kpS D src st L i o p →
      (rpL (rdP T src true n) u (nI h) (8 * L) r k i o p = none → ∃ D', Ev (fun N => ∀ F, r + 1 ≤ F → qfix (FP_readItems_21 N M (RP_readValue N M f) (some a) (nI h) (nI ins) (nI c)) F (nI k, D) = some (false, D')) ∧ kpK D D') ∧
      (∀ q, rpL (rdP T src true n) u (nI h) (8 * L) r k i o p = some q → ∃ D', Ev (fun N => ∀ F, r + 1 ≤ F → qfix (FP_readItems_21 N M (RP_readValue N M f) (some a) (nI h) (nI ins) (nI c)) F (nI k, D) = some (true, D')) ∧ kpG D D' i o ∧ kpS D' src st L (i + q.2.1.length) (o + q.2.2.1.length) q.1 ∧ p ≤ q.1 ∧ cH T D' i q.2.1 ∧ cO D' o q.2.2.1) := by
  intro r
  induction r with
  | zero =>
    intro k i o p D hk hS
    unfold rpL
    refine ⟨fun hq => by simp at hq, fun q hq => ?_⟩
    injection hq with hq
    subst hq
    refine ⟨D, ev_of (fun N F hF => ?_), kpG_refl D i o, hS, Nat.le_refl _, cH_nil _ _ _, cO_nil _ _⟩
    obtain ⟨F, rfl⟩ : ∃ g, F = g + 1 := ⟨F - 1, by omega⟩
    rw [qfix_s]
    simp only [FP_readItems_21]
    rw [if_pos (by rw [nI_leI (by omega) (by omega)]; omega), if_neg (nI_n1 (by omega))]
  | succ r ih =>
    intro k i o p D hk hS
    have hstep : ∀ N F, qfix (FP_readItems_21 N M (RP_readValue N M f) (some a) (nI h) (nI ins) (nI c)) (F + 1) (nI k, D) = qb (RP_readValue N M f (some b, nI h, nI k, nI (ins + 1), D)) (fun v4 J5 => if (bI v4) = 0 then some (false, J5) else qfix (FP_readItems_21 N M (RP_readValue N M f) (some a) (nI h) (nI ins) (nI c)) F (nI (k + 1), J5)) := by
      intro N F
      rw [qfix_s]
      simp only [FP_readItems_21, qo_s rfl hsh, h9, nI_p1]
      rw [if_neg (by rw [nI_leI (by omega) (by omega)]; omega)]
    unfold rpL
    obtain ⟨r1, r2⟩ := hrec b u (nI h) k i o p D hw hr hS
    cases hrd : rdP T src true n u u none (nI h) k i o (8 * L) p with
    | none =>
      obtain ⟨D', g1, g2⟩ := r1 hrd
      dsimp only at g1
      refine ⟨fun _ => ⟨D', ev_mono g1 (fun N hN F hF => ?_), g2⟩, fun q hq => by cases hq⟩
      obtain ⟨F, rfl⟩ : ∃ g, F = g + 1 := ⟨F - 1, by omega⟩
      rw [hstep, hN, qb_some]
      rfl
    | some x =>
      obtain ⟨D1, g1, g2, g3, g4, g5, g6⟩ := r2 x hrd
      dsimp only at g1
      simp only [Option.bind_some]
      obtain ⟨i1, i2⟩ := ih (k + 1) (i + x.2.1.length) (o + x.2.2.1.length) x.1 D1 (by omega) g3
      refine ⟨fun hq => ?_, fun q hq => ?_⟩
      · rcases bind_none_eq hq with hq | ⟨y, _, hq⟩
        · obtain ⟨D', k1, k2⟩ := i1 hq
          refine ⟨D', ev_mono (ev_and g1 k1) (fun N hN F hF => ?_), kpK_trans g2.1 k2⟩
          obtain ⟨F, rfl⟩ : ∃ g, F = g + 1 := ⟨F - 1, by omega⟩
          rw [hstep, hN.1, qb_some, bI_t, if_neg (by decide), hN.2 F (by omega)]
        · cases hq
      · obtain ⟨y, hy, hq⟩ := bind_some_eq hq
        injection hq with hq
        subst hq
        obtain ⟨D', k1, k2, k3, k4, k5, k6⟩ := i2 y hy
        refine ⟨D', ev_mono (ev_and g1 k1) (fun N hN F hF => ?_), kpG_trans g2 k2 (by omega) (by omega), ?_, Nat.le_trans g4 k4, kpH_app g5 k2 k5, kpO_app g6 k2 k6⟩
        · obtain ⟨F, rfl⟩ : ∃ g, F = g + 1 := ⟨F - 1, by omega⟩
          rw [hstep, hN.1, qb_some, bI_t, if_neg (by decide), hN.2 F (by omega)]
        · show kpS D' src st L (i + (x.2.1 ++ y.2.1).length) (o + (x.2.2.1 ++ y.2.2.1).length) y.1
          rw [List.length_append, List.length_append, ← Nat.add_assoc, ← Nat.add_assoc]
          exact k3
theorem RP_s (N : Nat) (M : zM) (g : Nat) (s : Option Nat × Int32 × Int32 × Int32 × zJ) : RP_readValue N M (g + 1) s = FP_readValue N M (RP_readValue N M g) s.1 s.2.1 s.2.2.1 s.2.2.2.1 s.2.2.2.2 := by
  unfold RP_readValue
  rw [qfix_s]
theorem kp_unf {M : zM} {T D : zJ} {a t ins : Nat} {par w : Int32} {rc : (Option Nat × Int32 × Int32 × Int32 × zJ) → Option (Bool × zJ)} (e1 : zsh M a = some (.inl 6)) (e2 : zi M a 0 = T 4 t) (hins : ins < 6) (N : Nat) : FP_readValue N M rc (some a) par w (nI ins) D = if T 4 t = 10 then rc (zr M a 9, par, w, nI (ins + 1), D) else qb (FV_addPart N M 16 (T 4 t) par w D) fun v3 J4 => if v3 = -1 then some (false, J4) else if T 4 t = 6 then FP_readComponents N M rc (some a) v3 (nI ins) J4 else if T 4 t = 7 then FP_readItems N M rc (some a) v3 (nI ins) J4 else if T 4 t = 9 then FP_readChoice N M rc (some a) v3 (nI ins) J4 else kpPl N M rc a v3 J4 := by
  unfold FP_readValue kpPl
  simp only [qo_s rfl e1, e2, qb_id, nI_p1]
  rw [if_neg (by simp), if_pos (by rw [show (6 : Int32) = nI 6 from rfl, nI_ltI (by omega) (by omega)]; omega)]
  by_cases k10 : T 4 t = 10
  · rw [if_pos k10, if_pos k10]
  · rw [if_neg k10, if_neg k10]
    congr 1
    funext v3 J4
    by_cases k1 : T 4 t = 1
    · rw [k1]; rfl
    by_cases k2 : T 4 t = 2
    · rw [k2]; rfl
    by_cases k4 : T 4 t = 4
    · rw [k4]; rfl
    simp only [if_neg k1, if_neg k2, if_neg k4]
theorem kp_val {M : zM} {T : zJ} {src : Nat → Nat} {st L : Nat} (hs : sOK src) : ∀ n f a t t0 dg par wh i o p D ins, n ≤ f → n + ins ≤ 6 → wfT T n t → rep M T n a t → kpS D src st L i o p → kpR T src st L D i o p (rdP T src true n t t0 dg par wh i o (8 * L) p) (fun N => RP_readValue N M f (some a, par, nI wh, nI ins, D)) := by
  intro n
  induction n with
  | zero => intro f a t t0 dg par wh i o p D ins hf hin hw; exact hw.elim
  | succ n ih =>
    intro f a t t0 dg par wh i o p D ins hf hin hw hr hS
    obtain ⟨g, rfl⟩ : ∃ g, f = g + 1 := ⟨f - 1, by omega⟩
    obtain ⟨e1, e2, _⟩ := rep_sh hr
    have hE : kpE M T src st L n g ins := by
      intro a u par wh i o p D hw hr hS
      exact ih g a u u none par wh i o p D (ins + 1) (by omega) (by omega) hw hr hS
    refine kpR_out (fun N => ?_) (o2 := fun N => if T 4 t = 10 then RP_readValue N M g (zr M a 9, par, nI wh, nI (ins + 1), D) else qb (FV_addPart N M 16 (T 4 t) par (nI wh) D) fun v3 J4 => if v3 = -1 then some (false, J4) else if T 4 t = 6 then FP_readComponents N M (RP_readValue N M g) (some a) v3 (nI ins) J4 else if T 4 t = 7 then FP_readItems N M (RP_readValue N M g) (some a) v3 (nI ins) J4 else if T 4 t = 9 then FP_readChoice N M (RP_readValue N M g) (some a) v3 (nI ins) J4 else kpPl N M (RP_readValue N M g) a v3 J4) ?_
    · rw [RP_s]
      exact kp_unf e1 e2 (by omega) N
    unfold rdP rpB
    by_cases k10 : T 4 t = 10
    · simp only [if_pos k10]
      obtain ⟨w1, w2, w3, w4, w5⟩ := hw.2.2.2.2.2.2.2.1 k10
      obtain ⟨q1, q2, b, q3, q4⟩ := hr.2.2.2.2.2.2.1 k10
      simp only [q3]
      by_cases x : isX T t = true
      · simp only [if_pos x]
        have hi := ih g b (chd T (6 * t)) t0 none par wh i o p D (ins + 1) (by omega) (by omega) w5 q4 hS
        cases hrd : rdP T src true n (chd T (6 * t)) t0 none par wh i o (8 * L) p with
        | none =>
          obtain ⟨D', a1, a2⟩ := hi.1 hrd
          exact kpR_none a1 a2
        | some r =>
          obtain ⟨D', a1, a2, a3, a4, a5, a6⟩ := hi.2 r hrd
          exact kpR_some a1 a2 a3 a4 a5 a6
      · simp only [if_neg x]
        exact ih g b (chd T (6 * t)) t0 (some (dg.getD (dgt T t))) par wh i o p D (ins + 1) (by omega) (by omega) w5 q4 hS
    simp only [if_neg k10]
    by_cases hi : i < 100
    case neg =>
      rw [if_neg hi]
      refine kpR_none (D' := D) (ev_of (fun N => ?_)) (kpK_refl D)
      rw [kp_add0 hS hi, qb_some, if_pos rfl]
    rw [if_pos hi]
    obtain ⟨D1, d1, d2, d3, d4⟩ := kp_add hS hi (T 4 t) par wh
    have hgo : ∀ N, (qb (FV_addPart N M 16 (T 4 t) par (nI wh) D) fun v3 J4 => if v3 = -1 then some (false, J4) else if T 4 t = 6 then FP_readComponents N M (RP_readValue N M g) (some a) v3 (nI ins) J4 else if T 4 t = 7 then FP_readItems N M (RP_readValue N M g) (some a) v3 (nI ins) J4 else if T 4 t = 9 then FP_readChoice N M (RP_readValue N M g) (some a) v3 (nI ins) J4 else kpPl N M (RP_readValue N M g) a v3 J4) = if T 4 t = 6 then FP_readComponents N M (RP_readValue N M g) (some a) (nI i) (nI ins) D1 else if T 4 t = 7 then FP_readItems N M (RP_readValue N M g) (some a) (nI i) (nI ins) D1 else if T 4 t = 9 then FP_readChoice N M (RP_readValue N M g) (some a) (nI i) (nI ins) D1 else kpPl N M (RP_readValue N M g) a (nI i) D1 := by
      intro N
      rw [d1, qb_some, if_neg (nI_n1 (by omega))]
    refine kpR_tr d2 (Nat.le_refl _) (kpR_out hgo ?_)
    obtain ⟨b1, b2, b3, b4, b5, b6⟩ := d4
    by_cases k9 : T 4 t = 9
    · have n6 : ¬ T 4 t = 6 := by rw [k9]; decide
      have n7 : ¬ T 4 t = 7 := by rw [k9]; decide
      simp only [if_pos k9, if_neg n6, if_neg n7]
      obtain ⟨w1, w2, w3⟩ := hw.2.2.2.2.2.2.2.2.1 (Or.inr k9)
      have wc := (hw.2.2.2.2.2.2.2.2.2.2 k9).1
      obtain ⟨q1, q2⟩ := hr.2.2.2.2.2.2.2 (Or.inr k9)
      unfold FP_readChoice FT_memberRanked
      simp only [qo_s rfl e1, q1, w1, show nI (cnt T t) - 1 = nI (cnt T t - 1) from nI_subs (b := 1) (by omega)]
      obtain ⟨g1, g2⟩ := kp_num hs d3 (show cnt T t - 1 < 65536 by omega) M
      cases hnum : numP true src (8 * L) (cnt T t - 1) p with
      | none =>
        obtain ⟨D', g3, g4⟩ := g1 hnum
        have hm := (c_memRk k9 w2 none (fun x hx => by cases hx) (cnt T t) 0 _ q2).1 (Or.inl rfl)
        refine kpR_none (D' := D') (ev_mono (ev_and g3 ⟨cnt T t + 1, fun N hN => hm N N hN⟩) (fun N hN => ?_)) (kpF_K g4)
        rw [hN.1, qb_some, hN.2, qc_some, if_pos rfl]
      | some x =>
        obtain ⟨g3, g4, g5, g6⟩ := g2 x hnum
        simp only [Option.bind_some]
        obtain ⟨m1, m2⟩ := c_memRk k9 w2 (some x.2) (fun y hy => by injection hy with hy; omega) (cnt T t) 0 _ q2
        cases hal : altR T t x.2 (cnt T t) 0 with
        | none =>
          have hm := m1 (Or.inr ⟨x.2, rfl, hal⟩)
          refine kpR_none (D' := zu D1 25 2 (nI (8 * st + x.1))) (ev_mono (ev_and g3 ⟨cnt T t + 1, fun N hN => hm N N hN⟩) (fun N hN => ?_)) (kpF_K kpF_zu)
          rw [hN.1, qb_some, hN.2, qc_some, if_pos rfl]
        | some k =>
          obtain ⟨mb, ma, j1, j2, j3, j4, j5, j6, j7⟩ := m2 x.2 k rfl hal
          simp only [Option.bind_some]
          have hc := hE ma (chd T (6 * t + k)) (nI i) 0 (i + 1) o x.1 (zu (zu D1 25 2 (nI (8 * st + x.1))) 18 i (nI k)) (w3 k (by omega)).2 j5 (kpS_zu (kpS_pos d3 g4 g5) (by omega))
          have hrun : Ev (fun N => (qb (FP_takeNumber N M (nI (cnt T t - 1)) D1) fun v2 J3 => qc (qfix (FT_memberRanked_5 N M v2) N (zr M a 10)) fun v5 => if v5 = none then some (false, J3) else qo v5 M 1 fun o6 => qk (qi (nI i) 100) (qo v5 M 1 fun o9 => RP_readValue N M g (zr M o9 0, nI i, 0, nI ins + 1, zu J3 18 (nI i).toNatClampNeg (zi M o6 1)))) = RP_readValue N M g (some ma, nI i, nI 0, nI (ins + 1), zu (zu D1 25 2 (nI (8 * st + x.1))) 18 i (nI k))) := by
            refine ev_mono (ev_and g3 ⟨cnt T t + 1, fun N hN => j1 N N hN⟩) (fun N hN => ?_)
            rw [hN.1, qb_some, hN.2, qc_some, if_neg (by simp), qo_s rfl j2, qk_t (qi_nI hi (by omega)), qo_s rfl j2, j4, j3, nI_clamp (by omega), nI_p1]
            rfl
          have hgD : kpG D1 (zu (zu D1 25 2 (nI (8 * st + x.1))) 18 i (nI k)) i o := kpG_trans (kpG_pos D1 _ i o) (kpG_zu (by omega)) (Nat.le_refl _) (Nat.le_refl _)
          cases hrd : rdP T src true n (chd T (6 * t + k)) (chd T (6 * t + k)) none (nI i) 0 (i + 1) o (8 * L) x.1 with
          | none =>
            obtain ⟨D', a1, a2⟩ := hc.1 hrd
            dsimp only at a1
            refine kpR_none (D' := D') (ev_mono (ev_and hrun a1) (fun N hN => ?_)) (kpK_trans hgD.1 a2)
            simp only [qb_id]
            rw [hN.1, hN.2]
          | some r =>
            obtain ⟨D', a1, a2, a3, a4, a5, a6⟩ := hc.2 r hrd
            dsimp only at a1
            refine kpR_some (D' := D') (ev_mono (ev_and hrun a1) (fun N hN => ?_)) (kpG_trans hgD a2 (by omega) (Nat.le_refl _)) ?_ (by show p ≤ r.1; omega) (cH_cons ?_ ?_ ?_ ?_ ?_ ?_ a5) a6
            · simp only [qb_id]
              rw [hN.1, hN.2]
            · show kpS D' src st L (i + (r.2.1.length + 1)) (o + r.2.2.1.length) r.1
              rw [show i + (r.2.1.length + 1) = i + 1 + r.2.1.length by omega]
              exact a3
            · rw [a2.2.1 17 i (by omega) (by omega) (by omega), zu_at, if_neg (by omega), zu_at, if_neg (by omega)]; exact b1
            · rw [a2.2.1 18 i (by omega) (by omega) (by omega), zu_self]
            · rw [a2.2.1 19 i (by omega) (by omega) (by omega), zu_at, if_neg (by omega), zu_at, if_neg (by omega)]; exact b3
            · rw [a2.2.1 20 i (by omega) (by omega) (by omega), zu_at, if_neg (by omega), zu_at, if_neg (by omega)]; exact b4
            · rw [a2.2.1 21 i (by omega) (by omega) (by omega), zu_at, if_neg (by omega), zu_at, if_neg (by omega)]; exact b5
            · rw [a2.2.1 22 i (by omega) (by omega) (by omega), zu_at, if_neg (by omega), zu_at, if_neg (by omega)]; exact b6
    simp only [if_neg k9]
    by_cases k6 : T 4 t = 6
    · simp only [if_pos k6]
      obtain ⟨w1, w2, w3⟩ := hw.2.2.2.2.2.2.2.2.1 (Or.inl k6)
      have w10 := hw.2.2.2.2.2.2.2.2.2.1 k6
      obtain ⟨r1, r2⟩ := hr.2.2.2.2.2.2.2 (Or.inl k6)
      obtain ⟨p1, p2⟩ := kp_pres (M := M) (n := n) hs k6 (cnt T t) 0 (zr M a 10) 0 p D1 r2 (by omega) (by decide) d3
      cases hp : prsP T src (8 * L) t (cnt T t) 0 p with
      | none =>
        obtain ⟨D', ⟨n1, g1⟩, g2⟩ := p1 hp
        refine kpR_none (D' := D') ⟨n1 + (cnt T t + 1), fun N hN => ?_⟩ (kpF_K g2)
        dsimp only
        unfold FP_readComponents FP_takePresence
        rw [qo_s rfl e1, show (0 : Int32) = nI 0 from rfl, g1 N (by omega) N (by omega), qb_some, if_pos rfl]
      | some x =>
        obtain ⟨⟨n1, g1⟩, g2, g3, g4⟩ := p2 x hp
        simp only [Option.bind_some, Nat.zero_add] at g1 ⊢
        have hml := (msk_le x.2 0).1
        have hm64 : msk 0 x.2 < 64 := by
          have : 2 ^ (0 + x.2.length) ≤ 2 ^ 6 := Nat.pow_le_pow_right (by omega) (by omega)
          omega
        have hc := kp_comps (M := M) (h := i) (mT := msk 0 x.2) (ins := ins) (f := g) k6 (show n ≤ 6 by omega) hm64 hE x.2 0 (zr M a 10) (i + 1) o x.1 0 0 0 (zu D1 25 2 (nI (8 * st + x.1))) (by rw [g4]; exact r2) (fun j' hj' => ⟨(w3 j' (by omega)).2, by rcases w10 j' (by omega) with w | w | w <;> simp [w]⟩) (by omega) (kpS_pos d3 g2 g3) (show i < i + 1 by omega) (by rw [zu_at, if_neg (by omega)]; exact b2) (by rw [zu_at, if_neg (by omega)]; exact b6) (by decide) (by omega) (by decide)
        have hrun : ∀ bb D', Ev (fun N => ∀ F, x.2.length + 1 ≤ F → qfix (FP_readComponents_21 N M (RP_readValue N M g) (nI i) (nI ins) (nI (msk 0 x.2))) F (zr M a 10, zu D1 25 2 (nI (8 * st + x.1))) = some (bb, D')) → Ev (fun N => FP_readComponents N M (RP_readValue N M g) (some a) (nI i) (nI ins) D1 = some (bb, D')) := by
          rintro bb D' ⟨n2, h2⟩
          refine ⟨n1 + n2 + (cnt T t + 1), fun N hN => ?_⟩
          dsimp only
          unfold FP_readComponents FP_takePresence
          rw [qo_s rfl e1, show (0 : Int32) = nI 0 from rfl, g1 N (by omega) N (by omega), qb_some, if_neg (nI_n1 (by omega)), qo_s rfl e1]
          exact h2 N (by omega) N (by omega)
        cases hrd : rpC T true (rdP T src true n) t (nI i) (8 * L) x.2 0 (i + 1) o x.1 with
        | none =>
          obtain ⟨D', a1, a2⟩ := hc.1 hrd
          exact kpR_none (hrun false D' a1) (kpK_trans (kpF_K kpF_zu) a2)
        | some q =>
          obtain ⟨D', a1, a2, a3, a4, a5, a6, a7, a8⟩ := hc.2 q hrd
          refine kpR_some (D' := D') (hrun true D' a1) ⟨kpK_trans (kpF_K kpF_zu) a2.1, fun c k h1 h2 hk => ?_, fun k hk => ?_⟩ ?_ (by show p ≤ q.1; omega) (cH_cons ?_ ?_ ?_ ?_ ?_ ?_ a5) a6
          · rw [a2.2.1 c k h1 h2 (by omega) (by omega), zu_at, if_neg (by omega)]
          · rw [a2.2.2 k hk, zu_at, if_neg (by omega)]
          · show kpS D' src st L (i + (q.2.2.2.2.1.length + 1)) (o + q.2.2.2.2.2.1.length) q.1
            rw [show i + (q.2.2.2.2.1.length + 1) = i + 1 + q.2.2.2.2.1.length by omega]
            exact a3
          · rw [a2.2.1 17 i (by omega) (by omega) (by omega) (by omega), zu_at, if_neg (by omega)]; exact b1
          · rw [a7, Nat.zero_add]
          · rw [a2.2.1 19 i (by omega) (by omega) (by omega) (by omega), zu_at, if_neg (by omega)]; exact b3
          · rw [a2.2.1 20 i (by omega) (by omega) (by omega) (by omega), zu_at, if_neg (by omega)]; exact b4
          · rw [a2.2.1 21 i (by omega) (by omega) (by omega) (by omega), zu_at, if_neg (by omega)]; exact b5
          · rw [a8, Nat.zero_add]
    simp only [if_neg k6]
    by_cases k7 : T 4 t = 7
    · simp only [if_pos k7]
      obtain ⟨w1, w2⟩ := hw.2.2.2.2.2.2.1 k7
      obtain ⟨b, r1, r2⟩ := hr.2.2.2.2.2.1 k7
      obtain ⟨g1, g2⟩ := kp_count hs hw hr (by rw [k7]; decide) d3
      unfold FP_readItems
      cases hcn : cntP T true src (8 * L) t p with
      | none =>
        obtain ⟨D', g3, g4⟩ := g1 hcn
        refine kpR_none (D' := zu D' 18 i (-1)) (ev_mono (ev_and g3 ⟨1, fun N hN => hN⟩) (fun N hN => ?_)) (kpK_trans (kpF_K g4) (kpK_zu (by omega)))
        rw [hN.1, qb_some, qk_t (qi_nI hi (by omega)), nI_clamp (by omega)]
        have hq : ∀ F, 1 ≤ F → qfix (FP_readItems_21 N M (RP_readValue N M g) (some a) (nI i) (nI ins) (-1)) F (0, zu D' 18 i (-1)) = some (false, zu D' 18 i (-1)) := by
          intro F hF
          obtain ⟨F, rfl⟩ : ∃ g, F = g + 1 := ⟨F - 1, by omega⟩
          rw [qfix_s]
          simp only [FP_readItems_21]
          rw [if_pos (by decide), if_pos trivial]
        exact hq N hN.2
      | some x =>
        obtain ⟨g3, g4, g5, g6⟩ := g2 x hcn
        simp only [Option.bind_some]
        obtain ⟨j1, j2⟩ := kp_items (M := M) (T := T) (src := src) (st := st) (L := L) (h := i) (c := x.2) e1 r1 w2 r2 (by omega) hE x.2 0 (i + 1) o x.1 (zu (zu D1 25 2 (nI (8 * st + x.1))) 18 i (nI x.2)) (by omega) (kpS_zu (kpS_pos d3 g4 g5) (by omega))
        have hrun : ∀ bb D', Ev (fun N => ∀ F, x.2 + 1 ≤ F → qfix (FP_readItems_21 N M (RP_readValue N M g) (some a) (nI i) (nI ins) (nI x.2)) F (nI 0, zu (zu D1 25 2 (nI (8 * st + x.1))) 18 i (nI x.2)) = some (bb, D')) → Ev (fun N => (qb (FP_takeCount N M (some a) D1) fun v1 J2 => qk (qi (nI i) 100) <| let J4 := zu J2 18 (nI i).toNatClampNeg v1; qfix (FP_readItems_21 N M (RP_readValue N M g) (some a) (nI i) (nI ins) v1) N (0, J4)) = some (bb, D')) := by
          rintro bb D' ⟨n2, h2⟩
          refine ev_mono (ev_and g3 ⟨n2 + (x.2 + 1), fun N hN => h2 N (by omega) N (by omega)⟩) (fun N hN => ?_)
          rw [hN.1, qb_some, qk_t (qi_nI hi (by omega)), nI_clamp (by omega)]
          exact hN.2
        have hgD : kpG D1 (zu (zu D1 25 2 (nI (8 * st + x.1))) 18 i (nI x.2)) i o := kpG_trans (kpG_pos D1 _ i o) (kpG_zu (by omega)) (Nat.le_refl _) (Nat.le_refl _)
        cases hrd : rpL (rdP T src true n) (chd T (6 * t)) (nI i) (8 * L) x.2 0 (i + 1) o x.1 with
        | none =>
          obtain ⟨D', a1, a2⟩ := j1 hrd
          exact kpR_none (hrun false D' a1) (kpK_trans hgD.1 a2)
        | some q =>
          obtain ⟨D', a1, a2, a3, a4, a5, a6⟩ := j2 q hrd
          refine kpR_some (D' := D') (hrun true D' a1) (kpG_trans hgD a2 (by omega) (Nat.le_refl _)) ?_ (by show p ≤ q.1; omega) (cH_cons ?_ ?_ ?_ ?_ ?_ ?_ a5) a6
          · show kpS D' src st L (i + (q.2.1.length + 1)) (o + q.2.2.1.length) q.1
            rw [show i + (q.2.1.length + 1) = i + 1 + q.2.1.length by omega]
            exact a3
          · rw [a2.2.1 17 i (by omega) (by omega) (by omega), zu_at, if_neg (by omega), zu_at, if_neg (by omega)]; exact b1
          · rw [a2.2.1 18 i (by omega) (by omega) (by omega), zu_self]
          · rw [a2.2.1 19 i (by omega) (by omega) (by omega), zu_at, if_neg (by omega), zu_at, if_neg (by omega)]; exact b3
          · rw [a2.2.1 20 i (by omega) (by omega) (by omega), zu_at, if_neg (by omega), zu_at, if_neg (by omega)]; exact b4
          · rw [a2.2.1 21 i (by omega) (by omega) (by omega), zu_at, if_neg (by omega), zu_at, if_neg (by omega)]; exact b5
          · rw [a2.2.1 22 i (by omega) (by omega) (by omega), zu_at, if_neg (by omega), zu_at, if_neg (by omega)]; exact b6
    simp only [if_neg k7]
    exact kp_plain (rec := fun N => RP_readValue N M g) hs hw hr ⟨k6, k7, k9, k10⟩ d3 ⟨b1, b2, b3, b4, b5, b6⟩
/-- a whole value of packed bits, as the class reads it -/
def rdPA (T : zJ) (src : Nat → Nat) (t L : Nat) : Option Rs := (rdP T src true 6 t t none (-1) 0 0 0 (8 * L) 0).bind fun q => if q.1 = 0 then (if L = 1 ∧ src 0 = 0 then some q.2 else none) else (alP true src q.1).bind fun p1 => if p1 = 8 * L then some q.2 else none
theorem kp_readAll {M : zM} {T D : zJ} {src : Nat → Nat} {st L a t : Nat} (hs : sOK src) (hw : wfT T 6 t) (hr : rep M T 6 a t) (h0 : D 16 0 = 0) (h8 : D 16 8 = 0) (hb : ∀ k, k < L → D 6 (st + k) = nI (src k)) (hL : st + L ≤ 120) :
    (rdPA T src t L = none → ∃ D', Ev (fun N => FP_readAll N M (some a) (nI st) (nI (st + L)) D = some (false, D')) ∧ kpK D D') ∧
    (∀ r, rdPA T src t L = some r → ∃ D', Ev (fun N => FP_readAll N M (some a) (nI st) (nI (st + L)) D = some (true, D')) ∧ kpK D D' ∧ D' 16 0 = nI r.1.length ∧ D' 16 8 = nI r.2.1.length ∧ r.1.length ≤ 100 ∧ r.2.1.length ≤ L ∧ cH T D' 0 r.1 ∧ cO D' 0 r.2.1) := by
  have hS : kpS (zu (zu D 25 2 (nI (8 * st + 0))) 25 3 (nI (8 * (st + L)))) src st L 0 0 0 := by
    refine ⟨zu_self _ _ _ _, ?_, ?_, ?_, fun k hk => ?_, by omega, by omega, by omega, hL⟩
    · rw [zu_at, if_neg (by omega), zu_self]
    · rw [zu_at, if_neg (by omega), zu_at, if_neg (by omega), h0]; rfl
    · rw [zu_at, if_neg (by omega), zu_at, if_neg (by omega), h8]; rfl
    · rw [zu_at, if_neg (by omega), zu_at, if_neg (by omega)]; exact hb k hk
  have hk0 : kpK D (zu (zu D 25 2 (nI (8 * st + 0))) 25 3 (nI (8 * (st + L)))) := kpK_trans (kpK_zu (by omega)) (kpK_zu (by omega))
  obtain ⟨c1, c2⟩ := kp_val (M := M) hs 6 8 a t t none (-1) 0 0 0 0 _ 0 (by omega) (by omega) hw hr hS
  have hgo : ∀ N, FP_readAll N M (some a) (nI st) (nI (st + L)) D = qb (RP_readValue N M 8 (some a, -1, nI 0, nI 0, zu (zu D 25 2 (nI (8 * st + 0))) 25 3 (nI (8 * (st + L))))) fun v3 J4 => if (bI v3) = 0 then some (false, J4) else if (J4 25 2) = nI (8 * st) then qb (FP_takeBits N M 8 J4) fun v7 J8 => if v7 = 0 then (if (J8 25 2) = (J8 25 3) then some (true, J8) else some (false, J8)) else some (false, J8) else qb (FP_align N M J4) fun v5 J6 => if (bI v5) = 0 then some (false, J6) else if (J6 25 2) = (J6 25 3) then some (true, J6) else some (false, J6) := by
    intro N
    unfold FP_readAll
    rw [if_neg (show ¬ nI 120 < nI (st + L) by rw [nI_ltI (by omega) (by omega)]; omega), show (8 : Int32) * nI st = nI (8 * st) from nI_mul 8 st, show (8 : Int32) * nI (st + L) = nI (8 * (st + L)) from nI_mul 8 (st + L)]
    rfl
  simp only [hgo]
  unfold rdPA
  cases hrd : rdP T src true 6 t t none (-1) 0 0 0 (8 * L) 0 with
  | none =>
    obtain ⟨D', k1, k2⟩ := c1 hrd
    dsimp only at k1
    refine ⟨fun _ => ⟨D', ev_mono k1 (fun N hN => ?_), kpK_trans hk0 k2⟩, fun r hr => by cases hr⟩
    rw [hN, qb_some]
    rfl
  | some q =>
    obtain ⟨D', k1, k2, k3, k4, k5, k6⟩ := c2 q hrd
    dsimp only at k1
    have hS' := k3
    obtain ⟨a1, a2, a3, a4, a5, a6, a7, a8, a9⟩ := k3
    simp only [Option.bind_some]
    have hpos : ∀ x, cH T (zu D' 25 2 x) 0 q.2.1 ∧ cO (zu D' 25 2 x) 0 q.2.2.1 ∧ zu D' 25 2 x 16 0 = nI q.2.1.length ∧ zu D' 25 2 x 16 8 = nI q.2.2.1.length := fun x => ⟨cH_zu k5 (by omega), cO_zu k6 (by omega), by rw [zu_at, if_neg (by omega), a3, Nat.zero_add], by rw [zu_at, if_neg (by omega), a4, Nat.zero_add]⟩
    have e253 : ∀ x, zu D' 25 2 x 25 3 = nI (8 * (st + L)) := fun x => by rw [zu_at, if_neg (by omega), a1]
    have e0 : nI (8 * st + q.1) = nI (8 * st) ↔ q.1 = 0 := by rw [nI_eq (by omega) (by omega)]; omega
    by_cases cq : q.1 = 0
    · simp only [if_pos cq]
      have hbt := kp_bits hs hS' 8 (by omega) M
      have hbt : Ev (fun N => FP_takeBits N M 8 D' = if q.1 + 8 ≤ 8 * L then some (nI (bvs src q.1 8), zu D' 25 2 (nI (8 * st + (q.1 + 8)))) else some (-1, D')) := hbt
      rw [cq] at hbt
      have hbv : bvs src 0 8 = src 0 := bvs_8 hs (p := 0) rfl
      have hs0 := hs 0
      by_cases cl : 0 + 8 ≤ 8 * L
      · simp only [if_pos cl, hbv] at hbt
        by_cases cz : L = 1 ∧ src 0 = 0
        · rw [if_pos cz]
          refine ⟨fun h => (by cases h), fun r hr => ?_⟩
          injection hr with hr
          subst hr
          obtain ⟨y1, y2, y3, y4⟩ := hpos (nI (8 * st + (0 + 8)))
          refine ⟨zu D' 25 2 (nI (8 * st + (0 + 8))), ev_mono (ev_and k1 hbt) (fun N hN => ?_), kpK_trans hk0 (kpK_trans k2.1 (kpK_zu (by omega))), y3, y4, by omega, by omega, y1, y2⟩
          rw [hN.1, qb_some, bI_t, if_neg (by decide), a2, if_pos (e0.mpr cq), hN.2, qb_some, cz.2, if_pos (show nI 0 = 0 from rfl), zu_self, e253, if_pos (by rw [cz.1]; congr 1)]
        · rw [if_neg cz]
          refine ⟨fun _ => ⟨zu D' 25 2 (nI (8 * st + (0 + 8))), ev_mono (ev_and k1 hbt) (fun N hN => ?_), kpK_trans hk0 (kpK_trans k2.1 (kpK_zu (by omega)))⟩, fun r hr => by cases hr⟩
          rw [hN.1, qb_some, bI_t, if_neg (by decide), a2, if_pos (e0.mpr cq), hN.2, qb_some]
          by_cases c3 : src 0 = 0
          · rw [c3, if_pos (show nI 0 = 0 from rfl), zu_self, e253, if_neg (by rw [nI_eq (by omega) (by omega)]; omega)]
          · rw [if_neg (by rw [show (0 : Int32) = nI 0 from rfl, nI_eq (by omega) (by omega)]; exact c3)]
      · simp only [if_neg cl] at hbt
        rw [if_neg (by omega)]
        refine ⟨fun _ => ⟨D', ev_mono (ev_and k1 hbt) (fun N hN => ?_), kpK_trans hk0 k2.1⟩, fun r hr => by cases hr⟩
        rw [hN.1, qb_some, bI_t, if_neg (by decide), a2, if_pos (e0.mpr cq), hN.2, qb_some, if_neg (by decide)]
    · simp only [if_neg cq]
      have ha := kp_align hs hS' M
      cases hal : alP true src q.1 with
      | none =>
        refine ⟨fun _ => ⟨D', ev_mono k1 (fun N hN => ?_), kpK_trans hk0 k2.1⟩, fun r hr => by cases hr⟩
        rw [hN, qb_some, bI_t, if_neg (by decide), a2, if_neg (fun z => cq (e0.mp z)), (ha N).1 hal, qb_some]
        rfl
      | some p1 =>
        obtain ⟨_, z1, z2, z3⟩ := (ha 0).2 p1 hal
        simp only [Option.bind_some]
        obtain ⟨y1, y2, y3, y4⟩ := hpos (nI (8 * st + p1))
        have hev : Ev (fun N => qb (RP_readValue N M 8 (some a, -1, nI 0, nI 0, zu (zu D 25 2 (nI (8 * st + 0))) 25 3 (nI (8 * (st + L))))) (fun v3 J4 => if (bI v3) = 0 then some (false, J4) else if (J4 25 2) = nI (8 * st) then qb (FP_takeBits N M 8 J4) fun v7 J8 => if v7 = 0 then (if (J8 25 2) = (J8 25 3) then some (true, J8) else some (false, J8)) else some (false, J8) else qb (FP_align N M J4) fun v5 J6 => if (bI v5) = 0 then some (false, J6) else if (J6 25 2) = (J6 25 3) then some (true, J6) else some (false, J6)) = if p1 = 8 * L then some (true, zu D' 25 2 (nI (8 * st + p1))) else some (false, zu D' 25 2 (nI (8 * st + p1)))) := by
          refine ev_mono k1 (fun N hN => ?_)
          rw [hN, qb_some, bI_t, if_neg (by decide), a2, if_neg (fun z => cq (e0.mp z)), ((ha N).2 p1 hal).1, qb_some, bI_t, if_neg (by decide), zu_self, e253]
          by_cases c4 : p1 = 8 * L
          · rw [if_pos c4, if_pos (by rw [c4]; congr 1; omega)]
          · rw [if_neg c4, if_neg (by rw [nI_eq (by omega) (by omega)]; omega)]
        by_cases c4 : p1 = 8 * L
        · rw [if_pos c4] at hev ⊢
          refine ⟨fun h => (by cases h), fun r hr => ?_⟩
          injection hr with hr
          subst hr
          exact ⟨_, hev, kpK_trans hk0 (kpK_trans k2.1 (kpK_zu (by omega))), y3, y4, by omega, by omega, y1, y2⟩
        · rw [if_neg c4] at hev ⊢
          exact ⟨fun _ => ⟨_, hev, kpK_trans hk0 (kpK_trans k2.1 (kpK_zu (by omega)))⟩, fun r hr => by cases hr⟩
