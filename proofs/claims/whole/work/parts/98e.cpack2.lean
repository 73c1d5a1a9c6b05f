/-! THE CLASS reads packed bits: components, items, alternatives, all of it -/
def msk : Nat → List Bool → Nat
  | _, [] => 0
  | j, b :: l => (if b = true then 2 ^ j else 0) + msk (j + 1) l
theorem msk_le : ∀ l j, msk j l + 2 ^ j ≤ 2 ^ (j + l.length) ∧ msk j l % 2 ^ j = 0 := by
  intro l
  induction l with
  | nil => intro j; simp [msk]
  | cons b l ih =>
    intro j
    obtain ⟨h1, h2⟩ := ih (j + 1)
    unfold msk
    rw [List.length_cons, show j + (l.length + 1) = j + 1 + l.length by omega]
    have e : 2 ^ (j + 1) = 2 * 2 ^ j := by rw [Nat.pow_succ]; omega
    have h3 : msk (j + 1) l % 2 ^ j = 0 := by
      have := Nat.mod_mod_of_dvd (msk (j + 1) l) (show 2 ^ j ∣ 2 ^ (j + 1) from ⟨2, by rw [Nat.pow_succ]⟩)
      rw [h2] at this
      rw [← this]
      simp
    constructor
    · split <;> omega
    · split
      · rw [Nat.add_mod, Nat.mod_self, h3]; simp
      · rw [Nat.zero_add]; exact h3
theorem kp_pres {M : zM} {T : zJ} {src : Nat → Nat} {st L n t i o : Nat} (hs : sOK src) (hk : T 4 t = 6) : ∀ m j c acc p D, rChain M T (rep M T n) t m j c → j + m ≤ 6 → acc < 2 ^ j → kpS D src st L i o p →
    (prsP T src (8 * L) t m j p = none → ∃ D', Ev (fun N => ∀ F, m + 1 ≤ F → qfix (FP_takePresence_7 N M) F (nI acc, c, D) = some (-1, D')) ∧ kpF D D') ∧
    (∀ q, prsP T src (8 * L) t m j p = some q → Ev (fun N => ∀ F, m + 1 ≤ F → qfix (FP_takePresence_7 N M) F (nI acc, c, D) = some (nI (acc + msk j q.2), zu D 25 2 (nI (8 * st + q.1)))) ∧ p ≤ q.1 ∧ q.1 ≤ 8 * L ∧ q.2.length = m) := by
  intro m
  induction m with
  | zero =>
    intro j c acc p D hch hj hacc hS
    have : c = none := hch
    subst this
    unfold prsP
    refine ⟨fun h => (by cases h), fun q hq => ?_⟩
    injection hq with hq
    subst hq
    refine ⟨ev_of (fun N F hF => ?_), Nat.le_refl _, hS.2.2.2.2.2.2.2.1, rfl⟩
    obtain ⟨F, rfl⟩ : ∃ g, F = g + 1 := ⟨F - 1, by omega⟩
    rw [zu_id _ _ _ _ hS.2.1]
    rfl
  | succ m ih =>
    intro j c acc p D hch hj hacc hS
    obtain ⟨b, a, rfl, hb, b0, hr, b1, b2, b3, _, hch'⟩ := hch
    have b2 := b2 hk
    have hpw : 2 ^ (j + 1) = 2 * 2 ^ j := by rw [Nat.pow_succ]; omega
    have hp6 : 2 ^ j ≤ 2 ^ 5 := Nat.pow_le_pow_right (by omega) (by omega)
    have h27 : ∀ N K (v : Nat) D1, v < 2 → FP_takePresence_27 N M K (nI acc) (some b) (nI v) D1 = K (nI (acc + v * 2 ^ j), zr M b 5, D1) := by
      intro N K v D1 hv
      have hv2 : v * 2 ^ j ≤ 2 ^ j := by
        have : v = 0 ∨ v = 1 := by omega
        rcases this with rfl | rfl <;> simp
      unfold FP_takePresence_27
      rw [if_neg (nI_n1 (by omega)), qo_s rfl hb, qo_s rfl hb, b1, nI_and31 (by omega), nI_shl (by omega), nI_or (by omega) (by omega), Nat.or_comm, n_or hacc, Nat.add_comm]
    have hstep : ∀ N F, qfix (FP_takePresence_7 N M) (F + 1) (nI acc, some b, D) = if T 14 (6 * t + j) = 0 then qfix (FP_takePresence_7 N M) F (nI (acc + 2 ^ j), zr M b 5, D) else qb (FP_takeBits N M 1 D) fun v2 J3 => FP_takePresence_27 N M (qfix (FP_takePresence_7 N M) F) (nI acc) (some b) v2 J3 := by
      intro N F
      rw [qfix_s]
      simp only [FP_takePresence_7, qo_s rfl hb, b2]
      rw [if_neg (by simp)]
      have := h27 N (qfix (FP_takePresence_7 N M) F) 1 D (by omega)
      rw [Nat.one_mul] at this
      rw [show (1 : Int32) = nI 1 from rfl, this]
    unfold prsP
    by_cases f0 : T 14 (6 * t + j) = 0
    · simp only [if_pos f0] at hstep ⊢
      obtain ⟨i1, i2⟩ := ih (j + 1) _ (acc + 2 ^ j) p D hch' (by omega) (by omega) hS
      refine ⟨fun hq => ?_, fun q hq => ?_⟩
      · rcases bind_none_eq hq with hq | ⟨x, _, hq⟩
        · obtain ⟨D', g1, g2⟩ := i1 hq
          refine ⟨D', ev_mono g1 (fun N hN F hF => ?_), g2⟩
          obtain ⟨F, rfl⟩ : ∃ g, F = g + 1 := ⟨F - 1, by omega⟩
          rw [hstep, hN F (by omega)]
        · cases hq
      · obtain ⟨x, hx, hq⟩ := bind_some_eq hq
        injection hq with hq
        subst hq
        obtain ⟨g1, g2, g3, g4⟩ := i2 x hx
        refine ⟨ev_mono g1 (fun N hN F hF => ?_), g2, g3, by simp [g4]⟩
        obtain ⟨F, rfl⟩ : ∃ g, F = g + 1 := ⟨F - 1, by omega⟩
        rw [hstep, hN F (by omega)]
        show some (nI (acc + 2 ^ j + msk (j + 1) x.2), _) = some (nI (acc + ((if true = true then 2 ^ j else 0) + msk (j + 1) x.2)), _)
        rw [if_pos rfl, Nat.add_assoc]
    · simp only [if_neg f0] at hstep ⊢
      have hbt := kp_bits hs hS 1 (by omega) M
      have hbt : Ev (fun N => FP_takeBits N M 1 D = if p + 1 ≤ 8 * L then some (nI (bvs src p 1), zu D 25 2 (nI (8 * st + (p + 1)))) else some (-1, D)) := hbt
      have hbv : bvs src p 1 = sbit src p := by show 2 * 0 + sbit src (p + 0) = _; simp
      have hsb : sbit src p < 2 := Nat.mod_lt _ (by omega)
      by_cases c : p + 1 ≤ 8 * L
      · simp only [if_pos c, hbv] at hbt ⊢
        have hacc2 : acc + sbit src p * 2 ^ j < 2 ^ (j + 1) := by
          have : sbit src p = 0 ∨ sbit src p = 1 := by omega
          rcases this with z | z <;> rw [z] <;> omega
        obtain ⟨i1, i2⟩ := ih (j + 1) _ (acc + sbit src p * 2 ^ j) (p + 1) _ hch' (by omega) hacc2 (kpS_pos hS (by omega) c)
        refine ⟨fun hq => ?_, fun q hq => ?_⟩
        · rcases bind_none_eq hq with hq | ⟨x, _, hq⟩
          · obtain ⟨D', g1, g2⟩ := i1 hq
            refine ⟨D', ev_mono (ev_and hbt g1) (fun N hN F hF => ?_), fun c hc => (g2 c hc).trans (zu_ne _ _ _ hc)⟩
            obtain ⟨F, rfl⟩ : ∃ g, F = g + 1 := ⟨F - 1, by omega⟩
            rw [hstep, hN.1, qb_some, h27 _ _ _ _ hsb, hN.2 F (by omega)]
          · cases hq
        · obtain ⟨x, hx, hq⟩ := bind_some_eq hq
          injection hq with hq
          subst hq
          obtain ⟨g1, g2, g3, g4⟩ := i2 x hx
          refine ⟨ev_mono (ev_and hbt g1) (fun N hN F hF => ?_), by show p ≤ x.1; omega, g3, by simp [g4]⟩
          obtain ⟨F, rfl⟩ : ∃ g, F = g + 1 := ⟨F - 1, by omega⟩
          rw [hstep, hN.1, qb_some, h27 _ _ _ _ hsb, hN.2 F (by omega), zu_same]
          show some (nI (acc + sbit src p * 2 ^ j + msk (j + 1) x.2), _) = some (nI (acc + ((if decide (sbit src p = 1) = true then 2 ^ j else 0) + msk (j + 1) x.2)), _)
          have : sbit src p = 0 ∨ sbit src p = 1 := by omega
          rcases this with z | z <;> rw [z] <;> simp [Nat.add_assoc]
      · simp only [if_neg c] at hbt ⊢
        refine ⟨fun _ => ⟨D, ev_mono hbt (fun N hN F hF => ?_), fun _ _ => rfl⟩, fun q hq => (by cases hq)⟩
        obtain ⟨F, rfl⟩ : ∃ g, F = g + 1 := ⟨F - 1, by omega⟩
        rw [hstep, hN, qb_some]
        rfl
def kpC (T : zJ) (src : Nat → Nat) (st L : Nat) (D : zJ) (h i o p num sh : Nat) (res : Option (Nat × Nat × Nat × List Bool × Rs)) (out : Nat → Option (Bool × zJ) → Prop) : Prop :=
  (res = none → ∃ D', Ev (fun N => out N (some (false, D'))) ∧ kpK D D') ∧ (∀ q, res = some q → ∃ D', Ev (fun N => out N (some (true, D'))) ∧ kpGh D D' h i o ∧ kpS D' src st L (i + q.2.2.2.2.1.length) (o + q.2.2.2.2.2.1.length) q.1 ∧ p ≤ q.1 ∧ cH T D' i q.2.2.2.2.1 ∧ cO D' o q.2.2.2.2.2.1 ∧ D' 18 h = nI (num + q.2.1) ∧ D' 22 h = nI (sh + q.2.2.1))
def kpE (M : zM) (T : zJ) (src : Nat → Nat) (st L n f ins : Nat) : Prop := ∀ a u par wh i o p D, wfT T n u → rep M T n a u → kpS D src st L i o p → kpR T src st L D i o p (rdP T src true n u u none par wh i o (8 * L) p) (fun N => RP_readValue N M f (some a, par, nI wh, nI (ins + 1), D))
theorem kp_comps {M : zM} {T : zJ} {src : Nat → Nat} {st L n t f h ins mT : Nat} (hk : T 4 t = 6) (hn : n ≤ 6) (hm : mT < 64) (hrec : kpE M T src st L n f ins) :
    ∀ ths j c i o p num sh low D, rChain M T (rep M T n) t ths.length j c → (∀ j', j' < j + ths.length → wfT T n (chd T (6 * t + j')) ∧ (T 14 (6 * t + j') = 0 ∨ T 14 (6 * t + j') = 1 ∨ T 14 (6 * t + j') = 2)) → j + ths.length ≤ 6 → kpS D src st L i o p → h < i → D 18 h = nI num → D 22 h = nI sh → sh < 2 ^ j → mT = low + msk j ths → low < 2 ^ j →
      kpC T src st L D h i o p num sh (rpC T true (rdP T src true n) t (nI h) (8 * L) ths j i o p) (fun N r => ∀ F, ths.length + 1 ≤ F → qfix (FP_readComponents_21 N M (RP_readValue N M f) (nI h) (nI ins) (nI mT)) F (c, D) = r) := by
  intro ths
  induction ths with
  | nil =>
    intro j c i o p num sh low D hch hwf hj hc hh n1 n2 hsh _ _
    have : c = none := hch
    subst this
    unfold rpC
    refine ⟨fun hq => by simp at hq, fun q hq => ?_⟩
    injection hq with hq
    subst hq
    refine ⟨D, ev_of (fun N F hF => ?_), kpGh_of (kpG_refl D i o), hc, Nat.le_refl _, cH_nil _ _ _, cO_nil _ _, n1, n2⟩
    obtain ⟨F, rfl⟩ : ∃ g, F = g + 1 := ⟨F - 1, by omega⟩
    rfl
  | cons th ths ih =>
    intro j c i o p num sh low D hch hwf hj hc hh n1 n2 hsh hmT hlow
    simp only [List.length_cons] at hch hwf hj ⊢
    obtain ⟨b, a, rfl, hb, b0, hr, b1, b2, b3, _, hch'⟩ := hch
    have b2 := b2 hk
    have b3 := b3 hk
    obtain ⟨hw, hfl⟩ := hwf j (by omega)
    have hwf' : ∀ j', j' < j + 1 + ths.length → wfT T n (chd T (6 * t + j')) ∧ (T 14 (6 * t + j') = 0 ∨ T 14 (6 * t + j') = 1 ∨ T 14 (6 * t + j') = 2) := fun j' hj' => hwf j' (by omega)
    have hpw : 2 ^ (j + 1) = 2 ^ j + 2 ^ j := by rw [Nat.pow_succ]; omega
    have hmsk : msk j (th :: ths) = (if th = true then 2 ^ j else 0) + msk (j + 1) ths := rfl
    have hm2 := (msk_le ths (j + 1)).2
    have hj6 : j = 0 ∨ j = 1 ∨ j = 2 ∨ j = 3 ∨ j = 4 ∨ j = 5 := by omega
    have hbit : (mT / 2 ^ j) % 2 = 0 ↔ th = false := by
      rw [hmT, hmsk]
      cases th
      · simp only [Bool.false_eq_true, if_false, Nat.zero_add, iff_true]
        rcases hj6 with rfl | rfl | rfl | rfl | rfl | rfl <;> simp at hm2 hlow ⊢ <;> omega
      · simp only [if_true, Bool.true_eq_false, iff_false]
        rcases hj6 with rfl | rfl | rfl | rfl | rfl | rfl <;> simp at hm2 hlow ⊢ <;> omega
    have hmT' : mT = (low + if th = true then 2 ^ j else 0) + msk (j + 1) ths := by rw [hmT, hmsk, Nat.add_assoc]
    have hlow' : (low + if th = true then 2 ^ j else 0) < 2 ^ (j + 1) := by split <;> omega
    have hstep : ∀ N F, qfix (FP_readComponents_21 N M (RP_readValue N M f) (nI h) (nI ins) (nI mT)) (F + 1) (some b, D) = if th = false then qb (FV_leaveOutComponent N M 16 (some b) (nI h) D) (fun v14 J15 => if (bI v14) = 0 then some (false, J15) else qfix (FP_readComponents_21 N M (RP_readValue N M f) (nI h) (nI ins) (nI mT)) F (zr M b 5, J15)) else qb (RP_readValue N M f (some a, nI h, nI j, nI (ins + 1), D)) (fun v8 J9 => if (bI v8) = 0 then some (false, J9) else qb (FV_takeComponent N M 16 (some b) (nI h) (nI i) 1 J9) (fun v10 J11 => if (bI v10) = 0 then some (false, J11) else qfix (FP_readComponents_21 N M (RP_readValue N M f) (nI h) (nI ins) (nI mT)) F (zr M b 5, J11))) := by
      intro N F
      rw [qfix_s]
      simp only [FP_readComponents_21, qo_s rfl hb, b0, b1, nI_p1, hc.2.2.1, sh_bit hm (show j < 6 by omega), hbit]
      rw [if_neg (by simp)]
    unfold rpC
    cases th with
    | false =>
      simp only [if_true] at hstep ⊢
      simp only [Bool.false_eq_true, if_false, Nat.add_zero] at hmT' hlow'
      by_cases f1 : T 14 (6 * t + j) = 1
      · simp only [if_pos f1]
        have hl : ∀ N, FV_leaveOutComponent N M 16 (some b) (nI h) D = some (true, D) := by
          intro N
          unfold FV_leaveOutComponent FV_leaveOutComponent_15
          rw [qo_s rfl hb, b2, f1, if_neg (by decide), qo_s rfl hb, b2, f1, if_pos rfl]
        obtain ⟨i1, i2⟩ := ih (j + 1) _ i o p num sh low D hch' hwf' (by omega) hc hh n1 n2 (by omega) hmT' hlow'
        refine ⟨fun hq => ?_, fun q hq => ?_⟩
        · rcases bind_none_eq hq with hq | ⟨x, _, hq⟩
          · obtain ⟨D', g1, g2⟩ := i1 hq
            refine ⟨D', ev_mono g1 (fun N hN F hF => ?_), g2⟩
            obtain ⟨F, rfl⟩ : ∃ g, F = g + 1 := ⟨F - 1, by omega⟩
            rw [hstep, hl, qb_some, bI_t, if_neg (by decide), hN F (by omega)]
          · cases hq
        · obtain ⟨x, hx, hq⟩ := bind_some_eq hq
          injection hq with hq
          subst hq
          obtain ⟨D', g1, g2⟩ := i2 x hx
          refine ⟨D', ev_mono g1 (fun N hN F hF => ?_), g2⟩
          obtain ⟨F, rfl⟩ : ∃ g, F = g + 1 := ⟨F - 1, by omega⟩
          rw [hstep, hl, qb_some, bI_t, if_neg (by decide), hN F (by omega)]
      · simp only [if_neg f1]
        by_cases f2 : T 14 (6 * t + j) = 2
        · obtain ⟨l1, l2⟩ := kp_leave hw hr hn hc hh hb b0 b1 (by rw [b2, f2]) (b3 f2) n1 n2
          by_cases i100 : i < 100
          · rw [if_pos ⟨f2, i100⟩]
            obtain ⟨D1, d1, d2, d3, d4, d5, d6⟩ := l1 i100
            obtain ⟨i1, i2⟩ := ih (j + 1) _ (i + 1) o p (num + 1) sh low D1 hch' hwf' (by omega) d3 (by omega) d5 d6 (by omega) hmT' hlow'
            refine ⟨fun hq => ?_, fun q hq => ?_⟩
            · rcases bind_none_eq hq with hq | ⟨x, _, hq⟩
              · obtain ⟨D', g1, g2⟩ := i1 hq
                refine ⟨D', ev_mono (ev_and d1 g1) (fun N hN F hF => ?_), kpK_trans d2.1 g2⟩
                obtain ⟨F, rfl⟩ : ∃ g, F = g + 1 := ⟨F - 1, by omega⟩
                rw [hstep, hN.1, qb_some, bI_t, if_neg (by decide), hN.2 F (by omega)]
              · cases hq
            · obtain ⟨x, hx, hq⟩ := bind_some_eq hq
              injection hq with hq
              subst hq
              obtain ⟨D', g1, g2, g3, g4, g5, g6, g7, g8⟩ := i2 x hx
              refine ⟨D', ev_mono (ev_and d1 g1) (fun N hN F hF => ?_), kpGh_trans d2 g2 (by omega) (Nat.le_refl _), ?_, g4, kpH_apph (l1 := [_]) hh d4 g2 g5, g6, ?_, g8⟩
              · obtain ⟨F, rfl⟩ : ∃ g, F = g + 1 := ⟨F - 1, by omega⟩
                rw [hstep, hN.1, qb_some, bI_t, if_neg (by decide), hN.2 F (by omega)]
              · show kpS D' src st L (i + ([_] ++ x.2.2.2.2.1).length) (o + ([] ++ x.2.2.2.2.2.1).length) x.1
                rw [List.length_append, List.nil_append, ← Nat.add_assoc]
                exact g3
              · rw [g7]
                show nI (num + 1 + x.2.1) = nI (num + (x.2.1 + 1))
                congr 1
                omega
          · rw [if_neg (by rintro ⟨_, q⟩; exact i100 q)]
            refine ⟨fun _ => ⟨D, ev_mono (l2 i100) (fun N hN F hF => ?_), kpK_refl D⟩, fun q hq => by cases hq⟩
            obtain ⟨F, rfl⟩ : ∃ g, F = g + 1 := ⟨F - 1, by omega⟩
            rw [hstep, hN, qb_some]
            rfl
        · rw [if_neg (by rintro ⟨q, _⟩; exact f2 q)]
          refine ⟨fun _ => ⟨D, ev_of (fun N F hF => ?_), kpK_refl D⟩, fun q hq => by cases hq⟩
          obtain ⟨F, rfl⟩ : ∃ g, F = g + 1 := ⟨F - 1, by omega⟩
          rw [hstep]
          unfold FV_leaveOutComponent FV_leaveOutComponent_15
          rw [qo_s rfl hb, b2, if_neg f2, qo_s rfl hb, b2, if_neg f1, qb_some]
          rfl
    | true =>
      simp only [Bool.true_eq_false, if_false] at hstep ⊢
      simp only [if_true] at hmT' hlow'
      obtain ⟨r1, r2⟩ := hrec a (chd T (6 * t + j)) (nI h) j i o p D hw hr hc
      cases hrd : rdP T src true n (chd T (6 * t + j)) (chd T (6 * t + j)) none (nI h) j i o (8 * L) p with
      | none =>
        obtain ⟨D', g1, g2⟩ := r1 hrd
        dsimp only at g1
        refine ⟨fun _ => ⟨D', ev_mono g1 (fun N hN F hF => ?_), g2⟩, fun q hq => by cases hq⟩
        obtain ⟨F, rfl⟩ : ∃ g, F = g + 1 := ⟨F - 1, by omega⟩
        rw [hstep, hN, qb_some]
        rfl
      | some r =>
        obtain ⟨D1, g1, g2, g3, g4, g5, g6⟩ := r2 r hrd
        dsimp only at g1
        have hne := rp_ne T src true n _ _ _ _ _ _ _ _ _ _ hrd
        have hd : D1 18 i = hdV r.2.1 := by
          cases hl : r.2.1 with
          | nil => rw [hl] at hne; simp at hne
          | cons P l =>
            have := (g5 0 P (by rw [hl]; rfl)).2.1
            exact this
        have t1 : ∀ N, FV_takeComponent N M 16 (some b) (nI h) (nI i) 1 D1 = _ := fun N => kp_take (N := N) (b3 := fun q => b3 q) g3 (show i < i + r.2.1.length by omega) hh hb b1 b2 (by rw [g2.2.1 18 h (by omega) (by omega) hh]; exact n1) (by rw [g2.2.1 22 h (by omega) (by omega) hh]; exact n2) (by omega) hsh
        simp only [Option.bind_some]
        by_cases lf : T 14 (6 * t + j) = 2 ∧ hdV r.2.1 = T 15 (6 * t + j)
        · simp only [hd, if_pos lf] at t1
          simp only [if_pos lf]
          refine ⟨fun _ => ⟨zu D1 18 h (nI (num + 1)), ev_mono g1 (fun N hN F hF => ?_), kpK_trans g2.1 (kpK_zu (by omega))⟩, fun q hq => by simp at hq⟩
          obtain ⟨F, rfl⟩ : ∃ g, F = g + 1 := ⟨F - 1, by omega⟩
          rw [hstep, hN, qb_some, bI_t, if_neg (by decide), t1, qb_some]
          rfl
        · simp only [hd, if_neg lf] at t1
          simp only [if_neg lf]
          have d2 : kpGh D (zu (zu D1 18 h (nI (num + 1))) 22 h (nI (sh + 2 ^ j))) h i o := kpGh_trans (kpGh_trans (kpGh_of g2) (kpGh_zu (i := i) (o := o) (by omega)) (Nat.le_refl _) (Nat.le_refl _)) (kpGh_zu (i := i) (o := o) (by omega)) (Nat.le_refl _) (Nat.le_refl _)
          obtain ⟨i1, i2⟩ := ih (j + 1) _ (i + r.2.1.length) (o + r.2.2.1.length) r.1 (num + 1) (sh + 2 ^ j) (low + 2 ^ j) (zu (zu D1 18 h (nI (num + 1))) 22 h (nI (sh + 2 ^ j))) hch' hwf' (by omega) (kpS_zu (kpS_zu g3 (by omega)) (by omega)) (by omega) (by rw [zu_at, if_neg (by omega), zu_self]) (zu_self _ _ _ _) (by omega) hmT' hlow'
          have hrun : ∀ D' bb, Ev (fun N => ∀ F, ths.length + 1 ≤ F → qfix (FP_readComponents_21 N M (RP_readValue N M f) (nI h) (nI ins) (nI mT)) F (zr M b 5, zu (zu D1 18 h (nI (num + 1))) 22 h (nI (sh + 2 ^ j))) = some (bb, D')) → Ev (fun N => ∀ F, ths.length + 1 + 1 ≤ F → qfix (FP_readComponents_21 N M (RP_readValue N M f) (nI h) (nI ins) (nI mT)) F (some b, D) = some (bb, D')) := by
            intro D' bb k1
            refine ev_mono (ev_and g1 k1) (fun N hN F hF => ?_)
            obtain ⟨F, rfl⟩ : ∃ g, F = g + 1 := ⟨F - 1, by omega⟩
            rw [hstep, hN.1, qb_some, bI_t, if_neg (by decide), t1, qb_some, bI_t, if_neg (by decide), hN.2 F (by omega)]
          refine ⟨fun hq => ?_, fun q hq => ?_⟩
          · rcases bind_none_eq hq with hq | ⟨x, _, hq⟩
            · obtain ⟨D', k1, k2⟩ := i1 hq
              exact ⟨D', hrun D' false k1, kpK_trans d2.1 k2⟩
            · cases hq
          · obtain ⟨x, hx, hq⟩ := bind_some_eq hq
            injection hq with hq
            subst hq
            obtain ⟨D', k1, k2, k3, k4, k5, k6, k7, k8⟩ := i2 x hx
            have k2' : kpGh D1 D' h (i + r.2.1.length) (o + r.2.2.1.length) := kpGh_trans (kpGh_trans (kpGh_zu (h := h) (i := i + r.2.1.length) (o := o + r.2.2.1.length) (by omega)) (kpGh_zu (by omega)) (Nat.le_refl _) (Nat.le_refl _)) k2 (Nat.le_refl _) (Nat.le_refl _)
            refine ⟨D', hrun D' true k1, kpGh_trans d2 k2 (by omega) (by omega), ?_, Nat.le_trans g4 k4, kpH_apph hh g5 k2' k5, kpO_apph g6 k2' k6, ?_, ?_⟩
            · show kpS D' src st L (i + (r.2.1 ++ x.2.2.2.2.1).length) (o + (r.2.2.1 ++ x.2.2.2.2.2.1).length) x.1
              rw [List.length_append, List.length_append, ← Nat.add_assoc, ← Nat.add_assoc]
              exact k3
            · rw [k7]
              show nI (num + 1 + x.2.1) = nI (num + (x.2.1 + 1))
              congr 1
              omega
            · rw [k8]
              show nI (sh + 2 ^ j + x.2.2.1) = nI (sh + (2 ^ j + x.2.2.1))
              congr 1
              omega
