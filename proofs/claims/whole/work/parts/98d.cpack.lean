/-! THE CLASS reads packed bits: values -/
def kpR (T : zJ) (src : Nat → Nat) (st L : Nat) (D : zJ) (i o p : Nat) (res : Option (Nat × Rs)) (out : Nat → Option (Bool × zJ)) : Prop :=
  (res = none → ∃ D', Ev (fun N => out N = some (false, D')) ∧ kpK D D') ∧ (∀ q, res = some q → ∃ D', Ev (fun N => out N = some (true, D')) ∧ kpG D D' i o ∧ kpS D' src st L (i + q.2.1.length) (o + q.2.2.1.length) q.1 ∧ p ≤ q.1 ∧ cH T D' i q.2.1 ∧ cO D' o q.2.2.1)
theorem kpR_out {T : zJ} {src : Nat → Nat} {st L : Nat} {D : zJ} {i o p : Nat} {res : Option (Nat × Rs)} {o1 o2 : Nat → Option (Bool × zJ)} (h : ∀ N, o1 N = o2 N) (hr : kpR T src st L D i o p res o2) : kpR T src st L D i o p res o1 := by
  rw [funext h]; exact hr
theorem kpR_none {T : zJ} {src : Nat → Nat} {st L : Nat} {D D' : zJ} {i o p : Nat} {out : Nat → Option (Bool × zJ)} (h : Ev (fun N => out N = some (false, D'))) (hk : kpK D D') : kpR T src st L D i o p none out :=
  ⟨fun _ => ⟨D', h, hk⟩, fun q hq => by cases hq⟩
theorem kpR_some {T : zJ} {src : Nat → Nat} {st L : Nat} {D D' : zJ} {i o p : Nat} {q : Nat × Rs} {out : Nat → Option (Bool × zJ)} (h : Ev (fun N => out N = some (true, D'))) (hg : kpG D D' i o) (hc : kpS D' src st L (i + q.2.1.length) (o + q.2.2.1.length) q.1) (hp : p ≤ q.1) (hh : cH T D' i q.2.1) (ho : cO D' o q.2.2.1) : kpR T src st L D i o p (some q) out :=
  ⟨fun hq => (by cases hq), fun q' hq => (by injection hq with hq; subst hq; exact ⟨D', h, hg, hc, hp, hh, ho⟩)⟩
theorem kpR_tr {T : zJ} {src : Nat → Nat} {st L : Nat} {D D1 : zJ} {i o p p1 : Nat} {res : Option (Nat × Rs)} {out : Nat → Option (Bool × zJ)} (hg : kpG D D1 i o) (hp : p ≤ p1) (h : kpR T src st L D1 i o p1 res out) : kpR T src st L D i o p res out := by
  refine ⟨fun hq => ?_, fun q hq => ?_⟩
  · obtain ⟨D', a1, a2⟩ := h.1 hq
    exact ⟨D', a1, kpK_trans hg.1 a2⟩
  · obtain ⟨D', a1, a2, a3, a4, a5, a6⟩ := h.2 q hq
    exact ⟨D', a1, kpG_trans hg a2 (Nat.le_refl _) (Nat.le_refl _), a3, Nat.le_trans hp a4, a5, a6⟩
theorem octP_len (src : Nat → Nat) (p n : Nat) : (octP src p n).length = n := by simp [octP]
theorem octP_get {src : Nat → Nat} {p n k b : Nat} (h : (octP src p n)[k]? = some b) : k < n ∧ b = bvs src (p + 8 * k) 8 := by
  have hk : k < n := by
    have := (List.getElem?_eq_some_iff.mp h).1
    rw [octP_len] at this
    exact this
  refine ⟨hk, ?_⟩
  simp [octP, hk] at h
  exact h.symm
theorem kp_octs {M : zM} {src : Nat → Nat} {st L i o p1 c : Nat} (hs : sOK src) (hi : i < 100) (hc : c < 1000) : ∀ r k D, k + r = c → kpS D src st L (i + 1) (o + k) (p1 + 8 * k) → D 18 i = nI k →
    (p1 + 8 * c ≤ 8 * L → ∃ D', Ev (fun N => ∀ F, r + 1 ≤ F → qfix (FP_readOctets_34 N M (nI i) (nI c)) F (nI k, D) = some (true, D')) ∧ kpK D D' ∧ (∀ c' x, 17 ≤ c' → c' ≤ 22 → ¬ (c' = 18 ∧ x = i) → D' c' x = D c' x) ∧ (∀ x, x < o + k → D' 23 x = D 23 x) ∧ kpS D' src st L (i + 1) (o + c) (p1 + 8 * c) ∧ D' 18 i = nI c ∧ (∀ x, k ≤ x → x < c → D' 23 (o + x) = nI (bvs src (p1 + 8 * x) 8))) ∧
    (¬ p1 + 8 * c ≤ 8 * L → ∃ D', Ev (fun N => ∀ F, r + 1 ≤ F → qfix (FP_readOctets_34 N M (nI i) (nI c)) F (nI k, D) = some (false, D')) ∧ kpK D D') := by
  intro r
  induction r with
  | zero =>
    intro k D hk hS h18
    have : k = c := by omega
    subst this
    refine ⟨fun _ => ⟨D, ev_of (fun N F hF => ?_), kpK_refl D, fun _ _ _ _ _ => rfl, fun _ _ => rfl, hS, h18, fun x h1 h2 => by omega⟩, fun h => absurd hS.2.2.2.2.2.2.2.1 h⟩
    obtain ⟨F, rfl⟩ : ∃ g, F = g + 1 := ⟨F - 1, by omega⟩
    rw [qfix_s]
    simp only [FP_readOctets_34]
    rw [if_pos (by rw [nI_leI (by omega) (by omega)]; omega)]
  | succ r ih =>
    intro k D hk hS h18
    have hb := kp_bits hs hS 8 (by omega) M
    have hS' := hS
    obtain ⟨a1, a2, a3, a4, a5, a6, a7, a8, a9⟩ := hS
    by_cases c1 : p1 + 8 * k + 8 ≤ 8 * L
    · simp only [if_pos c1] at hb
      have hlt := bvs_lt src (p1 + 8 * k) 8
      generalize hD1 : zu (zu (zu (zu D 25 2 (nI (8 * st + (p1 + 8 * k + 8)))) 23 (o + k) (nI (bvs src (p1 + 8 * k) 8))) 16 8 (nI (o + k + 1))) 18 i (nI (k + 1)) = D1
      have hz : ∀ c' x, ¬ (c' = 25 ∧ x = 2) → ¬ (c' = 23 ∧ x = o + k) → ¬ (c' = 16 ∧ x = 8) → ¬ (c' = 18 ∧ x = i) → D1 c' x = D c' x := fun c' x h1 h2 h3 h4 => by
        rw [← hD1, zu_at, if_neg h4, zu_at, if_neg h3, zu_at, if_neg h2, zu_at, if_neg h1]
      have hS1 : kpS D1 src st L (i + 1) (o + (k + 1)) (p1 + 8 * (k + 1)) := by
        refine ⟨by rw [hz 25 3 (by omega) (by omega) (by omega) (by omega)]; exact a1, ?_, by rw [hz 16 0 (by omega) (by omega) (by omega) (by omega)]; exact a3, ?_, fun k' hk' => by rw [hz 6 _ (by omega) (by omega) (by omega) (by omega)]; exact a5 k' hk', a6, by omega, by omega, a9⟩
        · rw [← hD1, zu_at, if_neg (by omega), zu_at, if_neg (by omega), zu_at, if_neg (by omega), zu_self]
          rfl
        · rw [← hD1, zu_at, if_neg (by omega), zu_self]
          rfl
      have h181 : D1 18 i = nI (k + 1) := by rw [← hD1, zu_self]
      have h231 : D1 23 (o + k) = nI (bvs src (p1 + 8 * k) 8) := by rw [← hD1, zu_at, if_neg (by omega), zu_at, if_neg (by omega), zu_self]
      have hkK : kpK D D1 := fun c' hc' => by funext x; exact hz c' x (by omega) (by omega) (by omega) (by omega)
      obtain ⟨i1, i2⟩ := ih (k + 1) D1 (by omega) hS1 h181
      have hstep : ∀ N F, FP_takeBits N M 8 D = some (nI (bvs src (p1 + 8 * k) 8), zu D 25 2 (nI (8 * st + (p1 + 8 * k + 8)))) → qfix (FP_readOctets_34 N M (nI i) (nI c)) (F + 1) (nI k, D) = qfix (FP_readOctets_34 N M (nI i) (nI c)) F (nI (k + 1), D1) := by
        intro N F hN
        rw [qfix_s]
        simp only [FP_readOctets_34]
        rw [if_neg (by rw [nI_leI (by omega) (by omega)]; omega), hN, qb_some, if_neg (nI_n1 (by omega))]
        unfold FV_addOctet
        have e8 : zu D 25 2 (nI (8 * st + (p1 + 8 * k + 8))) 16 8 = nI (o + k) := by rw [zu_at, if_neg (by omega), a4]
        rw [e8, if_pos (by rw [nI_ltI (by omega) (by omega)]; omega), qk_t (qi_nI (by omega) (by omega)), nI_clamp (by omega)]
        simp only [qk_t (qi_nI hi (show 100 < 2 ^ 31 by omega)), nI_clamp (show i < 2 ^ 31 by omega), qb_some, bI_t, if_neg (show ¬ (1 : Int32) = 0 by decide), nI_p1]
        rw [show zu (zu D 25 2 (nI (8 * st + (p1 + 8 * k + 8)))) 23 (o + k) (nI (bvs src (p1 + 8 * k) 8)) 16 8 = nI (o + k) from by rw [zu_at, if_neg (by omega), e8], nI_p1]
        rw [show zu (zu (zu D 25 2 (nI (8 * st + (p1 + 8 * k + 8)))) 23 (o + k) (nI (bvs src (p1 + 8 * k) 8))) 16 8 (nI (o + k + 1)) 18 i = nI k from by rw [zu_at, if_neg (by omega), zu_at, if_neg (by omega), zu_at, if_neg (by omega), h18], nI_p1]
        rw [← hD1]
        rfl
      have hb : Ev (fun N => FP_takeBits N M 8 D = some (nI (bvs src (p1 + 8 * k) 8), zu D 25 2 (nI (8 * st + (p1 + 8 * k + 8))))) := hb
      refine ⟨fun hle => ?_, fun hle => ?_⟩
      · obtain ⟨D', j1, j2, j3, j4, j5, j6, j7⟩ := i1 hle
        refine ⟨D', ev_mono (ev_and hb j1) (fun N hN F hF => ?_), kpK_trans hkK j2, fun c' x h1 h2 h3 => ?_, fun x hx => ?_, j5, j6, fun x h1 h2 => ?_⟩
        · obtain ⟨F, rfl⟩ : ∃ g, F = g + 1 := ⟨F - 1, by omega⟩
          rw [hstep N F hN.1, hN.2 F (by omega)]
        · rw [j3 c' x h1 h2 h3, hz c' x (by omega) (by omega) (by omega) h3]
        · rw [j4 x (by omega), hz 23 x (by omega) (by omega) (by omega) (by omega)]
        · by_cases hx : x = k
          · rw [hx, j4 _ (by omega), h231]
          · exact j7 x (by omega) h2
      · obtain ⟨D', j1, j2⟩ := i2 hle
        refine ⟨D', ev_mono (ev_and hb j1) (fun N hN F hF => ?_), kpK_trans hkK j2⟩
        obtain ⟨F, rfl⟩ : ∃ g, F = g + 1 := ⟨F - 1, by omega⟩
        rw [hstep N F hN.1, hN.2 F (by omega)]
    · simp only [if_neg c1] at hb
      have hb : Ev (fun N => FP_takeBits N M 8 D = some (-1, D)) := hb
      refine ⟨fun hle => absurd hle (by omega), fun _ => ⟨D, ev_mono hb (fun N hN F hF => ?_), kpK_refl D⟩⟩
      obtain ⟨F, rfl⟩ : ∃ g, F = g + 1 := ⟨F - 1, by omega⟩
      rw [qfix_s]
      simp only [FP_readOctets_34]
      rw [if_neg (by rw [nI_leI (by omega) (by omega)]; omega), hN, qb_some, if_pos rfl]
/-- what FP_readValue does behind the part it has added, where the type is plain -/
def kpPl (N : Nat) (M : zM) (rec : (Option Nat × Int32 × Int32 × Int32 × zJ) → Option (Bool × zJ)) (a : Nat) (i : Int32) (D : zJ) : Option (Bool × zJ) :=
  if (zi M a 0) = 1 then
    qb (FP_takeBits N M 1 D) fun v6 J7 => qk (qi i 100) <| qk (qi i 100) <| if (zu J7 18 i.toNatClampNeg v6) 18 i.toNatClampNeg = -1 then some (false, zu J7 18 i.toNatClampNeg v6) else some (true, zu J7 18 i.toNatClampNeg v6)
  else if (zi M a 0) = 2 then (if (zi M a 1) = 0 then FP_readUnbounded N M i D else FP_readBounded N M (some a) i D)
  else if (zi M a 0) = 4 then FP_readOctets N M (some a) i D
  else some (true, D)
theorem cA_zu {D : zJ} {i : Nat} {kd par : Int32} {wh o : Nat} {x : Int32} (h : cA D i kd par wh o) : cA (zu D 25 2 x) i kd par wh o := by
  obtain ⟨b1, b2, b3, b4, b5, b6⟩ := h
  refine ⟨?_, ?_, ?_, ?_, ?_, ?_⟩ <;> rw [zu_at, if_neg (by omega)] <;> assumption
theorem cA_num {T D : zJ} {i t0 t wh o m : Nat} {par v : Int32} (h : cA D i (T 4 t) par wh o) : cH T (zu D 18 i v) i [mkP t0 t v wh par o 0 m] := by
  obtain ⟨b1, b2, b3, b4, b5, b6⟩ := h
  refine cH_one ?_ (zu_self _ _ _ _) ?_ ?_ ?_ ?_ <;> rw [zu_at, if_neg (by omega)] <;> assumption
theorem kp_plain {M : zM} {T D : zJ} {src : Nat → Nat} {st L n a t t0 tg i o p wh : Nat} {par : Int32} {rec : Nat → (Option Nat × Int32 × Int32 × Int32 × zJ) → Option (Bool × zJ)} (hs : sOK src) (hw : wfT T n t) (hr : rep M T n a t) (hk : T 4 t ≠ 6 ∧ T 4 t ≠ 7 ∧ T 4 t ≠ 9 ∧ T 4 t ≠ 10) (hS : kpS D src st L (i + 1) o p) (ha : cA D i (T 4 t) par wh o) :
    kpR T src st L D i o p (rpPl T src true t t0 tg par wh o (8 * L) p) (fun N => kpPl N M (rec N) a (nI i) D) := by
  obtain ⟨e1, e2, _⟩ := rep_sh hr
  have i100 : i < 100 := by have := hS.2.2.2.2.2.1; omega
  have hr1 : zi M a 1 = T 11 t := by cases n with
    | zero => exact hw.elim
    | succ n => exact hr.2.2.1
  have hr2 : T 11 t = 1 → zi M a 2 = T 5 t ∧ zi M a 3 = T 6 t := by cases n with
    | zero => exact hw.elim
    | succ n => exact hr.2.2.2.1
  have h01 : T 11 t = 0 ∨ T 11 t = 1 := by cases n with
    | zero => exact hw.elim
    | succ n => exact hw.2.2.1
  have hL120 := hS.2.2.2.2.2.2.2.2
  have ho8 := hS.2.2.2.2.2.2.1
  unfold kpPl rpPl
  simp only [e2]
  by_cases k1 : T 4 t = 1
  · simp only [if_pos k1]
    have hb := kp_bits hs hS 1 (by omega) M
    have hb : Ev (fun N => FP_takeBits N M 1 D = if p + 1 ≤ 8 * L then some (nI (bvs src p 1), zu D 25 2 (nI (8 * st + (p + 1)))) else some (-1, D)) := hb
    have hbv : bvs src p 1 = sbit src p := by show 2 * 0 + sbit src (p + 0) = _; simp
    have hsb : sbit src p < 2 := Nat.mod_lt _ (by omega)
    by_cases c : p + 1 ≤ 8 * L
    · rw [if_pos c]
      simp only [if_pos c, hbv] at hb
      refine kpR_some (D' := zu (zu D 25 2 (nI (8 * st + (p + 1)))) 18 i (nI (sbit src p))) (ev_mono hb (fun N hN => ?_)) (kpG_trans (kpG_pos D _ i o) (kpG_zu (by omega)) (Nat.le_refl _) (Nat.le_refl _)) (kpS_zu (kpS_pos hS (by omega) c) (by omega)) (by simp) (cA_num (cA_zu ha)) (cO_nil _ _)
      rw [hN, qb_some, qk_t (qi_nI i100 (by omega)), qk_t (qi_nI i100 (by omega)), nI_clamp (by omega), zu_self, if_neg (nI_n1 (by omega))]
    · rw [if_neg c]
      simp only [if_neg c] at hb
      refine kpR_none (D' := zu D 18 i (-1)) (ev_mono hb (fun N hN => ?_)) (kpK_zu (by omega))
      rw [hN, qb_some, qk_t (qi_nI i100 (by omega)), qk_t (qi_nI i100 (by omega)), nI_clamp (by omega), zu_self, if_pos rfl]
  simp only [if_neg k1]
  by_cases k2 : T 4 t = 2
  · simp only [if_pos k2, hr1]
    rcases h01 with h0 | h1
    · have n1 : ¬ T 11 t = 1 := by rw [h0]; decide
      simp only [if_pos h0, if_neg n1]
      obtain ⟨g1, g2⟩ := kp_byte hs hS M
      unfold FP_readUnbounded
      cases hal : alP true src p with
      | none =>
        refine kpR_none (D' := D) (ev_of (fun N => ?_)) (kpK_refl D)
        rw [g2 hal, qb_some]
        have hneg : FI_areBytesOfOne N ((D 25 2) >>> (3 &&& 31)) (-1) D = some (false, D) := by
          unfold FI_areBytesOfOne
          rw [if_pos (by decide)]
        dsimp only
        rw [hneg, qb_some]
        by_cases z : D 25 3 < D 25 2 + 8 * -1
        · rw [if_pos z]
        · rw [if_neg z]; rfl
      | some p1 =>
        obtain ⟨z1, z2, z3, z4⟩ := g1 p1 hal
        have hlt := bvs_lt src p1 8
        simp only [Option.bind_some]
        by_cases c1 : p1 + 8 ≤ 8 * L
        · simp only [if_pos c1] at z1
          have hS1 := kpS_pos hS (show p ≤ p1 + 8 by omega) c1
          have hp8 : (p1 + 8) / 8 * 8 = p1 + 8 := by omega
          generalize hc : bvs src p1 8 = c at *
          have hbase : Ev (fun N => (qb (FP_takeByte N M D) fun v1 J2 => let y3 := (J2 25 2) >>> (3 &&& 31); if (J2 25 3) < ((J2 25 2) + (8 * v1)) then some (false, J2) else qb (FI_areBytesOfOne N y3 v1 J2) fun v4 J5 => if (bI v4) = 0 then some (false, J5) else qb (FI_fromBytes N y3 v1 J5) fun v6 J7 => qk (qi (nI i) 100) <| let J9 := zu J7 18 (nI i).toNatClampNeg v6; let J10 := zu J9 25 2 ((J9 25 2) + (8 * v1)); some (true, J10)) = if 8 * L < p1 + 8 + 8 * c then some (false, zu D 25 2 (nI (8 * st + (p1 + 8)))) else if decide (1 ≤ c ∧ c ≤ 4 ∧ byC (ivF src ((p1 + 8) / 8) c) = c) = false then some (false, zu D 25 2 (nI (8 * st + (p1 + 8)))) else qb (FI_fromBytes N (nI (st + (p1 + 8) / 8)) (nI c) (zu D 25 2 (nI (8 * st + (p1 + 8))))) fun v6 J7 => some (true, zu (zu J7 18 i v6) 25 2 ((zu J7 18 i v6) 25 2 + (8 * nI c)))) := by
            refine ev_mono z1 (fun N hN => ?_)
            obtain ⟨b1, b2, b3, b4, b5, b6, b7, b8, b9⟩ := hS1
            have hsh : nI (8 * st + (p1 + 8)) >>> (3 &&& 31) = nI (st + (p1 + 8) / 8) := by
              rw [show (3 &&& 31 : Int32) = nI 3 from by decide, nI_shr (by omega) (by omega)]
              congr 1
              omega
            rw [hN, qb_some]
            simp only
            rw [b2, b1, hsh, show (8 : Int32) * nI c = nI (8 * c) from nI_mul 8 c, nI_add]
            simp (disch := omega) only [nI_ltI]
            by_cases c2 : 8 * L < p1 + 8 + 8 * c
            · rw [if_pos (by omega), if_pos c2]
            · rw [if_neg (by omega), if_neg c2, c_abo (c := c) hs b5 b9 (by omega), qb_some]
              simp only [bI_eq0, qk_t (qi_nI i100 (show 100 < 2 ^ 31 by omega)), nI_clamp (show i < 2 ^ 31 by omega)]
          by_cases c2 : 8 * L < p1 + 8 + 8 * c
          · simp only [if_pos c2] at hbase
            rw [if_neg (fun z => by omega)]
            exact kpR_none hbase (kpF_K kpF_zu)
          · simp only [if_neg c2] at hbase
            by_cases c3 : 1 ≤ c ∧ c ≤ 4 ∧ byC (ivF src ((p1 + 8) / 8) c) = c
            · have d3 : ¬ decide (1 ≤ c ∧ c ≤ 4 ∧ byC (ivF src ((p1 + 8) / 8) c) = c) = false := by rw [decide_eq_true c3]; decide
              simp only [if_neg d3] at hbase
              rw [if_pos ⟨c1, c3.1, c3.2.1, by omega, Or.inr c3.2.2⟩]
              have hf := c_from (c := c) hs hS1.2.2.2.2.1 hS1.2.2.2.2.2.2.2.2 (show (p1 + 8) / 8 + c ≤ L by omega) c3.1
              refine kpR_some (D' := zu (zu (zu D 25 2 (nI (8 * st + (p1 + 8)))) 18 i (ivF src ((p1 + 8) / 8) c)) 25 2 (nI (8 * st + (p1 + 8 + 8 * c)))) (ev_mono (ev_and hbase hf) (fun N hN => ?_)) (kpG_trans (kpG_trans (kpG_pos D _ i o) (kpG_zu (by omega)) (Nat.le_refl _) (Nat.le_refl _)) (kpG_pos _ _ i o) (Nat.le_refl _) (Nat.le_refl _)) (kpS_pos (kpS_zu hS1 (by omega)) (by omega) (by omega)) (by show p ≤ p1 + 8 + 8 * c; omega) (cH_zu (cA_num (cA_zu ha)) (by omega)) (cO_nil _ _)
              rw [hN.1, hN.2, qb_some]
              rw [show zu (zu D 25 2 (nI (8 * st + (p1 + 8)))) 18 i (ivF src ((p1 + 8) / 8) c) 25 2 = nI (8 * st + (p1 + 8)) from by rw [zu_at, if_neg (by omega), zu_self], show (8 : Int32) * nI c = nI (8 * c) from nI_mul 8 c, nI_add, show 8 * st + (p1 + 8) + 8 * c = 8 * st + (p1 + 8 + 8 * c) by omega]
            · have d3 : decide (1 ≤ c ∧ c ≤ 4 ∧ byC (ivF src ((p1 + 8) / 8) c) = c) = false := decide_eq_false c3
              simp only [if_pos d3] at hbase
              rw [if_neg (fun z => c3 ⟨z.2.1, z.2.2.1, z.2.2.2.2.resolve_left (by decide)⟩)]
              exact kpR_none hbase (kpF_K kpF_zu)
        · simp only [if_neg c1] at z1
          rw [if_neg (fun z => c1 z.1)]
          refine kpR_none (D' := zu D 25 2 (nI (8 * st + p1))) (ev_mono z1 (fun N hN => ?_)) (kpF_K kpF_zu)
          rw [hN, qb_some]
          have hneg : ∀ x, FI_areBytesOfOne N x (-1) (zu D 25 2 (nI (8 * st + p1))) = some (false, zu D 25 2 (nI (8 * st + p1))) := by
            intro x
            unfold FI_areBytesOfOne
            rw [if_pos (by decide)]
          simp only [hneg, qb_some]
          split <;> rfl
    · have n0 : ¬ T 11 t = 0 := by rw [h1]; decide
      simp only [if_neg n0, if_pos h1]
      obtain ⟨r1, r2⟩ := rng_I hw h1
      obtain ⟨y1, y2⟩ := hr2 h1
      unfold FP_readBounded
      simp only [qo_s rfl e1, y1, y2, r1]
      obtain ⟨g1, g2⟩ := kp_num hs hS r2 M
      cases hnum : numP true src (8 * L) (rngT T t) p with
      | none =>
        obtain ⟨D', g3, g4⟩ := g1 hnum
        refine kpR_none (D' := zu D' 18 i (T 5 t + -1)) (ev_mono g3 (fun N hN => ?_)) (kpK_trans (kpF_K g4) (kpK_zu (by omega)))
        rw [hN, qb_some, qk_t (qi_nI i100 (by omega)), nI_clamp (by omega), if_pos rfl]
      | some x =>
        obtain ⟨g3, g4, g5, g6⟩ := g2 x hnum
        simp only [Option.bind_some]
        refine kpR_some (D' := zu (zu D 25 2 (nI (8 * st + x.1))) 18 i (T 5 t + nI x.2)) (ev_mono g3 (fun N hN => ?_)) (kpG_trans (kpG_pos D _ i o) (kpG_zu (by omega)) (Nat.le_refl _) (Nat.le_refl _)) (kpS_zu (kpS_pos hS g4 g5) (by omega)) g4 (cA_num (cA_zu ha)) (cO_nil _ _)
        rw [hN, qb_some, qk_t (qi_nI i100 (by omega)), nI_clamp (by omega), if_neg (nI_n1 (by omega))]
  simp only [if_neg k2]
  by_cases k4 : T 4 t = 4
  · simp only [if_pos k4]
    have hal2 : ∀ N, FT_isAlignedOctets N M a = some (alnd T t) := by
      intro N
      unfold FT_isAlignedOctets alnd
      rw [hr1]
      rcases h01 with h0 | h1
      · rw [if_pos h0, decide_eq_true]
        rintro ⟨z, _⟩
        rw [h0] at z
        exact absurd z (by decide)
      · obtain ⟨y1, y2⟩ := hr2 h1
        rw [if_neg (by rw [h1]; decide), y1, y2]
        by_cases z1 : T 5 t = T 6 t
        · rw [if_pos z1]
          by_cases z2 : T 6 t ≤ 2
          · rw [if_pos z2, decide_eq_false]
            intro z
            exact z ⟨h1, z1, by rw [Int32.le_iff_toInt_le] at z2; exact z2⟩
          · rw [if_neg z2, decide_eq_true]
            rintro ⟨_, _, z⟩
            exact z2 (by rw [Int32.le_iff_toInt_le]; exact z)
        · rw [if_neg z1, decide_eq_true]
          rintro ⟨_, z, _⟩
          exact z1 z
    obtain ⟨g1, g2⟩ := kp_count hs hw hr k2 hS
    unfold FP_readOctets
    simp only [qo_s rfl e1, hal2, qc_some, bI_eq0]
    cases hcn : cntP T true src (8 * L) t p with
    | none =>
      obtain ⟨D', g3, g4⟩ := g1 hcn
      refine kpR_none (D' := D') (ev_mono g3 (fun N hN => ?_)) (kpF_K g4)
      rw [hN, qb_some, if_pos rfl]
    | some x =>
      obtain ⟨g3, g4, g5, g6⟩ := g2 x hcn
      simp only [Option.bind_some]
      have hS1 := kpS_pos hS g4 g5
      have hpos : nI x.2 ≤ 0 ↔ ¬ 0 < x.2 := by rw [show (0 : Int32) = nI 0 from rfl, nI_leI (by omega) (by omega)]; omega
      -- behind count and alignment
      have hoct : ∀ p1, p ≤ p1 → p1 ≤ 8 * L → kpR T src st L D i o p (if p1 + 8 * x.2 ≤ 8 * L then some (p1 + 8 * x.2, [mkP t0 t (nI x.2) wh par o 0 1], octP src p1 x.2, elem tg (octP src p1 x.2), pocts T t (octP src p1 x.2)) else none) (fun N => qfix (FP_readOctets_34 N M (nI i) (nI x.2)) N (0, zu D 25 2 (nI (8 * st + p1)))) := by
        intro p1 hp1 hp2
        obtain ⟨j1, j2⟩ := kp_octs (M := M) (o := o) (p1 := p1) (c := x.2) hs i100 (by omega) x.2 0 (zu D 25 2 (nI (8 * st + p1))) (by omega) (kpS_pos hS hp1 hp2) (by rw [zu_at, if_neg (by omega)]; exact ha.2.1)
        by_cases c : p1 + 8 * x.2 ≤ 8 * L
        · rw [if_pos c]
          obtain ⟨D', ⟨n1, d1⟩, d2, d3, d4, d5, d6, d7⟩ := j1 c
          obtain ⟨b1, b2, b3, b4, b5, b6⟩ := cA_zu (x := nI (8 * st + p1)) ha
          refine kpR_some (D' := D') ⟨n1 + (x.2 + 1), fun N hN => d1 N (by omega) N (by omega)⟩ ⟨kpK_trans (kpF_K kpF_zu) d2, fun c' k' c1 c2 hk' => ?_, fun k' hk' => ?_⟩ ?_ (by show p ≤ p1 + 8 * x.2; omega) (cH_one ?_ d6 ?_ ?_ ?_ ?_) (fun k b hb => ?_)
          · rw [d3 c' k' c1 c2 (by omega), zu_at, if_neg (by omega)]
          · rw [d4 k' (by omega), zu_at, if_neg (by omega)]
          · show kpS D' src st L (i + 1) (o + (octP src p1 x.2).length) (p1 + 8 * x.2)
            rw [octP_len]
            exact d5
          · rw [d3 17 i (by omega) (by omega) (by omega)]; exact b1
          · rw [d3 19 i (by omega) (by omega) (by omega)]; exact b3
          · rw [d3 20 i (by omega) (by omega) (by omega)]; exact b4
          · rw [d3 21 i (by omega) (by omega) (by omega)]; exact b5
          · rw [d3 22 i (by omega) (by omega) (by omega)]; exact b6
          · obtain ⟨q1, q2⟩ := octP_get hb
            rw [d7 k (by omega) q1, q2]
        · rw [if_neg c]
          obtain ⟨D', ⟨n1, d1⟩, d2⟩ := j2 c
          exact kpR_none ⟨n1 + (x.2 + 1), fun N hN => d1 N (by omega) N (by omega)⟩ (kpK_trans (kpF_K kpF_zu) d2)
      have hgo : ∀ X out, kpR T src st L D i o p X out → Ev (fun N => (qb (FP_takeCount N M (some a) D) fun v1 J2 => if v1 = -1 then some (false, J2) else if v1 ≤ 0 then qfix (FP_readOctets_34 N M (nI i) v1) N (0, J2) else if alnd T t = false then qfix (FP_readOctets_34 N M (nI i) v1) N (0, J2) else qb (FP_align N M J2) fun v5 J6 => if v5 = false then some (false, J6) else qfix (FP_readOctets_34 N M (nI i) v1) N (0, J6)) = out N) → kpR T src st L D i o p X (fun N => qb (FP_takeCount N M (some a) D) fun v1 J2 => if v1 = -1 then some (false, J2) else if v1 ≤ 0 then qfix (FP_readOctets_34 N M (nI i) v1) N (0, J2) else if alnd T t = false then qfix (FP_readOctets_34 N M (nI i) v1) N (0, J2) else qb (FP_align N M J2) fun v5 J6 => if v5 = false then some (false, J6) else qfix (FP_readOctets_34 N M (nI i) v1) N (0, J6)) := by
        intro X out hX he
        refine ⟨fun hx => ?_, fun q hx => ?_⟩
        · obtain ⟨D', a1, a2⟩ := hX.1 hx
          exact ⟨D', ev_mono (ev_and he a1) (fun N hN => by dsimp only; rw [hN.1, hN.2]), a2⟩
        · obtain ⟨D', a1, a2⟩ := hX.2 q hx
          exact ⟨D', ev_mono (ev_and he a1) (fun N hN => by dsimp only; rw [hN.1, hN.2]), a2⟩
      by_cases c0 : 0 < x.2 ∧ alnd T t = true
      · rw [if_pos c0]
        have ha2 := kp_align hs hS1 M
        cases hal : alP true src x.1 with
        | none =>
          refine kpR_none (D' := zu D 25 2 (nI (8 * st + x.1))) (ev_mono g3 (fun N hN => ?_)) (kpF_K kpF_zu)
          rw [hN, qb_some, if_neg (nI_n1 (by omega)), if_neg (fun z => (hpos.mp z) c0.1), if_neg (by rw [c0.2]; decide), (ha2 N).1 hal, qb_some, if_pos rfl]
        | some p1 =>
          obtain ⟨_, z1, z2, z3⟩ := (ha2 0).2 p1 hal
          simp only [Option.bind_some]
          refine hgo _ _ (hoct p1 (by omega) z2) (ev_mono g3 (fun N hN => ?_))
          rw [hN, qb_some, if_neg (nI_n1 (by omega)), if_neg (fun z => (hpos.mp z) c0.1), if_neg (by rw [c0.2]; decide), ((ha2 N).2 p1 hal).1, qb_some, if_neg (by decide), zu_same]
      · rw [if_neg c0]
        simp only [Option.bind_some]
        refine hgo _ _ (hoct x.1 g4 g5) (ev_mono g3 (fun N hN => ?_))
        rw [hN, qb_some, if_neg (nI_n1 (by omega))]
        by_cases c1 : 0 < x.2
        · have hf : alnd T t = false := by
            cases hh : alnd T t with
            | false => rfl
            | true => exact absurd ⟨c1, hh⟩ c0
          rw [if_neg (fun z => (hpos.mp z) c1), if_pos hf]
        · rw [if_pos (hpos.mpr c1)]
  simp only [if_neg k4]
  obtain ⟨b1, b2, b3, b4, b5, b6⟩ := ha
  exact kpR_some (D' := D) (ev_of (fun N => rfl)) (kpG_refl D i o) hS (Nat.le_refl _) (cH_one b1 b2 b3 b4 b5 b6) (cO_nil _ _)
