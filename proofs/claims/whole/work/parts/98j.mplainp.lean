/-! THE REFERENCE reads packed bits: plain contents -/
theorem h_fin {T J J2 : zJ} {src : Nat → Nat} {L i o p p1 fr t0 t wh : Nat} {par x v : Int32} {e : List Nat} {pk : PK} (hg : mG J J2 i o fr) (hS2 : hS T J2 src L (i + 1) o p fr) (ha : mA J2 i t0 par wh x o) (h1 : p ≤ p1) (h2 : p1 ≤ 8 * L) : hR T src L J i o p fr (some (p1, [mkP t0 t v wh par o 0 1], [], e, pk)) (zu (zu J2 0 47 (nI p1)) 22 i v) := by
  have hz : ∀ c k, c ≠ 0 → ¬ (c = 22 ∧ k = i) → zu (zu J2 0 47 (nI p1)) 22 i v c k = J2 c k := fun c k q1 q2 => by rw [zu_at, if_neg q2, zu_at, if_neg (by omega)]
  refine hR_some (mG_trans hg (mG_trans (mG_zu (mW_f (by omega)) (by omega)) (mG_zu (i := i) (o := o) (fr := fr) (mW_p (by omega)) (by omega)) (Nat.le_refl _) (Nat.le_refl _) (Nat.le_refl _)) (Nat.le_refl _) (Nat.le_refl _) (Nat.le_refl _)) (hS_num (hS_pos hS2 h1 h2)) h1 (mH_one ⟨?_, zu_self _ _ _ _, ?_, ?_, ?_⟩) (mO_nil _ _)
  · rw [hz 21 i (by omega) (by omega)]; exact ha.1
  · rw [hz 23 i (by omega) (by omega)]; exact ha.2.2.1
  · rw [hz 24 i (by omega) (by omega)]; exact ha.2.2.2.1
  · rw [hz 25 i (by omega) (by omega)]; exact ha.2.2.2.2
theorem h_badR {T J J2 J3 : zJ} {src : Nat → Nat} {L i o p fr : Nat} {w : Int32} (hg : mG J J2 i o fr) (hb : hBad J2 J3 fr) : hR T src L J i o p fr none (zu J3 22 i w) :=
  hR_none (by rw [zu_at, if_neg (by omega)]; exact hb.1) (mK_trans hg.1 (mK_trans hb.2.2.1 (mK_zu (mW_p (by omega)))))
theorem alP_f (src : Nat → Nat) (p : Nat) : alP false src p = some (alU p) := by unfold alP; rw [if_pos (Or.inl rfl)]
theorem q_578b {J : zJ} (h : J 0 49 = 0) {i : Nat} (hi : i < 100) (N : Nat) (w : Int32) : FM_want_578 N (nI i) w J = some ((), zu J 22 i 0) := by
  unfold FM_want_578
  rw [if_pos h, qk_t (qi_nI hi (by omega)), nI_clamp (by omega)]
/-- octets: where they begin, the count being known -/
theorem q_octs {T J J2 : zJ} {src : Nat → Nat} {L i o p p1 fr c b t0 wh : Nat} {par : Int32} {tg : List Nat} {pk : PK} (hs : sOK src) (hi : i < 100) (hc : c ≤ 127) (hg : mG J J2 i o fr) (hS2 : hS T J2 src L (i + 1) o p1 fr) (ha : mA J2 i t0 par wh (nI c) o) (hp : p ≤ p1) (ho : 8 * o ≤ p1) :
    ∃ J1, Ev (fun N => qfix (FM_want_270 N (nI i)) N (0, J2) = some ((), J1)) ∧ hR T src L J i o p fr (if p1 + 8 * c ≤ 8 * L then some (p1 + 8 * c, [mkP t0 b (nI c) wh par o 0 1], octP src p1 c, tg, pk) else none) J1 := by
  obtain ⟨g1, g2⟩ := h_octs hs hi hc c 0 J2 (by omega) (by rw [Nat.mul_zero, Nat.add_zero]; exact hS2) ha.2.1 ho
  by_cases z : p1 + 8 * c ≤ 8 * L
  · obtain ⟨J', ⟨n1, j1⟩, j2, j3, j4, j5, j6, j7⟩ := g1 z
    refine ⟨J', ⟨n1 + (c + 1), fun N hN => j1 N (by omega) N (by omega)⟩, ?_⟩
    rw [if_pos z]
    refine hR_some (mG_trans hg ⟨j2, fun c' k c1 c2 hk => j3 c' k (by omega) (by omega), fun k hk => j5 k (by omega), fun c' k c1 c2 hk => j3 c' k (by omega) (by omega)⟩ (Nat.le_refl _) (Nat.le_refl _) (Nat.le_refl _)) ?_ (by show p ≤ p1 + 8 * c; omega) (mH_one ⟨?_, ?_, ?_, ?_, ?_⟩) ?_
    · show hS T J' src L (i + 1) (o + (octP src p1 c).length) (p1 + 8 * c) fr
      unfold octP
      rw [List.length_map, List.length_range]
      exact j6
    · rw [j3 21 i (by omega) (by omega)]; exact ha.1
    · rw [j3 22 i (by omega) (by omega)]; exact ha.2.1
    · rw [j3 23 i (by omega) (by omega)]; exact ha.2.2.1
    · rw [j3 24 i (by omega) (by omega)]; exact ha.2.2.2.1
    · rw [j3 25 i (by omega) (by omega)]; exact ha.2.2.2.2
    · intro k x hk
      have hk : (octP src p1 c)[k]? = some x := hk
      unfold octP at hk
      rw [List.getElem?_map] at hk
      by_cases hkc : k < c
      · rw [List.getElem?_range hkc] at hk
        injection hk with hk
        rw [← hk]
        exact j7 k (by omega) hkc
      · rw [List.getElem?_eq_none (by simp; omega)] at hk
        cases hk
  · obtain ⟨J', ⟨n1, j1⟩, j2, j3⟩ := g2 z
    refine ⟨J', ⟨n1 + (c + 1), fun N hN => j1 N (by omega) N (by omega)⟩, ?_⟩
    rw [if_neg z]
    exact hR_none j2 (mK_trans hg.1 j3)
theorem h_num {J J2 : zJ} {i o t0 wh p1 : Nat} {par x v : Int32} (ha : mA J2 i t0 par wh x o) : mA (zu (zu J2 0 47 (nI p1)) 22 i v) i t0 par wh v o := by
  have hz : ∀ c k, c ≠ 0 → ¬ (c = 22 ∧ k = i) → zu (zu J2 0 47 (nI p1)) 22 i v c k = J2 c k := fun c k q1 q2 => by rw [zu_at, if_neg q2, zu_at, if_neg (by omega)]
  refine ⟨?_, zu_self _ _ _ _, ?_, ?_, ?_⟩
  · rw [hz 21 i (by omega) (by omega)]; exact ha.1
  · rw [hz 23 i (by omega) (by omega)]; exact ha.2.2.1
  · rw [hz 24 i (by omega) (by omega)]; exact ha.2.2.2.1
  · rw [hz 25 i (by omega) (by omega)]; exact ha.2.2.2.2
theorem q_128b {J : zJ} (h : J 0 49 = 0) (N : Nat) (l4 l5 l6 : Int32) : FM_want_128 N l4 l5 l6 J = some ((), J) := by
  unfold FM_want_128
  rw [h_addsB h, qb_some]
  simp only [if_pos h]
theorem q_128f {T J : zJ} {src : Nat → Nat} {L i o p fr : Nat} (hS0 : hS T J src L i o p fr) (hi : ¬ i < 100) (l4 l5 l6 : Int32) (N : Nat) : FM_want_128 N l4 l5 l6 J = some ((), zu J 0 49 0) := by
  unfold FM_want_128
  rw [h_adds0 hS0 hi, qb_some]
  simp only [if_pos (zu_self J 0 49 0)]
theorem q_plain {T J : zJ} {src : Nat → Nat} {L n b t0 tg i o p fr wh : Nat} {par : Int32} (hs : sOK src) (hw : wfT T n b) (hk : T 4 b = 1 ∨ T 4 b = 2 ∨ T 4 b = 4 ∨ T 4 b = 5) (hS0 : hS T J src L i o p fr) (h23 : J 0 23 = nI b) (hi : i < 100) :
    ∃ J1, Ev (fun N => FM_want_128 N (nI t0) par (nI wh) J = some ((), J1)) ∧ hR T src L J i o p fr (rpPl T src false b t0 tg par wh o (8 * L) p) J1 := by
  obtain ⟨J2, d1, d2, d3, d4, d5, d6, d7⟩ := h_adds hS0 hi t0 par wh 0
  have b160 : b < 160 := by cases n with
    | zero => exact hw.elim
    | succ n => exact hw.1
  have h01 : T 11 b = 0 ∨ T 11 b = 1 := by cases n with
    | zero => exact hw.elim
    | succ n => exact hw.2.2.1
  have hT := d3.2.2.2.2.2.2.2.1
  have hL := d3.2.2.2.2.2.2.2.2.2.2.2.1
  have hle := d3.2.2.2.2.2.2.2.2.2.2.1
  have ho8 := d3.2.2.2.2.2.2.2.2.2.1
  unfold FM_want_128
  simp only [d1, qb_some, d6, h23]
  have g1 : ¬ J2 0 49 = 0 := by rw [d3.1]; decide
  simp only [if_neg g1, qk_t (qi_nI b160 (show 160 < 2 ^ 31 by omega)), nI_clamp (show b < 2 ^ 31 by omega), hT 4 b (by omega) (by omega), hT 11 b (by omega) (by omega), hT 5 b (by omega) (by omega), hT 6 b (by omega) (by omega), qk_t (qi_nI hi (show 100 < 2 ^ 31 by omega)), nI_clamp (show i < 2 ^ 31 by omega)]
  unfold rpPl
  rcases hk with k | k | k | k
  · simp only [if_neg (show ¬ T 4 b = 5 by rw [k]; decide), if_pos k]
    by_cases c : p < 8 * L
    · rw [if_pos (show p + 1 ≤ 8 * L by omega)]
      refine ⟨zu (zu J2 0 47 (nI (p + 1))) 22 i (nI (sbit src p)), ev_of (fun N => ?_), h_fin d2 d3 d4 (by omega) (by omega)⟩
      rw [(q_bit hs d3 N).1 c, qb_some]
    · rw [if_neg (show ¬ p + 1 ≤ 8 * L by omega)]
      have hq := fun N => (q_bit hs d3 N).2 c
      refine ⟨zu (zu (zu J2 0 49 0) 0 47 (nI (p + 1))) 22 i 0, ev_of (fun N => ?_), h_badR d2 (hq 0).2⟩
      rw [(hq N).1, qb_some]
  · have n5 : ¬ T 4 b = 5 := by rw [k]; decide
    have n1 : ¬ T 4 b = 1 := by rw [k]; decide
    have n4 : ¬ T 4 b = 4 := by rw [k]; decide
    have n6 : ¬ T 4 b = 6 := by rw [k]; decide
    have n7 : ¬ T 4 b = 7 := by rw [k]; decide
    simp only [if_neg n5, if_neg n1, if_neg n4, if_neg n6, if_neg n7, if_pos k]
    rcases h01 with h0 | h1
    · have m1 : ¬ T 11 b = 1 := by rw [h0]; decide
      simp only [if_pos h0, if_neg m1, alP_f, Option.bind_some]
      have hal := fun N => (q_align d3 N).1
      have hS3 := (q_align d3 0).2
      obtain ⟨u1, u2, u3, u4, u5⟩ := alU_ge p
      simp only [hal, qb_some]
      obtain ⟨t1, t2⟩ := q_take hs hS3 8 (by omega)
      have g3 : mG J (zu J2 0 47 (nI (alU p))) i o fr := mG_trans d2 (mG_zu (mW_f (by omega)) (by omega)) (Nat.le_refl _) (Nat.le_refl _) (Nat.le_refl _)
      by_cases c1 : alU p + 8 ≤ 8 * L
      case neg =>
        rw [if_neg (fun z => c1 z.1)]
        obtain ⟨w, J3, z1, z2⟩ := t2 c1
        have z1 : Ev (fun N => FM_some N 8 (zu J2 0 47 (nI (alU p))) = some (w, J3)) := z1
        refine ⟨zu J3 22 i 0, ev_mono z1 (fun N hN => ?_), h_badR g3 z2⟩
        rw [hN, qb_some, FM_in_eq, qc_some, zu_id _ _ _ _ z2.1, q_578b z2.1 hi]
        simp only [if_true, ite_self]
      have t1 : Ev (fun N => FM_some N 8 (zu J2 0 47 (nI (alU p))) = some (nI (bvs src (alU p) 8), zu (zu J2 0 47 (nI (alU p))) 0 47 (nI (alU p + 8)))) := t1 c1
      have hS4 := hS_pos hS3 (show alU p ≤ alU p + 8 by omega) c1
      rw [zu_same] at t1 hS4
      have hlt := bvs_lt src (alU p) 8
      generalize hB : bvs src (alU p) 8 = B at *
      have hB256 : B < 256 := hlt
      have g4 : mG J (zu J2 0 47 (nI (alU p + 8))) i o fr := mG_trans d2 (mG_zu (mW_f (by omega)) (by omega)) (Nat.le_refl _) (Nat.le_refl _) (Nat.le_refl _)
      have e47 : zu J2 0 47 (nI (alU p + 8)) 0 47 = nI (alU p + 8) := zu_self _ _ _ _
      have e28 : zu J2 0 47 (nI (alU p + 8)) 0 28 = nI L := hS4.2.2.2.2.2.1
      have hin : (decide ((1 : Int32).toInt ≤ (nI B).toInt) && decide ((nI B).toInt ≤ (4 : Int32).toInt)) = decide (1 ≤ B ∧ B ≤ 4) := by
        rw [nI_toInt (by omega), show (1 : Int32).toInt = 1 from by decide, show (4 : Int32).toInt = 4 from by decide, ← Bool.decide_and]
        congr 1
        apply propext
        omega
      have hbad0 := hBad_0 hS4
      have e8 : (8 : Int32) * nI B = nI (8 * B) := nI_mul 8 B
      have e8L : (8 : Int32) * nI L = nI (8 * L) := nI_mul 8 L
      by_cases c2 : 1 ≤ B ∧ B ≤ 4
      case neg =>
        rw [if_neg (fun z => c2 ⟨z.2.1, z.2.2.1⟩)]
        refine ⟨zu (zu (zu J2 0 47 (nI (alU p + 8))) 0 49 0) 22 i 0, ev_mono t1 (fun N hN => ?_), h_badR g4 hbad0⟩
        rw [hN, qb_some, FM_in_eq, qc_some, hin, decide_eq_false c2, if_pos (by decide), q_578b (zu_self _ _ _ _) hi]
      by_cases c3 : alU p + 8 + 8 * B ≤ 8 * L
      case neg =>
        rw [if_neg (fun z => c3 z.2.2.2.1)]
        refine ⟨zu (zu (zu J2 0 47 (nI (alU p + 8))) 0 49 0) 22 i 0, ev_mono t1 (fun N hN => ?_), h_badR g4 hbad0⟩
        rw [hN, qb_some, FM_in_eq, qc_some, hin, decide_eq_true c2, if_neg (by decide), e47, e28, e8, e8L, nI_add, if_neg (by rw [nI_leI (by omega) (by omega)]; exact c3), q_578b (zu_self _ _ _ _) hi]
      rw [if_pos ⟨c1, c2.1, c2.2, c3, Or.inl trivial⟩]
      obtain ⟨s1, s2⟩ := q_take hs hS4 (8 * B) (by omega)
      have s1 := s1 c3
      rw [zu_same] at s1
      refine ⟨zu (zu J2 0 47 (nI (alU p + 8 + 8 * B))) 22 i (ivF src ((alU p + 8) / 8) B), ev_mono (ev_and t1 s1) (fun N hN => ?_), h_fin d2 d3 d4 (by omega) c3⟩
      rw [hN.1, qb_some, FM_in_eq, qc_some, hin, decide_eq_true c2, if_neg (by decide), e47, e28, e8, e8L, nI_add, if_pos (by rw [nI_leI (by omega) (by omega)]; exact c3)]
      unfold FM_want_578
      rw [if_neg (by rw [hS4.1]; decide), e8, hN.2, qb_some, qk_t (qi_nI hi (by omega)), nI_clamp (by omega)]
      have e32 : ((32 : Int32) - nI (8 * B)) &&& 31 = nI ((32 - 8 * B) % 32) := by
        rw [show (32 : Int32) = nI 32 from rfl, nI_subs (by omega), show (31 : Int32) = nI 31 from rfl, nI_and (by omega) (by omega), show (31 : Nat) = 2 ^ 5 - 1 from rfl, Nat.and_two_pow_sub_one_eq_mod]
      rw [e32, q_sign hs (by omega) c2.1 c2.2]
    · have m0 : ¬ T 11 b = 0 := by rw [h1]; decide
      simp only [if_pos h1, if_neg m0]
      obtain ⟨r1, r2⟩ := rng_I hw h1
      obtain ⟨q1, q2⟩ := q_rng hs d3 r2 r1
      cases hnum : numP false src (8 * L) (rngT T b) p with
      | none =>
        obtain ⟨w, J3, z1, z2⟩ := q1 hnum
        refine ⟨zu J3 22 i w, ev_mono z1 (fun N hN => ?_), h_badR d2 z2⟩
        rw [hN, qb_some]
      | some x =>
        obtain ⟨z1, z2, z3, z4⟩ := q2 x hnum
        refine ⟨_, ev_mono z1 (fun N hN => ?_), h_fin d2 d3 d4 z2 z3⟩
        rw [hN, qb_some]
  · have n5 : ¬ T 4 b = 5 := by rw [k]; decide
    have n1 : ¬ T 4 b = 1 := by rw [k]; decide
    have n2 : ¬ T 4 b = 2 := by rw [k]; decide
    simp only [if_neg n5, if_neg n1, if_neg n2, if_pos k]
    obtain ⟨q1, q2⟩ := q_cnt hs hw n2 d3
    cases hcn : cntP T false src (8 * L) b p with
    | none =>
      obtain ⟨w, J3, ⟨n1, z1⟩, z2⟩ := q1 hcn
      have h22 : ∀ J' : zJ, J' 0 49 = 0 → ∀ N, FM_want_313 N (nI i) J' = some ((), J') := by
        intro J' h' N
        unfold FM_want_313
        rw [if_pos h', Int32.add_zero, zu_id _ _ _ _ rfl]
      have h270 : ∀ J' : zJ, J' 0 49 = 0 → ∀ N, 1 ≤ N → qfix (FM_want_270 N (nI i)) N (0, J') = some ((), J') := by
        intro J' h' N hN
        obtain ⟨F, hF⟩ : ∃ g, N = g + 1 := ⟨N - 1, by omega⟩
        have : qfix (FM_want_270 N (nI i)) (F + 1) (0, J') = some ((), J') := by
          rw [qfix_s]
          simp only [FM_want_270]
          rw [qk_t (qi_nI hi (by omega)), if_pos h', h22 J' h']
          simp
        rw [hF] at this ⊢
        exact this
      have hb3 : zu J3 22 i w 0 49 = 0 := by rw [zu_at, if_neg (by omega)]; exact z2.1
      have hb4 : ∀ x, zu (zu J3 22 i w) 0 47 x 0 49 = 0 := fun x => by rw [zu_at, if_neg (by omega)]; exact hb3
      have hTb : tyEq T (zu J3 22 i w) := mK_ty (mK_trans z2.2.2.1 (mK_zu (mW_p (by omega)))) hT
      have h263 : ∃ x, ∀ N, 1 ≤ N → FM_want_263 N (nI i) (zu J3 22 i w) = some ((), zu (zu J3 22 i w) 0 47 x) := by
        refine ⟨(zu J3 22 i w 0 47 + 7) / 8 * 8, fun N hN => ?_⟩
        unfold FM_want_263 FM_align
        rw [qb_some, h270 _ (hb4 _) N hN]
      obtain ⟨x, h263⟩ := h263
      by_cases cc : T 11 b = 0 ∨ w ≤ 0 ∨ (T 5 b = T 6 b ∧ T 6 b ≤ 2)
      · refine ⟨zu J3 22 i w, ⟨n1 + 1, fun N hN => ?_⟩, h_badR d2 z2⟩
        dsimp only
        rw [z1 N (by omega), qb_some]
        simp only [zu_self, hTb 11 b (by omega) (by omega), hTb 5 b (by omega) (by omega), hTb 6 b (by omega) (by omega), h270 _ hb3 N (by omega)]
        rcases cc with cc | cc | cc
        · rw [if_pos cc]
        · rw [if_pos cc]; split <;> rfl
        · rw [if_pos cc.1, if_pos cc.2]; (repeat' split) <;> rfl
      · have m1 : ¬ T 11 b = 0 := fun z => cc (Or.inl z)
        have m2 : ¬ w ≤ 0 := fun z => cc (Or.inr (Or.inl z))
        refine ⟨zu (zu J3 22 i w) 0 47 x, ⟨n1 + 1, fun N hN => ?_⟩, hR_none (hb4 x) (mK_trans d2.1 (mK_trans z2.2.2.1 (mK_trans (mK_zu (mW_p (by omega))) (mK_zu (mW_f (by omega))))))⟩
        dsimp only
        rw [z1 N (by omega), qb_some]
        simp only [zu_self, hTb 11 b (by omega) (by omega), hTb 5 b (by omega) (by omega), hTb 6 b (by omega) (by omega), h263 N (by omega), if_neg m1, if_neg m2]
        by_cases m3 : T 5 b = T 6 b
        · have m4 : ¬ T 6 b ≤ 2 := fun z => cc (Or.inr (Or.inr ⟨m3, z⟩))
          rw [if_pos m3, if_neg m4]
        · rw [if_neg m3]
    | some x =>
      obtain ⟨z1, z2, z3, z4⟩ := q2 x hcn
      simp only [Option.bind_some]
      have hS3 : hS T (zu (zu J2 0 47 (nI x.1)) 22 i (nI x.2)) src L (i + 1) o x.1 fr := hS_num (hS_pos d3 z2 z3)
      have g3 : mG J (zu (zu J2 0 47 (nI x.1)) 22 i (nI x.2)) i o fr := mG_trans d2 (mG_trans (mG_zu (mW_f (by omega)) (by omega)) (mG_zu (i := i) (o := o) (fr := fr) (mW_p (by omega)) (by omega)) (Nat.le_refl _) (Nat.le_refl _) (Nat.le_refl _)) (Nat.le_refl _) (Nat.le_refl _) (Nat.le_refl _)
      have ha3 := h_num (J := J) (p1 := x.1) (v := nI x.2) d4
      have hT3 := hS3.2.2.2.2.2.2.2.1
      have e22 : zu (zu J2 0 47 (nI x.1)) 22 i (nI x.2) 22 i = nI x.2 := zu_self _ _ _ _
      have e0 : (nI x.2 ≤ 0) ↔ ¬ 0 < x.2 := by rw [show (0 : Int32) = nI 0 from rfl, nI_leI (by omega) (by omega)]; omega
      have e62 : (T 6 b ≤ 2) ↔ (T 6 b).toInt ≤ 2 := by rw [Int32.le_iff_toInt_le]; exact Iff.rfl
      by_cases cc : 0 < x.2 ∧ alnd T b = true
      · simp only [if_pos cc, alP_f, Option.bind_some]
        have hal := fun N => (q_align hS3 N).1
        have hS4 := (q_align hS3 0).2
        obtain ⟨u1, u2, u3, u4, u5⟩ := alU_ge x.1
        have g4 := mG_trans g3 (mG_zu (J := zu (zu J2 0 47 (nI x.1)) 22 i (nI x.2)) (c := 0) (k := 47) (i := i) (o := o) (fr := fr) (x := nI (alU x.1)) (mW_f (by omega)) (by omega)) (Nat.le_refl _) (Nat.le_refl _) (Nat.le_refl _)
        have ha4 : mA (zu (zu (zu J2 0 47 (nI x.1)) 22 i (nI x.2)) 0 47 (nI (alU x.1))) i t0 par wh (nI x.2) o := by
          refine ⟨?_, ?_, ?_, ?_, ?_⟩
          · rw [zu_at, if_neg (by omega)]; exact ha3.1
          · rw [zu_at, if_neg (by omega)]; exact ha3.2.1
          · rw [zu_at, if_neg (by omega)]; exact ha3.2.2.1
          · rw [zu_at, if_neg (by omega)]; exact ha3.2.2.2.1
          · rw [zu_at, if_neg (by omega)]; exact ha3.2.2.2.2
        obtain ⟨J1, y1, y2⟩ := q_octs (b := b) (p := p) (tg := elem tg (octP src (alU x.1) x.2)) (pk := pocts T b (octP src (alU x.1) x.2)) hs hi z4 g4 hS4 ha4 (by omega) (by omega)
        refine ⟨J1, ev_mono (ev_and z1 y1) (fun N hN => ?_), y2⟩
        rw [hN.1, qb_some]
        have m1 : T 11 b = 0 → alU x.1 = x.1 := fun h0 => by
          have : x.1 % 8 = 0 := by
            unfold cntP at hcn
            rw [if_neg (by rw [h0]; decide), alP_f, Option.bind_some] at hcn
            obtain ⟨_, hcn⟩ := ite_some hcn
            injection hcn with hcn
            rw [← hcn]
            have := (alU_ge p).2.2.1
            show (alU p + 8) % 8 = 0
            omega
          exact u4 this
        have h263 : FM_want_263 N (nI i) (zu (zu J2 0 47 (nI x.1)) 22 i (nI x.2)) = some ((), J1) := by
          unfold FM_want_263
          rw [hal, qb_some]
          exact hN.2
        simp only [e22, hT3 11 b (by omega) (by omega), hT3 5 b (by omega) (by omega), hT3 6 b (by omega) (by omega), h263]
        by_cases h0 : T 11 b = 0
        · rw [if_pos h0]
          have := hN.2
          rw [m1 h0, zu_id _ 0 47 (nI x.1) hS3.2.1] at this
          exact this
        · rw [if_neg h0, if_neg (fun z => e0.mp z cc.1)]
          have hal' := of_decide_eq_true cc.2
          by_cases m3 : T 5 b = T 6 b
          · rw [if_pos m3, if_neg (fun z => hal' ⟨h01.resolve_left h0, m3, e62.mp z⟩)]
          · rw [if_neg m3]
      · simp only [if_neg cc, Option.bind_some]
        obtain ⟨J1, y1, y2⟩ := q_octs (b := b) (p := p) (tg := elem tg (octP src x.1 x.2)) (pk := pocts T b (octP src x.1 x.2)) hs hi z4 g3 hS3 ha3 (by omega) (by omega)
        refine ⟨J1, ev_mono (ev_and z1 y1) (fun N hN => ?_), y2⟩
        rw [hN.1, qb_some]
        simp only [e22, hT3 11 b (by omega) (by omega), hT3 5 b (by omega) (by omega), hT3 6 b (by omega) (by omega), hN.2]
        by_cases h0 : T 11 b = 0
        · rw [if_pos h0]
        · rw [if_neg h0]
          by_cases hx : 0 < x.2
          · have hal' : ¬ alnd T b = true := fun z => cc ⟨hx, z⟩
            have hh : T 11 b = 1 ∧ T 5 b = T 6 b ∧ (T 6 b).toInt ≤ 2 := by
              unfold alnd at hal'
              simpa using hal'
            rw [if_neg (fun z => e0.mp z hx), if_pos hh.2.1, if_pos (e62.mpr hh.2.2)]
          · rw [if_pos (e0.mpr hx)]
  · have n1 : ¬ T 4 b = 1 := by rw [k]; decide
    have n2 : ¬ T 4 b = 2 := by rw [k]; decide
    have n4 : ¬ T 4 b = 4 := by rw [k]; decide
    simp only [if_pos k, if_neg n1, if_neg n2, if_neg n4]
    exact ⟨J2, ev_of (fun N => rfl), hR_some d2 d3 (Nat.le_refl _) (mH_one d4) (mO_nil _ _)⟩
