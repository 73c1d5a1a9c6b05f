/-! THE REFERENCE reads by the open rules: plain contents -/
theorem mR_none {T : zJ} {src : Nat → Nat} {L : Nat} {J J1 : zJ} {i o p fr en : Nat} (h : J1 0 49 = 0) (hk : mK J J1) : mR T src L J i o p fr en none J1 :=
  ⟨fun _ => ⟨J1, Rch_refl J1, h, hk⟩, fun q hq => by cases hq⟩
theorem mR_some {T : zJ} {src : Nat → Nat} {L : Nat} {J J1 : zJ} {i o p fr en : Nat} {q : Nat × Rs} (hg : mG J J1 i o fr) (hS : mS T J1 src L (i + q.2.1.length) (o + q.2.2.1.length) q.1 fr en) (hp : p ≤ q.1) (hh : mH J1 i q.2.1) (ho : mO J1 o q.2.2.1) : mR T src L J i o p fr en (some q) J1 :=
  ⟨fun hq => (by cases hq), fun q' hq => (by injection hq with hq; subst hq; exact ⟨J1, Rch_refl J1, hg, hS, hp, hh, ho⟩)⟩
theorem mH_one {J : zJ} {i t0 t wh o m : Nat} {v par : Int32} {sh : Nat} (h : mA J i t0 par wh v o) : mH J i [mkP t0 t v wh par o sh m] := by
  intro k P hk
  cases k with
  | zero =>
    simp at hk
    subst hk
    exact ⟨h.1, h.2.1, h.2.2.1, h.2.2.2.1, h.2.2.2.2⟩
  | succ k => simp at hk
theorem mO_nil (J : zJ) (o : Nat) : mO J o [] := by intro k b h; simp at h
theorem mH_nil (J : zJ) (i : Nat) : mH J i [] := by intro k b h; simp at h
def gF (v0 : Int32) (src : Nat → Nat) (p : Nat) : Nat → Int32
  | 0 => v0
  | c + 1 => (gF v0 src p c <<< (8 : Int32)) ||| nI (src (p + c))
theorem gF_iv (src : Nat → Nat) (p : Nat) : ∀ c, gF (if src p < 128 then 0 else -1) src p c = ivF src p c := by
  intro c
  induction c with
  | zero => rfl
  | succ c ih => unfold gF ivF; rw [ih]
def iJ (J : zJ) (src : Nat → Nat) (p o : Nat) (fo : Bool) : Nat → zJ
  | 0 => J
  | k + 1 => zu (zu (zu (iJ J src p o fo k) 28 (o + if fo = true then k else 0) (nI (src (p + k)))) 0 35 (nI (o + if fo = true then k + 1 else 0))) 0 47 (nI (p + k + 1))
theorem iJ_cell (J : zJ) (src : Nat → Nat) (p o : Nat) (fo : Bool) (c x : Nat) (h : (c = 28 → x < o) ∧ ¬ (c = 0 ∧ (x = 35 ∨ x = 47))) : ∀ k, iJ J src p o fo k c x = J c x := by
  intro k
  induction k with
  | zero => rfl
  | succ k ih =>
    unfold iJ
    rw [zu_at, if_neg (by omega), zu_at, if_neg (by omega), zu_at, if_neg (by omega), ih]
theorem iJ_st (J : zJ) (src : Nat → Nat) (p o : Nat) (fo : Bool) (h47 : J 0 47 = nI p) (h35 : J 0 35 = nI o) (k : Nat) : iJ J src p o fo k 0 47 = nI (p + k) ∧ iJ J src p o fo k 0 35 = nI (o + if fo = true then k else 0) := by
  cases k with
  | zero => exact ⟨h47, by rw [show (o + if fo = true then 0 else 0) = o from by cases fo <;> rfl]; exact h35⟩
  | succ k =>
    unfold iJ
    refine ⟨zu_self _ _ _ _, ?_⟩
    rw [zu_at, if_neg (by omega), zu_self]
theorem iJ_28 (J : zJ) (src : Nat → Nat) (p o : Nat) : ∀ k x, o ≤ x → x < o + k → iJ J src p o true k 28 x = nI (src (p + (x - o))) := by
  intro k
  induction k with
  | zero => intro x h1 h2; omega
  | succ k ih =>
    intro x h1 h2
    unfold iJ
    rw [zu_at, if_neg (by omega), zu_at, if_neg (by omega), zu_at]
    simp only [if_true]
    by_cases c : x = o + k
    · rw [if_pos ⟨trivial, c⟩, show p + (x - o) = p + k by omega]
    · rw [if_neg (by rintro ⟨_, q⟩; exact c q), ih x h1 (by omega)]
theorem m_loop {T J : zJ} {src : Nat → Nat} {L i' o p fr en n : Nat} {l4 l5 : Int32} {v0 : Int32} {r : Option (Unit × zJ)} (hS : mS T J src L i' o p fr en) (hn : p + n ≤ L)
    (hex : ∀ N, (if l4 = 2 then FM_inner_321 N l4 l5 (nI n) (gF v0 src p n) l5 (gF v0 src p n) (iJ J src p o (decide (l4 = 4)) n) else if l4 = 4 then FM_inner_321 N l4 l5 (nI n) (gF v0 src p n) l5 (nI n) (iJ J src p o (decide (l4 = 4)) n) else if gF v0 src p n ≤ 0 then FM_inner_321 N l4 l5 (nI n) (gF v0 src p n) l5 0 (iJ J src p o (decide (l4 = 4)) n) else FM_inner_321 N l4 l5 (nI n) (gF v0 src p n) l5 1 (iJ J src p o (decide (l4 = 4)) n)) = r) :
    Ev (fun N => qfix (FM_inner_205 N l4 l5 (nI n)) N (v0, 0, J) = r) := by
  obtain ⟨a1, a2, a3, a4, a5, a6, a7, a8, a9, a10, a11, a12, a13, a14, a15, a16⟩ := hS
  refine ev_loop (B := fun N => FM_inner_205 N l4 l5 (nI n)) (fun k => (gF v0 src p k, nI k, iJ J src p o (decide (l4 = 4)) k)) n (ev_of (fun N k hk K => ?_)) (ev_of (fun N K => ?_))
  · obtain ⟨q1, q2⟩ := iJ_st J src p o (decide (l4 = 4)) a2 a4 k
    have q3 : iJ J src p o (decide (l4 = 4)) k 19 (p + k) = nI (src (p + k)) := by rw [iJ_cell _ _ _ _ _ 19 _ (by omega)]; exact a7 _ (by omega)
    have hk240 : (o + if decide (l4 = 4) = true then k else 0) < 240 := by split <;> omega
    simp only [FM_inner_205]
    rw [if_neg (by rw [nI_leI (by omega) (by omega)]; omega), q1, qk_t (qi_nI (by omega) (by omega)), nI_clamp (by omega), q3, qk_t (qi_nI (by omega) (by omega)), q2, qk_t (qi_nI hk240 (by omega)), nI_clamp (by omega), sh831]
    unfold FM_inner_263
    by_cases c4 : l4 = 4
    · have d4 : decide (l4 = 4) = true := decide_eq_true c4
      rw [if_pos c4]
      simp only [d4, if_true] at q1 q2 ⊢
      rw [show zu (iJ J src p o true k) 28 (o + k) (nI (src (p + k))) 0 35 = nI (o + k) from by rw [zu_at, if_neg (by omega), q2], nI_p1 (o + k)]
      rw [show zu (zu (iJ J src p o true k) 28 (o + k) (nI (src (p + k)))) 0 35 (nI (o + k + 1)) 0 47 = nI (p + k) from by rw [zu_at, if_neg (by omega), zu_at, if_neg (by omega), q1], nI_p1, nI_p1]
      rfl
    · have d4 : decide (l4 = 4) = false := decide_eq_false c4
      rw [if_neg c4]
      simp only [d4] at q1 q2 ⊢
      rw [show zu (iJ J src p o false k) 28 (o + if false = true then k else 0) (nI (src (p + k))) 0 35 = nI o from by rw [zu_at, if_neg (by omega), q2]; rfl, Int32.add_zero]
      rw [show zu (zu (iJ J src p o false k) 28 (o + if false = true then k else 0) (nI (src (p + k)))) 0 35 (nI o) 0 47 = nI (p + k) from by rw [zu_at, if_neg (by omega), zu_at, if_neg (by omega), q1], nI_p1, nI_p1]
      rfl
  · simp only [FM_inner_205]
    rw [if_pos (by rw [nI_leI (by omega) (by omega)]; omega)]
    exact hex N
theorem m_339 {T J : zJ} {src : Nat → Nat} {L i0 o p fr en n b i : Nat} (hw : wfT T n b) (hS : mS T J src L i0 o p fr en) (h23 : J 0 23 = nI b) (hi : i < 100) (N : Nat) : FM_inner_339 N (nI i) J = some ((), zu J 0 49 (bI (alw T b (J 22 i)))) := by
  obtain ⟨a1, a2, a3, a4, a5, a6, a7, a8, a9, a10, a11, a12, a13, a14, a15, a16⟩ := hS
  cases n with
  | zero => exact hw.elim
  | succ n =>
    have b160 := hw.1
    have w3 := hw.2.2.1
    unfold FM_inner_339 alw
    rw [h23]
    simp only [qk_t (qi_nI b160 (show 160 < 2 ^ 31 by omega)), qk_t (qi_nI hi (show 100 < 2 ^ 31 by omega)), nI_clamp (show b < 2 ^ 31 by omega), nI_clamp (show i < 2 ^ 31 by omega), a8 11 b (by omega) (by omega), a8 5 b (by omega) (by omega), a8 6 b (by omega) (by omega), FM_in_eq, qc_some]
    rcases w3 with w3 | w3
    · rw [if_pos w3, decide_eq_true (Or.inl w3)]
      rfl
    · have n0 : ¬ T 11 b = 0 := by rw [w3]; decide
      rw [if_neg n0]
      by_cases c : (T 5 b).toInt ≤ (J 22 i).toInt ∧ (J 22 i).toInt ≤ (T 6 b).toInt
      · rw [decide_eq_true (Or.inr c), decide_eq_true c.1, decide_eq_true c.2]
        rfl
      · have hc' : ¬ (T 11 b = 0 ∨ (T 5 b).toInt ≤ (J 22 i).toInt ∧ (J 22 i).toInt ≤ (T 6 b).toInt) := fun q => q.elim n0 c
        have : (decide ((T 5 b).toInt ≤ (J 22 i).toInt) && decide ((J 22 i).toInt ≤ (T 6 b).toInt)) = false := by
          rw [← Bool.decide_and, decide_eq_false c]
        rw [this, decide_eq_false hc']
        rfl
theorem FM_bytesOf_eq (N : Nat) (v : Int32) : FM_bytesOf N v = some (nI (byC v)) := by
  unfold FM_bytesOf byC
  simp only [FM_in_eq, qc_some, bI_eq0, ← Bool.decide_and]
  rw [show (-128 : Int32).toInt = -128 from by decide, show (127 : Int32).toInt = 127 from by decide, show (-32768 : Int32).toInt = -32768 from by decide, show (32767 : Int32).toInt = 32767 from by decide, show (-8388608 : Int32).toInt = -8388608 from by decide, show (8388607 : Int32).toInt = 8388607 from by decide]
  simp only [decide_eq_false_iff_not]
  by_cases c1 : -128 ≤ v.toInt ∧ v.toInt ≤ 127
  · rw [if_neg (fun q => q c1), if_pos c1]; rfl
  rw [if_pos c1, if_neg c1]
  by_cases c2 : -32768 ≤ v.toInt ∧ v.toInt ≤ 32767
  · rw [if_neg (fun q => q c2), if_pos c2]; rfl
  rw [if_pos c2, if_neg c2]
  by_cases c3 : -8388608 ≤ v.toInt ∧ v.toInt ≤ 8388607
  · rw [if_neg (fun q => q c3), if_pos c3]; rfl
  rw [if_pos c3, if_neg c3]; rfl
/-- after its content: number and state -/
theorem m_done {T J : zJ} {src : Nat → Nat} {L i o p fr en c t0 wh : Nat} {par v : Int32} {fo : Bool} (hS : mS T J src L (i + 1) o p fr en) (ha : mA J i t0 par wh 0 o) (hp : p ≤ c) (hc : c ≤ L) : mG J (zu (iJ J src p o fo (c - p)) 22 i v) i o fr ∧ mS T (zu (iJ J src p o fo (c - p)) 22 i v) src L (i + 1) (o + if fo = true then c - p else 0) c fr en ∧ mA (zu (iJ J src p o fo (c - p)) 22 i v) i t0 par wh v o ∧ zu (iJ J src p o fo (c - p)) 22 i v 0 23 = J 0 23 := by
  obtain ⟨a1, a2, a3, a4, a5, a6, a7, a8, a9, a10, a11, a12, a13, a14⟩ := hS
  obtain ⟨b1, b2, b3, b4, b5⟩ := ha
  obtain ⟨s1, s2⟩ := iJ_st J src p o fo a2 a4 (c - p)
  have cc := iJ_cell J src p o fo
  have hz : ∀ c' x, ¬ (c' = 22 ∧ x = i) → (c' = 28 → x < o) ∧ ¬ (c' = 0 ∧ (x = 35 ∨ x = 47)) → zu (iJ J src p o fo (c - p)) 22 i v c' x = J c' x := fun c' x h1 h2 => by
    rw [zu_at, if_neg h1]; exact cc c' x h2 _
  have hmk : mK J (zu (iJ J src p o fo (c - p)) 22 i v) := fun c' x h => hz c' x (fun q => h (by unfold mW; omega)) ⟨fun q => absurd (show mW c' x by unfold mW; omega) h, fun q => h (by unfold mW; omega)⟩
  refine ⟨⟨hmk, fun c' x c1 c2 hk => hz c' x (by omega) (by omega), fun x hk => hz 28 x (by omega) (by omega), fun c' x c1 c2 hk => hz c' x (by omega) (by omega)⟩, ⟨?_, ?_, ?_, ?_, ?_, ?_, fun k hk => ?_, mK_ty hmk a8, a9, fun f hf => ?_, a11, ?_, hc, a14⟩, ⟨?_, zu_self _ _ _ _, ?_, ?_, ?_⟩, hz 0 23 (by omega) (by omega)⟩
  · rw [hz 0 49 (by omega) (by omega)]; exact a1
  · rw [zu_at, if_neg (by omega), s1, show p + (c - p) = c by omega]
  · rw [hz 0 34 (by omega) (by omega)]; exact a3
  · rw [zu_at, if_neg (by omega), s2]
  · rw [hz 0 48 (by omega) (by omega)]; exact a5
  · rw [hz 0 28 (by omega) (by omega)]; exact a6
  · rw [hz 19 k (by omega) (by omega)]; exact a7 k hk
  · rw [hz 32 f (by omega) (by omega)]; exact a10 f hf
  · split <;> omega
  · rw [hz 21 i (by omega) (by omega)]; exact b1
  · rw [hz 23 i (by omega) (by omega)]; exact b3
  · rw [hz 24 i (by omega) (by omega)]; exact b4
  · rw [hz 25 i (by omega) (by omega)]; exact b5
/-- a plain content: inner() -/
theorem m_plain {T J : zJ} {src : Nat → Nat} {L n b t0 tg i o p fr en wh : Nat} {par : Int32} (hs : sOK src) (hw : wfT T n b) (hk : T 4 b = 1 ∨ T 4 b = 2 ∨ T 4 b = 4 ∨ T 4 b = 5) (hS : mS T J src L i o p fr en) (h23 : J 0 23 = nI b) (h16 : J 16 0 = nI tg) (ht : tg < 256) :
    ∃ J1, Ev (fun N => FM_inner N (nI t0) par (nI wh) J = some ((), J1)) ∧ mR T src L J i o p fr en ((hdr false src tg false en p).bind fun h => if i < 100 then rdPl T src false b t0 tg par wh o h.1 (h.2.getD en) else none) J1 := by
  have hS' := hS
  have hn := m_next hS
  obtain ⟨a1, a2, a3, a4, a5, a6, a7, a8, a9, a10, a11, a12, a13, a14, a15, a16⟩ := hS
  have b160 : b < 160 := by cases n with
    | zero => exact hw.elim
    | succ n => exact hw.1
  have hw11 : T 11 b = 1 → T 4 b = 2 ∨ T 4 b = 4 ∨ T 4 b = 7 := by cases n with
    | zero => exact hw.elim
    | succ n => exact fun q => (hw.2.2.2.1 q).1
  have hw01 : T 11 b = 0 ∨ T 11 b = 1 := by cases n with
    | zero => exact hw.elim
    | succ n => exact hw.2.2.1
  have k6 : T 4 b ≠ 6 := by rcases hk with h | h | h | h <;> rw [h] <;> decide
  have k7 : T 4 b ≠ 7 := by rcases hk with h | h | h | h <;> rw [h] <;> decide
  have hsp := hs p
  rw [hdr_ln]
  unfold FM_inner
  simp only [h23, qk_t (qi_nI b160 (show 160 < 2 ^ 31 by omega)), nI_clamp (show b < 2 ^ 31 by omega), a8 4 b (by omega) (by omega), hn, qk_t (show qi 0 16 = true by decide), show ((0 : Int32).toNatClampNeg) = 0 from by decide]
  by_cases c0 : p < en
  case neg =>
    have c1 : ¬ (p < en ∧ src p = tg) := fun q => c0 q.1
    simp only [if_neg c0, if_neg c1, qb_some]
    have hb0 : zu (zu J 0 49 0) 0 47 (nI (p + 1)) 0 49 = 0 := by rw [zu_at, if_neg (by omega), zu_self]
    refine ⟨zu (zu J 0 49 0) 0 47 (nI (p + 1)), ev_of (fun N => ?_), mR_none hb0 (mK_trans (mK_zu (mW_f (by omega))) (mK_zu (mW_f (by omega))))⟩
    unfold FM_inner_29
    rw [zu_id _ 0 49 0 hb0, if_pos hb0, m_b48 hb0]
    simp
  simp only [if_pos c0, qb_some]
  have e16 : zu J 0 47 (nI (p + 1)) 16 0 = nI tg := by rw [zu_at, if_neg (by omega)]; exact h16
  have et : nI (src p) = nI tg ↔ src p = tg := nI_eq (by omega) (by omega)
  simp only [e16, et]
  have hS1 := mS_pos hS' (show p ≤ p + 1 by omega) (show p + 1 ≤ L by omega)
  have hg1 : mG J (zu J 0 47 (nI (p + 1))) i o fr := mG_zu (mW_f (by omega)) (by omega)
  by_cases c1 : src p = tg
  case neg =>
    have c2 : ¬ (p < en ∧ src p = tg) := fun q => c1 q.2
    simp only [if_neg c1, if_neg c2]
    have hb0 : zu (zu J 0 47 (nI (p + 1))) 0 49 0 0 49 = 0 := zu_self _ _ _ _
    refine ⟨zu (zu J 0 47 (nI (p + 1))) 0 49 0, ev_of (fun N => ?_), mR_none hb0 (mK_trans hg1.1 (mK_zu (mW_f (by omega))))⟩
    unfold FM_inner_29
    rw [if_pos hb0, m_b48 hb0]
  have c2 : p < en ∧ src p = tg := ⟨c0, c1⟩
  simp only [if_pos c1, if_pos c2]
  have h231 : zu J 0 47 (nI (p + 1)) 0 23 = nI b := by rw [zu_at, if_neg (by omega)]; exact h23
  generalize zu J 0 47 (nI (p + 1)) = J1 at hS1 hg1 h231 ⊢
  unfold FM_inner_29
  have g1 : ¬ J1 0 49 = 0 := by rw [hS1.1]; decide
  simp only [if_neg g1]
  by_cases hi : i < 100
  case neg =>
    simp only [if_neg hi, m_adds0 hS1 hi, qb_some]
    have hb0 : zu J1 0 49 0 0 49 = 0 := zu_self _ _ _ _
    refine ⟨zu J1 0 49 0, ev_of (fun N => m_b48 hb0 N _ _), ?_⟩
    rw [show ((lnS src false en (p + 1)).bind fun h => (none : Option (Nat × Rs))) = none from by cases lnS src false en (p + 1) <;> rfl]
    exact mR_none hb0 (mK_trans hg1.1 (mK_zu (mW_f (by omega))))
  obtain ⟨J2, d1, d2, d3, d4, d5, d6, d7⟩ := m_adds hS1 hi t0 par wh 0
  have hg2 : mG J J2 i o fr := mG_trans hg1 d2 (by omega) (by omega) (by omega)
  simp only [if_pos hi, d1, qb_some]
  unfold FM_inner_48 FM_inner_69 FM_inner_89
  have g2 : ¬ J2 0 49 = 0 := by rw [d3.1]; decide
  simp only [if_neg k6, if_neg k7, if_neg g2, if_true]
  obtain ⟨l1, l2⟩ := m_len (made := false) hs d3
  cases hln : lnS src false en (p + 1) with
  | none =>
    obtain ⟨J3, e1, e2⟩ := l1 hln
    have e1 : ∀ N, FM_length N 0 J2 = some (0, J3) := e1
    simp only [e1, qb_some, m_b110 e2.1]
    exact ⟨J3, ev_of (fun N => rfl), mR_none e2.1 (mK_trans hg2.1 e2.2.2)⟩
  | some q =>
    obtain ⟨e1, e2, e3, e4, e5⟩ := l2 q hln
    have e1 : ∀ N, FM_length N 0 J2 = _ := e1
    cases hq : q.2 with
    | none => exact absurd (e5 hq) (by decide)
    | some c =>
      have hc := e4 c hq
      rw [hq] at e1
      simp only at e1
      have hS3 := mS_pos d3 (show p + 1 ≤ q.1 by omega) (show q.1 ≤ L by omega)
      have hg3 : mG J (zu J2 0 47 (nI q.1)) i o fr := mG_trans hg2 (mG_zu (i := i) (o := o) (fr := fr) (mW_f (by omega)) (by omega)) (by omega) (by omega) (by omega)
      have ha3 : mA (zu J2 0 47 (nI q.1)) i t0 par wh 0 o := by
        obtain ⟨z1, z2, z3, z4, z5⟩ := d4
        refine ⟨?_, ?_, ?_, ?_, ?_⟩
        · rw [zu_at, if_neg (by omega)]; exact z1
        · rw [zu_at, if_neg (by omega)]; exact z2
        · rw [zu_at, if_neg (by omega)]; exact z3
        · rw [zu_at, if_neg (by omega)]; exact z4
        · rw [zu_at, if_neg (by omega)]; exact z5
      have h233 : zu J2 0 47 (nI q.1) 0 23 = nI b := by rw [zu_at, if_neg (by omega), d6]; exact h231
      simp only [e1, qb_some, Option.bind_some, hq, Option.getD_some]
      generalize zu J2 0 47 (nI q.1) = J3 at hS3 hg3 ha3 h233 ⊢
      have g3 : ¬ J3 0 49 = 0 := by rw [hS3.1]; decide
      have gx : ∀ N l4 l7, FM_inner_156 N l4 (nI i) 0 l7 (zu J3 0 49 0) = some ((), zu J3 0 49 0) := fun N l4 l7 => m_b156 (zu_self _ _ _ _) N _ _ _ _
      have hbad : mR T src L J i o p fr en none (zu J3 0 49 0) := mR_none (zu_self _ _ _ _) (mK_trans hg3.1 (mK_zu (mW_f (by omega))))
      have e0 : nI (c - q.1) = 0 ↔ c = q.1 := by rw [show (0 : Int32) = nI 0 from rfl, nI_eq (by omega) (by omega)]; omega
      have e1' : nI (c - q.1) = 1 ↔ c = q.1 + 1 := by rw [show (1 : Int32) = nI 1 from rfl, nI_eq (by omega) (by omega)]; omega
      unfold FM_inner_110 FM_inner_123 FM_inner_135 rdPl
      simp only [gx, e0, e1']
      rcases hk with k | k | k | k
      · -- boolean
        have n5 : ¬ T 4 b = 5 := by rw [k]; decide
        have n2 : ¬ T 4 b = 2 := by rw [k]; decide
        have n4 : ¬ T 4 b = 4 := by rw [k]; decide
        simp only [if_neg n5, if_pos k, if_neg n2]
        by_cases cc : c = q.1 + 1
        · have cc2 : c = q.1 + 1 ∧ ¬ (false = true ∧ src q.1 ≠ 0 ∧ src q.1 ≠ 255) := ⟨cc, by simp⟩
          simp only [if_pos cc, if_pos cc2]
          have hv : gF 0 src q.1 1 = nI (src q.1) := by
            show ((0 : Int32) <<< (8 : Int32)) ||| nI (src (q.1 + 0)) = _
            rw [show ((0 : Int32) <<< (8 : Int32)) = 0 from by decide, Int32.zero_or]
            rfl
          have hsq := hs q.1
          have hle : gF 0 src q.1 1 ≤ 0 ↔ src q.1 = 0 := by rw [hv, show (0 : Int32) = nI 0 from rfl, nI_leI (by omega) (by omega)]; omega
          obtain ⟨f1, f2, f3, f4⟩ := m_done (v := if src q.1 = 0 then 0 else 1) (fo := false) hS3 ha3 hc.1 (show c ≤ L by omega)
          rw [show c - q.1 = 1 by omega] at f1 f2 f3 f4
          refine ⟨zu (iJ J3 src q.1 o false 1) 22 i (if src q.1 = 0 then 0 else 1), ev_mono (m_loop (n := 1) (l4 := T 4 b) (l5 := nI i) (v0 := 0) (r := some ((), zu (iJ J3 src q.1 o false 1) 22 i (if src q.1 = 0 then 0 else 1))) hS3 (by omega) (fun N => ?_)) (fun N hN => ?_), ?_⟩
          · have hx : ∀ v, FM_inner_321 N (T 4 b) (nI i) (nI 1) (gF 0 src q.1 1) (nI i) v (iJ J3 src q.1 o (decide (T 4 b = 4)) 1) = FM_inner_339 N (nI i) (zu (iJ J3 src q.1 o false 1) 22 i v) := by
              intro v
              unfold FM_inner_321
              rw [qk_t (qi_nI hi (by omega)), nI_clamp (by omega), if_neg n2, decide_eq_false n4]
            simp only [hx]
            rw [if_neg n2, if_neg n4]
            have hal : ∀ v, alw T b v = true := by
              intro v
              refine decide_eq_true (Or.inl ?_)
              rcases hw01 with h | h
              · exact h
              · rcases hw11 h with z | z | z
                · exact absurd z n2
                · exact absurd z n4
                · exact absurd z k7
            by_cases cs : src q.1 = 0
            · rw [if_pos (hle.mpr cs)]
              rw [if_pos cs] at f1 f2 f3 f4 ⊢
              rw [m_339 hw f2 (by rw [f4]; exact h233) hi, hal, bI_t, zu_id _ 0 49 1 f2.1]
            · rw [if_neg (fun q => cs (hle.mp q))]
              rw [if_neg cs] at f1 f2 f3 f4 ⊢
              rw [m_339 hw f2 (by rw [f4]; exact h233) hi, hal, bI_t, zu_id _ 0 49 1 f2.1]
          · unfold FM_inner_156
            rw [if_neg g3, if_pos rfl, if_neg n5, if_neg n2, cc, show q.1 + 1 - q.1 = 1 by omega]
            exact hN
          · refine mR_some (mG_trans hg3 f1 (by omega) (by omega) (by omega)) f2 (by show p ≤ c; omega) (mH_one f3) (mO_nil _ _)
        · have cc2 : ¬ (c = q.1 + 1 ∧ ¬ (false = true ∧ src q.1 ≠ 0 ∧ src q.1 ≠ 255)) := fun z => cc z.1
          simp only [if_neg cc, if_neg cc2]
          exact ⟨_, ev_of (fun N => rfl), hbad⟩
      · -- integer
        have n5 : ¬ T 4 b = 5 := by rw [k]; decide
        have n1 : ¬ T 4 b = 1 := by rw [k]; decide
        have n4 : ¬ T 4 b = 4 := by rw [k]; decide
        simp only [if_neg n5, if_neg n1, if_pos k, FM_in_eq, qc_some, bI_eq0, ← Bool.decide_and, decide_eq_false_iff_not, nI_toInt (show c - q.1 < 2 ^ 31 by omega), i_1, show (4 : Int32).toInt = 4 from by decide]
        by_cases cc : (1 : Int) ≤ ((c - q.1 : Nat) : Int) ∧ ((c - q.1 : Nat) : Int) ≤ 4
        · have cc' : ¬ ¬ ((1 : Int) ≤ ((c - q.1 : Nat) : Int) ∧ ((c - q.1 : Nat) : Int) ≤ 4) := fun z => z cc
          simp only [if_neg cc']
          have hv : ∀ m, gF (ivF src q.1 0) src q.1 m = ivF src q.1 m := gF_iv src q.1
          obtain ⟨f1, f2, f3, f4⟩ := m_done (v := ivF src q.1 (c - q.1)) (fo := false) hS3 ha3 hc.1 (show c ≤ L by omega)
          have hsq := hs q.1
          have hrun : ∀ r, (∀ N, FM_inner_321 N (T 4 b) (nI i) (nI (c - q.1)) (ivF src q.1 (c - q.1)) (nI i) (ivF src q.1 (c - q.1)) (iJ J3 src q.1 o false (c - q.1)) = r) → Ev (fun N => FM_inner_156 N (T 4 b) (nI i) 0 (nI (c - q.1)) J3 = r) := by
            intro r hr
            refine ev_mono (m_loop (n := c - q.1) (l4 := T 4 b) (l5 := nI i) (v0 := ivF src q.1 0) (r := r) hS3 (by omega) (fun N => ?_)) (fun N hN => ?_)
            · rw [if_pos k, hv, decide_eq_false n4]
              exact hr N
            · unfold FM_inner_156
              rw [if_neg g3, if_pos rfl, if_neg n5, if_pos k, hS3.2.1, qk_t (qi_nI (by omega) (by omega)), nI_clamp (by omega), hS3.2.2.2.2.2.2.1 q.1 (by omega), show (127 : Int32) = nI 127 from rfl]
              simp (disch := omega) only [nI_leI]
              by_cases cs : src q.1 < 128
              · rw [if_pos (by omega)]
                rw [show ivF src q.1 0 = 0 from by unfold ivF; rw [if_pos cs]] at hN
                exact hN
              · rw [if_neg (by omega)]
                rw [show ivF src q.1 0 = -1 from by unfold ivF; rw [if_neg cs]] at hN
                exact hN
          have e321 : ∀ N, FM_inner_321 N (T 4 b) (nI i) (nI (c - q.1)) (ivF src q.1 (c - q.1)) (nI i) (ivF src q.1 (c - q.1)) (iJ J3 src q.1 o false (c - q.1)) = if c - q.1 = byC (ivF src q.1 (c - q.1)) then some ((), zu (zu (iJ J3 src q.1 o false (c - q.1)) 22 i (ivF src q.1 (c - q.1))) 0 49 (bI (alw T b (ivF src q.1 (c - q.1))))) else some ((), zu (zu (iJ J3 src q.1 o false (c - q.1)) 22 i (ivF src q.1 (c - q.1))) 0 49 0) := by
            intro N
            have hb4 : byC (ivF src q.1 (c - q.1)) ≤ 4 := by unfold byC; (repeat' split) <;> omega
            unfold FM_inner_321
            rw [qk_t (qi_nI hi (by omega)), nI_clamp (by omega), if_pos k, FM_bytesOf_eq, qc_some]
            simp (disch := omega) only [nI_eq]
            rw [m_339 hw f2 (by rw [f4]; exact h233) hi, zu_self]
          by_cases cb : byC (ivF src q.1 (c - q.1)) = c - q.1
          · simp only [if_pos cb.symm] at e321
            by_cases cal : alw T b (ivF src q.1 (c - q.1)) = true
            · have call : 1 ≤ c - q.1 ∧ c - q.1 ≤ 4 ∧ byC (ivF src q.1 (c - q.1)) = c - q.1 ∧ alw T b (ivF src q.1 (c - q.1)) = true := ⟨by omega, by omega, cb, cal⟩
              simp only [if_pos call]
              rw [cal, bI_t, zu_id _ 0 49 1 f2.1] at e321
              exact ⟨_, hrun _ e321, mR_some (mG_trans hg3 f1 (by omega) (by omega) (by omega)) f2 (by show p ≤ c; omega) (mH_one f3) (mO_nil _ _)⟩
            · have call : ¬ (1 ≤ c - q.1 ∧ c - q.1 ≤ 4 ∧ byC (ivF src q.1 (c - q.1)) = c - q.1 ∧ alw T b (ivF src q.1 (c - q.1)) = true) := fun z => cal z.2.2.2
              simp only [if_neg call]
              have cal' : alw T b (ivF src q.1 (c - q.1)) = false := by simpa using cal
              rw [cal', bI_f] at e321
              exact ⟨_, hrun _ e321, mR_none (zu_self _ _ _ _) (mK_trans (mK_trans hg3.1 f1.1) (mK_zu (mW_f (by omega))))⟩
          · have call : ¬ (1 ≤ c - q.1 ∧ c - q.1 ≤ 4 ∧ byC (ivF src q.1 (c - q.1)) = c - q.1 ∧ alw T b (ivF src q.1 (c - q.1)) = true) := fun z => cb z.2.2.1
            simp only [if_neg call]
            simp only [if_neg (fun z => cb z.symm : ¬ c - q.1 = byC (ivF src q.1 (c - q.1)))] at e321
            exact ⟨_, hrun _ e321, mR_none (zu_self _ _ _ _) (mK_trans (mK_trans hg3.1 f1.1) (mK_zu (mW_f (by omega))))⟩
        · have call : ¬ (1 ≤ c - q.1 ∧ c - q.1 ≤ 4 ∧ byC (ivF src q.1 (c - q.1)) = c - q.1 ∧ alw T b (ivF src q.1 (c - q.1)) = true) := by
            rintro ⟨z1, z2, _⟩; omega
          simp only [if_pos cc, if_neg call]
          exact ⟨_, ev_of (fun N => rfl), hbad⟩
      · -- octets
        have n5 : ¬ T 4 b = 5 := by rw [k]; decide
        have n1 : ¬ T 4 b = 1 := by rw [k]; decide
        have n2 : ¬ T 4 b = 2 := by rw [k]; decide
        simp only [if_neg n5, if_neg n1, if_neg n2, if_pos k]
        obtain ⟨f1, f2, f3, f4⟩ := m_done (v := nI (c - q.1)) (fo := true) hS3 ha3 hc.1 (show c ≤ L by omega)
        simp only [if_true] at f2
        have hrun : Ev (fun N => FM_inner_156 N (T 4 b) (nI i) 0 (nI (c - q.1)) J3 = some ((), zu (zu (iJ J3 src q.1 o true (c - q.1)) 22 i (nI (c - q.1))) 0 49 (bI (alw T b (nI (c - q.1)))))) := by
          refine ev_mono (m_loop (n := c - q.1) (l4 := T 4 b) (l5 := nI i) (v0 := 0) (r := some ((), zu (zu (iJ J3 src q.1 o true (c - q.1)) 22 i (nI (c - q.1))) 0 49 (bI (alw T b (nI (c - q.1)))))) hS3 (by omega) (fun N => ?_)) (fun N hN => ?_)
          · rw [if_neg n2, if_pos k, decide_eq_true k]
            unfold FM_inner_321
            rw [qk_t (qi_nI hi (by omega)), nI_clamp (by omega), if_neg n2, m_339 hw f2 (by rw [f4]; exact h233) hi, zu_self]
          · unfold FM_inner_156
            rw [if_neg g3, if_pos rfl, if_neg n5, if_neg n2]
            exact hN
        by_cases cal : alw T b (nI (c - q.1)) = true
        · simp only [if_pos cal]
          rw [cal, bI_t, zu_id _ 0 49 1 f2.1] at hrun
          refine ⟨_, hrun, mR_some (mG_trans hg3 f1 (by omega) (by omega) (by omega)) ?_ (by show p ≤ c; omega) (mH_one f3) (fun k' b' hk' => ?_)⟩
          · show mS T _ src L (i + 1) (o + (seg src q.1 (c - q.1)).length) c fr en
            rw [seg_len]
            exact f2
          · obtain ⟨z1, z2⟩ := seg_get hk'
            rw [zu_at, if_neg (by omega), iJ_28 _ _ _ _ _ _ (by omega) (by omega), z2, show o + k' - o = k' by omega]
        · simp only [if_neg cal]
          have cal' : alw T b (nI (c - q.1)) = false := by simpa using cal
          rw [cal', bI_f] at hrun
          exact ⟨_, hrun, mR_none (zu_self _ _ _ _) (mK_trans (mK_trans hg3.1 f1.1) (mK_zu (mW_f (by omega))))⟩
      · -- null
        have n1 : ¬ T 4 b = 1 := by rw [k]; decide
        have n2 : ¬ T 4 b = 2 := by rw [k]; decide
        have n4 : ¬ T 4 b = 4 := by rw [k]; decide
        simp only [if_neg n1, if_neg n2, if_neg n4, if_pos k]
        by_cases cc : c = q.1
        · simp only [if_pos cc]
          refine ⟨J3, ev_of (fun N => ?_), mR_some hg3 ?_ (by show p ≤ c; omega) (mH_one ha3) (mO_nil _ _)⟩
          · unfold FM_inner_156
            rw [if_neg g3, if_pos rfl, if_pos k]
          · show mS T J3 src L (i + 1) (o + 0) c fr en
            rw [cc]
            exact hS3
        · simp only [if_neg cc]
          exact ⟨_, ev_of (fun N => rfl), hbad⟩
