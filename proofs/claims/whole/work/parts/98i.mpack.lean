/-! THE REFERENCE reads packed bits: machine, parts, plain contents -/
def goS2 (J J' : zJ) : Prop := J 0 49 = 1 ∧ (∃ f, f < 160 ∧ J 0 48 = nI (f + 1)) ∧ Ev (fun N => FM_goOnPacked N J = some ((), J'))
def goR2 : Nat → zJ → zJ → Prop
  | 0, J, J' => J' = J
  | m + 1, J, J' => ∃ J1, goS2 J J1 ∧ goR2 m J1 J'
def Rch2 (J J' : zJ) : Prop := ∃ m, goR2 m J J'
theorem goR2_trans : ∀ m k J J1 J2, goR2 m J J1 → goR2 k J1 J2 → goR2 (m + k) J J2 := by
  intro m
  induction m with
  | zero => intro k J J1 J2 h1 h2; have : J1 = J := h1; subst this; rw [Nat.zero_add]; exact h2
  | succ m ih =>
    intro k J J1 J2 h1 h2
    obtain ⟨J3, h3, h4⟩ := h1
    rw [show m + 1 + k = (m + k) + 1 by omega]
    exact ⟨J3, h3, ih k J3 J1 J2 h4 h2⟩
theorem Rch2_refl (J : zJ) : Rch2 J J := ⟨0, rfl⟩
theorem Rch2_trans {J J1 J2 : zJ} (h1 : Rch2 J J1) (h2 : Rch2 J1 J2) : Rch2 J J2 := by
  obtain ⟨m, h1⟩ := h1
  obtain ⟨k, h2⟩ := h2
  exact ⟨m + k, goR2_trans m k J J1 J2 h1 h2⟩
theorem Rch2_step {J J1 J2 : zJ} (h1 : goS2 J J1) (h2 : Rch2 J1 J2) : Rch2 J J2 := by
  obtain ⟨k, h2⟩ := h2
  exact ⟨k + 1, J1, h1, h2⟩
def hR (T : zJ) (src : Nat → Nat) (L : Nat) (J : zJ) (i o p fr : Nat) (res : Option (Nat × Rs)) (J1 : zJ) : Prop :=
  (res = none → ∃ J2, Rch2 J1 J2 ∧ J2 0 49 = 0 ∧ mK J J2) ∧ (∀ q, res = some q → ∃ J2, Rch2 J1 J2 ∧ mG J J2 i o fr ∧ hS T J2 src L (i + q.2.1.length) (o + q.2.2.1.length) q.1 fr ∧ p ≤ q.1 ∧ mH J2 i q.2.1 ∧ mO J2 o q.2.2.1)
theorem hR_none {T : zJ} {src : Nat → Nat} {L : Nat} {J J1 : zJ} {i o p fr : Nat} (h : J1 0 49 = 0) (hk : mK J J1) : hR T src L J i o p fr none J1 :=
  ⟨fun _ => ⟨J1, Rch2_refl J1, h, hk⟩, fun q hq => by cases hq⟩
theorem hR_some {T : zJ} {src : Nat → Nat} {L : Nat} {J J1 : zJ} {i o p fr : Nat} {q : Nat × Rs} (hg : mG J J1 i o fr) (h : hS T J1 src L (i + q.2.1.length) (o + q.2.2.1.length) q.1 fr) (hp : p ≤ q.1) (hh : mH J1 i q.2.1) (ho : mO J1 o q.2.2.1) : hR T src L J i o p fr (some q) J1 :=
  ⟨fun hq => (by cases hq), fun q' hq => (by injection hq with hq; subst hq; exact ⟨J1, Rch2_refl J1, hg, h, hp, hh, ho⟩)⟩
theorem hR_pre {T : zJ} {src : Nat → Nat} {L : Nat} {J J0 J1 : zJ} {i o p p' fr : Nat} {res : Option (Nat × Rs)} (hg : mG J J0 i o fr) (hp : p ≤ p') (h : hR T src L J0 i o p' fr res J1) : hR T src L J i o p fr res J1 := by
  refine ⟨fun hx => ?_, fun q hq => ?_⟩
  · obtain ⟨J2, z1, z2, z3⟩ := h.1 hx
    exact ⟨J2, z1, z2, mK_trans hg.1 z3⟩
  · obtain ⟨J2, z1, z2, z3, z4, z5⟩ := h.2 q hq
    exact ⟨J2, z1, mG_trans hg z2 (Nat.le_refl _) (Nat.le_refl _) (Nat.le_refl _), z3, Nat.le_trans hp z4, z5⟩
theorem h_adds {T J : zJ} {src : Nat → Nat} {L i o p fr : Nat} (h : hS T J src L i o p fr) (hi : i < 100) (t : Nat) (of : Int32) (wh : Nat) (v : Int32) : ∃ J', (∀ N, FM_adds N (nI t) of (nI wh) v J = some (nI i, J')) ∧ mG J J' i o fr ∧ hS T J' src L (i + 1) o p fr ∧ mA J' i t of wh v o ∧ J' 16 = J 16 ∧ J' 0 23 = J 0 23 ∧ (∀ c k, 31 ≤ c → J' c k = J c k) := by
  obtain ⟨a1, a2, a3, a4, a5, a6, a7, a8, a9, a10, a11, a12, a13⟩ := h
  have hm : mG J (zu (zu (zu (zu (zu (zu J 21 i (nI t)) 24 i of) 23 i (nI wh)) 22 i v) 25 i (nI o)) 0 34 (nI (i + 1))) i o fr := by
    refine mG_trans (mG_trans (mG_trans (mG_trans (mG_trans (mG_zu (mW_p (by omega)) (by omega)) (mG_zu (i := i) (o := o) (fr := fr) (mW_p (by omega)) (by omega)) (by omega) (by omega) (by omega)) (mG_zu (i := i) (o := o) (fr := fr) (mW_p (by omega)) (by omega)) (by omega) (by omega) (by omega)) (mG_zu (i := i) (o := o) (fr := fr) (mW_p (by omega)) (by omega)) (by omega) (by omega) (by omega)) (mG_zu (i := i) (o := o) (fr := fr) (mW_p (by omega)) (by omega)) (by omega) (by omega) (by omega)) (mG_zu (i := i) (o := o) (fr := fr) (mW_f (by omega)) (by omega)) (by omega) (by omega) (by omega)
  refine ⟨_, fun N => ?_, hm, ⟨?_, ?_, zu_self _ _ _ _, ?_, ?_, ?_, fun k hk => ?_, mK_ty hm.1 a8, by omega, a10, a11, a12, a13⟩, ⟨?_, ?_, ?_, ?_, ?_⟩, ?_, ?_, fun c k hc => ?_⟩
  · unfold FM_adds FM_adds_14
    have e1 : ∀ (K : zJ) (c k : Nat) (x : Int32), c ≠ 0 → zu K c k x 0 34 = K 0 34 := fun K c k x hc => by rw [zu_at, if_neg (by omega)]
    have e2 : ∀ (K : zJ) (c k : Nat) (x : Int32), c ≠ 0 → zu K c k x 0 35 = K 0 35 := fun K c k x hc => by rw [zu_at, if_neg (by omega)]
    rw [a3, if_neg (by rw [show (100 : Int32) = nI 100 from rfl, nI_eq (by omega) (by omega)]; omega), a1, if_neg (by decide)]
    simp only [e1 _ 21 _ _ (by omega), e1 _ 22 _ _ (by omega), e1 _ 23 _ _ (by omega), e1 _ 24 _ _ (by omega), e1 _ 25 _ _ (by omega), e2 _ 21 _ _ (by omega), e2 _ 22 _ _ (by omega), e2 _ 23 _ _ (by omega), e2 _ 24 _ _ (by omega), a3, a4, nI_clamp (show i < 2 ^ 31 by omega), nI_p1, qk_t (qi_nI hi (show 100 < 2 ^ 31 by omega)), zu_self]
    rw [show nI (i + 1) - 1 = nI i from nI_subs (a := i + 1) (b := 1) (by omega)]
  · simp [zu_at, a1]
  · simp [zu_at, a2]
  · simp [zu_at, a4]
  · simp [zu_at, a5]
  · simp [zu_at, a6]
  · simp [zu_at, a7 k hk]
  · simp [zu_at]
  · simp [zu_at]
  · simp [zu_at]
  · simp [zu_at]
  · simp [zu_at]
  · funext k; simp [zu_at]
  · simp [zu_at]
  · rw [zu_at, if_neg (by omega), zu_at, if_neg (by omega), zu_at, if_neg (by omega), zu_at, if_neg (by omega), zu_at, if_neg (by omega), zu_at, if_neg (by omega)]
theorem h_adds0 {T J : zJ} {src : Nat → Nat} {L i o p fr : Nat} (h : hS T J src L i o p fr) (hi : ¬ i < 100) (t of wh v : Int32) (N : Nat) : FM_adds N t of wh v J = some (99, zu J 0 49 0) := by
  have h9 := h.2.2.2.2.2.2.2.2.1
  unfold FM_adds FM_adds_14
  rw [h.2.2.1, if_pos (by rw [show (100 : Int32) = nI 100 from rfl, nI_eq (by omega) (by omega)]; omega)]
  simp only [zu_self, if_true]
theorem h_addsB {J : zJ} (h : J 0 49 = 0) (t of wh v : Int32) (N : Nat) : FM_adds N t of wh v J = some (99, J) := by
  unfold FM_adds FM_adds_14
  rw [zu_id _ 0 49 0 h, if_pos h]
  simp
theorem hS_num {T J : zJ} {src : Nat → Nat} {L i o p fr h : Nat} {x : Int32} (hS0 : hS T J src L i o p fr) : hS T (zu J 22 h x) src L i o p fr := hS_c hS0 (mK_zu (mW_p (by omega))) (by rw [zu_at, if_neg (by omega)]) (by rw [zu_at, if_neg (by omega)]) (by rw [zu_at, if_neg (by omega)]) (by rw [zu_at, if_neg (by omega)]) (by rw [zu_at, if_neg (by omega)])
theorem q_sg {B k m : Nat} (hk : k < 32) (hm : 2 ^ k * m = 2147483648) (hB : B < 2 * m) : ((nI B <<< nI k) >>> nI k).toInt = if B < m then (B : Int) else (B : Int) - 2 * (m : Int) := by
  have hpos : 0 < 2 ^ k := Nat.two_pow_pos k
  have hpI : ((2 : Int) ^ k) = ((2 ^ k : Nat) : Int) := by simp
  rw [nI_shl hk, i_shr hk, i_bvnat, nI_bv, BitVec.toNat_ofNat, hpI]
  generalize 2 ^ k = P at *
  have h1 : B * P < 4294967296 := by
    have : B * P < 2 * m * P := Nat.mul_lt_mul_of_pos_right hB hpos
    have e : 2 * m * P = 4294967296 := by rw [Nat.mul_assoc, Nat.mul_comm m P, hm]
    omega
  rw [show (2 : Nat) ^ 32 = 4294967296 from rfl, Nat.mod_eq_of_lt h1]
  by_cases c : B < m
  · have : B * P < m * P := Nat.mul_lt_mul_of_pos_right c hpos
    rw [Nat.mul_comm m P, hm] at this
    rw [if_pos this, if_pos c, Int.natCast_mul, Int.mul_ediv_cancel _ (by omega)]
  · have : m * P ≤ B * P := Nat.mul_le_mul_right P (by omega)
    rw [Nat.mul_comm m P, hm] at this
    rw [if_neg (by omega), if_neg c]
    have e : ((B * P : Nat) : Int) - 4294967296 = ((B : Int) - 2 * (m : Int)) * (P : Int) := by
      rw [Int.sub_mul, Int.natCast_mul, Int.mul_assoc, Int.mul_comm (m : Int) (P : Int), ← Int.natCast_mul P m, hm]
      rfl
    rw [e, Int.mul_ediv_cancel _ (by omega)]
theorem bvs_b {src : Nat → Nat} (hs : sOK src) {p : Nat} (hp : p % 8 = 0) (c n : Nat) (hn : n = 8 * c) : bvs src p (n + 8) = 256 * bvs src p n + src (p / 8 + c) := by
  have hsplit : ∀ a r, bvs src p (a + r) = bvs src p a * 2 ^ r + bvs src (p + a) r := by
    intro a r
    induction r with
    | zero => simp [bvs]
    | succ r ih =>
      show 2 * bvs src p (a + r) + sbit src (p + (a + r)) = _
      rw [ih]
      show _ = _ + (2 * bvs src (p + a) r + sbit src (p + a + r))
      rw [Nat.pow_succ, ← Nat.add_assoc p a r, Nat.mul_add, Nat.mul_comm 2 (bvs src p a * 2 ^ r), Nat.mul_assoc]
      omega
  rw [hsplit, bvs_8 hs (by omega), show (p + n) / 8 = p / 8 + c by omega, Nat.mul_comm, show (2 : Nat) ^ 8 = 256 from rfl]
/-- a number of c bytes, its sign spread -/
theorem q_sign {src : Nat → Nat} (hs : sOK src) {p c : Nat} (hp : p % 8 = 0) (h1 : 1 ≤ c) (h4 : c ≤ 4) : (nI (bvs src p (8 * c)) <<< nI ((32 - 8 * c) % 32)) >>> nI ((32 - 8 * c) % 32) = ivF src (p / 8) c := by
  have h0 : bvs src p 0 = 0 := rfl
  have b1 := bvs_b hs hp 0 0 rfl
  have b2 := bvs_b hs hp 1 8 rfl
  have b3 := bvs_b hs hp 2 16 rfl
  have b4 := bvs_b hs hp 3 24 rfl
  rw [h0, Nat.mul_zero, Nat.zero_add, Nat.add_zero, Nat.zero_add] at b1
  rw [show 8 + 8 = 16 from rfl] at b2
  rw [show 16 + 8 = 24 from rfl] at b3
  rw [show 24 + 8 = 32 from rfl] at b4
  have e1 := iv_1 hs (p / 8)
  have e2 := iv_2 hs (p / 8)
  have e3 := iv_3 hs (p / 8)
  have e4 := iv_4 hs (p / 8)
  have s0 := hs (p / 8)
  have s1 := hs (p / 8 + 1)
  have s2 := hs (p / 8 + 2)
  have s3 := hs (p / 8 + 3)
  apply Int32.toInt_inj.mp
  have hc : c = 1 ∨ c = 2 ∨ c = 3 ∨ c = 4 := by omega
  rcases hc with rfl | rfl | rfl | rfl
  · rw [show (32 - 8 * 1) % 32 = 24 from rfl, show (8 * 1) = 8 from rfl, q_sg (m := 128) (by omega) (by decide) (by omega), e1]
    clear b2 b3 b4 e1 e2 e3 e4
    generalize bvs src p 8 = B at *
    by_cases z : src (p / 8) < 128
    · rw [if_pos (by omega), if_pos z]; omega
    · rw [if_neg (by omega), if_neg z]; omega
  · rw [show (32 - 8 * 2) % 32 = 16 from rfl, show (8 * 2) = 16 from rfl, q_sg (m := 32768) (by omega) (by decide) (by omega), e2, e1]
    clear b3 b4 e1 e2 e3 e4
    generalize bvs src p 16 = B at *
    generalize bvs src p 8 = C at *
    by_cases z : src (p / 8) < 128
    · rw [if_pos (by omega), if_pos z]; omega
    · rw [if_neg (by omega), if_neg z]; omega
  · rw [show (32 - 8 * 3) % 32 = 8 from rfl, show (8 * 3) = 24 from rfl, q_sg (m := 8388608) (by omega) (by decide) (by omega), e3, e2, e1]
    clear b4 e1 e2 e3 e4
    generalize bvs src p 24 = D at *
    generalize bvs src p 16 = B at *
    generalize bvs src p 8 = C at *
    by_cases z : src (p / 8) < 128
    · rw [if_pos (by omega), if_pos z]; omega
    · rw [if_neg (by omega), if_neg z]; omega
  · rw [show (32 - 8 * 4) % 32 = 0 from rfl, show (8 * 4) = 32 from rfl, q_sg (m := 2147483648) (by omega) (by decide) (by omega), e4, e3, e2, e1]
    clear e1 e2 e3 e4
    generalize bvs src p 32 = E at *
    generalize bvs src p 24 = D at *
    generalize bvs src p 16 = B at *
    generalize bvs src p 8 = C at *
    by_cases z : src (p / 8) < 128
    · rw [if_pos (by omega), if_pos z]; omega
    · rw [if_neg (by omega), if_neg z]; omega
/-- octets -/
theorem h_octs {T : zJ} {src : Nat → Nat} {L i o p1 fr c : Nat} (hs : sOK src) (hi : i < 100) (hc : c ≤ 127) : ∀ r k J, k + r = c → hS T J src L (i + 1) o (p1 + 8 * k) fr → J 22 i = nI c → 8 * o ≤ p1 →
    (p1 + 8 * c ≤ 8 * L → ∃ J', Ev (fun N => ∀ F, r + 1 ≤ F → qfix (FM_want_270 N (nI i)) F (nI k, J) = some ((), J')) ∧ mK J J' ∧ (∀ c' x, c' ≠ 0 → c' ≠ 28 → J' c' x = J c' x) ∧ J' 0 23 = J 0 23 ∧ (∀ x, x < o + k → J' 28 x = J 28 x) ∧ hS T J' src L (i + 1) (o + c) (p1 + 8 * c) fr ∧ (∀ x, k ≤ x → x < c → J' 28 (o + x) = nI (bvs src (p1 + 8 * x) 8))) ∧
    (¬ p1 + 8 * c ≤ 8 * L → ∃ J', Ev (fun N => ∀ F, r + 1 ≤ F → qfix (FM_want_270 N (nI i)) F (nI k, J) = some ((), J')) ∧ J' 0 49 = 0 ∧ mK J J') := by
  intro r
  induction r with
  | zero =>
    intro k J hk hS0 h22 ho8
    have : k = c := by omega
    subst this
    have hS' := hS0
    obtain ⟨a1, a2, a3, a4, a5, a6, a7, a8, a9, a10, a11, a12, a13⟩ := hS0
    refine ⟨fun hle => ⟨zu J 0 35 (nI (o + k)), ev_of (fun N F hF => ?_), mK_zu (mW_f (by omega)), fun c' x h1 h2 => by rw [zu_at, if_neg (by omega)], by rw [zu_at, if_neg (by omega)], fun x hx => by rw [zu_at, if_neg (by omega)], ?_, fun x h1 h2 => by omega⟩, fun h => absurd a11 h⟩
    · obtain ⟨F, rfl⟩ : ∃ g, F = g + 1 := ⟨F - 1, by omega⟩
      rw [qfix_s]
      simp only [FM_want_270]
      rw [qk_t (qi_nI hi (by omega)), nI_clamp (by omega), h22, if_pos (by rw [nI_leI (by omega) (by omega)]; omega)]
      unfold FM_want_313
      rw [if_neg (by rw [a1]; decide), qk_t (qi_nI hi (by omega)), nI_clamp (by omega), h22, a4, nI_add]
    · refine ⟨by rw [zu_at, if_neg (by omega)]; exact a1, by rw [zu_at, if_neg (by omega)]; exact a2, by rw [zu_at, if_neg (by omega)]; exact a3, zu_self _ _ _ _, by rw [zu_at, if_neg (by omega)]; exact a5, by rw [zu_at, if_neg (by omega)]; exact a6, fun k' hk' => by rw [zu_at, if_neg (by omega)]; exact a7 k' hk', mK_ty (mK_zu (mW_f (by omega))) a8, a9, by omega, a11, a12, a13⟩
  | succ r ih =>
    intro k J hk hS0 h22 ho8
    obtain ⟨g1, g2⟩ := q_take hs hS0 8 (by omega)
    have hS' := hS0
    obtain ⟨a1, a2, a3, a4, a5, a6, a7, a8, a9, a10, a11, a12, a13⟩ := hS0
    have hstep : ∀ N F w (J3 : zJ), FM_some N 8 J = some (w, J3) → qfix (FM_want_270 N (nI i)) (F + 1) (nI k, J) = qfix (FM_want_270 N (nI i)) F (nI (k + 1), zu J3 28 (o + k) w) := by
      intro N F w J3 h3
      rw [qfix_s]
      simp only [FM_want_270]
      rw [qk_t (qi_nI hi (by omega)), nI_clamp (by omega), h22, if_neg (by rw [nI_leI (by omega) (by omega)]; omega), if_neg (by rw [a1]; decide), h3, qb_some, a4, nI_add, qk_t (qi_nI (by omega) (by omega)), nI_clamp (by omega), nI_p1]
    by_cases c1 : p1 + 8 * k + 8 ≤ 8 * L
    · have g1 : Ev (fun N => FM_some N 8 J = some (nI (bvs src (p1 + 8 * k) 8), zu J 0 47 (nI (p1 + 8 * k + 8)))) := g1 c1
      have hS1 : hS T (zu (zu J 0 47 (nI (p1 + 8 * (k + 1)))) 28 (o + k) (nI (bvs src (p1 + 8 * k) 8))) src L (i + 1) o (p1 + 8 * (k + 1)) fr := by
        refine hS_c (hS_pos hS' (show p1 + 8 * k ≤ p1 + 8 * (k + 1) by omega) (by omega)) (mK_zu mW_o) ?_ ?_ ?_ ?_ ?_ <;> rw [zu_at, if_neg (by omega)]
      have hz : ∀ c' x, c' ≠ 0 → ¬ (c' = 28 ∧ x = o + k) → zu (zu J 0 47 (nI (p1 + 8 * (k + 1)))) 28 (o + k) (nI (bvs src (p1 + 8 * k) 8)) c' x = J c' x := fun c' x h1 h2 => by rw [zu_at, if_neg h2, zu_at, if_neg (by omega)]
      obtain ⟨i1, i2⟩ := ih (k + 1) _ (by omega) hS1 (by rw [hz 22 i (by omega) (by omega)]; exact h22) ho8
      have hkk : mK J (zu (zu J 0 47 (nI (p1 + 8 * (k + 1)))) 28 (o + k) (nI (bvs src (p1 + 8 * k) 8))) := mK_trans (mK_zu (mW_f (by omega))) (mK_zu mW_o)
      refine ⟨fun hle => ?_, fun hle => ?_⟩
      · obtain ⟨J', j1, j2, j3, j4, j5, j6, j7⟩ := i1 hle
        refine ⟨J', ev_mono (ev_and g1 j1) (fun N hN F hF => ?_), mK_trans hkk j2, fun c' x h1 h2 => ?_, ?_, fun x hx => ?_, j6, fun x h1 h2 => ?_⟩
        · obtain ⟨F, rfl⟩ : ∃ g, F = g + 1 := ⟨F - 1, by omega⟩
          rw [hstep N F _ _ hN.1]
          exact hN.2 F (by omega)
        · rw [j3 c' x h1 h2, hz c' x h1 (by omega)]
        · rw [j4, zu_at, if_neg (by omega), zu_at, if_neg (by omega)]
        · rw [j5 x (by omega), hz 28 x (by omega) (by omega)]
        · by_cases hx : x = k
          · rw [hx, j5 _ (by omega), zu_self]
          · exact j7 x (by omega) h2
      · obtain ⟨J', j1, j2, j3⟩ := i2 hle
        refine ⟨J', ev_mono (ev_and g1 j1) (fun N hN F hF => ?_), j2, mK_trans hkk j3⟩
        obtain ⟨F, rfl⟩ : ∃ g, F = g + 1 := ⟨F - 1, by omega⟩
        rw [hstep N F _ _ hN.1]
        exact hN.2 F (by omega)
    · obtain ⟨w, J3, z1, z2⟩ := g2 c1
      have z1 : Ev (fun N => FM_some N 8 J = some (w, J3)) := z1
      refine ⟨fun hle => absurd hle (by omega), fun _ => ?_⟩
      have h49 : zu J3 28 (o + k) w 0 49 = 0 := by rw [zu_at, if_neg (by omega)]; exact z2.1
      refine ⟨zu J3 28 (o + k) w, ev_mono z1 (fun N hN F hF => ?_), h49, mK_trans z2.2.2.1 (mK_zu mW_o)⟩
      obtain ⟨F, rfl⟩ : ∃ g, F = g + 1 := ⟨F - 1, by omega⟩
      rw [hstep N F _ _ hN]
      obtain ⟨F, rfl⟩ : ∃ g, F = g + 1 := ⟨F - 1, by omega⟩
      rw [qfix_s]
      simp only [FM_want_270]
      have hend : FM_want_313 N (nI i) (zu J3 28 (o + k) w) = some ((), zu J3 28 (o + k) w) := by
        unfold FM_want_313
        rw [if_pos h49, Int32.add_zero, zu_id _ _ _ _ rfl]
      rw [qk_t (qi_nI hi (by omega)), if_pos h49, hend]
      simp
