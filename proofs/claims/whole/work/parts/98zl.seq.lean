/-! COMPILING: all members; types without tags -/
theorem e103 {A KC KS q n p a b c t k kd : Nat} {M : zM} {J : zJ} (h : kcS A KC KS q M J n p a b c) (ht : t < 160) (hkd : kd = 6 ∨ kd = 9) (h4 : J 4 t = nI kd) (h8 : J 8 t = nI k) (hk : k ≤ 6) (N : Nat) : FM_end_103 N (nI t) J = if cx J n p = 44 then (if k = 6 then some (-1, jF J (7 + 16 * p)) else FM_end_193 N (nI t) J) else if cx J n p = 125 then FM_end_193 N (nI t) J else some (-1, jF J (1 + 16 * p)) := by
  obtain ⟨k1, k2, k3, k4, k5, k6⟩ := kc_7 h
  have qt : qi (nI t) 160 = true := qi_nI ht (by omega)
  have ct : (nI t).toNatClampNeg = t := nI_clamp (by omega)
  have h165 : FM_end_165 N (nI t) J = if cx J n p = 44 then FM_end_193 N (nI t) J else if cx J n p = 125 then FM_end_193 N (nI t) J else some (-1, jF J (1 + 16 * p)) := by
    unfold FM_end_165
    rw [(kc_look h N).2, qb_some]
    by_cases c44 : cx J n p = 44
    · rw [if_pos c44, if_pos c44]
    · rw [if_neg c44, if_neg c44, (kc_look h N).2, qb_some]
      by_cases c125 : cx J n p = 125
      · rw [if_pos c125, if_pos c125]
      · rw [if_neg c125, if_neg c125, k2, show (1 : Int32) = nI 1 from rfl, eM_stop k6, qb_some]
        rfl
  have h134 : FM_end_134 N (nI t) J = if cx J n p = 44 then (if k = 6 then some (-1, jF J (7 + 16 * p)) else FM_end_193 N (nI t) J) else if cx J n p = 125 then FM_end_193 N (nI t) J else some (-1, jF J (1 + 16 * p)) := by
    unfold FM_end_134
    rw [(kc_look h N).2, qb_some, h165]
    by_cases c44 : cx J n p = 44
    · rw [if_pos c44, if_pos c44, if_pos c44, qk_t qt, ct, h8]
      by_cases ck : k = 6
      · rw [if_pos (by rw [ck]; rfl), if_pos ck, k2, show (7 : Int32) = nI 7 from rfl, eM_stop k6, qb_some]
      · rw [if_neg (by rw [show (6 : Int32) = nI 6 from rfl, nI_eq (by omega) (by omega)]; exact ck), if_neg ck]
    · rw [if_neg c44, if_neg c44, if_neg c44]
  unfold FM_end_103
  rw [k6, if_pos (by decide), qk_t qt, ct, h4, qk_t qt, h134]
  rcases hkd with rfl | rfl
  · rw [if_pos (by decide)]
  · rw [if_neg (by decide), if_pos (by decide)]
theorem e193_c {A KC KS q n p a b c t : Nat} {M : zM} {J : zJ} (h : kcS A KC KS q M J n p a b c) (hcx : cx J n p = 44) (N : Nat) : FM_end_193 N (nI t) J = some (-1, jP J (p + 1)) := by
  obtain ⟨k1, k2, k3, k4, k5, k6⟩ := kc_7 h
  have hpn : p < n := cx_lt hcx (by decide)
  have hJ1 : jP J (p + 1) 1 p = 44 := by
    rw [jP_o (by omega)]
    unfold cx at hcx
    rw [if_pos hpn] at hcx
    exact hcx
  unfold FM_end_193
  rw [k2, nI_add1]
  simp only
  rw [show zu J 0 3 (nI (p + 1)) = jP J (p + 1) from rfl, show jP J (p + 1) 0 3 = nI (p + 1) from zu_self _ _ _ _, nI_pred, qk_t (qi_nI (by omega) (by omega)), nI_clamp (by omega), hJ1, if_pos rfl]
theorem kI_P {A KC KS q n d kd : Nat} {M0 : zM} {J0 : zJ} {a0 b0 c0 : Nat} {S0 R0 : Nat → Bool} {M : zM} {J : zJ} {p a b c p' : Nat} {S R : Nat → Bool} {x t k h : Nat} {bs xs us hs : Nat → Nat} (hi : kI A KC KS q n d kd M0 J0 a0 b0 c0 S0 R0 M J p a b c S R x t k h bs xs us hs) (hk6 : k ≤ 6) (hp : p ≤ p') (hpn : p' ≤ n) : kI A KC KS q n d kd M0 J0 a0 b0 c0 S0 R0 (mP M A p') (jP J p') p' a b c S R x t k h bs xs us hs :=
  kI_up hi hk6 (kc_go hi.1 hp hpn) (by rw [jP_o (by omega)]; exact hi.2.1.1) (kF_P hi.1) ⟨Nat.le_refl _, Nat.le_refl _, Nat.le_refl _⟩ (fun _ h => h) (fun _ h => h) (fun y hy => ⟨hi.2.2.2.1.1 y hy, Or.inl hy⟩) (fun u hu => ⟨hi.2.2.2.1.2.1 u hu, Or.inl hu⟩)
theorem kc_loop {A KC KS q n d kd : Nat} {M0 : zM} {J0 : zJ} {a0 b0 c0 p0 : Nat} {S0 R0 : Nat → Bool} {x t : Nat} {rec : Nat → (Nat × Int32 × zM) → Option (Option Nat × zM)} (hP0 : kcP A KC KS q M0 a0 b0) (hkd : kd = 6 ∨ kd = 9) (hrec : kTy A KC KS q (fun N M => rec N (A + 2, nI (d + 1), M)) (d + 1)) : ∀ m k (M : zM) (J : zJ) p a b c S R h bs xs us hs, k + m = 6 → 1 ≤ m → kI A KC KS q n d kd M0 J0 a0 b0 c0 S0 R0 M J p a b c S R x t k h bs xs us hs → p0 ≤ p →
    (∃ M' J', Ev (fun N => ∀ F, m + 1 ≤ F → qfix (FC_readMembers_43 N KC KS (rec N) (A + 2) (some x) (nI d)) F (nI (k + 1), M) = some (true, M')) ∧ goW (-1, J) (nI t, J') ∧ kGood A KC KS q n d M0 J0 p0 a0 b0 c0 S0 R0 M' J' x t) ∨ (∃ M' J', Ev (fun N => ∀ F, m + 1 ≤ F → qfix (FC_readMembers_43 N KC KS (rec N) (A + 2) (some x) (nI d)) F (nI (k + 1), M) = some (false, M')) ∧ goW (-1, J) (-1, J') ∧ kcBad A KC KS q M J M' J') := by
  intro m
  induction m with
  | zero => intro k M J p a b c S R h bs xs us hs _ h1; omega
  | succ m ih =>
    intro k M J p a b c S R h bs xs us hs hk _ hi hp0
    have s0 := (kc_7 hi.1).2.2.1
    rcases kc_member hP0 hi hkd (by omega) hrec with ⟨M2, J2, p2, a2, b2, c2, S2, R2, h2, bs2, xs2, us2, hs2, e1, e2, e3, e4, e5, e6⟩ | ⟨M2, J2, e1, e2, e3⟩
    case inr =>
      right
      refine ⟨M2, J2, ev_mono e1 (fun N hN F hF => ?_), e2, e3⟩
      obtain ⟨F, rfl⟩ : ∃ g, F = g + 1 := ⟨F - 1, by omega⟩
      rw [qfix_s]
      simp only [FC_readMembers_43]
      rw [if_neg (by rw [show (6 : Int32) = nI 6 from rfl, nI_ltI (by omega) (by omega)]; omega), qk_d s0, nI_add1, hN, qb_some, if_pos (by decide)]
    have s2 := (kc_7 e3.1).2.2.1
    obtain ⟨-, -, -, kp2, n150, -⟩ := kc_7 e3.1
    have hstep : ∀ N F, FC_readMember N KC KS (rec N) (A + 2) (some x) (nI (d + 1)) M = some (true, M2) → qfix (FC_readMembers_43 N KC KS (rec N) (A + 2) (some x) (nI d)) (F + 1) (nI (k + 1), M) = if cx J2 n p2 = 125 then qb (FC_closeMembers N KC KS (A + 2) (some x) M2) fun v14 M15 => some (v14, M15) else if cx J2 n p2 = 44 then (if nI (k + 1) = 6 then some (false, mFt M2 A (7 + 16 * p2)) else FC_readMembers_104 N KC KS (rec N) (qfix (FC_readMembers_43 N KC KS (rec N) (A + 2) (some x) (nI d)) F) (A + 2) (some x) (nI d) (nI (k + 1)) M2) else FC_readMembers_104 N KC KS (rec N) (qfix (FC_readMembers_43 N KC KS (rec N) (A + 2) (some x) (nI d)) F) (A + 2) (some x) (nI d) (nI (k + 1)) M2 := by
      intro N F hN
      rw [qfix_s]
      simp only [FC_readMembers_43]
      rw [if_neg (by rw [show (6 : Int32) = nI 6 from rfl, nI_ltI (by omega) (by omega)]; omega), qk_d s0, nI_add1, hN, qb_some, if_neg (by decide), qk_d s2, (kc_look e3.1 N).1, qb_some, qk_d s2, qk_d s2, (kc_look e3.1 N).1, qb_some, qk_d s2, (kc_7 e3.1).1, show (7 : Int32) = nI 7 from rfl, eC_refuse, qb_some]
    have ht160 : t < 160 := by
      have := e3.2.2.2.2.2.1.1
      have := e3.1.2.2.2.2.2.2.2.2.2.2.2
      omega
    have h103 := e103 e3.1 ht160 hkd e3.2.2.2.2.2.1.2.2.2.1 e3.2.2.2.2.2.1.2.2.2.2.1 (by omega)
    by_cases c125 : cx J2 n p2 = 125
    · have n44 : ¬ cx J2 n p2 = 44 := by rw [c125]; decide
      have h103' : ∀ N, FM_end_103 N (nI t) J2 = FM_end_193 N (nI t) J2 := fun N => by rw [h103, if_neg n44, if_pos c125]
      rcases kc_close hP0 e3 hkd (by omega) (by omega) (show p0 ≤ p2 by omega) c125 with ⟨M', J', z1, z2, z3⟩ | ⟨M', J', z1, z2, z3⟩
      · left
        refine ⟨M', J', ev_mono (ev_and e1 z1) (fun N hN F hF => ?_), e2 _ (ev_mono z2 (fun N hN => by rw [h103']; exact hN)), z3⟩
        obtain ⟨F, rfl⟩ : ∃ g, F = g + 1 := ⟨F - 1, by omega⟩
        rw [hstep N F hN.1, if_pos c125, hN.2, qb_some]
      · right
        refine ⟨M', J', ev_mono (ev_and e1 z1) (fun N hN F hF => ?_), e2 _ (ev_mono z2 (fun N hN => by rw [h103']; exact hN)), kcBad_l e5 e6 z3⟩
        obtain ⟨F, rfl⟩ : ∃ g, F = g + 1 := ⟨F - 1, by omega⟩
        rw [hstep N F hN.1, if_pos c125, hN.2, qb_some]
    · by_cases c44 : cx J2 n p2 = 44
      · by_cases ck : k + 1 = 6
        · right
          refine ⟨mFt M2 A (7 + 16 * p2), jF J2 (7 + 16 * p2), ev_mono e1 (fun N hN F hF => ?_), e2 _ (ev_of (fun N => by rw [h103, if_pos c44, if_pos ck])), kcBad_l e5 e6 (kc_bad0 e3.1 (by omega) (by omega))⟩
          obtain ⟨F, rfl⟩ : ∃ g, F = g + 1 := ⟨F - 1, by omega⟩
          rw [hstep N F hN, if_neg c125, if_pos c44, if_pos (by rw [ck]; rfl)]
        · have hpn : p2 < n := cx_lt c44 (by decide)
          have hgo : goW (-1, J) (-1, jP J2 (p2 + 1)) := e2 _ (ev_of (fun N => by rw [h103, if_pos c44, if_neg ck, e193_c e3.1 c44]))
          have hst : ∀ N F, FC_readMember N KC KS (rec N) (A + 2) (some x) (nI (d + 1)) M = some (true, M2) → qfix (FC_readMembers_43 N KC KS (rec N) (A + 2) (some x) (nI d)) (F + 1) (nI (k + 1), M) = qfix (FC_readMembers_43 N KC KS (rec N) (A + 2) (some x) (nI d)) F (nI (k + 1 + 1), mP M2 A (p2 + 1)) := by
            intro N F hN
            rw [hstep N F hN, if_neg c125, if_pos c44, if_neg (by rw [show (6 : Int32) = nI 6 from rfl, nI_eq (by omega) (by omega)]; exact ck)]
            unfold FC_readMembers_104
            rw [qk_d s2, show (44 : Int32) = nI 44 from rfl, ((kc_pass e3.1 44 (by omega) N).1 c44).1, qb_some, if_neg (by decide), nI_add1]
          rcases ih (k + 1) (mP M2 A (p2 + 1)) (jP J2 (p2 + 1)) (p2 + 1) a2 b2 c2 S2 R2 h2 bs2 xs2 us2 hs2 (by omega) (by omega) (kI_P e3 (by omega) (by omega) (by omega)) (by omega) with ⟨M', J', z1, z2, z3⟩ | ⟨M', J', z1, z2, z3⟩
          · left
            refine ⟨M', J', ev_mono (ev_and e1 z1) (fun N hN F hF => ?_), goW_trans hgo z2, z3⟩
            obtain ⟨F, rfl⟩ : ∃ g, F = g + 1 := ⟨F - 1, by omega⟩
            rw [hst N F hN.1]
            exact hN.2 F (by omega)
          · right
            refine ⟨M', J', ev_mono (ev_and e1 z1) (fun N hN F hF => ?_), goW_trans hgo z2, kcBad_l (wMf_trans e5 (wMf_P A _ _)) (kJ_trans e6 (kJ_P _ _)) z3⟩
            obtain ⟨F, rfl⟩ : ∃ g, F = g + 1 := ⟨F - 1, by omega⟩
            rw [hst N F hN.1]
            exact hN.2 F (by omega)
      · right
        refine ⟨mFt M2 A (1 + 16 * p2), jF J2 (1 + 16 * p2), ev_mono e1 (fun N hN F hF => ?_), e2 _ (ev_of (fun N => by rw [h103, if_neg c44, if_neg c125])), kcBad_l e5 e6 (kc_bad0 e3.1 (by omega) (by omega))⟩
        obtain ⟨F, rfl⟩ : ∃ g, F = g + 1 := ⟨F - 1, by omega⟩
        rw [hstep N F hN, if_neg c125, if_neg c44]
        unfold FC_readMembers_104
        rw [qk_d s2, show (44 : Int32) = nI 44 from rfl, ((kc_pass e3.1 44 (by omega) N).2 c44).1, qb_some, if_pos (by decide)]
theorem kc_seq {A KC KS q n p a b c d kd : Nat} {M : zM} {J : zJ} {S R : Nat → Bool} {rec : Nat → (Nat × Int32 × zM) → Option (Option Nat × zM)} (h : kcS A KC KS q M J n p a b c) (h5 : J 0 5 = nI d) (hN : kcN A M J S R a b c) (hd : d < 6) (hrec : kTy A KC KS q (fun N M => rec N (A + 2, nI (d + 1), M)) (d + 1)) (hkd : kd = 6 ∨ kd = 9) (hpn : p < n) (hnm : ¬ (65 ≤ (cx J n p).toInt ∧ (cx J n p).toInt ≤ 90)) (hC : ∀ N, FC_kindOf N (cx J n p) = some (nI kd)) (hM : ∀ N, FM_begin N J = FM_begin_110 N (nI kd) J) : kRes A KC KS q n d M J p a b c S R (fun N => FC_readUntagged N KC KS (rec N) (A + 2) (nI d) M) := by
  obtain ⟨x, M8, g1, g2, g3⟩ := kc_up (rec := rec) h h5 hd (by unfold isK; omega) hpn hnm hC hM
  obtain ⟨k1, k2, k3, k4, k5, k6⟩ := kc_7 h
  obtain ⟨m1, m2, m3, m4, ⟨n1, n2, n3, n4, n5⟩, m6, m7, m8, ⟨j4, j8, j10, j11, j9, j5⟩, m10, ma, mb, mc⟩ := g1
  have s8 := (kc_7 m1).2.2.1
  have hC2 : ∀ N, FC_readUntagged N KC KS (rec N) (A + 2) (nI d) M = qb (FC_readMembers N KC KS (rec N) (A + 2) (some x) (nI d) M8) fun v2 M3 => if (bI v2) = 0 then some (none, M3) else some (some x, M3) := by
    intro N
    have h96 : FC_readUntagged_96 N KC KS (rec N) (A + 2) (nI d) (some x) M8 = qb (FC_readMembers N KC KS (rec N) (A + 2) (some x) (nI d) M8) fun v2 M3 => if (bI v2) = 0 then some (none, M3) else some (some x, M3) := by
      unfold FC_readUntagged_96 FC_readUntagged_161
      rw [qk_d s8]
    rw [g2, h96]
    rcases hkd with rfl | rfl
    · rw [if_pos (by decide)]
    · rw [if_neg (by decide), if_pos (by decide)]
  have hM2 : ∀ N, FM_begin N J = FM_begin_172 N (nI kd) (nI c) (aJ (jP J (p + 1)) c kd) := by
    intro N
    rw [g3]
    rcases hkd with rfl | rfl
    · rw [if_pos (by decide)]
    · rw [if_neg (by decide), if_pos (by decide)]
  generalize aJ (jP J (p + 1)) c kd = J3 at *
  by_cases c123 : cx J3 n (p + 1) = nI 123
  case neg =>
    right
    refine ⟨mFt M8 A (1 + 16 * (p + 1)), jF J3 (1 + 16 * (p + 1)), ev_of (fun N => ?_), goW_b k6 (ev_of (fun N => ?_)), kcBad_l m7 m8.2.1 (kc_bad0 m1 (by omega) (by omega))⟩
    · dsimp only
      rw [hC2]
      unfold FC_readMembers
      rw [show (123 : Int32) = nI 123 from rfl, ((kc_pass m1 123 (by omega) N).2 c123).1, qb_some, if_pos (by decide), qb_some, if_pos (by decide)]
    · rw [hM2]
      unfold FM_begin_172
      rw [show (123 : Int32) = nI 123 from rfl, ((kc_pass m1 123 (by omega) N).2 c123).2, qb_some, if_pos (by decide)]
  have hpn2 : p + 1 < n := cx_lt c123 (nI_n1 (by omega))
  have h9 := kc_go (p' := p + 2) m1 (by omega) (by omega)
  have hF9 : kF A a b c d M J (mP M8 A (p + 2)) (jP J3 (p + 2)) := kF_trans m8 (kF_P (d := d) m1) (by omega) (Nat.le_refl _) (by omega) (Nat.le_refl _)
  have x2' : x ≠ A + 2 := m2 2 (by omega)
  have s9 : zsh (mP M8 A (p + 2)) (A + 2) = some (.inl 0) := s8
  have x9s : zsh (mP M8 A (p + 2)) x = some (.inl 6) := n1
  have kdn : kd < 100 := by omega
  have hSx : S x = false := by
    cases hs : S x with
    | false => rfl
    | true => exact absurd (hN.1 x hs) m3
  have hRc : R c = false := by
    cases hs : R c with
    | false => rfl
    | true => exact absurd (hN.2.1 c hs) (by omega)
  have hpass : ∀ N, FC_pass N KC KS (A + 2) (nI 123) M8 = some (true, mP M8 A (p + 2)) ∧ FM_need N (nI 123) J3 = some (true, jP J3 (p + 2)) := fun N => ⟨((kc_pass m1 123 (by omega) N).1 c123).1, ((kc_pass m1 123 (by omega) N).1 c123).2.1⟩
  by_cases cemp : kd = 6 ∧ cx (jP J3 (p + 2)) n (p + 2) = 125
  · -- no member at all
    obtain ⟨k6', c125⟩ := cemp
    have hpn3 : p + 2 < n := cx_lt c125 (by decide)
    have h10 := kc_go (p' := p + 3) h9 (by omega) (by omega)
    rw [mP_P, jP_P] at h10
    have hF10 : kF A a b c d M J (mP M8 A (p + 3)) (jP J3 (p + 3)) := kF_trans m8 (kF_P (d := d) m1) (by omega) (Nat.le_refl _) (by omega) (Nat.le_refl _)
    have xz : ∀ i, zi (mP M8 A (p + 3)) x i = zi M8 x i := fun i => mP_x x2'
    left
    refine ⟨mP M8 A (p + 3), jP J3 (p + 3), x, c, ev_of (fun N => ?_), goW_b k6 (ev_of (fun N => ?_)), kGood_leaf hN h10 hF10 m4 m3 (by omega) mb (node_dT (k := 0) (kd := kd) (bs := fun _ => 0) (xs := fun _ => 0) (us := fun _ => 0) (hs := fun _ => 0) n1 hkd (by omega) (by omega) (by omega) (by rw [xz]; exact n2) (by rw [xz]; exact n3 1 (by omega) (by omega) (by omega)) ?_ (by rw [xz]; exact n3 7 (by omega) (by omega) (by omega)) (by rw [xz]; exact n3 8 (by omega) (by omega) (by omega)) (by rw [jP_o (by omega)]; exact j4) (by rw [jP_o (by omega)]; exact j8) ?_ (by rw [jP_o (by omega)]; exact j10) (by rw [jP_o (by omega)]; exact j11) (ins_r _ _) (ins_r _ _) (fun j hj => absurd hj (by omega)) (n5 10 (by omega) (by omega)) (fun _ j hj => absurd hj (by omega)) (fun k9 => absurd k9 (by omega)) (fun k9 => absurd k9 (by omega))) hd (by rw [jP_o (by omega), j5]; exact h5)⟩
    · dsimp only
      rw [hC2]
      unfold FC_readMembers
      rw [show (123 : Int32) = nI 123 from rfl, (hpass N).1, qb_some, if_neg (by decide), qo_s rfl x9s, mP_x x2', n2, if_pos (by rw [k6']; rfl), qk_d s9, (kc_look h9 N).1, qb_some, if_pos c125, qk_d s9, (kc_7 h9).1, nI_add1]
      show qb (some (true, mP (mP M8 A (p + 2)) A (p + 3))) _ = _
      rw [mP_P, qb_some, if_neg (by decide)]
    · rw [hM2]
      unfold FM_begin_172
      rw [show (123 : Int32) = nI 123 from rfl, (hpass N).2, qb_some, if_neg (by decide), if_neg (by rw [show (9 : Int32) = nI 9 from rfl, nI_eq (by omega) (by omega)]; omega), (kc_look h9 N).2, qb_some, if_pos c125, (kc_7 h9).2.1, nI_add1]
      show some (nI c, jP (jP J3 (p + 2)) (p + 3)) = _
      rw [jP_P]
    · rw [xz, n4, jP_o (by omega), j9, k6']
      decide
    · rw [jP_o (by omega), j9, k6']
      exact ⟨by decide, by unfold mOk; decide⟩
  · have h95 : jP J3 (p + 2) 0 5 = nI d := by rw [jP_o (by omega), j5]; exact h5
    have hpush : goW (-1, J) (-1, pJu (jP J3 (p + 2)) d c) := goW_b k6 (ev_of (fun N => by
      rw [hM2]
      unfold FM_begin_172 FM_begin_198
      rw [show (123 : Int32) = nI 123 from rfl, (hpass N).2, qb_some, if_neg (by decide), eM_push h95 (by omega), qb_some, (kc_look h9 N).2, qb_some]
      by_cases k9 : kd = 9
      · rw [if_pos (by rw [k9]; rfl)]
      · rw [if_neg (by rw [show (9 : Int32) = nI 9 from rfl, nI_eq (by omega) (by omega)]; exact k9), if_neg (fun z => cemp ⟨by omega, z⟩), eM_push h95 (by omega), qb_some]))
    have hFu : kF A a b c d M J (mP M8 A (p + 2)) (pJu (jP J3 (p + 2)) d c) := kF_trans hF9 (kF_u h9) (by omega) (Nat.le_refl _) (by omega) (Nat.le_refl _)
    have pj : ∀ cc j, ¬ (cc = 2 ∧ j = d) → ¬ (cc = 0 ∧ (j = 3 ∨ j = 5)) → pJu (jP J3 (p + 2)) d c cc j = J3 cc j := fun cc j h1 h2 => by rw [pJu_o h1 (by omega), jP_o (by omega)]
    have xz : ∀ i, zi (mP M8 A (p + 2)) x i = zi M8 x i := fun i => mP_x x2'
    have hI : kI A KC KS q n d kd M J a b c S R (mP M8 A (p + 2)) (pJu (jP J3 (p + 2)) d c) (p + 2) (a + 1) b (c + 1) S R x c 0 0 (fun _ => 0) (fun _ => 0) (fun _ => 0) (fun _ => 0) := by
      refine ⟨kcS_u h9, ⟨pJu_v.2, pJu_v.1⟩, ⟨hFu, ⟨by omega, Nat.le_refl _, by omega⟩, fun _ h => h, fun _ h => h, fun y hy => Or.inl hy, fun u hu => Or.inl hu⟩, kcN_same hFu hN (by omega) (Nat.le_refl _) (by omega), ⟨m2, m4, m3, hSx, n1, by rw [xz]; exact n2, by rw [xz]; exact n3 1 (by omega) (by omega) (by omega), by rw [xz]; exact n4, by rw [xz]; exact n3 7 (by omega) (by omega) (by omega), by rw [xz]; exact n3 8 (by omega) (by omega) (by omega)⟩, ⟨by omega, Nat.le_refl _, hRc, by rw [pj 4 c (by omega) (by omega)]; exact j4, by rw [pj 8 c (by omega) (by omega)]; exact j8, by rw [pj 9 c (by omega) (by omega)]; exact j9, by rw [pj 10 c (by omega) (by omega)]; exact j10, by rw [pj 11 c (by omega) (by omega)]; exact j11⟩, ⟨fun j hj => absurd hj (by omega), fun i j hi => absurd hi (by omega), n5 10 (by omega) (by omega), n5 11 (by omega) (by omega)⟩, fun _ j hj => absurd hj (by omega), fun j hj => absurd hj (by omega), by omega⟩
    have hCm : ∀ N, FC_readMembers N KC KS (rec N) (A + 2) (some x) (nI d) M8 = qfix (FC_readMembers_43 N KC KS (rec N) (A + 2) (some x) (nI d)) N (nI (0 + 1), mP M8 A (p + 2)) := by
      intro N
      unfold FC_readMembers
      rw [show (123 : Int32) = nI 123 from rfl, (hpass N).1, qb_some, if_neg (by decide), qo_s rfl x9s, mP_x x2', n2]
      by_cases k6' : kd = 6
      · rw [if_pos (by rw [k6']; rfl), qk_d s9, (kc_look h9 N).1, qb_some, if_neg (fun z => cemp ⟨k6', z⟩)]
        rfl
      · rw [if_neg (by rw [show (6 : Int32) = nI 6 from rfl, nI_eq (by omega) (by omega)]; exact k6')]
        rfl
    rcases kc_loop (p0 := p) h.2.1 hkd hrec 6 0 _ _ _ _ _ _ _ _ _ _ _ _ _ (by omega) (by omega) hI (by omega) with ⟨M', J', z1, z2, z3⟩ | ⟨M', J', z1, z2, z3⟩
    · left
      refine ⟨M', J', x, c, ev_mono (ev_and z1 (⟨7, fun N hN => hN⟩ : Ev (fun N => 7 ≤ N))) (fun N hN => ?_), goW_trans hpush z2, z3⟩
      dsimp only
      rw [hC2, hCm, hN.1 N hN.2, qb_some, if_neg (by decide)]
    · right
      refine ⟨M', J', ev_mono (ev_and z1 (⟨7, fun N hN => hN⟩ : Ev (fun N => 7 ≤ N))) (fun N hN => ?_), goW_trans hpush z2, kcBad_l hFu.1 hFu.2.1 z3⟩
      dsimp only
      rw [hC2, hCm, hN.1 N hN.2, qb_some, if_pos (by decide)]
theorem kc_untagged {A KC KS q d : Nat} {rec : Nat → (Nat × Int32 × zM) → Option (Option Nat × zM)} (hrec : d < 6 → kTy A KC KS q (fun N M => rec N (A + 2, nI (d + 1), M)) (d + 1)) (hd : d < 1000) {M : zM} {J : zJ} {n p a b c : Nat} {S R : Nat → Bool} (h : kcS A KC KS q M J n p a b c) (h5 : J 0 5 = nI d) (hN : kcN A M J S R a b c) (h91 : cx J n p ≠ 91) : kRes A KC KS q n d M J p a b c S R (fun N => FC_readUntagged N KC KS (rec N) (A + 2) (nI d) M) := by
  obtain ⟨k1, k2, k3, k4, k5, k6⟩ := kc_7 h
  have hname : ∀ N, FC_isName N (cx J n p) = some (decide (65 ≤ (cx J n p).toInt ∧ (cx J n p).toInt ≤ 90)) := by
    intro N
    unfold FC_isName
    simp only [Int32.lt_iff_toInt_lt, i_lit 65 (by omega), i_lit 90 (by omega)]
    by_cases c1 : (cx J n p).toInt < ((65 : Nat) : Int)
    · rw [if_pos c1, decide_eq_false (by omega)]
    · rw [if_neg c1]
      by_cases c2 : ((90 : Nat) : Int) < (cx J n p).toInt
      · rw [if_pos c2, decide_eq_false (by omega)]
      · rw [if_neg c2, decide_eq_true (by omega)]
  by_cases cn : 65 ≤ (cx J n p).toInt ∧ (cx J n p).toInt ≤ 90
  · obtain ⟨ch, c1, c2, c3⟩ := nI_ex (x := cx J n p) (by omega)
    have := kc_named h h5 hd hN (ch := ch) (by omega) c2
    have he : (fun N => FC_readUntagged N KC KS (rec N) (A + 2) (nI d) M) = (fun N => FC_readReference N KC KS (A + 2) (nI ch) (nI d) M) := by
      funext N
      unfold FC_readUntagged
      rw [(kc_look h N).1, qb_some, hname, qc_some, decide_eq_true cn, if_neg (by decide), qk_d k3, ← c2]
      cases FC_readReference N KC KS (A + 2) (cx J n p) (nI d) M with
      | none => rfl
      | some r => rfl
    rw [he]
    exact this
  · rcases kind_cases (cx J n p) h91 cn with ⟨k, q1, q2, q3, q4⟩ | q4
    · have hpn : p < n := by
        by_cases hh : p < n
        · exact hh
        · exfalso
          apply q3
          unfold cx
          rw [if_neg hh]
      have hC : ∀ N, FC_kindOf N (cx J n p) = some (nI k) := fun N => (q4 N).1
      have hM : ∀ N, FM_begin N J = FM_begin_110 N (nI k) J := fun N => (q4 N).2 J (kc_look h N).2
      by_cases hd6 : d < 6
      · unfold isK at q1
        rcases q1 with e | e | e | e | e | e | e | e
        · exact kc_plain h h5 hN hd6 (Or.inl e) hpn cn hC hM
        · exact kc_plain h h5 hN hd6 (Or.inr (Or.inr (Or.inl e))) hpn cn hC hM
        · exact kc_plain h h5 hN hd6 (Or.inr (Or.inr (Or.inr e))) hpn cn hC hM
        · exact kc_plain h h5 hN hd6 (Or.inr (Or.inl e)) hpn cn hC hM
        · subst e
          exact kc_seq h h5 hN hd6 (hrec hd6) (Or.inl rfl) hpn cn hC hM
        · subst e
          exact kc_list h h5 hN hd6 (hrec hd6) hpn cn hC hM
        · subst e
          exact kc_seq h h5 hN hd6 (hrec hd6) (Or.inr rfl) hpn cn hC hM
        · exact absurd e q2
      · have d6 : ¬ nI d < 6 := by rw [show (6 : Int32) = nI 6 from rfl, nI_ltI (by omega) (by omega)]; exact hd6
        right
        refine ⟨mFt M A (5 + 16 * p), jF J (5 + 16 * p), ev_of (fun N => ?_), goW_b k6 (ev_of (fun N => ?_)), kc_bad0 h (by omega) (by omega)⟩
        · dsimp only
          unfold FC_readUntagged
          rw [(kc_look h N).1, qb_some, hname, qc_some, decide_eq_false cn, if_pos (by decide), hC, qc_some, if_neg (nI_n1 (by unfold isK at q1; omega)), if_neg d6, qk_d k3, k1, show (5 : Int32) = nI 5 from rfl, eC_refuse, qb_some]
        · rw [hM]
          unfold FM_begin_110
          rw [if_neg (by rw [show (0 : Int32) = nI 0 from rfl, nI_eq (by unfold isK at q1; omega) (by omega)]; unfold isK at q1; omega), h5, if_neg d6, k2, show (5 : Int32) = nI 5 from rfl, eM_stop k6, qb_some]
    · right
      refine ⟨mFt M A (1 + 16 * p), jF J (1 + 16 * p), ev_of (fun N => ?_), goW_b k6 (ev_of (fun N => ?_)), kc_bad0 h (by omega) (by omega)⟩
      · dsimp only
        unfold FC_readUntagged
        rw [(kc_look h N).1, qb_some, hname, qc_some, decide_eq_false cn, if_pos (by decide), (q4 N).1, qc_some, if_pos rfl, qk_d k3, k1, show (1 : Int32) = nI 1 from rfl, eC_refuse, qb_some]
      · rw [(q4 N).2 J (kc_look h N).2]
        unfold FM_begin_110
        rw [if_pos rfl, k2, show (1 : Int32) = nI 1 from rfl, eM_stop k6, qb_some]
        rfl
