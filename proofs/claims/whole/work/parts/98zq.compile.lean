/-! COMPILING: the whole text; the turn -/
def kOutc (A KC KS q : Nat) (M : zM) (J : zJ) (M' : zM) (J' : zJ) (f : Nat) : Prop := wMf A M M' ∧ kcP A KC KS q M' 0 0 ∧ (∀ cc j, ¬ (2 ≤ cc ∧ cc ≤ 17) → ¬ (cc = 0 ∧ (j = 1 ∨ j = 3 ∨ j = 4 ∨ j = 5 ∨ j = 6 ∨ j = 10 ∨ j = 23 ∨ j = 24)) → J' cc j = J cc j) ∧ f < 4096 ∧ ((f = 0 ∧ J' 0 1 = 1 ∧ iName M' A J') ∨ (1 ≤ f ∧ J' 0 1 = 0))
theorem kOutc_l {A KC KS q f : Nat} {M M1 M2 : zM} {J J1 J2 : zJ} (h1 : wMf A M M1) (h2 : kJ J J1) (h : kOutc A KC KS q M1 J1 M2 J2 f) : kOutc A KC KS q M J M2 J2 f := by
  obtain ⟨e1, e2, e3, e4⟩ := h
  exact ⟨wMf_trans h1 e1, e2, fun cc j a b => by rw [e3 cc j a b]; exact h2 cc j a (by omega), e4⟩
theorem kOutc_good {A KC KS q n p a b c : Nat} {M : zM} {J : zJ} {S R : Nat → Bool} (h : kcS A KC KS q M J n p a b c) (hN : kcN A M J S R a b c) : kOutc A KC KS q M J M (zu J 0 1 1) 0 := by
  refine ⟨wMf_refl A M, kcP_0 h.2.1, fun cc j h1 h2 => by rw [zu_at, if_neg (by omega)], by omega, Or.inl ⟨rfl, zu_self _ _ _ _, fun i hi => ?_⟩⟩
  have hJ : ∀ c k, 4 ≤ c → c ≤ 15 → zu J 0 1 1 c k = J c k := fun c k h1 h2 => by rw [zu_at, if_neg (by omega)]
  rw [zu_ne _ _ _ (by omega)]
  rcases hN.2.2 i hi with w | ⟨x, t, ht, w1, w2, w3, w4⟩
  · exact Or.inl w
  · obtain ⟨d1, d2⟩ := dT_out w3 (by omega)
    exact Or.inr ⟨x, t, w1, w2, wfT_c hJ 6 t d1, rep_mono (zag_rf M) hJ 6 x t d2⟩
theorem kOutc_bad {A KC KS q : Nat} {M M' : zM} {J J' : zJ} (h : kcBad A KC KS q M J M' J') : ∃ f, 1 ≤ f ∧ f < 4096 ∧ zi M' (A + 2) 8 = nI f ∧ J' 0 4 = nI f ∧ kOutc A KC KS q M J M' (zu J' 0 1 0) f := by
  obtain ⟨e1, e2, e3, f, f1, f2, f3, f4⟩ := h
  exact ⟨f, f1, f2, f3, f4, e1, e3, fun cc j a b => by rw [zu_at, if_neg (by omega)]; exact e2 cc j a (by omega), f2, Or.inr ⟨f1, zu_self _ _ _ _⟩⟩
theorem m67_0 {J : zJ} (h : J 0 4 = 0) (N : Nat) : FM_compile_67 N J = some (nI 0, zu J 0 1 1) := by
  unfold FM_compile_67
  rw [if_pos h]
  simp only
  rw [zu_at, if_neg (by omega), h]
  rfl
theorem m67_f {J : zJ} {f : Nat} (h : J 0 4 = nI f) (f1 : 1 ≤ f) (f2 : f < 4096) (N : Nat) : FM_compile_67 N J = some (nI f, zu J 0 1 0) ∧ J 0 4 ≠ 0 := by
  have hn : J 0 4 ≠ 0 := by
    rw [h, show (0 : Int32) = nI 0 from rfl]
    intro e
    rw [nI_eq (by omega) (by omega)] at e
    omega
  unfold FM_compile_67
  rw [if_neg hn]
  simp only
  rw [zu_at, if_neg (by omega), h]
  exact ⟨rfl, by rw [← h]; exact hn⟩
/-- what the reference does behind a definition -/
def cnM (N F : Nat) (J : zJ) : Option (Int32 × zJ) := if J 0 4 = 0 then (if J 0 3 < J 0 2 then qfix (FM_compile_45 N) F J else FM_compile_67 N J) else FM_compile_67 N J
theorem cnM_s (N F : Nat) {J J2 : zJ} (h : FM_definition N J = some ((), J2)) : qfix (FM_compile_45 N) (F + 1) J = cnM N F J2 := by
  rw [qfix_s]
  simp only [FM_compile_45]
  rw [h, qb_some]
  rfl
theorem kc_prog {A KC KS q n : Nat} : ∀ m k (M : zM) (J : zJ) p a b c S R, n - p ≤ m → kcS A KC KS q M J n p a b c → kcN A M J S R a b c → k < p → ∃ M' J' f, Ev (fun N => ∀ F, m + 1 ≤ F → qfix (FC_translate_60 N KC KS (A + 2)) F (nI k, M) = some (nI f, M')) ∧ Ev (fun N => ∀ F, m + 1 ≤ F → cnM N F J = some (nI f, J')) ∧ kOutc A KC KS q M J M' J' f := by
  intro m
  induction m with
  | zero =>
    intro k M J p a b c S R hm h hN hk
    obtain ⟨k1, k2, k3, k4, k5, k6⟩ := kc_7 h
    refine ⟨M, zu J 0 1 1, 0, ev_of (fun N F hF => ?_), ev_of (fun N F hF => ?_), kOutc_good h hN⟩
    · obtain ⟨F, rfl⟩ : ∃ g, F = g + 1 := ⟨F - 1, by omega⟩
      rw [qfix_s]
      simp only [FC_translate_60]
      rw [if_neg (by rw [show (150 : Int32) = nI 150 from rfl, nI_leI (by omega) (by omega)]; omega), qk_d k3, if_pos h.2.2.2.2.2.1.1, h.2.2.2.1.1, k1, if_pos (by rw [nI_leI (by omega) (by omega)]; omega), h.2.2.2.2.2.1.1]
      rfl
    · unfold cnM
      rw [if_pos k6, k2, h.2.2.2.1.2.1, if_neg (by rw [nI_ltI (by omega) (by omega)]; omega), m67_0 k6]
  | succ m ih =>
    intro k M J p a b c S R hm h hN hk
    obtain ⟨k1, k2, k3, k4, k5, k6⟩ := kc_7 h
    have h150 : ¬ (150 : Int32) ≤ nI k := by rw [show (150 : Int32) = nI 150 from rfl, nI_leI (by omega) (by omega)]; omega
    by_cases hpn : p < n
    · have hC : ∀ N F M2, FC_readDefinition N KC KS (A + 2) M = some ((), M2) → qfix (FC_translate_60 N KC KS (A + 2)) (F + 1) (nI k, M) = qfix (FC_translate_60 N KC KS (A + 2)) F (nI (k + 1), M2) := by
        intro N F M2 hN
        rw [qfix_s]
        simp only [FC_translate_60]
        rw [if_neg h150, qk_d k3, if_pos h.2.2.2.2.2.1.1, h.2.2.2.1.1, k1, if_neg (by rw [nI_leI (by omega) (by omega)]; omega), hN, qb_some, nI_add1]
      have hM : ∀ N F J2, FM_definition N J = some ((), J2) → cnM N (F + 1) J = cnM N F J2 := by
        intro N F J2 hN
        rw [← cnM_s N F hN]
        unfold cnM
        rw [if_pos k6, k2, h.2.2.2.1.2.1, if_pos (by rw [nI_ltI (by omega) (by omega)]; exact hpn)]
      rcases kc_def h hN with ⟨M2, J2, p', a', b', c', S', R', e1, e2, e3, e4, e5, e6, e7⟩ | ⟨M2, J2, e1, e2, e3⟩
      · obtain ⟨M', J', f, z1, z2, z3⟩ := ih (k + 1) M2 J2 p' a' b' c' S' R' (by omega) e4 e5 (by omega)
        refine ⟨M', J', f, ev_mono (ev_and e2 z1) (fun N hN F hF => ?_), ev_mono (ev_and e3 z2) (fun N hN F hF => ?_), kOutc_l e6 e7 z3⟩
        · obtain ⟨F, rfl⟩ : ∃ g, F = g + 1 := ⟨F - 1, by omega⟩
          rw [hC N F M2 hN.1]
          exact hN.2 F (by omega)
        · obtain ⟨F, rfl⟩ : ∃ g, F = g + 1 := ⟨F - 1, by omega⟩
          rw [hM N F J2 hN.1]
          exact hN.2 F (by omega)
      · obtain ⟨f, f1, f2, f3, f4, f5⟩ := kOutc_bad e3
        refine ⟨M2, zu J2 0 1 0, f, ev_mono e1 (fun N hN F hF => ?_), ev_mono e2 (fun N hN F hF => ?_), f5⟩
        · obtain ⟨F, rfl⟩ : ∃ g, F = g + 2 := ⟨F - 2, by omega⟩
          have s2 : zsh M2 (A + 2) = some (.inl 0) := e3.1.1 _ _ k3
          rw [hC N (F + 1) M2 hN, qfix_s]
          simp only [FC_translate_60]
          rw [qk_d s2, f3]
          have hn : ¬ nI f = 0 := by
            rw [show (0 : Int32) = nI 0 from rfl, nI_eq (by omega) (by omega)]
            omega
          rw [if_neg hn, qk_d s2, ite_self]
        · obtain ⟨F, rfl⟩ : ∃ g, F = g + 1 := ⟨F - 1, by omega⟩
          obtain ⟨q1, q2⟩ := m67_f f4 f1 f2 N
          rw [hM N F J2 hN]
          unfold cnM
          rw [if_neg q2, q1]
    · refine ⟨M, zu J 0 1 1, 0, ev_of (fun N F hF => ?_), ev_of (fun N F hF => ?_), kOutc_good h hN⟩
      · obtain ⟨F, rfl⟩ : ∃ g, F = g + 1 := ⟨F - 1, by omega⟩
        rw [qfix_s]
        simp only [FC_translate_60]
        rw [if_neg h150, qk_d k3, if_pos h.2.2.2.2.2.1.1, h.2.2.2.1.1, k1, if_pos (by rw [nI_leI (by omega) (by omega)]; omega), h.2.2.2.2.2.1.1]
        rfl
      · unfold cnM
        rw [if_pos k6, k2, h.2.2.2.1.2.1, if_neg (by rw [nI_ltI (by omega) (by omega)]; omega), m67_0 k6]
theorem kc_first {A KC KS q n : Nat} {M : zM} {J : zJ} {S R : Nat → Bool} (h : kcS A KC KS q M J n 0 0 0 0) (hN : kcN A M J S R 0 0 0) : ∃ M' J' f, Ev (fun N => (qb (FC_readDefinition N KC KS (A + 2) M) fun v2 M3 => qfix (FC_translate_60 N KC KS (A + 2)) N (0, M3)) = some (nI f, M')) ∧ Ev (fun N => qfix (FM_compile_45 N) N J = some (nI f, J')) ∧ kOutc A KC KS q M J M' J' f := by
  obtain ⟨k1, k2, k3, k4, k5, k6⟩ := kc_7 h
  rcases kc_def h hN with ⟨M2, J2, p', a', b', c', S', R', e1, e2, e3, e4, e5, e6, e7⟩ | ⟨M2, J2, e1, e2, e3⟩
  · obtain ⟨M', J', f, z1, z2, z3⟩ := kc_prog n 0 M2 J2 p' a' b' c' S' R' (by omega) e4 e5 e1
    refine ⟨M', J', f, ev_mono (ev_and (ev_and e2 z1) (⟨n + 2, fun N hN => hN⟩ : Ev (fun N => n + 2 ≤ N))) (fun N hN => ?_), ev_mono (ev_and (ev_and e3 z2) (⟨n + 2, fun N hN => hN⟩ : Ev (fun N => n + 2 ≤ N))) (fun N hN => ?_), kOutc_l e6 e7 z3⟩
    · rw [hN.1.1, qb_some]
      exact hN.1.2 N (by omega)
    · obtain ⟨F, hF⟩ : ∃ g, N = g + 1 := ⟨N - 1, by omega⟩
      have := cnM_s N F hN.1.1
      rw [← hF] at this
      rw [this]
      exact hN.1.2 F (by omega)
  · obtain ⟨f, f1, f2, f3, f4, f5⟩ := kOutc_bad e3
    refine ⟨M2, zu J2 0 1 0, f, ev_mono (ev_and e1 (⟨2, fun N hN => hN⟩ : Ev (fun N => 2 ≤ N))) (fun N hN => ?_), ev_mono (ev_and e2 (⟨2, fun N hN => hN⟩ : Ev (fun N => 2 ≤ N))) (fun N hN => ?_), f5⟩
    · have s2 : zsh M2 (A + 2) = some (.inl 0) := e3.1.1 _ _ k3
      rw [hN.1, qb_some]
      obtain ⟨F, hF⟩ : ∃ g, N = g + 1 := ⟨N - 1, by have := hN.2; omega⟩
      have hn : ¬ nI f = 0 := by
        rw [show (0 : Int32) = nI 0 from rfl, nI_eq (by omega) (by omega)]
        omega
      have : ∀ F, qfix (FC_translate_60 N KC KS (A + 2)) (F + 1) (0, M2) = some (nI f, M2) := by
        intro F
        rw [qfix_s]
        simp only [FC_translate_60]
        rw [qk_d s2, f3, if_neg hn, qk_d s2, ite_self]
      have h2 := this F
      rw [← hF] at h2
      exact h2
    · obtain ⟨F, hF⟩ : ∃ g, N = g + 1 := ⟨N - 1, by have := hN.2; omega⟩
      obtain ⟨q1, q2⟩ := m67_f f4 f1 f2 N
      have := cnM_s N F hN.1
      rw [← hF] at this
      rw [this]
      unfold cnM
      rw [if_neg q2, q1]
/-- the memory as the class begins to translate -/
def trM (M : zM) (A n : Nat) : zM := zpi (zpi (zpi (zpi (zpi M (A + 2) 6 (nI n)) (A + 2) 7 0) (A + 2) 8 0) (A + 2) 4 0) (A + 2) 5 0
def trJ (J : zJ) : zJ := zu (zu (zu (jLeave (zu J 0 0 0)) 0 10 0) 0 3 0) 0 4 0
theorem trM_i {M : zM} {A n z : Nat} (hz : z ≠ A + 2) : zi (trM M A n) z = zi M z := by
  funext j
  unfold trM
  rw [zi_pi, if_neg (fun q => hz q.1), zi_pi, if_neg (fun q => hz q.1), zi_pi, if_neg (fun q => hz q.1), zi_pi, if_neg (fun q => hz q.1), zi_pi, if_neg (fun q => hz q.1)]
theorem trM_c (M : zM) (A n : Nat) : zi (trM M A n) (A + 2) 6 = nI n ∧ zi (trM M A n) (A + 2) 7 = nI 0 ∧ zi (trM M A n) (A + 2) 8 = 0 ∧ zi (trM M A n) (A + 2) 4 = nI 0 ∧ zi (trM M A n) (A + 2) 5 = nI 0 := by
  unfold trM
  refine ⟨?_, ?_, ?_, ?_, ?_⟩
  · rw [zi_pi, if_neg (by omega), zi_pi, if_neg (by omega), zi_pi, if_neg (by omega), zi_pi, if_neg (by omega), zi_pi, if_pos ⟨rfl, rfl⟩]
  · rw [zi_pi, if_neg (by omega), zi_pi, if_neg (by omega), zi_pi, if_neg (by omega), zi_pi, if_pos ⟨rfl, rfl⟩]; rfl
  · rw [zi_pi, if_neg (by omega), zi_pi, if_neg (by omega), zi_pi, if_pos ⟨rfl, rfl⟩]
  · rw [zi_pi, if_neg (by omega), zi_pi, if_pos ⟨rfl, rfl⟩]; rfl
  · rw [zi_pi, if_pos ⟨rfl, rfl⟩]; rfl
theorem trJ_o {J : zJ} {c k : Nat} (h1 : ¬ (c = 0 ∧ (k = 0 ∨ k = 1 ∨ k = 3 ∨ k = 4 ∨ k = 10 ∨ k = 44))) (h2 : c ≠ 36) (h3 : c ≠ 39) : trJ J c k = J c k := by
  unfold trJ
  rw [zu_at, if_neg (by omega), zu_at, if_neg (by omega), zu_at, if_neg (by omega), jLeave_o _ (by omega) h2 h3, jcode (by omega)]
theorem eC_translate {M : zM} {A KC KS n : Nat} {r : Option (Int32 × zM)} (hL : zLy M A dShL dRf) (hn : n ≤ 150) (h : Ev (fun N => (qb (FC_readDefinition N KC KS (A + 2) (zfr (trM M A n) (A + 3) 26 none)) fun v2 M3 => qfix (FC_translate_60 N KC KS (A + 2)) N (0, M3)) = r)) : Ev (fun N => FC_translate N KC KS (A + 2) (nI n) M = r) := by
  have r0 : zr M (A + 2) 0 = some (A + 1) := zLr hL 38 rfl
  have s1 : zsh M (A + 1) = some (.inr (1, 150)) := zLs hL 1 rfl
  have r1 : zr M (A + 2) 1 = some (A + 3) := zLr hL 37 rfl
  have s3 : zsh M (A + 3) = some (.inr (4, 26)) := zLs hL 3 rfl
  have s2 : zsh M (A + 2) = some (.inl 0) := zLs hL 2 rfl
  have hmin : (if (nI 150) < nI n then (nI 150) else nI n) = nI n := if_neg (by rw [nI_ltI (by omega) (by omega)]; omega)
  have := ev_loop (B := fun N => FC_translate_35 N KC KS (A + 2)) (r := r) (fun k => (nI k, zfr (trM M A n) (A + 3) k none)) 26 (ev_of (fun N k hk K => ?_)) (ev_mono h (fun N hN K => ?_))
  · refine ev_mono this (fun N hN => ?_)
    simp only [zfr_0] at hN
    unfold FC_translate
    rw [ql_s r0 s1, hmin]
    exact hN
  · simp only [FC_translate_35]
    rw [if_neg (by rw [show (26 : Int32) = nI 26 from rfl, nI_leI (by omega) (by omega)]; omega), qk_d (show zsh (zfr (trM M A n) (A + 3) k none) (A + 2) = _ from s2), qa_s (M := zfr (trM M A n) (A + 3) k none) (b := A + 3) (n := 26) (by rw [zr_fr, if_neg (by omega)]; exact r1) s3 (qi_nI hk (by omega)), nI_clamp (by omega), zfr_s, nI_add1]
  · simp only [FC_translate_35]
    rw [if_pos (by decide), qk_d (show zsh (zfr (trM M A n) (A + 3) 26 none) (A + 2) = _ from s2)]
    exact hN
theorem eM_compile {J : zJ} {r : Option (Int32 × zJ)} (h : Ev (fun N => qfix (FM_compile_45 N) N (zfJ (trJ J) 3 26 (-1)) = r)) : Ev (fun N => FM_compile N J = r) := by
  have := ev_loop (B := FM_compile_26) (r := r) (fun k => (nI k, zfJ (trJ J) 3 k (-1))) 26 (ev_of (fun N k hk K => ?_)) (ev_mono h (fun N hN K => ?_))
  · refine ev_mono (ev_and (eM_leave (zu J 0 0 0)) this) (fun N hN => ?_)
    have h2 := hN.2
    simp only [zfJ_0] at h2
    unfold FM_compile
    simp only
    rw [hN.1, qb_some]
    exact h2
  · simp only [FM_compile_26]
    rw [if_neg (by rw [show (26 : Int32) = nI 26 from rfl, nI_leI (by omega) (by omega)]; omega), qk_t (qi_nI hk (by omega)), nI_clamp (by omega), zfJ_s, nI_add1]
  · simp only [FM_compile_26]
    rw [if_pos (by decide)]
    exact hN
theorem trM_sh (M : zM) (A n : Nat) : zsh (trM M A n) = zsh M := by unfold trM; simp only [zsh_pi]
theorem trM_r (M : zM) (A n : Nat) : zr (trM M A n) = zr M := by unfold trM; simp only [zr_pi]
theorem trM_l (M : zM) (A n : Nat) : zl (trM M A n) = zl M := by unfold trM; simp only [zl_pi]
theorem trM_sz (M : zM) (A n : Nat) : zsz (trM M A n) = zsz M := by unfold trM; simp only [zsz_pi]
theorem trM_sl (M : zM) (A n : Nat) : zsl (trM M A n) = zsl M := by unfold trM; simp only [zsl_pi]
theorem zsz_fr (M : zM) (a n : Nat) (v : Option Nat) : zsz (zfr M a n v) = zsz M := rfl
theorem zsl_fr (M : zM) (a n : Nat) (v : Option Nat) : zsl (zfr M a n v) = zsl M := rfl
theorem t_compile {KC KS A sn q i : Nat} {sx : Nat → Int32} {M : zM} (h : INV M A KC KS (q + 1)) (hi : i + 5 ≤ sn) (hn : sn ≤ 2560) (hc : sx i &&& 15 = 2) : lTurn KC KS A sn sx q i M := by
  obtain ⟨n, n1, n2, n3, n4⟩ := h.2.2.1
  obtain ⟨pa, pb, p1, p2, p3, p4, p5⟩ := h.2.1
  have hL := h.1.1
  have e0 : zsh M A = some (.inl 8) := zLs0 hL 0 rfl
  have fr28 : ∀ z, z ≠ A + 28 → zr (fgM M A) z = zr M z := fun z hz => funext (fun k => by rw [fgM_r, if_neg (fun q => hz q.1)])
  have hL2 : zLy (fgM M A) A dShL dRf := by
    refine ⟨fun q hq => by rw [fgM_sh]; exact hL.1 q hq, fun q hq => ?_⟩
    have hk : ∀ q ∈ dRf, q.1 ≠ 28 := by decide
    rw [fr28 _ (by have := hk q hq; omega)]
    exact hL.2 q hq
  have hLm2 : zLy (fgM M A) (A + 32) mShL mRf := by
    refine ⟨fun q hq => by rw [fgM_sh]; exact h.1.2.1.1 q hq, fun q hq => ?_⟩
    have hk : ∀ q ∈ mRf, q.1 = 0 := by decide
    rw [fr28 _ (by have := hk q hq; omega)]
    exact h.1.2.1.2 q hq
  obtain ⟨Mi, hMi⟩ : ∃ Mi, Mi = zfr (trM (fgM M A) A n) (A + 3) 26 none := ⟨_, rfl⟩
  have mir : ∀ z j, zr Mi z j = if z = A + 3 ∧ j < 26 then none else zr (fgM M A) z j := fun z j => by rw [hMi, zr_fr, trM_r]
  have mii : ∀ z, z ≠ A + 2 → zi Mi z = zi (fgM M A) z := fun z hz => by rw [hMi, zi_fr, trM_i hz]
  have mis : zsh Mi = zsh M := by rw [hMi, zsh_fr, trM_sh, fgM_sh]
  have mil : zl Mi = zl (fgM M A) := by rw [hMi, zl_fr, trM_l]
  have miz : zsz Mi = zsz M := by rw [hMi, zsz_fr, trM_sz, fgM_sz]
  have mizl : zsl Mi = zsl M := by rw [hMi, zsl_fr, trM_sl, fgM_sl]
  have mic : ∀ j, zi Mi (A + 2) j = zi (trM (fgM M A) A n) (A + 2) j := fun j => by rw [hMi, zi_fr]
  have fgi : ∀ c, c < 32 → ∀ k, ¬ (c = 0 ∧ k = 3) → c ≠ 8 → zi (fgM M A) (A + c) k = zJo M A c k := by
    intro c hc' k h1 h2
    have e1 : zi (fgM M A) (A + c) k = zu (zu (zu (zJo M A) 0 3 0) 8 0 0) 8 8 0 c k := congrFun (fgM_D M A hc') k
    rw [e1, zu_at, if_neg (by omega), zu_at, if_neg (by omega), zu_at, if_neg h1]
  have fg8 : zi (fgM M A) (A + 8) 0 = 0 := by
    have e1 : zi (fgM M A) (A + 8) 0 = zu (zu (zu (zJo M A) 0 3 0) 8 0 0) 8 8 0 8 0 := congrFun (fgM_D M A (by omega)) 0
    rw [e1, zu_at, if_neg (by omega), zu_self]
  obtain ⟨c6, c7, c8, c4, c5⟩ := trM_c (fgM M A) A n
  have ly : iLay Mi A := by
    refine ⟨⟨fun q hq => by rw [mis]; exact hL.1 q hq, fun q hq => ?_⟩, ⟨fun q hq => by rw [mis]; exact h.1.2.1.1 q hq, fun q hq => ?_⟩, by rw [mis]; exact h.1.2.2⟩
    · have hk : ∀ q ∈ dRf, q.1 ≠ 3 := by decide
      rw [mir, if_neg (by have := hk q hq; omega)]
      exact hL2.2 q hq
    · have hk : ∀ q ∈ mRf, q.1 = 0 := by decide
      rw [mir, if_neg (by have := hk q hq; omega)]
      exact hLm2.2 q hq
  have hPi : kcP A KC KS q Mi 0 0 := by
    have r4 : zr Mi (A + 4) = zr M (A + 4) := funext (fun j => by rw [mir, if_neg (by omega), fr28 _ (by omega)])
    have r5 : zr Mi (A + 5) = zr M (A + 5) := funext (fun j => by rw [mir, if_neg (by omega), fr28 _ (by omega)])
    refine ⟨pa, pb, ?_, by omega, by omega, by omega, by omega, by omega, fun x s hx => by rw [miz]; exact p5 x s (by rw [← mis]; exact hx)⟩
    unfold iPool
    rw [mis, r4, r5]
    exact p1
  have run : ∀ J0 : zJ, (∀ c, c ≤ 40 → J0 c = zJo M (A + 32) c) → ∃ M' J' f, Ev (fun N => FD_compile N KC KS A M = some (nI f, zpi M' A 3 (if f = 0 then 1 else 0))) ∧ Ev (fun N => FM_compile N J0 = some (nI f, J')) ∧ kOutc A KC KS q Mi (zfJ (trJ J0) 3 26 (-1)) M' J' f := by
    intro J0 hJ0
    have j0 : ∀ c k, c ≤ 40 → J0 c k = zJo M (A + 32) c k := fun c k hc' => by rw [hJ0 c hc']
    have jt : ∀ c k, c ≠ 3 → zfJ (trJ J0) 3 26 (-1) c k = trJ J0 c k := fun c k hh => by
      unfold zfJ
      rw [if_neg (fun q => hh q.1)]
    have tj3 : trJ J0 0 3 = 0 := by unfold trJ; rw [zu_at, if_neg (by omega), zu_self]
    have tj4 : trJ J0 0 4 = 0 := by unfold trJ; rw [zu_self]
    have tj10 : trJ J0 0 10 = 0 := by unfold trJ; rw [zu_at, if_neg (by omega), zu_at, if_neg (by omega), zu_self]
    have hS : kcS A KC KS q Mi (zfJ (trJ J0) 3 26 (-1)) n 0 0 0 0 := by
      refine ⟨ly, hPi, n1, ⟨by rw [mic]; exact c6, by rw [jt 0 2 (by omega), trJ_o (by omega) (by omega) (by omega), j0 0 2 (by omega)]; exact n3, fun k hk => ?_⟩, ⟨by rw [mic]; exact c7, by rw [jt 0 3 (by omega), tj3]; rfl, by omega⟩, ⟨by rw [mic]; exact c8, by rw [jt 0 4 (by omega), tj4]⟩, by rw [mic]; exact c4, by rw [mic]; exact c5, by rw [jt 0 10 (by omega), tj10]; rfl, Nat.le_refl _, Nat.le_refl _, Nat.le_refl _⟩
      rw [mii _ (by omega), fgi 1 (by omega) k (by omega) (by omega), jt 1 k (by omega), trJ_o (by omega) (by omega) (by omega), j0 1 k (by omega)]
      exact n4 k hk
    have hN : kcN A Mi (zfJ (trJ J0) 3 26 (-1)) (fun _ => false) (fun _ => false) 0 0 0 := by
      refine ⟨fun x hx => (by cases hx), fun t ht => (by cases ht), fun c hc' => Or.inl ⟨by rw [mir, if_pos ⟨rfl, hc'⟩], ?_⟩⟩
      unfold zfJ
      rw [if_pos ⟨rfl, hc'⟩]
    obtain ⟨M', J', f, z1, z2, z3⟩ := kc_first hS hN
    have f4 : f < 4096 := z3.2.2.2.1
    rw [hMi] at z1
    refine ⟨M', J', f, ev_mono (ev_and (eD_forget (M := M) (KC := KC) (KS := KS) hL) (eC_translate (KC := KC) (KS := KS) hL2 n1 z1)) (fun N hN => ?_), eM_compile z2, z3⟩
    have eA : zsh (fgM M A) A = some (.inl 8) := by rw [fgM_sh]; exact e0
    have sM' : zsh M' A = some (.inl 8) := z3.1.1 _ _ (by rw [mis]; exact e0)
    have en : zi (fgM M A) A 1 = nI n := by
      have := fgi 0 (by omega) 1 (by omega) (by omega)
      rw [Nat.add_zero] at this
      rw [this]
      exact n2
    unfold FD_compile
    rw [hN.1, qb_some, qk_d eA, qo_s (zLr0 hL2 34 rfl) (zLs hL2 2 rfl), en, hN.2, qb_some]
    by_cases hf : f = 0
    · rw [if_pos (by rw [hf]; rfl), qk_d sM', if_pos hf]
    · rw [if_neg (by rw [show (0 : Int32) = nI 0 from rfl, nI_eq (by omega) (by omega)]; exact hf), qk_d sM', if_neg hf]
  obtain ⟨Ma, Ja, fa, a1, a2, a3⟩ := run (zJo M (A + 32)) (fun _ _ => rfl)
  obtain ⟨v, hv⟩ : ∃ v : Int32, v = (if fa = 0 then 1 else 0) := ⟨_, rfl⟩
  have hfix : ∀ c, c ≤ 40 → zJo (zpi Ma A 3 v) (A + 32) c = zJo M (A + 32) c := by
    intro c hc'
    rw [zJo_pin (by omega)]
    show zi Ma (A + 32 + c) = zi M (A + 32 + c)
    have := a3.1.2.1 (32 + c) (by omega) (by omega)
    rw [← Nat.add_assoc] at this
    rw [this, mii _ (by omega)]
    exact zmm_o M A 32 _ (by omega)
  obtain ⟨Mb, J', f, b1, b2, b3⟩ := run (zJo (zpi Ma A 3 v) (A + 32)) hfix
  -- the class runs but one way
  have hab : f = fa ∧ zpi Mb A 3 (if f = 0 then 1 else 0) = zpi Ma A 3 v := by
    obtain ⟨n0, h0⟩ := ev_and a1 b1
    have h1 := (h0 n0 (Nat.le_refl _)).1
    have h2 := (h0 n0 (Nat.le_refl _)).2
    rw [h1] at h2
    injection h2 with h2
    have e1 : nI fa = nI f := congrArg Prod.fst h2
    have e2 := congrArg Prod.snd h2
    have f1 := a3.2.2.2.1
    have f2 := b3.2.2.2.1
    rw [nI_eq (by omega) (by omega)] at e1
    refine ⟨e1.symm, ?_⟩
    rw [hv]
    exact e2.symm
  obtain ⟨w1, w2, w3, w4, w5⟩ := b3
  have jv : J' 0 1 = v := by
    rw [hv, ← hab.1]
    rcases w5 with ⟨w5, w6, _⟩ | ⟨w5, w6⟩
    · rw [w6, if_pos w5]
    · rw [w6, if_neg (by omega)]
  have hvv : (if f = 0 then (1 : Int32) else 0) = v := by rw [hv, hab.1]
  rw [hvv] at hab
  have hLb : iLay Mb A := wMf_lay w1 ly
  rw [← hab.2] at b2
  have hLy5 : iLay (zpi Mb A 3 v) A := hLb
  have hw5 : ∀ c, c < 32 → ∀ k, c ≠ 2 → ¬ (c = 0 ∧ k = 3) → zi (zpi Mb A 3 v) (A + c) k = zi (fgM M A) (A + c) k := by
    intro c hc' k h2 h3
    rw [zi_pi, if_neg (by omega), w1.2.1 c (by omega) h2, mii _ (by omega)]
  have hD : ∀ c, c < 32 → ∀ k, c ≠ 2 → c ≠ 8 → ¬ (c = 0 ∧ k = 3) → zJo (zmm (zpi Mb A 3 v) (A + 32) 40 J') A c k = zJo M A c k := by
    intro c hc' k h2 h8 h3
    rw [zJo_mmo (by omega)]
    show zi (zpi Mb A 3 v) (A + c) k = _
    rw [hw5 c hc' k h2 h3, fgi c hc' k h3 h8]
  have hJ : ∀ c, c < 40 → zJo (zmm (zpi Mb A 3 v) (A + 32) 40 J') (A + 32) c = J' c := fun c hc' => zJo_mm hc'
  have jj : ∀ cc j, ¬ (2 ≤ cc ∧ cc ≤ 17) → ¬ (cc = 0 ∧ (j = 0 ∨ j = 1 ∨ j = 3 ∨ j = 4 ∨ j = 5 ∨ j = 6 ∨ j = 10 ∨ j = 23 ∨ j = 24 ∨ j = 44)) → cc ≠ 36 → cc ≠ 39 → cc ≤ 40 → J' cc j = zJo M (A + 32) cc j := by
    intro cc j h1 h2 h3 h4 h5
    rw [w3 cc j h1 (by omega)]
    unfold zfJ
    rw [if_neg (by omega), trJ_o (by omega) h3 h4, hfix cc h5]
  have jl : ∀ cc j, cc ≠ 3 → ¬ (2 ≤ cc ∧ cc ≤ 17) → ¬ (cc = 0 ∧ (j = 1 ∨ j = 3 ∨ j = 4 ∨ j = 5 ∨ j = 6 ∨ j = 10 ∨ j = 23 ∨ j = 24)) → J' cc j = jLeave (zu (zJo (zpi Ma A 3 v) (A + 32)) 0 0 0) cc j := by
    intro cc j h0 h1 h2
    rw [w3 cc j h1 h2]
    unfold zfJ trJ
    rw [if_neg (fun q => h0 q.1), zu_at, if_neg (by omega), zu_at, if_neg (by omega), zu_at, if_neg (by omega)]
  have hag : zag Mb (zmm (zpi Mb A 3 v) (A + 32) 40 J') := zag_out hLb rfl rfl (fun x hx => by
    rw [zmm_o _ _ _ _ (by omega)]
    funext j
    rw [zi_pi, if_neg (by omega)])
  refine tn_2 hi hn hc (w := nI f) (M5 := zpi Mb A 3 v) (J := J') e0 (ev_mono b1 (fun N hN => by rw [hN, hvv])) b2 hLy5.2.1 ?_
  refine ⟨hLy5, ?_, ?_, ?_, ?_, ?_, fun k hk => ?_, fun id hid => ?_⟩
  · obtain ⟨x0, y0, y1, y2, y3, y4, y5, y6, y7⟩ := w2
    exact ⟨x0, y0, y1, y4, y5, y6, y7⟩
  · exact iTxt_c (hD 0 (by omega) 1 (by omega) (by omega) (by omega)) (funext (fun k => hD 1 (by omega) k (by omega) (by omega) (by omega))) (by rw [hJ 0 (by omega)]; exact jj 0 2 (by omega) (by omega) (by omega) (by omega) (by omega)) (by rw [hJ 1 (by omega)]; exact funext (fun k => jj 1 k (by omega) (by omega) (by omega) (by omega) (by omega))) h.2.2.1
  · exact iBuf_c (hD 0 (by omega) 5 (by omega) (by omega) (by omega)) (funext (fun k => hD 6 (by omega) k (by omega) (by omega) (by omega))) (by rw [hJ 0 (by omega)]; exact jj 0 27 (by omega) (by omega) (by omega) (by omega) (by omega)) (by rw [hJ 18 (by omega)]; exact funext (fun k => jj 18 k (by omega) (by omega) (by omega) (by omega) (by omega))) h.2.2.2.1
  · refine ⟨0, by omega, ?_, ?_, fun k hk => absurd hk (by omega)⟩
    · rw [zJo_mmo (by omega)]
      show zi (zpi Mb A 3 v) (A + 8) 0 = _
      rw [hw5 8 (by omega) 0 (by omega) (by omega), fg8]
      rfl
    · rw [hJ 0 (by omega), jl 0 44 (by omega) (by omega) (by omega), jLeave_44]
      rfl
  · have d3 : zJo (zmm (zpi Mb A 3 v) (A + 32) 40 J') A 0 3 = v := by
      rw [zJo_mmo (by omega)]
      show zi (zpi Mb A 3 v) (A + 0) 3 = _
      rw [zi_pi, if_pos ⟨by omega, rfl⟩]
    refine ⟨by rw [d3, hJ 0 (by omega), jv], ?_⟩
    rw [hJ 0 (by omega)]
    rcases w5 with ⟨w5, w6, w7⟩ | ⟨w5, w6⟩
    · refine Or.inr ⟨w6, fun c hc' => ?_⟩
      have hJc : ∀ cc k, 4 ≤ cc → cc ≤ 15 → zJo (zmm (zpi Mb A 3 v) (A + 32) 40 J') (A + 32) cc k = J' cc k := fun cc k h1 h2 => by rw [hJ cc (by omega)]
      rw [hJ 3 (by omega)]
      rcases w7 c hc' with q | ⟨x, t, q1, q2, q3, q4⟩
      · exact Or.inl q
      · exact Or.inr ⟨x, t, q1, q2, wfT_c hJc 6 t q3, rep_mono hag hJc 6 x t q4⟩
    · exact Or.inl w6
  · refine Or.inl ⟨?_, ?_⟩
    · show zr Mb (A + 28) k = none
      rw [w1.2.2.1 28 (by omega) (by omega) (by omega) (by omega), mir, if_neg (by omega), fgM_r, if_pos ⟨rfl, hk⟩]
    · rw [hJ 36 (by omega), jl 36 k (by omega) (by omega) (by omega), jLeave_36 _ hk]
  · rw [hJ 39 (by omega), jl 39 id (by omega) (by omega) (by omega), jLeave_39 _ hid]
    unfold sBit
    have e31 : zl (zmm (zpi Mb A 3 v) (A + 32) 40 J') (A + 31) (id / 64) = 0 := by
      show zl Mb (A + 31) (id / 64) = 0
      rw [w1.2.2.2.1 31 (by omega), mil, fgM_l, if_pos ⟨rfl, by omega⟩]
    rw [e31]
    simp
    rfl
