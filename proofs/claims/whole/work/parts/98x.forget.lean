/-! PUT, FORGETTING, TYPE, CLEAR -/
def pJ (J : zJ) (cb cf : Nat) (f : Nat → Int32) (n s : Nat) : zJ := fun c k => if c = cb ∧ n ≤ k ∧ k < n + s then f (k - n) else if c = 0 ∧ k = cf then nI (n + s) else J c k
theorem pJ_0 {J : zJ} {cb cf n : Nat} {f : Nat → Int32} (h : J 0 cf = nI n) : pJ J cb cf f n 0 = J := by
  funext c k
  unfold pJ
  rw [if_neg (by omega)]
  by_cases h1 : c = 0 ∧ k = cf
  · rw [if_pos h1, h1.1, h1.2, h, Nat.add_zero]
  · rw [if_neg h1]
theorem pJ_f {J : zJ} {cb cf n s : Nat} {f : Nat → Int32} (hb : cb ≠ 0) : pJ J cb cf f n s 0 cf = nI (n + s) := by
  unfold pJ
  rw [if_neg (by omega), if_pos ⟨rfl, rfl⟩]
theorem pJ_s {J : zJ} {cb cf n s : Nat} {f : Nat → Int32} (hb : cb ≠ 0) : zu (zu (pJ J cb cf f n s) cb (n + s) (f s)) 0 cf (nI (n + s) + 1) = pJ J cb cf f n (s + 1) := by
  funext c k
  rw [zu_at, zu_at, nI_add1]
  by_cases h1 : c = 0 ∧ k = cf
  · rw [if_pos h1]
    unfold pJ
    rw [if_neg (by omega), if_pos h1]
    rfl
  · rw [if_neg h1]
    by_cases h2 : c = cb ∧ k = n + s
    · rw [if_pos h2]
      unfold pJ
      rw [if_pos (by omega), h2.2, Nat.add_sub_cancel_left]
    · rw [if_neg h2]
      unfold pJ
      by_cases h3 : c = cb ∧ n ≤ k ∧ k < n + s
      · rw [if_pos h3, if_pos (by omega)]
      · rw [if_neg h3, if_neg h1, if_neg (by omega), if_neg h1]
theorem pJ_o {J : zJ} {cb cf n s c k : Nat} {f : Nat → Int32} (h1 : ¬ (c = cb ∧ n ≤ k)) (h2 : ¬ (c = 0 ∧ k = cf)) : pJ J cb cf f n s c k = J c k := by
  unfold pJ
  rw [if_neg (by omega), if_neg h2]
theorem pJ_c {J : zJ} {cb cf n s c : Nat} {f : Nat → Int32} (h1 : c ≠ cb) (h2 : c ≠ 0) : pJ J cb cf f n s c = J c := funext (fun k => pJ_o (by omega) (by omega))
theorem neg_s8 (k : Nat) : nI (8 * (k + 1)) + (-8) = nI (8 * k) := by
  rw [show 8 * (k + 1) = 8 * k + 8 by omega, ← nI_add, Int32.add_assoc, show (nI 8 + -8 : Int32) = 0 from by decide, Int32.add_zero]
/-- byte k of a long, from the right -/
def lby (x : Int64) (k : Nat) : Int32 := (((x.toUInt64 >>> ((nI (8 * k)).toInt64.toUInt64 &&& Int64.toUInt64 63)).toInt64).toInt32) &&& 255
theorem lby_b (x : Int64) (k : Nat) : ∃ b, b < 256 ∧ lby x k = nI b := by
  unfold lby
  refine ⟨_, Nat.mod_lt _ (by omega), i_eq_nat ?_ (i_and255 _)⟩
  have : ∀ n : Nat, n % 256 < 4294967296 := fun n => by omega
  exact this _
theorem lby_eq (x : Int64) {k : Nat} (hk : k < 8) : ((x >>> ((8 * nI k).toInt64 &&& 63)) &&& 255).toInt32 = lby x k := by
  unfold lby
  have h1 : ∀ k : Fin 8, (((8 * nI (k : Nat)).toInt64 &&& 63).toBitVec.smod 64) = BitVec.ofNat 64 (8 * k) := by decide
  have h2 : ∀ k : Fin 8, (((nI (8 * (k : Nat))).toInt64.toUInt64 &&& Int64.toUInt64 63).toBitVec % 64) = BitVec.ofNat 64 (8 * k) := by decide
  have h1 := h1 ⟨k, hk⟩
  have h2 := h2 ⟨k, hk⟩
  simp only at h1 h2
  apply Int32.toBitVec_inj.mp
  rw [Int32.toBitVec_and, Int64.toBitVec_toInt32, Int64.toBitVec_toInt32, Int64.toBitVec_and, Int64.toBitVec_shiftRight, h1]
  have h3 : ((x.toUInt64 >>> ((nI (8 * k)).toInt64.toUInt64 &&& Int64.toUInt64 63)).toInt64).toBitVec = x.toBitVec >>> (8 * k) := by
    show (x.toUInt64 >>> _).toBitVec = _
    rw [UInt64.toBitVec_shiftRight, h2]
    show x.toBitVec >>> (BitVec.ofNat 64 (8 * k)).toNat = _
    rw [BitVec.toNat_ofNat, Nat.mod_eq_of_lt (by omega)]
  rw [h3]
  have h4 : x.toBitVec.sshiftRight' (BitVec.ofNat 64 (8 * k)) = x.toBitVec.sshiftRight (8 * k) := by
    show x.toBitVec.sshiftRight (BitVec.ofNat 64 (8 * k)).toNat = _
    rw [BitVec.toNat_ofNat, Nat.mod_eq_of_lt (by omega)]
  rw [h4]
  have e64 : ∀ i, (Int64.toBitVec 255).getLsbD i = decide (i < 8) := by
    intro i
    show (BitVec.ofNat 64 255).getLsbD i = _
    rw [BitVec.getLsbD_ofNat, show (255 : Nat) = 2 ^ 8 - 1 from rfl, Nat.testBit_two_pow_sub_one]
    by_cases h : i < 8
    · simp [h]; omega
    · simp [h]
  have e32 : ∀ i, (Int32.toBitVec 255).getLsbD i = decide (i < 8) := by
    intro i
    show (BitVec.ofNat 32 255).getLsbD i = _
    rw [BitVec.getLsbD_ofNat, show (255 : Nat) = 2 ^ 8 - 1 from rfl, Nat.testBit_two_pow_sub_one]
    by_cases h : i < 8
    · simp [h]; omega
    · simp [h]
  apply BitVec.eq_of_getLsbD_eq
  intro i hi
  rw [BitVec.getLsbD_and, BitVec.getLsbD_signExtend, BitVec.getLsbD_signExtend, BitVec.getLsbD_and, BitVec.getLsbD_sshiftRight, BitVec.getLsbD_ushiftRight, e32, e64]
  by_cases h : i < 8
  · have g1 : i < 64 := by omega
    have g2 : 8 * k + i < 64 := by omega
    have g3 : ¬ 64 ≤ i := by omega
    simp [h, hi, g1, g2, g3]
  · have g1 : i < 64 := by omega
    simp [h, g1]
theorem eM_put {J : zJ} {n m : Nat} (x : Int64) (h27 : J 0 27 = nI n) (hm : 1 ≤ m) (hm8 : m ≤ 8) (hnm : n + m ≤ 120) : Ev (fun N => qfix (FM_put_33 N x) N (nI m - 1, J) = some (true, pJ J 18 27 (fun j => lby x (m - 1 - j)) n m)) := by
  have key : ∀ k, nI (k + 1) + (-1) = nI k := nI_dec
  have h0 : nI m - 1 = nI (m - 0) + (-1) := by
    rw [Nat.sub_zero, Int32.sub_eq_add_neg]
  have := ev_loop (B := fun N => FM_put_33 N x) (r := some (true, pJ J 18 27 (fun j => lby x (m - 1 - j)) n m)) (fun s => (nI (m - s) + (-1), pJ J 18 27 (fun j => lby x (m - 1 - j)) n s)) m (ev_of (fun N s hs K => ?_)) (ev_of (fun N K => ?_))
  · simp only [pJ_0 h27] at this
    rw [h0]
    exact this
  · obtain ⟨j, hj⟩ : ∃ j, m - s = j + 1 := ⟨m - s - 1, by omega⟩
    simp only [FM_put_33]
    rw [hj, key, if_neg (by rw [show (0 : Int32) = nI 0 from rfl, nI_ltI (by omega) (by omega)]; omega), pJ_f (by omega), qk_t (qi_nI (by omega) (by omega)), nI_clamp (by omega)]
    rw [lby_eq x (show j < 8 by omega)]
    have e1 : zu (pJ J 18 27 (fun j => lby x (m - 1 - j)) n s) 18 (n + s) (lby x j) 0 27 = nI (n + s) := by rw [zu_ne _ _ _ (by omega), pJ_f (by omega)]
    rw [e1, show m - (s + 1) = j by omega]
    have e2 := pJ_s (J := J) (cb := 18) (cf := 27) (n := n) (s := s) (f := fun j => lby x (m - 1 - j)) (by omega)
    rw [show m - 1 - s = j by omega] at e2
    rw [e2]
  · simp only [FM_put_33]
    rw [Nat.sub_self, if_pos (by decide)]
theorem eD_put {D : zJ} {n m : Nat} (M : zM) (x : Int64) (h27 : D 0 5 = nI n) (hm : 1 ≤ m) (hm8 : m ≤ 8) (hnm : n + m ≤ 120) : Ev (fun N => qfix (FD_put_32 N M x) N (8 * (nI m - 1), D) = some (true, pJ D 6 5 (fun j => lby x (m - 1 - j)) n m)) := by
  have h0 : 8 * (nI m - 1) = nI (8 * (m - 0)) + (-8) := by
    obtain ⟨j, rfl⟩ : ∃ j, m = j + 1 := ⟨m - 1, by omega⟩
    rw [Nat.sub_zero, neg_s8, nI_pred, show (8 : Int32) = nI 8 from rfl, nI_mul]
  have := ev_loop (B := fun N => FD_put_32 N M x) (r := some (true, pJ D 6 5 (fun j => lby x (m - 1 - j)) n m)) (fun s => (nI (8 * (m - s)) + (-8), pJ D 6 5 (fun j => lby x (m - 1 - j)) n s)) m (ev_of (fun N s hs K => ?_)) (ev_of (fun N K => ?_))
  · simp only [pJ_0 h27] at this
    rw [h0]
    exact this
  · obtain ⟨j, hj⟩ : ∃ j, m - s = j + 1 := ⟨m - s - 1, by omega⟩
    simp only [FD_put_32]
    rw [hj, neg_s8, if_neg (by rw [show (0 : Int32) = nI 0 from rfl, nI_ltI (by omega) (by omega)]; omega), pJ_f (by omega), qk_t (qi_nI (by omega) (by omega)), nI_clamp (by omega)]
    show K (_, zu (zu (pJ D 6 5 (fun j => lby x (m - 1 - j)) n s) 6 (n + s) (lby x j)) 0 5 (zu (pJ D 6 5 (fun j => lby x (m - 1 - j)) n s) 6 (n + s) (lby x j) 0 5 + 1)) = _
    have e1 : zu (pJ D 6 5 (fun j => lby x (m - 1 - j)) n s) 6 (n + s) (lby x j) 0 5 = nI (n + s) := by rw [zu_ne _ _ _ (by omega), pJ_f (by omega)]
    rw [e1, show m - (s + 1) = j by omega]
    have e2 := pJ_s (J := D) (cb := 6) (cf := 5) (n := n) (s := s) (f := fun j => lby x (m - 1 - j)) (by omega)
    rw [show m - 1 - s = j by omega] at e2
    rw [e2]
  · simp only [FD_put_32]
    rw [Nat.sub_self, if_pos (by decide)]
theorem t_put {KC KS A sn q i : Nat} {sx : Nat → Int32} {M : zM} (h : INV M A KC KS (q + 1)) (hi : i + 5 ≤ sn) (hn : sn ≤ 2560) (hc : sx i &&& 15 = 3) : lTurn KC KS A sn sx q i M := by
  obtain ⟨n, n1, n2, n3, n4⟩ := h.2.2.2.1
  generalize hx : ((((sx (i + 1)).toInt64 : Int64) <<< ((32 : Int32).toInt64 &&& 63)) ||| (((sx (i + 2)).toInt64) &&& 4294967295)) = x
  have j27 : zu (zJo M (A + 32)) 0 0 0 0 27 = nI n := by rw [jcode (by omega), n3]
  by_cases c : ((1 : Int32).toInt ≤ (sx (i + 3)).toInt ∧ (sx (i + 3)).toInt ≤ (8 : Int32).toInt) ∧ nI n + sx (i + 3) ≤ 120
  · obtain ⟨⟨c1, c2⟩, c3⟩ := c
    have c1' := c1
    have c2' := c2
    rw [i_1] at c1
    rw [i_lit 8 (by omega)] at c2
    obtain ⟨m, hm, em, e2⟩ := nI_ex (x := sx (i + 3)) (by omega)
    have hnm : n + m ≤ 120 := by
      rw [em, nI_add, show (120 : Int32) = nI 120 from rfl, nI_leI (by omega) (by omega)] at c3
      exact c3
    refine tn_3 hi hn hc (w := true) (D := pJ (zJo M A) 6 5 (fun j => lby x (m - 1 - j)) n m) (J := pJ (zu (zJo M (A + 32)) 0 0 0) 18 27 (fun j => lby x (m - 1 - j)) n m) h.1.1 h.1.2.1 ?_ ?_ ?_
    · rw [hx]
      refine ev_mono (eD_put (D := zJo M A) M x n2 (m := m) (by omega) (by omega) hnm) (fun N hN => ?_)
      unfold FD_put
      rw [if_neg (by rw [Int32.lt_iff_toInt_lt]; omega), if_neg (by rw [Int32.lt_iff_toInt_lt]; omega), n2, if_pos c3]
      simp only
      rw [em]
      exact hN
    · rw [hx]
      refine ev_mono (eM_put (J := zu (zJo M (A + 32)) 0 0 0) x j27 (m := m) (by omega) (by omega) hnm) (fun N hN => ?_)
      unfold FM_put
      simp only
      rw [FM_in_eq, qc_some, if_neg (by simp only [bI_eq0]; simp; omega), j27, if_pos c3]
      rw [em]
      exact hN
    · have e : ∀ c k, ¬ (c = 0 ∧ (k = 0 ∨ k = 27)) → c ≠ 18 → pJ (zu (zJo M (A + 32)) 0 0 0) 18 27 (fun j => lby x (m - 1 - j)) n m c k = zJo M (A + 32) c k := by
        intro c k hk hc
        rw [pJ_o (by omega) (by omega), jcode (by omega)]
      have e2 : ∀ c, c ≠ 0 → c ≠ 18 → pJ (zu (zJo M (A + 32)) 0 0 0) 18 27 (fun j => lby x (m - 1 - j)) n m c = zJo M (A + 32) c := fun c hc h18 => funext (fun k => e c k (by omega) h18)
      have d : ∀ c k, ¬ (c = 0 ∧ k = 5) → c ≠ 6 → pJ (zJo M A) 6 5 (fun j => lby x (m - 1 - j)) n m c k = zJo M A c k := by
        intro c k hk hc
        rw [pJ_o (by omega) hk]
      have d2 : ∀ c, c ≠ 0 → c ≠ 6 → pJ (zJo M A) 6 5 (fun j => lby x (m - 1 - j)) n m c = zJo M A c := fun c hc h6 => funext (fun k => d c k (by omega) h6)
      refine INV_dj h (by omega) ?_ ⟨n + m, hnm, pJ_f (by omega), pJ_f (by omega), fun k hk => ?_⟩ ?_ (d _ _ (by omega) (by omega)) (d2 _ (by omega) (by omega)) (d2 _ (by omega) (by omega)) (e _ _ (by omega) (by omega)) (e2 _ (by omega) (by omega)) (fun c k c1 c2 => e _ _ (by omega) (by omega)) (e2 _ (by omega) (by omega)) (e2 _ (by omega) (by omega)) (e2 _ (by omega) (by omega)) (e2 _ (by omega) (by omega))
      · exact iTxt_c (d _ _ (by omega) (by omega)) (d2 _ (by omega) (by omega)) (e _ _ (by omega) (by omega)) (e2 _ (by omega) (by omega)) h.2.2.1
      · by_cases hkn : k < n
        · rw [pJ_o (by omega) (by omega), pJ_o (by omega) (by omega), jcode (by omega)]
          exact n4 k hkn
        · unfold pJ
          rw [if_pos ⟨rfl, by omega, hk⟩, if_pos ⟨rfl, by omega, hk⟩]
          exact ⟨rfl, lby_b _ _⟩
      · exact iVal_c (d _ _ (by omega) (by omega)) (d2 _ (by omega) (by omega)) (d2 _ (by omega) (by omega)) (d2 _ (by omega) (by omega)) (d2 _ (by omega) (by omega)) (d2 _ (by omega) (by omega)) (d2 _ (by omega) (by omega)) (e _ _ (by omega) (by omega)) (e2 _ (by omega) (by omega)) (e2 _ (by omega) (by omega)) h.2.2.2.2.1
  · refine tn_3 hi hn hc (w := false) (D := zJo M A) (J := zu (zJo M (A + 32)) 0 0 0) h.1.1 h.1.2.1 (ev_of (fun N => ?_)) (ev_of (fun N => ?_)) ?_
    · unfold FD_put
      simp only [Int32.lt_iff_toInt_lt]
      by_cases c1 : (sx (i + 3)).toInt < (1 : Int32).toInt
      · rw [if_pos c1]
      · rw [if_neg c1]
        by_cases c2 : (8 : Int32).toInt < (sx (i + 3)).toInt
        · rw [if_pos c2]
        · rw [if_neg c2, n2, if_neg (fun c3 => c ⟨⟨by omega, by omega⟩, c3⟩)]
    · unfold FM_put
      simp only
      have h11 : (1 : Int32).toInt = 1 := i_1
      have h88 : (8 : Int32).toInt = 8 := by decide
      rw [FM_in_eq, qc_some]
      by_cases c1 : (1 : Int32).toInt ≤ (sx (i + 3)).toInt ∧ (sx (i + 3)).toInt ≤ (8 : Int32).toInt
      · rw [if_neg (by simp only [bI_eq0]; simp; omega), j27, if_neg (fun c3 => c ⟨c1, c3⟩)]
      · rw [if_pos (by simp only [bI_eq0]; simp; omega)]
    · rw [zmm_J]
      exact INV_code (M5 := M) h rfl rfl rfl rfl (Nat.le_refl _) (by omega) (by omega) 0
/-- forgetModule of the desk -/
def fgM (M : zM) (A : Nat) : zM := zfl (zfr (zmm M A 32 (zu (zu (zu (zJo M A) 0 3 0) 8 0 0) 8 8 0)) (A + 28) 8 none) (A + 31) 4 0
theorem eD_forget {M : zM} {A KC KS : Nat} (hL : zLy M A dShL dRf) : Ev (fun N => FD_forgetModule N KC KS A M = some ((), fgM M A)) := by
  have e0 : zsh M A = some (.inl 8) := zLs0 hL 0 rfl
  have l2 : ∀ M2 : zM, zsh M2 = zsh M → zr M2 A = zr M A → Ev (fun N => qfix (FD_forgetModule_35 N KC KS A) N (0, M2) = some ((), zfl M2 (A + 31) 4 0)) := by
    intro M2 s1 s2
    have := ev_loop (B := fun N => FD_forgetModule_35 N KC KS A) (r := some ((), zfl M2 (A + 31) 4 0)) (fun k => (nI k, zfl M2 (A + 31) k 0)) 4 (ev_of (fun N k hk K => ?_)) (ev_of (fun N K => ?_))
    · simp only [zfl_0] at this
      exact this
    · have r16 : zr (zfl M2 (A + 31) k 0) A 16 = some (A + 31) := by rw [zr_fl, s2]; exact zLr0 hL 0 rfl
      have s31 : zsh (zfl M2 (A + 31) k 0) (A + 31) = some (.inr (2, 4)) := by rw [zsh_fl, s1]; exact zLs hL 31 rfl
      simp only [FD_forgetModule_35]
      rw [qk_d (by rw [zsh_fl, s1]; exact e0), ql_s r16 s31, if_neg (by rw [nI_leI (by omega) (by omega)]; omega), qa_s r16 s31 (qi_nI hk (by omega)), nI_clamp (by omega), zfl_s, nI_add1]
    · have r16 : zr (zfl M2 (A + 31) 4 0) A 16 = some (A + 31) := by rw [zr_fl, s2]; exact zLr0 hL 0 rfl
      have s31 : zsh (zfl M2 (A + 31) 4 0) (A + 31) = some (.inr (2, 4)) := by rw [zsh_fl, s1]; exact zLs hL 31 rfl
      simp only [FD_forgetModule_35]
      rw [qk_d (by rw [zsh_fl, s1]; exact e0), ql_s r16 s31, if_pos (by decide)]
  have hM1 : zmm (zpi M A 3 0) A 32 (zu (zu (zJo (zpi M A 3 0) A) 8 0 0) 8 8 0) = zmm M A 32 (zu (zu (zu (zJo M A) 0 3 0) 8 0 0) 8 8 0) := by
    rw [zJo_pi0]
    have e1 : ∀ J : zJ, zmm (zpi M A 3 0) A 32 J = zmm M A 32 J := by
      intro J
      unfold zmm
      show (M.1, _, _) = _
      congr 2
      funext a
      by_cases ha : A ≤ a ∧ a < A + 32
      · rw [if_pos ha, if_pos ha]
      · rw [if_neg ha, if_neg ha]
        funext k
        rw [zi_pi, if_neg (by omega)]
    exact e1 _
  generalize hM5 : zmm M A 32 (zu (zu (zu (zJo M A) 0 3 0) 8 0 0) 8 8 0) = M5 at hM1
  have s1 : zsh M5 = zsh M := by rw [← hM5]; rfl
  have s2 : zr M5 = zr M := by rw [← hM5]; rfl
  have := ev_loop (B := fun N => FD_forgetModule_14 N KC KS A) (r := some ((), fgM M A)) (fun k => (nI k, zfr M5 (A + 28) k none)) 8 (ev_of (fun N k hk K => ?_)) (ev_mono (l2 (zfr M5 (A + 28) 8 none) (by rw [zsh_fr, s1]) ?_) (fun N hN K => ?_))
  · refine ev_mono this (fun N hN => ?_)
    simp only [zfr_0] at hN
    unfold FD_forgetModule FV_empty
    simp only
    rw [qk_t (dLyB_of (M := zpi M A 3 0) hL), qb_some, hM1]
    exact hN
  · simp only [FD_forgetModule_14]
    rw [if_neg (by rw [show (8 : Int32) = nI 8 from rfl, nI_leI (by omega) (by omega)]; omega), qk_d (by rw [zsh_fr, s1]; exact e0), qa_s (b := A + 28) (n := 8) (by rw [zr_fr, if_neg (by omega), s2]; exact zLr0 hL 3 rfl) (by rw [zsh_fr, s1]; exact zLs hL 28 rfl) (qi_nI hk (by omega)), nI_clamp (by omega), zfr_s, nI_add1]
  · funext k
    rw [zr_fr, if_neg (by omega), s2]
  · simp only [FD_forgetModule_14]
    rw [if_pos (by decide), hN]
    unfold fgM
    rw [hM5]
theorem INV_fg {M M2 : zM} {A KC KS q q' : Nat} (h : INV M A KC KS q) (hq : q' ≤ q) (hsh : zsh M2 = zsh M) (hr : ∀ x, x ≠ A + 28 → zr M2 x = zr M x) (hr28 : ∀ k, k < 8 → zr M2 (A + 28) k = none) (hl : ∀ k, k < 4 → zl M2 (A + 31) k = 0) (hz : zsz M2 = zsz M) (hzl : zsl M2 = zsl M)
    (d3 : zJo M2 A 0 3 = 0) (j1 : zJo M2 (A + 32) 0 1 = 0) (j36 : ∀ k, k < 8 → zJo M2 (A + 32) 36 k = -1) (j39 : ∀ k, k < 256 → zJo M2 (A + 32) 39 k = 0) (d8 : zJo M2 A 8 0 = 0) (j44 : zJo M2 (A + 32) 0 44 = 0) (hT : iTxt (zJo M2 A) (zJo M2 (A + 32))) (hB : iBuf (zJo M2 A) (zJo M2 (A + 32))) : INV M2 A KC KS q' := by
  obtain ⟨⟨l1, l2, l3⟩, ⟨a, b, p1, p2, p3, p4, p5⟩, -⟩ := h
  refine ⟨⟨⟨fun q hq => by rw [hsh]; exact l1.1 q hq, fun q hq => ?_⟩, ⟨fun q hq => by rw [hsh]; exact l2.1 q hq, fun q hq => ?_⟩, by rw [hsh]; exact l3⟩, ⟨a, b, ?_, by omega, by omega, by omega, fun x s hx => by rw [hz]; exact p5 x s (by rw [← hsh]; exact hx)⟩, hT, hB, ⟨0, by omega, d8, j44, fun k hk => absurd hk (by omega)⟩, ⟨by rw [d3, j1], Or.inl j1⟩, fun k hk => Or.inl ⟨hr28 k hk, j36 k hk⟩, fun id hid => ?_⟩
  · have hk : ∀ q ∈ dRf, q.1 ≠ 28 := by decide
    have := hk q hq
    rw [hr _ (by omega)]
    exact l1.2 q hq
  · rw [hr _ (by have : ∀ q ∈ mRf, q.1 = 0 := by decide
                 have := this q hq
                 omega)]
    exact l2.2 q hq
  · unfold iPool
    rw [hsh, hr _ (by omega), hr _ (by omega)]
    exact p1
  · rw [j39 id hid]
    unfold sBit
    rw [hl _ (by omega)]
    simp
    rfl
theorem fgM_sh (M : zM) (A : Nat) : zsh (fgM M A) = zsh M := rfl
theorem fgM_r (M : zM) (A x k : Nat) : zr (fgM M A) x k = if x = A + 28 ∧ k < 8 then none else zr M x k := by
  unfold fgM
  rw [zr_fl, zr_fr]
  rfl
theorem fgM_l (M : zM) (A x k : Nat) : zl (fgM M A) x k = if x = A + 31 ∧ k < 4 then 0 else zl M x k := by
  unfold fgM
  rw [zl_fl, zl_fr]
  rfl
theorem fgM_sz (M : zM) (A : Nat) : zsz (fgM M A) = zsz M := rfl
theorem fgM_sl (M : zM) (A : Nat) : zsl (fgM M A) = zsl M := rfl
theorem fgM_i (M : zM) (A : Nat) : zi (fgM M A) = zi (zmm M A 32 (zu (zu (zu (zJo M A) 0 3 0) 8 0 0) 8 8 0)) := rfl
theorem fgM_D (M : zM) (A : Nat) {c : Nat} (hc : c < 32) : zJo (fgM M A) A c = zu (zu (zu (zJo M A) 0 3 0) 8 0 0) 8 8 0 c := zmm_i M A _ hc
theorem fgM_J (M : zM) (A : Nat) : zJo (fgM M A) (A + 32) = zJo M (A + 32) := by
  funext c
  exact zmm_o M A 32 _ (by omega)
theorem jLeave_1 (J : zJ) : jLeave J 0 1 = 0 := by unfold jLeave zfJ; rw [if_neg (by omega), if_neg (by omega), zu_at, if_neg (by omega), zu_at, if_pos ⟨rfl, rfl⟩]
theorem jLeave_44 (J : zJ) : jLeave J 0 44 = 0 := by unfold jLeave zfJ; rw [if_neg (by omega), if_neg (by omega), zu_at, if_pos ⟨rfl, rfl⟩]
theorem jLeave_36 (J : zJ) {k : Nat} (hk : k < 8) : jLeave J 36 k = -1 := by unfold jLeave zfJ; rw [if_neg (by omega), if_pos ⟨rfl, hk⟩]
theorem jLeave_39 (J : zJ) {k : Nat} (hk : k < 256) : jLeave J 39 k = 0 := by unfold jLeave zfJ; rw [if_pos ⟨rfl, hk⟩]
theorem jLeave_o (J : zJ) {c k : Nat} (h1 : ¬ (c = 0 ∧ (k = 1 ∨ k = 44))) (h2 : c ≠ 36) (h3 : c ≠ 39) : jLeave J c k = J c k := by unfold jLeave zfJ; rw [if_neg (by omega), if_neg (by omega), zu_at, if_neg (by omega), zu_at, if_neg (by omega)]
theorem jLeave_c (J : zJ) {c : Nat} (h1 : c ≠ 0) (h2 : c ≠ 36) (h3 : c ≠ 39) : jLeave J c = J c := funext (fun k => jLeave_o J (by omega) h2 h3)
/-- the module is forgotten on both sides -/
theorem INV_leave {M : zM} {A KC KS q q' : Nat} {J : zJ} (h : INV M A KC KS q) (hq : q' ≤ q) {M4 : zM} (hsh : zsh M4 = zsh M) (hr : zr M4 = zr M) (hz : zsz M4 = zsz M) (hzl : zsl M4 = zsl M) (hT : iTxt (zJo M4 A) J) (hB : iBuf (zJo M4 A) J) : INV (zmm (fgM M4 A) (A + 32) 40 (jLeave J)) A KC KS q' := by
  have hD : ∀ c, c < 32 → zJo (zmm (fgM M4 A) (A + 32) 40 (jLeave J)) A c = zu (zu (zu (zJo M4 A) 0 3 0) 8 0 0) 8 8 0 c := fun c hc => by rw [zJo_mmo (by omega), fgM_D M4 A hc]
  have hJ : ∀ c, c < 40 → zJo (zmm (fgM M4 A) (A + 32) 40 (jLeave J)) (A + 32) c = jLeave J c := fun c hc => zJo_mm hc
  have d : ∀ c k, ¬ (c = 0 ∧ k = 3) → c ≠ 8 → zu (zu (zu (zJo M4 A) 0 3 0) 8 0 0) 8 8 0 c k = zJo M4 A c k := by
    intro c k h1 h2
    rw [zu_at, if_neg (by omega), zu_at, if_neg (by omega), zu_at, if_neg h1]
  have d2 : ∀ c, c ≠ 0 → c ≠ 8 → zu (zu (zu (zJo M4 A) 0 3 0) 8 0 0) 8 8 0 c = zJo M4 A c := fun c h1 h2 => funext (fun k => d c k (by omega) h2)
  refine INV_fg h hq (by rw [zmm_sh, fgM_sh, hsh]) (fun x hx => ?_) (fun k hk => ?_) (fun k hk => ?_) (by rw [zmm_sz, fgM_sz, hz]) (by rw [zmm_sl, fgM_sl, hzl]) ?_ ?_ (fun k hk => ?_) (fun k hk => ?_) ?_ ?_ ?_ ?_
  · funext k
    rw [zmm_r, fgM_r, if_neg (by omega), hr]
  · rw [zmm_r, fgM_r, if_pos ⟨rfl, hk⟩]
  · rw [zmm_l, fgM_l, if_pos ⟨rfl, hk⟩]
  · rw [hD 0 (by omega), zu_at, if_neg (by omega), zu_at, if_neg (by omega), zu_at, if_pos ⟨rfl, rfl⟩]
  · rw [hJ 0 (by omega), jLeave_1]
  · rw [hJ 36 (by omega), jLeave_36 J hk]
  · rw [hJ 39 (by omega), jLeave_39 J hk]
  · rw [hD 8 (by omega), zu_at, if_neg (by omega), zu_at, if_pos ⟨rfl, rfl⟩]
  · rw [hJ 0 (by omega), jLeave_44]
  · exact iTxt_c (by rw [hD 0 (by omega), d _ _ (by omega) (by omega)]) (by rw [hD 1 (by omega), d2 _ (by omega) (by omega)]) (by rw [hJ 0 (by omega), jLeave_o J (by omega) (by omega) (by omega)]) (by rw [hJ 1 (by omega), jLeave_c J (by omega) (by omega) (by omega)]) hT
  · exact iBuf_c (by rw [hD 0 (by omega), d _ _ (by omega) (by omega)]) (by rw [hD 6 (by omega), d2 _ (by omega) (by omega)]) (by rw [hJ 0 (by omega), jLeave_o J (by omega) (by omega) (by omega)]) (by rw [hJ 18 (by omega), jLeave_c J (by omega) (by omega) (by omega)]) hB
theorem chr_c (x : Int32) : ∃ c, c < 65536 ∧ (x.toUInt32 % 65536).toInt32 = nI c := by
  refine ⟨x.toUInt32.toNat % 65536, by omega, i_eq_nat (by omega) ?_⟩
  show (x.toUInt32 % 65536).toNat = _
  rw [UInt32.toNat_mod]
  rfl
theorem chr_ok {c : Nat} (h : c < 65536) : (decide (0 ≤ nI c) && decide (nI c ≤ 65535)) = true := by
  have h1 : (65535 : Int32).toInt = 65535 := by decide
  rw [Bool.and_eq_true, decide_eq_true_iff, decide_eq_true_iff, Int32.le_iff_toInt_le, Int32.le_iff_toInt_le, nI_toInt (by omega), i_0, h1]
  omega
theorem t_clear {KC KS A sn q i : Nat} {sx : Nat → Int32} {M : zM} (h : INV M A KC KS (q + 1)) (hi : i + 5 ≤ sn) (hn : sn ≤ 2560) (hc : sx i &&& 15 = 1) : lTurn KC KS A sn sx q i M := by
  obtain ⟨n, n1, n2, n3, n4⟩ := h.2.2.1
  have hL := h.1.1
  have e0 : zsh M A = some (.inl 8) := zLs0 hL 0 rfl
  have hJ4 : zJo (fgM (zpi M A 1 0) A) (A + 32) = zJo M (A + 32) := by rw [fgM_J, zJo_pin (by omega)]
  refine tn_1 hi hn hc (w := nI n) (M5 := fgM (zpi M A 1 0) A) (J := jLeave (zu (zu (zJo M (A + 32)) 0 0 0) 0 2 0)) e0 (ev_mono (eD_forget (M := zpi M A 1 0) (KC := KC) (KS := KS) hL) (fun N hN => ?_)) (ev_mono (eM_leave (zu (zu (zJo M (A + 32)) 0 0 0) 0 2 0)) (fun N hN => ?_)) ?_ ?_
  · unfold FD_clear
    simp only
    rw [hN, qb_some, show zi M A 1 = nI n from n2]
  · unfold FM_clear
    simp only
    rw [hJ4, hN, qb_some, n3]
  · refine ⟨fun q hq => by rw [fgM_sh]; exact h.1.2.1.1 q hq, fun q hq => ?_⟩
    have hk : ∀ q ∈ mRf, q.1 = 0 := by decide
    have := hk q hq
    rw [fgM_r, if_neg (by omega)]
    exact h.1.2.1.2 q hq
  · refine INV_leave h (by omega) rfl rfl rfl rfl ⟨0, by omega, ?_, ?_, fun k hk => absurd hk (by omega)⟩ ?_
    · rw [zJo_pi0, zu_self]; rfl
    · rw [zu_self]; rfl
    · rw [zJo_pi0]
      exact iBuf_c (by rw [zu_at, if_neg (by omega)]) (zu_ne _ _ _ (by omega)) (by rw [zu_at, if_neg (by omega), jcode (by omega)]) (by rw [zu_ne _ _ _ (by omega), jcodef (by omega)]) h.2.2.2.1
theorem t_type {KC KS A sn q i : Nat} {sx : Nat → Int32} {M : zM} (h : INV M A KC KS (q + 1)) (hi : i + 5 ≤ sn) (hn : sn ≤ 2560) (hc : sx i &&& 15 = 0) : lTurn KC KS A sn sx q i M := by
  obtain ⟨n, n1, n2, n3, n4⟩ := h.2.2.1
  have hL := h.1.1
  have e0 : zsh M A = some (.inl 8) := zLs0 hL 0 rfl
  obtain ⟨c, c1, c2⟩ := chr_c (sx (i + 1))
  have z1 : zi M A 1 = nI n := n2
  by_cases hlt : n < 150
  · have hM4 : zJo (zpi (zpi M (A + 1) n (nI c)) A 1 (nI (n + 1))) A = zu (zu (zJo M A) 1 n (nI c)) 0 1 (nI (n + 1)) := by rw [zJo_pi0, zJo_pi]
    have hJ4 : zJo (fgM (zpi (zpi M (A + 1) n (nI c)) A 1 (nI (n + 1))) A) (A + 32) = zJo M (A + 32) := by rw [fgM_J, zJo_pin (by omega), zJo_pin (by omega)]
    refine tn_0 hi hn hc (w := true) (M5 := fgM (zpi (zpi M (A + 1) n (nI c)) A 1 (nI (n + 1))) A) (J := jLeave (zu (zu (zu (zJo M (A + 32)) 0 0 0) 1 n (nI c)) 0 2 (nI (n + 1)))) e0 (ev_mono (eD_forget (M := zpi (zpi M (A + 1) n (nI c)) A 1 (nI (n + 1))) (KC := KC) (KS := KS) hL) (fun N hN => ?_)) (ev_mono (eM_leave (zu (zu (zu (zJo M (A + 32)) 0 0 0) 1 n (nI c)) 0 2 (nI (n + 1)))) (fun N hN => ?_)) ?_ ?_
    · unfold FD_type
      rw [c2, z1, if_pos (by rw [show (150 : Int32) = nI 150 from rfl, nI_ltI (by omega) (by omega)]; omega), qk_t (chr_ok c1), qa_s (zLr0 hL 39 rfl) (zLs hL 1 rfl) (qi_nI hlt (by omega))]
      simp only
      rw [nI_clamp (by omega), zi_pi, if_neg (by omega), z1, nI_add1, hN, qb_some]
    · unfold FM_type
      simp only
      rw [c2, hJ4, jcode (by omega), n3, if_neg (by rw [show (150 : Int32) = nI 150 from rfl]; intro e; have := congrArg Int32.toInt e; rw [nI_toInt (by omega), nI_toInt (by omega)] at this; omega), qk_t (chr_ok c1), qk_t (qi_nI hlt (by omega)), nI_clamp (by omega)]
      rw [zu_at, if_neg (by omega), jcode (by omega), n3, nI_add1, hN, qb_some]
    · refine ⟨fun q hq => by rw [fgM_sh]; exact h.1.2.1.1 q hq, fun q hq => ?_⟩
      have hk : ∀ q ∈ mRf, q.1 = 0 := by decide
      have := hk q hq
      rw [fgM_r, if_neg (by omega)]
      exact h.1.2.1.2 q hq
    · refine INV_leave h (by omega) rfl rfl rfl rfl ⟨n + 1, by omega, ?_, by rw [zu_self], fun k hk => ?_⟩ ?_
      · rw [hM4, zu_self]
      · have e1 : zu (zu (zJo M A) 1 n (nI c)) 0 1 (nI (n + 1)) 1 k = if k = n then nI c else zJo M A 1 k := by
          rw [zu_at, if_neg (by omega), zu_at]
          by_cases hkn : k = n
          · rw [if_pos ⟨rfl, hkn⟩, if_pos hkn]
          · rw [if_neg (by omega), if_neg hkn]
        have e2 : zu (zu (zu (zJo M (A + 32)) 0 0 0) 1 n (nI c)) 0 2 (nI (n + 1)) 1 k = if k = n then nI c else zJo M (A + 32) 1 k := by
          rw [zu_at, if_neg (by omega), zu_at]
          by_cases hkn : k = n
          · rw [if_pos ⟨rfl, hkn⟩, if_pos hkn]
          · rw [if_neg (by omega), if_neg hkn, jcode (by omega)]
        rw [hM4, e1, e2]
        by_cases hkn : k = n
        · rw [if_pos hkn, if_pos hkn]
          exact ⟨rfl, c, c1, rfl⟩
        · rw [if_neg hkn, if_neg hkn]
          exact n4 k (by omega)
      · rw [hM4]
        exact iBuf_c (by rw [zu_at, if_neg (by omega), zu_at, if_neg (by omega)]) (by rw [zu_ne _ _ _ (by omega), zu_ne _ _ _ (by omega)]) (by rw [zu_at, if_neg (by omega), zu_at, if_neg (by omega), jcode (by omega)]) (by rw [zu_ne _ _ _ (by omega), zu_ne _ _ _ (by omega), jcodef (by omega)]) h.2.2.2.1
  · have hn150 : n = 150 := by omega
    refine tn_0 hi hn hc (w := false) (M5 := M) (J := zu (zJo M (A + 32)) 0 0 0) e0 (ev_of (fun N => ?_)) (ev_of (fun N => ?_)) h.1.2.1 (INV_code (M5 := M) h rfl rfl rfl rfl (Nat.le_refl _) (by omega) (by omega) 0)
    · unfold FD_type
      rw [z1, hn150, if_neg (by decide)]
    · unfold FM_type
      simp only
      rw [jcode (by omega), n3, hn150, if_pos (by decide)]
theorem t_none {KC KS A sn q i : Nat} {sx : Nat → Int32} {M : zM} (h : INV M A KC KS (q + 1)) (hi : i + 5 ≤ sn) (hn : sn ≤ 2560) (hc : ∀ k : Nat, k < 12 → sx i &&& 15 ≠ nI k) : lTurn KC KS A sn sx q i M := by
  refine ⟨M, INV_le (by omega) h, ev_of (fun N K => ?_)⟩
  have e : (nI i).toNatClampNeg = i := nI_clamp (by omega)
  rw [lc_d (l_b0 hi hn) (l_qi hi hn 0 (by omega)) (by rw [e]; exact hc 0 (by omega)) (by rw [e]; exact hc 1 (by omega)) (by rw [e]; exact hc 2 (by omega)) (by rw [e]; exact hc 3 (by omega)) (by rw [e]; exact hc 4 (by omega)) (by rw [e]; exact hc 5 (by omega)) (by rw [e]; exact hc 6 (by omega)) (by rw [e]; exact hc 7 (by omega)) (by rw [e]; exact hc 8 (by omega)) (by rw [e]; exact hc 9 (by omega)) (by rw [e]; exact hc 10 (by omega)) (by rw [e]; exact hc 11 (by omega)), nI_p5]
