/-! THE LAW'S TURN: what all cases share -/
theorem iLay_out {M : zM} {A : Nat} (h : iLay M A) {b ci : Nat} (hci : ci = 6 ∨ ci = 1) (hs : zsh M b = some (.inl ci)) : ¬ (A ≤ b ∧ b < A + 72) := by
  rintro ⟨q1, q2⟩
  obtain ⟨k, rfl⟩ := Nat.exists_eq_add_of_le q1
  by_cases hk : k < 32
  · have h3 : ∀ k : Fin 32, dShL[(k : Nat)]? = some ((k : Nat), (dShL.getD k (0, .inl 0)).2) ∧ (dShL.getD k (0, .inl 0)).2 ≠ .inl 6 ∧ (dShL.getD k (0, .inl 0)).2 ≠ .inl 1 := by decide
    obtain ⟨h4, h5, h6⟩ := h3 ⟨k, hk⟩
    rw [zLs h.1 k h4] at hs
    rcases hci with rfl | rfl
    · exact h5 (Option.some.inj hs)
    · exact h6 (Option.some.inj hs)
  · obtain ⟨j, rfl⟩ := Nat.exists_eq_add_of_le (show 32 ≤ k by omega)
    have h3 : ∀ k : Fin 40, mShL[(k : Nat)]? = some ((k : Nat), (mShL.getD k (0, .inl 0)).2) ∧ (mShL.getD k (0, .inl 0)).2 ≠ .inl 6 ∧ (mShL.getD k (0, .inl 0)).2 ≠ .inl 1 := by decide
    obtain ⟨h4, h5, h6⟩ := h3 ⟨j, by omega⟩
    rw [← Nat.add_assoc, zLs h.2.1 j h4] at hs
    rcases hci with rfl | rfl
    · exact h5 (Option.some.inj hs)
    · exact h6 (Option.some.inj hs)
theorem zag_out {M M' : zM} {A : Nat} (h : iLay M A) (hsh : zsh M' = zsh M) (hrr : zr M' = zr M) (hi : ∀ x, ¬ (A ≤ x ∧ x < A + 72) → zi M' x = zi M x) : zag M M' := by
  intro b ci hci hs
  exact ⟨by rw [hsh]; exact hs, hi b (iLay_out h hci hs), by rw [hrr]⟩
theorem jcode {J : zJ} {v : Int32} {c k : Nat} (h : ¬ (c = 0 ∧ k = 0)) : zu J 0 0 v c k = J c k := by rw [zu_at, if_neg h]
theorem jcodef {J : zJ} {v : Int32} {c : Nat} (h : c ≠ 0) : zu J 0 0 v c = J c := zu_ne _ _ _ h
/-- a call that changes nothing but the reference's code -/
theorem INV_code {M M5 : zM} {A KC KS q q' : Nat} (h : INV M A KC KS q) (hi : zi M5 = zi M) (hsh : zsh M5 = zsh M) (hrr : zr M5 = zr M) (hll : zl M5 (A + 31) = zl M (A + 31)) (hz1 : zsz M ≤ zsz M5) (hz2 : zsz M5 + q' ≤ zsz M + q) (hz3 : zsl M5 + 6 * q' ≤ zsl M + 6 * q) (v : Int32) : INV (zmm M5 (A + 32) 40 (zu (zJo M5 (A + 32)) 0 0 v)) A KC KS q' := by
  have e1 : zJo M5 (A + 32) = zJo M (A + 32) := by unfold zJo; rw [hi]
  have e2 : zJo M5 A = zJo M A := by unfold zJo; rw [hi]
  rw [e1]
  refine INV_go (D := zJo M A) (J := zu (zJo M (A + 32)) 0 0 v) h hsh hrr hll hz1 hz2 hz3 (zag_out h.1 hsh hrr (fun x hx => ?_)) (fun c hc => ?_) (fun c hc => zJo_mm hc) ?_ ?_ ?_ rfl rfl rfl (jcode (by omega)) (jcodef (by omega)) (fun c k c1 c2 => jcode (by omega)) (jcodef (by omega)) (jcodef (by omega)) (jcodef (by omega)) (jcodef (by omega))
  · rw [zmm_o _ _ _ _ (by omega), hi]
  · rw [zJo_mmo (by omega), e2]
  · exact iTxt_c rfl rfl (jcode (by omega)) (jcodef (by omega)) h.2.2.1
  · exact iBuf_c rfl rfl (jcode (by omega)) (jcodef (by omega)) h.2.2.2.1
  · exact iVal_c rfl rfl rfl rfl rfl rfl rfl (jcode (by omega)) (jcodef (by omega)) (jcodef (by omega)) h.2.2.2.2.1
theorem l_b0 {i sn : Nat} (h : i + 5 ≤ sn) (hn : sn ≤ 2560) : ¬ ((nI sn) - 5) < nI i := by
  have : (nI sn - 5 : Int32) = nI (sn - 5) := nI_subs (b := 5) (by omega)
  rw [this, nI_ltI (by omega) (by omega)]
  omega
theorem l_qi {i sn : Nat} (h : i + 5 ≤ sn) (hn : sn ≤ 2560) (j : Nat) (hj : j ≤ 4) : qi (nI (i + j)) sn = true := qi_nI (by omega) (by omega)
theorem lg_cmp0 {x y : Int64} (h : x = y) : lg_cmp x y = 0 := by
  subst h
  unfold lg_cmp
  rw [if_neg (by simp), if_pos rfl]
/-- what the law does behind a call of the reference that may throw, where an answer is compared -/
theorem l_tail {N A : Nat} {M5 : zM} {J : zJ} {K : (Int32 × zM) → Option (Bool × zM)} {v b y : Int32} (hL : zLy M5 (A + 32) mShL mRf) (hs : zsh M5 (A + 72) = some (.inr (2, 1))) (hc : J 0 0 = v) (hv : v = 0 → zl M5 (A + 72) 0 = b.toInt64) :
    (qk (mLyB (zmm M5 (A + 32) 40 J) (A + 32)) <| qb (FM_thrown N (zJo (zmm M5 (A + 32) 40 J) (A + 32))) fun w J2 => if w = v then (if v = 0 then qa (some (A + 72)) (zmm (zmm M5 (A + 32) 40 J) (A + 32) 40 J2) 2 0 fun a => if (lg_cmp (zl (zmm (zmm M5 (A + 32) 40 J) (A + 32) 40 J2) a (0 : Int32).toNatClampNeg) b.toInt64) = 0 then K (y, zmm (zmm M5 (A + 32) 40 J) (A + 32) 40 J2) else some (false, zmm (zmm M5 (A + 32) 40 J) (A + 32) 40 J2) else K (y, zmm (zmm M5 (A + 32) 40 J) (A + 32) 40 J2)) else some (false, zmm (zmm M5 (A + 32) 40 J) (A + 32) 40 J2)) = K (y, zmm M5 (A + 32) 40 J) := by
  rw [qk_t (mLyB_of (M := zmm M5 (A + 32) 40 J) hL)]
  unfold FM_thrown
  simp only [qb]
  rw [zmm_J, show zJo (zmm M5 (A + 32) 40 J) (A + 32) 0 0 = v from by rw [zJo_mm (by omega), hc], if_pos rfl]
  by_cases h0 : v = 0
  · rw [if_pos h0, qa_s (M := zmm M5 (A + 32) 40 J) (i := 0) (n := 1) rfl hs (by decide)]
    exact if_pos (lg_cmp0 (hv h0))
  · rw [if_neg h0]
theorem qtI_v {cs : List String} {out : Nat} {v : Int32} {M : zM} (hs : zsh M out = some (.inr (2, 1))) : qtI cs out (.inl v) M = some (0, zpl M out 0 v.toInt64) := by
  unfold qtI
  simp only
  rw [qa_s (n := 1) rfl hs (by decide)]
  rfl
theorem zl_out (M : zM) (A : Nat) (v : Int64) : zl (zpl M (A + 72) 0 v) (A + 31) = zl M (A + 31) := by
  funext k
  rw [zl_pl, if_neg (by omega)]
theorem zl_outs (M : zM) (A : Nat) (v : Int64) : zl (zpl M (A + 72) 0 v) (A + 72) 0 = v := by
  rw [zl_pl, if_pos ⟨rfl, rfl⟩]
/-- a turn of the law: from M at i to some memory at i + 5 -/
def lTurn (KC KS A sn : Nat) (sx : Nat → Int32) (q i : Nat) (M : zM) : Prop := ∃ M', INV M' A KC KS q ∧ Ev (fun N => ∀ K, FL_law_23 N KC KS sn sx A (A + 32) (A + 72) K (nI i, M) = K (nI (i + 5), M'))
theorem nI_p1 (i : Nat) : nI i + 1 = nI (i + 1) := nI_1 i
theorem nI_p2 (i : Nat) : nI i + 2 = nI (i + 2) := nI_add i 2
theorem nI_p3 (i : Nat) : nI i + 3 = nI (i + 3) := nI_add i 3
theorem nI_p4 (i : Nat) : nI i + 4 = nI (i + 4) := nI_add i 4
theorem nI_p5 (i : Nat) : nI i + 5 = nI (i + 5) := nI_add i 5
