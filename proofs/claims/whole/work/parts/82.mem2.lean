/-! MEMORY AND INVARIANT: what changes where -/
theorem zJo_at (M : zM) (A c k : Nat) : zJo M A c k = zi M (A + c) k := rfl
theorem zJo_pi (M : zM) (A c k : Nat) (v : Int32) : zJo (zpi M (A + c) k v) A = zu (zJo M A) c k v := by
  funext c' k'
  rw [zJo_at, zi_pi, zu_at, zJo_at]
  by_cases h : c' = c ∧ k' = k
  · rw [if_pos h, if_pos ⟨by omega, h.2⟩]
  · rw [if_neg h, if_neg (by omega)]
theorem zJo_pi0 (M : zM) (A k : Nat) (v : Int32) : zJo (zpi M A k v) A = zu (zJo M A) 0 k v := zJo_pi M A 0 k v
theorem zJo_pin {M : zM} {B a k : Nat} {v : Int32} (h : a < B) : zJo (zpi M a k v) B = zJo M B := by
  funext c' k'
  rw [zJo_at, zi_pi, zJo_at, if_neg (by omega)]
theorem zJo_mm {M : zM} {A n : Nat} {J : zJ} {c : Nat} (h : c < n) : zJo (zmm M A n J) A c = J c := zmm_i M A J h
theorem zJo_mmo {M : zM} {A B n : Nat} {J : zJ} {c : Nat} (h : A + c < B ∨ B + n ≤ A + c) : zJo (zmm M B n J) A c = zJo M A c := zmm_o M B n J (by omega)
theorem zmm_sh (M : zM) (A n : Nat) (J : zJ) : zsh (zmm M A n J) = zsh M := rfl
theorem zmm_r (M : zM) (A n : Nat) (J : zJ) : zr (zmm M A n J) = zr M := rfl
theorem zmm_l (M : zM) (A n : Nat) (J : zJ) : zl (zmm M A n J) = zl M := rfl
theorem zmm_sz (M : zM) (A n : Nat) (J : zJ) : zsz (zmm M A n J) = zsz M := rfl
theorem zmm_sl (M : zM) (A n : Nat) (J : zJ) : zsl (zmm M A n J) = zsl M := rfl
theorem qa_s {β : Type} {a : Option Nat} {M : zM} {t b n : Nat} {i : Int32} {f : Nat → Option β} (ha : a = some b) (hs : zsh M b = some (.inr (t, n))) (hi : qi i n = true) : qa a M t i f = f b := by
  subst ha
  unfold qa
  simp only [hs]
  rw [if_pos ⟨trivial, hi⟩]
theorem ql_s {β : Type} {a : Option Nat} {M : zM} {t b n : Nat} {f : Nat → Nat → Option β} (ha : a = some b) (hs : zsh M b = some (.inr (t, n))) : ql a M t f = f b n := by
  subst ha
  unfold ql
  simp only [hs]
  rw [if_pos trivial]
theorem qo_s {β : Type} {a : Option Nat} {M : zM} {ci b : Nat} {f : Nat → Option β} (ha : a = some b) (hs : zsh M b = some (.inl ci)) : qo a M ci f = f b := by
  subst ha
  unfold qo
  simp only [hs]
  rw [if_pos trivial]
theorem iTxt_c {D D' J J' : zJ} (h1 : D' 0 1 = D 0 1) (h2 : D' 1 = D 1) (h3 : J' 0 2 = J 0 2) (h4 : J' 1 = J 1) (h : iTxt D J) : iTxt D' J' := by
  unfold iTxt at h ⊢
  rw [h1, h2, h3, h4]
  exact h
theorem iBuf_c {D D' J J' : zJ} (h1 : D' 0 5 = D 0 5) (h2 : D' 6 = D 6) (h3 : J' 0 27 = J 0 27) (h4 : J' 18 = J 18) (h : iBuf D J) : iBuf D' J' := by
  unfold iBuf at h ⊢
  rw [h1, h2, h3, h4]
  exact h
theorem iVal_c {D D' J J' : zJ} (h1 : D' 8 0 = D 8 0) (h2 : D' 9 = D 9) (h3 : D' 10 = D 10) (h4 : D' 11 = D 11) (h5 : D' 12 = D 12) (h6 : D' 13 = D 13) (h7 : D' 15 = D 15) (g1 : J' 0 44 = J 0 44) (g2 : J' 29 = J 29) (g3 : J' 30 = J 30) (h : iVal D J) : iVal D' J' := by
  unfold iVal at h ⊢
  rw [h1, h2, h3, h4, h5, h6, h7, g1, g2, g3]
  exact h
theorem iMod_c {M M' : zM} {A : Nat} {D D' J J' : zJ} (hg : zag M M') (hr : zr M' (A + 3) = zr M (A + 3)) (h1 : D' 0 3 = D 0 3) (h2 : J' 0 1 = J 0 1) (h3 : J' 3 = J 3) (h4 : ∀ c k, 4 ≤ c → c ≤ 15 → J' c k = J c k) (h : iMod M A D J) : iMod M' A D' J' := by
  obtain ⟨q1, q2⟩ := h
  refine ⟨by rw [h1, h2]; exact q1, ?_⟩
  rcases q2 with q2 | ⟨q2, q3⟩
  · exact Or.inl (by rw [h2]; exact q2)
  · refine Or.inr ⟨by rw [h2]; exact q2, fun c hc => ?_⟩
    rw [hr, h3]
    rcases q3 c hc with q | ⟨a, t, e1, e2, e4, e3⟩
    · exact Or.inl q
    · exact Or.inr ⟨a, t, e1, e2, wfT_c h4 6 t e4, rep_mono hg h4 6 a t e3⟩
theorem iOps_c {M M' : zM} {A : Nat} {D D' J J' : zJ} (hg : zag M M') (hr : zr M' (A + 28) = zr M (A + 28)) (h1 : D' 29 = D 29) (h2 : D' 30 = D 30) (h3 : J' 36 = J 36) (h4 : J' 37 = J 37) (h5 : J' 38 = J 38) (h6 : ∀ c k, 4 ≤ c → c ≤ 15 → J' c k = J c k) (h : iOps M A D J) : iOps M' A D' J' := by
  intro k hk
  rw [hr, h1, h2, h3, h4, h5]
  rcases h k hk with q | ⟨a, t, e1, e2, e5, e3, e4⟩
  · exact Or.inl q
  · exact Or.inr ⟨a, t, e1, e2, wfT_c h6 6 t e5, rep_mono hg h6 6 a t e3, e4⟩
theorem iSrv_c {M M' : zM} {A : Nat} {J J' : zJ} (hl : zl M' (A + 31) = zl M (A + 31)) (h : J' 39 = J 39) (h0 : iSrv M A J) : iSrv M' A J' := by
  unfold iSrv at h0 ⊢
  rw [hl, h]
  exact h0
/-- an object of the desk's or the reference's fixed cells is no type and no member -/
theorem iLay_zag {M : zM} {A : Nat} (h : iLay M A) (D J : zJ) : zag M (zmm (zmm M A 32 D) (A + 32) 40 J) := by
  intro b ci hci hs
  have h1 := zag_d h.1 D b ci hci hs
  refine ⟨hs, ?_, rfl⟩
  rw [zmm_o, h1.2.1]
  rintro ⟨q1, q2⟩
  obtain ⟨k, rfl⟩ := Nat.exists_eq_add_of_le q1
  have hk : k < 40 := by omega
  have h3 : ∀ k : Fin 40, mShL[(k : Nat)]? = some ((k : Nat), (mShL.getD k (0, .inl 0)).2) ∧ (mShL.getD k (0, .inl 0)).2 ≠ .inl 6 ∧ (mShL.getD k (0, .inl 0)).2 ≠ .inl 1 := by decide
  obtain ⟨h4, h5, h6⟩ := h3 ⟨k, hk⟩
  have h7 := zLs h.2.1 k h4
  rw [h7] at hs
  rcases hci with rfl | rfl
  · exact h5 (Option.some.inj hs)
  · exact h6 (Option.some.inj hs)
/-- ints of fixed cells have changed, cells have been made of which nothing is told -/
theorem INV_go {M M' : zM} {A KC KS q q' : Nat} {D J : zJ} (h : INV M A KC KS q) (hsh : zsh M' = zsh M) (hrr : zr M' = zr M) (hll : zl M' (A + 31) = zl M (A + 31)) (hz1 : zsz M ≤ zsz M') (hz2 : zsz M' + q' ≤ zsz M + q) (hz3 : zsl M' + 6 * q' ≤ zsl M + 6 * q) (hg : zag M M') (hD : ∀ c, c < 32 → zJo M' A c = D c) (hJ : ∀ c, c < 40 → zJo M' (A + 32) c = J c)
    (hT : iTxt D J) (hB : iBuf D J) (hV : iVal D J) (h3 : D 0 3 = zJo M A 0 3) (h29 : D 29 = zJo M A 29) (h30 : D 30 = zJo M A 30) (j1 : J 0 1 = zJo M (A + 32) 0 1) (j3 : J 3 = zJo M (A + 32) 3) (jt : ∀ c k, 4 ≤ c → c ≤ 15 → J c k = zJo M (A + 32) c k) (j36 : J 36 = zJo M (A + 32) 36) (j37 : J 37 = zJo M (A + 32) 37) (j38 : J 38 = zJo M (A + 32) 38) (j39 : J 39 = zJo M (A + 32) 39) :
    INV M' A KC KS q' := by
  obtain ⟨⟨l1, l2, l3⟩, ⟨a, b, p1, p2, p3, p4, p5⟩, i3, i4, i5, i6, i7, i8⟩ := h
  refine ⟨⟨?_, ?_, by rw [hsh]; exact l3⟩, ⟨a, b, ?_, by omega, by omega, by omega, fun x s hx => Nat.lt_of_lt_of_le (p5 x s (by rw [← hsh]; exact hx)) hz1⟩, ?_, ?_, ?_, ?_, ?_, ?_⟩
  · unfold zLy; rw [hsh, hrr]; exact l1
  · unfold zLy; rw [hsh, hrr]; exact l2
  · unfold iPool; rw [hsh, hrr]; exact p1
  · exact iTxt_c (by rw [hD 0 (by omega)]) (hD 1 (by omega)) (by rw [hJ 0 (by omega)]) (hJ 1 (by omega)) hT
  · exact iBuf_c (by rw [hD 0 (by omega)]) (hD 6 (by omega)) (by rw [hJ 0 (by omega)]) (hJ 18 (by omega)) hB
  · exact iVal_c (by rw [hD 8 (by omega)]) (hD 9 (by omega)) (hD 10 (by omega)) (hD 11 (by omega)) (hD 12 (by omega)) (hD 13 (by omega)) (hD 15 (by omega)) (by rw [hJ 0 (by omega)]) (hJ 29 (by omega)) (hJ 30 (by omega)) hV
  · exact iMod_c hg (by rw [hrr]) (by rw [hD 0 (by omega), h3]) (by rw [hJ 0 (by omega), j1]) (by rw [hJ 3 (by omega), j3]) (fun c k c1 c2 => by rw [hJ c (by omega), jt c k c1 c2]) i6
  · exact iOps_c hg (by rw [hrr]) (by rw [hD 29 (by omega), h29]) (by rw [hD 30 (by omega), h30]) (by rw [hJ 36 (by omega), j36]) (by rw [hJ 37 (by omega), j37]) (by rw [hJ 38 (by omega), j38]) (fun c k c1 c2 => by rw [hJ c (by omega), jt c k c1 c2]) i7
  · exact iSrv_c hll (by rw [hJ 39 (by omega), j39]) i8
theorem INV_le {M : zM} {A KC KS q q' : Nat} (hq : q' ≤ q) (h : INV M A KC KS q) : INV M A KC KS q' := by
  obtain ⟨i1, ⟨a, b, p1, p2, p3, p4⟩, i3⟩ := h
  exact ⟨i1, ⟨a, b, p1, by omega, by omega, p4⟩, i3⟩
