/-! TRANSCODE: the turn -/
theorem zJo_mmE {M : zM} {A : Nat} {J : zJ} (h : ∀ c, 32 ≤ c → J c = zJo M A c) : zJo (zmm M A 32 J) A = J := by
  funext c
  by_cases hc : c < 32
  · rw [zJo_mm hc]
  · rw [zJo_mmo (by omega), h c (by omega)]
theorem zmm_mm (M : zM) (A n : Nat) (J1 J2 : zJ) : zmm (zmm M A n J1) A n J2 = zmm M A n J2 := by
  have e : zi (zmm (zmm M A n J1) A n J2) = zi (zmm M A n J2) := by
    funext a
    by_cases ha : A ≤ a ∧ a < A + n
    · obtain ⟨j, rfl⟩ := Nat.exists_eq_add_of_le ha.1
      rw [zmm_i _ _ _ (by omega), zmm_i _ _ _ (by omega)]
    · rw [zmm_o _ _ _ _ ha, zmm_o _ _ _ _ ha, zmm_o _ _ _ _ ha]
  show (M.1, zi (zmm (zmm M A n J1) A n J2), M.2.2) = (M.1, zi (zmm M A n J2), M.2.2)
  rw [e]
theorem INV_gs {M M' : zM} {A KC KS q q' : Nat} {D J : zJ} (h : INV M A KC KS q) (hsh : zsh M' = zsh M) (hrr : zr M' = zr M) (hz1 : zsz M ≤ zsz M') (hz2 : zsz M' + q' ≤ zsz M + q) (hz3 : zsl M' + 6 * q' ≤ zsl M + 6 * q) (hg : zag M M') (hD : ∀ c, c < 32 → zJo M' A c = D c) (hJ : ∀ c, c < 40 → zJo M' (A + 32) c = J c)
    (hT : iTxt D J) (hB : iBuf D J) (hV : iVal D J) (h3 : D 0 3 = zJo M A 0 3) (h29 : D 29 = zJo M A 29) (h30 : D 30 = zJo M A 30) (j1 : J 0 1 = zJo M (A + 32) 0 1) (j3 : J 3 = zJo M (A + 32) 3) (jt : ∀ c k, 4 ≤ c → c ≤ 15 → J c k = zJo M (A + 32) c k) (j36 : J 36 = zJo M (A + 32) 36) (j37 : J 37 = zJo M (A + 32) 37) (j38 : J 38 = zJo M (A + 32) 38) (hS : iSrv M' A J) :
    INV M' A KC KS q' := by
  obtain ⟨⟨l1, l2, l3⟩, ⟨a, b, p1, p2, p3, p4, p5⟩, i3, i4, i5, i6, i7, i8⟩ := h
  refine ⟨⟨?_, ?_, by rw [hsh]; exact l3⟩, ⟨a, b, ?_, by omega, by omega, by omega, fun x s hx => Nat.lt_of_lt_of_le (p5 x s (by rw [← hsh]; exact hx)) hz1⟩, ?_, ?_, ?_, ?_, ?_, ?_⟩
  · unfold zLy; rw [hsh, hrr]; exact l1
  · unfold zLy; rw [hsh, hrr]; exact l2
  · unfold iPool; rw [hsh, hrr]; exact p1
  · exact iTxt_c (by rw [hD 0 (by omega)]) (hD 1 (by omega)) (by rw [hJ 0 (by omega)]) (hJ 1 (by omega)) hT
  · exact iBuf_c (by rw [hD 0 (by omega)]) (hD 6 (by omega)) (by rw [hJ 0 (by omega)]) (hJ 18 (by omega)) hB
  · exact iVal_c (by rw [hD 8 (by omega)]) (hD 9 (by omega)) (hD 10 (by omega)) (hD 11 (by omega)) (hD 12 (by omega)) (hD 13 (by omega)) (hD 15 (by omega)) (by rw [hJ 0 (by omega)]) (hJ 29 (by omega)) (hJ 30 (by omega)) hV
  · exact iMod_c hg (by rw [hrr]) (by rw [hD 0 (by omega), h3]) (by rw [hJ 0 (by omega), j1]) (by rw [hJ 3 (by omega), j3]) (fun c k c1 c2 => by rw [hJ c (by omega), jt c k c1 c2]) i6
  · exact iOps_c hg (by rw [hrr]) (by rw [hD 29 (by omega), h29]) (by rw [hD 30 (by omega), h30]) (by rw [hJ 36 (by omega), j36]) (by rw [hJ 37 (by omega), j37]) (by rw [hJ 38 (by omega), j38]) (fun c k c1 c2 => by rw [hJ c (by omega), jt c k c1 c2]) i7
  · exact iSrv_c rfl (hJ 39 (by omega)) hS
/-- what stays, on either side, while values are read and written -/
def dX (D D' : zJ) : Prop := (∀ c, c = 1 ∨ (28 ≤ c ∧ c ≤ 31) ∨ 32 ≤ c → D' c = D c) ∧ ∀ k, k ≠ 5 → D' 0 k = D 0 k
def jx (c k : Nat) : Prop := c = 1 ∨ (3 ≤ c ∧ c ≤ 15) ∨ (36 ≤ c ∧ c ≤ 38) ∨ (c = 0 ∧ (k = 1 ∨ k = 2))
def jX (J J' : zJ) : Prop := ∀ c k, jx c k → J' c k = J c k
theorem jX_trans {J J1 J2 : zJ} (h1 : jX J J1) (h2 : jX J1 J2) : jX J J2 := fun c k h => (h2 c k h).trans (h1 c k h)
theorem dX_trans {J J1 J2 : zJ} (h1 : dX J J1) (h2 : dX J1 J2) : dX J J2 := ⟨fun c h => (h2.1 c h).trans (h1.1 c h), fun k h => (h2.2 k h).trans (h1.2 k h)⟩
theorem jX_c {J J' : zJ} (h : jX J J') {c : Nat} (hc : ∀ k, jx c k) : J' c = J c := funext (fun k => h c k (hc k))
theorem jX_ty {T J J' : zJ} (h : jX J J') (hT : tyEq T J) : tyEq T J' := fun c k c1 c2 => by rw [h c k (by unfold jx; omega)]; exact hT c k c1 c2
/-- the invariant where only buffer, value and code have changed -/
theorem INV_v {M M5 : zM} {A KC KS q q' : Nat} {D J : zJ} (h : INV M A KC KS q) (hsh : zsh M5 = zsh M) (hrr : zr M5 = zr M) (hi : zi M5 = zi (zmm M A 32 D)) (hz1 : zsz M ≤ zsz M5) (hz2 : zsz M5 + q' ≤ zsz M + q) (hz3 : zsl M5 + 6 * q' ≤ zsl M + 6 * q) (hB : iBuf D J) (hV : iVal D J) (hd : dX (zJo M A) D) (hj : jX (zJo M (A + 32)) J) (hS : iSrv M5 A J) : INV (zmm M5 (A + 32) 40 J) A KC KS q' := by
  refine INV_gs (D := D) (J := J) h hsh hrr hz1 hz2 hz3 (zag_out h.1 hsh hrr (fun x hx => ?_)) (fun c hc => ?_) (fun c hc => zJo_mm hc) ?_ hB hV (hd.2 3 (by omega)) (hd.1 29 (by omega)) (hd.1 30 (by omega)) (hj 0 1 (by unfold jx; omega)) (jX_c hj (fun k => by unfold jx; omega)) (fun c k c1 c2 => hj c k (by unfold jx; omega)) (jX_c hj (fun k => by unfold jx; omega)) (jX_c hj (fun k => by unfold jx; omega)) (jX_c hj (fun k => by unfold jx; omega)) (iSrv_c rfl rfl hS)
  · rw [zmm_o _ _ _ _ (by omega), hi, zmm_o _ _ _ _ (by omega)]
  · rw [zJo_mmo (by omega)]
    show zi M5 (A + c) = _
    rw [hi, zmm_i _ _ _ hc]
  · exact iTxt_c (hd.2 1 (by omega)) (hd.1 1 (by omega)) (hj 0 2 (by unfold jx; omega)) (jX_c hj (fun k => by unfold jx; omega)) h.2.2.1
theorem buf_src {D J : zJ} {n : Nat} (hb : ∀ k, k < n → D 6 k = J 18 k ∧ ∃ b, b < 256 ∧ J 18 k = nI b) (st L : Nat) (hL : st + L = n) : ∃ src : Nat → Nat, sOK src ∧ (∀ k, k < L → D 6 (st + k) = nI (src k)) ∧ (∀ k, k < L → J 18 (st + k) = nI (src k)) := by
  refine ⟨fun k => if st + k < n then (J 18 (st + k)).toNatClampNeg else 0, fun k => ?_, fun k hk => ?_, fun k hk => ?_⟩
  · show (if _ then _ else _) < _
    by_cases c : st + k < n
    · rw [if_pos c]
      obtain ⟨_, b, b1, b2⟩ := hb _ c
      rw [b2, nI_clamp (by omega)]
      exact b1
    · rw [if_neg c]
      omega
  · obtain ⟨b0, b, b1, b2⟩ := hb (st + k) (by omega)
    show _ = nI (if _ then _ else _)
    rw [if_pos (by omega), b0, b2, nI_clamp (by omega)]
  · obtain ⟨b0, b, b1, b2⟩ := hb (st + k) (by omega)
    show _ = nI (if _ then _ else _)
    rw [if_pos (by omega), b2, nI_clamp (by omega)]
/-- the buffer and the value stay too -/
def dY (D D' : zJ) : Prop := dX D D' ∧ D' 0 5 = D 0 5 ∧ D' 6 = D 6 ∧ ∀ c, 8 ≤ c → c ≤ 15 → D' c = D c
def jY (J J' : zJ) : Prop := jX J J' ∧ J' 0 0 = J 0 0 ∧ J' 0 27 = J 0 27 ∧ J' 0 44 = J 0 44 ∧ J' 18 = J 18 ∧ J' 29 = J 29 ∧ J' 30 = J 30 ∧ J' 39 = J 39
theorem jY_trans {J J1 J2 : zJ} (h1 : jY J J1) (h2 : jY J1 J2) : jY J J2 := by
  obtain ⟨a1, a2, a3, a4, a5, a6, a7, a8⟩ := h1
  obtain ⟨b1, b2, b3, b4, b5, b6, b7, b8⟩ := h2
  exact ⟨jX_trans a1 b1, b2.trans a2, b3.trans a3, b4.trans a4, b5.trans a5, b6.trans a6, b7.trans a7, b8.trans a8⟩
theorem dY_trans {J J1 J2 : zJ} (h1 : dY J J1) (h2 : dY J1 J2) : dY J J2 := ⟨dX_trans h1.1 h2.1, h2.2.1.trans h1.2.1, h2.2.2.1.trans h1.2.2.1, fun c a b => (h2.2.2.2 c a b).trans (h1.2.2.2 c a b)⟩
theorem jY_of {J J' : zJ} (h : ∀ c k, jx c k ∨ (c = 0 ∧ (k = 0 ∨ k = 27 ∨ k = 44)) ∨ c = 18 ∨ c = 29 ∨ c = 30 ∨ c = 39 → J' c k = J c k) : jY J J' :=
  ⟨fun c k hc => h c k (Or.inl hc), h _ _ (by omega), h _ _ (by omega), h _ _ (by omega), funext (fun k => h _ _ (by omega)), funext (fun k => h _ _ (by omega)), funext (fun k => h _ _ (by omega)), funext (fun k => h _ _ (by omega))⟩
theorem iBuf_Y {D D' J J' : zJ} (hd : dY D D') (hj : jY J J') (h : iBuf D J) : iBuf D' J' := iBuf_c hd.2.1 hd.2.2.1 hj.2.2.1 hj.2.2.2.2.1 h
theorem iVal_Y {D D' J J' : zJ} (hd : dY D D') (hj : jY J J') (h : iVal D J) : iVal D' J' := iVal_c (by rw [hd.2.2.2 8 (by omega) (by omega)]) (hd.2.2.2 9 (by omega) (by omega)) (hd.2.2.2 10 (by omega) (by omega)) (hd.2.2.2 11 (by omega) (by omega)) (hd.2.2.2 12 (by omega) (by omega)) (hd.2.2.2 13 (by omega) (by omega)) (hd.2.2.2 15 (by omega) (by omega)) hj.2.2.2.1 hj.2.2.2.2.2.1 hj.2.2.2.2.2.2.1 h
/-- both read -/
theorem x_read {M : zM} {D J T : zJ} {n st L a t l2 : Nat} (hn : n ≤ 120) (hL : st + L = n) (d5 : D 0 5 = nI n) (j27 : J 0 27 = nI n) (hb : ∀ k, k < n → D 6 k = J 18 k ∧ ∃ b, b < 256 ∧ J 18 k = nI b) (hw : wfT T 6 t) (hr : rep M T 6 a t) (hT : tyEq T J) (hl2 : l2 ≤ 2) :
    ∃ (r : Option Rs) (D1 J5 J9 : zJ), Ev (fun N => FD_readBuffer N M (some a) (nI l2) (nI st) D = some (r.isSome, D1)) ∧ Ev (fun N => FM_load N (nI st) J = some ((), J5)) ∧ Ev (fun N => FM_isValue N (nI t) (nI l2) J5 = some (r.isSome, J9)) ∧ dY D D1 ∧ jY J J5 ∧ jY J J9 ∧ (∀ v, r = some v → WV T 6 t t none (-1) 0 0 0 v.1 v.2.1 v.2.2.1 v.2.2.2 ∧ sH T D1 v.1.length 0 0 v.1 v.2.1 ∧ D1 16 8 = nI v.2.1.length ∧ vOk T J9 v) := by
  obtain ⟨src, s1, s2, s3⟩ := buf_src hb st L hL
  obtain ⟨D1, c1, c2, c3⟩ := c_read (M := M) (D := D) s1 hw hr (by rw [hL]; exact d5) s2 (by omega) hl2
  obtain ⟨J5, l1, l2', l3, l4⟩ := m_load (J := J) (st := st) (L := L) (by rw [hL]; exact j27) (by omega)
  have hY5 : jY J J5 := jY_of (fun c k hc => l4 c k (by unfold jx at hc; omega) (by unfold jx at hc; omega))
  obtain ⟨J9, v1, v2, v3⟩ := m_isValue (J := J5) (L := L) s1 hw (by omega) hl2 l2' (fun k hk => by rw [l3 k hk]; exact s3 k hk) (jX_ty hY5.1 hT)
  have hY9 : jY J5 J9 := jY_of (fun c k hc => v2 c k (by unfold jx at hc; unfold vWr mW; omega))
  refine ⟨rdV T src t L l2, D1, J5, J9, c1, l1, v1, ⟨⟨fun c hc => c2 c (by omega), fun k _ => by rw [c2 0 (by omega)]⟩, by rw [c2 0 (by omega)], c2 6 (by omega), fun c a b => c2 c (by omega)⟩, hY5, jY_trans hY5 hY9, fun v hv => ?_⟩
  obtain ⟨g1, g2, g3, g4⟩ := c3 v hv
  exact ⟨rdV_wv s1 hw (by omega) hv, g1, g2, v3 v hv⟩
theorem wB_b {T : zJ} {t l3 : Nat} {r : Rs} (hw : wfT T 6 t) (hv : WV T 6 t t none (-1) 0 0 0 r.1 r.2.1 r.2.2.1 r.2.2.2) (hl : (wB l3 r).length ≤ 2920) : ∀ b, b ∈ wB l3 r → b < 256 := by
  intro b hb
  unfold wB at hb hl
  by_cases c : l3 = 2
  · rw [if_pos c] at hb
    obtain ⟨k, _, rfl⟩ := List.mem_map.mp hb
    exact pby_lt _ _
  · rw [if_neg c] at hb hl
    exact wv_b 6 t t none (-1) 0 0 0 _ _ _ _ hw (fun d hd => by cases hd) hv (by omega) b hb
/-- both write -/
theorem x_write {M : zM} {D1 J9 T : zJ} {st a t l3 : Nat} {r : Rs} (hw : wfT T 6 t) (hr : rep M T 6 a t) (hT : tyEq T J9) (hv : WV T 6 t t none (-1) 0 0 0 r.1 r.2.1 r.2.2.1 r.2.2.2) (hH : sH T D1 r.1.length 0 0 r.1 r.2.1) (hk : vOk T J9 r) (hst : st ≤ 3) (hl3 : l3 = 1 ∨ l3 = 2) :
    ∃ (e : List Nat) (D2 J11 : zJ), e.length ≤ 2920 ∧ (∀ b, b ∈ e → b < 256) ∧ Ev (fun N => FM_write N (nI l3) J9 = some ((), J11)) ∧ J11 0 29 = nI e.length ∧ (∀ k b, e[k]? = some b → J11 20 k = nI b) ∧ dY D1 D2 ∧ jY J9 J11 ∧ vOk T J11 r ∧ sH T D2 r.1.length 0 0 r.1 r.2.1 ∧ D2 16 8 = D1 16 8 ∧
      ((st + e.length ≤ 120 ∧ Ev (fun N => FD_writeFound N M (some a) (nI l3) (nI st) D1 = some (nI (st + e.length), D2)) ∧ (∀ k b, e[k]? = some b → D2 7 (st + k) = nI b) ∧ ∀ k, k < st → D2 7 k = D1 7 k) ∨ (¬ st + e.length ≤ 120 ∧ Ev (fun N => FD_writeFound N M (some a) (nI l3) (nI st) D1 = some (-1, D2)))) := by
  obtain ⟨D2, c1, c2, c3⟩ := c_write (M := M) (D := D1) (st := st) hw hr hv hH (by omega) hl3
  obtain ⟨J11, m1, m2, m3, m4, m5⟩ := m_wr hw hv hT hk hl3
  refine ⟨wB l3 r, D2, J11, m3, wB_b hw hv m3, m1, m2, m4, ⟨⟨fun c hc => c1 c (by omega) (by omega) (by omega), fun k _ => by rw [c1 0 (by omega) (by omega) (by omega)]⟩, by rw [c1 0 (by omega) (by omega) (by omega)], c1 6 (by omega) (by omega) (by omega), fun c a b => c1 c (by omega) (by omega) (by omega)⟩, jY_of (fun c k hc => m5 c k (by unfold jx at hc; omega) (by unfold jx at hc; omega) (by unfold jx at hc; omega) (by unfold jx at hc; omega) (by unfold jx at hc; omega)), ?_, ?_, by rw [c1 16 (by omega) (by omega) (by omega)], ?_⟩
  · obtain ⟨k1, k2, k3, k4, k5, k6, k7⟩ := hk
    have w : ∀ c k, (c = 0 ∧ (k = 34 ∨ k = 35)) ∨ (21 ≤ c ∧ c ≤ 26) ∨ c = 28 → J11 c k = J9 c k := fun c k h => m5 c k (by omega) (by omega) (by omega) (by omega) (by omega)
    refine ⟨by rw [w _ _ (by omega)]; exact k1, by rw [w _ _ (by omega)]; exact k2, k3, k4, fun k P hP => ?_, fun k b hb => ?_, fun k P hP => ?_⟩
    · rw [w 21 _ (by omega), w 22 _ (by omega), w 23 _ (by omega), w 24 _ (by omega), w 25 _ (by omega)]
      exact k5 k P hP
    · rw [w 28 _ (by omega)]
      exact k6 k b hb
    · rw [w 26 _ (by omega)]
      exact k7 k P hP
  · obtain ⟨k1, k2, k3, k4, k5, k6⟩ := hH
    have w : ∀ c, 16 ≤ c → c ≤ 25 → D2 c = D1 c := fun c a b => c1 c (by omega) (by omega) (by omega)
    refine ⟨by rw [w 16 (by omega) (by omega)]; exact k1, k2, k3, fun k P hP => ?_, fun k b hb => ?_, k6⟩
    · rw [w 17 (by omega) (by omega), w 18 (by omega) (by omega), w 19 (by omega) (by omega), w 20 (by omega) (by omega), w 21 (by omega) (by omega), w 22 (by omega) (by omega)]
      exact k4 k P hP
    · rw [w 23 (by omega) (by omega)]
      exact k5 k b hb
  · rcases c3 with ⟨g1, g2, g3⟩ | ⟨g1, g2⟩
    · exact Or.inl ⟨g1, g2, g3, fun k hk => c2 k hk g1⟩
    · exact Or.inr ⟨g1, g2⟩
/-- both keep the value -/
theorem x_keep {D2 J11 T : zJ} {t : Nat} {r : Rs} (M : zM) (hw : wfT T 6 t) (hT : tyEq T J11) (hv : WV T 6 t t none (-1) 0 0 0 r.1 r.2.1 r.2.2.1 r.2.2.2) (hH : sH T D2 r.1.length 0 0 r.1 r.2.1) (h8 : D2 16 8 = nI r.2.1.length) (hk : vOk T J11 r) :
    ∃ D3 J13 : zJ, (∀ N, FV_copyOf N M D2 = some ((), D3)) ∧ Ev (fun N => FM_keep N J11 = some ((), J13)) ∧ iVal D3 J13 ∧ (∀ c, ¬ (8 ≤ c ∧ c ≤ 15) → D3 c = D2 c) ∧ kKp J11 J13 := by
  obtain ⟨k1, k2, k3, k4, k5, k6, k7⟩ := hk
  obtain ⟨s1, s2, s3, s4, s5, s6⟩ := hH
  have hp := wv_parts 6 (by omega) t t none (-1) 0 0 0 _ _ _ _ hw ⟨6, by omega, hw, rfl⟩ hv
  obtain ⟨D3, c1, c2, c3, c4, c5⟩ := c_copy (D := D2) M s1 h8 s2 k4
  obtain ⟨J13, m1, m2, m3, m4, m5⟩ := m_keep (os := r.2.1) hT (fun P hP => (hp P hP).1) k1 k2 k3 k4 k5 k6
  refine ⟨D3, J13, c1, m1, iVal_of k3 k4 (wv_ob _ _ _ _ _ _ _ _ _ _ _ _ hv) hp c2 m2 (fun k P hP => ?_) (fun k b hb => ?_) m3 m4, c5, m5⟩
  · obtain ⟨a1, a2, a3, a4, a5⟩ := c3 k (List.getElem?_eq_some_iff.mp hP).1
    obtain ⟨b1, b2, b3, b4, b5, _⟩ := s4 k P hP
    rw [Nat.zero_add] at b1 b2 b3 b4 b5
    exact ⟨a1.trans b1, a2.trans b2, a3.trans b3, a4.trans b4, a5.trans b5⟩
  · rw [c4 k (List.getElem?_eq_some_iff.mp hb).1]
    have := s5 k b hb
    rw [Nat.zero_add] at this
    exact this
theorem areRules_eq (N : Nat) (a b : Int32) : FD_areRules N a b = some (decide ((0 ≤ a.toInt ∧ a.toInt ≤ 2) ∧ (1 ≤ b.toInt ∧ b.toInt ≤ 2))) := by
  unfold FD_areRules
  simp only [Int32.lt_iff_toInt_lt, i_0, i_1, i_lit 2 (by omega)]
  by_cases c1 : a.toInt < 0
  · rw [if_pos c1, decide_eq_false (by omega)]
  · rw [if_neg c1]
    by_cases c2 : ((2 : Nat) : Int) < a.toInt
    · rw [if_pos c2, decide_eq_false (by omega)]
    · rw [if_neg c2]
      by_cases c3 : b.toInt < 1
      · rw [if_pos c3, decide_eq_false (by omega)]
      · rw [if_neg c3]
        by_cases c4 : ((2 : Nat) : Int) < b.toInt
        · rw [if_pos c4, decide_eq_false (by omega)]
        · rw [if_neg c4, decide_eq_true (by omega)]
theorem named_ok {M : zM} {A : Nat} {J : zJ} (hL : zLy M A dShL dRf) (hN : iName M A J) (l1 : Int32) : (∀ N KC KS (J' : zJ), J' 3 = J 3 → FC_typeNamed N KC KS (A + 2) l1 M = some (none, M) ∧ FM_typeOf N l1 J' = some (-1, J')) ∨ ∃ a t, wfT J 6 t ∧ rep M J 6 a t ∧ ∀ N KC KS (J' : zJ), J' 3 = J 3 → FC_typeNamed N KC KS (A + 2) l1 M = some (some a, M) ∧ FM_typeOf N l1 J' = some (nI t, J') := by
  have hname : ∀ N, FC_isName N l1 = some (decide (65 ≤ l1.toInt ∧ l1.toInt ≤ 90)) := by
    intro N
    unfold FC_isName
    simp only [Int32.lt_iff_toInt_lt, i_lit 65 (by omega), i_lit 90 (by omega)]
    by_cases c1 : l1.toInt < ((65 : Nat) : Int)
    · rw [if_pos c1, decide_eq_false (by omega)]
    · rw [if_neg c1]
      by_cases c2 : ((90 : Nat) : Int) < l1.toInt
      · rw [if_pos c2, decide_eq_false (by omega)]
      · rw [if_neg c2, decide_eq_true (by omega)]
  by_cases c : 65 ≤ l1.toInt ∧ l1.toInt ≤ 90
  · obtain ⟨m, m1, rfl, m3⟩ := nI_ex (x := l1) (by omega)
    have e65 : nI m - 65 = nI (m - 65) := nI_subs (b := 65) (by omega)
    have hC : ∀ N KC KS, FC_typeNamed N KC KS (A + 2) (nI m) M = some (zr M (A + 3) (m - 65), M) := by
      intro N KC KS
      unfold FC_typeNamed
      rw [hname, decide_eq_true c, qc_some, if_neg (by decide), e65, qa_s (zLr hL 37 rfl) (zLs hL 3 rfl) (qi_nI (by omega) (by omega)), nI_clamp (by omega)]
    have hMt : ∀ N (J' : zJ), J' 3 = J 3 → FM_typeOf N (nI m) J' = some (J 3 (m - 65), J') := by
      intro N J' h3
      unfold FM_typeOf
      rw [FM_in_eq, qc_some, i_lit 65 (by omega), i_lit 90 (by omega), if_neg (by simp only [bI_eq0]; simp; omega), e65, qk_t (qi_nI (by omega) (by omega)), nI_clamp (by omega), h3]
    rcases hN (m - 65) (by omega) with ⟨h1, h2⟩ | ⟨a, t, h1, h2, h3, h4⟩
    · left
      intro N KC KS J' hJ'
      rw [hC, hMt N J' hJ', h1, h2]
      exact ⟨rfl, rfl⟩
    · right
      refine ⟨a, t, h3, h4, fun N KC KS J' hJ' => ?_⟩
      rw [hC, hMt N J' hJ', h1, h2]
      exact ⟨rfl, rfl⟩
  · left
    intro N KC KS J' hJ'
    unfold FC_typeNamed FM_typeOf
    rw [hname, decide_eq_false c, qc_some, if_pos (by decide), FM_in_eq, qc_some, i_lit 65 (by omega), i_lit 90 (by omega), if_pos (by simp only [bI_eq0]; simp; omega)]
    exact ⟨rfl, rfl⟩
theorem qtI_4 {M : zM} {out : Nat} {C : String} {k : Int32} (h : (C = "java/lang/IllegalArgumentException" ∧ k = 1) ∨ (C = "java/lang/IllegalStateException" ∧ k = 2) ∨ (C = "java/util/NoSuchElementException" ∧ k = 3) ∨ (C = "java/lang/UnsupportedOperationException" ∧ k = 4)) : qtI ["java/lang/IllegalArgumentException", "java/lang/IllegalStateException", "java/util/NoSuchElementException", "java/lang/UnsupportedOperationException"] out (.inr C) M = some (k, M) := by
  rcases h with ⟨rfl, rfl⟩ | ⟨rfl, rfl⟩ | ⟨rfl, rfl⟩ | ⟨rfl, rfl⟩ <;> simp [qtI, qix] <;> decide
theorem t_transcode {KC KS A sn q i : Nat} {sx : Nat → Int32} {M : zM} (h : INV M A KC KS (q + 1)) (hi : i + 5 ≤ sn) (hn : sn ≤ 2560) (hc : sx i &&& 15 = 6) : lTurn KC KS A sn sx q i M := by
  obtain ⟨n, n1, n2, n3, n4⟩ := h.2.2.2.1
  obtain ⟨pa, pb, p1, p2, p3, p4, p5⟩ := h.2.1
  have hL := h.1.1
  have hLm := h.1.2.1
  have ho := h.1.2.2
  have room : zsz M + 1 ≤ KC ∧ zsl M + 6 ≤ KS := ⟨by omega, by omega⟩
  have e0 : zsh M A = some (.inl 8) := zLs0 hL 0 rfl
  have gap : ∀ v : Int32, INV (zmm (zgap M 6) (A + 32) 40 (zu (zJo (zgap M 6) (A + 32)) 0 0 v)) A KC KS q := fun v => INV_code (M5 := zgap M 6) h rfl rfl rfl rfl (by show zsz M ≤ zsz M + 1; omega) (by show zsz M + 1 + q ≤ _; omega) (by show zsl M + 6 + _ ≤ _; omega) v
  have hrl : ∀ N (J : zJ), FM_transcode N (((sx (i + 1)).toUInt32 % 65536).toInt32) (sx (i + 2)) (sx (i + 3)) J = FM_transcode_25 N (((sx (i + 1)).toUInt32 % 65536).toInt32) (sx (i + 2)) (sx (i + 3)) (bI (decide ((0 ≤ (sx (i + 2)).toInt ∧ (sx (i + 2)).toInt ≤ 2) ∧ (1 ≤ (sx (i + 3)).toInt ∧ (sx (i + 3)).toInt ≤ 2)))) J := by
    intro N J
    unfold FM_transcode
    rw [FM_in_eq, FM_in_eq, qc_some, qc_some, i_0, i_1, i_lit 2 (by omega)]
    by_cases c1 : 0 ≤ (sx (i + 2)).toInt ∧ (sx (i + 2)).toInt ≤ 2
    · rw [if_neg (by simp only [bI_eq0]; simp; omega)]
      by_cases c2 : 1 ≤ (sx (i + 3)).toInt ∧ (sx (i + 3)).toInt ≤ 2
      · rw [if_neg (by simp only [bI_eq0]; simp; omega), decide_eq_true ⟨c1, c2⟩]
        rfl
      · rw [if_pos (by simp only [bI_eq0]; simp; omega), decide_eq_false (fun z => c2 z.2)]
        rfl
    · rw [if_pos (by simp only [bI_eq0]; simp; omega), decide_eq_false (fun z => c1 z.1)]
      rfl
  by_cases c : (0 ≤ (sx (i + 2)).toInt ∧ (sx (i + 2)).toInt ≤ 2) ∧ (1 ≤ (sx (i + 3)).toInt ∧ (sx (i + 3)).toInt ≤ 2)
  · rw [decide_eq_true c] at hrl
    obtain ⟨m2, a1, a2, a3⟩ := nI_ex c.1.1
    obtain ⟨m3, b1, b2, b3⟩ := nI_ex (x := sx (i + 3)) (by omega)
    have hm2 : m2 ≤ 2 := by omega
    have hm3 : m3 = 1 ∨ m3 = 2 := by omega
    obtain ⟨o1, o2⟩ := h.2.2.2.2.2.1
    rcases o2 with o2 | ⟨o2, o3⟩
    · -- no module
      refine tn_6 hi hn hc (M5 := zgap M 6) (c := 2) (w := 0) (ev_of (fun N => ?_)) (ev_of (fun N => ?_)) hLm ho (zu_self _ _ _ _) (fun h => absurd h (by decide)) (gap 2)
      · unfold FL_transcode FD_transcode
        rw [qk_d e0, areRules_eq, decide_eq_true c, qc_some, if_neg (by decide), if_pos (show zi M A 3 = 0 from o1.trans o2), qk_t (by simp; exact room), qb_some]
        exact qtI_4 (by simp)
      · rw [hrl]
        unfold FM_transcode_25 FM_asked
        rw [if_neg (by decide), if_pos (show zJo (zgap M 6) (A + 32) 0 1 = 0 from o2), qb_some]
        simp only [zu_self]
        rw [if_neg (by decide)]
    · have hmod : ¬ zi M A 3 = 0 := by
        intro e
        have : zJo M A 0 3 = 0 := e
        rw [o1, o2] at this
        exact absurd this (by decide)
      rcases named_ok hL o3 (((sx (i + 1)).toUInt32 % 65536).toInt32) with hno | ⟨a, t, hw, hr, hyes⟩
      · refine tn_6 hi hn hc (M5 := zgap M 6) (c := 3) (w := 0) (ev_of (fun N => ?_)) (ev_of (fun N => ?_)) hLm ho (zu_self _ _ _ _) (fun h => absurd h (by decide)) (gap 3)
        · unfold FL_transcode FD_transcode
          rw [qk_d e0, areRules_eq, decide_eq_true c, qc_some, if_neg (by decide), if_neg hmod, qo_s (zLr0 hL 34 rfl) (zLs hL 2 rfl), (hno N KC KS (zJo M (A + 32)) rfl).1, qb_some, if_pos rfl, qk_t (by simp; exact room), qb_some]
          exact qtI_4 (by simp)
        · rw [hrl]
          unfold FM_transcode_25 FM_asked
          rw [if_neg (by decide), if_neg (show ¬ zJo (zgap M 6) (A + 32) 0 1 = 0 from fun e => absurd (o2.symm.trans e) (by decide)), (hno N KC KS (zJo (zgap M 6) (A + 32)) rfl).2, qb_some, if_neg (by decide), qb_some]
          simp only [zu_self]
          rw [if_neg (by decide)]
      · -- reading
        have hTJ : tyEq (zJo M (A + 32)) (zu (zJo M (A + 32)) 0 0 0) := fun c k c1 c2 => jcode (by omega)
        obtain ⟨r, D1, J5, J9, x1, x2, x3, x4, x5, x6, x7⟩ := x_read (M := M) (D := zJo M A) (J := zu (zJo M (A + 32)) 0 0 0) (st := 0) (L := n) (l2 := m2) n1 (by omega) n2 (by rw [jcode (by omega)]; exact n3) (fun k hk => by rw [jcode (by omega)]; exact n4 k hk) hw hr hTJ hm2
        have j3 : J5 3 = zJo M (A + 32) 3 := by
          rw [jX_c x5.1 (fun k => by unfold jx; omega), jcodef (by omega)]
        have jX0 : jX (zJo M (A + 32)) (zu (zJo M (A + 32)) 0 0 0) := fun c k hc => jcode (by unfold jx at hc; omega)
        have E1 : zJo (zmm M A 32 D1) A = D1 := zJo_mmE (fun c hc => x4.1.1 c (by omega))
        -- the class up to reading
        have hcl : ∀ N, FD_readBuffer N M (some a) (nI m2) (nI 0) (zJo M A) = some (r.isSome, D1) → FD_transcode N KC KS A (((sx (i + 1)).toUInt32 % 65536).toInt32) (sx (i + 2)) (sx (i + 3)) M = if (bI r.isSome) = 0 then some (.inl (-1), zmm M A 32 D1) else qb (FD_writeFound N (zmm M A 32 D1) (some a) (nI m3) 0 D1) fun v10 J11 => if v10 = -1 then some (.inr "java/lang/UnsupportedOperationException", zgap (zmm M A 32 J11) 6) else qk (decide (zsh (zmm (zmm M A 32 D1) A 32 J11) A = some (.inl 8))) <| qk (dLyB (zmm (zmm M A 32 D1) A 32 J11) A) <| qb (FV_copyOf N (zmm (zmm M A 32 D1) A 32 J11) (zJo (zmm (zmm M A 32 D1) A 32 J11) A)) fun v15 J16 => qk (dLyB (zmm (zmm (zmm M A 32 D1) A 32 J11) A 32 J16) A) <| qb (FD_keepWritten N (zmm (zmm (zmm M A 32 D1) A 32 J11) A 32 J16) v10 (zJo (zmm (zmm (zmm M A 32 D1) A 32 J11) A 32 J16) A)) fun v19 J20 => some (.inl v10, zmm (zmm (zmm (zmm M A 32 D1) A 32 J11) A 32 J16) A 32 J20) := by
          intro N hN
          unfold FD_transcode
          rw [areRules_eq, decide_eq_true c, qc_some, if_neg (by decide), if_neg hmod, qo_s (zLr0 hL 34 rfl) (zLs hL 2 rfl), (hyes N KC KS (zJo M (A + 32)) rfl).1, qb_some, if_neg (by simp), qk_t (dLyB_of hL), a2, show (0 : Int32) = nI 0 from rfl, hN, qb_some]
          simp only
          rw [qk_t (dLyB_of (M := zmm M A 32 D1) hL), E1, b2]
          congr 2
          funext v10 J11
          rw [qk_t (by simp; exact room), zmm_mm]
        -- the reference up to reading
        have hrf : ∀ N, FM_load N (nI 0) (zu (zJo M (A + 32)) 0 0 0) = some ((), J5) → FM_isValue N (nI t) (nI m2) J5 = some (r.isSome, J9) → FM_transcode N (((sx (i + 1)).toUInt32 % 65536).toInt32) (sx (i + 2)) (sx (i + 3)) (zJo M (A + 32)) = if (bI r.isSome) = 0 then some (-1, J9) else qb (FM_write N (nI m3) J9) fun v10 J11 => if (J11 0 29) ≤ 120 then qb (FM_keep N J11) fun v12 J13 => qfix (FM_transcode_88 N) N (0, J13) else qb (FM_fails N 4 J11) fun v14 J15 => some (v14, J15) := by
          intro N hN1 hN2
          rw [hrl]
          unfold FM_transcode_25 FM_asked
          have ht160 : t < 160 := hw.1
          rw [if_neg (by decide), if_neg (show ¬ zJo M (A + 32) 0 1 = 0 from fun e => absurd (o2.symm.trans e) (by decide)), (hyes N KC KS (zJo M (A + 32)) rfl).2, qb_some, if_pos (by rw [show (0 : Int32) = nI 0 from rfl, nI_leI (by omega) (by omega)]; omega), qb_some]
          simp only [zu_self]
          rw [if_pos (by decide), show FM_load N 0 (zu (zJo M (A + 32)) 0 0 0) = some ((), J5) from hN1, qb_some, (hyes N KC KS J5 j3).2, qb_some, a2, hN2, qb_some, b2]
        have hS : ∀ (M5 : zM) (J' : zJ), zl M5 (A + 31) = zl M (A + 31) → J' 39 = zJo M (A + 32) 39 → iSrv M5 A J' := fun M5 J' e1 e2 => iSrv_c e1 e2 h.2.2.2.2.2.2.2
        have hB0 : iBuf (zJo M A) (zu (zJo M (A + 32)) 0 0 0) := iBuf_c rfl rfl (jcode (by omega)) (jcodef (by omega)) h.2.2.2.1
        have hV0 : iVal (zJo M A) (zu (zJo M (A + 32)) 0 0 0) := iVal_c rfl rfl rfl rfl rfl rfl rfl (jcode (by omega)) (jcodef (by omega)) (jcodef (by omega)) h.2.2.2.2.1
        have j39 : J9 39 = zJo M (A + 32) 39 := by rw [x6.2.2.2.2.2.2.2, jcodef (by omega)]
        have j00 : J9 0 0 = 0 := by rw [x6.2.1, zu_self]
        cases r with
        | none =>
          refine tn_6 hi hn hc (M5 := zpl (zmm M A 32 D1) (A + 72) 0 (-1 : Int32).toInt64) (c := 0) (w := -1) (J := J9) (ev_mono x1 (fun N hN => ?_)) (ev_mono (ev_and x2 x3) (fun N hN => ?_)) hLm ho j00 (fun _ => zl_outs _ A _) ?_
          · unfold FL_transcode
            rw [qk_d e0, hcl N hN, if_pos (by decide), qb_some, qtI_v (M := zmm M A 32 D1) ho]
          · have e1 : zJo (zpl (zmm M A 32 D1) (A + 72) 0 (-1 : Int32).toInt64) (A + 32) = zJo M (A + 32) := by
              funext c
              show zi (zmm M A 32 D1) (A + 32 + c) = _
              rw [zmm_o _ _ _ _ (by omega)]
              rfl
            rw [e1, hrf N hN.1 hN.2, if_pos (by decide)]
          · exact INV_v (D := D1) h rfl rfl rfl (Nat.le_refl _) (by show zsz M + q ≤ _; omega) (by show zsl M + _ ≤ _; omega) (iBuf_Y x4 x6 hB0) (iVal_Y x4 x6 hV0) x4.1 (jX_trans jX0 x6.1) (hS _ _ (zl_out (zmm M A 32 D1) A _) j39)
        | some r =>
          obtain ⟨v1, v2, v3, v4⟩ := x7 r rfl
          have hr1 : rep (zmm M A 32 D1) (zJo M (A + 32)) 6 a t := rep_mono (zag_d hL D1) (fun _ _ _ _ => rfl) 6 a t hr
          have hT9 : tyEq (zJo M (A + 32)) J9 := jX_ty x6.1 hTJ
          obtain ⟨e, D2, J11, y1, y2, y3, y4, y5, y6, y7, y8, y9, y10, y11⟩ := x_write (M := zmm M A 32 D1) (st := 0) (l3 := m3) hw hr1 hT9 v1 v2 v4 (by omega) hm3
          have dY2 := dY_trans x4 y6
          have jY2 := jY_trans x6 y7
          rcases y11 with ⟨z1, z2, z3, _⟩ | ⟨z1, z2⟩
          · rw [Nat.zero_add] at z1
            have hT11 : tyEq (zJo M (A + 32)) J11 := jX_ty y7.1 hT9
            obtain ⟨D3, J13, k1, k2, k3, k4, k5⟩ := x_keep (D2 := D2) (J11 := J11) (zmm (zmm M A 32 D1) A 32 D2) hw hT11 v1 y9 (by rw [y10]; exact v3) y8
            obtain ⟨D4, w1, w2, w3, w4, w5⟩ := c_keepW (D := D3) (len := e.length) (zmm (zmm (zmm M A 32 D1) A 32 D2) A 32 D3) z1
            have j13_29 : J13 0 29 = nI e.length := by rw [k5 0 29 (by omega) (by omega) (by omega) (by omega) (by omega)]; exact y4
            obtain ⟨J16, u1, u2, u3, u4⟩ := m_mkbuf (J := J13) j13_29 z1
            have E2 : zJo (zmm (zmm M A 32 D1) A 32 D2) A = D2 := by
              rw [zmm_mm]
              exact zJo_mmE (fun c hc => dY2.1.1 c (by omega))
            have E3 : zJo (zmm (zmm (zmm M A 32 D1) A 32 D2) A 32 D3) A = D3 := by
              rw [zmm_mm, zmm_mm]
              exact zJo_mmE (fun c hc => by rw [k4 c (by omega)]; exact dY2.1.1 c (by omega))
            have dX4 : dX (zJo M A) D4 := by
              refine dX_trans dY2.1 ⟨fun c hc => ?_, fun k hk => ?_⟩
              · rw [w4 c (by omega) (by omega), k4 c (by omega)]
              · rw [w5 k hk, k4 0 (by omega)]
            have jX16 : jX (zJo M (A + 32)) J16 := by
              refine jX_trans jX0 (jX_trans jY2.1 (fun c k hc => ?_))
              unfold jx at hc
              rw [u4 c k (by omega) (by omega), k5 c k (by omega) (by omega) (by omega) (by omega) (by omega)]
            have j16_0 : J16 0 0 = 0 := by
              rw [u4 0 0 (by omega) (by omega), k5 0 0 (by omega) (by omega) (by omega) (by omega) (by omega), y7.2.1, j00]
            have j16_39 : J16 39 = zJo M (A + 32) 39 := by
              funext k
              rw [u4 39 k (by omega) (by omega), k5 39 k (by omega) (by omega) (by omega) (by omega) (by omega), y7.2.2.2.2.2.2.2, j39]
            refine tn_6 hi hn hc (M5 := zpl (zmm M A 32 D4) (A + 72) 0 (nI e.length).toInt64) (c := 0) (w := nI e.length) (J := J16) (ev_mono (ev_and x1 z2) (fun N hN => ?_)) (ev_mono (ev_and (ev_and x2 x3) (ev_and y3 (ev_and k2 u1))) (fun N hN => ?_)) hLm ho j16_0 (fun _ => zl_outs _ A _) ?_
            · unfold FL_transcode
              have hN2 : FD_writeFound N (zmm M A 32 D1) (some a) (nI m3) 0 D1 = some (nI e.length, D2) := by
                have := hN.2
                rw [Nat.zero_add] at this
                exact this
              rw [qk_d e0, hcl N hN.1, if_neg (show ¬ bI (some r).isSome = 0 from (by decide : ¬ bI true = 0)), hN2, qb_some, if_neg (nI_n1 (by omega)), qk_d (show zsh (zmm (zmm M A 32 D1) A 32 D2) A = some (.inl 8) from e0), qk_t (dLyB_of (M := zmm (zmm M A 32 D1) A 32 D2) hL), E2, k1, qb_some, qk_t (dLyB_of (M := zmm (zmm (zmm M A 32 D1) A 32 D2) A 32 D3) hL), E3, w1, qb_some, qb_some, zmm_mm, zmm_mm, zmm_mm, qtI_v (M := zmm M A 32 D4) ho]
            · have e1 : zJo (zpl (zmm M A 32 D4) (A + 72) 0 (nI e.length).toInt64) (A + 32) = zJo M (A + 32) := by
                funext c
                show zi (zmm M A 32 D4) (A + 32 + c) = _
                rw [zmm_o _ _ _ _ (by omega)]
                rfl
              rw [e1, hrf N hN.1.1 hN.1.2, if_neg (show ¬ bI (some r).isSome = 0 from (by decide : ¬ bI true = 0)), hN.2.1, qb_some, y4, if_pos (by rw [show (120 : Int32) = nI 120 from rfl, nI_leI (by omega) (by omega)]; omega), hN.2.2.1, qb_some]
              exact hN.2.2.2
            · refine INV_v (D := D4) h rfl rfl rfl (Nat.le_refl _) (by show zsz M + q ≤ _; omega) (by show zsl M + _ ≤ _; omega) ⟨e.length, z1, w2, u2, fun k hk => ?_⟩ ?_ dX4 jX16 (hS _ _ (zl_out (zmm M A 32 D4) A _) j16_39)
              · obtain ⟨b, hb⟩ : ∃ b, e[k]? = some b := ⟨_, List.getElem?_eq_getElem hk⟩
                have g1 : D4 6 k = nI b := by
                  rw [w3 k hk, k4 7 (by omega)]
                  have := z3 k b hb
                  rw [Nat.zero_add] at this
                  exact this
                have g2 : J16 18 k = nI b := by
                  rw [u3 k hk, k5 20 k (by omega) (by omega) (by omega) (by omega) (by omega)]
                  exact y5 k b hb
                exact ⟨by rw [g1, g2], b, y2 b (List.mem_of_getElem? hb), g2⟩
              · exact iVal_c (by rw [w4 8 (by omega) (by omega)]) (w4 9 (by omega) (by omega)) (w4 10 (by omega) (by omega)) (w4 11 (by omega) (by omega)) (w4 12 (by omega) (by omega)) (w4 13 (by omega) (by omega)) (w4 15 (by omega) (by omega)) (u4 0 44 (by omega) (by omega)) (funext (fun k => u4 29 k (by omega) (by omega))) (funext (fun k => u4 30 k (by omega) (by omega))) k3
          · rw [Nat.zero_add] at z1
            have j11_39 : J11 39 = zJo M (A + 32) 39 := by rw [y7.2.2.2.2.2.2.2, j39]
            have jYc : jY (zu (zJo M (A + 32)) 0 0 4) (zu J11 0 0 4) := jY_of (fun c k hc => by
              by_cases hck : c = 0 ∧ k = 0
              · rw [hck.1, hck.2, zu_self, zu_self]
              · rw [jcode hck, jcode hck]
                have e1 : J11 c k = zu (zJo M (A + 32)) 0 0 0 c k := by
                  rcases hc with hc | hc | hc | hc | hc | hc
                  · exact jY2.1 c k hc
                  · rcases hc with ⟨rfl, hc | hc | hc⟩
                    · exact absurd ⟨rfl, hc⟩ hck
                    · rw [hc]; exact jY2.2.2.1
                    · rw [hc]; exact jY2.2.2.2.1
                  · rw [hc, jY2.2.2.2.2.1]
                  · rw [hc, jY2.2.2.2.2.2.1]
                  · rw [hc, jY2.2.2.2.2.2.2.1]
                  · rw [hc, jY2.2.2.2.2.2.2.2]
                rw [e1, jcode hck])
            have jX4 : jX (zJo M (A + 32)) (zu (zJo M (A + 32)) 0 0 4) := fun c k hc => jcode (by unfold jx at hc; omega)
            refine tn_6 hi hn hc (M5 := zgap (zmm M A 32 D2) 6) (c := 4) (w := 0) (J := zu J11 0 0 4) (ev_mono (ev_and x1 z2) (fun N hN => ?_)) (ev_mono (ev_and (ev_and x2 x3) y3) (fun N hN => ?_)) hLm ho (zu_self _ _ _ _) (fun h => absurd h (by decide)) ?_
            · unfold FL_transcode
              have hN2 : FD_writeFound N (zmm M A 32 D1) (some a) (nI m3) 0 D1 = some (-1, D2) := hN.2
              rw [qk_d e0, hcl N hN.1, if_neg (show ¬ bI (some r).isSome = 0 from (by decide : ¬ bI true = 0)), hN2, qb_some, if_pos rfl, qb_some]
              exact qtI_4 (by simp)
            · have e1 : zJo (zgap (zmm M A 32 D2) 6) (A + 32) = zJo M (A + 32) := by
                funext c
                show zi (zmm M A 32 D2) (A + 32 + c) = _
                rw [zmm_o _ _ _ _ (by omega)]
                rfl
              rw [e1, hrf N hN.1.1 hN.1.2, if_neg (show ¬ bI (some r).isSome = 0 from (by decide : ¬ bI true = 0)), hN.2, qb_some, y4, if_neg (by rw [show (120 : Int32) = nI 120 from rfl, nI_leI (by omega) (by omega)]; omega)]
              rfl
            · exact INV_v (D := D2) h rfl rfl rfl (by show zsz M ≤ zsz M + 1; omega) (by show zsz M + 1 + q ≤ _; omega) (by show zsl M + 6 + _ ≤ _; omega) (iBuf_Y dY2 jYc (iBuf_c rfl rfl (jcode (by omega)) (jcodef (by omega)) h.2.2.2.1)) (iVal_Y dY2 jYc (iVal_c rfl rfl rfl rfl rfl rfl rfl (jcode (by omega)) (jcodef (by omega)) (jcodef (by omega)) h.2.2.2.2.1)) dY2.1 (jX_trans jX4 jYc.1) (hS _ _ rfl (by rw [jYc.2.2.2.2.2.2.2, jcodef (by omega)]))
  · rw [decide_eq_false c] at hrl
    refine tn_6 hi hn hc (M5 := zgap M 6) (c := 1) (w := 0) (ev_of (fun N => ?_)) (ev_of (fun N => ?_)) hLm ho (zu_self _ _ _ _) (fun h => absurd h (by decide)) (gap 1)
    · unfold FL_transcode FD_transcode
      rw [qk_d e0, areRules_eq, decide_eq_false c, qc_some, if_pos (by decide), qk_t (by simp; exact room), qb_some]
      exact qtI_4 (by simp)
    · rw [hrl]
      unfold FM_transcode_25 FM_asked
      rw [if_pos (by decide), qb_some]
      simp only [zu_self]
      rw [if_neg (by decide)]
