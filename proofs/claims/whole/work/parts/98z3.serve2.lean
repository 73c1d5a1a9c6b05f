/-! SERVE: the turn -/
theorem zJo_5 (M : zM) (A : Nat) (D : zJ) (v : Int64) : zJo (zpl (zmm M A 32 D) (A + 72) 0 v) (A + 32) = zJo M (A + 32) := by
  funext c
  show zi (zmm M A 32 D) (A + 32 + c) = _
  rw [zmm_o _ _ _ _ (by omega)]
  rfl
theorem zJo_6 (M : zM) (A m : Nat) (D : zJ) (v : Int64) : zJo (zpl (svL (zmm M A 32 D) A m) (A + 72) 0 v) (A + 32) = zJo M (A + 32) := by
  funext c
  show zi (zmm M A 32 D) (A + 32 + c) = _
  rw [zmm_o _ _ _ _ (by omega)]
  rfl
theorem svL_mm (M : zM) (A m : Nat) (D1 D2 : zJ) : zmm (svL (zmm M A 32 D1) A m) A 32 D2 = svL (zmm M A 32 D2) A m := by
  unfold svL
  rw [zmm_pl]
  rfl
theorem t_serve {KC KS A sn q i : Nat} {sx : Nat → Int32} {M : zM} (h : INV M A KC KS (q + 1)) (hi : i + 5 ≤ sn) (hn : sn ≤ 2560) (hc : sx i &&& 15 = 11) : lTurn KC KS A sn sx q i M := by
  obtain ⟨n, n1, n2, n3, n4⟩ := h.2.2.2.1
  obtain ⟨pa, pb, p1, p2, p3, p4, p5⟩ := h.2.1
  have hL := h.1.1
  have hLm := h.1.2.1
  have ho := h.1.2.2
  have room : zsz M + 1 ≤ KC ∧ zsl M + 6 ≤ KS := ⟨by omega, by omega⟩
  have e0 : zsh M A = some (.inl 8) := zLs0 hL 0 rfl
  have gap : ∀ v : Int32, INV (zmm (zgap M 6) (A + 32) 40 (zu (zJo (zgap M 6) (A + 32)) 0 0 v)) A KC KS q := fun v => INV_code (M5 := zgap M 6) h rfl rfl rfl rfl (by show zsz M ≤ zsz M + 1; omega) (by show zsz M + 1 + q ≤ _; omega) (by show zsl M + 6 + _ ≤ _; omega) v
  have z5 : zi M A 5 = nI n := n2
  obtain ⟨o1, o2⟩ := h.2.2.2.2.2.1
  rcases o2 with o2 | ⟨o2, o3⟩
  · refine tn_11 hi hn hc (M5 := zgap M 6) (c := 1) (w := 0) (ev_of (fun N => ?_)) (ev_of (fun N => ?_)) hLm ho (zu_self _ _ _ _) (fun h => absurd h (by decide)) (gap 1)
    · unfold FL_serve FD_serve
      rw [qk_d e0, if_pos (show zi M A 3 = 0 from o1.trans o2), qk_t (by simp; exact room), qb_some]
      simp [qtI, qix]
    · unfold FM_serve
      rw [if_pos (show zJo (zgap M 6) (A + 32) 0 1 = 0 from o2)]
      unfold FM_serve_13
      simp only [zu_self]
      rw [if_neg (by decide)]
  have hmod : ¬ zi M A 3 = 0 := by
    intro e
    have : zJo M A 0 3 = 0 := e
    rw [o1, o2] at this
    exact absurd this (by decide)
  generalize hJ1 : zu (zJo M (A + 32)) 0 0 0 = J1
  have j1 : ∀ c k, ¬ (c = 0 ∧ k = 0) → J1 c k = zJo M (A + 32) c k := fun c k hck => by rw [← hJ1]; exact jcode hck
  have j1c : ∀ c, c ≠ 0 → J1 c = zJo M (A + 32) c := fun c hck => by rw [← hJ1]; exact jcodef hck
  have j100 : J1 0 0 = 0 := by rw [← hJ1, zu_self]
  have jX0 : jX (zJo M (A + 32)) J1 := fun c k hc => j1 c k (by unfold jx at hc; omega)
  have hTJ : tyEq (zJo M (A + 32)) J1 := fun c k c1 c2 => j1 c k (by omega)
  have j27 : J1 0 27 = nI n := by rw [j1 0 27 (by omega)]; exact n3
  -- the ID
  obtain ⟨m, hm, hm1⟩ : ∃ m, m < 256 ∧ ((n ≤ 1 ∧ m = 0) ∨ (1 < n ∧ zJo M (A + 32) 18 1 = nI m)) := by
    by_cases c : n ≤ 1
    · exact ⟨0, by omega, Or.inl ⟨c, rfl⟩⟩
    · obtain ⟨_, b, b1, b2⟩ := n4 1 (by omega)
      exact ⟨b, b1, Or.inr ⟨by omega, b2⟩⟩
  have hrf0 : ∀ N, FM_serve N (zJo M (A + 32)) = FM_serve_43 N (nI m) J1 := by
    intro N
    unfold FM_serve
    rw [if_neg (fun e => absurd (o2.symm.trans e) (by decide))]
    unfold FM_serve_13
    rw [hJ1]
    simp only [j100]
    rw [if_pos (by decide), j27]
    rcases hm1 with ⟨c, rfl⟩ | ⟨c, e⟩
    · rw [if_pos (by rw [show (1 : Int32) = nI 1 from rfl, nI_leI (by omega) (by omega)]; exact c)]
      rfl
    · rw [if_neg (by rw [show (1 : Int32) = nI 1 from rfl, nI_leI (by omega) (by omega)]; omega), qk_t (by decide)]
      show FM_serve_43 N (J1 18 1) J1 = _
      rw [j1 18 1 (by omega), e]
  have hcl0 : ∀ N, FD_serve N KC KS A M = FD_serve_35 N KC KS A (nI m) M := by
    intro N
    unfold FD_serve
    rw [if_neg hmod, z5]
    rcases hm1 with ⟨c, rfl⟩ | ⟨c, e⟩
    · rw [if_pos (by rw [show (1 : Int32) = nI 1 from rfl, nI_leI (by omega) (by omega)]; exact c)]
      rfl
    · rw [if_neg (by rw [show (1 : Int32) = nI 1 from rfl, nI_leI (by omega) (by omega)]; omega), qa_s (zLr0 hL 33 rfl) (zLs hL 6 rfl) (by decide)]
      show FD_serve_35 N KC KS A (zJo M A 6 1) M = _
      rw [(n4 1 (by omega)).1, e]
  -- a refusal
  have hRf : ∀ x, x < 256 → (∀ N, FD_serve_35 N KC KS A (nI m) M = some (.inl 4, zmm M A 32 (rfD (zJo M A) (nI m) (nI x)))) → (∀ N, FM_serve_43 N (nI m) J1 = some (4, rfJ J1 (nI m) (nI x))) → lTurn KC KS A sn sx q i M := by
    intro x hx h1 h2
    refine tn_11 hi hn hc (M5 := zpl (zmm M A 32 (rfD (zJo M A) (nI m) (nI x))) (A + 72) 0 (4 : Int32).toInt64) (c := 0) (w := 4) (J := rfJ J1 (nI m) (nI x)) (ev_of (fun N => ?_)) (ev_of (fun N => ?_)) hLm ho ?_ (fun _ => zl_outs _ A _) (rf_INV h hm hx (dY_refl _) (by rw [hJ1]; exact jY_refl _))
    · unfold FL_serve
      rw [qk_d e0, hcl0, h1, qb_some, qtI_v (M := zmm M A 32 (rfD (zJo M A) (nI m) (nI x))) ho]
    · rw [zJo_5, hrf0, h2]
    · unfold rfJ
      rw [zu_at, if_neg (by omega), zu_ne _ _ _ (by omega), zu_ne _ _ _ (by omega), zu_ne _ _ _ (by omega), j100]
  have rf54 : ∀ N, FD_serve_54 N KC KS A (nI m) M = some (.inl 4, zmm M A 32 (rfD (zJo M A) (nI m) (nI 1))) := by
    intro N
    unfold FD_serve_54
    rw [qk_t (dLyB_of hL), show (1 : Int32) = nI 1 from rfl, eD_refuse, qb_some]
  have rf87 : ∀ N, FD_serve_87 N KC KS A (nI m) M = some (.inl 4, zmm M A 32 (rfD (zJo M A) (nI m) (nI 2))) := by
    intro N
    unfold FD_serve_87
    rw [qk_t (dLyB_of hL), show (2 : Int32) = nI 2 from rfl, eD_refuse, qb_some]
  have rfM : ∀ N (y : Int32) x, 1 ≤ x → x < 256 → FM_serve_106 N (nI m) y (nI x) J1 = some (4, rfJ J1 (nI m) (nI x)) := by
    intro N y x hx hx2
    unfold FM_serve_106
    rw [if_neg (by rw [show (0 : Int32) = nI 0 from rfl, nI_leI (by omega) (by omega)]; omega), m_reply, qb_some]
    rfl
  by_cases c3 : n < 3
  · refine hRf 1 (by omega) (fun N => ?_) (fun N => ?_)
    · unfold FD_serve_35
      rw [qk_d e0, z5, if_pos (by rw [show (3 : Int32) = nI 3 from rfl, nI_ltI (by omega) (by omega)]; exact c3), rf54]
    · unfold FM_serve_43
      rw [qk_t (by decide)]
      simp only
      rw [j27, if_pos (by rw [show (3 : Int32) = nI 3 from rfl, nI_ltI (by omega) (by omega)]; exact c3), show (1 : Int32) = nI 1 from rfl, rfM N _ 1 (by omega) (by omega)]
  obtain ⟨d0, b0, b01, b02⟩ := n4 0 (by omega)
  obtain ⟨d2, y, y1, y2⟩ := n4 2 (by omega)
  have z0 : zi M (A + 6) 0 = nI b0 := d0.trans b02
  have z2 : zi M (A + 6) 2 = nI y := d2.trans y2
  have j18 : J1 18 2 = nI y := by rw [j1 18 2 (by omega)]; exact y2
  have j180 : J1 18 0 = nI b0 := by rw [j1 18 0 (by omega)]; exact b02
  have c3n : ¬ nI n < 3 := by rw [show (3 : Int32) = nI 3 from rfl, nI_ltI (by omega) (by omega)]; exact c3
  have hM43 : ∀ N, FM_serve_43 N (nI m) J1 = if nI b0 = 1 then (if 7 < nI y then FM_serve_106 N (nI m) (nI y) 2 J1 else qk (qi (nI y) 8) <| if 0 ≤ J1 36 y then qk (qi (nI m) 256) <| if J1 39 m = 0 then FM_serve_106 N (nI m) (nI y) 0 J1 else FM_serve_106 N (nI m) (nI y) 3 J1 else FM_serve_106 N (nI m) (nI y) 2 J1) else FM_serve_106 N (nI m) (nI y) 1 J1 := by
    intro N
    unfold FM_serve_43
    rw [qk_t (by decide)]
    simp only
    rw [j27, if_neg c3n, qk_t (by decide), show J1 18 (2 : Int32).toNatClampNeg = nI y from j18, show J1 18 (0 : Int32).toNatClampNeg = nI b0 from j180, nI_clamp (show y < 2 ^ 31 by omega), nI_clamp (show m < 2 ^ 31 by omega)]
  by_cases cb : b0 = 1
  case neg =>
    have hb : ¬ nI b0 = 1 := by rw [show (1 : Int32) = nI 1 from rfl, nI_eq (by omega) (by omega)]; exact cb
    refine hRf 1 (by omega) (fun N => ?_) (fun N => ?_)
    · unfold FD_serve_35
      rw [qk_d e0, z5, if_neg c3n, qa_s (zLr0 hL 33 rfl) (zLs hL 6 rfl) (by decide), show zi M (A + 6) (0 : Int32).toNatClampNeg = nI b0 from z0, if_neg hb, rf54]
    · rw [hM43, if_neg hb, show (1 : Int32) = nI 1 from rfl, rfM N _ 1 (by omega) (by omega)]
  case pos =>
  have hb : nI b0 = 1 := by rw [cb]; rfl
  have hD35 : ∀ N, FD_serve_35 N KC KS A (nI m) M = if 8 ≤ nI y then FD_serve_87 N KC KS A (nI m) M else qa (zr M A 13) M 4 (nI y) fun a5 =>
          if (zr M a5 (nI y).toNatClampNeg) = none then
            FD_serve_87 N KC KS A (nI m) M
          else
            qb (FD_wasServed N KC KS A (nI m) M) fun v6 M7 =>
            if (bI v6) = 0 then
              qk (decide (zsh M7 A = some (.inl 8))) <|
              qa (zr M7 A 13) M7 4 (nI y) fun a9 =>
              qa (zr M7 A 14) M7 0 (nI y) fun a10 =>
              qk (dLyB M7 A) <|
              qb (FD_readBuffer N M7 (zr M7 a9 (nI y).toNatClampNeg) (zi M7 a10 (nI y).toNatClampNeg) 3 (zJo M7 A)) fun v12 J13 =>
              let M14 := zmm M7 A 32 J13
              if (bI v12) = 0 then
                qk (decide (zsh M14 A = some (.inl 8))) <|
                qb (FD_markServed N KC KS A (nI m) M14) fun v46 M47 =>
                qk (dLyB M47 A) <|
                qb (FD_sayNoValue N M47 (nI m) (zJo M47 A)) fun v49 J50 =>
                let M51 := zmm M47 A 32 J50
                some (.inl v49, M51)
              else
                qk (decide (zsh M14 A = some (.inl 8))) <|
                qa (zr M14 A 13) M14 4 (nI y) fun a16 =>
                qa (zr M14 A 15) M14 0 (nI y) fun a17 =>
                qk (dLyB M14 A) <|
                qb (FD_writeFound N M14 (zr M14 a16 (nI y).toNatClampNeg) (zi M14 a17 (nI y).toNatClampNeg) 3 (zJo M14 A)) fun v19 J20 =>
                let M21 := zmm M14 A 32 J20
                if v19 = ((-1)) then
                  qk (dLyB M21 A) <|
                  qb (FD_refuseMessage N M21 (nI m) 4 (zJo M21 A)) fun v42 J43 =>
                  let M44 := zmm M21 A 32 J43
                  some (.inl v42, M44)
                else
                  qk (decide (zsh M21 A = some (.inl 8))) <|
                  qb (FD_markServed N KC KS A (nI m) M21) fun v23 M24 =>
                  qk (decide (zsh M24 A = some (.inl 8))) <|
                  qk (dLyB M24 A) <|
                  qb (FV_copyOf N M24 (zJo M24 A)) fun v27 J28 =>
                  let M29 := zmm M24 A 32 J28
                  qk (decide (zsh M29 A = some (.inl 8))) <|
                  qa (zr M29 A 6) M29 0 0 fun a31 =>
                  let M32 := zpi M29 a31 (0 : Int32).toNatClampNeg 2
                  qa (zr M32 A 6) M32 0 1 fun a33 =>
                  let M34 := zpi M32 a33 (1 : Int32).toNatClampNeg (nI m)
                  qa (zr M34 A 6) M34 0 2 fun a35 =>
                  let M36 := zpi M34 a35 (2 : Int32).toNatClampNeg (nI y)
                  qk (dLyB M36 A) <|
                  qb (FD_keepWritten N M36 v19 (zJo M36 A)) fun v38 J39 =>
                  let M40 := zmm M36 A 32 J39
                  some (.inl 2, M40)
            else
              qk (dLyB M7 A) <|
              qb (FD_refuseMessage N M7 (nI m) 3 (zJo M7 A)) fun v53 J54 =>
              let M55 := zmm M7 A 32 J54
              some (.inl v53, M55) := by
    intro N
    unfold FD_serve_35
    rw [qk_d e0, z5, if_neg c3n, qa_s (zLr0 hL 33 rfl) (zLs hL 6 rfl) (by decide), show zi M (A + 6) (0 : Int32).toNatClampNeg = nI b0 from z0, if_pos hb, qa_s (zLr0 hL 33 rfl) (zLs hL 6 rfl) (by decide), show zi M (A + 6) (2 : Int32).toNatClampNeg = nI y from z2]
    simp only
    rw [if_neg (show ¬ nI y < 0 by rw [show (0 : Int32) = nI 0 from rfl, nI_ltI (by omega) (by omega)]; omega)]
  have hM43' := hM43
  simp only [if_pos hb] at hM43
  by_cases cy : y < 8
  case neg =>
    refine hRf 2 (by omega) (fun N => ?_) (fun N => ?_)
    · rw [hD35, if_pos (by rw [show (8 : Int32) = nI 8 from rfl, nI_leI (by omega) (by omega)]; omega), rf87]
    · rw [hM43, if_pos (by rw [show (7 : Int32) = nI 7 from rfl, nI_ltI (by omega) (by omega)]; omega), show (2 : Int32) = nI 2 from rfl, rfM N _ 2 (by omega) (by omega)]
  case pos =>
  have cy8 : ¬ 8 ≤ nI y := by rw [show (8 : Int32) = nI 8 from rfl, nI_leI (by omega) (by omega)]; omega
  have cy7 : ¬ 7 < nI y := by rw [show (7 : Int32) = nI 7 from rfl, nI_ltI (by omega) (by omega)]; omega
  have qy : qi (nI y) 8 = true := qi_nI cy (by omega)
  have cly : (nI y).toNatClampNeg = y := nI_clamp (by omega)
  have r13 : zr M A 13 = some (A + 28) := zLr0 hL 3 rfl
  have s28 : zsh M (A + 28) = some (.inr (4, 8)) := zLs hL 28 rfl
  rcases h.2.2.2.2.2.2.1 y cy with ⟨g1, g2⟩ | ⟨a, t, g1, g2, hw, hr, g3, g4, g5, g6⟩
  · refine hRf 2 (by omega) (fun N => ?_) (fun N => ?_)
    · rw [hD35, if_neg cy8, qa_s r13 s28 qy, cly, if_pos g1, rf87]
    · rw [hM43, if_neg cy7, qk_t qy, j1 36 y (by omega), g2, if_neg (by decide), show (2 : Int32) = nI 2 from rfl, rfM N _ 2 (by omega) (by omega)]
  have ht160 : t < 160 := hw.1
  obtain ⟨m2, hm2, e2⟩ : ∃ m2, m2 ≤ 2 ∧ zJo M (A + 32) 37 y = nI m2 := by
    rcases g5 with g5 | g5 | g5
    · exact ⟨0, by omega, g5⟩
    · exact ⟨1, by omega, g5⟩
    · exact ⟨2, by omega, g5⟩
  obtain ⟨m3, hm3, e3⟩ : ∃ m3, (m3 = 1 ∨ m3 = 2) ∧ zJo M (A + 32) 38 y = nI m3 := by
    rcases g6 with g6 | g6
    · exact ⟨1, Or.inl rfl, g6⟩
    · exact ⟨2, Or.inr rfl, g6⟩
  have c36 : (0 : Int32) ≤ J1 36 y := by rw [j1 36 y (by omega), g2, show (0 : Int32) = nI 0 from rfl, nI_leI (by omega) (by omega)]; omega
  have i8 := h.2.2.2.2.2.2.2
  have h39 : J1 39 m = bI (sBit (zl M (A + 31)) m) := by rw [j1 39 m (by omega)]; exact i8 m hm
  simp only [if_neg cy8, qa_s r13 s28 qy, cly, g1, eD_was hL hm, qb_some] at hD35
  simp only [if_neg cy7, qk_t qy, if_pos c36, qk_t (qi_nI (k := m) (n := 256) (by omega) (by omega)), h39] at hM43
  cases hsb : sBit (zl M (A + 31)) m with
  | true =>
    rw [hsb] at hD35 hM43
    refine hRf 3 (by omega) (fun N => ?_) (fun N => ?_)
    · rw [hD35, if_neg (by simp), if_neg (by decide), qk_t (dLyB_of hL), show (3 : Int32) = nI 3 from rfl, eD_refuse, qb_some]
    · rw [hM43, if_neg (by decide), show (3 : Int32) = nI 3 from rfl, rfM N _ 3 (by omega) (by omega)]
  | false =>
  rw [hsb] at hD35 hM43
  have r14 : zr M A 14 = some (A + 29) := zLr0 hL 2 rfl
  have s29 : zsh M (A + 29) = some (.inr (0, 8)) := zLs hL 29 rfl
  have i29 : zi M (A + 29) y = nI m2 := g3.trans e2
  simp only [if_neg (show ¬ (some a : Option Nat) = none by simp), if_pos (show bI false = 0 from rfl), qk_d e0, qa_s r14 s29 qy, i29, qk_t (dLyB_of hL), g1, qa_s r13 s28 qy, cly] at hD35
  simp only [if_pos (show bI false = 0 from rfl)] at hM43
  obtain ⟨r, D1, J5, J9, x1, x2, x3, x4, x5, x6, x7⟩ := x_read (M := M) (D := zJo M A) (J := J1) (st := 3) (L := n - 3) (l2 := m2) n1 (by omega) n2 j27 (fun k hk => by rw [j1 18 k (by omega)]; exact n4 k hk) hw hr hTJ hm2
  have E1 : zJo (zmm M A 32 D1) A = D1 := zJo_mmE (fun c hc => x4.1.1 c (by omega))
  have hL1 : zLy (zmm M A 32 D1) A dShL dRf := hL
  have j39 : J9 39 = zJo M (A + 32) 39 := by rw [x6.2.2.2.2.2.2.2, j1c 39 (by omega)]
  have j900 : J9 0 0 = 0 := by rw [x6.2.1, j100]
  have hV0 : iVal (zJo M A) J1 := iVal_c rfl rfl rfl rfl rfl rfl rfl (j1 0 44 (by omega)) (j1c 29 (by omega)) (j1c 30 (by omega)) h.2.2.2.2.1
  have j5t : J5 36 y = nI t := by rw [x5.1 36 y (by unfold jx; omega), j1 36 y (by omega)]; exact g2
  have j5r : J5 37 y = nI m2 := by rw [x5.1 37 y (by unfold jx; omega), j1 37 y (by omega)]; exact e2
  have hM106 : ∀ N, FM_load N (nI 3) J1 = some ((), J5) → FM_isValue N (nI t) (nI m2) J5 = some (r.isSome, J9) → FM_serve_43 N (nI m) J1 = if (bI r.isSome) = 0 then qb (FM_reply N 3 (nI m) 0 2 (zu J9 39 m 1)) fun v18 J19 => some (v18, J19) else qb (FM_write N (nI m3) J9) fun v8 J9' => if ((J9' 0 29) + 3) ≤ 120 then qb (FM_keep N (zu J9' 39 m 1)) fun v12 J13 => qfix (FM_serve_204 N (nI m) (nI y)) N (0, J13) else qb (FM_reply N 4 (nI m) 4 3 J9') fun v14 J15 => some (v14, J15) := by
    intro N hN1 hN2
    rw [hM43]
    unfold FM_serve_106
    have j938 : J9 38 y = nI m3 := by rw [x6.1 38 y (by unfold jx; omega), j1 38 y (by omega)]; exact e3
    rw [if_pos (by decide), show FM_load N 3 J1 = some ((), J5) from hN1, qb_some, qk_t qy, qk_t qy, cly, j5t, j5r, hN2, qb_some, qk_t (qi_nI (k := m) (n := 256) (by omega) (by omega)), qk_t qy, nI_clamp (show m < 2 ^ 31 by omega), j938]
    simp only [qk_t (qi_nI (k := m) (n := 256) (by omega) (by omega))]
  cases r with
  | none =>
    let Dn : zJ := zu (zu (zu D1 6 0 3) 6 1 (nI m)) 0 5 2
    let Jn : zJ := zu (zu (zu (zu (zu J9 39 m 1) 18 0 3) 18 1 (nI m)) 18 2 0) 0 27 2
    have dn : ∀ c k, c ≠ 6 → ¬ (c = 0 ∧ k = 5) → Dn c k = D1 c k := by
      intro c k h1 h2
      show zu _ _ _ _ _ _ = _
      rw [zu_at, if_neg h2, zu_ne _ _ _ h1, zu_ne _ _ _ h1]
    have jn : ∀ c k, c ≠ 18 → ¬ (c = 0 ∧ k = 27) → Jn c k = zu J9 39 m 1 c k := by
      intro c k h1 h2
      show zu _ _ _ _ _ _ = _
      rw [zu_at, if_neg h2, zu_ne _ _ _ h1, zu_ne _ _ _ h1, zu_ne _ _ _ h1]
    have dnc : ∀ c, c ≠ 6 → c ≠ 0 → Dn c = D1 c := fun c h1 h2 => funext (fun k => dn c k h1 (by omega))
    have jnc : ∀ c, c ≠ 18 → c ≠ 0 → c ≠ 39 → Jn c = J9 c := fun c h1 h2 h3 => funext (fun k => by rw [jn c k h1 (by omega), zu_ne _ _ _ h3])
    refine tn_11 hi hn hc (M5 := zpl (svL (zmm M A 32 Dn) A m) (A + 72) 0 (3 : Int32).toInt64) (c := 0) (w := 3) (J := Jn) (ev_mono x1 (fun N hN => ?_)) (ev_mono (ev_and x2 x3) (fun N hN => ?_)) hLm ho ?_ (fun _ => zl_outs _ A _) ?_
    · unfold FL_serve
      have hN' : FD_readBuffer N M (some a) (nI m2) 3 (zJo M A) = some (false, D1) := hN
      rw [qk_d e0, hcl0, hD35, hN', qb_some]
      rw [if_pos (by decide), qk_d (show zsh (zmm M A 32 D1) A = some (.inl 8) from e0), eD_mark hL1 hm, qb_some, qk_t (dLyB_of (M := svL (zmm M A 32 D1) A m) hL), show zJo (svL (zmm M A 32 D1) A m) A = D1 from E1]
      unfold FD_sayNoValue
      rw [qk_t (by decide), qk_t (by decide), qb_some, svL_mm, qb_some]
      exact qtI_v (M := svL (zmm M A 32 Dn) A m) ho
    · rw [zJo_6, hrf0, hM106 N hN.1 hN.2, if_pos (by decide), m_reply, qb_some]
    · rw [jn 0 0 (by omega) (by omega), zu_ne _ _ _ (by omega), j900]
    · refine INV_v (D := Dn) h rfl rfl rfl (Nat.le_refl _) (by show zsz M + q ≤ _; omega) (by show zsl M + _ ≤ _; omega) ⟨2, by omega, zu_self _ _ _ _, zu_self _ _ _ _, fun k hk => ?_⟩ ?_ ?_ ?_ ?_
      · have q1 : Dn 6 0 = 3 := by
          show zu _ _ _ _ _ _ = _
          rw [zu_ne _ _ _ (by omega), zu_at, if_neg (by omega), zu_self]
        have q2 : Dn 6 1 = nI m := by
          show zu _ _ _ _ _ _ = _
          rw [zu_ne _ _ _ (by omega), zu_self]
        have q3 : Jn 18 0 = 3 := by
          show zu _ _ _ _ _ _ = _
          rw [zu_ne _ _ _ (by omega), zu_at, if_neg (by omega), zu_at, if_neg (by omega), zu_self]
        have q4 : Jn 18 1 = nI m := by
          show zu _ _ _ _ _ _ = _
          rw [zu_ne _ _ _ (by omega), zu_at, if_neg (by omega), zu_self]
        have hk2 : k = 0 ∨ k = 1 := by omega
        rcases hk2 with rfl | rfl
        · rw [q1, q3]
          exact ⟨rfl, 3, by omega, rfl⟩
        · rw [q2, q4]
          exact ⟨rfl, m, hm, rfl⟩
      · exact iVal_c (by rw [dnc 8 (by omega) (by omega)]) (dnc 9 (by omega) (by omega)) (dnc 10 (by omega) (by omega)) (dnc 11 (by omega) (by omega)) (dnc 12 (by omega) (by omega)) (dnc 13 (by omega) (by omega)) (dnc 15 (by omega) (by omega)) (by rw [jn 0 44 (by omega) (by omega), zu_ne _ _ _ (by omega)]) (jnc 29 (by omega) (by omega) (by omega)) (jnc 30 (by omega) (by omega) (by omega)) (iVal_Y x4 x6 hV0)
      · exact dX_trans x4.1 ⟨fun c hc => dnc c (by omega) (by omega), fun k hk => dn 0 k (by omega) (by omega)⟩
      · refine jX_trans jX0 (jX_trans x6.1 (fun c k hc => ?_))
        unfold jx at hc
        rw [jn c k (by omega) (by omega), zu_ne _ _ _ (by omega)]
      · refine svL_S hm i8 (zl_out (svL (zmm M A 32 Dn) A m) A _) (fun k hk => ?_) ?_
        · rw [jn 39 k (by omega) (by omega), zu_at, if_neg (by omega), j39]
        · rw [jn 39 m (by omega) (by omega), zu_self]
  | some r =>
  obtain ⟨v1, v2, v3, v4⟩ := x7 r rfl
  have hr1 : rep (zmm M A 32 D1) (zJo M (A + 32)) 6 a t := rep_mono (zag_d hL D1) (fun _ _ _ _ => rfl) 6 a t hr
  have hT9 : tyEq (zJo M (A + 32)) J9 := jX_ty x6.1 hTJ
  obtain ⟨e, D2, J11, w1, w2, w3, w4, w5, w6, w7, w8, w9, w10, w11⟩ := x_write (M := zmm M A 32 D1) (st := 3) (l3 := m3) hw hr1 hT9 v1 v2 v4 (by omega) hm3
  have dY2 := dY_trans x4 w6
  have jY2 := jY_trans x6 w7
  have i30 : zi (zmm M A 32 D1) (A + 30) y = nI m3 := by
    rw [zmm_i _ _ _ (by omega), x4.1.1 30 (by omega)]
    exact g4.trans e3
  have r13' : zr (zmm M A 32 D1) A 13 = some (A + 28) := r13
  have r15' : zr (zmm M A 32 D1) A 15 = some (A + 30) := zLr0 hL1 1 rfl
  have s28' : zsh (zmm M A 32 D1) (A + 28) = some (.inr (4, 8)) := s28
  have s30' : zsh (zmm M A 32 D1) (A + 30) = some (.inr (0, 8)) := zLs hL1 30 rfl
  have g1' : zr (zmm M A 32 D1) (A + 28) y = some a := g1
  have E2 : zJo (zmm M A 32 D2) A = D2 := zJo_mmE (fun c hc => dY2.1.1 c (by omega))
  rcases w11 with ⟨f1, f2, f3, f4⟩ | ⟨f1, f2⟩
  · -- there is room
    let J11' : zJ := zu J11 39 m 1
    have jo : ∀ c k, c ≠ 39 → J11' c k = J11 c k := fun c k hc => by
      show zu _ _ _ _ _ _ = _
      rw [zu_ne _ _ _ hc]
    have hT11 : tyEq (zJo M (A + 32)) J11' := fun c k c1 c2 => by rw [jo c k (by omega)]; exact jX_ty w7.1 hT9 c k c1 c2
    have hk11 : vOk (zJo M (A + 32)) J11' r := by
      obtain ⟨k1, k2, k3, k4, k5, k6, k7⟩ := w8
      refine ⟨by rw [jo _ _ (by omega)]; exact k1, by rw [jo _ _ (by omega)]; exact k2, k3, k4, fun k P hP => ?_, fun k b hb => ?_, fun k P hP => ?_⟩
      · rw [jo _ _ (by omega), jo _ _ (by omega), jo _ _ (by omega), jo _ _ (by omega), jo _ _ (by omega)]
        exact k5 k P hP
      · rw [jo _ _ (by omega)]
        exact k6 k b hb
      · rw [jo _ _ (by omega)]
        exact k7 k P hP
    obtain ⟨D3, J13, k1, k2, k3, k4, k5⟩ := x_keep (D2 := D2) (J11 := J11') (svL (zmm M A 32 D2) A m) hw hT11 v1 w9 (by rw [w10]; exact v3) hk11
    let Dz : zJ := zu (zu (zu D3 7 0 2) 7 1 (nI m)) 7 2 (nI y)
    have dz : ∀ c k, ¬ (c = 7 ∧ k < 3) → Dz c k = D3 c k := by
      intro c k hck
      show zu _ _ _ _ _ _ = _
      rw [zu_at, if_neg (by omega), zu_at, if_neg (by omega), zu_at, if_neg (by omega)]
    have dzc : ∀ c, c ≠ 7 → Dz c = D3 c := fun c hck => funext (fun k => dz c k (by omega))
    obtain ⟨D4, q1, q2, q3, q4, q5⟩ := c_keepW (D := Dz) (len := 3 + e.length) (zmm (svL (zmm M A 32 D2) A m) A 32 Dz) f1
    have j13_29 : J13 0 29 = nI e.length := by
      rw [k5 0 29 (by omega) (by omega) (by omega) (by omega) (by omega), jo 0 29 (by omega)]
      exact w4
    obtain ⟨J16, u1, u2, u3, u5, u6, u7, u4⟩ := m_answer (J := J13) (len := e.length) (nI m) (nI y) j13_29 (by omega)
    have hL24 : zLy (svL (zmm M A 32 D2) A m) A dShL dRf := hL
    have E3 : zJo (zmm (svL (zmm M A 32 D2) A m) A 32 Dz) A = Dz := by
      rw [svL_mm]
      show zJo (zmm M A 32 Dz) A = Dz
      exact zJo_mmE (fun c hc => by rw [dzc c (by omega), k4 c (by omega)]; exact dY2.1.1 c (by omega))
    have dX4 : dX (zJo M A) D4 := by
      refine dX_trans dY2.1 ⟨fun c hc => ?_, fun k hk => ?_⟩
      · rw [q4 c (by omega) (by omega), dzc c (by omega), k4 c (by omega)]
      · rw [q5 k hk, dzc 0 (by omega), k4 0 (by omega)]
    have jX16 : jX (zJo M (A + 32)) J16 := by
      refine jX_trans jX0 (jX_trans jY2.1 (fun c k hc => ?_))
      unfold jx at hc
      rw [u4 c k (by omega) (by omega), k5 c k (by omega) (by omega) (by omega) (by omega) (by omega), jo c k (by omega)]
    have j16_0 : J16 0 0 = 0 := by
      rw [u4 0 0 (by omega) (by omega), k5 0 0 (by omega) (by omega) (by omega) (by omega) (by omega), jo 0 0 (by omega), w7.2.1, j900]
    refine tn_11 hi hn hc (M5 := zpl (svL (zmm M A 32 D4) A m) (A + 72) 0 (2 : Int32).toInt64) (c := 0) (w := 2) (J := J16) (ev_mono (ev_and x1 f2) (fun N hN => ?_)) (ev_mono (ev_and (ev_and x2 x3) (ev_and w3 (ev_and k2 u1))) (fun N hN => ?_)) hLm ho j16_0 (fun _ => zl_outs _ A _) ?_
    · unfold FL_serve
      have hN1 : FD_readBuffer N M (some a) (nI m2) 3 (zJo M A) = some (true, D1) := hN.1
      have hN2 : FD_writeFound N (zmm M A 32 D1) (some a) (nI m3) 3 D1 = some (nI (3 + e.length), D2) := hN.2
      rw [qk_d e0, hcl0, hD35, hN1, qb_some]
      rw [if_neg (by decide), qk_d (show zsh (zmm M A 32 D1) A = some (.inl 8) from e0), qa_s r13' s28' qy, qa_s r15' s30' qy, qk_t (dLyB_of hL1), g1', i30, E1, hN2, qb_some]
      rw [if_neg (nI_n1 (by omega)), zmm_mm, qk_d (show zsh (zmm M A 32 D2) A = some (.inl 8) from e0), eD_mark (M := zmm M A 32 D2) hL hm, qb_some, qk_d (show zsh (svL (zmm M A 32 D2) A m) A = some (.inl 8) from e0), qk_t (dLyB_of hL24), show zJo (svL (zmm M A 32 D2) A m) A = D2 from E2, k1, qb_some, qk_d (show zsh (zmm (svL (zmm M A 32 D2) A m) A 32 D3) A = some (.inl 8) from e0)]
      have hL29 : ∀ J : zJ, zLy (zmm (svL (zmm M A 32 D2) A m) A 32 J) A dShL dRf := fun _ => hL
      rw [qa_s (zLr0 (hL29 D3) 32 rfl) (zLs (hL29 D3) 7 rfl) (by decide), zmm_p _ _ _ _ _ (by omega), qa_s (zLr0 (hL29 _) 32 rfl) (zLs (hL29 _) 7 rfl) (by decide), zmm_p _ _ _ _ _ (by omega), qa_s (zLr0 (hL29 _) 32 rfl) (zLs (hL29 _) 7 rfl) (by decide), zmm_p _ _ _ _ _ (by omega)]
      show qb (qk (dLyB (zmm (svL (zmm M A 32 D2) A m) A 32 Dz) A) (qb (FD_keepWritten N (zmm (svL (zmm M A 32 D2) A m) A 32 Dz) (nI (3 + e.length)) (zJo (zmm (svL (zmm M A 32 D2) A m) A 32 Dz) A)) _)) _ = _
      rw [qk_t (dLyB_of (hL29 Dz)), E3, q1, qb_some, qb_some, zmm_mm, svL_mm]
      exact qtI_v (M := svL (zmm M A 32 D4) A m) ho
    · rw [zJo_6, hrf0, hM106 N hN.1.1 hN.1.2, if_neg (show ¬ bI (some r).isSome = 0 from (by decide : ¬ bI true = 0)), hN.2.1, qb_some, w4, if_pos (by rw [show (3 : Int32) = nI 3 from rfl, nI_add, show (120 : Int32) = nI 120 from rfl, nI_leI (by omega) (by omega)]; omega), hN.2.2.1, qb_some]
      exact hN.2.2.2
    · refine INV_v (D := D4) h rfl rfl rfl (Nat.le_refl _) (by show zsz M + q ≤ _; omega) (by show zsl M + _ ≤ _; omega) ⟨3 + e.length, f1, q2, by rw [u2, Nat.add_comm], fun k hk => ?_⟩ ?_ dX4 jX16 ?_
      · rw [q3 k hk]
        by_cases hk3 : k < 3
        · have h3 : k = 0 ∨ k = 1 ∨ k = 2 := by omega
          rcases h3 with rfl | rfl | rfl
          · rw [u5]
            refine ⟨?_, 2, by omega, rfl⟩
            show zu _ _ _ _ _ _ = _
            rw [zu_at, if_neg (by omega), zu_at, if_neg (by omega), zu_self]
          · rw [u6]
            refine ⟨?_, m, hm, rfl⟩
            show zu _ _ _ _ _ _ = _
            rw [zu_at, if_neg (by omega), zu_self]
          · rw [u7]
            exact ⟨zu_self _ _ _ _, y, y1, rfl⟩
        · obtain ⟨j, rfl⟩ : ∃ j, k = 3 + j := ⟨k - 3, by omega⟩
          obtain ⟨b, hb⟩ : ∃ b, e[j]? = some b := ⟨_, List.getElem?_eq_getElem (by omega)⟩
          have g1 : Dz 7 (3 + j) = nI b := by
            rw [dz 7 (3 + j) (by omega), k4 7 (by omega)]
            exact f3 j b hb
          have g2 : J16 18 (3 + j) = nI b := by
            rw [u3 j (by omega), k5 20 j (by omega) (by omega) (by omega) (by omega) (by omega), jo 20 j (by omega)]
            exact w5 j b hb
          exact ⟨by rw [g1, g2], b, w2 b (List.mem_of_getElem? hb), g2⟩
      · have d4 : ∀ c, 8 ≤ c → c ≤ 15 → D4 c = D3 c := fun c c1 c2 => by rw [q4 c (by omega) (by omega), dzc c (by omega)]
        exact iVal_c (by rw [d4 8 (by omega) (by omega)]) (d4 9 (by omega) (by omega)) (d4 10 (by omega) (by omega)) (d4 11 (by omega) (by omega)) (d4 12 (by omega) (by omega)) (d4 13 (by omega) (by omega)) (d4 15 (by omega) (by omega)) (u4 0 44 (by omega) (by omega)) (funext (fun k => u4 29 k (by omega) (by omega))) (funext (fun k => u4 30 k (by omega) (by omega))) k3
      · refine svL_S hm i8 (zl_out (svL (zmm M A 32 D4) A m) A _) (fun k hk => ?_) ?_
        · rw [u4 39 k (by omega) (by omega), k5 39 k (by omega) (by omega) (by omega) (by omega) (by omega)]
          show zu _ _ _ _ _ _ = _
          rw [zu_at, if_neg (by omega), w7.2.2.2.2.2.2.2, j39]
        · rw [u4 39 m (by omega) (by omega), k5 39 m (by omega) (by omega) (by omega) (by omega) (by omega)]
          exact zu_self _ _ _ _
  · refine tn_11 hi hn hc (M5 := zpl (zmm M A 32 (rfD D2 (nI m) (nI 4))) (A + 72) 0 (4 : Int32).toInt64) (c := 0) (w := 4) (J := rfJ J11 (nI m) (nI 4)) (ev_mono (ev_and x1 f2) (fun N hN => ?_)) (ev_mono (ev_and (ev_and x2 x3) w3) (fun N hN => ?_)) hLm ho ?_ (fun _ => zl_outs _ A _) (rf_INV h hm (by omega) dY2 (by rw [hJ1]; exact jY2))
    · unfold FL_serve
      have hN1 : FD_readBuffer N M (some a) (nI m2) 3 (zJo M A) = some (true, D1) := hN.1
      have hN2 : FD_writeFound N (zmm M A 32 D1) (some a) (nI m3) 3 D1 = some (-1, D2) := hN.2
      rw [qk_d e0, hcl0, hD35, hN1, qb_some]
      rw [if_neg (by decide), qk_d (show zsh (zmm M A 32 D1) A = some (.inl 8) from e0), qa_s r13' s28' qy, qa_s r15' s30' qy, qk_t (dLyB_of hL1), g1', i30, E1, hN2, qb_some]
      simp only
      rw [if_pos trivial, zmm_mm, qk_t (dLyB_of (M := zmm M A 32 D2) hL), E2, show (4 : Int32) = nI 4 from rfl, eD_refuse, qb_some, zmm_mm, qb_some]
      exact qtI_v (M := zmm M A 32 (rfD D2 (nI m) (nI 4))) ho
    · rw [zJo_5, hrf0, hM106 N hN.1.1 hN.1.2, if_neg (show ¬ bI (some r).isSome = 0 from (by decide : ¬ bI true = 0)), hN.2, qb_some, w4, if_neg (by rw [show (3 : Int32) = nI 3 from rfl, nI_add, show (120 : Int32) = nI 120 from rfl, nI_leI (by omega) (by omega)]; omega), m_reply, qb_some]
      rfl
    · unfold rfJ
      rw [zu_at, if_neg (by omega), zu_ne _ _ _ (by omega), zu_ne _ _ _ (by omega), zu_ne _ _ _ (by omega), w7.2.1, j900]
