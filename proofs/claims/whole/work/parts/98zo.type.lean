/-! COMPILING: a type with its tags -/
def kTl (A KC KS q n d : Nat) (M0 : zM) (J0 : zJ) (a0 b0 c0 : Nat) (M : zM) (J : zJ) (p a b c : Nat) (S R : Nat → Bool) (l : Nat) (xs ts : Nat → Nat) : Prop := kcS A KC KS q M J n p a b c ∧ J 0 5 = nI (d + l) ∧ kF A a0 b0 c0 d M0 J0 M J ∧ (a0 ≤ a ∧ b0 ≤ b ∧ c0 ≤ c) ∧ kcN A M J S R a b c ∧ kTg A M0 a0 b0 c0 d M J a b c S R l xs ts
def lkM (M : zM) (l : Nat) (xs : Nat → Nat) (x : Nat) : zM := if l = 0 then M else zpr M (xs (l - 1)) 9 (some x)
theorem lkM_i (M : zM) (l : Nat) (xs : Nat → Nat) (x : Nat) : zi (lkM M l xs x) = zi M := by
  unfold lkM
  split <;> rfl
theorem lkM_sh (M : zM) (l : Nat) (xs : Nat → Nat) (x : Nat) : zsh (lkM M l xs x) = zsh M := by
  unfold lkM
  split <;> rfl
theorem lkM_r (M : zM) (l : Nat) (xs : Nat → Nat) (x z j : Nat) : zr (lkM M l xs x) z j = if 0 < l ∧ z = xs (l - 1) ∧ j = 9 then some x else zr M z j := by
  unfold lkM
  by_cases c : l = 0
  · rw [if_pos c, if_neg (by omega)]
  · rw [if_neg c, zr_pr]
    by_cases c2 : z = xs (l - 1) ∧ j = 9
    · rw [if_pos c2, if_pos ⟨by omega, c2.1, c2.2⟩]
    · rw [if_neg c2, if_neg (fun w => c2 ⟨w.2.1, w.2.2⟩)]
theorem kcS_lk {A KC KS q n p a b c l x : Nat} {M : zM} {J : zJ} {xs : Nat → Nat} (h : kcS A KC KS q M J n p a b c) (hx : 0 < l → ∀ c, c ≤ 72 → xs (l - 1) ≠ A + c) : kcS A KC KS q (lkM M l xs x) J n p a b c ∧ wMf A M (lkM M l xs x) := by
  unfold lkM
  by_cases c0 : l = 0
  · rw [if_pos c0]
    exact ⟨h, wMf_refl A M⟩
  · rw [if_neg c0]
    exact ⟨kcS_xR h (hx (by omega)), wMf_xr (hx (by omega))⟩
theorem kTl_add {A KC KS q n d : Nat} {M0 : zM} {J0 : zJ} {a0 b0 c0 : Nat} {M M6 : zM} {J J6 : zJ} {p a b c p6 x : Nat} {S R : Nat → Bool} {l : Nat} {xs ts : Nat → Nat} (hP0 : kcP A KC KS q M0 a0 b0) (hi : kTl A KC KS q n d M0 J0 a0 b0 c0 M J p a b c S R l xs ts) (h6 : kcS A KC KS q M6 J6 n p6 (a + 1) b (c + 1)) (hF : kF A a b c (d + l) M J M6 J6) (hU : kU A M6 (a + 1) b x) (hU0 : ¬ kU A M a b x) (hTi : kTi M6 J6 x c) (h9 : zr M6 x 9 = none) (j5 : J6 0 5 = nI (d + l + 1)) (j2 : J6 2 (d + l) = nI c) : kTl A KC KS q n d M0 J0 a0 b0 c0 (lkM M6 l xs x) J6 p6 (a + 1) b (c + 1) S R (l + 1) (updN xs l x) (updN ts l c) ∧ wMf A M6 (lkM M6 l xs x) := by
  obtain ⟨i1, i2, i3, ⟨fa, fb, fc⟩, i5, i6⟩ := hi
  have g6 := kTg_up i6 hF ⟨(by omega : a ≤ a + 1), Nat.le_refl _, (by omega : c ≤ c + 1)⟩ (fun _ h => Or.inl h) (fun _ h => Or.inl h)
  obtain ⟨t1, t2, t3⟩ := g6
  have hUx : ∀ z, kU A M6 (a + 1) b z → ∀ c, c ≤ 72 → z ≠ A + c := fun z hz => (kU_x h6.1 h6.2.1 hz).1
  obtain ⟨hK, hm⟩ := kcS_lk (l := l) (x := x) (xs := xs) h6 (fun hl => hUx _ (t1 (l - 1) (by omega)).2.1)
  have hF6 : kF A a0 b0 c0 d M0 J0 M6 J6 := kF_trans i3 hF fa fb fc (by omega)
  have N6 : kcN A M6 J6 S R (a + 1) b (c + 1) := kcN_same hF i5 (by omega) (Nat.le_refl _) (by omega)
  have xx : ∀ i, i < l → xs i ≠ x := fun i hi' e => hU0 (by rw [← e]; exact (i6.1 i hi').2.1)
  have rn : ∀ z, (∀ i, i < l → z ≠ xs i) → zr (lkM M6 l xs x) z = zr M6 z := fun z hz => funext (fun j => by rw [lkM_r, if_neg (fun w => hz (l - 1) (by omega) w.2.1)])
  have rfix : ∀ cc, cc ≤ 72 → zr (lkM M6 l xs x) (A + cc) = zr M6 (A + cc) := fun cc hc => rn _ (fun i hi' e => hUx _ (t1 i hi').2.1 cc hc e.symm)
  have hp : ∀ e j y, (e = 4 ∨ e = 5) → zr M6 (A + e) j = some y → zr (lkM M6 l xs x) (A + e) j = some y := fun e j y he hj => by rw [rfix e (by omega)]; exact hj
  have hSn : ∀ z, S z = true → ∀ i, i < l → z ≠ xs i := fun z hz i hi' e => by rw [e, (t1 i hi').2.2.2.1] at hz; cases hz
  have hUU : ∀ z, kU A M6 (a + 1) b z → kU A (lkM M6 l xs x) (a + 1) b z := fun z hz => kU_up hp (Nat.le_refl _) (Nat.le_refl _) hz
  have hSx : S x = false := by
    cases hs : S x with
    | false => rfl
    | true => exact absurd (i5.1 x hs) hU0
  have hRc : R c = false := by
    cases hs : R c with
    | false => rfl
    | true => exact absurd (i5.2.1 c hs) (by omega)
  refine ⟨⟨hK, j5, ?_, ⟨by omega, fb, by omega⟩, ?_, ⟨fun i hi' => ?_, fun i j hi' hj' e => ?_, fun i j hi' hj' e => ?_⟩⟩, hm⟩
  · refine kF_trans hF6 (b1 := b0) (a1 := a0) (c1 := c0) (d1 := d) ⟨hm, kJ_refl _, fun z hz => ?_, tAg_refl _ _, fun _ _ => rfl, rfl, rfix 3 (by omega), hp⟩ (Nat.le_refl _) (Nat.le_refl _) (Nat.le_refl _) (Nat.le_refl _)
    have hz0 := kU_dn hP0 hF6.2.2.2.2.2.2.2 hz
    exact ⟨by rw [lkM_i], rn z (fun i hi' e => (t1 i hi').2.2.1 (by rw [← e]; exact hz0))⟩
  · exact kcN_up N6 (fun z hz => ⟨by rw [lkM_i], rn z (hSn z hz), fun s hs => by rw [lkM_sh]; exact hs⟩) (tAg_refl _ _) rfl (rfix 3 (by omega)) hp (Nat.le_refl _) (Nat.le_refl _) (Nat.le_refl _)
  · by_cases hil : i = l
    · subst hil
      rw [updN_k, updN_k]
      refine ⟨kTi_c (fun s hs => by rw [lkM_sh]; exact hs) (by rw [lkM_i]) (fun _ _ _ => rfl) hTi, hUU x hU, fun z => hU0 (kU_up i3.2.2.2.2.2.2.2 fa fb z), hSx, ?_, by omega, fc, hRc, j2⟩
      rw [if_neg (by omega), rn x (fun i' hi' e => xx i' hi' e.symm), h9]
    · have hi'' : i < l := by omega
      rw [updN_o hil, updN_o hil]
      obtain ⟨g1, g2, g3, g4, g5, g7, g8, g9, g10⟩ := t1 i hi''
      refine ⟨kTi_c (fun s hs => by rw [lkM_sh]; exact hs) (by rw [lkM_i]) (fun _ _ _ => rfl) g1, hUU _ g2, g3, g4, ?_, g7, g8, g9, g10⟩
      rw [lkM_r]
      by_cases hl1 : i + 1 = l
      · have e1 : xs i = xs (l - 1) := by congr 1; omega
        rw [if_pos ⟨by omega, e1, rfl⟩, if_pos (by omega), hl1, updN_k]
      · rw [if_neg (fun w => by have := t2 i (l - 1) hi'' (by omega) w.2.1; omega), g5, if_pos (by omega), if_pos (by omega), updN_o (by omega)]
  · by_cases hil : i = l
    · by_cases hjl : j = l
      · omega
      · rw [hil, updN_k, updN_o hjl] at e
        exact absurd e.symm (xx j (by omega))
    · by_cases hjl : j = l
      · rw [hjl, updN_k, updN_o hil] at e
        exact absurd e (xx i (by omega))
      · rw [updN_o hil, updN_o hjl] at e
        exact t2 i j (by omega) (by omega) e
  · have tc : ∀ i', i' < l → ts i' < c := fun i' hi'' => (i6.1 i' hi'').2.2.2.2.2.1
    by_cases hil : i = l
    · by_cases hjl : j = l
      · omega
      · rw [hil, updN_k, updN_o hjl] at e
        have := tc j (by omega)
        omega
    · by_cases hjl : j = l
      · rw [hjl, updN_k, updN_o hil] at e
        have := tc i (by omega)
        omega
      · rw [updN_o hil, updN_o hjl] at e
        exact t3 i j (by omega) (by omega) e
def fstT (l : Nat) (xs : Nat → Nat) : Option Nat := if l = 0 then none else some (xs 0)
def lstT (l : Nat) (xs : Nat → Nat) : Option Nat := if l = 0 then none else some (xs (l - 1))
/-- behind the type itself -/
theorem kc_wrap {A KC KS q n d : Nat} {M0 : zM} {J0 : zJ} {a0 b0 c0 p0 : Nat} {M M1 : zM} {J J1 : zJ} {p a b c : Nat} {S R : Nat → Bool} {l y u : Nat} {xs ts : Nat → Nat} (hP0 : kcP A KC KS q M0 a0 b0) (hi : kTl A KC KS q n d M0 J0 a0 b0 c0 M J p a b c S R l xs ts) (hl : 0 < l) (hp0 : p0 ≤ p) (hg : kGood A KC KS q n (d + l) M J p a b c S R M1 J1 y u) :
    ∃ Mf Jf, (∀ N, l + 1 ≤ N → (qo (some (xs (l - 1))) M1 6 fun o4 => let M5 := zpr M1 o4 9 (some y); qo (some y) M5 6 fun o6 => if (zi M5 o6 0) = 9 then qo (some (xs (l - 1))) M5 6 fun o7 => let M8 := zpi M5 o7 5 1; qb (FC_setHeights N KC KS (some (xs 0)) (some y) (nI l) M8) fun v1 M2 => some (some (xs 0), M2) else qb (FC_setHeights N KC KS (some (xs 0)) (some y) (nI l) M5) fun v1 M2 => some (some (xs 0), M2)) = some (some (xs 0), Mf)) ∧ goW (nI u, J1) (nI (ts 0), Jf) ∧ kGood A KC KS q n d M0 J0 p0 a0 b0 c0 S R Mf Jf (xs 0) (ts 0) := by
  obtain ⟨i1, i2, i3, ⟨fa, fb, fc⟩, i5, i6⟩ := hi
  obtain ⟨p1, a1, b1, c1, S1, R1, hu, g1, g2, ⟨g3, g4, g5, g6, g7⟩, g8, g9, g10, g11, g12, g13, g14⟩ := hg
  obtain ⟨t1, t2, t3⟩ := kTg_up i6 g2 ⟨g3, g4, g5⟩ (fun z hz => (g10 z hz).2) (fun z hz => (g11 z hz).2)
  have hyin := dT_in g12
  have hUx : ∀ z, kU A M1 a1 b1 z → ∀ c, c ≤ 72 → z ≠ A + c := fun z hz => (kU_x g1.1 g1.2.1 hz).1
  have xsx : ∀ i, i < l → ∀ c, c ≤ 72 → xs i ≠ A + c := fun i hi' => hUx _ (t1 i hi').2.1
  have hxy : ∀ i, i < l → xs i ≠ y := fun i hi' e => by
    have := (t1 i hi').2.2.2.1
    rw [e, hyin.1] at this
    cases this
  have hSn : ∀ z, S1 z = true → ∀ i, i < l → z ≠ xs i := fun z hz i hi' e => by rw [e, (t1 i hi').2.2.2.1] at hz; cases hz
  have hl1 : l - 1 < l := by omega
  have hp1 : c1 ≤ p1 := g1.2.2.2.2.2.2.2.2.2.2.2
  obtain ⟨q1, q2, q3, q4, q5, q6⟩ := kc_7 g1
  have sl : zsh M1 (xs (l - 1)) = some (.inl 6) := (t1 (l - 1) hl1).1.1
  -- the last tag is bound to the type
  let M5 : zM := zpr M1 (xs (l - 1)) 9 (some y)
  let M8 : zM := if J1 4 u = 9 then zpi M5 (xs (l - 1)) 5 1 else M5
  have hk : zi M1 y 0 = J1 4 u := by
    have := g12.2.1.2.1
    rw [jcut_lt (dT_lt g12)] at this
    exact this
  have m8sh : zsh M8 = zsh M1 := by
    show zsh (if J1 4 u = 9 then zpi M5 (xs (l - 1)) 5 1 else M5) = _
    split <;> rfl
  have m8l : zl M8 = zl M1 := by
    show zl (if J1 4 u = 9 then zpi M5 (xs (l - 1)) 5 1 else M5) = _
    split <;> rfl
  have m8z : zsz M8 = zsz M1 := by
    show zsz (if J1 4 u = 9 then zpi M5 (xs (l - 1)) 5 1 else M5) = _
    split <;> rfl
  have m8s : zsl M8 = zsl M1 := by
    show zsl (if J1 4 u = 9 then zpi M5 (xs (l - 1)) 5 1 else M5) = _
    split <;> rfl
  have m8r : ∀ z j, zr M8 z j = if z = xs (l - 1) ∧ j = 9 then some y else zr M1 z j := by
    intro z j
    show zr (if J1 4 u = 9 then zpi M5 (xs (l - 1)) 5 1 else M5) z j = _
    split
    · exact zr_pr M1 (xs (l - 1)) 9 z j (some y)
    · exact zr_pr M1 (xs (l - 1)) 9 z j (some y)
  have m8i : ∀ z j, zi M8 z j = if J1 4 u = 9 ∧ z = xs (l - 1) ∧ j = 5 then 1 else zi M1 z j := by
    intro z j
    show zi (if J1 4 u = 9 then zpi M5 (xs (l - 1)) 5 1 else M5) z j = _
    by_cases k9 : J1 4 u = 9
    · rw [if_pos k9, zi_pi]
      by_cases c2 : z = xs (l - 1) ∧ j = 5
      · rw [if_pos c2, if_pos ⟨k9, c2.1, c2.2⟩]
      · rw [if_neg c2, if_neg (fun w => c2 w.2)]
        rfl
    · rw [if_neg k9, if_neg (fun w => k9 w.1)]
      rfl
  obtain ⟨f1, f2, f3, f4, f5, f6, f7⟩ := shM_f xs hu l 0 M8
  have f7' := f7 (fun i j _ h2 _ h4 e => t2 i j (by omega) (by omega) e)
  generalize hMf : shM xs hu l 0 M8 = Mf at f1 f2 f3 f4 f5 f6 f7'
  have fi : ∀ z, (∀ i, i < l → z ≠ xs i) → zi Mf z = zi M1 z := fun z hz => funext (fun j => by
    rw [f6 z j (fun w => by obtain ⟨_, i', _, b', c'⟩ := w; exact hz i' (by omega) c'), m8i, if_neg (fun w => hz (l - 1) hl1 w.2.1)])
  have fr : ∀ z, (∀ i, i < l → z ≠ xs i) → zr Mf z = zr M1 z := fun z hz => funext (fun j => by rw [f2, m8r, if_neg (fun w => hz (l - 1) hl1 w.1)])
  have fsh : zsh Mf = zsh M1 := by rw [f1, m8sh]
  have fx : ∀ i, i < l → ∀ j, j ≠ 7 → j ≠ 5 → zi Mf (xs i) j = zi M1 (xs i) j := fun i hi' j h7 h5 => by rw [f6 _ j (fun w => h7 w.1), m8i, if_neg (fun w => h5 w.2.2)]
  have hrx : ∀ i, i < l → zr M8 (xs i) 9 = (if i + 1 < l then some (xs (i + 1)) else some y) := by
    intro i hi'
    rw [m8r]
    by_cases c : i + 1 < l
    · rw [if_neg (fun w => by have := t2 i (l - 1) hi' hl1 w.1; omega), (t1 i hi').2.2.2.2.1, if_pos c, if_pos c]
    · have : i = l - 1 := by omega
      rw [if_pos ⟨by rw [this], rfl⟩, if_neg c]
  have hm : wMf A M1 Mf := by
    refine ⟨fun z s hs => by rw [fsh]; exact hs, fun cc hc _ => fi _ (fun i hi' e => xsx i hi' cc hc e.symm), fun cc hc _ _ _ => fr _ (fun i hi' e => xsx i hi' cc hc e.symm), fun cc _ => by rw [f3, m8l], ?_⟩
    rw [fi (A + 2) (fun i hi' e => xsx i hi' 2 (by omega) e.symm)]
  have d1 : dT Mf J1 S1 R1 y u hu := dT_up (fun _ h => h) (tAg_refl _ _) (fun w hw => ⟨hw, fi w (hSn w hw), fr w (hSn w hw), fun s hs => by rw [fsh]; exact hs⟩) g12
  have hTall : ∀ i, i < l → zsh Mf (xs i) = some (.inl 6) ∧ zi Mf (xs i) 0 = nI 10 ∧ zi Mf (xs i) 1 = 0 ∧ zi Mf (xs i) 4 = J1 7 (ts i) ∧ zi Mf (xs i) 6 = cTag (J1 9 (ts i)) ∧ J1 4 (ts i) = nI 10 ∧ (∃ dg, dg ≤ 9 ∧ J1 7 (ts i) = nI dg) ∧ (J1 12 (ts i) = 0 ∨ J1 12 (ts i) = 1) ∧ J1 8 (ts i) = 0 ∧ J1 10 (ts i) = 0 ∧ J1 11 (ts i) = 0 ∧ J1 9 (ts i) ≠ 0 ∧ mOk (J1 9 (ts i)) ∧ zi Mf (xs i) 7 = nI (hu + (l - i)) ∧ zr Mf (xs i) 9 = (if i + 1 < l then some (xs (i + 1)) else some y) ∧ zi Mf (xs i) 5 = (if J1 12 (ts i) = 0 ∨ (i + 1 = l ∧ J1 4 u = 9) then 1 else 0) := by
    intro i hi'
    obtain ⟨⟨k1, k2, k3, k4, k5, k6, k7, k8, k9, k10, k11, k12, k13, k14⟩, k15⟩ := t1 i hi'
    refine ⟨by rw [fsh]; exact k1, by rw [fx i hi' 0 (by omega) (by omega)]; exact k2, by rw [fx i hi' 1 (by omega) (by omega)]; exact k3, by rw [fx i hi' 4 (by omega) (by omega)]; exact k4, by rw [fx i hi' 6 (by omega) (by omega)]; exact k6, k7, k8, k9, k10, k11, k12, k13, k14, ?_, by rw [f2]; exact hrx i hi', ?_⟩
    · rw [f7' i (by omega) (by omega), Nat.zero_add]
    · rw [f6 _ 5 (fun w => by omega), m8i]
      by_cases hil : i + 1 = l
      · have e1 : xs i = xs (l - 1) := by congr 1; omega
        by_cases k9' : J1 4 u = 9
        · rw [if_pos ⟨k9', e1, rfl⟩, if_pos (Or.inr ⟨hil, k9'⟩)]
        · rw [if_neg (fun w => k9' w.1), k5]
          simp only [k9', and_false, or_false]
      · rw [if_neg (fun w => by have := t2 i (l - 1) hi' hl1 w.2.1; omega), k5]
        simp only [hil, false_and, or_false]
  obtain ⟨Jf, Sf, Rf, r1, r2, r3, r4, r5, r6, r7, r8⟩ := kc_ends (A := A) (KC := KC) (KS := KS) (q := q) (n := n) (p := p) (a := a) (b := b) (c := c) (M0 := M0) (J0 := J0) (a0 := a0) (b0 := b0) (c0 := c0) (Mf := Mf) (J1 := J1) (xs := xs) (ts := ts) (d := d) (l := l) (y := y) g13 (fun i hi' => ⟨by have := (t1 i hi').2.2.2.2.2.1; omega, (t1 i hi').2.2.2.2.2.2.2.1, (t1 i hi').2.2.2.2.2.2.2.2⟩) t3 (fun t ht => by have := (g11 t ht).1; omega) g14 q6 hTall d1 l (Nat.le_refl _)
  have hl0 : l ≠ 0 := by omega
  rw [if_neg hl0, Nat.sub_self] at r1
  rw [if_neg hl0, if_neg hl0, Nat.sub_self] at r2
  rw [Nat.sub_self, Nat.add_zero] at r3
  have jo : ∀ cc j, (cc < 8 ∨ cc = 9 ∨ cc = 11 ∨ cc = 12 ∨ 15 ≤ cc) → ¬ (cc = 0 ∧ j = 5) → Jf cc j = J1 cc j := fun cc j h1 h2 => r8 cc j (by omega) (by omega) h2
  have hj : kJ J1 Jf := fun cc j h1 h2 => jo cc j (by omega) (by omega)
  have hF1 : kF A a0 b0 c0 d M0 J0 M1 J1 := kF_trans i3 g2 fa fb fc (by omega)
  have hF : kF A a0 b0 c0 d M0 J0 Mf Jf := by
    refine kF_trans hF1 (b1 := b0) (a1 := a0) (c1 := c0) (d1 := d) ⟨hm, hj, fun z hz => ?_, fun z hz => ?_, fun j hj' => jo 2 j (by omega) (by omega), funext (fun j => jo 3 j (by omega) (by omega)), fr _ (fun i hi' e => xsx i hi' 3 (by omega) e.symm), fun e j z he hj' => by rw [fr _ (fun i hi' w => xsx i hi' e (by omega) w.symm)]; exact hj'⟩ (Nat.le_refl _) (Nat.le_refl _) (Nat.le_refl _) (Nat.le_refl _)
    · have hz0 := kU_dn hP0 hF1.2.2.2.2.2.2.2 hz
      have hne : ∀ i, i < l → z ≠ xs i := fun i hi' e => (t1 i hi').2.2.1 (by rw [← e]; exact hz0)
      exact ⟨fi z hne, fr z hne⟩
    · have hzc := low_t.mp hz
      have tsn : ∀ i, i < l → c0 ≤ ts i := fun i hi' => (t1 i hi').2.2.2.2.2.2.1
      refine ⟨fun k h1 h2 => r8 k z (fun w => ?_) (fun w => ?_) (by omega), fun j hj' k h1 h2 => r8 k _ (fun w => ?_) (fun w => ?_) (by omega)⟩
      · obtain ⟨_, i', _, b', c'⟩ := w
        have := tsn i' b'
        omega
      · omega
      · omega
      · obtain ⟨_, i', _, b', c'⟩ := w
        have := tsn i' b'
        omega
  have hpp : ∀ e j z, (e = 4 ∨ e = 5) → zr M1 (A + e) j = some z → zr Mf (A + e) j = some z := fun e j z he hj' => by rw [fr _ (fun i hi' w => xsx i hi' e (by omega) w.symm)]; exact hj'
  obtain ⟨u4, u5, u10, ua, ub, uc⟩ := g1.2.2.2.2.2.2
  have c2 : zi Mf (A + 2) = zi M1 (A + 2) := fi _ (fun i hi' e => xsx i hi' 2 (by omega) e.symm)
  have hK : kcS A KC KS q Mf Jf n p1 a1 b1 c1 := kcS_k g1 hm (kcP_same g1.2.1 fsh (by rw [f4, m8z]) (by rw [f5, m8s]) (fr _ (fun i hi' e => xsx i hi' 4 (by omega) e.symm)) (fr _ (fun i hi' e => xsx i hi' 5 (by omega) e.symm))) (by rw [c2]; exact q1) (by rw [c2]; exact g1.2.2.2.2.2.1.1) (by rw [c2]; exact u4) (by rw [c2]; exact u5) hj (by rw [jo 0 3 (by omega) (by omega)]; exact q2) (by rw [jo 0 4 (by omega) (by omega)]; exact q6) (by rw [jo 0 10 (by omega) (by omega)]; exact u10) q4 ua ub uc
  refine ⟨Mf, Jf, fun N hN => ?_, r1, p1, a1, b1, c1, Sf, Rf, hu + l, hK, hF, ⟨by omega, by omega, by omega, by omega, g7⟩, fun z hz => r4 z (g8 z hz), fun z hz => r5 z (g9 z hz), fun z hz => ?_, fun z hz => ?_, r2, by omega, r3⟩
  · have hH : ∀ M8' : zM, M8' = M8 → FC_setHeights N KC KS (some (xs 0)) (some y) (nI l) M8' = some ((), Mf) := by
      intro M8' e
      subst e
      unfold FC_setHeights
      have := c_heights (KC := KC) (KS := KS) (l := l) (y := y) (hu := hu) (xs := xs) l 0 M8 (by omega) (fun i hi' => ⟨by rw [m8sh]; exact (t1 i hi').1.1, hxy i hi', hrx i hi'⟩) (by rw [m8sh]; exact hyin.2) (by rw [m8i, if_neg (fun w => hxy _ hl1 w.2.1.symm)]; exact g12.2.2.2) (by omega) N N (by omega)
      rw [if_pos hl] at this
      rw [this, hMf]
    rw [qo_s rfl sl]
    simp only
    rw [qo_s (M := zpr M1 (xs (l - 1)) 9 (some y)) rfl hyin.2, show zi (zpr M1 (xs (l - 1)) 9 (some y)) y 0 = J1 4 u from hk]
    by_cases k9 : J1 4 u = 9
    · rw [if_pos k9, qo_s (M := zpr M1 (xs (l - 1)) 9 (some y)) rfl sl, hH _ (by show _ = (if J1 4 u = 9 then zpi M5 (xs (l - 1)) 5 1 else M5); rw [if_pos k9]), qb_some]
    · rw [if_neg k9, hH _ (by show _ = (if J1 4 u = 9 then zpi M5 (xs (l - 1)) 5 1 else M5); rw [if_neg k9]), qb_some]
  · rcases r6 z hz with w | ⟨i, hi', w⟩
    · obtain ⟨w1, w2⟩ := g10 z w
      refine ⟨kU_up hpp (Nat.le_refl _) (Nat.le_refl _) w1, ?_⟩
      rcases w2 with w2 | w2
      · exact Or.inl w2
      · exact Or.inr (fun v => w2 (kU_up i3.2.2.2.2.2.2.2 fa fb v))
    · subst w
      exact ⟨kU_up hpp (Nat.le_refl _) (Nat.le_refl _) (t1 i hi').2.1, Or.inr (t1 i hi').2.2.1⟩
  · rcases r7 z hz with w | ⟨i, _, hi', w⟩
    · obtain ⟨w1, w2⟩ := g11 z w
      exact ⟨w1, w2.imp_right (fun v => by omega)⟩
    · subst w
      exact ⟨(t1 i hi').2.2.2.2.2.1, Or.inr (t1 i hi').2.2.2.2.2.2.1⟩
