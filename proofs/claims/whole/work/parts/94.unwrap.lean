/-! THE REFERENCE: tags of a type -/
/-- the tag bytes of a type, the outermost one first; dg: the digit of an implicit tag in front -/
def tls (T : zJ) : Nat → Nat → Option Nat → List Nat
  | 0, _, _ => []
  | n + 1, t, dg => if T 4 t = 10 then (if isX T t = true then tgB T t dg :: tls T n (chd T (6 * t)) none else tls T n (chd T (6 * t)) (some (dg.getD (dgt T t)))) else if T 4 t = 9 then [] else [tgB T t dg]
/-- the reference's rows of types are those of T -/
def tyEq (T J : zJ) : Prop := ∀ c k, 4 ≤ c → c ≤ 15 → J c k = T c k
theorem isX_iff (T : zJ) (t : Nat) : isX T t = true ↔ (T 12 t = 0 ∨ T 4 (chd T (6 * t)) = 9) := by unfold isX; simp
theorem tls_ne {T : zJ} : ∀ n t dg, wfT T n t → (tls T n t dg = [] ↔ T 4 t = 9) := by
  intro n
  induction n with
  | zero => intro t dg h; exact h.elim
  | succ n ih =>
    intro t dg h
    unfold tls
    by_cases k10 : T 4 t = 10
    · rw [if_pos k10]
      have e9 : ¬ T 4 t = 9 := by rw [k10]; decide
      by_cases x : isX T t = true
      · rw [if_pos x]; simp [e9]
      · rw [if_neg x, ih _ _ (h.2.2.2.2.2.2.2.1 k10).2.2.2.2]
        simp only [e9, iff_false]
        intro q
        exact x ((isX_iff T t).mpr (Or.inr q))
    · rw [if_neg k10]
      by_cases k9 : T 4 t = 9
      · rw [if_pos k9]; simp [k9]
      · rw [if_neg k9]; simp [k9]
theorem tls_len {T : zJ} : ∀ n t dg, (tls T n t dg).length ≤ n := by
  intro n
  induction n with
  | zero => intro t dg; exact Nat.le_refl _
  | succ n ih =>
    intro t dg
    unfold tls
    split
    · split
      · have := ih (chd T (6 * t)) none
        simp; omega
      · have := ih (chd T (6 * t)) (some (dg.getD (dgt T t)))
        omega
    · split <;> simp
/-- whether a tag in front makes it one of elements -/
def mkE (T : zJ) (n u : Nat) : Bool := decide (1 < (tls T n u none).length) || decide (T 4 (bas T n u) = 6 ∨ T 4 (bas T n u) = 7 ∨ T 4 (bas T n u) = 9)
theorem nI_mul (a b : Nat) : nI a * nI b = nI (a * b) := by
  apply Int32.toBitVec_inj.mp
  apply BitVec.eq_of_toNat_eq
  rw [Int32.toBitVec_mul, nI_bv, nI_bv, nI_bv, BitVec.toNat_mul, BitVec.toNat_ofNat, BitVec.toNat_ofNat, BitVec.toNat_ofNat]
  simp [Nat.mul_mod]
theorem nI_dec (j : Nat) : nI (j + 1) + (-1) = nI j := by
  rw [← nI_1 j, Int32.add_assoc, show (1 + -1 : Int32) = 0 from by decide, Int32.add_zero]
theorem tls_tag {T : zJ} {n u : Nat} {dg : Option Nat} (k10 : T 4 u = 10) : tls T (n + 1) u dg = if isX T u = true then tgB T u dg :: tls T n (chd T (6 * u)) none else tls T n (chd T (6 * u)) (some (dg.getD (dgt T u))) := by
  show (if T 4 u = 10 then _ else _) = _
  rw [if_pos k10]
theorem tls_bas {T : zJ} {n u : Nat} {dg : Option Nat} (k10 : T 4 u ≠ 10) (k9 : T 4 u ≠ 9) : tls T (n + 1) u dg = [tgB T u dg] := by
  show (if T 4 u = 10 then _ else _) = _
  rw [if_neg k10, if_neg k9]
theorem tls_over {T : zJ} : ∀ n u d, wfT T n u → T 4 u ≠ 9 → tls T n u (some d) = ((if mkE T n u = true then 160 else 128) + d) :: (tls T n u none).tail := by
  intro n
  induction n with
  | zero => intro u d h; exact h.elim
  | succ n ih =>
    intro u d h h9
    by_cases k10 : T 4 u = 10
    · have hw := (h.2.2.2.2.2.2.2.1 k10).2.2.2.2
      have hb : bas T (n + 1) u = bas T n (chd T (6 * u)) := by
        show (if T 4 u = 10 then _ else _) = _
        rw [if_pos k10]
      by_cases x : isX T u = true
      · have hm : mkE T (n + 1) u = true := by
          unfold mkE
          rw [tls_tag k10, if_pos x, hb, Bool.or_eq_true, decide_eq_true_iff, decide_eq_true_iff]
          by_cases c9 : T 4 (chd T (6 * u)) = 9
          · right; right; right
            rw [bas_self (by rw [c9]; decide)]
            exact c9
          · left
            have : tls T n (chd T (6 * u)) none ≠ [] := fun q => c9 ((tls_ne n _ none hw).mp q)
            have := List.length_pos_iff.mpr this
            simp; omega
        rw [hm, tls_tag k10, if_pos x, tls_tag k10, if_pos x]
        simp [tgB, k10]
      · have c9 : T 4 (chd T (6 * u)) ≠ 9 := fun q => x ((isX_iff T u).mpr (Or.inr q))
        have hne : tls T n (chd T (6 * u)) none ≠ [] := fun q => c9 ((tls_ne n _ none hw).mp q)
        have hl := List.length_pos_iff.mpr hne
        have hm : mkE T (n + 1) u = mkE T n (chd T (6 * u)) := by
          unfold mkE
          rw [tls_tag k10, if_neg x, hb, Option.getD_none, ih _ (dgt T u) hw c9, List.length_cons, List.length_tail, Nat.sub_add_cancel hl]
        rw [hm, tls_tag k10, if_neg x, tls_tag k10, if_neg x, Option.getD_some, Option.getD_none, ih _ d hw c9, ih _ (dgt T u) hw c9]
        rfl
    · rw [tls_bas k10 h9, tls_bas k10 h9]
      by_cases m : T 4 u = 6 ∨ T 4 u = 7
      · have m' : T 4 u = 6 ∨ T 4 u = 7 ∨ T 4 u = 10 := by rcases m with m | m <;> simp [m]
        have hm : mkE T (n + 1) u = true := by
          unfold mkE
          rw [bas_self k10, Bool.or_eq_true, decide_eq_true_iff, decide_eq_true_iff]
          rcases m with m | m
          · right; left; exact m
          · right; right; left; exact m
        rw [hm]
        simp [tgB, m']
      · have m' : ¬ (T 4 u = 6 ∨ T 4 u = 7 ∨ T 4 u = 10) := by rintro (q | q | q) <;> simp_all
        have hm : mkE T (n + 1) u = false := by
          unfold mkE
          rw [bas_self k10, tls_bas k10 h9]
          simp
          exact ⟨fun q => m (Or.inl q), fun q => m (Or.inr q), h9⟩
        rw [hm]
        simp [tgB, m']
/-- tag rows of the reference -/
def tgs (J : zJ) (l : List Nat) : Prop := J 0 24 = nI l.length ∧ ∀ k, k < l.length → J 16 k = nI (l.getD (l.length - 1 - k) 0)
def uKp (J J' : zJ) (j : Nat) : Prop := ∀ c k, c ≠ 16 → ¬ (c = 17 ∧ j ≤ k) → ¬ (c = 0 ∧ (k = 23 ∨ k = 24)) → J' c k = J c k
theorem tgs_cons {J : zJ} {l : List Nat} {x : Nat} (h : tgs J l) (hl : l.length < 16) : tgs (zu (zu J 16 l.length (nI x)) 0 24 (nI (l.length + 1))) (x :: l) := by
  refine ⟨by rw [zu_self]; rfl, fun k hk => ?_⟩
  rw [zu_at, if_neg (by omega), zu_at]
  simp only [List.length_cons] at hk
  by_cases c : k = l.length
  · rw [if_pos ⟨rfl, c⟩, c]
    simp
  · rw [if_neg (by omega), h.2 k (by omega)]
    simp only [List.length_cons]
    rw [show l.length + 1 - 1 - k = (l.length - 1 - k) + 1 by omega]
    rfl
theorem tgs_head {J : zJ} {l : List Nat} {x : Nat} (h : tgs J l) (hl : l ≠ []) : tgs (zu J 16 (l.length - 1) (nI x)) (x :: l.tail) := by
  cases l with
  | nil => exact absurd rfl hl
  | cons y l =>
    refine ⟨by rw [zu_at, if_neg (by omega)]; exact h.1, fun k hk => ?_⟩
    rw [zu_at]
    simp only [List.length_cons, List.tail_cons] at hk ⊢
    by_cases c : k = l.length
    · rw [if_pos ⟨trivial, by omega⟩, c]
      simp
    · rw [if_neg (by omega), h.2 k (by simp; omega)]
      simp only [List.length_cons]
      rw [show l.length + 1 - 1 - k = (l.length - 1 - k) + 1 by omega]
      rfl
theorem m_unw0 {T : zJ} : ∀ n u j J, wfT T n u → j + n ≤ 6 → tyEq T J → J 0 23 = nI u →
    ∃ J' c, c ≤ n ∧ (∀ N F, n ≤ F → qfix (FM_unwrap_7 N) F (nI j, J) = qfix (FM_unwrap_102 N (T 4 (bas T n u))) (N - c) (nI j, J') ∨ N < 8) ∧ J' 0 23 = nI (bas T n u) ∧ tgs J' (tls T n u none) ∧ uKp J J' j := by
  intro n
  induction n with
  | zero => intro u j J h; exact h.elim
  | succ n ih =>
    intro u j J hw hj hT h23
    have u160 := hw.1
    by_cases k10 : T 4 u = 10
    · obtain ⟨w1, w2, w3, w4, w5⟩ := hw.2.2.2.2.2.2.2.1 k10
      obtain ⟨J1, c, hc, hrun, b1, b2, b3⟩ := ih (chd T (6 * u)) (j + 1) (zu (zu J 17 j (nI u)) 0 23 (T 13 (6 * u))) w5 (by omega) (fun c k c1 c2 => by rw [zu_at, if_neg (by omega), zu_at, if_neg (by omega)]; exact hT c k c1 c2) (by rw [zu_self, w4])
      have hT1 : tyEq T J1 := fun c k c1 c2 => by rw [b3 c k (by omega) (by omega) (by omega), zu_at, if_neg (by omega), zu_at, if_neg (by omega)]; exact hT c k c1 c2
      have h17 : J1 17 j = nI u := by rw [b3 17 j (by omega) (by omega) (by omega), zu_at, if_neg (by omega), zu_self]
      have hle : (tls T n (chd T (6 * u)) none).length ≤ n := tls_len n _ none
      have e13 : 6 * u < 960 := by omega
      have hfirst : ∀ N F, qfix (FM_unwrap_7 N) (F + 1) (nI j, J) = qfix (FM_unwrap_7 N) F (nI (j + 1), zu (zu J 17 j (nI u)) 0 23 (T 13 (6 * u))) := by
        intro N F
        show FM_unwrap_7 N (qfix (FM_unwrap_7 N) F) (nI j, J) = _
        simp only [FM_unwrap_7]
        rw [h23, qk_t (qi_nI u160 (by omega)), nI_clamp (by omega), hT 4 u (by omega) (by omega), if_pos k10, qk_t (qi_nI (by omega) (by omega)), nI_clamp (by omega)]
        have e1 : zu J 17 j (nI u) 0 23 = nI u := by rw [zu_at, if_neg (by omega), h23]
        rw [e1, show (6 : Int32) * nI u = nI (6 * u) from nI_mul 6 u, qk_t (qi_nI e13 (by omega)), nI_clamp (by omega), nI_p1]
        rw [show zu J 17 j (nI u) 13 (6 * u) = T 13 (6 * u) from by rw [zu_at, if_neg (by omega)]; exact hT 13 _ (by omega) (by omega)]
      have hbas : bas T (n + 1) u = bas T n (chd T (6 * u)) := by
        show (if T 4 u = 10 then _ else _) = _
        rw [if_pos k10]
      have htl : tls T (n + 1) u none = if isX T u = true then (160 + dgt T u) :: tls T n (chd T (6 * u)) none else tls T n (chd T (6 * u)) (some (dgt T u)) := by
        show (if T 4 u = 10 then _ else _) = _
        rw [if_pos k10]
        simp only [tgB, if_pos k10, Option.getD_none]
      rw [hbas]
      have hin : ∀ N, FM_in N (T 4 (bas T n (chd T (6 * u)))) 6 9 = some (decide (T 4 (bas T n (chd T (6 * u))) = 6 ∨ T 4 (bas T n (chd T (6 * u))) = 7 ∨ T 4 (bas T n (chd T (6 * u))) = 9)) := by
        intro N
        have hb := (bas_wf n n _ w5 (Nat.le_refl _)).2
        have hk : ∀ x : Int32, (x = 1 ∨ x = 2 ∨ x = 4 ∨ x = 5 ∨ x = 6 ∨ x = 7 ∨ x = 9) → FM_in N x 6 9 = some (decide (x = 6 ∨ x = 7 ∨ x = 9)) := by
          intro x hx
          rcases hx with rfl | rfl | rfl | rfl | rfl | rfl | rfl <;> rfl
        apply hk
        have hkind : ∀ m v, wfT T m v → (T 4 (bas T m v) = 1 ∨ T 4 (bas T m v) = 2 ∨ T 4 (bas T m v) = 4 ∨ T 4 (bas T m v) = 5 ∨ T 4 (bas T m v) = 6 ∨ T 4 (bas T m v) = 7 ∨ T 4 (bas T m v) = 9) := by
          intro m
          induction m with
          | zero => intro v h; exact h.elim
          | succ m ih2 =>
            intro v h
            unfold bas
            by_cases q : T 4 v = 10
            · rw [if_pos q]; exact ih2 _ (h.2.2.2.2.2.2.2.1 q).2.2.2.2
            · rw [if_neg q]
              rcases h.2.1 with z | z | z | z | z | z | z | z
              · exact Or.inl z
              · exact Or.inr (Or.inl z)
              · exact Or.inr (Or.inr (Or.inl z))
              · exact Or.inr (Or.inr (Or.inr (Or.inl z)))
              · exact Or.inr (Or.inr (Or.inr (Or.inr (Or.inl z))))
              · exact Or.inr (Or.inr (Or.inr (Or.inr (Or.inr (Or.inl z)))))
              · exact Or.inr (Or.inr (Or.inr (Or.inr (Or.inr (Or.inr z)))))
              · exact absurd z q
        exact hkind n _ w5
      generalize hl : tls T n (chd T (6 * u)) none = l at *
      have hmk : mkE T n (chd T (6 * u)) = (decide (1 < l.length) || decide (T 4 (bas T n (chd T (6 * u))) = 6 ∨ T 4 (bas T n (chd T (6 * u))) = 7 ∨ T 4 (bas T n (chd T (6 * u))) = 9)) := by unfold mkE; rw [hl]
      have hempty : l = [] ↔ T 4 (chd T (6 * u)) = 9 := by rw [← hl]; exact tls_ne n _ none w5
      have hstep : ∀ N K, FM_unwrap_102 N (T 4 (bas T n (chd T (6 * u)))) K (nI (j + 1), J1) = FM_unwrap_146 N K (nI j) (T 4 (bas T n (chd T (6 * u)))) (nI (dgt T u)) (bI (mkE T n (chd T (6 * u)))) J1 := by
        intro N K
        simp only [FM_unwrap_102]
        rw [if_neg (by rw [show (0 : Int32) = nI 0 from rfl, nI_leI (by omega) (by omega)]; omega), nI_dec, qk_t (qi_nI (by omega) (by omega)), nI_clamp (by omega), h17, qk_t (qi_nI u160 (by omega)), nI_clamp (by omega), hT1 7 u (by omega) (by omega), w1, b2.1, hin, qc_some, hmk, show (1 : Int32) = nI 1 from rfl]
        simp (disch := omega) only [nI_ltI, bI_eq0]
        by_cases c1 : 1 < l.length
        · rw [if_pos c1, decide_eq_true c1]
          rfl
        · rw [if_neg c1, decide_eq_false c1, Bool.false_or]
          generalize decide (T 4 (bas T n (chd T (6 * u))) = 6 ∨ T 4 (bas T n (chd T (6 * u))) = 7 ∨ T 4 (bas T n (chd T (6 * u))) = 9) = bb
          cases bb <;> rfl
      have h146 : ∀ N K, FM_unwrap_146 N K (nI j) (T 4 (bas T n (chd T (6 * u)))) (nI (dgt T u)) (bI (mkE T n (chd T (6 * u)))) J1 = if isX T u = true then K (nI j, zu (zu J1 16 l.length (nI (160 + dgt T u))) 0 24 (nI (l.length + 1))) else K (nI j, zu J1 16 (l.length - 1) (nI ((if mkE T n (chd T (6 * u)) = true then 160 else 128) + dgt T u))) := by
        intro N K
        have h200 : FM_unwrap_200 N K (nI j) (T 4 (bas T n (chd T (6 * u)))) (nI (dgt T u)) J1 = K (nI j, zu (zu J1 16 l.length (nI (160 + dgt T u))) 0 24 (nI (l.length + 1))) := by
          unfold FM_unwrap_200
          rw [b2.1, qk_t (qi_nI (by omega) (by omega)), nI_clamp (by omega), show (160 : Int32) + nI (dgt T u) = nI (160 + dgt T u) from nI_add 160 _]
          simp only
          rw [show zu J1 16 l.length (nI (160 + dgt T u)) 0 24 = nI l.length from by rw [zu_at, if_neg (by omega), b2.1], nI_p1]
        unfold FM_unwrap_146
        rw [qk_t (qi_nI (by omega) (by omega)), nI_clamp (by omega), h17, qk_t (qi_nI u160 (by omega)), nI_clamp (by omega), hT1 12 u (by omega) (by omega)]
        by_cases c1 : T 12 u = 0
        · rw [if_pos c1, if_pos ((isX_iff T u).mpr (Or.inl c1)), h200]
        · rw [if_neg c1, b2.1]
          by_cases c2 : T 4 (chd T (6 * u)) = 9
          · have : l.length = 0 := by rw [hempty.mpr c2]; rfl
            rw [if_pos (by rw [show (0 : Int32) = nI 0 from rfl, nI_leI (by omega) (by omega)]; omega), if_pos ((isX_iff T u).mpr (Or.inr c2)), h200]
          · have hne : l ≠ [] := fun q => c2 (hempty.mp q)
            have := List.length_pos_iff.mpr hne
            have e1 : nI l.length - 1 = nI (l.length - 1) := nI_subs (b := 1) (by omega)
            rw [if_neg (by rw [show (0 : Int32) = nI 0 from rfl, nI_leI (by omega) (by omega)]; omega), if_neg (fun q => ((isX_iff T u).mp q).elim c1 c2), e1, nI_clamp (by omega), show (160 : Int32) + nI (dgt T u) = nI (160 + dgt T u) from nI_add 160 _, show (128 : Int32) + nI (dgt T u) = nI (128 + dgt T u) from nI_add 128 _]
            simp only [qk_t (qi_nI (show l.length - 1 < 16 by omega) (show 16 < 2 ^ 31 by omega))]
            cases mkE T n (chd T (6 * u)) <;> rfl
      rw [htl]
      by_cases x : isX T u = true
      · simp only [if_pos x] at h146 ⊢
        refine ⟨_, c + 1, by omega, fun N F hF => ?_, ?_, tgs_cons b2 (by omega), fun c' k' c1 c2 c3 => ?_⟩
        · by_cases hN : N < 8
          · exact Or.inr hN
          · left
            obtain ⟨F, rfl⟩ : ∃ g, F = g + 1 := ⟨F - 1, by omega⟩
            obtain ⟨g, hg⟩ : ∃ g, N - c = g + 1 := ⟨N - c - 1, by omega⟩
            rcases hrun N F (by omega) with hr | hr
            · rw [hfirst, hr, hg, show N - (c + 1) = g by omega]
              show FM_unwrap_102 N _ (qfix (FM_unwrap_102 N _) g) (nI (j + 1), J1) = _
              rw [hstep, h146]
            · exact absurd hr hN
        · rw [zu_at, if_neg (by omega), zu_at, if_neg (by omega)]; exact b1
        · rw [zu_at, if_neg (by omega), zu_at, if_neg (by omega), b3 c' k' c1 (by omega) c3, zu_at, if_neg (by omega), zu_at, if_neg (by omega)]
      · simp only [if_neg x] at h146 ⊢
        have c9 : T 4 (chd T (6 * u)) ≠ 9 := fun q => x ((isX_iff T u).mpr (Or.inr q))
        rw [tls_over n _ _ w5 c9, hl]
        refine ⟨_, c + 1, by omega, fun N F hF => ?_, ?_, tgs_head b2 (fun q => c9 (hempty.mp q)), fun c' k' c1 c2 c3 => ?_⟩
        · by_cases hN : N < 8
          · exact Or.inr hN
          · left
            obtain ⟨F, rfl⟩ : ∃ g, F = g + 1 := ⟨F - 1, by omega⟩
            obtain ⟨g, hg⟩ : ∃ g, N - c = g + 1 := ⟨N - c - 1, by omega⟩
            rcases hrun N F (by omega) with hr | hr
            · rw [hfirst, hr, hg, show N - (c + 1) = g by omega]
              show FM_unwrap_102 N _ (qfix (FM_unwrap_102 N _) g) (nI (j + 1), J1) = _
              rw [hstep, h146]
            · exact absurd hr hN
        · rw [zu_at, if_neg (by omega)]; exact b1
        · rw [zu_at, if_neg (by omega), b3 c' k' c1 (by omega) c3, zu_at, if_neg (by omega), zu_at, if_neg (by omega)]
    · have hbas : bas T (n + 1) u = u := bas_self k10
      rw [hbas]
      have htl : tls T (n + 1) u none = if T 4 u = 9 then [] else [if T 4 u = 6 ∨ T 4 u = 7 then 48 else (T 4 u).toNatClampNeg] := by
        show (if T 4 u = 10 then _ else _) = _
        rw [if_neg k10]
        simp only [tgB, if_neg k10]
      have hfirst : ∀ N F, qfix (FM_unwrap_7 N) (F + 1) (nI j, J) = FM_unwrap_75 N (nI j) (T 4 u) (if T 4 u = 9 then 0 else 1) J := by
        intro N F
        show FM_unwrap_7 N (qfix (FM_unwrap_7 N) F) (nI j, J) = _
        simp only [FM_unwrap_7]
        rw [h23, qk_t (qi_nI u160 (by omega)), nI_clamp (by omega), hT 4 u (by omega) (by omega), if_neg k10, qk_t (qi_nI u160 (by omega))]
        by_cases k9 : T 4 u = 9
        · rw [if_pos k9, if_pos k9]
        · rw [if_neg k9, if_neg k9]
      have h75 : ∀ N x, FM_unwrap_75 N (nI j) (T 4 u) x J = qfix (FM_unwrap_102 N (T 4 u)) N (nI j, zu (zu J 0 24 x) 16 0 (nI (if T 4 u = 6 ∨ T 4 u = 7 then 48 else (T 4 u).toNatClampNeg))) := by
        intro N x
        unfold FM_unwrap_75
        simp only [qk_t (show qi 0 16 = true by decide)]
        by_cases k6 : T 4 u = 6
        · rw [if_pos k6, if_pos (show T 4 u = 6 ∨ T 4 u = 7 from Or.inl k6)]; rfl
        · rw [if_neg k6]
          by_cases k7 : T 4 u = 7
          · rw [if_pos k7, if_pos (show T 4 u = 6 ∨ T 4 u = 7 from Or.inr k7)]; rfl
          · rw [if_neg k7, if_neg (show ¬ (T 4 u = 6 ∨ T 4 u = 7) from fun q => q.elim k6 k7)]
            have : nI (T 4 u).toNatClampNeg = T 4 u := by
              rcases hw.2.1 with z | z | z | z | z | z | z | z <;> rw [z] <;> rfl
            rw [this]
            rfl
      refine ⟨zu (zu J 0 24 (if T 4 u = 9 then 0 else 1)) 16 0 (nI (if T 4 u = 6 ∨ T 4 u = 7 then 48 else (T 4 u).toNatClampNeg)), 0, by omega, fun N F hF => ?_, ?_, ?_, fun c' k' c1 c2 c3 => ?_⟩
      · left
        obtain ⟨F, rfl⟩ : ∃ g, F = g + 1 := ⟨F - 1, by omega⟩
        rw [hfirst, h75, Nat.sub_zero]
      · rw [zu_at, if_neg (by omega), zu_at, if_neg (by omega), h23]
      · rw [htl]
        by_cases k9 : T 4 u = 9
        · rw [if_pos k9, if_pos k9]
          refine ⟨by rw [zu_at, if_neg (by omega), zu_self]; rfl, fun k hk => by simp at hk⟩
        · rw [if_neg k9, if_neg k9]
          refine ⟨by rw [zu_at, if_neg (by omega), zu_self]; rfl, fun k hk => ?_⟩
          simp at hk
          subst hk
          rw [zu_self]
          rfl
      · rw [zu_at, if_neg (by omega), zu_at, if_neg (by omega)]
/-- unwrap of the reference -/
theorem m_unw {T J : zJ} {n t : Nat} (hw : wfT T n t) (hn : n ≤ 6) (hT : tyEq T J) : ∃ J', Ev (fun N => FM_unwrap N (nI t) J = some ((), J')) ∧ J' 0 23 = nI (bas T n t) ∧ tgs J' (tls T n t none) ∧ uKp J J' 0 := by
  obtain ⟨J', c, h1, h2, h3, h4, h5⟩ := m_unw0 n t 0 (zu J 0 23 (nI t)) hw (by omega) (fun c k c1 c2 => by rw [zu_at, if_neg (by omega)]; exact hT c k c1 c2) (zu_self _ _ _ _)
  refine ⟨J', ⟨16, fun N hN => ?_⟩, h3, h4, fun c k c1 c2 c3 => ?_⟩
  · show qfix (FM_unwrap_7 N) N (nI 0, zu J 0 23 (nI t)) = _
    rcases h2 N N (by omega) with h | h
    · rw [h]
      obtain ⟨g, hg⟩ : ∃ g, N - c = g + 1 := ⟨N - c - 1, by omega⟩
      rw [hg]
      rfl
    · omega
  · rw [h5 c k c1 (by omega) c3, zu_at, if_neg (by omega)]
