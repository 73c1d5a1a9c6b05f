/-! THE REFERENCE reads by the open rules: all of it -/
theorem tgB_lt {T : zJ} {n t : Nat} {dg : Option Nat} (hw : wfT T n t) (hd : ∀ d, dg = some d → d ≤ 9) (h9 : T 4 t ≠ 9) : tgB T t dg < 256 := by
  cases n with
  | zero => exact hw.elim
  | succ n =>
    unfold tgB
    cases dg with
    | some d =>
      have := hd d rfl
      simp only
      split <;> omega
    | none =>
      simp only
      split
      · rename_i k10
        have := (hw.2.2.2.2.2.2.2.1 k10).2.1
        omega
      · split
        · omega
        · rcases hw.2.1 with z | z | z | z | z | z | z | z <;> rw [z] <;> decide
theorem qz_0 {β : Type} (f : Bool → Option β) : qz 0 f = f false := if_pos rfl
theorem qz_1 {β : Type} (f : Bool → Option β) : qz 1 f = f true := by
  unfold qz
  rw [if_neg (by decide), if_pos rfl]
theorem m_alt {T J : zJ} {n b : Nat} {bit l4 l5 l6 l7 : Int32} {K12 : (Int32 × Int32 × Int32 × Int32 × zJ) → Option (Unit × zJ)} (hwb : wfT T (n + 1) b) (k9 : T 4 b = 9) (hT : tyEq T J) (h23 : J 0 23 = nI b) (N : Nat) : ∀ m j F, j + m = cnt T b → m + 1 ≤ F → qfix (FM_element_186 N K12 l4 l5 l6 l7 bit) F (nI j, J) = match altF T b bit m j with
    | none => FM_element_252 N K12 l4 l5 l6 l7 (nI (cnt T b)) 0 J
    | some k => FM_element_252 N K12 l4 l5 l6 l7 (nI k) 1 J := by
  obtain ⟨w1, w2, w3⟩ := hwb.2.2.2.2.2.2.2.2.1 (Or.inr k9)
  have b160 := hwb.1
  have h232 : ∀ k, k ≤ cnt T b → FM_element_232 N K12 l4 l5 l6 l7 (nI k) J = if k < cnt T b then FM_element_252 N K12 l4 l5 l6 l7 (nI k) 1 J else FM_element_252 N K12 l4 l5 l6 l7 (nI k) 0 J := by
    intro k hk
    unfold FM_element_232
    rw [h23, qk_t (qi_nI b160 (by omega)), nI_clamp (by omega), hT 8 b (by omega) (by omega), w1]
    simp (disch := omega) only [nI_leI]
    by_cases c : k < cnt T b
    · rw [if_pos c, if_neg (by omega)]
    · rw [if_neg c, if_pos (by omega)]
  intro m
  induction m with
  | zero =>
    intro j F hj hF
    obtain ⟨F, rfl⟩ : ∃ g, F = g + 1 := ⟨F - 1, by omega⟩
    show FM_element_186 N K12 l4 l5 l6 l7 bit _ (nI j, J) = _
    simp only [FM_element_186, altF]
    rw [h23, qk_t (qi_nI b160 (by omega)), nI_clamp (by omega), hT 8 b (by omega) (by omega), w1, if_pos (by rw [nI_leI (by omega) (by omega)]; omega), h232 j (by omega), if_neg (by omega), show j = cnt T b by omega]
  | succ m ih =>
    intro j F hj hF
    obtain ⟨F, rfl⟩ : ∃ g, F = g + 1 := ⟨F - 1, by omega⟩
    obtain ⟨v1, v2⟩ := w3 j (by omega)
    have u160 : chd T (6 * b + j) < 160 := by cases n with
      | zero => exact v2.elim
      | succ n => exact v2.1
    show FM_element_186 N K12 l4 l5 l6 l7 bit _ (nI j, J) = _
    simp only [FM_element_186, altF]
    rw [h23, qk_t (qi_nI b160 (by omega)), nI_clamp (by omega), hT 8 b (by omega) (by omega), w1, if_neg (by rw [nI_leI (by omega) (by omega)]; omega), show (6 : Int32) * nI b + nI j = nI (6 * b + j) from by rw [show (6 : Int32) = nI 6 from rfl, nI_mul, nI_add], qk_t (qi_nI (by omega) (by omega)), nI_clamp (by omega), hT 13 _ (by omega) (by omega), v1, qk_t (qi_nI u160 (by omega)), nI_clamp (by omega), hT 9 _ (by omega) (by omega), nI_p1]
    by_cases c0 : T 9 (chd T (6 * b + j)) &&& bit = 0
    · rw [if_pos c0, if_pos c0, ih (j + 1) F (by omega) (by omega)]
    · rw [if_neg c0, if_neg c0, h232 j (by omega), if_pos (by omega)]
theorem m_chain {T : zJ} {src : Nat → Nat} {L : Nat} (hs : sOK src) : ∀ n, n ≤ 6 → chE T src L n := by
  intro n
  induction n with
  | zero => intro _ u t0 n0 dg par wh i o en p fr J h; exact h.elim
  | succ n ih0 =>
    intro hn6 u t0 n0 dg par wh i o en p fr J hw hw0 hn0 hbas hd hS hf h23 htg
    have ih := ih0 (by omega)
    have hEF := elF_of (show n ≤ 6 by omega) ih
    have hEE := elE_of hEF
    have hS' := hS
    obtain ⟨a1, a2, a3, a4, a5, a6, a7, a8, a9, a10, a11, a12, a13, a14, a15, a16⟩ := hS
    unfold rdE rdB
    by_cases k10 : T 4 u = 10
    · obtain ⟨w1, w2, w3, w4, w5⟩ := hw.2.2.2.2.2.2.2.1 k10
      have hb : bas T (n + 1) u = bas T n (chd T (6 * u)) := by
        show (if T 4 u = 10 then _ else _) = _
        rw [if_pos k10]
      rw [hb] at h23 hbas ⊢
      simp only [if_pos k10]
      by_cases x : isX T u = true
      case neg =>
        have htl : tls T (n + 1) u dg = tls T n (chd T (6 * u)) (some (dg.getD (dgt T u))) := by rw [tls_tag k10, if_neg x]
        rw [htl] at htg ⊢
        simp only [if_neg x]
        obtain ⟨J1, ⟨n1, e1⟩, e2⟩ := ih (chd T (6 * u)) t0 n0 (some (dg.getD (dgt T u))) par wh i o en p fr J w5 hw0 hn0 hbas (fun d hq => by
          injection hq with hq
          subst hq
          cases dg with
          | none => exact w2
          | some d => exact hd d rfl) hS' (by omega) h23 htg
        exact ⟨J1, ⟨n1, fun N hN F G hF hG => e1 N hN F G (by omega) (by omega)⟩, e2⟩
      have htl : tls T (n + 1) u dg = tgB T u dg :: tls T n (chd T (6 * u)) none := by rw [tls_tag k10, if_pos x]
      rw [htl] at htg ⊢
      simp only [if_pos x]
      have htb := tgB_lt hw hd (by rw [k10]; decide)
      have hle := tls_len (T := T) n (chd T (6 * u)) none
      have h9 : T 4 (bas T n (chd T (6 * u))) ≠ 9 → 1 ≤ (tls T n (chd T (6 * u)) none).length := by
        intro h9
        have : tls T n (chd T (6 * u)) none ≠ [] := fun q => h9 (by rw [bas_self (by rw [(tls_ne n _ none w5).mp q]; decide)]; exact (tls_ne n _ none w5).mp q)
        exact List.length_pos_iff.mpr this
      generalize hl : tls T n (chd T (6 * u)) none = l at *
      have hlen : nI (tgB T u dg :: l).length - 1 = nI l.length := by rw [List.length_cons]; exact nI_subs (a := l.length + 1) (b := 1) (by omega)
      rw [hlen]
      have h16 : J 16 l.length = nI (tgB T u dg) := by
        have := htg l.length (by simp)
        simpa using this
      have hnl : ¬ nI l.length < (if T 4 (bas T n (chd T (6 * u))) = 9 then 0 else 1) := by
        by_cases c9 : T 4 (bas T n (chd T (6 * u))) = 9
        · rw [if_pos c9, show (0 : Int32) = nI 0 from rfl, nI_ltI (by omega) (by omega)]; omega
        · have := h9 c9
          rw [if_neg c9, show (1 : Int32) = nI 1 from rfl, nI_ltI (by omega) (by omega)]; omega
      have hstep : ∀ N F G, qfix (FM_element_59 N (qfix (FM_element_12 N) F) (nI t0) par (nI wh) (if T 4 (bas T n (chd T (6 * u))) = 9 then 0 else 1)) (G + 1) (nI l.length, J) = qb (FM_next N J) fun v1 J2 => if v1 = J2 16 l.length then (if J2 0 49 = 0 then FM_element_100 N (qfix (FM_element_12 N) F) (qfix (FM_element_59 N (qfix (FM_element_12 N) F) (nI t0) par (nI wh) (if T 4 (bas T n (chd T (6 * u))) = 9 then 0 else 1)) G) (nI t0) par (nI wh) (if T 4 (bas T n (chd T (6 * u))) = 9 then 0 else 1) (nI l.length) 0 J2 else FM_element_100 N (qfix (FM_element_12 N) F) (qfix (FM_element_59 N (qfix (FM_element_12 N) F) (nI t0) par (nI wh) (if T 4 (bas T n (chd T (6 * u))) = 9 then 0 else 1)) G) (nI t0) par (nI wh) (if T 4 (bas T n (chd T (6 * u))) = 9 then 0 else 1) (nI l.length) 1 J2) else FM_element_100 N (qfix (FM_element_12 N) F) (qfix (FM_element_59 N (qfix (FM_element_12 N) F) (nI t0) par (nI wh) (if T 4 (bas T n (chd T (6 * u))) = 9 then 0 else 1)) G) (nI t0) par (nI wh) (if T 4 (bas T n (chd T (6 * u))) = 9 then 0 else 1) (nI l.length) 0 J2 := by
        intro N F G
        show FM_element_59 N (qfix (FM_element_12 N) F) (nI t0) par (nI wh) _ _ (nI l.length, J) = _
        simp only [FM_element_59]
        rw [if_neg hnl, if_neg (by rw [a1]; decide)]
        simp only [qk_t (qi_nI (show l.length < 16 by omega) (show 16 < 2 ^ 31 by omega)), nI_clamp (show l.length < 2 ^ 31 by omega)]
      generalize hlast : (if T 4 (bas T n (chd T (6 * u))) = 9 then (0 : Int32) else 1) = last at *
      have hbad : ∀ (Jb : zJ) N F G, Jb 0 49 = 0 → 1 ≤ F → 1 ≤ G → FM_element_100 N (qfix (FM_element_12 N) F) (qfix (FM_element_59 N (qfix (FM_element_12 N) F) (nI t0) par (nI wh) last) G) (nI t0) par (nI wh) last (nI l.length) 0 Jb = some ((), Jb) := by
        intro Jb N F G hb0 hF hG
        unfold FM_element_100
        rw [qz_0]
        simp only [bI_f, zu_id _ 0 49 0 hb0, if_pos hb0]
        rw [m_b59 hb0 N F G hF hG]
      have hn := m_next hS'
      simp only [hn] at hstep
      rw [hdr_ln]
      have hsp := hs p
      by_cases c0 : p < en
      case neg =>
        have c1 : ¬ (p < en ∧ src p = tgB T u dg) := fun q => c0 q.1
        simp only [if_neg c0, qb_some] at hstep
        simp only [if_neg c1]
        have hb0 : zu (zu J 0 49 0) 0 47 (nI (p + 1)) 0 49 = 0 := by rw [zu_at, if_neg (by omega), zu_self]
        refine ⟨zu (zu J 0 49 0) 0 47 (nI (p + 1)), ev_of (fun N F G hF hG => ?_), mR_none hb0 (mK_trans (mK_zu (mW_f (by omega))) (mK_zu (mW_f (by omega))))⟩
        obtain ⟨G, rfl⟩ : ∃ g, G = g + 1 := ⟨G - 1, by omega⟩
        rw [hstep, if_pos hb0, hbad _ N F G hb0 (by omega) (by omega)]
        simp
      simp only [if_pos c0, qb_some] at hstep
      have e16 : zu J 0 47 (nI (p + 1)) 16 l.length = nI (tgB T u dg) := by rw [zu_at, if_neg (by omega)]; exact h16
      have et : nI (src p) = nI (tgB T u dg) ↔ src p = tgB T u dg := nI_eq (by omega) (by omega)
      simp only [e16, et] at hstep
      have hS1 := mS_pos hS' (show p ≤ p + 1 by omega) (show p + 1 ≤ L by omega)
      have hg1 : mG J (zu J 0 47 (nI (p + 1))) i o fr := mG_zu (mW_f (by omega)) (by omega)
      have g49 : ¬ zu J 0 47 (nI (p + 1)) 0 49 = 0 := by rw [hS1.1]; decide
      by_cases c1 : src p = tgB T u dg
      case neg =>
        have c2 : ¬ (p < en ∧ src p = tgB T u dg) := fun q => c1 q.2
        simp only [if_neg c1] at hstep
        simp only [if_neg c2]
        have hb0 : zu (zu J 0 47 (nI (p + 1))) 0 49 0 0 49 = 0 := zu_self _ _ _ _
        refine ⟨zu (zu J 0 47 (nI (p + 1))) 0 49 0, ev_of (fun N F G hF hG => ?_), mR_none hb0 (mK_trans hg1.1 (mK_zu (mW_f (by omega))))⟩
        obtain ⟨G, rfl⟩ : ∃ g, G = g + 1 := ⟨G - 1, by omega⟩
        rw [hstep]
        unfold FM_element_100
        rw [qz_0]
        dsimp only
        rw [if_pos (show zu (zu J 0 47 (nI (p + 1))) 0 49 (bI false) 0 49 = 0 from hb0), bI_f, m_b59 hb0 N F G (by omega) (by omega)]
      have c2 : p < en ∧ src p = tgB T u dg := ⟨c0, c1⟩
      simp only [if_pos c1, if_neg g49] at hstep
      simp only [if_pos c2]
      have hT16 : zu J 0 47 (nI (p + 1)) 16 = J 16 := by funext k; rw [zu_at, if_neg (by omega)]
      have hT23 : zu J 0 47 (nI (p + 1)) 0 23 = J 0 23 := by rw [zu_at, if_neg (by omega)]
      have h100 : ∀ N F G, FM_element_100 N (qfix (FM_element_12 N) F) (qfix (FM_element_59 N (qfix (FM_element_12 N) F) (nI t0) par (nI wh) last) G) (nI t0) par (nI wh) last (nI l.length) 1 (zu J 0 47 (nI (p + 1))) = qb (FM_enter N (-1) (zu J 0 47 (nI (p + 1)))) fun v4 J5 => qfix (FM_element_59 N (qfix (FM_element_12 N) F) (nI t0) par (nI wh) last) G (nI l.length + (-1), J5) := by
        intro N F G
        unfold FM_element_100
        rw [qz_1]
        simp only [bI_t, zu_id _ 0 49 1 hS1.1, if_neg g49]
      simp only [h100] at hstep
      generalize zu J 0 47 (nI (p + 1)) = Ja at hS1 hg1 hT16 hT23 hstep
      obtain ⟨l1, l2⟩ := m_enter hs hS1 (show fr < 100 by omega) (-1)
      cases hln : lnS src true en (p + 1) with
      | none =>
        obtain ⟨J5, e1, e2⟩ := l1 hln
        refine ⟨J5, ev_of (fun N F G hF hG => ?_), mR_none e2.1 (mK_trans hg1.1 e2.2.2)⟩
        obtain ⟨G, rfl⟩ : ∃ g, G = g + 1 := ⟨G - 1, by omega⟩
        rw [hstep, e1, qb_some, m_b59 e2.1 N F G (by omega) (by omega)]
      | some q =>
        obtain ⟨J5, e1, e2, e3, e4, e5, e6, e7, e8, e9, e10⟩ := l2 q hln
        have htg5 : tgAt J5 (tls T n (chd T (6 * u)) none) := by
          rw [hl]
          intro k hk
          rw [e6, hT16, htg k (by simp; omega)]
          congr 1
          simp only [List.length_cons]
          rw [show l.length + 1 - 1 - k = (l.length - 1 - k) + 1 by omega]
          rfl
        obtain ⟨J1, ⟨n1, f1⟩, f2⟩ := ih (chd T (6 * u)) t0 n0 none par wh i o (q.2.getD en) q.1 (fr + 1) J5 w5 hw0 hn0 hbas (fun d hd => by cases hd) e3 (by omega) (by rw [e7, hT23]; exact h23) htg5
        have hrun : Ev (fun N => ∀ F G, n + 1 ≤ F → n + 1 + 1 ≤ G → qfix (FM_element_59 N (qfix (FM_element_12 N) F) (nI t0) par (nI wh) last) G (nI l.length, J) = some ((), J1)) := by
          refine ⟨n1, fun N hN F G hF hG => ?_⟩
          obtain ⟨G, rfl⟩ : ∃ g, G = g + 1 := ⟨G - 1, by omega⟩
          have := f1 N hN F G (by omega) (by omega)
          rw [hl, hlast, Int32.sub_eq_add_neg] at this
          rw [hstep, e1, qb_some]
          exact this
        refine ⟨J1, hrun, ?_⟩
        have hgJ5 : mG J J5 i o fr := mG_trans hg1 e2 (by omega) (by omega) (by omega)
        simp only [Option.bind_some]
        cases hrd : rdE T src false n (chd T (6 * u)) t0 none par wh i o (q.2.getD en) q.1 with
        | none =>
          obtain ⟨J6, z1, z2, z3⟩ := f2.1 hrd
          exact ⟨fun _ => ⟨J6, z1, z2, mK_trans hgJ5.1 z3⟩, fun q hq => by cases hq⟩
        | some r =>
          obtain ⟨J6, z1, z2, z3, z4, z5, z6⟩ := f2.2 r hrd
          have hF6 : mF J6 fr (-1) q.2.isNone := ⟨by rw [z2.2.2.2 31 fr (by omega) (by omega) (by omega)]; exact e4.1, by rw [z2.2.2.2 35 fr (by omega) (by omega) (by omega)]; exact e4.2⟩
          have hgJ6 : mG J J6 i o fr := mG_trans hgJ5 ⟨z2.1, z2.2.1, z2.2.2.1, fun c k c1 c2 hk => z2.2.2.2 c k c1 c2 (by omega)⟩ (by omega) (by omega) (by omega)
          have hE6 : mE J6 L fr en := ⟨a9, fun f' hf' => by rw [hgJ6.2.2.2 32 f' (by omega) (by omega) (by omega)]; exact a10 f' hf', a14⟩
          obtain ⟨l3, l4⟩ := m_leave hs z3 hF6.2
          rw [cls_ce] at l3 l4
          simp only [Option.bind_some]
          have hgo6 : J6 0 49 = 1 ∧ ∃ f, f < 160 ∧ J6 0 48 = nI (f + 1) := ⟨z3.1, fr, by omega, z3.2.2.2.2.1⟩
          cases hcl : cls src q.2 en r.1 with
          | none =>
            obtain ⟨J7, y1, y2⟩ := l3 hcl
            exact ⟨fun _ => ⟨J7, Rch_trans z1 (Rch_step ⟨hgo6.1, hgo6.2, ev_of (fun N => by rw [m_goTag z3 hF6, y1])⟩ (Rch_refl _)), y2.1, mK_trans hgJ6.1 y2.2.2⟩, fun q hq => by cases hq⟩
          | some p3 =>
            obtain ⟨y1, y2, y3⟩ := l4 p3 hcl
            obtain ⟨x1, x2⟩ := m_pop z3 y2 y3 hE6
            refine ⟨fun h => (by cases h), fun qq hq => ?_⟩
            injection hq with hq
            subst hq
            refine ⟨_, Rch_trans z1 (Rch_step ⟨hgo6.1, hgo6.2, ev_of (fun N => by rw [m_goTag z3 hF6, y1])⟩ (Rch_refl _)), mG_trans hgJ6 ⟨x2.1, fun c k c1 c2 hk => x2.2.1 c k c1 c2 (by omega), fun k hk => x2.2.2.1 k (by omega), x2.2.2.2⟩ (by omega) (by omega) (by omega), x1, by show p ≤ p3; omega, ?_, ?_⟩
            · intro k P hk
              have hlt : k < r.2.1.length := (List.getElem?_eq_some_iff.mp hk).1
              obtain ⟨v1, v2, v3, v4, v5⟩ := z5 k P hk
              refine ⟨?_, ?_, ?_, ?_, ?_⟩
              · rw [x2.2.1 21 _ (by omega) (by omega) (by omega)]; exact v1
              · rw [x2.2.1 22 _ (by omega) (by omega) (by omega)]; exact v2
              · rw [x2.2.1 23 _ (by omega) (by omega) (by omega)]; exact v3
              · rw [x2.2.1 24 _ (by omega) (by omega) (by omega)]; exact v4
              · rw [x2.2.1 25 _ (by omega) (by omega) (by omega)]; exact v5
            · intro k bb hk
              have hlt : k < r.2.2.1.length := (List.getElem?_eq_some_iff.mp hk).1
              rw [x2.2.2.1 _ (by omega)]
              exact z6 k bb hk
    simp only [if_neg k10]
    have hb : bas T (n + 1) u = u := bas_self k10
    rw [hb] at h23 hbas ⊢
    have u160 := hw.1
    by_cases k9 : T 4 u = 9
    · simp only [if_pos k9]
      have htl : tls T (n + 1) u dg = [] := (tls_ne (n + 1) u dg hw).mpr k9
      rw [htl]
      obtain ⟨w1, w2, w3⟩ := hw.2.2.2.2.2.2.2.2.1 (Or.inr k9)
      have hstep : ∀ N F G, cnt T u + 1 ≤ N → qfix (FM_element_59 N (qfix (FM_element_12 N) F) (nI t0) par (nI wh) 0) (G + 1) (nI ([] : List Nat).length - 1, J) = match altF T u (ntb src en p) (cnt T u) 0 with
          | none => FM_element_252 N (qfix (FM_element_12 N) F) (nI t0) par (nI wh) 1 (nI (cnt T u)) 0 J
          | some k => FM_element_252 N (qfix (FM_element_12 N) F) (nI t0) par (nI wh) 1 (nI k) 1 J := by
        intro N F G hN
        show FM_element_59 N (qfix (FM_element_12 N) F) (nI t0) par (nI wh) 0 _ (nI 0 - 1, J) = _
        simp only [FM_element_59]
        rw [if_pos (by decide)]
        unfold FM_element_121 FM_element_147
        rw [if_neg (by rw [a1]; decide), h23, qk_t (qi_nI u160 (by omega)), nI_clamp (by omega), a8 4 u (by omega) (by omega), if_pos k9, if_neg (by decide), m_bnd hS', qb_some, a2]
        simp (disch := omega) only [nI_leI]
        have hal := fun b => m_alt (bit := b) (l4 := nI t0) (l5 := par) (l6 := nI wh) (l7 := 1) (K12 := qfix (FM_element_12 N) F) hw k9 a8 h23 N (cnt T u) 0 N (by omega) hN
        unfold ntb
        by_cases c : p < en
        · rw [if_neg (by omega), if_pos c, qk_t (qi_nI (by omega) (by omega)), nI_clamp (by omega), a7 p (by omega), bit0, bit_all ⟨src p, hs p⟩, qc_some]
          exact hal _
        · rw [if_pos (by omega), if_neg c]
          exact hal _
      cases hal : altF T u (ntb src en p) (cnt T u) 0 with
      | none =>
        simp only [hal] at hstep
        have hb0 : zu J 0 49 0 0 49 = 0 := zu_self _ _ _ _
        refine ⟨zu J 0 49 0, ⟨cnt T u + 1, fun N hN F G hF hG => ?_⟩, mR_none hb0 (mK_zu (mW_f (by omega)))⟩
        obtain ⟨G, rfl⟩ : ∃ g, G = g + 1 := ⟨G - 1, by omega⟩
        rw [hstep N F G hN]
        unfold FM_element_252
        rw [qz_0]
        have had : FM_adds N (nI t0) par (nI wh) (nI (cnt T u)) (zu J 0 49 0) = some (99, zu J 0 49 0) := by
          unfold FM_adds FM_adds_14
          rw [zu_id _ 0 49 0 hb0, if_pos hb0]
          simp
        simp only [bI_f, had, qb_some, if_pos hb0]
        rw [m_b12 hb0 N F (by omega)]
      | some k =>
        simp only [hal] at hstep
        have hklt : k < cnt T u := by
          have : ∀ m j, altF T u (ntb src en p) m j = some k → k < j + m := by
            intro m
            induction m with
            | zero => intro j h; cases h
            | succ m ihm =>
              intro j h
              unfold altF at h
              split at h
              · have := ihm _ h; omega
              · injection h with h; omega
          have := this _ _ hal
          omega
        obtain ⟨v1, v2⟩ := w3 k hklt
        simp only [Option.bind_some]
        have h252 : ∀ N F, FM_element_252 N (qfix (FM_element_12 N) F) (nI t0) par (nI wh) 1 (nI k) 1 J = qb (FM_adds N (nI t0) par (nI wh) (nI k) J) fun v3 J4 => if J4 0 49 = 0 then qfix (FM_element_12 N) F (nI t0, v3, 0, 1, J4) else qk (qi ((6 * (J4 0 23)) + nI k) 960) <| qfix (FM_element_12 N) F (J4 13 ((6 * (J4 0 23)) + nI k).toNatClampNeg, v3, 0, 1, J4) := by
          intro N F
          unfold FM_element_252
          rw [qz_1]
          simp only [bI_t, zu_id _ 0 49 1 a1]
        by_cases hi : i < 100
        · obtain ⟨J4, d1, d2, d3, d4, d5, d6, d7⟩ := m_adds hS' hi t0 par wh (nI k)
          obtain ⟨J1, ⟨n1, f1⟩, f2⟩ := hEF (chd T (6 * u + k)) (nI i) 0 (i + 1) o en p fr J4 v2 d3 (by omega)
          refine ⟨J1, ⟨n1 + (cnt T u + 1), fun N hN F G hF hG => ?_⟩, ?_⟩
          · obtain ⟨G, rfl⟩ : ∃ g, G = g + 1 := ⟨G - 1, by omega⟩
            rw [hstep N F G (by omega), h252, d1, qb_some, if_neg (by rw [d3.1]; decide), d6, h23, show (6 : Int32) * nI u + nI k = nI (6 * u + k) from by rw [show (6 : Int32) = nI 6 from rfl, nI_mul, nI_add], qk_t (qi_nI (by omega) (by omega)), nI_clamp (by omega), d3.2.2.2.2.2.2.2.1 13 _ (by omega) (by omega), v1]
            exact f1 N (by omega) F (by omega)
          · simp only [if_pos hi]
            cases hrd : rdE T src false n (chd T (6 * u + k)) (chd T (6 * u + k)) none (nI i) 0 (i + 1) o en p with
            | none =>
              obtain ⟨J6, z1, z2, z3⟩ := f2.1 hrd
              exact ⟨fun _ => ⟨J6, z1, z2, mK_trans d2.1 z3⟩, fun q hq => by cases hq⟩
            | some r =>
              obtain ⟨J6, z1, z2, z3, z4, z5, z6⟩ := f2.2 r hrd
              refine ⟨fun h => (by cases h), fun qq hq => ?_⟩
              injection hq with hq
              subst hq
              obtain ⟨y1, y2, y3, y4, y5⟩ := d4
              refine ⟨J6, z1, mG_trans d2 z2 (by omega) (by omega) (by omega), ?_, z4, mH_cons ?_ ?_ ?_ ?_ ?_ z5, z6⟩
              · show mS T J6 src L (i + (r.2.1.length + 1)) (o + r.2.2.1.length) r.1 fr en
                rw [show i + (r.2.1.length + 1) = i + 1 + r.2.1.length by omega]
                exact z3
              · rw [z2.2.1 21 i (by omega) (by omega) (by omega)]; exact y1
              · rw [z2.2.1 22 i (by omega) (by omega) (by omega)]; exact y2
              · rw [z2.2.1 23 i (by omega) (by omega) (by omega)]; exact y3
              · rw [z2.2.1 24 i (by omega) (by omega) (by omega)]; exact y4
              · rw [z2.2.1 25 i (by omega) (by omega) (by omega)]; exact y5
        · simp only [if_neg hi]
          have hb0 : zu J 0 49 0 0 49 = 0 := zu_self _ _ _ _
          refine ⟨zu J 0 49 0, ⟨cnt T u + 1, fun N hN F G hF hG => ?_⟩, mR_none hb0 (mK_zu (mW_f (by omega)))⟩
          obtain ⟨G, rfl⟩ : ∃ g, G = g + 1 := ⟨G - 1, by omega⟩
          rw [hstep N F G hN, h252, m_adds0 hS' hi, qb_some, if_pos hb0, m_b12 hb0 N F (by omega)]
    simp only [if_neg k9]
    have htl : tls T (n + 1) u dg = [tgB T u dg] := tls_bas k10 k9
    rw [htl] at htg ⊢
    have h16 : J 16 0 = nI (tgB T u dg) := htg 0 (by simp)
    have htb := tgB_lt hw hd k9
    have hstep : ∀ N F G, 1 ≤ F → qfix (FM_element_59 N (qfix (FM_element_12 N) F) (nI t0) par (nI wh) 1) (G + 1) (nI ([tgB T u dg] : List Nat).length - 1, J) = FM_inner N (nI t0) par (nI wh) J := by
      intro N F G hF
      obtain ⟨F, rfl⟩ : ∃ g, F = g + 1 := ⟨F - 1, by omega⟩
      rw [show ([tgB T u dg] : List Nat).length = 1 from rfl]
      show FM_element_59 N (qfix (FM_element_12 N) (F + 1)) (nI t0) par (nI wh) 1 _ (nI 1 - 1, J) = _
      simp only [FM_element_59]
      rw [if_pos (by decide)]
      unfold FM_element_121 FM_element_147
      rw [if_neg (by rw [a1]; decide), h23, qk_t (qi_nI u160 (by omega)), nI_clamp (by omega), a8 4 u (by omega) (by omega), if_neg k9, if_pos rfl]
      show FM_element_12 N _ (nI t0, par, nI wh, 0, J) = _
      simp only [FM_element_12, FM_element_304, if_true]
      rw [if_neg (by rw [a1]; decide)]
      exact qb_id _
    by_cases kp : T 4 u = 6 ∨ T 4 u = 7
    case neg =>
      have k6 : ¬ T 4 u = 6 := fun q => kp (Or.inl q)
      have k7 : ¬ T 4 u = 7 := fun q => kp (Or.inr q)
      have hmade : isMade T u = false := decide_eq_false kp
      have hkk : T 4 u = 1 ∨ T 4 u = 2 ∨ T 4 u = 4 ∨ T 4 u = 5 := by
        rcases hw.2.1 with z | z | z | z | z | z | z | z
        · exact Or.inl z
        · exact Or.inr (Or.inl z)
        · exact Or.inr (Or.inr (Or.inl z))
        · exact Or.inr (Or.inr (Or.inr z))
        · exact absurd z k6
        · exact absurd z k7
        · exact absurd z k9
        · exact absurd z k10
      obtain ⟨J1, e1, e2⟩ := m_plain (t0 := t0) (wh := wh) (par := par) hs hw hkk hS' h23 h16 htb
      simp only [hmade, if_neg k6, if_neg k7]
      refine ⟨J1, ev_mono e1 (fun N hN F G hF hG => ?_), e2⟩
      obtain ⟨G, rfl⟩ : ∃ g, G = g + 1 := ⟨G - 1, by omega⟩
      rw [hstep N F G (by omega), hN]
    have hmade : isMade T u = true := decide_eq_true kp
    simp only [hmade]
    obtain ⟨l1, l2⟩ := m_made (t0 := t0) (wh := wh) (par := par) hs hw kp hS' h23 h16 htb (show fr < 100 by omega)
    have hbadR : (hdr false src (tgB T u dg) true en p = none ∨ ¬ i < 100) → ∃ J1, Ev (fun N => ∀ F G, n + 1 ≤ F → n + 1 + 1 ≤ G → qfix (FM_element_59 N (qfix (FM_element_12 N) F) (nI t0) par (nI wh) 1) G (nI ([tgB T u dg] : List Nat).length - 1, J) = some ((), J1)) ∧ mR T src L J i o p fr en none J1 := by
      intro h
      obtain ⟨J1, e1, e2, e3⟩ := l1 h
      refine ⟨J1, ev_of (fun N F G hF hG => ?_), mR_none e2 e3⟩
      obtain ⟨G, rfl⟩ : ∃ g, G = g + 1 := ⟨G - 1, by omega⟩
      rw [hstep N F G (by omega), e1]
    cases hh : hdr false src (tgB T u dg) true en p with
    | none => exact hbadR (Or.inl hh)
    | some q =>
      by_cases hi : i < 100
      case neg =>
        simp only [Option.bind_some, if_neg hi]
        exact hbadR (Or.inr hi)
      obtain ⟨J1, e1, e2, e3, e4, e5, e6, e7, e8⟩ := l2 q hh hi
      simp only [Option.bind_some, if_pos hi]
      refine ⟨J1, ev_of (fun N F G hF hG => ?_), ?_⟩
      · obtain ⟨G, rfl⟩ : ∃ g, G = g + 1 := ⟨G - 1, by omega⟩
        rw [hstep N F G (by omega), e1]
      have hE1 : mE J1 L fr en := ⟨a9, fun f' hf' => by rw [e2.2.2.2 32 f' (by omega) (by omega) (by omega)]; exact a10 f' hf', a14⟩
      obtain ⟨y1, y2, y3, y4, y5⟩ := e4
      by_cases k6 : T 4 u = 6
      · simp only [if_pos k6]
        have hx := m_seqG (en0 := en) hs hw0 hn0 hbas k6 hw hi hEE (by omega) (cnt T u) (m_seq (en0 := en) hs hw0 hn0 hbas k6 hw hi hEE (by omega) (cnt T u)) 0 (i + 1) o q.1 0 J1 (by omega) (by omega) e3 e5 y1 y2 hE1 e6
        unfold XC at hx
        cases hrd : rdC T src false (rdE T src false n) u (nI i) (q.2.getD en) (cnt T u) 0 (i + 1) o q.1 with
        | none =>
          rw [hrd] at hx
          obtain ⟨J6, z1, z2, z3⟩ := hx.1 rfl
          exact ⟨fun _ => ⟨J6, z1, z2, mK_trans e2.1 z3⟩, fun q hq => by cases hq⟩
        | some r =>
          rw [hrd] at hx
          simp only [Option.bind_some, cls_ce] at hx ⊢
          cases hcl : cls src q.2 en r.1 with
          | none =>
            rw [hcl] at hx
            obtain ⟨J6, z1, z2, z3⟩ := hx.1 rfl
            exact ⟨fun _ => ⟨J6, z1, z2, mK_trans e2.1 z3⟩, fun q hq => by cases hq⟩
          | some p3 =>
            rw [hcl] at hx
            obtain ⟨J6, z1, z2, z3, z4, z5, z6, z7⟩ := hx.2 _ rfl
            simp only [Nat.zero_add] at z5
            refine ⟨fun h => (by cases h), fun qq hq => ?_⟩
            injection hq with hq
            subst hq
            refine ⟨J6, z1, mG_trans e2 ⟨z2.1, fun c k c1 c2 hk => z2.2.1 c k c1 c2 (by omega) (by omega), z2.2.2.1, z2.2.2.2⟩ (Nat.le_refl _) (Nat.le_refl _) (Nat.le_refl _), ?_, by show p ≤ p3; exact Nat.le_trans e7 z4, mH_cons ?_ z5 ?_ ?_ ?_ z6, z7⟩
            · show mS T J6 src L (i + (r.2.2.2.2.1.length + 1)) (o + r.2.2.2.2.2.1.length) p3 fr en
              rw [show i + (r.2.2.2.2.1.length + 1) = i + 1 + r.2.2.2.2.1.length by omega]
              exact z3
            · rw [z2.2.1 21 i (by omega) (by omega) (by omega) (by omega)]; exact y1
            · rw [z2.2.1 23 i (by omega) (by omega) (by omega) (by omega)]; exact y3
            · rw [z2.2.1 24 i (by omega) (by omega) (by omega) (by omega)]; exact y4
            · rw [z2.2.1 25 i (by omega) (by omega) (by omega) (by omega)]; exact y5
      · have k7 : T 4 u = 7 := kp.resolve_left k6
        simp only [if_neg k6, if_pos k7]
        have hx := m_list (en0 := en) (f := fr) (h := i) (lim := q.2.getD en) (lo := q.2.isNone) hs hw0 hn0 hbas k7 hw hi hEE (by omega) 100 0 (i + 1) o q.1 J1 (by omega) (by omega) e3 e5 y1 y2 hE1
        cases hrd : rdL src (rdE T src false n) (chd T (6 * u)) (nI i) (q.2.getD en) 100 0 (i + 1) o q.1 with
        | none =>
          rw [hrd] at hx
          obtain ⟨J6, z1, z2, z3⟩ := hx.1 rfl
          exact ⟨fun _ => ⟨J6, z1, z2, mK_trans e2.1 z3⟩, fun q hq => by cases hq⟩
        | some r =>
          rw [hrd] at hx
          simp only [Option.bind_some, cls_ce, Nat.zero_add] at hx ⊢
          cases ha : alw T u (nI r.2.1) with
          | false =>
            rw [ha] at hx
            simp only [Bool.false_eq_true, if_false] at hx ⊢
            obtain ⟨J6, z1, z2, z3⟩ := hx.1 rfl
            exact ⟨fun _ => ⟨J6, z1, z2, mK_trans e2.1 z3⟩, fun q hq => by cases hq⟩
          | true =>
            rw [ha] at hx
            simp only [if_true] at hx ⊢
            cases hcl : cls src q.2 en r.1 with
            | none =>
              rw [hcl] at hx
              obtain ⟨J6, z1, z2, z3⟩ := hx.1 rfl
              exact ⟨fun _ => ⟨J6, z1, z2, mK_trans e2.1 z3⟩, fun q hq => by cases hq⟩
            | some p3 =>
              rw [hcl] at hx
              obtain ⟨J6, z1, z2, z3, z4, z5, z6, z7⟩ := hx.2 _ rfl
              refine ⟨fun h => (by cases h), fun qq hq => ?_⟩
              injection hq with hq
              subst hq
              refine ⟨J6, z1, mG_trans e2 ⟨z2.1, fun c k c1 c2 hk => z2.2.1 c k c1 c2 (by omega) (by omega), z2.2.2.1, z2.2.2.2⟩ (Nat.le_refl _) (Nat.le_refl _) (Nat.le_refl _), ?_, by show p ≤ p3; exact Nat.le_trans e7 z4, mH_cons ?_ z5 ?_ ?_ ?_ z6, z7⟩
              · show mS T J6 src L (i + (r.2.2.1.length + 1)) (o + r.2.2.2.1.length) p3 fr en
                rw [show i + (r.2.2.1.length + 1) = i + 1 + r.2.2.1.length by omega]
                exact z3
              · rw [z2.2.1 21 i (by omega) (by omega) (by omega) (by omega)]; exact y1
              · rw [z2.2.1 23 i (by omega) (by omega) (by omega) (by omega)]; exact y3
              · rw [z2.2.1 24 i (by omega) (by omega) (by omega) (by omega)]; exact y4
              · rw [z2.2.1 25 i (by omega) (by omega) (by omega) (by omega)]; exact y5
