/-! THE REFERENCE says whether bytes are a value -/
theorem lenB_b {n : Nat} (h : n < 65536) : ∀ b, b ∈ lenB n → b < 256 := by
  intro b hb
  unfold lenB at hb
  split at hb
  · simp at hb; omega
  · split at hb
    · simp at hb; omega
    · simp at hb; omega
theorem elem_b {tg : Nat} {c : List Nat} (ht : tg < 256) (hc : ∀ b, b ∈ c → b < 256) (hl : c.length < 65536) : ∀ b, b ∈ elem tg c → b < 256 := by
  intro b hb
  unfold elem at hb
  rcases List.mem_cons.mp hb with h | h
  · omega
  · rcases List.mem_append.mp h with h | h
    · exact lenB_b hl b h
    · exact hc b h
theorem elem_ge (tg : Nat) (c : List Nat) : c.length ≤ (elem tg c).length := by
  unfold elem
  rw [List.length_cons, List.length_append]
  omega
theorem wvc_b {T : zJ} {n t : Nat} {par : Int32} (ih : ∀ t t0 dg par wh i o blk os e pk, wfT T n t → (∀ d, dg = some d → d ≤ 9) → WV T n t t0 dg par wh i o blk os e pk → e.length < 65536 → ∀ b, b ∈ e → b < 256) : ∀ m j i o b os c ma pk num sh, (∀ j', j' < j + m → wfT T n (chd T (6 * t + j'))) → WVC T (WV T n) t par m j i o b os c ma pk num sh → c.length < 65536 → ∀ x, x ∈ c → x < 256 := by
  intro m
  induction m with
  | zero =>
    intro j i o b os c ma pk num sh _ h _ x hx
    obtain ⟨_, _, rfl, _⟩ := h
    simp at hx
  | succ m ihm =>
    intro j i o b os c ma pk num sh hwf h hl
    have hwf' : ∀ j', j' < j + 1 + m → wfT T n (chd T (6 * t + j')) := fun j' hj' => hwf j' (by omega)
    unfold WVC at h
    rcases h with ⟨_, ma', _, h⟩ | ⟨_, b', ma', num', _, _, _, h⟩ | ⟨b1, os1, e1, k1, b', os', c', ma', pk', num', sh', hv1, _, _, _, hc, _, _, _, _, h⟩
    · exact ihm _ _ _ _ _ _ _ _ _ _ hwf' h hl
    · exact ihm _ _ _ _ _ _ _ _ _ _ hwf' h hl
    · subst hc
      rw [List.length_append] at hl
      intro x hx
      rcases List.mem_append.mp hx with hx | hx
      · exact ih _ _ _ _ _ _ _ _ _ _ _ (hwf j (by omega)) (fun d hd => by cases hd) hv1 (by omega) x hx
      · exact ihm _ _ _ _ _ _ _ _ _ _ hwf' h (by omega) x hx
theorem wvl_b {T : zJ} {n u : Nat} {par : Int32} (hw : wfT T n u) (ih : ∀ t t0 dg par wh i o blk os e pk, wfT T n t → (∀ d, dg = some d → d ≤ 9) → WV T n t t0 dg par wh i o blk os e pk → e.length < 65536 → ∀ b, b ∈ e → b < 256) : ∀ m k i o b os c pk, WVL (WV T n) u par m k i o b os c pk → c.length < 65536 → ∀ x, x ∈ c → x < 256 := by
  intro m
  induction m with
  | zero =>
    intro k i o b os c pk h _ x hx
    obtain ⟨_, _, rfl, _⟩ := h
    simp at hx
  | succ m ihm =>
    intro k i o b os c pk h hl x hx
    obtain ⟨b1, os1, e1, k1, b', os', c', pk', hv1, _, _, hc, _, h⟩ := h
    subst hc
    rw [List.length_append] at hl
    rcases List.mem_append.mp hx with hx | hx
    · exact ih _ _ _ _ _ _ _ _ _ _ _ hw (fun d hd => by cases hd) hv1 (by omega) x hx
    · exact ihm _ _ _ _ _ _ _ h (by omega) x hx
theorem wv_b {T : zJ} : ∀ n t t0 dg par wh i o blk os e pk, wfT T n t → (∀ d, dg = some d → d ≤ 9) → WV T n t t0 dg par wh i o blk os e pk → e.length < 65536 → ∀ b, b ∈ e → b < 256 := by
  intro n
  induction n with
  | zero => intro t t0 dg par wh i o blk os e pk h; exact h.elim
  | succ n ih =>
    intro t t0 dg par wh i o blk os e pk hw hd h hl
    unfold WV WVb at h
    rcases h with ⟨k10, _, e1, h, he⟩ | ⟨k10, _, h⟩ | ⟨k9, k, b1, k1, hk, hb, h, _⟩ | ⟨k6, num, sh, ma, b1, c, k1, hb, h, he, _⟩ | ⟨k7, m, b1, c, k1, _, hb, h, he, _⟩ | ⟨v, hb, h⟩
    · subst he
      have hg := elem_ge (tgB T t dg) e1
      exact elem_b (tgB_lt hw hd (by rw [k10]; decide)) (ih _ _ _ _ _ _ _ _ _ _ _ (hw.2.2.2.2.2.2.2.1 k10).2.2.2.2 (fun d hd => by cases hd) h (by omega)) (by omega)
    · refine ih _ _ _ _ _ _ _ _ _ _ _ (hw.2.2.2.2.2.2.2.1 k10).2.2.2.2 (fun d hq => ?_) h hl
      injection hq with hq
      subst hq
      cases dg with
      | none => exact (hw.2.2.2.2.2.2.2.1 k10).2.1
      | some d => exact hd d rfl
    · exact ih _ _ _ _ _ _ _ _ _ _ _ ((hw.2.2.2.2.2.2.2.2.1 (Or.inr k9)).2.2 k hk).2 (fun d hd => by cases hd) h hl
    · subst he
      have hg := elem_ge (tgB T t dg) c
      obtain ⟨w1, w2, w3⟩ := hw.2.2.2.2.2.2.2.2.1 (Or.inl k6)
      exact elem_b (tgB_lt hw hd (by rw [k6]; decide)) (wvc_b ih _ _ _ _ _ _ _ _ _ _ _ (fun j' hj' => (w3 j' (by omega)).2) h (by omega)) (by omega)
    · subst he
      have hg := elem_ge (tgB T t dg) c
      exact elem_b (tgB_lt hw hd (by rw [k7]; decide)) (wvl_b (hw.2.2.2.2.2.2.1 k7).2 ih _ _ _ _ _ _ _ _ h (by omega)) (by omega)
    · rcases h with ⟨k1, _, _, he, _⟩ | ⟨k2, _, he, _⟩ | ⟨k4, _, hol, hob, he, _⟩ | ⟨k5, _, _, he, _⟩
      · subst he
        refine elem_b (tgB_lt hw hd (by rw [k1]; decide)) (fun b hb => ?_) (by simp)
        simp at hb
        split at hb <;> omega
      · subst he
        refine elem_b (tgB_lt hw hd (by rw [k2]; decide)) (fun b hb => ?_) (by rw [intB_len]; have := byC_le v; omega)
        obtain ⟨k, _, rfl⟩ := List.mem_map.mp hb
        unfold vby
        omega
      · subst he
        exact elem_b (tgB_lt hw hd (by rw [k4]; decide)) hob (by omega)
      · subst he
        exact elem_b (tgB_lt hw hd (by rw [k5]; decide)) (fun b hb => by simp at hb) (by simp)
/-- what reading and writing change in the reference -/
def vWr (c k : Nat) : Prop := mW c k ∨ c = 20 ∨ c = 26 ∨ c = 27 ∨ (c = 0 ∧ (k = 29 ∨ k = 30))
def vKp (J J' : zJ) : Prop := ∀ c k, ¬ vWr c k → J' c k = J c k
theorem vKp_trans {J J1 J2 : zJ} (h1 : vKp J J1) (h2 : vKp J1 J2) : vKp J J2 := fun c k h => (h2 c k h).trans (h1 c k h)
theorem mK_vKp {J J' : zJ} (h : mK J J') : vKp J J' := fun c k hn => h c k (fun q => hn (Or.inl q))
theorem wrK_vKp {J J' : zJ} (h : wrK J J') : vKp J J' := fun c k hn => h c k (fun q => hn (Or.inl (by unfold mW; omega))) (fun q => hn (Or.inl (by unfold mW; omega))) (fun q => hn (Or.inr (by omega))) (fun q => hn (Or.inr (by omega))) (fun q => hn (by unfold vWr mW; omega))
theorem vKp_zu {J : zJ} {c k : Nat} {x : Int32} (h : vWr c k) : vKp J (zu J c k x) := by
  intro c' k' hn
  rw [zu_at, if_neg]
  rintro ⟨rfl, rfl⟩
  exact hn h
theorem vKp_ty {T J J' : zJ} (h : vKp J J') (hT : tyEq T J) : tyEq T J' := fun c k c1 c2 => by rw [h c k (by unfold vWr mW; omega)]; exact hT c k c1 c2
/-- the comparison of what was made with the source -/
theorem m_cmp {J : zJ} {src : Nat → Nat} {L : Nat} {e : List Nat} (hs : sOK src) (hL : L ≤ 120) (he : e.length ≤ 4000) (hb : ∀ b, b ∈ e → b < 256) (h28 : J 0 28 = nI L) (h29 : J 0 29 = nI e.length) (h19 : ∀ k, k < L → J 19 k = nI (src k)) (h20 : ∀ k b, e[k]? = some b → J 20 k = nI b) (ok : Bool) (hok : ok = true ↔ e = seg src 0 L) :
    ∃ J', Ev (fun N => (if J 0 29 = J 0 28 then qfix (FM_isValue_158 N) N (0, zu J 0 49 1) else qfix (FM_isValue_158 N) N (0, zu J 0 49 0)) = some (ok, J')) ∧ (∀ c k, ¬ (c = 0 ∧ k = 49) → J' c k = J c k) := by
  have hbad : ∀ x : zJ, x 0 49 = 0 → ∀ N F j, 1 ≤ F → qfix (FM_isValue_158 N) F (nI j, x) = some (false, x) := by
    intro x hx N F j hF
    obtain ⟨F, rfl⟩ : ∃ g, F = g + 1 := ⟨F - 1, by omega⟩
    rw [qfix_s]
    simp only [FM_isValue_158, hx, qz_0, if_true, ite_self]
  rw [h28, h29]
  by_cases hl : e.length = L
  · have hc : nI e.length = nI L := by rw [hl]
    simp only [if_pos hc]
    -- all equal up to j, or not
    have hloop : ∀ m j, j + m = L → (∀ k, k < j → e[k]? = some (src k)) → ∃ J', (∀ N F, m + 2 ≤ F → qfix (FM_isValue_158 N) F (nI j, zu J 0 49 1) = some (ok, J')) ∧ (∀ c k, ¬ (c = 0 ∧ k = 49) → J' c k = J c k) := by
      intro m
      induction m with
      | zero =>
        intro j hj hall
        have hoke : ok = true := by
          refine hok.mpr ?_
          apply List.ext_getElem?
          intro k
          by_cases hk : k < L
          · rw [hall k (by omega)]
            unfold seg
            rw [List.getElem?_map, List.getElem?_range hk]
            show _ = some (src (0 + k))
            rw [Nat.zero_add]
          · rw [List.getElem?_eq_none (by omega), List.getElem?_eq_none (by rw [seg_len]; omega)]
        refine ⟨zu J 0 49 1, fun N F hF => ?_, fun c k hc => by rw [zu_at, if_neg hc]⟩
        obtain ⟨F, rfl⟩ : ∃ g, F = g + 1 := ⟨F - 1, by omega⟩
        rw [qfix_s]
        simp only [FM_isValue_158]
        rw [show zu J 0 49 1 0 29 = nI e.length from by rw [zu_at, if_neg (by omega)]; exact h29, if_pos (by rw [nI_leI (by omega) (by omega)]; omega), zu_self, qz_1, hoke]
      | succ m ih =>
        intro j hj hall
        have hjl : j < e.length := by omega
        have hg : e[j]? = some e[j] := List.getElem?_eq_getElem hjl
        have hej := hb e[j] (List.getElem_mem hjl)
        have hsj := hs j
        have hstep : ∀ N F, qfix (FM_isValue_158 N) (F + 1) (nI j, zu J 0 49 1) = if e[j] = src j then qfix (FM_isValue_158 N) F (nI (j + 1), zu J 0 49 1) else qfix (FM_isValue_158 N) F (nI (j + 1), zu J 0 49 0) := by
          intro N F
          rw [qfix_s]
          simp only [FM_isValue_158]
          rw [show zu J 0 49 1 0 29 = nI e.length from by rw [zu_at, if_neg (by omega)]; exact h29, if_neg (by rw [nI_leI (by omega) (by omega)]; omega), zu_self, if_neg (by decide), qk_t (qi_nI (by omega) (by omega)), qk_t (qi_nI (by omega) (by omega)), nI_clamp (by omega), show zu J 0 49 1 20 j = nI e[j] from by rw [zu_at, if_neg (by omega)]; exact h20 j _ hg, show zu J 0 49 1 19 j = nI (src j) from by rw [zu_at, if_neg (by omega)]; exact h19 j (by omega), zu_same, zu_same, nI_p1]
          simp (disch := omega) only [nI_eq]
        by_cases c : e[j] = src j
        · simp only [if_pos c] at hstep
          obtain ⟨J', i1, i2⟩ := ih (j + 1) (by omega) (fun k hk => by
            by_cases z : k = j
            · subst z; rw [hg, c]
            · exact hall k (by omega))
          refine ⟨J', fun N F hF => ?_, i2⟩
          obtain ⟨F, rfl⟩ : ∃ g, F = g + 1 := ⟨F - 1, by omega⟩
          rw [hstep]
          exact i1 N F (by omega)
        · simp only [if_neg c] at hstep
          have hokf : ok = false := by
            cases hk : ok with
            | false => rfl
            | true =>
              exfalso
              have := hok.mp hk
              apply c
              have h1 : e[j]? = (seg src 0 L)[j]? := by rw [this]
              unfold seg at h1
              rw [hg, List.getElem?_map, List.getElem?_range (by omega)] at h1
              injection h1 with h1
              rw [h1]
              show src (0 + j) = _
              rw [Nat.zero_add]
          refine ⟨zu J 0 49 0, fun N F hF => ?_, fun c k hc => by rw [zu_at, if_neg hc]⟩
          obtain ⟨F, rfl⟩ : ∃ g, F = g + 1 := ⟨F - 1, by omega⟩
          rw [hstep, hbad _ (zu_self _ _ _ _) N F _ (by omega), hokf]
    obtain ⟨J', i1, i2⟩ := hloop L 0 (by omega) (fun k hk => by omega)
    exact ⟨J', ⟨L + 2, fun N hN => i1 N N hN⟩, i2⟩
  · have hc : ¬ nI e.length = nI L := by rw [nI_eq (by omega) (by omega)]; exact hl
    simp only [if_neg hc]
    have hokf : ok = false := by
      cases hk : ok with
      | false => rfl
      | true =>
        exfalso
        have := hok.mp hk
        apply hl
        rw [this, seg_len]
    refine ⟨zu J 0 49 0, ⟨1, fun N hN => ?_⟩, fun c k hc => by rw [zu_at, if_neg hc]⟩
    rw [hokf]
    exact hbad _ (zu_self _ _ _ _) N N 0 hN
theorem m_rch2 {l2 : Int32} (hl : 2 ≤ l2) : ∀ m J J', goR2 m J J' → Ev (fun N => ∀ F, m + 1 ≤ F → qfix (FM_isValue_47 N l2) F J = qfix (FM_isValue_47 N l2) (F - m) J') := by
  intro m
  induction m with
  | zero =>
    intro J J' h
    have : J' = J := h
    subst this
    exact ev_of (fun N F hF => rfl)
  | succ m ih =>
    intro J J' h
    obtain ⟨J1, ⟨h1, ⟨f, hf, h2⟩, h3⟩, h4⟩ := h
    refine ev_mono (ev_and h3 (ih J1 J' h4)) (fun N hN F hF => ?_)
    obtain ⟨F, rfl⟩ : ∃ g, F = g + 1 := ⟨F - 1, by omega⟩
    rw [qfix_s]
    have : FM_isValue_47 N l2 (qfix (FM_isValue_47 N l2) F) J = qfix (FM_isValue_47 N l2) F J1 := by
      simp only [FM_isValue_47]
      rw [if_neg (by rw [h1]; decide), h2, if_neg (by rw [show (0 : Int32) = nI 0 from rfl, nI_leI (by omega) (by omega)]; omega), if_pos hl, hN.1, qb_some]
    rw [this, hN.2 F (by omega), show F + 1 - (m + 1) = F - m by omega]
/-- what is read by rules l2, as class and reference agree -/
def rdV (T : zJ) (src : Nat → Nat) (t L l2 : Nat) : Option Rs := if l2 = 2 then rdPA T src t L else rdA T src (decide (l2 = 1)) t L
theorem rdV_wv {T : zJ} {src : Nat → Nat} {t L l2 : Nat} {r : Rs} (hs : sOK src) (hw : wfT T 6 t) (hL : L ≤ 120) (h : rdV T src t L l2 = some r) : WV T 6 t t none (-1) 0 0 0 r.1 r.2.1 r.2.2.1 r.2.2.2 := by
  unfold rdV at h
  by_cases c : l2 = 2
  · rw [if_pos c] at h
    obtain ⟨q, h1, h2, _⟩ := (can_PA hs hw r).mp h
    subst h2
    exact rp_wv 6 t t none (-1) 0 0 0 (8 * L) 0 q (by omega) hw (by omega) h1
  · rw [if_neg c] at h
    unfold rdA at h
    obtain ⟨q, hq, h⟩ := bind_some_eq h
    obtain ⟨_, h⟩ := ite_some h
    injection h with h
    subst h
    exact rd_wv hs 6 t t none (-1) 0 0 0 L 0 q (by omega) hw hL hq
def vI (J : zJ) : zJ := zu (zu (zu (zu (zu J 0 34 0) 0 35 0) 0 48 0) 0 47 0) 0 49 1
theorem vI_at (J : zJ) (c k : Nat) (h : ¬ (c = 0 ∧ (k = 34 ∨ k = 35 ∨ k = 47 ∨ k = 48 ∨ k = 49))) : vI J c k = J c k := by
  unfold vI
  rw [zu_at, if_neg (by omega), zu_at, if_neg (by omega), zu_at, if_neg (by omega), zu_at, if_neg (by omega), zu_at, if_neg (by omega)]
theorem vI_mK (J : zJ) : mK J (vI J) := fun c k h => vI_at J c k (fun q => h (by unfold mW; omega))
theorem vI_st (J : zJ) : vI J 0 34 = nI 0 ∧ vI J 0 35 = nI 0 ∧ vI J 0 48 = nI 0 ∧ vI J 0 47 = nI 0 ∧ vI J 0 49 = 1 := by
  unfold vI
  refine ⟨?_, ?_, ?_, ?_, zu_self _ _ _ _⟩
  · rw [zu_at, if_neg (by omega), zu_at, if_neg (by omega), zu_at, if_neg (by omega), zu_at, if_neg (by omega), zu_self]; rfl
  · rw [zu_at, if_neg (by omega), zu_at, if_neg (by omega), zu_at, if_neg (by omega), zu_self]; rfl
  · rw [zu_at, if_neg (by omega), zu_at, if_neg (by omega), zu_self]; rfl
  · rw [zu_at, if_neg (by omega), zu_self]; rfl
theorem v_bad {J : zJ} (h : J 0 49 = 0) (l2 : Int32) (N F : Nat) (hF : 1 ≤ F) : qfix (FM_isValue_47 N l2) F J = some (false, J) := by
  obtain ⟨F, rfl⟩ : ∃ g, F = g + 1 := ⟨F - 1, by omega⟩
  rw [qfix_s]
  simp only [FM_isValue_47, FM_isValue_80, FM_isValue_109, if_pos h, qz_0]
  rw [show bI false = 0 from rfl, zu_id _ 0 49 0 h, if_pos h]
/-- what isValue() leaves where the bytes are one -/
def vOk (T J' : zJ) (r : Rs) : Prop := J' 0 34 = nI r.1.length ∧ J' 0 35 = nI r.2.1.length ∧ r.1.length ≤ 100 ∧ r.2.1.length ≤ 120 ∧ mH J' 0 r.1 ∧ mO J' 0 r.2.1 ∧ pBel J' 0 r.1
theorem pPar_mH {J : zJ} {i : Nat} {l : List Pt} (h : mH J i l) : pPar J i l := fun k P hk => (h k P hk).2.2.2.1
/-- settle() and what follows -/
theorem v_end {T J : zJ} {src : Nat → Nat} {t L l2 : Nat} {r : Rs} (hs : sOK src) (hw : wfT T 6 t) (hL : L ≤ 120) (hl2 : l2 ≤ 2) (hv : WV T 6 t t none (-1) 0 0 0 r.1 r.2.1 r.2.2.1 r.2.2.2) (h49 : J 0 49 = 1) (h34 : J 0 34 = nI r.1.length) (h35 : J 0 35 = nI r.2.1.length) (hr1 : r.1.length ≤ 100) (hr2 : r.2.1.length ≤ 120) (h28 : J 0 28 = nI L) (h19 : ∀ k, k < L → J 19 k = nI (src k)) (hT : tyEq T J) (hH : mH J 0 r.1) (hO : mO J 0 r.2.1) (ok : Bool) (hok : ok = true ↔ (l2 = 0 ∨ (l2 = 1 ∧ r.2.2.1 = seg src 0 L) ∨ (l2 = 2 ∧ pkB (pkA r.2.2.2) = seg src 0 L))) :
    ∃ J', Ev (fun N => FM_isValue_109 N (nI l2) 1 J = some (ok, J')) ∧ vKp J J' ∧ (ok = true → vOk T J' r) := by
  obtain ⟨J4, s1, s2, s3⟩ := m_settle (wv_tr _ _ _ _ _ _ _ _ _ _ _ _ hv) hr1 h34 (pPar_mH hH)
  have hk4 : vKp J J4 := fun c k hn => s2 c k (fun q => hn (by unfold vWr; omega))
  have hH4 : mH J4 0 r.1 := fun k P hk => by rw [s2 21 _ (by omega), s2 22 _ (by omega), s2 23 _ (by omega), s2 24 _ (by omega), s2 25 _ (by omega)]; exact hH k P hk
  have hO4 : mO J4 0 r.2.1 := fun k b hk => by rw [s2 28 _ (by omega)]; exact hO k b hk
  have hT4 := vKp_ty hk4 hT
  have h344 : J4 0 34 = nI r.1.length := by rw [s2 0 34 (by omega)]; exact h34
  have h354 : J4 0 35 = nI r.2.1.length := by rw [s2 0 35 (by omega)]; exact h35
  have hu : ∀ N, FM_isValue_109 N (nI l2) 1 J = qb (FM_settle N J) (fun v3 J4 => if nI l2 = 0 then some (true, J4) else qb (FM_write N (nI l2) J4) (fun v5 J6 => if J6 0 29 = J6 0 28 then qfix (FM_isValue_158 N) N (0, zu J6 0 49 1) else qfix (FM_isValue_158 N) N (0, zu J6 0 49 0))) := by
    intro N
    unfold FM_isValue_109
    rw [qz_1]
    simp only [bI_t, zu_id _ 0 49 1 h49]
    rw [if_neg (by rw [h49]; decide)]
  have hvok : ∀ J', (∀ c k, (c = 0 ∧ (k = 34 ∨ k = 35)) ∨ (21 ≤ c ∧ c ≤ 26) ∨ c = 28 → J' c k = J4 c k) → vOk T J' r := by
    intro J' h
    refine ⟨by rw [h 0 34 (by omega)]; exact h344, by rw [h 0 35 (by omega)]; exact h354, hr1, hr2, fun k P hk => ?_, fun k b hk => ?_, fun k P hk => ?_⟩
    · rw [h 21 _ (by omega), h 22 _ (by omega), h 23 _ (by omega), h 24 _ (by omega), h 25 _ (by omega)]; exact hH4 k P hk
    · rw [h 28 _ (by omega)]; exact hO4 k b hk
    · rw [h 26 _ (by omega)]; exact s3 k P hk
  have hl : l2 = 0 ∨ l2 = 1 ∨ l2 = 2 := by omega
  rcases hl with rfl | rfl | rfl
  · have : ok = true := hok.mpr (Or.inl rfl)
    refine ⟨J4, ev_mono s1 (fun N hN => ?_), hk4, fun _ => hvok J4 (fun _ _ _ => rfl)⟩
    rw [hu, hN, qb_some, if_pos (by decide), this]
  · obtain ⟨J6, w1, w2, w3, w4, w5⟩ := m_write1 hw hv hT4 hH4 s3 hO4 hr2 hr1 h344
    have hb := wv_b _ _ _ _ _ _ _ _ _ _ _ _ hw (fun d hd => by cases hd) hv (by omega)
    obtain ⟨J', c1, c2⟩ := m_cmp (J := J6) (e := r.2.2.1) hs hL (by omega) hb (by rw [w5 0 28 (by omega) (by omega) (by omega) (by omega) (by omega), s2 0 28 (by omega)]; exact h28) w2 (fun k hk => by rw [w5 19 k (by omega) (by omega) (by omega) (by omega) (by omega), s2 19 k (by omega)]; exact h19 k hk) w4 ok (by rw [hok]; simp)
    refine ⟨J', ev_mono (ev_and s1 (ev_and w1 c1)) (fun N hN => ?_), vKp_trans hk4 (vKp_trans (wrK_vKp w5) (fun c k hn => c2 c k (fun q => hn (Or.inl (by unfold mW; omega))))), fun _ => hvok J' (fun c k hc => by rw [c2 c k (by omega), w5 c k (by omega) (by omega) (by omega) (by omega) (by omega)])⟩
    have hN1 : FM_write N (nI 1) J4 = some ((), J6) := hN.2.1
    rw [hu, hN.1, qb_some, if_neg (by decide), hN1, qb_some, hN.2.2]
  · obtain ⟨J6, w1, w2, w3, w4, w5⟩ := m_write2 hw hv hT4 hH4 s3 hO4 hr2 hr1 h344
    obtain ⟨J', c1, c2⟩ := m_cmp (J := J6) (e := pkB (pkA r.2.2.2)) hs hL (by omega) (fun b hb => by
      obtain ⟨k, _, rfl⟩ := List.mem_map.mp hb
      exact pby_lt _ _) (by rw [w5 0 28 (by omega) (by omega) (by omega) (by omega) (by omega), s2 0 28 (by omega)]; exact h28) w2 (fun k hk => by rw [w5 19 k (by omega) (by omega) (by omega) (by omega) (by omega), s2 19 k (by omega)]; exact h19 k hk) w4 ok (by rw [hok]; simp)
    refine ⟨J', ev_mono (ev_and s1 (ev_and w1 c1)) (fun N hN => ?_), vKp_trans hk4 (vKp_trans (wrK_vKp w5) (fun c k hn => c2 c k (fun q => hn (Or.inl (by unfold mW; omega))))), fun _ => hvok J' (fun c k hc => by rw [c2 c k (by omega), w5 c k (by omega) (by omega) (by omega) (by omega) (by omega)])⟩
    have hN1 : FM_write N (nI 2) J4 = some ((), J6) := hN.2.1
    rw [hu, hN.1, qb_some, if_neg (by decide), hN1, qb_some, hN.2.2]
theorem m_isValue {T J : zJ} {src : Nat → Nat} {t L l2 : Nat} (hs : sOK src) (hw : wfT T 6 t) (hL : L ≤ 120) (hl2 : l2 ≤ 2) (h28 : J 0 28 = nI L) (h19 : ∀ k, k < L → J 19 k = nI (src k)) (hT : tyEq T J) :
    ∃ J', Ev (fun N => FM_isValue N (nI t) (nI l2) J = some ((rdV T src t L l2).isSome, J')) ∧ vKp J J' ∧ (∀ r, rdV T src t L l2 = some r → vOk T J' r) := by
  obtain ⟨i1, i2, i3, i4, i5⟩ := vI_st J
  have hkI := mK_vKp (vI_mK J)
  have hTI := vKp_ty hkI hT
  have h28I : vI J 0 28 = nI L := by rw [vI_at _ 0 28 (by omega)]; exact h28
  have h19I : ∀ k, k < L → vI J 19 k = nI (src k) := fun k hk => by rw [vI_at _ 19 k (by omega)]; exact h19 k hk
  -- the end of a good reading
  have hfin : ∀ (J2 : zJ) (q : Nat × Rs) (fin : Bool), mK (vI J) J2 → J2 0 49 = 1 → J2 0 48 = nI 0 → J2 0 34 = nI q.2.1.length → J2 0 35 = nI q.2.2.1.length → q.2.1.length ≤ 100 → q.2.2.1.length ≤ 120 → mH J2 0 q.2.1 → mO J2 0 q.2.2.1 → WV T 6 t t none (-1) 0 0 0 q.2.1 q.2.2.1 q.2.2.2.1 q.2.2.2.2 → (fin = true ↔ (l2 = 2 ∨ J2 0 47 = nI L)) → (∀ r, rdV T src t L l2 = some r ↔ (r = q.2 ∧ fin = true ∧ (l2 = 0 ∨ (l2 = 1 ∧ q.2.2.2.1 = seg src 0 L) ∨ (l2 = 2 ∧ pkB (pkA q.2.2.2.2) = seg src 0 L)))) → ∃ J', Ev (fun N => ∀ F, 1 ≤ F → qfix (FM_isValue_47 N (nI l2)) F J2 = some ((rdV T src t L l2).isSome, J')) ∧ vKp J J' ∧ (∀ r, rdV T src t L l2 = some r → vOk T J' r) := by
    intro J2 q fin hk2 h49 h48 h34 h35 hq1 hq2 hH hO hv hfn hsp
    have hk : vKp J J2 := vKp_trans hkI (mK_vKp hk2)
    have h282 : J2 0 28 = nI L := by rw [hk2 0 28 (by unfold mW; omega)]; exact h28I
    have h192 : ∀ k, k < L → J2 19 k = nI (src k) := fun k hk' => by rw [hk2 19 k (by unfold mW; omega)]; exact h19I k hk'
    have h47 : ∀ N F, 1 ≤ F → qfix (FM_isValue_47 N (nI l2)) F J2 = FM_isValue_109 N (nI l2) (bI fin) J2 := by
      intro N F hF
      obtain ⟨F, rfl⟩ : ∃ g, F = g + 1 := ⟨F - 1, by omega⟩
      rw [qfix_s]
      simp only [FM_isValue_47, FM_isValue_80]
      rw [if_neg (by rw [h49]; decide), h48, if_pos (by decide), if_neg (by rw [h49]; decide), h282]
      by_cases c2 : l2 = 2
      · subst c2
        rw [if_pos (by decide), hfn.mpr (Or.inl rfl)]
        rfl
      · rw [if_neg (by rw [show (2 : Int32) = nI 2 from rfl, nI_eq (by omega) (by omega)]; exact c2)]
        by_cases c3 : J2 0 47 = nI L
        · rw [if_pos c3, hfn.mpr (Or.inr c3)]
          rfl
        · rw [if_neg c3]
          have : fin = false := by
            cases hf : fin with
            | false => rfl
            | true => exact absurd (hfn.mp hf) (fun z => z.elim c2 c3)
          rw [this]
          rfl
    cases hf : fin with
    | false =>
      have hnone : rdV T src t L l2 = none := by
        cases hr : rdV T src t L l2 with
        | none => rfl
        | some r =>
          have := ((hsp r).mp hr).2.1
          rw [hf] at this
          cases this
      refine ⟨zu J2 0 49 0, ev_of (fun N F hF => ?_), vKp_trans hk (vKp_zu (Or.inl (mW_f (by omega)))), fun r hr => by rw [hnone] at hr; cases hr⟩
      rw [h47 N F hF, hf, hnone]
      unfold FM_isValue_109
      rw [show bI false = 0 from rfl, qz_0]
      simp only [show bI false = 0 from rfl]
      rw [if_pos (zu_self _ _ _ _)]
      rfl
    | true =>
      obtain ⟨J', v1, v2, v3⟩ := v_end (r := q.2) hs hw hL hl2 hv h49 h34 h35 hq1 hq2 h282 h192 (vKp_ty hk hT) hH hO (rdV T src t L l2).isSome (by
        cases hr : rdV T src t L l2 with
        | none =>
          constructor
          · intro z; cases z
          · intro z
            have := (hsp q.2).mpr ⟨rfl, hf, z⟩
            rw [hr] at this
            cases this
        | some r =>
          constructor
          · intro _; exact ((hsp r).mp hr).2.2
          · intro _; rfl)
      refine ⟨J', ev_mono v1 (fun N hN F hF => ?_), vKp_trans hk v2, fun r hr => ?_⟩
      · rw [h47 N F hF, hf]
        exact hN
      · rw [((hsp r).mp hr).1]
        exact v3 (by rw [hr]; rfl)
  have hnon : rdV T src t L l2 = none → ∀ J2, J2 0 49 = 0 → mK (vI J) J2 → ∃ J', Ev (fun N => ∀ F, 1 ≤ F → qfix (FM_isValue_47 N (nI l2)) F J2 = some ((rdV T src t L l2).isSome, J')) ∧ vKp J J' ∧ (∀ r, rdV T src t L l2 = some r → vOk T J' r) := by
    intro hn J2 h0 hk
    refine ⟨J2, ev_of (fun N F hF => ?_), vKp_trans hkI (mK_vKp hk), fun r hr => by rw [hn] at hr; cases hr⟩
    rw [v_bad h0 _ N F hF, hn]
    rfl
  by_cases c2 : l2 = 2
  · subst c2
    have hS : hS T (vI J) src L 0 0 0 0 := ⟨i5, i4, i1, i2, i3, h28I, h19I, hTI, by omega, by omega, by omega, hL, by omega⟩
    obtain ⟨J1, e1, e2⟩ := elW_of (by omega) (q_chain (T := T) (src := src) (L := L) hs 6 (by omega) 6 (by omega)) t (-1) 0 0 0 0 0 (vI J) hw hS (by omega)
    have hgo : ∀ J2, Rch2 J1 J2 → (∃ J', Ev (fun N => ∀ F, 1 ≤ F → qfix (FM_isValue_47 N (nI 2)) F J2 = some ((rdV T src t L 2).isSome, J')) ∧ vKp J J' ∧ (∀ r, rdV T src t L 2 = some r → vOk T J' r)) → ∃ J', Ev (fun N => FM_isValue N (nI t) (nI 2) J = some ((rdV T src t L 2).isSome, J')) ∧ vKp J J' ∧ (∀ r, rdV T src t L 2 = some r → vOk T J' r) := by
      intro J2 hr ⟨J', g1, g2, g3⟩
      obtain ⟨m, hr⟩ := hr
      refine ⟨J', ev_mono (ev_and (ev_and e1 (m_rch2 (l2 := nI 2) (by decide) m J1 J2 hr)) (ev_and g1 (⟨m + 1, fun N hN => hN⟩ : Ev (fun N => m + 1 ≤ N)))) (fun N hN => ?_), g2, g3⟩
      unfold FM_isValue
      have hN1 : FM_want N (nI t) (-1) 0 (vI J) = some ((), J1) := hN.1.1
      have hv : zu (zu (zu (zu (zu J 0 34 0) 0 35 0) 0 48 0) 0 47 0) 0 49 1 = vI J := rfl
      simp only [hv]
      rw [if_pos (by decide), hN1, qb_some, hN.1.2 N hN.2.2]
      exact hN.2.1 (N - m) (by have := hN.2.2; omega)
    cases hrd : rdP T src false 6 t t none (-1) 0 0 0 (8 * L) 0 with
    | none =>
      obtain ⟨J2, z1, z2, z3⟩ := e2.1 hrd
      refine hgo J2 z1 (hnon ?_ J2 z2 z3)
      cases hr : rdV T src t L 2 with
      | none => rfl
      | some r =>
        have hr : rdPA T src t L = some r := hr
        obtain ⟨q, h1, _⟩ := (can_PA hs hw r).mp hr
        rw [hrd] at h1
        cases h1
    | some q =>
      obtain ⟨J2, z1, z2, z3, z4, z5, z6⟩ := e2.2 q hrd
      have hwv := rp_wv 6 t t none (-1) 0 0 0 (8 * L) 0 q (by omega) hw (by omega) hrd
      rw [Nat.zero_add, Nat.zero_add] at z3
      refine hgo J2 z1 (hfin J2 q true z2.1 z3.1 z3.2.2.2.2.1 z3.2.2.1 z3.2.2.2.1 z3.2.2.2.2.2.2.2.2.1 (by have := z3.2.2.2.2.2.2.2.2.2.1; have := z3.2.2.2.2.2.2.2.2.2.2.1; omega) z5 z6 hwv ⟨fun _ => Or.inl rfl, fun _ => rfl⟩ (fun r => ?_))
      show rdPA T src t L = some r ↔ _
      rw [can_PA hs hw r]
      constructor
      · rintro ⟨q', h1, h2, h3⟩
        rw [hrd] at h1
        injection h1 with h1
        subst h1
        exact ⟨h2.symm, rfl, Or.inr (Or.inr ⟨rfl, by rw [h2]; exact h3⟩)⟩
      · rintro ⟨h1, _, h3⟩
        rcases h3 with h3 | h3 | h3
        · exact absurd h3 (by decide)
        · exact absurd h3.1 (by decide)
        · exact ⟨q, hrd, h1.symm, by rw [h1]; exact h3.2⟩
  · have hS : mS T (vI J) src L 0 0 0 0 L := ⟨i5, i4, i1, i2, i3, h28I, h19I, hTI, fun _ => rfl, fun f hf => (by omega), by omega, by omega, by omega, by omega, hL, by omega⟩
    obtain ⟨J1, e1, e2⟩ := elE_of (elF_of (by omega) (m_chain (T := T) (src := src) (L := L) hs 6 (by omega))) t (-1) 0 0 0 L 0 0 (vI J) hw hS (by omega)
    have hl2' : ¬ (2 : Int32) ≤ nI l2 := by rw [show (2 : Int32) = nI 2 from rfl, nI_leI (by omega) (by omega)]; omega
    have hgo : ∀ J2, Rch J1 J2 → (∃ J', Ev (fun N => ∀ F, 1 ≤ F → qfix (FM_isValue_47 N (nI l2)) F J2 = some ((rdV T src t L l2).isSome, J')) ∧ vKp J J' ∧ (∀ r, rdV T src t L l2 = some r → vOk T J' r)) → ∃ J', Ev (fun N => FM_isValue N (nI t) (nI l2) J = some ((rdV T src t L l2).isSome, J')) ∧ vKp J J' ∧ (∀ r, rdV T src t L l2 = some r → vOk T J' r) := by
      intro J2 hr ⟨J', g1, g2, g3⟩
      obtain ⟨m, hr⟩ := hr
      refine ⟨J', ev_mono (ev_and (ev_and e1 (m_rch (l2 := nI l2) hl2' m J1 J2 hr)) (ev_and g1 (⟨m + 1, fun N hN => hN⟩ : Ev (fun N => m + 1 ≤ N)))) (fun N hN => ?_), g2, g3⟩
      unfold FM_isValue
      have hN1 : FM_element N (nI t) (-1) 0 (vI J) = some ((), J1) := hN.1.1
      have hv : zu (zu (zu (zu (zu J 0 34 0) 0 35 0) 0 48 0) 0 47 0) 0 49 1 = vI J := rfl
      simp only [hv]
      rw [if_neg hl2', hN1, qb_some, hN.1.2 N hN.2.2]
      exact hN.2.1 (N - m) (by have := hN.2.2; omega)
    have hV : rdV T src t L l2 = rdA T src (decide (l2 = 1)) t L := by unfold rdV; rw [if_neg c2]
    have hAF : ∀ r, rdA T src (decide (l2 = 1)) t L = some r → rdA T src false t L = some r := by
      intro r hr
      by_cases c1 : l2 = 1
      · rw [decide_eq_true c1] at hr
        exact ((can_A hs t L hL r).mp hr).1
      · rw [decide_eq_false c1] at hr
        exact hr
    cases hrd : rdE T src false 6 t t none (-1) 0 0 0 L 0 with
    | none =>
      obtain ⟨J2, z1, z2, z3⟩ := e2.1 hrd
      refine hgo J2 z1 (hnon ?_ J2 z2 z3)
      cases hr : rdV T src t L l2 with
      | none => rfl
      | some r =>
        rw [hV] at hr
        have := hAF r hr
        unfold rdA at this
        rw [hrd] at this
        cases this
    | some q =>
      obtain ⟨J2, z1, z2, z3, z4, z5, z6⟩ := e2.2 q hrd
      have hwv := rd_wv hs 6 t t none (-1) 0 0 0 L 0 q (by omega) hw hL hrd
      rw [Nat.zero_add, Nat.zero_add] at z3
      obtain ⟨a1, a2, a3, a4, a5, a6, a7, a8, a9, a10, a11, a12, a13, a14, a15, a16⟩ := z3
      have hA : ∀ r, rdA T src false t L = some r ↔ (r = q.2 ∧ q.1 = L) := by
        intro r
        unfold rdA
        rw [hrd, Option.bind_some]
        constructor
        · intro h
          obtain ⟨c, h⟩ := ite_some h
          injection h with h
          exact ⟨h.symm, c⟩
        · rintro ⟨h1, h2⟩
          rw [if_pos h2, h1]
      refine hgo J2 z1 (hfin J2 q (decide (q.1 = L)) z2.1 a1 a5 a3 a4 a11 (by omega) z5 z6 hwv ?_ (fun r => ?_))
      · rw [decide_eq_true_iff, a2, nI_eq (by omega) (by omega)]
        constructor
        · intro z; exact Or.inr z
        · intro z; exact z.resolve_left c2
      · rw [hV, decide_eq_true_iff]
        by_cases c1 : l2 = 1
        · rw [decide_eq_true c1, can_A hs t L hL r, hA]
          constructor
          · rintro ⟨⟨h1, h2⟩, h3⟩
            exact ⟨h1, h2, Or.inr (Or.inl ⟨c1, by rw [h1] at h3; exact h3⟩)⟩
          · rintro ⟨h1, h2, h3⟩
            refine ⟨⟨h1, h2⟩, ?_⟩
            rcases h3 with h3 | h3 | h3
            · omega
            · rw [h1]; exact h3.2
            · exact absurd h3.1 c2
        · rw [decide_eq_false c1, hA]
          constructor
          · rintro ⟨h1, h2⟩
            exact ⟨h1, h2, Or.inl (by omega)⟩
          · rintro ⟨h1, h2, _⟩
            exact ⟨h1, h2⟩
