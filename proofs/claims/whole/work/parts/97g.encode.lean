/-! THE REFERENCE writes strictly: one part -/
def eC (J J' : zJ) : Prop := ∀ c k, c ≠ 20 → ¬ (c = 0 ∧ k = 29) → J' c k = J c k
theorem eC_refl (J : zJ) : eC J J := fun _ _ _ _ => rfl
theorem eC_trans {J J1 J2 : zJ} (h1 : eC J J1) (h2 : eC J1 J2) : eC J J2 := fun c k a b => (h2 c k a b).trans (h1 c k a b)
theorem wrapL_len (c : List Nat) : ∀ l r, (wrapL (l.drop r) c).length ≤ (wrapL l c).length := by
  intro l
  induction l with
  | nil => intro r; simp
  | cons x l ih =>
    intro r
    cases r with
    | zero => simp
    | succ r =>
      have h1 := ih r
      have h2 : (wrapL l c).length ≤ (wrapL (x :: l) c).length := by
        show _ ≤ (elem x (wrapL l c)).length
        unfold elem
        simp
        omega
      simp only [List.drop_succ_cons]
      omega
/-- one byte more in front -/
theorem m_mk {J0 J : zJ} {w : Nat} {c : List Nat} (h : eP J0 J w c) (hw : w ≤ 4000) (hl : c.length + 1 ≤ w) (b : Nat) : ∃ J', (∀ N, FM_make N (nI b) J = some ((), J')) ∧ eP J0 J' w (b :: c) ∧ eC J J' := by
  obtain ⟨w', hw'⟩ : ∃ w', w - c.length = w' + 1 := ⟨w - c.length - 1, by omega⟩
  have h29 : J 0 29 = nI (w' + 1) := by rw [h.2.1, hw']
  refine ⟨_, fun N => (m_make h29 (by omega) b N).1, ?_, (m_make h29 (by omega) b 0).2.2⟩
  have := (m_make h29 (by omega) b 0).2.1
  rw [← hw'] at this
  exact eP_trans h this
theorem m_head {J0 J : zJ} {w i sz q tg : Nat} {c : List Nat} {l2 : Int32} (hi : i < 100) (hsz : i + sz ≤ 100) (h26 : J 26 i = nI sz) (h27 : J 27 (i + sz) = nI w) (h16 : J 16 q = nI tg) (hq : q < 16) (h24 : J 0 24 = l2) (hlt : ¬ l2 ≤ nI q) (h : eP J0 J w c) (hw : w ≤ 4000) (hl : (elem tg c).length ≤ w) : ∃ J', (∀ N K, FM_encode_118 N (nI i) K (nI q, J) = K (nI (q + 1), J')) ∧ eP J0 J' w (elem tg c) ∧ eC J J' := by
  have hcl : c.length ≤ 4000 := by have := h.1; omega
  have e1 : nI w - nI (w - c.length) = nI c.length := by
    rw [nI_subs (by omega)]
    congr 1
    have := h.1
    omega
  have e2 : nI c.length - nI c.length / 256 * 256 = nI (c.length % 256) := by
    rw [show (256 : Int32) = nI 256 from rfl, nI_div (by omega) (by omega), nI_mul, nI_subs (by omega)]
    congr 1
    omega
  have e3 : nI c.length / 256 = nI (c.length / 256) := by rw [show (256 : Int32) = nI 256 from rfl, nI_div (by omega) (by omega)]
  have hbody : ∀ N K, FM_encode_118 N (nI i) K (nI q, J) = qb (FM_make N (nI (c.length % 256)) J) fun v4 J5 => if c.length ≤ 127 then FM_encode_187 N K (nI i) (nI q) (nI c.length) J5 else if c.length ≤ 255 then FM_encode_184 N K (nI i) (nI q) (nI c.length) 129 J5 else FM_encode_184 N K (nI i) (nI q) (nI c.length) (nI (c.length / 256)) J5 := by
    intro N K
    simp only [FM_encode_118]
    rw [h24, if_neg hlt, qk_t (qi_nI hi (by omega)), nI_clamp (by omega), h26, nI_add, qk_t (qi_nI (by omega) (by omega)), nI_clamp (by omega), h27, h.2.1, e1, e2, e3, show (127 : Int32) = nI 127 from rfl, show (255 : Int32) = nI 255 from rfl]
    simp (disch := omega) only [nI_leI]
  have h202 : ∀ N K (J5 J6 : zJ), J5 16 q = nI tg → (∀ N, FM_make N (nI tg) J5 = some ((), J6)) → FM_encode_202 N K (nI i) (nI q) J5 = K (nI (q + 1), J6) := by
    intro N K J5 J6 h5 h6
    unfold FM_encode_202
    rw [qk_t (qi_nI hq (by omega)), nI_clamp (by omega), h5, h6, qb_some, nI_p1]
  unfold elem lenB at hl
  by_cases c1 : c.length < 128
  · rw [if_pos c1] at hl
    simp at hl
    obtain ⟨J1, a1, a2, a3⟩ := m_mk h hw (by omega) c.length
    obtain ⟨J2, b1, b2, b3⟩ := m_mk a2 hw (by simp; omega) tg
    refine ⟨J2, fun N K => ?_, ?_, eC_trans a3 b3⟩
    · rw [hbody, Nat.mod_eq_of_lt (by omega), a1, qb_some, if_pos (by omega)]
      unfold FM_encode_187
      rw [if_pos (by rw [show (255 : Int32) = nI 255 from rfl, nI_leI (by omega) (by omega)]; omega)]
      exact h202 N K J1 J2 (by rw [a3 16 q (by omega) (by omega)]; exact h16) b1
    · unfold elem lenB
      rw [if_pos c1]
      exact b2
  rw [if_neg c1] at hl
  by_cases c2 : c.length < 256
  · rw [if_pos c2] at hl
    simp at hl
    obtain ⟨J1, a1, a2, a3⟩ := m_mk h hw (by omega) c.length
    obtain ⟨J2, b1, b2, b3⟩ := m_mk a2 hw (by simp; omega) 129
    obtain ⟨J3, d1, d2, d3⟩ := m_mk b2 hw (by simp; omega) tg
    refine ⟨J3, fun N K => ?_, ?_, eC_trans a3 (eC_trans b3 d3)⟩
    · rw [hbody, Nat.mod_eq_of_lt (by omega), a1, qb_some, if_neg (by omega), if_pos (by omega)]
      unfold FM_encode_184 FM_encode_187
      rw [show (129 : Int32) = nI 129 from rfl, b1, qb_some, if_pos (by rw [show (255 : Int32) = nI 255 from rfl, nI_leI (by omega) (by omega)]; omega)]
      exact h202 N K J2 J3 (by rw [b3 16 q (by omega) (by omega), a3 16 q (by omega) (by omega)]; exact h16) d1
    · unfold elem lenB
      rw [if_neg c1, if_pos c2]
      exact d2
  · rw [if_neg c2] at hl
    simp at hl
    obtain ⟨J1, a1, a2, a3⟩ := m_mk h hw (by omega) (c.length % 256)
    obtain ⟨J2, b1, b2, b3⟩ := m_mk a2 hw (by simp; omega) (c.length / 256)
    obtain ⟨J3, d1, d2, d3⟩ := m_mk b2 hw (by simp; omega) 130
    obtain ⟨J4, f1, f2, f3⟩ := m_mk d2 hw (by simp; omega) tg
    refine ⟨J4, fun N K => ?_, ?_, eC_trans a3 (eC_trans b3 (eC_trans d3 f3))⟩
    · rw [hbody, a1, qb_some, if_neg (by omega), if_neg (by omega)]
      unfold FM_encode_184 FM_encode_187
      rw [b1, qb_some, if_neg (by rw [show (255 : Int32) = nI 255 from rfl, nI_leI (by omega) (by omega)]; omega), show (130 : Int32) = nI 130 from rfl, d1, qb_some]
      exact h202 N K J3 J4 (by rw [d3 16 q (by omega) (by omega), b3 16 q (by omega) (by omega), a3 16 q (by omega) (by omega)]; exact h16) f1
    · unfold elem lenB
      rw [if_neg c1, if_neg c2]
      exact f2
theorem m_tags {J0 : zJ} {w i sz : Nat} {l c : List Nat} (hi : i < 100) (hsz : i + sz ≤ 100) (hl6 : l.length ≤ 6) (hw : w ≤ 4000) (hle : (wrapL l c).length ≤ w) : ∀ r J, r ≤ l.length → J 26 i = nI sz → J 27 (i + sz) = nI w → tgs J l → eP J0 J w (wrapL (l.drop r) c) → ∃ J', (∀ N F, r + 1 ≤ F → qfix (FM_encode_118 N (nI i)) F (nI (l.length - r), J) = some ((), J')) ∧ eP J0 J' w (wrapL l c) ∧ eC J J' := by
  intro r
  induction r with
  | zero =>
    intro J _ h26 h27 htg h
    refine ⟨J, fun N F hF => ?_, h, eC_refl J⟩
    obtain ⟨F, rfl⟩ : ∃ g, F = g + 1 := ⟨F - 1, by omega⟩
    rw [qfix_s]
    simp only [FM_encode_118]
    rw [htg.1, if_pos (by rw [nI_leI (by omega) (by omega)]; omega)]
  | succ r ih =>
    intro J hr h26 h27 htg h
    have hlt : r < l.length := by omega
    have h16 : J 16 (l.length - (r + 1)) = nI l[r] := by
      rw [htg.2 _ (by omega), show l.length - 1 - (l.length - (r + 1)) = r by omega]
      congr 1
      simp [List.getD, hlt]
    have hdrop : l.drop r = l[r] :: l.drop (r + 1) := List.drop_eq_getElem_cons hlt
    have hel : wrapL (l.drop r) c = elem l[r] (wrapL (l.drop (r + 1)) c) := by rw [hdrop]; rfl
    have hlen := wrapL_len c l r
    obtain ⟨J1, a1, a2, a3⟩ := m_head hi hsz h26 h27 h16 (by omega) htg.1 (by rw [nI_leI (by omega) (by omega)]; omega) h hw (by rw [← hel]; omega)
    rw [← hel] at a2
    obtain ⟨J2, b1, b2, b3⟩ := ih J1 (by omega) (by rw [a3 26 i (by omega) (by omega)]; exact h26) (by rw [a3 27 _ (by omega) (by omega)]; exact h27) ⟨by rw [a3 0 24 (by omega) (by omega)]; exact htg.1, fun k hk => by rw [a3 16 k (by omega) (by omega)]; exact htg.2 k hk⟩ a2
    refine ⟨J2, fun N F hF => ?_, b2, eC_trans a3 b3⟩
    obtain ⟨F, rfl⟩ : ∃ g, F = g + 1 := ⟨F - 1, by omega⟩
    rw [qfix_s, a1, show l.length - (r + 1) + 1 = l.length - r by omega]
    exact b1 N F (by omega)
/-- the bytes of a part itself -/
def ownB (kd v : Int32) (os : List Nat) : List Nat := if kd = 4 then os else if kd = 2 then intB v (byC v) else if kd = 1 then [if v = 0 then 0 else 255] else []
theorem m_octs {J0 : zJ} {w i o : Nat} {kc os : List Nat} (hi : i < 100) (hw : w ≤ 4000) (ho : o + os.length ≤ 240) (hle : os.length + kc.length ≤ w) : ∀ r J, r ≤ os.length → J 25 i = nI o → mO J o os → eP J0 J w (os.drop r ++ kc) → ∃ J', (∀ N F, r + 1 ≤ F → qfix (FM_encode_20 N (nI i) 4) (F) (nI r + (-1), J) = qfix (FM_encode_54 N (nI i) 4) N (0, J')) ∧ eP J0 J' w (os ++ kc) ∧ eC J J' := by
  intro r
  induction r with
  | zero =>
    intro J _ h25 hO h
    refine ⟨J, fun N F hF => ?_, h, eC_refl J⟩
    obtain ⟨F, rfl⟩ : ∃ g, F = g + 1 := ⟨F - 1, by omega⟩
    rw [qfix_s]
    simp only [FM_encode_20]
    rw [if_pos (by decide)]
  | succ r ih =>
    intro J hr h25 hO h
    have hlt : r < os.length := by omega
    have hg : os[r]? = some os[r] := List.getElem?_eq_getElem hlt
    obtain ⟨J1, a1, a2, a3⟩ := m_mk h hw (by rw [List.length_append, List.length_drop]; omega) os[r]
    rw [← List.cons_append, ← List.drop_eq_getElem_cons hlt] at a2
    obtain ⟨J2, b1, b2, b3⟩ := ih J1 (by omega) (by rw [a3 25 i (by omega) (by omega)]; exact h25) (fun k b hb => by rw [a3 28 _ (by omega) (by omega)]; exact hO k b hb) a2
    refine ⟨J2, fun N F hF => ?_, b2, eC_trans a3 b3⟩
    obtain ⟨F, rfl⟩ : ∃ g, F = g + 1 := ⟨F - 1, by omega⟩
    rw [nI_dec, qfix_s]
    simp only [FM_encode_20]
    rw [if_neg (by rw [show (0 : Int32) = nI 0 from rfl, nI_ltI (by omega) (by omega)]; omega), if_pos trivial, qk_t (qi_nI hi (by omega)), nI_clamp (by omega), h25, nI_add, qk_t (qi_nI (by omega) (by omega)), nI_clamp (by omega), hO r _ hg, a1, qb_some]
    exact b1 N F (by omega)
theorem m_ints {J0 : zJ} {w i : Nat} {v : Int32} {kc : List Nat} (hi : i < 100) (hw : w ≤ 4000) (hle : byC v + kc.length ≤ w) : ∀ r J q, r + q = byC v → J 22 i = v → eP J0 J w (intB v q ++ kc) → ∃ J', (∀ N F, r + 1 ≤ F → qfix (FM_encode_54 N (nI i) 2) F (nI q, J) = FM_encode_97 N (nI i) 2 J') ∧ eP J0 J' w (intB v (byC v) ++ kc) ∧ eC J J' := by
  have hb := byC_le v
  intro r
  induction r with
  | zero =>
    intro J q hr h22 h
    have : q = byC v := by omega
    subst this
    refine ⟨J, fun N F hF => ?_, h, eC_refl J⟩
    obtain ⟨F, rfl⟩ : ∃ g, F = g + 1 := ⟨F - 1, by omega⟩
    rw [qfix_s]
    simp only [FM_encode_54]
    rw [qk_t (qi_nI hi (by omega)), nI_clamp (by omega), h22, FM_bytesOf_eq, qc_some, if_pos (by rw [nI_leI (by omega) (by omega)]; omega)]
  | succ r ih =>
    intro J q hr h22 h
    obtain ⟨J1, a1, a2, a3⟩ := m_mk h hw (by rw [List.length_append, intB_len]; omega) (vby v q)
    rw [← List.cons_append, ← intB_succ] at a2
    obtain ⟨J2, b1, b2, b3⟩ := ih J1 (q + 1) (by omega) (by rw [a3 22 i (by omega) (by omega)]; exact h22) a2
    refine ⟨J2, fun N F hF => ?_, b2, eC_trans a3 b3⟩
    obtain ⟨F, rfl⟩ : ∃ g, F = g + 1 := ⟨F - 1, by omega⟩
    rw [qfix_s]
    simp only [FM_encode_54]
    have e8 : ((8 : Int32) * nI q) &&& 31 = nI (8 * q) := by
      rw [show (8 : Int32) = nI 8 from rfl, nI_mul, nI_and31 (by omega)]
    rw [qk_t (qi_nI hi (by omega)), nI_clamp (by omega), h22, FM_bytesOf_eq, qc_some, if_neg (by rw [nI_leI (by omega) (by omega)]; omega), if_pos trivial, qk_t (qi_nI hi (by omega)), e8, i_byte v (by omega), a1, qb_some, nI_p1]
    exact b1 N F (by omega)
/-- encode() -/
theorem m_encode {T J0 J : zJ} {w i sz o t0 n0 : Nat} {v : Int32} {os kc : List Nat} (hT : tyEq T J) (hw0 : wfT T n0 t0) (hn0 : n0 ≤ 6) (hi : i < 100) (hsz : i + sz ≤ 100) (h21 : J 21 i = nI t0) (h22 : J 22 i = v) (h25 : J 25 i = nI o) (h26 : J 26 i = nI sz) (h27 : J 27 (i + sz) = nI w) (hO : mO J o os) (ho : o + os.length ≤ 240) (h4 : T 4 (bas T n0 t0) = 4 → v = nI os.length) (h1 : T 4 (bas T n0 t0) = 1 → v = 0 ∨ v = 1) (hw : w ≤ 4000) (h : eP J0 J w kc) (hle : (wrapL (tls T n0 t0 none) (ownB (T 4 (bas T n0 t0)) v os ++ kc)).length ≤ w) :
    ∃ J', Ev (fun N => FM_encode N (nI i) J = some ((), J')) ∧ eP J0 J' w (wrapL (tls T n0 t0 none) (ownB (T 4 (bas T n0 t0)) v os ++ kc)) ∧ eK J J' ∧ J' 27 = J 27 := by
  obtain ⟨J2, u1, u2, u3, u4⟩ := m_unw hw0 hn0 hT
  have b160 := bas_lt n0 t0 hw0
  have hc0 : (ownB (T 4 (bas T n0 t0)) v os ++ kc).length ≤ w := by
    have := wrapL_len (ownB (T 4 (bas T n0 t0)) v os ++ kc) (tls T n0 t0 none) (tls T n0 t0 none).length
    rw [List.drop_length] at this
    exact Nat.le_trans this hle
  rw [List.length_append] at hc0
  have htl6 := tls_len (T := T) n0 t0 none
  have hz : ∀ c k, c ≠ 16 → c ≠ 17 → ¬ (c = 0 ∧ (k = 23 ∨ k = 24)) → J2 c k = J c k := fun c k a b d => u4 c k a (by omega) d
  have h2 : eP J0 J2 w kc := ⟨h.1, by rw [hz 0 29 (by omega) (by omega) (by omega)]; exact h.2.1, fun k b hk => by rw [hz 20 _ (by omega) (by omega) (by omega)]; exact h.2.2.1 k b hk, fun k hk => by rw [hz 20 _ (by omega) (by omega) (by omega)]; exact h.2.2.2 k hk⟩
  have hT2 : tyEq T J2 := fun c k c1 c2 => by rw [hz c k (by omega) (by omega) (by omega)]; exact hT c k c1 c2
  have g22 : J2 22 i = v := by rw [hz 22 i (by omega) (by omega) (by omega)]; exact h22
  have g25 : J2 25 i = nI o := by rw [hz 25 i (by omega) (by omega) (by omega)]; exact h25
  have gO : mO J2 o os := fun k b hb => by rw [hz 28 _ (by omega) (by omega) (by omega)]; exact hO k b hb
  -- the tags behind the content
  have htags : ∀ J3, eP J0 J3 w (ownB (T 4 (bas T n0 t0)) v os ++ kc) → eC J2 J3 → ∃ J', (∀ N, 20 ≤ N → qfix (FM_encode_118 N (nI i)) N (0, J3) = some ((), J')) ∧ eP J0 J' w (wrapL (tls T n0 t0 none) (ownB (T 4 (bas T n0 t0)) v os ++ kc)) ∧ eC J2 J' := by
    intro J3 h3 hC
    obtain ⟨J', a1, a2, a3⟩ := m_tags (J0 := J0) (w := w) (l := tls T n0 t0 none) (c := ownB (T 4 (bas T n0 t0)) v os ++ kc) hi hsz (by omega) hw hle (tls T n0 t0 none).length J3 (Nat.le_refl _) (by rw [hC 26 i (by omega) (by omega), hz 26 i (by omega) (by omega) (by omega)]; exact h26) (by rw [hC 27 _ (by omega) (by omega), hz 27 _ (by omega) (by omega) (by omega)]; exact h27) ⟨by rw [hC 0 24 (by omega) (by omega)]; exact u3.1, fun k hk => by rw [hC 16 k (by omega) (by omega)]; exact u3.2 k hk⟩ (by rw [List.drop_length]; exact h3)
    refine ⟨J', fun N hN => ?_, a2, eC_trans hC a3⟩
    have := a1 N N (by omega)
    rw [Nat.sub_self] at this
    exact this
  have hfin : ∀ J', eC J2 J' → eK J J' ∧ J' 27 = J 27 := fun J' hC => ⟨fun c k a b d e f => by rw [hC c k d (by omega), hz c k a b (by omega)], by funext k; rw [hC 27 k (by omega) (by omega), hz 27 k (by omega) (by omega) (by omega)]⟩
  have hstart : ∀ N, FM_unwrap N (nI t0) J = some ((), J2) → FM_encode N (nI i) J = qfix (FM_encode_20 N (nI i) (T 4 (bas T n0 t0))) N (v + (-1), J2) := by
    intro N hN
    unfold FM_encode FM_baseOf
    rw [qk_t (qi_nI hi (by omega)), nI_clamp (by omega), h21, hN, qb_some, qb_some, u2, qk_t (qi_nI b160 (by omega)), nI_clamp (by omega), hT2 4 _ (by omega) (by omega), qk_t (qi_nI hi (by omega)), g22, Int32.sub_eq_add_neg]
  -- what is no octets
  have h20 : ∀ N K x, T 4 (bas T n0 t0) ≠ 4 → FM_encode_20 N (nI i) (T 4 (bas T n0 t0)) K (x, J2) = qfix (FM_encode_54 N (nI i) (T 4 (bas T n0 t0))) N (0, J2) := by
    intro N K x k4
    simp only [FM_encode_20]
    rw [if_neg k4]
    split <;> rfl
  have h54 : ∀ N F (J3 : zJ), J3 22 i = v → T 4 (bas T n0 t0) ≠ 2 → 1 ≤ F → qfix (FM_encode_54 N (nI i) (T 4 (bas T n0 t0))) F (0, J3) = FM_encode_97 N (nI i) (T 4 (bas T n0 t0)) J3 := by
    intro N F J3 h3 k2 hF
    obtain ⟨F, rfl⟩ : ∃ g, F = g + 1 := ⟨F - 1, by omega⟩
    rw [qfix_s]
    simp only [FM_encode_54]
    rw [qk_t (qi_nI hi (by omega)), nI_clamp (by omega), h3, FM_bytesOf_eq, qc_some, if_neg k2]
    split <;> rfl
  by_cases k4 : T 4 (bas T n0 t0) = 4
  · have hown : ownB (T 4 (bas T n0 t0)) v os = os := by unfold ownB; rw [if_pos k4]
    have hv := h4 k4
    rw [hown] at hc0 htags
    obtain ⟨J3, a1, a2, a3⟩ := m_octs (J0 := J0) (kc := kc) hi hw ho hc0 os.length J2 (Nat.le_refl _) g25 gO (by rw [List.drop_length]; exact h2)
    obtain ⟨J', b1, b2, b3⟩ := htags J3 a2 a3
    obtain ⟨c1, c2⟩ := hfin J' b3
    rw [hown]
    refine ⟨J', ev_mono (ev_and u1 ⟨600, fun N hN => hN⟩) (fun N hN => ?_), b2, c1, c2⟩
    have k2 : T 4 (bas T n0 t0) ≠ 2 := by rw [k4]; decide
    have k1 : T 4 (bas T n0 t0) ≠ 1 := by rw [k4]; decide
    rw [hstart N hN.1, hv]
    rw [k4, a1 N N (by omega)]
    have := h54 N N J3 (by rw [a3 22 i (by omega) (by omega)]; exact g22) k2 (by omega)
    rw [k4] at this
    rw [this]
    unfold FM_encode_97
    rw [if_neg (by decide)]
    exact b1 N (by omega)
  by_cases k2 : T 4 (bas T n0 t0) = 2
  · have hown : ownB (T 4 (bas T n0 t0)) v os = intB v (byC v) := by unfold ownB; rw [if_neg k4, if_pos k2]
    rw [hown] at hc0 htags
    rw [intB_len] at hc0
    obtain ⟨J3, a1, a2, a3⟩ := m_ints (J0 := J0) (kc := kc) hi hw hc0 (byC v) J2 0 (by omega) g22 h2
    obtain ⟨J', b1, b2, b3⟩ := htags J3 a2 a3
    obtain ⟨c1, c2⟩ := hfin J' b3
    have hb := byC_le v
    rw [hown]
    refine ⟨J', ev_mono (ev_and u1 ⟨600, fun N hN => hN⟩) (fun N hN => ?_), b2, c1, c2⟩
    obtain ⟨F, hF⟩ : ∃ F, N = F + 1 := ⟨N - 1, by have := hN.2; omega⟩
    rw [hstart N hN.1]
    have hq : qfix (FM_encode_20 N (nI i) (T 4 (bas T n0 t0))) N (v + -1, J2) = qfix (FM_encode_54 N (nI i) (T 4 (bas T n0 t0))) N (0, J2) := by
      conv => lhs; arg 2; rw [hF]
      rw [qfix_s, h20 _ _ _ k4]
    rw [hq, k2]
    have := a1 N N (by omega)
    rw [show (0 : Int32) = nI 0 from rfl, this]
    unfold FM_encode_97
    rw [if_neg (by decide)]
    exact b1 N (by omega)
  have hgo : ∀ N, 600 ≤ N → FM_unwrap N (nI t0) J = some ((), J2) → FM_encode N (nI i) J = FM_encode_97 N (nI i) (T 4 (bas T n0 t0)) J2 := by
    intro N hN hu
    obtain ⟨F, hF⟩ : ∃ F, N = F + 1 := ⟨N - 1, by omega⟩
    rw [hstart N hu]
    have hq : qfix (FM_encode_20 N (nI i) (T 4 (bas T n0 t0))) N (v + -1, J2) = qfix (FM_encode_54 N (nI i) (T 4 (bas T n0 t0))) N (0, J2) := by
      conv => lhs; arg 2; rw [hF]
      rw [qfix_s, h20 _ _ _ k4]
    rw [hq, h54 N N J2 g22 k2 (by omega)]
  by_cases k1 : T 4 (bas T n0 t0) = 1
  · have hown : ownB (T 4 (bas T n0 t0)) v os = [if v = 0 then 0 else 255] := by unfold ownB; rw [if_neg k4, if_neg k2, if_pos k1]
    rw [hown] at hc0 htags
    obtain ⟨J3, a1, a2, a3⟩ := m_mk h2 hw (by simp at hc0; omega) (if v = 0 then 0 else 255)
    obtain ⟨J', b1, b2, b3⟩ := htags J3 a2 a3
    obtain ⟨c1, c2⟩ := hfin J' b3
    rw [hown]
    refine ⟨J', ev_mono (ev_and u1 ⟨600, fun N hN => hN⟩) (fun N hN => ?_), b2, c1, c2⟩
    rw [hgo N hN.2 hN.1]
    unfold FM_encode_97
    rw [if_pos k1, qk_t (qi_nI hi (by omega)), nI_clamp (by omega), g22]
    have e255 : (255 : Int32) * v = nI (if v = 0 then 0 else 255) := by
      rcases h1 k1 with rfl | rfl <;> decide
    rw [e255, a1, qb_some]
    exact b1 N (by have := hN.2; omega)
  · have hown : ownB (T 4 (bas T n0 t0)) v os = [] := by unfold ownB; rw [if_neg k4, if_neg k2, if_neg k1]
    rw [hown] at htags
    obtain ⟨J', b1, b2, b3⟩ := htags J2 h2 (eC_refl J2)
    obtain ⟨c1, c2⟩ := hfin J' b3
    rw [hown]
    refine ⟨J', ev_mono (ev_and u1 ⟨600, fun N hN => hN⟩) (fun N hN => ?_), b2, c1, c2⟩
    rw [hgo N hN.2 hN.1]
    unfold FM_encode_97
    rw [if_neg k1]
    exact b1 N (by have := hN.2; omega)
