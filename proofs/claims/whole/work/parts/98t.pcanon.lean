/-! STRICT packed reading is reading whose value is written again as the same bits -/
def sbs (src : Nat → Nat) (p n : Nat) : List Bool := (List.range n).map (fun k => decide (sbit src (p + k) = 1))
def mat (src : Nat → Nat) (p : Nat) (l : List Bool) : Prop := l = sbs src p l.length
theorem sbs_len (src : Nat → Nat) (p n : Nat) : (sbs src p n).length = n := by simp [sbs]
theorem sbs_add (src : Nat → Nat) (p a b : Nat) : sbs src p (a + b) = sbs src p a ++ sbs src (p + a) b := by
  unfold sbs
  rw [List.range_add, List.map_append, List.map_map]
  congr 1
  apply List.map_congr_left
  intro k _
  simp [Nat.add_assoc]
theorem mat_app {src : Nat → Nat} {p : Nat} {a b : List Bool} : mat src p (a ++ b) ↔ mat src p a ∧ mat src (p + a.length) b := by
  unfold mat
  rw [List.length_append, sbs_add]
  constructor
  · intro h
    exact List.append_inj h (by rw [sbs_len])
  · intro h
    rw [← h.1, ← h.2]
theorem mat_sbs (src : Nat → Nat) (p n : Nat) : mat src p (sbs src p n) := by unfold mat; rw [sbs_len]
theorem mat_nil (src : Nat → Nat) (p : Nat) : mat src p [] := rfl
theorem bvs_z {src : Nat → Nat} {p : Nat} : ∀ n, bvs src p n = 0 ↔ sbs src p n = List.replicate n false := by
  intro n
  induction n with
  | zero => simp [bvs, sbs]
  | succ n ih =>
    have e : sbs src p (n + 1) = sbs src p n ++ [decide (sbit src (p + n) = 1)] := by rw [sbs_add]; rfl
    have hb := bit01 src (p + n)
    show 2 * bvs src p n + sbit src (p + n) = 0 ↔ _
    rw [e, List.replicate_succ']
    constructor
    · intro h
      rw [ih.mp (by omega), decide_eq_false (by omega)]
    · intro h
      obtain ⟨h1, h2⟩ := List.append_inj h (by rw [sbs_len, List.length_replicate])
      have := ih.mpr h1
      have h3 : ¬ sbit src (p + n) = 1 := by
        intro z
        rw [decide_eq_true z] at h2
        cases h2
      omega
theorem alP_t {src : Nat → Nat} {p p1 : Nat} : alP true src p = some p1 ↔ (p1 = alU p ∧ mat src p (ppad p)) := by
  have hl : (8 - p % 8) % 8 = alU p - p := by unfold alU; omega
  unfold alP ppad mat
  rw [List.length_replicate, hl]
  constructor
  · intro h
    obtain ⟨c, h⟩ := ite_some h
    injection h with h
    refine ⟨h.symm, ?_⟩
    rcases c with c | c
    · cases c
    · rw [(bvs_z _).mp c]
  · intro h
    rw [if_pos (Or.inr ((bvs_z _).mpr h.2.symm)), h.1]
theorem ppad_al (p : Nat) : p + (ppad p).length = alU p := by unfold ppad alU; rw [List.length_replicate]; omega
theorem ibits_snoc {x b n : Nat} (hb : b = 0 ∨ b = 1) (hx : 2 * x + b < 4294967296) : ibits (nI (2 * x + b)) (n + 1) = ibits (nI x) n ++ [decide (b = 1)] := by
  have hbit : ∀ y j, y < 4294967296 → (nI y).toBitVec.getLsbD j = y.testBit j := by
    intro y j hy
    rw [BitVec.getLsbD, nI_bvn hy]
  unfold ibits
  rw [List.range_succ, List.map_append]
  congr 1
  · apply List.map_congr_left
    intro k hk
    have hk : k < n := by simpa using hk
    rw [hbit _ _ hx, hbit _ _ (by omega), show n + 1 - 1 - k = (n - 1 - k) + 1 by omega, Nat.testBit_succ, show (2 * x + b) / 2 = x by omega]
  · simp only [List.map_cons, List.map_nil]
    rw [hbit _ _ hx, show n + 1 - 1 - n = 0 by omega, Nat.testBit_zero]
    congr 1
    rcases hb with rfl | rfl
    · rw [show (2 * x + 0) % 2 = 0 by omega]
    · rw [show (2 * x + 1) % 2 = 1 by omega]
theorem ibits_bvs {src : Nat → Nat} {p : Nat} : ∀ n, n ≤ 32 → ibits (nI (bvs src p n)) n = sbs src p n := by
  intro n
  induction n with
  | zero => intro _; rfl
  | succ n ih =>
    intro hn
    have hlt := bvs_lt src p (n + 1)
    have h32 : 2 ^ (n + 1) ≤ 2 ^ 32 := Nat.pow_le_pow_right (by omega) hn
    have hb := bit01 src (p + n)
    show ibits (nI (2 * bvs src p n + sbit src (p + n))) (n + 1) = _
    rw [ibits_snoc hb (by show bvs src p (n + 1) < _; omega), ih (by omega), sbs_add]
    rfl
theorem ibits_or {v : Int32} {b m : Nat} (hb : b < 256) (hm : m + 8 ≤ 32) : ibits ((v <<< (8 : Int32)) ||| nI b) (m + 8) = ibits v m ++ ibits (nI b) 8 := by
  have h8 : (8 : Int32) = nI 8 := rfl
  have hs : ∀ j, j < 32 → (v <<< (8 : Int32)).toBitVec.getLsbD j = (decide (8 ≤ j) && v.toBitVec.getLsbD (j - 8)) := by
    intro j hj
    have : (v <<< (8 : Int32)).toBitVec = v.toBitVec <<< 8 := rfl
    rw [this, BitVec.getLsbD_shiftLeft]
    by_cases c : 8 ≤ j
    · simp [hj, c]
    · simp [hj, c]
  have hn : ∀ j, 8 ≤ j → (nI b).toBitVec.getLsbD j = false := by
    intro j hj
    rw [BitVec.getLsbD, nI_bvn (by omega)]
    exact Nat.testBit_lt_two_pow (Nat.lt_of_lt_of_le (show b < 2 ^ 8 by omega) (Nat.pow_le_pow_right (by omega) hj))
  unfold ibits
  rw [List.range_add, List.map_append, List.map_map]
  congr 1
  · apply List.map_congr_left
    intro k hk
    have hk : k < m := by simpa using hk
    rw [Int32.toBitVec_or, BitVec.getLsbD_or, hs _ (by omega), hn _ (by omega), Bool.or_false, decide_eq_true (by omega), Bool.true_and]
    congr 1
    omega
  · apply List.map_congr_left
    intro k hk
    have hk : k < 8 := by simpa using hk
    show ((v <<< (8 : Int32)) ||| nI b).toBitVec.getLsbD (m + 8 - 1 - (m + k)) = _
    rw [Int32.toBitVec_or, BitVec.getLsbD_or, hs _ (by omega), decide_eq_false (by omega), Bool.false_and, Bool.false_or]
    congr 1
    omega
theorem ibits_byte {src : Nat → Nat} (hs : sOK src) (b : Nat) : ibits (nI (src b)) 8 = sbs src (8 * b) 8 := by
  have := ibits_bvs (src := src) (p := 8 * b) 8 (by omega)
  rw [bvs_8 hs (by omega), show 8 * b / 8 = b by omega] at this
  exact this
theorem ibits_iv {src : Nat → Nat} (hs : sOK src) (b : Nat) : ∀ c, c ≤ 4 → ibits (ivF src b c) (8 * c) = sbs src (8 * b) (8 * c) := by
  intro c
  induction c with
  | zero => intro _; rfl
  | succ c ih =>
    intro hc
    show ibits ((ivF src b c <<< (8 : Int32)) ||| nI (src (b + c))) (8 * c + 8) = sbs src (8 * b) (8 * c + 8)
    rw [ibits_or (hs _) (by omega), ih (by omega), ibits_byte hs, sbs_add, Nat.mul_add]
theorem flat_oct {src : Nat → Nat} {p : Nat} (n : Nat) : (octP src p n).flatMap (fun b => ibits (nI b) 8) = sbs src p (8 * n) := by
  induction n with
  | zero => rfl
  | succ n ih =>
    unfold octP at ih ⊢
    rw [List.range_succ, List.map_append, List.flatMap_append, ih, Nat.mul_add, sbs_add]
    congr 1
    show ibits (nI (bvs src (p + 8 * n) 8)) 8 ++ [] = _
    rw [List.append_nil, ibits_bvs 8 (by omega)]
/-- numbers -/
theorem can_num {src : Nat → Nat} {en h p : Nat} (q : Nat × Nat) : (numP true src en h p = some q → numP false src en h p = some q ∧ mat src p (pnum (nI q.2) h p) ∧ q.1 = p + (pnum (nI q.2) h p).length) ∧ (numP false src en h p = some q → mat src p (pnum (nI q.2) h p) → numP true src en h p = some q) := by
  have hw := wid_le h
  unfold numP
  by_cases c : 255 ≤ h
  · have hp : ∀ v, pnum v h p = ppad p ++ ibits v (wid h) := fun v => by unfold pnum; rw [if_pos c]; rfl
    simp only [hp]
    rw [if_pos c, if_pos c]
    refine ⟨fun hq => ?_, fun hq hm => ?_⟩
    · obtain ⟨p1, e1, hq⟩ := bind_some_eq hq
      obtain ⟨z1, z2⟩ := alP_t.mp e1
      subst z1
      have hq' := hq
      obtain ⟨c2, hq⟩ := ite_some hq
      injection hq with hq
      subst hq
      show _ ∧ mat src p (ppad p ++ ibits (nI (bvs src (alU p) (wid h))) (wid h)) ∧ alU p + wid h = p + (ppad p ++ ibits (nI (bvs src (alU p) (wid h))) (wid h)).length
      rw [ibits_bvs _ (by omega)]
      refine ⟨by rw [alP_f, Option.bind_some]; exact hq', mat_app.mpr ⟨z2, by rw [ppad_al]; exact mat_sbs _ _ _⟩, ?_⟩
      rw [List.length_append, sbs_len, ← Nat.add_assoc, ppad_al]
    · rw [alP_f, Option.bind_some] at hq
      rw [alP_t.mpr ⟨rfl, (mat_app.mp hm).1⟩, Option.bind_some]
      exact hq
  · have hp : ∀ v, pnum v h p = ibits v (wid h) := fun v => by unfold pnum; rw [if_neg c]; rfl
    simp only [hp]
    rw [if_neg c, if_neg c]
    refine ⟨fun hq => ⟨hq, ?_⟩, fun hq _ => hq⟩
    rw [Option.bind_some] at hq
    obtain ⟨c2, hq⟩ := ite_some hq
    injection hq with hq
    subst hq
    show mat src p (ibits (nI (bvs src p (wid h))) (wid h)) ∧ p + wid h = p + (ibits (nI (bvs src p (wid h))) (wid h)).length
    rw [ibits_bvs _ (by omega)]
    exact ⟨mat_sbs _ _ _, by rw [sbs_len]⟩
theorem can_cnt {T : zJ} {src : Nat → Nat} {n en t p : Nat} (hw : wfT T n t) (hk : T 4 t ≠ 2) (q : Nat × Nat) : (cntP T true src en t p = some q → cntP T false src en t p = some q ∧ mat src p (pcount T t (nI q.2) p) ∧ q.1 = p + (pcount T t (nI q.2) p).length) ∧ (cntP T false src en t p = some q → mat src p (pcount T t (nI q.2) p) → cntP T true src en t p = some q) := by
  unfold cntP pcount
  by_cases h1 : T 11 t = 1
  · rw [if_pos h1, if_pos h1, if_pos h1]
    obtain ⟨l1, l2⟩ := lo_I hw h1 hk
    have hval : ∀ x, nI (loT T t + x) - T 5 t = nI x := fun x => by rw [l1, nI_subs (by omega), Nat.add_sub_cancel_left]
    refine ⟨fun hq => ?_, fun hq hm => ?_⟩
    · obtain ⟨x, hx, hq⟩ := bind_some_eq hq
      injection hq with hq
      subst hq
      obtain ⟨z1, z2, z3⟩ := (can_num x).1 hx
      rw [z1]
      simp only [hval]
      exact ⟨rfl, z2, z3⟩
    · obtain ⟨x, hx, hq⟩ := bind_some_eq hq
      injection hq with hq
      subst hq
      simp only [hval] at hm
      rw [(can_num x).2 hx hm]
      rfl
  · rw [if_neg h1, if_neg h1, if_neg h1]
    refine ⟨fun hq => ?_, fun hq hm => ?_⟩
    · obtain ⟨p1, e1, hq⟩ := bind_some_eq hq
      obtain ⟨z1, z2⟩ := alP_t.mp e1
      subst z1
      have hq' := hq
      obtain ⟨c2, hq⟩ := ite_some hq
      injection hq with hq
      subst hq
      have e : pcat ppad (pbits (nI (bvs src (alU p) 8)) 8) p = ppad p ++ sbs src (alU p) 8 := by
        unfold pcat pbits
        rw [ibits_bvs _ (by omega)]
      show _ ∧ mat src p (pcat ppad (pbits (nI (bvs src (alU p) 8)) 8) p) ∧ alU p + 8 = p + (pcat ppad (pbits (nI (bvs src (alU p) 8)) 8) p).length
      rw [e]
      refine ⟨by rw [alP_f, Option.bind_some]; exact hq', mat_app.mpr ⟨z2, by rw [ppad_al]; exact mat_sbs _ _ _⟩, ?_⟩
      rw [List.length_append, sbs_len, ← Nat.add_assoc, ppad_al]
    · rw [alP_f, Option.bind_some] at hq
      have hm' : mat src p (ppad p) := (mat_app.mp (show mat src p (ppad p ++ _) from hm)).1
      rw [alP_t.mpr ⟨rfl, hm'⟩, Option.bind_some]
      exact hq
def cnP (A B : Option (Nat × Rs)) (src : Nat → Nat) (p : Nat) : Prop := ∀ q, (A = some q → B = some q ∧ mat src p (q.2.2.2.2 p) ∧ q.1 = p + (q.2.2.2.2 p).length) ∧ (B = some q → mat src p (q.2.2.2.2 p) → A = some q)
theorem can_pl {T : zJ} {src : Nat → Nat} {n t t0 tg wh o en p : Nat} {par : Int32} (hs : sOK src) (hw : wfT T n t) : cnP (rpPl T src true t t0 tg par wh o en p) (rpPl T src false t t0 tg par wh o en p) src p := by
  intro q
  unfold rpPl
  by_cases k1 : T 4 t = 1
  · rw [if_pos k1, if_pos k1]
    refine ⟨fun h => ⟨h, ?_⟩, fun h _ => h⟩
    obtain ⟨_, h⟩ := ite_some h
    injection h with h
    subst h
    have e : ibits (nI (sbit src p)) 1 = sbs src p 1 := by
      have := ibits_bvs (src := src) (p := p) 1 (by omega)
      have e1 : bvs src p 1 = sbit src p := by show 2 * 0 + sbit src (p + 0) = _; simp
      rw [e1] at this
      exact this
    show mat src p (ibits (nI (sbit src p)) 1) ∧ p + 1 = p + (ibits (nI (sbit src p)) 1).length
    rw [e]
    exact ⟨mat_sbs _ _ _, by rw [sbs_len]⟩
  rw [if_neg k1, if_neg k1]
  by_cases k2 : T 4 t = 2
  · rw [if_pos k2, if_pos k2]
    by_cases h1 : T 11 t = 1
    · rw [if_pos h1, if_pos h1]
      have hval : ∀ x : Int32, T 5 t + x - T 5 t = x := fun x => by
        rw [Int32.add_comm, Int32.add_sub_cancel]
      refine ⟨fun h => ?_, fun h hm => ?_⟩
      · obtain ⟨x, hx, h⟩ := bind_some_eq h
        injection h with h
        subst h
        obtain ⟨z1, z2, z3⟩ := (can_num x).1 hx
        rw [z1]
        refine ⟨rfl, ?_⟩
        show mat src p (pint T t (T 5 t + nI x.2) p) ∧ x.1 = p + (pint T t (T 5 t + nI x.2) p).length
        unfold pint
        rw [if_pos h1, hval]
        exact ⟨z2, z3⟩
      · obtain ⟨x, hx, h⟩ := bind_some_eq h
        injection h with h
        subst h
        have hm : mat src p (pint T t (T 5 t + nI x.2) p) := hm
        unfold pint at hm
        rw [if_pos h1, hval] at hm
        rw [(can_num x).2 hx hm]
        rfl
    · rw [if_neg h1, if_neg h1]
      have hpk : ∀ v, pint T t v p = ppad p ++ (ibits (nI (byC v)) 8 ++ ibits v (8 * byC v)) := fun v => by unfold pint; rw [if_neg h1]; rfl
      refine ⟨fun h => ?_, fun h hm => ?_⟩
      · obtain ⟨p1, e1, h⟩ := bind_some_eq h
        obtain ⟨z1, z2⟩ := alP_t.mp e1
        subst z1
        rw [alP_f, Option.bind_some]
        obtain ⟨c, h⟩ := ite_some h
        obtain ⟨c1, c2, c3, c4, c5⟩ := c
        have c5 := c5.resolve_left (by decide)
        injection h with h
        subst h
        have ha := (alU_ge p).2.2.1
        refine ⟨by rw [if_pos ⟨c1, c2, c3, c4, Or.inl rfl⟩], ?_⟩
        show mat src p (pint T t (ivF src ((alU p + 8) / 8) (bvs src (alU p) 8)) p) ∧ alU p + 8 + 8 * bvs src (alU p) 8 = p + (pint T t (ivF src ((alU p + 8) / 8) (bvs src (alU p) 8)) p).length
        rw [hpk, c5, ibits_bvs 8 (by omega), ibits_iv hs _ _ c3, show 8 * ((alU p + 8) / 8) = alU p + 8 by omega]
        refine ⟨mat_app.mpr ⟨z2, by rw [ppad_al]; exact mat_app.mpr ⟨mat_sbs _ _ _, by rw [sbs_len]; exact mat_sbs _ _ _⟩⟩, ?_⟩
        rw [List.length_append, List.length_append, sbs_len, sbs_len, ← Nat.add_assoc, ← Nat.add_assoc, ppad_al]
      · rw [alP_f, Option.bind_some] at h
        obtain ⟨c, h⟩ := ite_some h
        obtain ⟨c1, c2, c3, c4, _⟩ := c
        injection h with h
        subst h
        have hm : mat src p (pint T t (ivF src ((alU p + 8) / 8) (bvs src (alU p) 8)) p) := hm
        rw [hpk] at hm
        obtain ⟨m1, m2⟩ := mat_app.mp hm
        rw [ppad_al] at m2
        obtain ⟨m3, m4⟩ := mat_app.mp m2
        rw [alP_t.mpr ⟨rfl, m1⟩, Option.bind_some]
        have hby : byC (ivF src ((alU p + 8) / 8) (bvs src (alU p) 8)) = bvs src (alU p) 8 := by
          unfold mat at m3
          rw [ibits_len, ← ibits_bvs 8 (by omega)] at m3
          have hb := byC_le (ivF src ((alU p + 8) / 8) (bvs src (alU p) 8))
          have hall : ∀ a b : Fin 5, ibits (nI a) 8 = ibits (nI b) 8 → a = b := by decide +kernel
          have := hall ⟨byC (ivF src ((alU p + 8) / 8) (bvs src (alU p) 8)), by omega⟩ ⟨bvs src (alU p) 8, by omega⟩ m3
          exact congrArg (fun x : Fin 5 => (x : Nat)) this
        rw [if_pos ⟨c1, c2, c3, c4, Or.inr hby⟩]
  rw [if_neg k2, if_neg k2]
  by_cases k4 : T 4 t = 4
  · rw [if_pos k4, if_pos k4]
    have hpk : ∀ os, pocts T t os p = pcount T t (nI os.length) p ++ ((if os ≠ [] ∧ alnd T t = true then ppad else pnil : PK) (p + (pcount T t (nI os.length) p).length) ++ os.flatMap (fun b => ibits (nI b) 8)) := fun os => rfl
    have hne : ∀ a c, (octP src a c ≠ [] ∧ alnd T t = true) ↔ (0 < c ∧ alnd T t = true) := by
      intro a c
      have : octP src a c ≠ [] ↔ 0 < c := by
        rw [← List.length_pos_iff, octP_len]
      rw [this]
    refine ⟨fun h => ?_, fun h hm => ?_⟩
    · obtain ⟨x, hx, h⟩ := bind_some_eq h
      obtain ⟨z1, z2, z3⟩ := (can_cnt hw k2 x).1 hx
      obtain ⟨p1, e1, h⟩ := bind_some_eq h
      rw [z1, Option.bind_some]
      obtain ⟨c, h'⟩ := ite_some h
      injection h' with h'
      by_cases cc : 0 < x.2 ∧ alnd T t = true
      · rw [if_pos cc] at e1 ⊢
        obtain ⟨y1, y2⟩ := alP_t.mp e1
        subst y1
        rw [alP_f, Option.bind_some]
        refine ⟨h, ?_⟩
        subst h'
        show mat src p (pocts T t (octP src (alU x.1) x.2) p) ∧ alU x.1 + 8 * x.2 = p + (pocts T t (octP src (alU x.1) x.2) p).length
        rw [hpk, octP_len, flat_oct, if_pos ((hne _ _).mpr cc), ← z3]
        refine ⟨mat_app.mpr ⟨z2, by rw [← z3]; exact mat_app.mpr ⟨y2, by rw [ppad_al]; exact mat_sbs _ _ _⟩⟩, ?_⟩
        rw [List.length_append, List.length_append, sbs_len, ← Nat.add_assoc, ← z3, ← Nat.add_assoc, ppad_al]
      · rw [if_neg cc] at e1 ⊢
        injection e1 with e1
        subst e1
        rw [Option.bind_some]
        refine ⟨h, ?_⟩
        subst h'
        show mat src p (pocts T t (octP src x.1 x.2) p) ∧ x.1 + 8 * x.2 = p + (pocts T t (octP src x.1 x.2) p).length
        rw [hpk, octP_len, flat_oct, if_neg (fun z => cc ((hne _ _).mp z))]
        refine ⟨mat_app.mpr ⟨z2, by rw [← z3]; exact mat_sbs _ _ _⟩, ?_⟩
        rw [List.length_append]
        show x.1 + 8 * x.2 = p + ((pcount T t (nI x.2) p).length + (sbs src x.1 (8 * x.2)).length)
        rw [sbs_len, ← Nat.add_assoc, ← z3]
    · obtain ⟨x, hx, h⟩ := bind_some_eq h
      by_cases cc : 0 < x.2 ∧ alnd T t = true
      · rw [if_pos cc, alP_f, Option.bind_some] at h
        have h' := h
        obtain ⟨c, h'⟩ := ite_some h'
        injection h' with h'
        have hm : mat src p (pocts T t (octP src (alU x.1) x.2) p) := by rw [← h'] at hm; exact hm
        rw [hpk, octP_len, if_pos ((hne _ _).mpr cc)] at hm
        obtain ⟨m1, m2⟩ := mat_app.mp hm
        have hx' := (can_cnt hw k2 x).2 hx m1
        obtain ⟨_, _, z3⟩ := (can_cnt hw k2 x).1 hx'
        rw [← z3] at m2
        obtain ⟨m3, m4⟩ := mat_app.mp m2
        rw [hx', Option.bind_some, if_pos cc, alP_t.mpr ⟨rfl, m3⟩, Option.bind_some]
        exact h
      · rw [if_neg cc, Option.bind_some] at h
        have h' := h
        obtain ⟨c, h'⟩ := ite_some h'
        injection h' with h'
        have hm : mat src p (pocts T t (octP src x.1 x.2) p) := by rw [← h'] at hm; exact hm
        rw [hpk, octP_len] at hm
        obtain ⟨m1, m2⟩ := mat_app.mp hm
        have hx' := (can_cnt hw k2 x).2 hx m1
        rw [hx', Option.bind_some, if_neg cc, Option.bind_some]
        exact h
  · rw [if_neg k4, if_neg k4]
    refine ⟨fun h => ⟨h, ?_⟩, fun h _ => h⟩
    injection h with h
    subst h
    exact ⟨mat_nil _ _, rfl⟩
