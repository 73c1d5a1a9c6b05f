/-! STRICT READING is open reading of what strict writing makes -/
theorem seg_add (src : Nat → Nat) (p a b : Nat) : seg src p (a + b) = seg src p a ++ seg src (p + a) b := by
  unfold seg
  rw [List.range_add, List.map_append, List.map_map]
  congr 1
  apply List.map_congr_left
  intro k _
  simp
  congr 1
  omega
theorem seg_cons (src : Nat → Nat) (p n : Nat) : seg src p (n + 1) = src p :: seg src (p + 1) n := by
  rw [Nat.add_comm, seg_add]
  rfl
theorem vby_step {v : Int32} {b : Nat} (hb : b < 256) : vby ((v <<< (8 : Int32)) ||| nI b) 0 = b ∧ ∀ j, j < 3 → vby ((v <<< (8 : Int32)) ||| nI b) (j + 1) = vby v j := by
  have e : ((v <<< (8 : Int32)) ||| nI b).toBitVec.toNat = (v.toBitVec.toNat * 256) % 4294967296 + b := by
    rw [Int32.toBitVec_or, BitVec.toNat_or, nI_bvn (by omega), Int32.toBitVec_shiftLeft]
    have : ((8 : Int32).toBitVec).smod 32 = 8#32 := by decide
    rw [this, BitVec.shiftLeft_eq', BitVec.toNat_shiftLeft, Nat.shiftLeft_eq]
    have e2 : v.toBitVec.toNat * 2 ^ (8#32).toNat % 2 ^ 32 = (v.toBitVec.toNat % 16777216) * 2 ^ 8 := by
      have : (8#32).toNat = 8 := rfl
      rw [this]
      omega
    rw [e2, n_or (by omega)]
    omega
  have hv := i_lt32 v
  unfold vby
  rw [e]
  generalize v.toBitVec.toNat = x at *
  refine ⟨by simp; omega, fun j hj => ?_⟩
  have hc : j = 0 ∨ j = 1 ∨ j = 2 := by omega
  rcases hc with rfl | rfl | rfl <;> simp <;> omega
theorem iv_vby {src : Nat → Nat} (hs : sOK src) (p : Nat) : ∀ n j, n ≤ 4 → j < n → vby (ivF src p n) j = src (p + (n - 1 - j)) := by
  intro n
  induction n with
  | zero => intro j _ h; omega
  | succ n ih =>
    intro j hn hj
    unfold ivF
    obtain ⟨h1, h2⟩ := vby_step (v := ivF src p n) (hs (p + n))
    cases j with
    | zero => rw [h1]; rfl
    | succ j =>
      rw [h2 j (by omega), ih j (by omega) (by omega)]
      congr 1
      omega
theorem intB_iv {src : Nat → Nat} (hs : sOK src) (p n : Nat) (hn : n ≤ 4) : intB (ivF src p n) n = seg src p n := by
  unfold intB seg
  apply List.map_congr_left
  intro k hk
  simp at hk
  rw [iv_vby hs p n _ hn (by omega)]
  congr 1
  omega
theorem hdr_c {s : Bool} {src : Nat → Nat} {tg en p : Nat} {made : Bool} {q : Nat × Option Nat} (h : hdr s src tg made en p = some q) : src p = tg ∧ p + 2 ≤ en ∧ ((q = (p + 2, some (p + 2 + src (p + 1))) ∧ src (p + 1) < 128 ∧ p + 2 + src (p + 1) ≤ en) ∨ (s = false ∧ q = (p + 2, none)) ∨ (s = false ∧ p + 3 ≤ q.1 ∧ ∃ c, q.2 = some c ∧ q.1 ≤ c ∧ c ≤ en)) := by
  unfold hdr at h
  by_cases c0 : en < p + 2
  · rw [if_pos c0] at h; cases h
  rw [if_neg c0] at h
  obtain ⟨c1, h⟩ := ite_some h
  refine ⟨c1, by omega, ?_⟩
  by_cases c2 : src (p + 1) = 128
  · rw [if_pos c2] at h
    obtain ⟨c3, h⟩ := ite_some h
    injection h with h
    exact Or.inr (Or.inl ⟨c3.2, h.symm⟩)
  rw [if_neg c2] at h
  by_cases c3 : src (p + 1) < 128
  · rw [if_pos c3] at h
    obtain ⟨c4, h⟩ := ite_some h
    injection h with h
    exact Or.inl ⟨h.symm, c3, c4⟩
  rw [if_neg c3] at h
  by_cases c4 : s = true ∨ 130 < src (p + 1)
  · rw [if_pos c4] at h; cases h
  rw [if_neg c4] at h
  have s0 : s = false := by cases s <;> simp at c4 ⊢
  refine Or.inr (Or.inr ⟨s0, ?_⟩)
  by_cases c5 : src (p + 1) = 129
  · rw [if_pos c5] at h
    obtain ⟨c6, h⟩ := ite_some h
    injection h with h
    subst h
    exact ⟨Nat.le_refl _, _, rfl, by simp, c6⟩
  · rw [if_neg c5] at h
    obtain ⟨c6, h⟩ := ite_some h
    injection h with h
    subst h
    exact ⟨by simp, _, rfl, by simp, c6⟩
theorem hdr_t {s : Bool} {src : Nat → Nat} {tg en p : Nat} {made : Bool} (h1 : src p = tg) (h2 : src (p + 1) < 128) (h3 : p + 2 + src (p + 1) ≤ en) : hdr s src tg made en p = some (p + 2, some (p + 2 + src (p + 1))) := by
  unfold hdr
  rw [if_neg (by omega), if_pos h1, if_neg (by omega), if_pos h2, if_pos h3]
/-- an element around a content -/
theorem can_wrap {src : Nat → Nat} {tg en p x1 p3 : Nat} {made : Bool} {h : Nat × Option Nat} {ec : List Nat} (hen : en ≤ 120) (hh : hdr false src tg made en p = some h) (hx : h.1 ≤ x1) (hl : ec.length ≤ x1 - h.1) (hc : cls src h.2 en x1 = some p3) :
    (elem tg ec).length ≤ p3 - p ∧ p + 2 ≤ p3 ∧ (elem tg ec = seg src p (p3 - p) → hdr true src tg made en p = some h ∧ ec = seg src h.1 (x1 - h.1)) := by
  obtain ⟨c1, c2, c3⟩ := hdr_c hh
  have hx1 : x1 ≤ en ∧ x1 ≤ p3 ∧ (h.2 = none → x1 + 2 ≤ p3) ∧ (∀ c, h.2 = some c → x1 = c ∧ p3 = x1) := by
    unfold cls at hc
    cases hq : h.2 with
    | none =>
      rw [hq] at hc
      obtain ⟨z, hc⟩ := ite_some hc
      injection hc with hc
      refine ⟨by omega, by omega, fun _ => by omega, fun c hc => by cases hc⟩
    | some c =>
      rw [hq] at hc
      obtain ⟨z, hc⟩ := ite_some hc
      injection hc with hc
      have hcen : c ≤ en := by
        rcases c3 with ⟨q1, q2, q3⟩ | ⟨_, q1⟩ | ⟨_, q1, c', q2, q3, q4⟩
        · rw [q1] at hq; injection hq with hq; omega
        · rw [q1] at hq; cases hq
        · rw [hq] at q2; injection q2 with q2; omega
      refine ⟨by omega, by omega, fun h => (by cases h), fun c' hc' => ?_⟩
      injection hc' with hc'
      omega
  obtain ⟨x1e, x13, xn, xs⟩ := hx1
  have hE : elem tg ec = tg :: ec.length :: ec := by
    unfold elem lenB
    rw [if_pos (by omega)]
    rfl
  rw [hE]
  rcases c3 with ⟨q1, q2, q3⟩ | ⟨_, q1⟩ | ⟨_, q1, c', q2, q3, q4⟩
  · subst q1
    obtain ⟨y1, y2⟩ := xs _ rfl
    simp only at hx hl y1
    refine ⟨by simp; omega, by omega, fun he => ?_⟩
    rw [show p3 - p = (src (p + 1) + 1) + 1 by omega, seg_cons, seg_cons] at he
    injection he with _ he
    injection he with _ he
    exact ⟨hdr_t c1 q2 q3, by rw [show x1 - (p + 2) = src (p + 1) by omega]; exact he⟩
  · subst q1
    have := xn rfl
    simp only at hx hl
    refine ⟨by simp; omega, by omega, fun he => ?_⟩
    have := congrArg List.length he
    rw [seg_len] at this
    simp at this
    omega
  · obtain ⟨y1, y2⟩ := xs _ q2
    refine ⟨by simp; omega, by omega, fun he => ?_⟩
    have := congrArg List.length he
    rw [seg_len] at this
    simp at this
    omega
theorem can_wrapT {src : Nat → Nat} {tg en p x1 p3 : Nat} {made : Bool} {h : Nat × Option Nat} (hen : en ≤ 120) (hh : hdr true src tg made en p = some h) (hx : h.1 ≤ x1) (hc : cls src h.2 en x1 = some p3) :
    hdr false src tg made en p = some h ∧ elem tg (seg src h.1 (x1 - h.1)) = seg src p (p3 - p) ∧ p + 2 ≤ p3 := by
  obtain ⟨c1, c2, c3⟩ := hdr_c hh
  rcases c3 with ⟨q1, q2, q3⟩ | ⟨z, _⟩ | ⟨z, _⟩
  · subst q1
    unfold cls at hc
    obtain ⟨z, hc⟩ := ite_some hc
    injection hc with hc
    simp only at hx
    refine ⟨hdr_t c1 q2 q3, ?_, by omega⟩
    unfold elem lenB
    rw [seg_len, if_pos (by omega), show p3 - p = (src (p + 1) + 1) + 1 by omega, seg_cons, seg_cons, show x1 - (p + 2) = src (p + 1) by omega, c1]
    rfl
  · cases z
  · cases z
def canE (T : zJ) (src : Nat → Nat) (n : Nat) : Prop := ∀ t t0 dg par wh i o en p q, en ≤ 120 →
  (rdE T src true n t t0 dg par wh i o en p = some q → rdE T src false n t t0 dg par wh i o en p = some q ∧ q.2.2.2.1 = seg src p (q.1 - p) ∧ p + 2 ≤ q.1) ∧
  (rdE T src false n t t0 dg par wh i o en p = some q → q.2.2.2.1.length ≤ q.1 - p ∧ p + 2 ≤ q.1 ∧ (q.2.2.2.1 = seg src p (q.1 - p) → rdE T src true n t t0 dg par wh i o en p = some q))
theorem app_split {src : Nat → Nat} {p a b : Nat} {e1 e2 : List Nat} (h1 : p ≤ a) (h2 : a ≤ b) (l1 : e1.length ≤ a - p) (l2 : e2.length ≤ b - a) (h : e1 ++ e2 = seg src p (b - p)) : e1 = seg src p (a - p) ∧ e2 = seg src a (b - a) := by
  have hl := congrArg List.length h
  rw [List.length_append, seg_len] at hl
  rw [show b - p = (a - p) + (b - a) by omega, seg_add, show p + (a - p) = a by omega] at h
  exact List.append_inj h (by rw [seg_len]; omega)
theorem canC {T : zJ} {src : Nat → Nat} {n t : Nat} {par : Int32} {lim : Nat} (hlim : lim ≤ 120) (ih : canE T src n) : ∀ m j i o p x,
    (rdC T src true (rdE T src true n) t par lim m j i o p = some x → rdC T src false (rdE T src false n) t par lim m j i o p = some x ∧ x.2.2.2.2.2.2.1 = seg src p (x.1 - p) ∧ p ≤ x.1) ∧
    (rdC T src false (rdE T src false n) t par lim m j i o p = some x → x.2.2.2.2.2.2.1.length ≤ x.1 - p ∧ p ≤ x.1 ∧ (x.2.2.2.2.2.2.1 = seg src p (x.1 - p) → rdC T src true (rdE T src true n) t par lim m j i o p = some x)) := by
  intro m
  induction m with
  | zero =>
    intro j i o p x
    unfold rdC
    refine ⟨fun h => ?_, fun h => ?_⟩
    · injection h with h
      subst h
      exact ⟨rfl, by simp [seg, rnil], Nat.le_refl _⟩
    · injection h with h
      subst h
      exact ⟨by simp [rnil], Nat.le_refl _, fun _ => rfl⟩
  | succ m ihm =>
    intro j i o p x
    unfold rdC
    by_cases c0 : T 9 (chd T (6 * t + j)) &&& ntb src lim p = 0
    · simp only [if_pos c0]
      by_cases f1 : T 14 (6 * t + j) = 1
      · simp only [if_pos f1]
        refine ⟨fun h => ?_, fun h => ?_⟩
        · obtain ⟨y, hy, h⟩ := bind_some_eq h
          injection h with h
          subst h
          obtain ⟨q1, q2, q3⟩ := (ihm (j + 1) i o p y).1 hy
          exact ⟨by rw [q1]; rfl, q2, q3⟩
        · obtain ⟨y, hy, h⟩ := bind_some_eq h
          injection h with h
          subst h
          obtain ⟨q1, q2, q3⟩ := (ihm (j + 1) i o p y).2 hy
          exact ⟨q1, q2, fun he => by rw [q3 he]; rfl⟩
      · simp only [if_neg f1]
        by_cases f2 : T 14 (6 * t + j) = 2 ∧ i < 100
        · simp only [if_pos f2]
          refine ⟨fun h => ?_, fun h => ?_⟩
          · obtain ⟨y, hy, h⟩ := bind_some_eq h
            injection h with h
            subst h
            obtain ⟨q1, q2, q3⟩ := (ihm (j + 1) (i + 1) o p y).1 hy
            exact ⟨by rw [q1]; rfl, q2, q3⟩
          · obtain ⟨y, hy, h⟩ := bind_some_eq h
            injection h with h
            subst h
            obtain ⟨q1, q2, q3⟩ := (ihm (j + 1) (i + 1) o p y).2 hy
            exact ⟨q1, q2, fun he => by rw [q3 he]; rfl⟩
        · simp only [if_neg f2]
          exact ⟨fun h => (by cases h), fun h => (by cases h)⟩
    · simp only [if_neg c0]
      refine ⟨fun h => ?_, fun h => ?_⟩
      · obtain ⟨r, hr, h⟩ := bind_some_eq h
        obtain ⟨a1, a2, a3⟩ := (ih _ _ _ _ _ _ _ _ _ r hlim).1 hr
        rw [a1, Option.bind_some]
        by_cases lf : T 14 (6 * t + j) = 2 ∧ hdV r.2.1 = T 15 (6 * t + j)
        · rw [if_pos lf, if_pos trivial] at h; cases h
        · rw [if_neg lf] at h ⊢
          obtain ⟨y, hy, h⟩ := bind_some_eq h
          injection h with h
          subst h
          obtain ⟨q1, q2, q3⟩ := (ihm _ _ _ _ y).1 hy
          refine ⟨by rw [q1]; rfl, ?_, by show p ≤ y.1; omega⟩
          show r.2.2.2.1 ++ y.2.2.2.2.2.2.1 = seg src p (y.1 - p)
          rw [a2, q2, show y.1 - p = (r.1 - p) + (y.1 - r.1) by omega, seg_add, show p + (r.1 - p) = r.1 by omega]
      · obtain ⟨r, hr, h⟩ := bind_some_eq h
        obtain ⟨a1, a2, a3⟩ := (ih _ _ _ _ _ _ _ _ _ r hlim).2 hr
        by_cases lf : T 14 (6 * t + j) = 2 ∧ hdV r.2.1 = T 15 (6 * t + j)
        · rw [if_pos lf, if_neg (by decide)] at h
          obtain ⟨y, hy, h⟩ := bind_some_eq h
          injection h with h
          subst h
          obtain ⟨q1, q2, q3⟩ := (ihm _ _ _ _ y).2 hy
          refine ⟨by show ([] ++ y.2.2.2.2.2.2.1).length ≤ y.1 - p; rw [List.nil_append]; omega, by show p ≤ y.1; omega, fun he => ?_⟩
          have he : [] ++ y.2.2.2.2.2.2.1 = seg src p (y.1 - p) := he
          have := congrArg List.length he
          rw [seg_len, List.nil_append] at this
          omega
        · rw [if_neg lf] at h
          obtain ⟨y, hy, h⟩ := bind_some_eq h
          injection h with h
          subst h
          obtain ⟨q1, q2, q3⟩ := (ihm _ _ _ _ y).2 hy
          refine ⟨by show (r.2.2.2.1 ++ y.2.2.2.2.2.2.1).length ≤ y.1 - p; rw [List.length_append]; omega, by show p ≤ y.1; omega, fun he => ?_⟩
          have he : r.2.2.2.1 ++ y.2.2.2.2.2.2.1 = seg src p (y.1 - p) := he
          obtain ⟨z1, z2⟩ := app_split (a := r.1) (by omega) (by omega) a1 q1 he
          rw [a3 z1, Option.bind_some, if_neg lf, q3 z2]
          rfl
theorem canL {T : zJ} {src : Nat → Nat} {n u : Nat} {par : Int32} {lim : Nat} (hlim : lim ≤ 120) (ih : canE T src n) : ∀ m k i o p x,
    (rdL src (rdE T src true n) u par lim m k i o p = some x → rdL src (rdE T src false n) u par lim m k i o p = some x ∧ x.2.2.2.2.1 = seg src p (x.1 - p) ∧ p ≤ x.1) ∧
    (rdL src (rdE T src false n) u par lim m k i o p = some x → x.2.2.2.2.1.length ≤ x.1 - p ∧ p ≤ x.1 ∧ (x.2.2.2.2.1 = seg src p (x.1 - p) → rdL src (rdE T src true n) u par lim m k i o p = some x)) := by
  intro m
  induction m with
  | zero =>
    intro k i o p x
    unfold rdL
    refine ⟨fun h => ?_, fun h => ?_⟩
    · injection h with h
      subst h
      exact ⟨rfl, by simp [seg, rnil], Nat.le_refl _⟩
    · injection h with h
      subst h
      exact ⟨by simp [rnil], Nat.le_refl _, fun _ => rfl⟩
  | succ m ihm =>
    intro k i o p x
    unfold rdL
    by_cases c0 : ntb src lim p = 0
    · simp only [if_pos c0]
      refine ⟨fun h => ?_, fun h => ?_⟩
      · injection h with h
        subst h
        exact ⟨rfl, by simp [seg, rnil], Nat.le_refl _⟩
      · injection h with h
        subst h
        exact ⟨by simp [rnil], Nat.le_refl _, fun _ => rfl⟩
    · simp only [if_neg c0]
      refine ⟨fun h => ?_, fun h => ?_⟩
      · obtain ⟨r, hr, h⟩ := bind_some_eq h
        obtain ⟨a1, a2, a3⟩ := (ih _ _ _ _ _ _ _ _ _ r hlim).1 hr
        obtain ⟨y, hy, h⟩ := bind_some_eq h
        injection h with h
        subst h
        obtain ⟨q1, q2, q3⟩ := (ihm _ _ _ _ y).1 hy
        refine ⟨by rw [a1, Option.bind_some, q1]; rfl, ?_, by show p ≤ y.1; omega⟩
        show r.2.2.2.1 ++ y.2.2.2.2.1 = seg src p (y.1 - p)
        rw [a2, q2, show y.1 - p = (r.1 - p) + (y.1 - r.1) by omega, seg_add, show p + (r.1 - p) = r.1 by omega]
      · obtain ⟨r, hr, h⟩ := bind_some_eq h
        obtain ⟨a1, a2, a3⟩ := (ih _ _ _ _ _ _ _ _ _ r hlim).2 hr
        obtain ⟨y, hy, h⟩ := bind_some_eq h
        injection h with h
        subst h
        obtain ⟨q1, q2, q3⟩ := (ihm _ _ _ _ y).2 hy
        refine ⟨by show (r.2.2.2.1 ++ y.2.2.2.2.1).length ≤ y.1 - p; rw [List.length_append]; omega, by show p ≤ y.1; omega, fun he => ?_⟩
        have he : r.2.2.2.1 ++ y.2.2.2.2.1 = seg src p (y.1 - p) := he
        obtain ⟨z1, z2⟩ := app_split (a := r.1) (by omega) (by omega) a1 q1 he
        rw [a3 z1, Option.bind_some, q3 z2]
        rfl
theorem canP {T : zJ} {src : Nat → Nat} {t t0 tg wh o p c : Nat} {par : Int32} {q : Nat × Rs} (hs : sOK src) (hpc : p ≤ c) : 
    (rdPl T src true t t0 tg par wh o p c = some q → rdPl T src false t t0 tg par wh o p c = some q ∧ q.1 = c ∧ q.2.2.2.1 = elem tg (seg src p (c - p))) ∧
    (rdPl T src false t t0 tg par wh o p c = some q → q.1 = c ∧ ∃ ec, q.2.2.2.1 = elem tg ec ∧ ec.length = c - p ∧ (ec = seg src p (c - p) → rdPl T src true t t0 tg par wh o p c = some q)) := by
  unfold rdPl
  by_cases k1 : T 4 t = 1
  · simp only [if_pos k1]
    refine ⟨fun h => ?_, fun h => ?_⟩
    · obtain ⟨z, h⟩ := ite_some h
      injection h with h
      subst h
      refine ⟨by rw [if_pos ⟨z.1, by simp⟩], rfl, ?_⟩
      have hz : src p = 0 ∨ src p = 255 := by
        have := z.2
        simp at this
        omega
      show elem tg [if src p = 0 then 0 else 255] = _
      rw [z.1, show p + 1 - p = 1 by omega]
      congr 1
      rcases hz with hz | hz
      · rw [hz]; simp [seg, hz]
      · rw [hz]; simp [seg, hz]
    · obtain ⟨z, h⟩ := ite_some h
      injection h with h
      subst h
      refine ⟨rfl, [if src p = 0 then 0 else 255], rfl, by simp; omega, fun he => ?_⟩
      have hz : ¬ (src p ≠ 0 ∧ src p ≠ 255) := by
        rintro ⟨z2, z3⟩
        rw [z.1, show p + 1 - p = 1 by omega] at he
        simp [seg] at he
        rw [if_neg z2] at he
        omega
      rw [if_pos]
      exact ⟨z.1, fun y => hz y.2⟩
  · simp only [if_neg k1]
    by_cases k2 : T 4 t = 2
    · simp only [if_pos k2]
      refine ⟨fun h => ⟨h, ?_⟩, fun h => ?_⟩
      · obtain ⟨z, h⟩ := ite_some h
        injection h with h
        subst h
        refine ⟨rfl, ?_⟩
        show elem tg (intB _ _) = _
        rw [intB_iv hs _ _ z.2.1]
      · have h0 := h
        obtain ⟨z, h⟩ := ite_some h
        injection h with h
        subst h
        exact ⟨rfl, _, rfl, intB_len _ _, fun _ => h0⟩
    · simp only [if_neg k2]
      by_cases k4 : T 4 t = 4
      · simp only [if_pos k4]
        refine ⟨fun h => ⟨h, ?_⟩, fun h => ?_⟩
        · obtain ⟨z, h⟩ := ite_some h
          injection h with h
          subst h
          exact ⟨rfl, rfl⟩
        · have h0 := h
          obtain ⟨z, h⟩ := ite_some h
          injection h with h
          subst h
          exact ⟨rfl, _, rfl, seg_len _ _ _, fun _ => h0⟩
      · simp only [if_neg k4]
        refine ⟨fun h => ⟨h, ?_⟩, fun h => ?_⟩
        · obtain ⟨z, h⟩ := ite_some h
          injection h with h
          subst h
          refine ⟨rfl, ?_⟩
          show elem tg [] = _
          rw [z, Nat.sub_self]
          rfl
        · have h0 := h
          obtain ⟨z, h⟩ := ite_some h
          injection h with h
          subst h
          exact ⟨rfl, [], rfl, by simp; omega, fun _ => h0⟩
theorem can_all {T : zJ} {src : Nat → Nat} (hs : sOK src) : ∀ n, canE T src n := by
  intro n
  induction n with
  | zero =>
    intro t t0 dg par wh i o en p q _
    exact ⟨fun h => (by cases h), fun h => (by cases h)⟩
  | succ n ih =>
    intro t t0 dg par wh i o en p q hen
    unfold rdE rdB
    by_cases k10 : T 4 t = 10
    · simp only [if_pos k10]
      by_cases x : isX T t = true
      · simp only [if_pos x]
        refine ⟨fun h => ?_, fun h => ?_⟩
        · obtain ⟨h1, e1, h⟩ := bind_some_eq h
          obtain ⟨r, e2, h⟩ := bind_some_eq h
          obtain ⟨p3, e3, h⟩ := bind_some_eq h
          injection h with h
          subst h
          obtain ⟨a1, a2, a3⟩ := (ih _ _ _ _ _ _ _ _ _ r (Nat.le_trans (hdr_le e1).1 hen)).1 e2
          obtain ⟨b1, b2, b3⟩ := can_wrapT hen e1 (by omega) e3
          refine ⟨by rw [b1, Option.bind_some, a1, Option.bind_some, e3]; rfl, ?_, b3⟩
          show elem (tgB T t dg) r.2.2.2.1 = _
          rw [a2, b2]
        · obtain ⟨h1, e1, h⟩ := bind_some_eq h
          obtain ⟨r, e2, h⟩ := bind_some_eq h
          obtain ⟨p3, e3, h⟩ := bind_some_eq h
          injection h with h
          subst h
          obtain ⟨a1, a2, a3⟩ := (ih _ _ _ _ _ _ _ _ _ r (Nat.le_trans (hdr_le e1).1 hen)).2 e2
          obtain ⟨b1, b2, b3⟩ := can_wrap hen e1 (by omega) a1 e3
          refine ⟨b1, b2, fun he => ?_⟩
          obtain ⟨c1, c2⟩ := b3 he
          rw [c1, Option.bind_some, a3 c2, Option.bind_some, e3]
          rfl
      · simp only [if_neg x]
        exact ih _ _ _ _ _ _ _ _ _ q hen
    · simp only [if_neg k10]
      by_cases k9 : T 4 t = 9
      · simp only [if_pos k9]
        refine ⟨fun h => ?_, fun h => ?_⟩
        · obtain ⟨k, e1, h⟩ := bind_some_eq h
          obtain ⟨c, h⟩ := ite_some h
          obtain ⟨r, e2, h⟩ := bind_some_eq h
          injection h with h
          subst h
          obtain ⟨a1, a2, a3⟩ := (ih _ _ _ _ _ _ _ _ _ r hen).1 e2
          exact ⟨by rw [e1, Option.bind_some, if_pos c, a1]; rfl, a2, a3⟩
        · obtain ⟨k, e1, h⟩ := bind_some_eq h
          obtain ⟨c, h⟩ := ite_some h
          obtain ⟨r, e2, h⟩ := bind_some_eq h
          injection h with h
          subst h
          obtain ⟨a1, a2, a3⟩ := (ih _ _ _ _ _ _ _ _ _ r hen).2 e2
          exact ⟨a1, a2, fun he => by rw [e1, Option.bind_some, if_pos c, a3 he]; rfl⟩
      · simp only [if_neg k9]
        refine ⟨fun h => ?_, fun h => ?_⟩
        · obtain ⟨h1, e1, h⟩ := bind_some_eq h
          obtain ⟨c, h⟩ := ite_some h
          obtain ⟨z1, z2, z3⟩ := hdr_le e1
          by_cases k6 : T 4 t = 6
          · rw [if_pos k6] at h
            obtain ⟨r, e2, h⟩ := bind_some_eq h
            obtain ⟨p3, e3, h⟩ := bind_some_eq h
            injection h with h
            subst h
            obtain ⟨a1, a2, a3⟩ := (canC (Nat.le_trans z1 hen) ih _ _ _ _ _ r).1 e2
            obtain ⟨b1, b2, b3⟩ := can_wrapT hen e1 a3 e3
            refine ⟨by rw [b1, Option.bind_some, if_pos c, if_pos k6, a1, Option.bind_some, e3]; rfl, ?_, b3⟩
            show elem (tgB T t dg) r.2.2.2.2.2.2.1 = _
            rw [a2, b2]
          · rw [if_neg k6] at h
            by_cases k7 : T 4 t = 7
            · rw [if_pos k7] at h
              obtain ⟨r, e2, h⟩ := bind_some_eq h
              obtain ⟨al, h⟩ := ite_some h
              obtain ⟨p3, e3, h⟩ := bind_some_eq h
              injection h with h
              subst h
              obtain ⟨a1, a2, a3⟩ := (canL (Nat.le_trans z1 hen) ih _ _ _ _ _ r).1 e2
              obtain ⟨b1, b2, b3⟩ := can_wrapT hen e1 a3 e3
              refine ⟨by rw [b1, Option.bind_some, if_pos c, if_neg k6, if_pos k7, a1, Option.bind_some, if_pos al, e3]; rfl, ?_, b3⟩
              show elem (tgB T t dg) r.2.2.2.2.1 = _
              rw [a2, b2]
            · rw [if_neg k7] at h
              obtain ⟨a1, a2, a3⟩ := (canP hs z3).1 h
              have hm : isMade T t = false := decide_eq_false (fun z => z.elim k6 k7)
              obtain ⟨c1, c2, c3⟩ := hdr_c e1
              have hce : ∃ ce, h1.2 = some ce := by
                rcases c3 with ⟨y, _⟩ | ⟨y, _⟩ | ⟨y, _⟩
                · exact ⟨_, by rw [y]⟩
                · cases y
                · cases y
              obtain ⟨ce, hce⟩ := hce
              have e3 : cls src h1.2 en (h1.2.getD en) = some (h1.2.getD en) := by
                rw [hce]
                show (if ce = ce then some ce else none) = some ce
                rw [if_pos rfl]
              obtain ⟨b1, b2, b3⟩ := can_wrapT hen e1 z3 e3
              refine ⟨by rw [b1, Option.bind_some, if_pos c, if_neg k6, if_neg k7, a1], ?_, by rw [a2]; exact b3⟩
              rw [a3, a2, b2]
        · obtain ⟨h1, e1, h⟩ := bind_some_eq h
          obtain ⟨c, h⟩ := ite_some h
          obtain ⟨z1, z2, z3⟩ := hdr_le e1
          by_cases k6 : T 4 t = 6
          · rw [if_pos k6] at h
            obtain ⟨r, e2, h⟩ := bind_some_eq h
            obtain ⟨p3, e3, h⟩ := bind_some_eq h
            injection h with h
            subst h
            obtain ⟨a1, a2, a3⟩ := (canC (Nat.le_trans z1 hen) ih _ _ _ _ _ r).2 e2
            obtain ⟨b1, b2, b3⟩ := can_wrap hen e1 a2 a1 e3
            refine ⟨b1, b2, fun he => ?_⟩
            obtain ⟨d1, d2⟩ := b3 he
            rw [d1, Option.bind_some, if_pos c, if_pos k6, a3 d2, Option.bind_some, e3]
            rfl
          · rw [if_neg k6] at h
            by_cases k7 : T 4 t = 7
            · rw [if_pos k7] at h
              obtain ⟨r, e2, h⟩ := bind_some_eq h
              obtain ⟨al, h⟩ := ite_some h
              obtain ⟨p3, e3, h⟩ := bind_some_eq h
              injection h with h
              subst h
              obtain ⟨a1, a2, a3⟩ := (canL (Nat.le_trans z1 hen) ih _ _ _ _ _ r).2 e2
              obtain ⟨b1, b2, b3⟩ := can_wrap hen e1 a2 a1 e3
              refine ⟨b1, b2, fun he => ?_⟩
              obtain ⟨d1, d2⟩ := b3 he
              rw [d1, Option.bind_some, if_pos c, if_neg k6, if_pos k7, a3 d2, Option.bind_some, if_pos al, e3]
              rfl
            · rw [if_neg k7] at h
              obtain ⟨a1, ec, a2, a3, a4⟩ := (canP hs z3).2 h
              have hm : isMade T t = false := decide_eq_false (fun z => z.elim k6 k7)
              have hce : ∃ ce, h1.2 = some ce := by
                cases hq : h1.2 with
                | some ce => exact ⟨ce, rfl⟩
                | none =>
                  exfalso
                  rw [hm] at e1
                  have : ∀ q, hdr false src (tgB T t dg) false en p = some q → q.2 ≠ none := by
                    intro q hq
                    unfold hdr at hq
                    (repeat' split at hq) <;> first | (cases hq; done) | (injection hq with hq; subst hq; simp)
                    simp_all
                  exact this h1 e1 hq
              obtain ⟨ce, hce⟩ := hce
              have e3 : cls src h1.2 en (h1.2.getD en) = some (h1.2.getD en) := by
                rw [hce]
                show (if ce = ce then some ce else none) = some ce
                rw [if_pos rfl]
              obtain ⟨b1, b2, b3⟩ := can_wrap (ec := ec) hen e1 z3 (by omega) e3
              refine ⟨by rw [a2, a1]; exact b1, by rw [a1]; exact b2, fun he => ?_⟩
              rw [a2, a1] at he
              obtain ⟨d1, d2⟩ := b3 he
              rw [d1, Option.bind_some, if_pos c, if_neg k6, if_neg k7, a4 d2]
/-- a whole value: strictly read, and openly read and written as it stands -/
theorem can_A {T : zJ} {src : Nat → Nat} (hs : sOK src) (t L : Nat) (hL : L ≤ 120) (r : Rs) : rdA T src true t L = some r ↔ (rdA T src false t L = some r ∧ r.2.2.1 = seg src 0 L) := by
  unfold rdA
  constructor
  · intro h
    obtain ⟨q, hq, h⟩ := bind_some_eq h
    obtain ⟨c, h⟩ := ite_some h
    injection h with h
    subst h
    obtain ⟨a1, a2, a3⟩ := (can_all hs 6 t t none (-1) 0 0 0 L 0 q hL).1 hq
    rw [a1, Option.bind_some, if_pos c]
    refine ⟨rfl, ?_⟩
    rw [a2, c, Nat.sub_zero]
  · rintro ⟨h, he⟩
    obtain ⟨q, hq, h⟩ := bind_some_eq h
    obtain ⟨c, h⟩ := ite_some h
    injection h with h
    subst h
    obtain ⟨a1, a2, a3⟩ := (can_all hs 6 t t none (-1) 0 0 0 L 0 q hL).2 hq
    rw [a3 (by rw [he, c, Nat.sub_zero]), Option.bind_some, if_pos c]
