/-! STRICT packed reading: components, items, whole values -/
/-- the marks that were read -/
def optM (T : zJ) (t : Nat) : List Bool → Nat → List Bool
  | [], _ => []
  | th :: ths, j => if T 14 (6 * t + j) = 0 then optM T t ths (j + 1) else th :: optM T t ths (j + 1)
theorem prs_opt {T : zJ} {src : Nat → Nat} {en t : Nat} : ∀ m j p q, prsP T src en t m j p = some q → q.1 = p + (optM T t q.2 j).length ∧ mat src p (optM T t q.2 j) := by
  intro m
  induction m with
  | zero =>
    intro j p q h
    injection h with h
    subst h
    exact ⟨rfl, mat_nil _ _⟩
  | succ m ih =>
    intro j p q h
    unfold prsP at h
    by_cases c : T 14 (6 * t + j) = 0
    · rw [if_pos c] at h
      obtain ⟨r, e1, h⟩ := bind_some_eq h
      injection h with h
      subst h
      show r.1 = p + (optM T t (true :: r.2) j).length ∧ mat src p (optM T t (true :: r.2) j)
      unfold optM
      rw [if_pos c]
      exact ih _ _ _ e1
    · rw [if_neg c] at h
      obtain ⟨c2, h⟩ := ite_some h
      obtain ⟨r, e1, h⟩ := bind_some_eq h
      injection h with h
      subst h
      show r.1 = p + (optM T t (decide (sbit src p = 1) :: r.2) j).length ∧ mat src p (optM T t (decide (sbit src p = 1) :: r.2) j)
      unfold optM
      rw [if_neg c]
      obtain ⟨z1, z2⟩ := ih _ _ _ e1
      refine ⟨by rw [List.length_cons]; omega, ?_⟩
      rw [← List.singleton_append]
      exact mat_app.mpr ⟨rfl, z2⟩
def canQ (T : zJ) (src : Nat → Nat) (n : Nat) : Prop := ∀ t t0 dg par wh i o en p, wfT T n t → cnP (rdP T src true n t t0 dg par wh i o en p) (rdP T src false n t t0 dg par wh i o en p) src p
theorem canQC {T : zJ} {src : Nat → Nat} {n t : Nat} {par : Int32} {lim : Nat} (ih : canQ T src n) : ∀ ths j i o p x, (∀ j', j' < j + ths.length → wfT T n (chd T (6 * t + j'))) →
    (rpC T true (rdP T src true n) t par lim ths j i o p = some x → rpC T false (rdP T src false n) t par lim ths j i o p = some x ∧ x.2.2.2.1 = optM T t ths j ∧ mat src p (x.2.2.2.2.2.2.2 p) ∧ x.1 = p + (x.2.2.2.2.2.2.2 p).length) ∧
    (rpC T false (rdP T src false n) t par lim ths j i o p = some x → x.2.2.2.1 = optM T t ths j → mat src p (x.2.2.2.2.2.2.2 p) → rpC T true (rdP T src true n) t par lim ths j i o p = some x) ∧
    (rpC T false (rdP T src false n) t par lim ths j i o p = some x → x.2.2.2.1.length = (optM T t ths j).length) := by
  intro ths
  induction ths with
  | nil =>
    intro j i o p x _
    unfold rpC optM
    refine ⟨fun h => ⟨h, ?_⟩, fun h _ _ => h, fun h => ?_⟩
    · injection h with h
      subst h
      exact ⟨rfl, mat_nil _ _, rfl⟩
    · injection h with h
      subst h
      rfl
  | cons th ths ihm =>
    intro j i o p x hwf
    rw [List.length_cons] at hwf
    have hw := hwf j (by omega)
    have hwf' : ∀ j', j' < j + 1 + ths.length → wfT T n (chd T (6 * t + j')) := fun j' hj' => hwf j' (by omega)
    unfold rpC optM
    by_cases c0 : th = false
    · subst c0
      rw [if_pos rfl, if_pos rfl]
      by_cases f1 : T 14 (6 * t + j) = 1
      · rw [if_pos f1, if_pos f1, if_neg (show ¬ T 14 (6 * t + j) = 0 by rw [f1]; decide)]
        refine ⟨fun h => ?_, fun h h2 h3 => ?_, fun h => ?_⟩
        · obtain ⟨y, hy, h⟩ := bind_some_eq h
          injection h with h
          subst h
          obtain ⟨z1, z2, z3, z4⟩ := (ihm _ _ _ _ y hwf').1 hy
          rw [z1]
          exact ⟨rfl, by show false :: y.2.2.2.1 = _; rw [z2], z3, z4⟩
        · obtain ⟨y, hy, h⟩ := bind_some_eq h
          injection h with h
          subst h
          have h2 : false :: y.2.2.2.1 = false :: optM T t ths (j + 1) := h2
          injection h2 with _ h2
          rw [(ihm _ _ _ _ y hwf').2.1 hy h2 h3]
          rfl
        · obtain ⟨y, hy, h⟩ := bind_some_eq h
          injection h with h
          subst h
          have := (ihm _ _ _ _ y hwf').2.2 hy
          show (false :: y.2.2.2.1).length = (false :: optM T t ths (j + 1)).length
          rw [List.length_cons, List.length_cons, this]
      · rw [if_neg f1, if_neg f1]
        by_cases f2 : T 14 (6 * t + j) = 2 ∧ i < 100
        · rw [if_pos f2, if_pos f2, if_neg (show ¬ T 14 (6 * t + j) = 0 by rw [f2.1]; decide)]
          refine ⟨fun h => ?_, fun h h2 h3 => ?_, fun h => ?_⟩
          · obtain ⟨y, hy, h⟩ := bind_some_eq h
            injection h with h
            subst h
            obtain ⟨z1, z2, z3, z4⟩ := (ihm _ _ _ _ y hwf').1 hy
            rw [z1]
            refine ⟨rfl, by show false :: y.2.2.2.1 = _; rw [z2], ?_⟩
            show mat src p (pcat pnil y.2.2.2.2.2.2.2 p) ∧ y.1 = p + (pcat pnil y.2.2.2.2.2.2.2 p).length
            rw [pcat_nil]
            exact ⟨z3, z4⟩
          · obtain ⟨y, hy, h⟩ := bind_some_eq h
            injection h with h
            subst h
            have h2 : false :: y.2.2.2.1 = false :: optM T t ths (j + 1) := h2
            injection h2 with _ h2
            have h3 : mat src p (pcat pnil y.2.2.2.2.2.2.2 p) := h3
            rw [pcat_nil] at h3
            rw [(ihm _ _ _ _ y hwf').2.1 hy h2 h3]
            rfl
          · obtain ⟨y, hy, h⟩ := bind_some_eq h
            injection h with h
            subst h
            have := (ihm _ _ _ _ y hwf').2.2 hy
            show (false :: y.2.2.2.1).length = (false :: optM T t ths (j + 1)).length
            rw [List.length_cons, List.length_cons, this]
        · rw [if_neg f2, if_neg f2]
          exact ⟨fun h => (by cases h), fun h => (by cases h), fun h => (by cases h)⟩
    · have ht : th = true := by cases th with
        | false => exact absurd rfl c0
        | true => rfl
      subst ht
      rw [if_neg c0, if_neg c0]
      refine ⟨fun h => ?_, fun h h2 h3 => ?_, fun h => ?_⟩
      · obtain ⟨r, hr, h⟩ := bind_some_eq h
        obtain ⟨y1, y2, y3⟩ := (ih _ _ _ _ _ _ _ _ _ hw r).1 hr
        rw [y1, Option.bind_some]
        by_cases lf : T 14 (6 * t + j) = 2 ∧ hdV r.2.1 = T 15 (6 * t + j)
        · rw [if_pos lf, if_pos rfl] at h; cases h
        · rw [if_neg lf] at h ⊢
          obtain ⟨y, hy, h⟩ := bind_some_eq h
          injection h with h
          subst h
          obtain ⟨z1, z2, z3, z4⟩ := (ihm _ _ _ _ y hwf').1 hy
          rw [z1]
          refine ⟨rfl, ?_, ?_⟩
          · show (if T 14 (6 * t + j) = 0 then y.2.2.2.1 else true :: y.2.2.2.1) = _
            rw [z2]
          · show mat src p (r.2.2.2.2 p ++ y.2.2.2.2.2.2.2 (p + (r.2.2.2.2 p).length)) ∧ y.1 = p + (r.2.2.2.2 p ++ y.2.2.2.2.2.2.2 (p + (r.2.2.2.2 p).length)).length
            rw [← y3]
            exact ⟨mat_app.mpr ⟨y2, by rw [← y3]; exact z3⟩, by rw [List.length_append, ← Nat.add_assoc, ← y3]; exact z4⟩
      · obtain ⟨r, hr, h⟩ := bind_some_eq h
        by_cases lf : T 14 (6 * t + j) = 2 ∧ hdV r.2.1 = T 15 (6 * t + j)
        · exfalso
          rw [if_pos lf, if_neg (by decide)] at h
          obtain ⟨y, hy, h⟩ := bind_some_eq h
          injection h with h
          subst h
          have h2 : false :: y.2.2.2.1 = if T 14 (6 * t + j) = 0 then optM T t ths (j + 1) else true :: optM T t ths (j + 1) := h2
          rw [if_neg (show ¬ T 14 (6 * t + j) = 0 by rw [lf.1]; decide)] at h2
          injection h2 with h2 _
          cases h2
        · rw [if_neg lf] at h
          obtain ⟨y, hy, h⟩ := bind_some_eq h
          injection h with h
          subst h
          have h2 : (if T 14 (6 * t + j) = 0 then y.2.2.2.1 else true :: y.2.2.2.1) = if T 14 (6 * t + j) = 0 then optM T t ths (j + 1) else true :: optM T t ths (j + 1) := h2
          have h2' : y.2.2.2.1 = optM T t ths (j + 1) := by
            by_cases z : T 14 (6 * t + j) = 0
            · rw [if_pos z, if_pos z] at h2; exact h2
            · rw [if_neg z, if_neg z] at h2; injection h2
          have h3 : mat src p (r.2.2.2.2 p ++ y.2.2.2.2.2.2.2 (p + (r.2.2.2.2 p).length)) := h3
          obtain ⟨m1, m2⟩ := mat_app.mp h3
          have hr' := (ih _ _ _ _ _ _ _ _ _ hw r).2 hr m1
          obtain ⟨_, _, y3⟩ := (ih _ _ _ _ _ _ _ _ _ hw r).1 hr'
          rw [← y3] at m2
          rw [hr', Option.bind_some, if_neg lf, (ihm _ _ _ _ y hwf').2.1 hy h2' m2]
          rfl
      · obtain ⟨r, hr, h⟩ := bind_some_eq h
        by_cases lf : T 14 (6 * t + j) = 2 ∧ hdV r.2.1 = T 15 (6 * t + j)
        · rw [if_pos lf, if_neg (by decide)] at h
          obtain ⟨y, hy, h⟩ := bind_some_eq h
          injection h with h
          subst h
          have := (ihm _ _ _ _ y hwf').2.2 hy
          show (false :: y.2.2.2.1).length = (if T 14 (6 * t + j) = 0 then optM T t ths (j + 1) else true :: optM T t ths (j + 1)).length
          rw [if_neg (show ¬ T 14 (6 * t + j) = 0 by rw [lf.1]; decide), List.length_cons, List.length_cons, this]
        · rw [if_neg lf] at h
          obtain ⟨y, hy, h⟩ := bind_some_eq h
          injection h with h
          subst h
          have := (ihm _ _ _ _ y hwf').2.2 hy
          show (if T 14 (6 * t + j) = 0 then y.2.2.2.1 else true :: y.2.2.2.1).length = (if T 14 (6 * t + j) = 0 then optM T t ths (j + 1) else true :: optM T t ths (j + 1)).length
          split
          · exact this
          · rw [List.length_cons, List.length_cons, this]
theorem canQL {T : zJ} {src : Nat → Nat} {n u : Nat} {par : Int32} {lim : Nat} (hw : wfT T n u) (ih : canQ T src n) : ∀ m k i o p, cnP (rpL (rdP T src true n) u par lim m k i o p) (rpL (rdP T src false n) u par lim m k i o p) src p := by
  intro m
  induction m with
  | zero =>
    intro k i o p x
    unfold rpL
    refine ⟨fun h => ⟨h, ?_⟩, fun h _ => h⟩
    injection h with h
    subst h
    exact ⟨mat_nil _ _, rfl⟩
  | succ m ihm =>
    intro k i o p x
    unfold rpL
    refine ⟨fun h => ?_, fun h h3 => ?_⟩
    · obtain ⟨r, hr, h⟩ := bind_some_eq h
      obtain ⟨y1, y2, y3⟩ := (ih _ _ _ _ _ _ _ _ _ hw r).1 hr
      obtain ⟨y, hy, h⟩ := bind_some_eq h
      injection h with h
      subst h
      obtain ⟨z1, z2, z3⟩ := (ihm _ _ _ _ y).1 hy
      rw [y1, Option.bind_some, z1]
      refine ⟨rfl, ?_⟩
      show mat src p (r.2.2.2.2 p ++ y.2.2.2.2 (p + (r.2.2.2.2 p).length)) ∧ y.1 = p + (r.2.2.2.2 p ++ y.2.2.2.2 (p + (r.2.2.2.2 p).length)).length
      rw [← y3]
      exact ⟨mat_app.mpr ⟨y2, by rw [← y3]; exact z2⟩, by rw [List.length_append, ← Nat.add_assoc, ← y3]; exact z3⟩
    · obtain ⟨r, hr, h⟩ := bind_some_eq h
      obtain ⟨y, hy, h⟩ := bind_some_eq h
      injection h with h
      subst h
      have h3 : mat src p (r.2.2.2.2 p ++ y.2.2.2.2 (p + (r.2.2.2.2 p).length)) := h3
      obtain ⟨m1, m2⟩ := mat_app.mp h3
      have hr' := (ih _ _ _ _ _ _ _ _ _ hw r).2 hr m1
      obtain ⟨_, _, y3⟩ := (ih _ _ _ _ _ _ _ _ _ hw r).1 hr'
      rw [← y3] at m2
      rw [hr', Option.bind_some, (ihm _ _ _ _ y).2 hy m2]
      rfl
theorem canQ_all {T : zJ} {src : Nat → Nat} (hs : sOK src) : ∀ n, canQ T src n := by
  intro n
  induction n with
  | zero => intro t t0 dg par wh i o en p h; exact h.elim
  | succ n ih =>
    intro t t0 dg par wh i o en p hw q
    unfold rdP rpB
    by_cases k10 : T 4 t = 10
    · rw [if_pos k10, if_pos k10]
      have hw5 := (hw.2.2.2.2.2.2.2.1 k10).2.2.2.2
      by_cases x : isX T t = true
      · rw [if_pos x, if_pos x]
        refine ⟨fun h => ?_, fun h hm => ?_⟩
        · obtain ⟨r, hr, h⟩ := bind_some_eq h
          injection h with h
          subst h
          obtain ⟨y1, y2, y3⟩ := (ih _ _ _ _ _ _ _ _ _ hw5 r).1 hr
          rw [y1]
          exact ⟨rfl, y2, y3⟩
        · obtain ⟨r, hr, h⟩ := bind_some_eq h
          injection h with h
          subst h
          rw [(ih _ _ _ _ _ _ _ _ _ hw5 r).2 hr hm]
          rfl
      · rw [if_neg x, if_neg x]
        exact ih _ _ _ _ _ _ _ _ _ hw5 q
    rw [if_neg k10, if_neg k10]
    by_cases hi : i < 100
    case neg =>
      rw [if_neg hi, if_neg hi]
      exact ⟨fun h => (by cases h), fun h => (by cases h)⟩
    rw [if_pos hi, if_pos hi]
    by_cases k9 : T 4 t = 9
    · rw [if_pos k9, if_pos k9]
      obtain ⟨w1, w2, w3⟩ := hw.2.2.2.2.2.2.2.2.1 (Or.inr k9)
      refine ⟨fun h => ?_, fun h hm => ?_⟩
      · obtain ⟨x, hx, h⟩ := bind_some_eq h
        obtain ⟨k, hk, h⟩ := bind_some_eq h
        obtain ⟨r, hr, h⟩ := bind_some_eq h
        injection h with h
        subst h
        obtain ⟨a1, a2, a3⟩ := altR_k _ _ hk
        obtain ⟨z1, z2, z3⟩ := (can_num x).1 hx
        obtain ⟨y1, y2, y3⟩ := (ih _ _ _ _ _ _ _ _ _ (w3 k (by omega)).2 r).1 hr
        rw [z1, Option.bind_some, hk, Option.bind_some, y1]
        refine ⟨rfl, ?_⟩
        show mat src p (pnum (nI (jRank T t k (cnt T t))) (cnt T t - 1) p ++ r.2.2.2.2 (p + (pnum (nI (jRank T t k (cnt T t))) (cnt T t - 1) p).length)) ∧ r.1 = p + (pnum (nI (jRank T t k (cnt T t))) (cnt T t - 1) p ++ r.2.2.2.2 (p + (pnum (nI (jRank T t k (cnt T t))) (cnt T t - 1) p).length)).length
        rw [a3, ← z3]
        exact ⟨mat_app.mpr ⟨z2, by rw [← z3]; exact y2⟩, by rw [List.length_append, ← Nat.add_assoc, ← z3]; exact y3⟩
      · obtain ⟨x, hx, h⟩ := bind_some_eq h
        obtain ⟨k, hk, h⟩ := bind_some_eq h
        obtain ⟨r, hr, h⟩ := bind_some_eq h
        injection h with h
        subst h
        obtain ⟨a1, a2, a3⟩ := altR_k _ _ hk
        have hm : mat src p (pnum (nI (jRank T t k (cnt T t))) (cnt T t - 1) p ++ r.2.2.2.2 (p + (pnum (nI (jRank T t k (cnt T t))) (cnt T t - 1) p).length)) := hm
        rw [a3] at hm
        obtain ⟨m1, m2⟩ := mat_app.mp hm
        have hx' := (can_num x).2 hx m1
        obtain ⟨_, _, z3⟩ := (can_num x).1 hx'
        rw [← z3] at m2
        rw [hx', Option.bind_some, hk, Option.bind_some, (ih _ _ _ _ _ _ _ _ _ (w3 k (by omega)).2 r).2 hr m2]
        rfl
    rw [if_neg k9, if_neg k9]
    by_cases k6 : T 4 t = 6
    · rw [if_pos k6, if_pos k6]
      obtain ⟨w1, w2, w3⟩ := hw.2.2.2.2.2.2.2.2.1 (Or.inl k6)
      cases hpr : prsP T src en t (cnt T t) 0 p with
      | none => exact ⟨fun h => (by cases h), fun h => (by cases h)⟩
      | some y =>
        obtain ⟨_, yl, _⟩ := prs_le _ _ _ _ hpr
        obtain ⟨o1, o2⟩ := prs_opt _ _ _ _ hpr
        have hwf : ∀ j', j' < 0 + y.2.length → wfT T n (chd T (6 * t + j')) := fun j' hj' => (w3 j' (by omega)).2
        rw [Option.bind_some, Option.bind_some]
        refine ⟨fun h => ?_, fun h hm => ?_⟩
        · obtain ⟨x, hx, h⟩ := bind_some_eq h
          injection h with h
          subst h
          obtain ⟨z1, z2, z3, z4⟩ := (canQC ih y.2 0 (i + 1) o y.1 x hwf).1 hx
          rw [z1]
          refine ⟨rfl, ?_⟩
          show mat src p (x.2.2.2.1 ++ x.2.2.2.2.2.2.2 (p + x.2.2.2.1.length)) ∧ x.1 = p + (x.2.2.2.1 ++ x.2.2.2.2.2.2.2 (p + x.2.2.2.1.length)).length
          rw [z2, ← o1]
          exact ⟨mat_app.mpr ⟨o2, by rw [← o1]; exact z3⟩, by rw [List.length_append, ← Nat.add_assoc, ← o1]; exact z4⟩
        · obtain ⟨x, hx, h⟩ := bind_some_eq h
          injection h with h
          subst h
          have hm : mat src p (x.2.2.2.1 ++ x.2.2.2.2.2.2.2 (p + x.2.2.2.1.length)) := hm
          obtain ⟨m1, m2⟩ := mat_app.mp hm
          have hl := (canQC ih y.2 0 (i + 1) o y.1 x hwf).2.2 hx
          have he : x.2.2.2.1 = optM T t y.2 0 := by
            unfold mat at m1 o2
            rw [m1, o2, hl]
          rw [hl, ← o1] at m2
          rw [(canQC ih y.2 0 (i + 1) o y.1 x hwf).2.1 hx he m2]
          rfl
    rw [if_neg k6, if_neg k6]
    by_cases k7 : T 4 t = 7
    · rw [if_pos k7, if_pos k7]
      have hw7 := (hw.2.2.2.2.2.2.1 k7).2
      have n2 : T 4 t ≠ 2 := by rw [k7]; decide
      refine ⟨fun h => ?_, fun h hm => ?_⟩
      · obtain ⟨x, hx, h⟩ := bind_some_eq h
        obtain ⟨r, hr, h⟩ := bind_some_eq h
        injection h with h
        subst h
        obtain ⟨z1, z2, z3⟩ := (can_cnt hw n2 x).1 hx
        obtain ⟨y1, y2, y3⟩ := (canQL hw7 ih _ _ _ _ _ r).1 hr
        rw [z1, Option.bind_some, y1]
        refine ⟨rfl, ?_⟩
        show mat src p (pcount T t (nI x.2) p ++ r.2.2.2.2 (p + (pcount T t (nI x.2) p).length)) ∧ r.1 = p + (pcount T t (nI x.2) p ++ r.2.2.2.2 (p + (pcount T t (nI x.2) p).length)).length
        rw [← z3]
        exact ⟨mat_app.mpr ⟨z2, by rw [← z3]; exact y2⟩, by rw [List.length_append, ← Nat.add_assoc, ← z3]; exact y3⟩
      · obtain ⟨x, hx, h⟩ := bind_some_eq h
        obtain ⟨r, hr, h⟩ := bind_some_eq h
        injection h with h
        subst h
        have hm : mat src p (pcount T t (nI x.2) p ++ r.2.2.2.2 (p + (pcount T t (nI x.2) p).length)) := hm
        obtain ⟨m1, m2⟩ := mat_app.mp hm
        have hx' := (can_cnt hw n2 x).2 hx m1
        obtain ⟨_, _, z3⟩ := (can_cnt hw n2 x).1 hx'
        rw [← z3] at m2
        rw [hx', Option.bind_some, (canQL hw7 ih _ _ _ _ _ r).2 hr m2]
        rfl
    rw [if_neg k7, if_neg k7]
    exact can_pl hs hw q
/-- a byte and its bits -/
theorem byte_bits {src : Nat → Nat} (hs : sOK src) (bs : List Bool) (b : Nat) : pby bs b = src b ↔ ∀ x, x < 8 → sbit src (8 * b + x) = gb bs (8 * b + x) := by
  have hlt := hs b
  have e : ∀ x, x < 8 → sbit src (8 * b + x) = src b / 2 ^ (7 - x) % 2 := by
    intro x hx
    unfold sbit
    rw [show (8 * b + x) / 8 = b by omega, show (8 * b + x) % 8 = x by omega]
  have g := gb_le bs
  have g0 := g (8 * b)
  have g1 := g (8 * b + 1)
  have g2 := g (8 * b + 2)
  have g3 := g (8 * b + 3)
  have g4 := g (8 * b + 4)
  have g5 := g (8 * b + 5)
  have g6 := g (8 * b + 6)
  have g7 := g (8 * b + 7)
  unfold pby pbF
  constructor
  · intro h x hx
    rw [e x hx]
    have hx8 : x = 0 ∨ x = 1 ∨ x = 2 ∨ x = 3 ∨ x = 4 ∨ x = 5 ∨ x = 6 ∨ x = 7 := by omega
    rcases hx8 with rfl | rfl | rfl | rfl | rfl | rfl | rfl | rfl <;> simp <;> omega
  · intro h
    have h0 := h 0 (by omega)
    have h1 := h 1 (by omega)
    have h2 := h 2 (by omega)
    have h3 := h 3 (by omega)
    have h4 := h 4 (by omega)
    have h5 := h 5 (by omega)
    have h6 := h 6 (by omega)
    have h7 := h 7 (by omega)
    rw [e _ (by omega)] at h0 h1 h2 h3 h4 h5 h6 h7
    simp at h0 h1 h2 h3 h4 h5 h6 h7
    omega
theorem mat_gb {src : Nat → Nat} {p : Nat} {l : List Bool} : mat src p l ↔ ∀ k, k < l.length → sbit src (p + k) = gb l k := by
  unfold mat
  constructor
  · intro h k hk
    have : gb l k = gb (sbs src p l.length) k := by rw [← h]
    rw [this]
    unfold gb sbs
    rw [List.getD_eq_getElem?_getD, List.getElem?_map, List.getElem?_range hk]
    show _ = (decide (sbit src (p + k) = 1)).toNat
    rcases bit01 src (p + k) with z | z <;> rw [z] <;> rfl
  · intro h
    apply List.ext_getElem?
    intro k
    by_cases hk : k < l.length
    · unfold sbs
      rw [List.getElem?_map, List.getElem?_range hk, List.getElem?_eq_getElem hk]
      show some l[k] = some (decide (sbit src (p + k) = 1))
      have := h k hk
      unfold gb at this
      rw [List.getD_eq_getElem?_getD, List.getElem?_eq_getElem hk] at this
      have this : sbit src (p + k) = l[k].toNat := this
      rw [this]
      cases l[k] <;> rfl
    · rw [List.getElem?_eq_none (by omega), List.getElem?_eq_none (by rw [sbs_len]; omega)]
theorem pkB_seg {src : Nat → Nat} (hs : sOK src) (bs : List Bool) (L : Nat) : pkB bs = seg src 0 L ↔ ((bs.length + 7) / 8 = L ∧ mat src 0 (bs ++ ppad bs.length)) := by
  have hlen : (bs ++ ppad bs.length).length = 8 * ((bs.length + 7) / 8) := by unfold ppad; rw [List.length_append, List.length_replicate]; omega
  have hgb : ∀ k, gb (bs ++ ppad bs.length) k = gb bs k := by
    intro k
    by_cases c : k < bs.length
    · rw [gb_l c]
    · rw [gb_ge (show bs.length ≤ k by omega)]
      obtain ⟨j, rfl⟩ : ∃ j, k = bs.length + j := ⟨k - bs.length, by omega⟩
      rw [gb_r]
      unfold gb ppad
      rw [List.getD_eq_getElem?_getD, List.getElem?_replicate]
      split <;> rfl
  have hpl : (pkB bs).length = (bs.length + 7) / 8 := by unfold pkB; rw [List.length_map, List.length_range]
  rw [mat_gb, hlen]
  simp only [hgb, Nat.zero_add]
  constructor
  · intro h
    have h1 : (bs.length + 7) / 8 = L := by rw [← hpl, h, seg_len]
    refine ⟨h1, fun k hk => ?_⟩
    have hb : (pkB bs)[k / 8]? = (seg src 0 L)[k / 8]? := by rw [h]
    unfold pkB seg at hb
    rw [List.getElem?_map, List.getElem?_map, List.getElem?_range (by omega), List.getElem?_range (by omega)] at hb
    injection hb with hb
    dsimp only at hb
    rw [Nat.zero_add] at hb
    have := (byte_bits hs bs (k / 8)).mp hb (k % 8) (by omega)
    rw [show 8 * (k / 8) + k % 8 = k by omega] at this
    exact this
  · rintro ⟨h1, h2⟩
    apply List.ext_getElem?
    intro k
    by_cases hk : k < L
    · unfold pkB seg
      rw [List.getElem?_map, List.getElem?_map, List.getElem?_range (by omega), List.getElem?_range hk]
      show some (pby bs k) = some (src (0 + k))
      rw [Nat.zero_add]
      congr 1
      exact (byte_bits hs bs k).mpr (fun x hx => h2 _ (by omega))
    · rw [List.getElem?_eq_none (by omega), List.getElem?_eq_none (by rw [seg_len]; omega)]
/-- whole values -/
theorem can_PA {T : zJ} {src : Nat → Nat} (hs : sOK src) {t L : Nat} (hw : wfT T 6 t) (r : Rs) : rdPA T src t L = some r ↔ ∃ q, rdP T src false 6 t t none (-1) 0 0 0 (8 * L) 0 = some q ∧ q.2 = r ∧ pkB (pkA r.2.2.2) = seg src 0 L := by
  have hc := fun q => canQ_all (T := T) hs 6 t t none (-1) 0 0 0 (8 * L) 0 hw q
  unfold rdPA
  constructor
  · intro h
    obtain ⟨q, hq, h⟩ := bind_some_eq h
    obtain ⟨z1, z2, z3⟩ := (hc q).1 hq
    rw [Nat.zero_add] at z3
    refine ⟨q, z1, ?_⟩
    by_cases c : q.1 = 0
    · rw [if_pos c] at h
      obtain ⟨c2, h⟩ := ite_some h
      injection h with h
      subst h
      refine ⟨rfl, ?_⟩
      have hn : q.2.2.2.2 0 = [] := List.length_eq_zero_iff.mp (by omega)
      unfold pkA
      rw [if_pos hn, c2.1, show seg src 0 1 = [src 0] from rfl, c2.2]
      decide
    · rw [if_neg c] at h
      obtain ⟨p1, hp1, h⟩ := bind_some_eq h
      obtain ⟨c2, h⟩ := ite_some h
      injection h with h
      subst h
      refine ⟨rfl, ?_⟩
      have hn : ¬ q.2.2.2.2 0 = [] := fun z => c (by rw [z3, z]; rfl)
      unfold pkA
      rw [if_neg hn]
      obtain ⟨y1, y2⟩ := alP_t.mp hp1
      refine (pkB_seg hs _ L).mpr ⟨?_, mat_app.mpr ⟨z2, ?_⟩⟩
      · rw [← z3]
        unfold alU at y1
        omega
      · rw [Nat.zero_add, ← z3]; exact y2
  · rintro ⟨q, hq, rfl, hB⟩
    unfold pkA at hB
    by_cases c : q.2.2.2.2 0 = []
    · rw [if_pos c] at hB
      have hm : mat src 0 (q.2.2.2.2 0) := by rw [c]; exact mat_nil _ _
      have hq' := (hc q).2 hq hm
      obtain ⟨_, _, z3⟩ := (hc q).1 hq'
      rw [c] at z3
      have z3 : q.1 = 0 := z3
      have hl : L = 1 := by
        have := congrArg List.length hB
        rw [seg_len] at this
        rw [← this]
        decide
      subst hl
      have h0 : src 0 = 0 := by
        have : pkB (List.replicate 8 false) = [0] := by decide
        rw [this, show seg src 0 1 = [src 0] from rfl] at hB
        injection hB with hB _
        exact hB.symm
      rw [hq', Option.bind_some, if_pos z3, if_pos ⟨rfl, h0⟩]
    · rw [if_neg c] at hB
      obtain ⟨h1, h2⟩ := (pkB_seg hs _ L).mp hB
      obtain ⟨m1, m2⟩ := mat_app.mp h2
      have hq' := (hc q).2 hq m1
      obtain ⟨_, _, z3⟩ := (hc q).1 hq'
      rw [Nat.zero_add] at z3 m2
      have hpos : 0 < (q.2.2.2.2 0).length := List.length_pos_iff.mpr c
      rw [hq', Option.bind_some, if_neg (by omega), alP_t.mpr ⟨rfl, by rw [z3]; exact m2⟩, Option.bind_some, if_pos (by unfold alU; omega)]
