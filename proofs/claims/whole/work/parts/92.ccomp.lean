/-! THE CLASS reads by the open rules: components, items, alternatives -/
theorem bind_some_eq {α β : Type} {x : Option α} {f : α → Option β} {b : β} (h : x.bind f = some b) : ∃ a, x = some a ∧ f a = some b := by
  cases x with
  | none => cases h
  | some a => exact ⟨a, rfl, h⟩
theorem bind_none_eq {α β : Type} {x : Option α} {f : α → Option β} (h : x.bind f = none) : x = none ∨ ∃ a, x = some a ∧ f a = none := by
  cases x with
  | none => exact Or.inl rfl
  | some a => exact Or.inr ⟨a, rfl, h⟩
theorem ite_some {α : Type} {p : Prop} [Decidable p] {x : Option α} {b : α} (h : (if p then x else none) = some b) : p ∧ x = some b := by
  by_cases c : p
  · rw [if_pos c] at h; exact ⟨c, h⟩
  · rw [if_neg c] at h; cases h
/-- what is read has a part -/
theorem rd_ne (T : zJ) (src : Nat → Nat) (s : Bool) : ∀ n t t0 dg par wh i o en p q, rdE T src s n t t0 dg par wh i o en p = some q → 1 ≤ q.2.1.length := by
  intro n
  induction n with
  | zero => intro t t0 dg par wh i o en p q h; cases h
  | succ n ih =>
    intro t t0 dg par wh i o en p q h
    unfold rdE rdB at h
    by_cases k10 : T 4 t = 10
    · rw [if_pos k10] at h
      by_cases x : isX T t = true
      · rw [if_pos x] at h
        obtain ⟨h1, e1, h⟩ := bind_some_eq h
        obtain ⟨r, e2, h⟩ := bind_some_eq h
        obtain ⟨p3, e3, h⟩ := bind_some_eq h
        injection h with h
        subst h
        have := ih _ _ _ _ _ _ _ _ _ _ e2
        exact this
      · rw [if_neg x] at h
        exact ih _ _ _ _ _ _ _ _ _ _ h
    · rw [if_neg k10] at h
      by_cases k9 : T 4 t = 9
      · rw [if_pos k9] at h
        obtain ⟨k, e1, h⟩ := bind_some_eq h
        obtain ⟨c, h⟩ := ite_some h
        obtain ⟨r, e2, h⟩ := bind_some_eq h
        injection h with h
        subst h
        simp
      · rw [if_neg k9] at h
        obtain ⟨h1, e1, h⟩ := bind_some_eq h
        obtain ⟨c, h⟩ := ite_some h
        by_cases k6 : T 4 t = 6
        · rw [if_pos k6] at h
          obtain ⟨r, e2, h⟩ := bind_some_eq h
          obtain ⟨p3, e3, h⟩ := bind_some_eq h
          injection h with h
          subst h
          simp
        · rw [if_neg k6] at h
          by_cases k7 : T 4 t = 7
          · rw [if_pos k7] at h
            obtain ⟨r, e2, h⟩ := bind_some_eq h
            obtain ⟨c, h⟩ := ite_some h
            obtain ⟨p3, e3, h⟩ := bind_some_eq h
            injection h with h
            subst h
            simp
          · rw [if_neg k7] at h
            unfold rdPl at h
            (repeat' split at h) <;> (first | (cases h; done) | (injection h with h; subst h; simp))
theorem bas_wf {T : zJ} : ∀ n m t, wfT T n t → n ≤ m → bas T m t = bas T n t ∧ T 4 (bas T n t) ≠ 10 := by
  intro n
  induction n with
  | zero => intro m t h; exact h.elim
  | succ n ih =>
    intro m t h hm
    obtain ⟨m, rfl⟩ : ∃ k, m = k + 1 := ⟨m - 1, by omega⟩
    unfold bas
    by_cases k10 : T 4 t = 10
    · rw [if_pos k10, if_pos k10]
      exact ih m _ (h.2.2.2.2.2.2.2.1 k10).2.2.2.2 (by omega)
    · rw [if_neg k10, if_neg k10]
      exact ⟨rfl, k10⟩
theorem bas_tag {T : zJ} {n t : Nat} (h : wfT T (n + 1) t) (hn : n + 1 ≤ 6) (hk : T 4 t = 10) : bas T 6 t = bas T 6 (chd T (6 * t)) := by
  have hu := (h.2.2.2.2.2.2.2.1 hk).2.2.2.2
  have e : bas T 6 t = bas T 5 (chd T (6 * t)) := by
    show (if T 4 t = 10 then bas T 5 (chd T (6 * t)) else t) = _
    rw [if_pos hk]
  rw [e, (bas_wf n 5 _ hu (by omega)).1, (bas_wf n 6 _ hu (by omega)).1]
theorem bas_self {T : zJ} {t m : Nat} (hk : T 4 t ≠ 10) : bas T m t = t := by
  cases m with
  | zero => rfl
  | succ m => unfold bas; rw [if_neg hk]
theorem rep_sh {M : zM} {T : zJ} {n a t : Nat} (hr : rep M T n a t) : zsh M a = some (.inl 6) ∧ zi M a 0 = T 4 t ∧ zi M a 6 = cTag (T 9 t) := by
  cases n with
  | zero => exact hr.elim
  | succ n => unfold rep at hr; exact ⟨hr.1, hr.2.1, hr.2.2.2.2.1⟩
theorem c_untag {M : zM} {T : zJ} : ∀ n a t k N F, wfT T n t → rep M T n a t → k + n ≤ 6 → n ≤ F → ∃ b, qfix (FT_untagged_4 N M) F (some a, nI k) = some (some b) ∧ zsh M b = some (.inl 6) ∧ zi M b 0 = T 4 (bas T n t) := by
  intro n
  induction n with
  | zero => intro a t k N F h; exact h.elim
  | succ n ih =>
    intro a t k N F hw hr hk hF
    obtain ⟨F, rfl⟩ : ∃ g, F = g + 1 := ⟨F - 1, by omega⟩
    obtain ⟨e1, e2, _⟩ := rep_sh hr
    show ∃ b, FT_untagged_4 N M (qfix (FT_untagged_4 N M) F) (some a, nI k) = _ ∧ _
    simp only [FT_untagged_4]
    rw [if_neg (by rw [show (6 : Int32) = nI 6 from rfl, nI_leI (by omega) (by omega)]; omega), qo_s rfl e1, e2]
    unfold bas
    by_cases k10 : T 4 t = 10
    · rw [if_pos k10, if_pos k10, qo_s rfl e1]
      obtain ⟨q1, q2, b, q3, q4⟩ := hr.2.2.2.2.2.2.1 k10
      rw [q3, if_neg (by simp), qo_s rfl e1, nI_p1, q3]
      exact ih b _ (k + 1) N F (hw.2.2.2.2.2.2.2.1 k10).2.2.2.2 q4 (by omega) (by omega)
    · rw [if_neg k10, if_neg k10]
      exact ⟨a, rfl, e1, e2⟩
theorem c_untag' {M : zM} {T : zJ} {n a t : Nat} (hw : wfT T n t) (hr : rep M T n a t) (hn : n ≤ 6) : Ev (fun N => ∃ b, FT_untagged N M a = some (some b) ∧ zsh M b = some (.inl 6) ∧ zi M b 0 = T 4 (bas T 6 t)) := by
  refine ⟨n, fun N hN => ?_⟩
  obtain ⟨b, h1, h2, h3⟩ := c_untag n a t 0 N N hw hr (by omega) hN
  exact ⟨b, h1, h2, by rw [h3, (bas_wf n 6 t hw hn).1]⟩
theorem c_ktags {M : zM} {T : zJ} {n a b t : Nat} (hr : rep M T n a t) (hb : zr M b 0 = some a) (N : Nat) : FK_tags N M b = some (cTag (T 9 t)) := by
  obtain ⟨e1, e2, e3⟩ := rep_sh hr
  unfold FK_tags
  rw [hb, if_neg (by simp), qo_s rfl e1, e3]
def cGh (D D' : zJ) (h i o : Nat) : Prop := cK D D' ∧ (∀ c k, 17 ≤ c → c ≤ 22 → k < i → ¬ ((c = 18 ∨ c = 22) ∧ k = h) → D' c k = D c k) ∧ (∀ k, k < o → D' 23 k = D 23 k)
theorem cGh_of {D D' : zJ} {h i o : Nat} (hg : cG D D' i o) : cGh D D' h i o := ⟨hg.1, fun c k c1 c2 hk _ => hg.2.1 c k c1 c2 hk, hg.2.2⟩
theorem cGh_trans {D D1 D2 : zJ} {h i o i' o' : Nat} (h1 : cGh D D1 h i o) (h2 : cGh D1 D2 h i' o') (hi : i ≤ i') (ho : o ≤ o') : cGh D D2 h i o :=
  ⟨cK_trans h1.1 h2.1, fun c k c1 c2 hk hn => (h2.2.1 c k c1 c2 (by omega) hn).trans (h1.2.1 c k c1 c2 hk hn), fun k hk => (h2.2.2 k (by omega)).trans (h1.2.2 k hk)⟩
theorem cGh_zu {D : zJ} {k h i o c : Nat} {x : Int32} (hc : ((c = 18 ∨ c = 22) ∧ k = h) ∨ (c = 16) ∨ (17 ≤ c ∧ c ≤ 22 ∧ i ≤ k)) : cGh D (zu D c k x) h i o := by
  refine ⟨cK_zu (by omega), fun c' k' c1 c2 hk hn => ?_, fun k' hk => ?_⟩
  · rw [zu_at, if_neg (by omega)]
  · rw [zu_at, if_neg (by omega)]
theorem cH_apph {T D D' : zJ} {h i o : Nat} {l1 l2 : List Pt} (hh : h < i) (h1 : cH T D i l1) (hg : cGh D D' h (i + l1.length) o) (h2 : cH T D' (i + l1.length) l2) : cH T D' i (l1 ++ l2) := by
  intro k P hk
  by_cases c : k < l1.length
  · rw [List.getElem?_append_left c] at hk
    obtain ⟨a1, a2, a3, a4, a5, a6⟩ := h1 k P hk
    refine ⟨?_, ?_, ?_, ?_, ?_, ?_⟩
    · rw [hg.2.1 17 _ (by omega) (by omega) (by omega) (by omega)]; exact a1
    · rw [hg.2.1 18 _ (by omega) (by omega) (by omega) (by omega)]; exact a2
    · rw [hg.2.1 19 _ (by omega) (by omega) (by omega) (by omega)]; exact a3
    · rw [hg.2.1 20 _ (by omega) (by omega) (by omega) (by omega)]; exact a4
    · rw [hg.2.1 21 _ (by omega) (by omega) (by omega) (by omega)]; exact a5
    · rw [hg.2.1 22 _ (by omega) (by omega) (by omega) (by omega)]; exact a6
  · rw [List.getElem?_append_right (by omega)] at hk
    have := h2 (k - l1.length) P hk
    rw [show i + l1.length + (k - l1.length) = i + k by omega] at this
    exact this
theorem cO_apph {D D' : zJ} {h i o : Nat} {l1 l2 : List Nat} (h1 : cO D o l1) (hg : cGh D D' h i (o + l1.length)) (h2 : cO D' (o + l1.length) l2) : cO D' o (l1 ++ l2) := by
  intro k b hk
  by_cases c : k < l1.length
  · rw [List.getElem?_append_left c] at hk
    rw [hg.2.2 _ (by omega)]
    exact h1 k b hk
  · rw [List.getElem?_append_right (by omega)] at hk
    have := h2 (k - l1.length) b hk
    rw [show o + l1.length + (k - l1.length) = o + k by omega] at this
    exact this
theorem cS_zu {D : zJ} {src : Nat → Nat} {st L : Nat} {s : Bool} {i o p c k : Nat} {x : Int32} (h : cS D src st L s i o p) (hc : 17 ≤ c ∧ c ≤ 22) : cS (zu D c k x) src st L s i o p := by
  obtain ⟨a1, a2, a3, a4, a5, a6, a7, a8, a9⟩ := h
  refine ⟨?_, ?_, ?_, ?_, fun k' hk => ?_, a6, a7, a8, a9⟩
  · rw [zu_at, if_neg (by omega)]; exact a1
  · rw [zu_at, if_neg (by omega)]; exact a2
  · rw [zu_at, if_neg (by omega)]; exact a3
  · rw [zu_at, if_neg (by omega)]; exact a4
  · rw [zu_at, if_neg (by omega)]; exact a5 k' hk
theorem nI_and31 {j : Nat} (h : j < 32) : nI j &&& 31 = nI j := by
  rw [show (31 : Int32) = nI 31 from rfl, nI_and (by omega) (by omega), show (31 : Nat) = 2 ^ 5 - 1 from rfl, Nat.and_two_pow_sub_one_eq_mod, Nat.mod_eq_of_lt h]
theorem sh_add {a j : Nat} (ha : a < 2 ^ j) (hj : j < 6) : nI a ||| ((1 : Int32) <<< (nI j &&& 31)) = nI (a + 2 ^ j) := by
  have h1 : 2 ^ j ≤ 2 ^ 5 := Nat.pow_le_pow_right (by omega) (by omega)
  rw [nI_and31 (by omega), show (1 : Int32) = nI 1 from rfl, nI_shl (by omega), nI_or (by omega) (by omega), Nat.or_comm, n_or ha, Nat.one_mul, Nat.add_comm]
/-- of components that are read the parent's number goes up, and its bits -/
def cC (T : zJ) (src : Nat → Nat) (st L : Nat) (s : Bool) (D : zJ) (h i o p num sh : Nat) (res : Option (Nat × Nat × Nat × List Bool × Rs)) (out : Nat → Option (Bool × zJ) → Prop) : Prop :=
  (res = none → ∃ D', Ev (fun N => out N (some (false, D'))) ∧ cK D D') ∧ (∀ q, res = some q → ∃ D', Ev (fun N => out N (some (true, D'))) ∧ cGh D D' h i o ∧ cS D' src st L s (i + q.2.2.2.2.1.length) (o + q.2.2.2.2.2.1.length) q.1 ∧ p ≤ q.1 ∧ cH T D' i q.2.2.2.2.1 ∧ cO D' o q.2.2.2.2.2.1 ∧ D' 18 h = nI (num + q.2.1) ∧ D' 22 h = nI (sh + q.2.2.1))
theorem cTag_ntb {src : Nat → Nat} (hs : sOK src) (y : Int32) (en p : Nat) : cTag y &&& cTag (ntb src en p) = 0 ↔ y &&& ntb src en p = 0 := by
  unfold ntb
  by_cases c : p < en
  · rw [if_pos c]; exact cTag_and (hs p)
  · rw [if_neg c, show cTag 0 = 0 from by decide, Int32.and_zero, Int32.and_zero]
theorem c_take {M : zM} {D : zJ} {src : Nat → Nat} {st L : Nat} {s : Bool} {b i i' o p h j num sh : Nat} {fl gv : Int32} (hc : cS D src st L s i' o p) (hi : i < i') (hh : h < i) (hb : zsh M b = some (.inl 1)) (b1 : zi M b 1 = nI j) (b2 : zi M b 2 = fl) (b3 : fl = 2 → zi M b 3 = gv) (n1 : D 18 h = nI num) (n2 : D 22 h = nI sh) (hj : j < 6) (hsh : sh < 2 ^ j) (N : Nat) :
    FV_takeComponent N M 16 (some b) (nI h) (nI i) (bI s) D = if fl = 2 ∧ D 18 i = gv then some (!s, zu D 18 h (nI (num + 1))) else some (true, zu (zu D 18 h (nI (num + 1))) 22 h (nI (sh + 2 ^ j))) := by
  obtain ⟨a1, a2, a3, a4, a5, a6, a7, a8, a9⟩ := hc
  have ht : FV_takeComponent_50 N M 16 (some b) (nI h) (zu D 18 h (nI (num + 1))) = some (true, zu (zu D 18 h (nI (num + 1))) 22 h (nI (sh + 2 ^ j))) := by
    unfold FV_takeComponent_50
    rw [qk_t (qi_nI (by omega) (by omega)), qo_s rfl hb, qk_t (qi_nI (by omega) (by omega)), nI_clamp (by omega), b1, zu_at, if_neg (by omega), n2, sh_add hsh hj]
  unfold FV_takeComponent
  rw [qk_t (qi_nI (by omega) (by omega)), qk_t (qi_nI (by omega) (by omega)), nI_clamp (by omega), n1, nI_p1, qo_s rfl hb, b2]
  by_cases c1 : fl = 2
  · have e16 : zu D (16 + 2) h (nI (num + 1)) 16 0 = nI i' := by rw [zu_at, if_neg (by omega), a3]
    have e18 : zu D (16 + 2) h (nI (num + 1)) (16 + 2) i = D 18 i := by rw [zu_at, if_neg (by omega)]
    rw [if_pos c1, e16, if_neg (by rw [nI_leI (by omega) (by omega)]; omega), qk_t (qi_nI (by omega) (by omega)), qo_s rfl hb, nI_clamp (by omega), e18, b3 c1]
    by_cases c2 : D 18 i = gv
    · rw [if_pos c2, if_pos (show fl = 2 ∧ D 18 i = gv from ⟨c1, c2⟩)]
      cases s <;> rfl
    · rw [if_neg c2, if_neg (show ¬ (fl = 2 ∧ D 18 i = gv) from fun q => c2 q.2)]
      exact ht
  · rw [if_neg c1, if_neg (show ¬ (fl = 2 ∧ D 18 i = gv) from fun q => c1 q.1)]
    exact ht
theorem c_leave {M : zM} {T D : zJ} {src : Nat → Nat} {st L : Nat} {s : Bool} {n a b u i o p h j num sh : Nat} {gv : Int32} (hw : wfT T n u) (hr : rep M T n a u) (hn : n ≤ 6) (hc : cS D src st L s i o p) (hh : h < i) (hb : zsh M b = some (.inl 1)) (b0 : zr M b 0 = some a) (b1 : zi M b 1 = nI j) (b2 : zi M b 2 = 2) (b3 : zi M b 3 = gv) (n1 : D 18 h = nI num) (n2 : D 22 h = nI sh) :
    (i < 100 → ∃ D1, Ev (fun N => FV_leaveOutComponent N M 16 (some b) (nI h) D = some (true, D1)) ∧ cGh D D1 h i o ∧ cS D1 src st L s (i + 1) o p ∧ cH T D1 i [mkP u (bas T 6 u) gv j (nI h) o 0 1] ∧ D1 18 h = nI (num + 1) ∧ D1 22 h = nI sh) ∧
    (¬ i < 100 → Ev (fun N => FV_leaveOutComponent N M 16 (some b) (nI h) D = some (false, D))) := by
  have hu := c_untag' hw hr hn
  obtain ⟨e1, e2, _⟩ := rep_sh hr
  have i100 := hc.2.2.2.2.2.1
  constructor
  · intro hi
    obtain ⟨D1, d1, d2, d3, d4, d5, d6, d7, d8, d9⟩ := c_add hc hi (T 4 (bas T 6 u)) (nI h) j
    refine ⟨zu (zu D1 18 i gv) 18 h (nI (num + 1)), ev_mono hu (fun N hN => ?_), ?_, cS_zu (cS_zu d3 (by omega)) (by omega), cH_one ?_ ?_ ?_ ?_ ?_ ?_, zu_self _ _ _ _, ?_⟩
    · obtain ⟨b', u1, u2, u3⟩ := hN
      unfold FV_leaveOutComponent
      rw [qo_s rfl hb, b2, if_pos rfl, qo_s rfl hb, b0, if_neg (by simp), qo_s rfl hb, b0, qo_s rfl e1, u1, qc_some, qo_s rfl u2, qo_s rfl hb, u3, b1, d1, qb_some, if_neg (nI_n1 (by omega)), qo_s rfl hb, qk_t (qi_nI (by omega) (by omega)), nI_clamp (by omega), b3, qk_t (qi_nI (by omega) (by omega)), qk_t (qi_nI (by omega) (by omega)), nI_clamp (by omega)]
      simp only
      rw [zu_at, if_neg (by omega), d2.2.1 18 h (by omega) (by omega) hh, n1, nI_p1]
    · exact cGh_trans (cGh_trans (cGh_of d2) (cGh_zu (i := i) (o := o) (by omega)) (Nat.le_refl _) (Nat.le_refl _)) (cGh_zu (i := i) (o := o) (by omega)) (Nat.le_refl _) (Nat.le_refl _)
    · rw [zu_at, if_neg (by omega), zu_at, if_neg (by omega)]; exact d4
    · rw [zu_at, if_neg (by omega), zu_self]
    · rw [zu_at, if_neg (by omega), zu_at, if_neg (by omega)]; exact d6
    · rw [zu_at, if_neg (by omega), zu_at, if_neg (by omega)]; exact d7
    · rw [zu_at, if_neg (by omega), zu_at, if_neg (by omega)]; exact d8
    · rw [zu_at, if_neg (by omega), zu_at, if_neg (by omega)]; exact d9
    · rw [zu_at, if_neg (by omega), zu_at, if_neg (by omega), d2.2.1 22 h (by omega) (by omega) hh, n2]
  · intro hi
    refine ev_mono hu (fun N hN => ?_)
    obtain ⟨b', u1, u2, u3⟩ := hN
    unfold FV_leaveOutComponent
    rw [qo_s rfl hb, b2, if_pos rfl, qo_s rfl hb, b0, if_neg (by simp), qo_s rfl hb, b0, qo_s rfl e1, u1, qc_some, qo_s rfl u2, qo_s rfl hb, u3, b1, c_add0 hc hi, qb_some, if_pos rfl]
theorem c_comps {M : zM} {T : zJ} {src : Nat → Nat} {st L : Nat} {s : Bool} {n t f h lim ins : Nat} (hs : sOK src) (hk : T 4 t = 6) (hn : n ≤ 6) (hlim : lim ≤ L)
    (hrec : ∀ a u par wh i o en p D, wfT T n u → rep M T n a u → cS D src st L s i o p → en ≤ L → cR T src st L s D i o p (rdE T src s n u u none par wh i o en p) (fun N => RO_readElement N M f (some a, -1, par, nI wh, nI (st + en), nI (ins + 1), D))) :
    ∀ m j c i o p num sh D, rChain M T (rep M T n) t m j c → (∀ j', j' < j + m → wfT T n (chd T (6 * t + j')) ∧ (T 14 (6 * t + j') = 0 ∨ T 14 (6 * t + j') = 1 ∨ T 14 (6 * t + j') = 2)) → j + m ≤ 6 → cS D src st L s i o p → h < i → D 18 h = nI num → D 22 h = nI sh → sh < 2 ^ j →
      cC T src st L s D h i o p num sh (rdC T src s (rdE T src s n) t (nI h) lim m j i o p) (fun N r => ∀ F, m + 1 ≤ F → qfix (FO_readComponents_6 N M (RO_readElement N M f) (nI h) (nI (st + lim)) (nI ins)) F (c, D) = r) := by
  intro m
  induction m with
  | zero =>
    intro j c i o p num sh D hch hwf hj hc hh n1 n2 hsh
    have : c = none := hch
    subst this
    unfold rdC
    refine ⟨fun hq => by simp at hq, fun q hq => ?_⟩
    injection hq with hq
    subst hq
    refine ⟨D, ev_of (fun N F hF => ?_), cGh_of (cG_refl D i o), hc, Nat.le_refl _, cH_nil _ _ _, cO_nil _ _, n1, n2⟩
    obtain ⟨F, rfl⟩ : ∃ g, F = g + 1 := ⟨F - 1, by omega⟩
    rfl
  | succ m ih =>
    intro j c i o p num sh D hch hwf hj hc hh n1 n2 hsh
    obtain ⟨b, a, rfl, hb, b0, hr, b1, b2, b3, _, hch'⟩ := hch
    have b2 := b2 hk
    have b3 := b3 hk
    obtain ⟨hw, hfl⟩ := hwf j (by omega)
    have hwf' : ∀ j', j' < j + 1 + m → wfT T n (chd T (6 * t + j')) ∧ (T 14 (6 * t + j') = 0 ∨ T 14 (6 * t + j') = 1 ∨ T 14 (6 * t + j') = 2) := fun j' hj' => hwf j' (by omega)
    have hpw : 2 ^ (j + 1) = 2 ^ j + 2 ^ j := by rw [Nat.pow_succ]; omega
    have hstep : ∀ N F, qfix (FO_readComponents_6 N M (RO_readElement N M f) (nI h) (nI (st + lim)) (nI ins)) (F + 1) (some b, D) = if T 9 (chd T (6 * t + j)) &&& ntb src lim p = 0 then qb (FV_leaveOutComponent N M 16 (some b) (nI h) D) (fun v14 J15 => if (bI v14) = 0 then some (false, J15) else qfix (FO_readComponents_6 N M (RO_readElement N M f) (nI h) (nI (st + lim)) (nI ins)) F (zr M b 5, J15)) else qb (RO_readElement N M f (some a, -1, nI h, nI j, nI (st + lim), nI (ins + 1), D)) (fun v8 J9 => if (bI v8) = 0 then some (false, J9) else qb (FV_takeComponent N M 16 (some b) (nI h) (nI i) (J9 24 2) J9) (fun v10 J11 => if (bI v10) = 0 then some (false, J11) else qfix (FO_readComponents_6 N M (RO_readElement N M f) (nI h) (nI (st + lim)) (nI ins)) F (zr M b 5, J11))) := by
      intro N F
      show FO_readComponents_6 N M (RO_readElement N M f) (nI h) (nI (st + lim)) (nI ins) (qfix (FO_readComponents_6 N M (RO_readElement N M f) (nI h) (nI (st + lim)) (nI ins)) F) (some b, D) = _
      simp only [FO_readComponents_6, qo_s rfl hb, c_ktags hr b0, qc_some, c_ntb hs hc hlim, qb_some, cTag_ntb hs, b0, b1, nI_p1, hc.2.2.1]
      rw [if_neg (by simp)]
    unfold rdC
    by_cases c0 : T 9 (chd T (6 * t + j)) &&& ntb src lim p = 0
    · simp only [if_pos c0] at hstep ⊢
      by_cases f1 : T 14 (6 * t + j) = 1
      · simp only [if_pos f1]
        have hl : ∀ N, FV_leaveOutComponent N M 16 (some b) (nI h) D = some (true, D) := by
          intro N
          unfold FV_leaveOutComponent FV_leaveOutComponent_15
          rw [qo_s rfl hb, b2, f1, if_neg (by decide), qo_s rfl hb, b2, f1, if_pos rfl]
        obtain ⟨i1, i2⟩ := ih (j + 1) _ i o p num sh D hch' hwf' (by omega) hc hh n1 n2 (by omega)
        refine ⟨fun hq => ?_, fun q hq => ?_⟩
        · rcases bind_none_eq hq with hq | ⟨x, _, hq⟩
          · obtain ⟨D', g1, g2⟩ := i1 hq
            refine ⟨D', ev_mono g1 (fun N hN F hF => ?_), g2⟩
            obtain ⟨F, rfl⟩ : ∃ g, F = g + 1 := ⟨F - 1, by omega⟩
            rw [hstep, hl, qb_some, bI_t, if_neg (by decide), hN F (by omega)]
          · cases hq
        · obtain ⟨x, hx, hq⟩ := bind_some_eq hq
          injection hq with hq
          subst hq
          obtain ⟨D', g1, g2⟩ := i2 x hx
          refine ⟨D', ev_mono g1 (fun N hN F hF => ?_), g2⟩
          obtain ⟨F, rfl⟩ : ∃ g, F = g + 1 := ⟨F - 1, by omega⟩
          rw [hstep, hl, qb_some, bI_t, if_neg (by decide), hN F (by omega)]
      · simp only [if_neg f1]
        by_cases f2 : T 14 (6 * t + j) = 2
        · obtain ⟨l1, l2⟩ := c_leave hw hr hn hc hh hb b0 b1 (by rw [b2, f2]) (b3 f2) n1 n2
          by_cases i100 : i < 100
          · rw [if_pos ⟨f2, i100⟩]
            obtain ⟨D1, d1, d2, d3, d4, d5, d6⟩ := l1 i100
            obtain ⟨i1, i2⟩ := ih (j + 1) _ (i + 1) o p (num + 1) sh D1 hch' hwf' (by omega) d3 (by omega) d5 d6 (by omega)
            refine ⟨fun hq => ?_, fun q hq => ?_⟩
            · rcases bind_none_eq hq with hq | ⟨x, _, hq⟩
              · obtain ⟨D', g1, g2⟩ := i1 hq
                refine ⟨D', ev_mono (ev_and d1 g1) (fun N hN F hF => ?_), cK_trans d2.1 g2⟩
                obtain ⟨F, rfl⟩ : ∃ g, F = g + 1 := ⟨F - 1, by omega⟩
                rw [hstep, hN.1, qb_some, bI_t, if_neg (by decide), hN.2 F (by omega)]
              · cases hq
            · obtain ⟨x, hx, hq⟩ := bind_some_eq hq
              injection hq with hq
              subst hq
              obtain ⟨D', g1, g2, g3, g4, g5, g6, g7, g8⟩ := i2 x hx
              refine ⟨D', ev_mono (ev_and d1 g1) (fun N hN F hF => ?_), cGh_trans d2 g2 (by omega) (Nat.le_refl _), ?_, g4, cH_apph (l1 := [_]) hh d4 g2 g5, g6, ?_, g8⟩
              · obtain ⟨F, rfl⟩ : ∃ g, F = g + 1 := ⟨F - 1, by omega⟩
                rw [hstep, hN.1, qb_some, bI_t, if_neg (by decide), hN.2 F (by omega)]
              · show cS D' src st L s (i + ([_] ++ x.2.2.2.2.1).length) (o + ([] ++ x.2.2.2.2.2.1).length) x.1
                rw [List.length_append, List.nil_append, ← Nat.add_assoc]
                exact g3
              · rw [g7]
                show nI (num + 1 + x.2.1) = nI (num + (x.2.1 + 1))
                congr 1
                omega
          · rw [if_neg (by rintro ⟨_, q⟩; exact i100 q)]
            refine ⟨fun _ => ⟨D, ev_mono (l2 i100) (fun N hN F hF => ?_), cK_refl D⟩, fun q hq => by cases hq⟩
            obtain ⟨F, rfl⟩ : ∃ g, F = g + 1 := ⟨F - 1, by omega⟩
            rw [hstep, hN, qb_some]
            rfl
        · rw [if_neg (by rintro ⟨q, _⟩; exact f2 q)]
          refine ⟨fun _ => ⟨D, ev_of (fun N F hF => ?_), cK_refl D⟩, fun q hq => by cases hq⟩
          obtain ⟨F, rfl⟩ : ∃ g, F = g + 1 := ⟨F - 1, by omega⟩
          rw [hstep]
          unfold FV_leaveOutComponent FV_leaveOutComponent_15
          rw [qo_s rfl hb, b2, if_neg f2, qo_s rfl hb, b2, if_neg f1, qb_some]
          rfl
    · simp only [if_neg c0] at hstep ⊢
      obtain ⟨r1, r2⟩ := hrec a (chd T (6 * t + j)) (nI h) j i o lim p D hw hr hc hlim
      cases hrd : rdE T src s n (chd T (6 * t + j)) (chd T (6 * t + j)) none (nI h) j i o lim p with
      | none =>
        obtain ⟨D', g1, g2⟩ := r1 hrd
        dsimp only at g1
        refine ⟨fun _ => ⟨D', ev_mono g1 (fun N hN F hF => ?_), g2⟩, fun q hq => by cases hq⟩
        obtain ⟨F, rfl⟩ : ∃ g, F = g + 1 := ⟨F - 1, by omega⟩
        rw [hstep, hN, qb_some]
        rfl
      | some r =>
        obtain ⟨D1, g1, g2, g3, g4, g5, g6⟩ := r2 r hrd
        dsimp only at g1
        have hne := rd_ne T src s n _ _ _ _ _ _ _ _ _ _ hrd
        have hd : D1 18 i = hdV r.2.1 := by
          cases hl : r.2.1 with
          | nil => rw [hl] at hne; simp at hne
          | cons P l =>
            have := (g5 0 P (by rw [hl]; rfl)).2.1
            exact this
        have t1 := c_take (N := 0) (b3 := fun q => b3 q) g3 (show i < i + r.2.1.length by omega) hh hb b1 b2 (by rw [g2.2.1 18 h (by omega) (by omega) hh]; exact n1) (by rw [g2.2.1 22 h (by omega) (by omega) hh]; exact n2) (by omega) hsh
        have t1 : ∀ N, FV_takeComponent N M 16 (some b) (nI h) (nI i) (bI s) D1 = _ := fun N => c_take (N := N) (b3 := fun q => b3 q) g3 (show i < i + r.2.1.length by omega) hh hb b1 b2 (by rw [g2.2.1 18 h (by omega) (by omega) hh]; exact n1) (by rw [g2.2.1 22 h (by omega) (by omega) hh]; exact n2) (by omega) hsh
        simp only [Option.bind_some]
        by_cases lf : T 14 (6 * t + j) = 2 ∧ hdV r.2.1 = T 15 (6 * t + j)
        · rw [if_pos lf]
          simp only [hd, if_pos lf] at t1
          cases s with
          | true =>
            rw [if_pos rfl]
            refine ⟨fun _ => ⟨zu D1 18 h (nI (num + 1)), ev_mono g1 (fun N hN F hF => ?_), cK_trans g2.1 (cK_zu (by omega))⟩, fun q hq => by cases hq⟩
            obtain ⟨F, rfl⟩ : ∃ g, F = g + 1 := ⟨F - 1, by omega⟩
            rw [hstep, hN, qb_some, bI_t, if_neg (by decide), g3.1, t1, qb_some]
            rfl
          | false =>
            rw [if_neg (by simp)]
            have d2 : cGh D (zu D1 18 h (nI (num + 1))) h i o := cGh_trans (cGh_of g2) (cGh_zu (i := i) (o := o) (by omega)) (Nat.le_refl _) (Nat.le_refl _)
            obtain ⟨i1, i2⟩ := ih (j + 1) _ (i + r.2.1.length) (o + r.2.2.1.length) r.1 (num + 1) sh (zu D1 18 h (nI (num + 1))) hch' hwf' (by omega) (cS_zu g3 (by omega)) (by omega) (zu_self _ _ _ _) (by rw [zu_at, if_neg (by omega), g2.2.1 22 h (by omega) (by omega) hh]; exact n2) (by omega)
            have hrun : ∀ D' bb, Ev (fun N => ∀ F, m + 1 ≤ F → qfix (FO_readComponents_6 N M (RO_readElement N M f) (nI h) (nI (st + lim)) (nI ins)) F (zr M b 5, zu D1 18 h (nI (num + 1))) = some (bb, D')) → Ev (fun N => ∀ F, m + 1 + 1 ≤ F → qfix (FO_readComponents_6 N M (RO_readElement N M f) (nI h) (nI (st + lim)) (nI ins)) F (some b, D) = some (bb, D')) := by
              intro D' bb k1
              refine ev_mono (ev_and g1 k1) (fun N hN F hF => ?_)
              obtain ⟨F, rfl⟩ : ∃ g, F = g + 1 := ⟨F - 1, by omega⟩
              rw [hstep, hN.1, qb_some, bI_t, if_neg (by decide), g3.1, t1, qb_some, Bool.not_false, bI_t, if_neg (by decide), hN.2 F (by omega)]
            refine ⟨fun hq => ?_, fun q hq => ?_⟩
            · rcases bind_none_eq hq with hq | ⟨x, _, hq⟩
              · obtain ⟨D', k1, k2⟩ := i1 hq
                exact ⟨D', hrun D' false k1, cK_trans d2.1 k2⟩
              · cases hq
            · obtain ⟨x, hx, hq⟩ := bind_some_eq hq
              injection hq with hq
              subst hq
              obtain ⟨D', k1, k2, k3, k4, k5, k6, k7, k8⟩ := i2 x hx
              have k2' : cGh D1 D' h (i + r.2.1.length) (o + r.2.2.1.length) := cGh_trans (cGh_zu (by omega)) k2 (Nat.le_refl _) (Nat.le_refl _)
              refine ⟨D', hrun D' true k1, cGh_trans d2 k2 (by omega) (by omega), ?_, Nat.le_trans g4 k4, cH_apph hh g5 k2' k5, cO_apph g6 k2' k6, ?_, k8⟩
              · show cS D' src st L false (i + (r.2.1 ++ x.2.2.2.2.1).length) (o + (r.2.2.1 ++ x.2.2.2.2.2.1).length) x.1
                rw [List.length_append, List.length_append, ← Nat.add_assoc, ← Nat.add_assoc]
                exact k3
              · rw [k7]
                show nI (num + 1 + x.2.1) = nI (num + (x.2.1 + 1))
                congr 1
                omega
        · rw [if_neg lf]
          simp only [hd, if_neg lf] at t1
          have d2 : cGh D (zu (zu D1 18 h (nI (num + 1))) 22 h (nI (sh + 2 ^ j))) h i o := cGh_trans (cGh_trans (cGh_of g2) (cGh_zu (i := i) (o := o) (by omega)) (Nat.le_refl _) (Nat.le_refl _)) (cGh_zu (i := i) (o := o) (by omega)) (Nat.le_refl _) (Nat.le_refl _)
          obtain ⟨i1, i2⟩ := ih (j + 1) _ (i + r.2.1.length) (o + r.2.2.1.length) r.1 (num + 1) (sh + 2 ^ j) (zu (zu D1 18 h (nI (num + 1))) 22 h (nI (sh + 2 ^ j))) hch' hwf' (by omega) (cS_zu (cS_zu g3 (by omega)) (by omega)) (by omega) (by rw [zu_at, if_neg (by omega), zu_self]) (zu_self _ _ _ _) (by omega)
          have hrun : ∀ D' bb, Ev (fun N => ∀ F, m + 1 ≤ F → qfix (FO_readComponents_6 N M (RO_readElement N M f) (nI h) (nI (st + lim)) (nI ins)) F (zr M b 5, zu (zu D1 18 h (nI (num + 1))) 22 h (nI (sh + 2 ^ j))) = some (bb, D')) → Ev (fun N => ∀ F, m + 1 + 1 ≤ F → qfix (FO_readComponents_6 N M (RO_readElement N M f) (nI h) (nI (st + lim)) (nI ins)) F (some b, D) = some (bb, D')) := by
            intro D' bb k1
            refine ev_mono (ev_and g1 k1) (fun N hN F hF => ?_)
            obtain ⟨F, rfl⟩ : ∃ g, F = g + 1 := ⟨F - 1, by omega⟩
            rw [hstep, hN.1, qb_some, bI_t, if_neg (by decide), g3.1, t1, qb_some, bI_t, if_neg (by decide), hN.2 F (by omega)]
          refine ⟨fun hq => ?_, fun q hq => ?_⟩
          · rcases bind_none_eq hq with hq | ⟨x, _, hq⟩
            · obtain ⟨D', k1, k2⟩ := i1 hq
              exact ⟨D', hrun D' false k1, cK_trans d2.1 k2⟩
            · cases hq
          · obtain ⟨x, hx, hq⟩ := bind_some_eq hq
            injection hq with hq
            subst hq
            obtain ⟨D', k1, k2, k3, k4, k5, k6, k7, k8⟩ := i2 x hx
            have k2' : cGh D1 D' h (i + r.2.1.length) (o + r.2.2.1.length) := cGh_trans (cGh_trans (cGh_zu (h := h) (i := i + r.2.1.length) (o := o + r.2.2.1.length) (by omega)) (cGh_zu (by omega)) (Nat.le_refl _) (Nat.le_refl _)) k2 (Nat.le_refl _) (Nat.le_refl _)
            refine ⟨D', hrun D' true k1, cGh_trans d2 k2 (by omega) (by omega), ?_, Nat.le_trans g4 k4, cH_apph hh g5 k2' k5, cO_apph g6 k2' k6, ?_, ?_⟩
            · show cS D' src st L s (i + (r.2.1 ++ x.2.2.2.2.1).length) (o + (r.2.2.1 ++ x.2.2.2.2.2.1).length) x.1
              rw [List.length_append, List.length_append, ← Nat.add_assoc, ← Nat.add_assoc]
              exact k3
            · rw [k7]
              show nI (num + 1 + x.2.1) = nI (num + (x.2.1 + 1))
              congr 1
              omega
            · rw [k8]
              show nI (sh + 2 ^ j + x.2.2.1) = nI (sh + (2 ^ j + x.2.2.1))
              congr 1
              omega
