/-! VALUES: parts, octets, strict bytes and packed bits that belong together -/
def wvRec : Type := Nat → Nat → Option Nat → Int32 → Nat → Nat → Nat → List Pt → List Nat → List Nat → PK → Prop
/-- components from j on: parts, octets, bytes, marks, bits, how many parts, which are shown -/
def WVC (T : zJ) (rc : wvRec) (t : Nat) (par : Int32) : Nat → Nat → Nat → Nat → List Pt → List Nat → List Nat → List Bool → PK → Nat → Nat → Prop
  | 0, _, _, _, b, os, c, ma, pk, num, sh => b = [] ∧ os = [] ∧ c = [] ∧ ma = [] ∧ pk = pnil ∧ num = 0 ∧ sh = 0
  | m + 1, j, i, o, b, os, c, ma, pk, num, sh =>
    (T 14 (6 * t + j) = 1 ∧ ∃ ma', ma = false :: ma' ∧ WVC T rc t par m (j + 1) i o b os c ma' pk num sh) ∨
    (T 14 (6 * t + j) = 2 ∧ ∃ b' ma' num', b = mkP (chd T (6 * t + j)) (bas T 6 (chd T (6 * t + j))) (T 15 (6 * t + j)) j par o 0 1 :: b' ∧ ma = false :: ma' ∧ num = num' + 1 ∧ WVC T rc t par m (j + 1) (i + 1) o b' os c ma' pk num' sh) ∨
    (∃ b1 os1 e1 k1 b' os' c' ma' pk' num' sh', rc (chd T (6 * t + j)) (chd T (6 * t + j)) none par j i o b1 os1 e1 k1 ∧ ¬ (T 14 (6 * t + j) = 2 ∧ hdV b1 = T 15 (6 * t + j)) ∧ b = b1 ++ b' ∧ os = os1 ++ os' ∧ c = e1 ++ c' ∧ ma = (if T 14 (6 * t + j) = 0 then ma' else true :: ma') ∧ pk = pcat k1 pk' ∧ num = num' + 1 ∧ sh = 2 ^ j + sh' ∧ WVC T rc t par m (j + 1) (i + b1.length) (o + os1.length) b' os' c' ma' pk' num' sh')
def WVL (rc : wvRec) (u : Nat) (par : Int32) : Nat → Nat → Nat → Nat → List Pt → List Nat → List Nat → PK → Prop
  | 0, _, _, _, b, os, c, pk => b = [] ∧ os = [] ∧ c = [] ∧ pk = pnil
  | m + 1, k, i, o, b, os, c, pk => ∃ b1 os1 e1 k1 b' os' c' pk', rc u u none par k i o b1 os1 e1 k1 ∧ b = b1 ++ b' ∧ os = os1 ++ os' ∧ c = e1 ++ c' ∧ pk = pcat k1 pk' ∧ WVL rc u par m (k + 1) (i + b1.length) (o + os1.length) b' os' c' pk'
def WVp (T : zJ) (t t0 : Nat) (dg : Option Nat) (par : Int32) (wh o : Nat) (blk : List Pt) (os e : List Nat) (pk : PK) : Prop :=
  ∃ v, blk = [mkP t0 t v wh par o 0 1] ∧ ((T 4 t = 1 ∧ (v = 0 ∨ v = 1) ∧ os = [] ∧ e = elem (tgB T t dg) [if v = 0 then 0 else 255] ∧ pk = pbits v 1) ∨ (T 4 t = 2 ∧ os = [] ∧ e = elem (tgB T t dg) (intB v (byC v)) ∧ pk = pint T t v) ∨ (T 4 t = 4 ∧ v = nI os.length ∧ os.length ≤ 120 ∧ (∀ b, b ∈ os → b < 256) ∧ e = elem (tgB T t dg) os ∧ pk = pocts T t os) ∨ (T 4 t = 5 ∧ v = 0 ∧ os = [] ∧ e = elem (tgB T t dg) [] ∧ pk = pnil))
def WVb (T : zJ) (rc : wvRec) : wvRec := fun t t0 dg par wh i o blk os e pk =>
  (T 4 t = 10 ∧ isX T t = true ∧ ∃ e1, rc (chd T (6 * t)) t0 none par wh i o blk os e1 pk ∧ e = elem (tgB T t dg) e1) ∨
  (T 4 t = 10 ∧ ¬ isX T t = true ∧ rc (chd T (6 * t)) t0 (some (dg.getD (dgt T t))) par wh i o blk os e pk) ∨
  (T 4 t = 9 ∧ ∃ k b1 k1, k < cnt T t ∧ blk = mkP t0 t (nI k) wh par o 0 (b1.length + 1) :: b1 ∧ rc (chd T (6 * t + k)) (chd T (6 * t + k)) none (nI i) 0 (i + 1) o b1 os e k1 ∧ pk = pcat (pnum (nI (jRank T t k (cnt T t))) (cnt T t - 1)) k1) ∨
  (T 4 t = 6 ∧ ∃ num sh ma b1 c k1, blk = mkP t0 t (nI num) wh par o sh (b1.length + 1) :: b1 ∧ WVC T rc t (nI i) (cnt T t) 0 (i + 1) o b1 os c ma k1 num sh ∧ e = elem (tgB T t dg) c ∧ pk = pcat (fun _ => ma) k1) ∨
  (T 4 t = 7 ∧ ∃ m b1 c k1, m ≤ 127 ∧ blk = mkP t0 t (nI m) wh par o 0 (b1.length + 1) :: b1 ∧ WVL rc (chd T (6 * t)) (nI i) m 0 (i + 1) o b1 os c k1 ∧ e = elem (tgB T t dg) c ∧ pk = pcat (pcount T t (nI m)) k1) ∨
  WVp T t t0 dg par wh o blk os e pk
def WV (T : zJ) : Nat → wvRec
  | 0 => fun _ _ _ _ _ _ _ _ _ _ _ => False
  | n + 1 => WVb T (WV T n)
theorem pcat_nil (k : PK) : pcat pnil k = k := by
  funext p
  simp [pcat, pnil]
/-- what has a default is one part -/
theorem wv_one {T : zJ} : ∀ n t t0 dg par wh i o blk os e pk, wfT T n t → WV T n t t0 dg par wh i o blk os e pk → (T 4 (bas T n t) = 1 ∨ T 4 (bas T n t) = 2) → os = [] ∧ ∃ v, blk = [mkP t0 (bas T n t) v wh par o 0 1] := by
  intro n
  induction n with
  | zero => intro t t0 dg par wh i o blk os e pk h; exact h.elim
  | succ n ih =>
    intro t t0 dg par wh i o blk os e pk hw h hk
    unfold WV WVb at h
    by_cases k10 : T 4 t = 10
    · have hb : bas T (n + 1) t = bas T n (chd T (6 * t)) := by
        show (if T 4 t = 10 then _ else _) = _
        rw [if_pos k10]
      rw [hb] at hk ⊢
      have hw5 := (hw.2.2.2.2.2.2.2.1 k10).2.2.2.2
      rcases h with ⟨_, _, e1, h, _⟩ | ⟨_, _, h⟩ | ⟨q, _⟩ | ⟨q, _⟩ | ⟨q, _⟩ | ⟨v, _, h⟩
      · exact ih _ _ _ _ _ _ _ _ _ _ _ hw5 h hk
      · exact ih _ _ _ _ _ _ _ _ _ _ _ hw5 h hk
      · rw [k10] at q; exact absurd q (by decide)
      · rw [k10] at q; exact absurd q (by decide)
      · rw [k10] at q; exact absurd q (by decide)
      · rcases h with ⟨q, _⟩ | ⟨q, _⟩ | ⟨q, _⟩ | ⟨q, _⟩ <;> (rw [k10] at q; exact absurd q (by decide))
    · rw [bas_self k10] at hk ⊢
      rcases h with ⟨q, _⟩ | ⟨q, _⟩ | ⟨q, _⟩ | ⟨q, _⟩ | ⟨q, _⟩ | ⟨v, hb, h⟩
      · exact absurd q k10
      · exact absurd q k10
      · rw [q] at hk; rcases hk with z | z <;> exact absurd z (by decide)
      · rw [q] at hk; rcases hk with z | z <;> exact absurd z (by decide)
      · rw [q] at hk; rcases hk with z | z <;> exact absurd z (by decide)
      · rcases h with ⟨q, _, ho, _⟩ | ⟨q, ho, _⟩ | ⟨q, _⟩ | ⟨q, _⟩
        · exact ⟨ho, v, hb⟩
        · exact ⟨ho, v, hb⟩
        · rw [q] at hk; rcases hk with z | z <;> exact absurd z (by decide)
        · rw [q] at hk; rcases hk with z | z <;> exact absurd z (by decide)
theorem wvc_of {T : zJ} {src : Nat → Nat} {s : Bool} {n t : Nat} {par : Int32} {lim : Nat} (hn : n ≤ 6)
    (ih : ∀ u t0 dg par wh i o en p q, wfT T n u → en ≤ 120 → rdE T src s n u t0 dg par wh i o en p = some q → WV T n u t0 dg par wh i o q.2.1 q.2.2.1 q.2.2.2.1 q.2.2.2.2) (hlim : lim ≤ 120) :
    ∀ m j i o p q, (∀ j', j' < j + m → wfT T n (chd T (6 * t + j')) ∧ (T 14 (6 * t + j') = 2 → T 4 (bas T 6 (chd T (6 * t + j'))) = 1 ∨ T 4 (bas T 6 (chd T (6 * t + j'))) = 2)) → rdC T src s (rdE T src s n) t par lim m j i o p = some q → WVC T (WV T n) t par m j i o q.2.2.2.2.1 q.2.2.2.2.2.1 q.2.2.2.2.2.2.1 q.2.2.2.1 q.2.2.2.2.2.2.2 q.2.1 q.2.2.1 := by
  intro m
  induction m with
  | zero =>
    intro j i o p q _ h
    unfold rdC at h
    injection h with h
    subst h
    exact ⟨rfl, rfl, rfl, rfl, rfl, rfl, rfl⟩
  | succ m ihm =>
    intro j i o p q hwf h
    obtain ⟨hw, hdf⟩ := hwf j (by omega)
    have hwf' : ∀ j', j' < j + 1 + m → wfT T n (chd T (6 * t + j')) ∧ (T 14 (6 * t + j') = 2 → T 4 (bas T 6 (chd T (6 * t + j'))) = 1 ∨ T 4 (bas T 6 (chd T (6 * t + j'))) = 2) := fun j' hj' => hwf j' (by omega)
    unfold rdC at h
    unfold WVC
    by_cases c0 : T 9 (chd T (6 * t + j)) &&& ntb src lim p = 0
    · rw [if_pos c0] at h
      by_cases f1 : T 14 (6 * t + j) = 1
      · rw [if_pos f1] at h
        obtain ⟨x, hx, h⟩ := bind_some_eq h
        injection h with h
        subst h
        exact Or.inl ⟨f1, _, rfl, ihm _ _ _ _ _ hwf' hx⟩
      · rw [if_neg f1] at h
        obtain ⟨f2, h⟩ := ite_some h
        obtain ⟨x, hx, h⟩ := bind_some_eq h
        injection h with h
        subst h
        refine Or.inr (Or.inl ⟨f2.1, _, _, _, rfl, rfl, rfl, ?_⟩)
        have := ihm _ _ _ _ _ hwf' hx
        show WVC T (WV T n) t par m (j + 1) (i + 1) o _ _ _ _ (pcat pnil _) _ _
        rw [pcat_nil]
        exact this
    · rw [if_neg c0] at h
      obtain ⟨r, hr, h⟩ := bind_some_eq h
      have hv := ih _ _ _ _ _ _ _ _ _ _ hw hlim hr
      by_cases lf : T 14 (6 * t + j) = 2 ∧ hdV r.2.1 = T 15 (6 * t + j)
      · rw [if_pos lf] at h
        by_cases hs : s = true
        · rw [if_pos hs] at h; cases h
        · rw [if_neg hs] at h
          obtain ⟨x, hx, h⟩ := bind_some_eq h
          injection h with h
          subst h
          obtain ⟨o1, v, o2⟩ := wv_one n _ _ _ _ _ _ _ _ _ _ _ hw hv (by rw [← (bas_wf n 6 _ hw hn).1]; exact hdf lf.1)
          have hvv : v = T 15 (6 * t + j) := by
            have := lf.2
            rw [o2] at this
            exact this
          refine Or.inr (Or.inl ⟨lf.1, x.2.2.2.2.1, x.2.2.2.1, x.2.1, ?_, rfl, rfl, ?_⟩)
          · show r.2.1 ++ x.2.2.2.2.1 = _
            rw [o2, hvv, (bas_wf n 6 _ hw hn).1]
            rfl
          · have := ihm _ _ _ _ _ hwf' hx
            rw [o2, o1] at this
            show WVC T (WV T n) t par m (j + 1) (i + 1) o x.2.2.2.2.1 (r.2.2.1 ++ x.2.2.2.2.2.1) ([] ++ x.2.2.2.2.2.2.1) _ (pcat pnil _) _ _
            rw [pcat_nil, o1, List.nil_append, List.nil_append]
            exact this
      · rw [if_neg lf] at h
        obtain ⟨x, hx, h⟩ := bind_some_eq h
        injection h with h
        subst h
        exact Or.inr (Or.inr ⟨_, _, _, _, _, _, _, _, _, _, _, hv, lf, rfl, rfl, rfl, rfl, rfl, rfl, rfl, ihm _ _ _ _ _ hwf' hx⟩)
theorem wvl_of {T : zJ} {src : Nat → Nat} {s : Bool} {n u : Nat} {par : Int32} {lim : Nat} (hw : wfT T n u)
    (ih : ∀ u t0 dg par wh i o en p q, wfT T n u → en ≤ 120 → rdE T src s n u t0 dg par wh i o en p = some q → WV T n u t0 dg par wh i o q.2.1 q.2.2.1 q.2.2.2.1 q.2.2.2.2) (hlim : lim ≤ 120) :
    ∀ m k i o p q, rdL src (rdE T src s n) u par lim m k i o p = some q → WVL (WV T n) u par q.2.1 k i o q.2.2.1 q.2.2.2.1 q.2.2.2.2.1 q.2.2.2.2.2 ∧ q.2.1 ≤ m := by
  intro m
  induction m with
  | zero =>
    intro k i o p q h
    unfold rdL at h
    injection h with h
    subst h
    exact ⟨⟨rfl, rfl, rfl, rfl⟩, Nat.le_refl _⟩
  | succ m ihm =>
    intro k i o p q h
    unfold rdL at h
    by_cases c0 : ntb src lim p = 0
    · rw [if_pos c0] at h
      injection h with h
      subst h
      exact ⟨⟨rfl, rfl, rfl, rfl⟩, Nat.zero_le _⟩
    · rw [if_neg c0] at h
      obtain ⟨r, hr, h⟩ := bind_some_eq h
      obtain ⟨x, hx, h⟩ := bind_some_eq h
      injection h with h
      subst h
      obtain ⟨h1, h2⟩ := ihm _ _ _ _ _ hx
      exact ⟨⟨_, _, _, _, _, _, _, _, ih _ _ _ _ _ _ _ _ _ _ hw hlim hr, rfl, rfl, rfl, rfl, h1⟩, Nat.succ_le_succ h2⟩
theorem hdr_le {s : Bool} {src : Nat → Nat} {tg en p : Nat} {made : Bool} {q : Nat × Option Nat} (h : hdr s src tg made en p = some q) : q.2.getD en ≤ en ∧ p + 2 ≤ q.1 ∧ q.1 ≤ q.2.getD en := by
  unfold hdr at h
  (repeat' split at h) <;> first | (cases h; done) | (injection h with h; subst h; simp; omega)
theorem rd_wv {T : zJ} {src : Nat → Nat} {s : Bool} (hs : sOK src) : ∀ n u t0 dg par wh i o en p q, n ≤ 6 → wfT T n u → en ≤ 120 → rdE T src s n u t0 dg par wh i o en p = some q → WV T n u t0 dg par wh i o q.2.1 q.2.2.1 q.2.2.2.1 q.2.2.2.2 := by
  intro n
  induction n with
  | zero => intro u t0 dg par wh i o en p q _ h; exact h.elim
  | succ n ih =>
    intro t t0 dg par wh i o en p q hn hw hen h
    have ih' : ∀ u t0 dg par wh i o en p q, wfT T n u → en ≤ 120 → rdE T src s n u t0 dg par wh i o en p = some q → WV T n u t0 dg par wh i o q.2.1 q.2.2.1 q.2.2.2.1 q.2.2.2.2 := fun u t0 dg par wh i o en p q => ih u t0 dg par wh i o en p q (by omega)
    unfold rdE rdB at h
    unfold WV WVb
    by_cases k10 : T 4 t = 10
    · rw [if_pos k10] at h
      have hw5 := (hw.2.2.2.2.2.2.2.1 k10).2.2.2.2
      by_cases x : isX T t = true
      · rw [if_pos x] at h
        obtain ⟨h1, e1, h⟩ := bind_some_eq h
        obtain ⟨r, e2, h⟩ := bind_some_eq h
        obtain ⟨p3, e3, h⟩ := bind_some_eq h
        injection h with h
        subst h
        have hv := ih' _ _ _ _ _ _ _ _ _ _ hw5 (Nat.le_trans (hdr_le e1).1 hen) e2
        exact Or.inl ⟨k10, x, _, hv, rfl⟩
      · rw [if_neg x] at h
        exact Or.inr (Or.inl ⟨k10, x, ih' _ _ _ _ _ _ _ _ _ _ hw5 hen h⟩)
    · rw [if_neg k10] at h
      by_cases k9 : T 4 t = 9
      · rw [if_pos k9] at h
        obtain ⟨k, e1, h⟩ := bind_some_eq h
        obtain ⟨c, h⟩ := ite_some h
        obtain ⟨r, e2, h⟩ := bind_some_eq h
        injection h with h
        subst h
        have hklt : k < cnt T t := by
          have : ∀ m j, altF T t (ntb src en p) m j = some k → k < j + m := by
            intro m
            induction m with
            | zero => intro j h; cases h
            | succ m ihm =>
              intro j h
              unfold altF at h
              split at h
              · have := ihm _ h; omega
              · injection h with h; omega
          have := this _ _ e1
          omega
        exact Or.inr (Or.inr (Or.inl ⟨k9, k, _, _, hklt, rfl, ih' _ _ _ _ _ _ _ _ _ _ ((hw.2.2.2.2.2.2.2.2.1 (Or.inr k9)).2.2 k hklt).2 hen e2, rfl⟩))
      · rw [if_neg k9] at h
        obtain ⟨h1, e1, h⟩ := bind_some_eq h
        obtain ⟨c, h⟩ := ite_some h
        obtain ⟨q1, q2, q3⟩ := hdr_le e1
        by_cases k6 : T 4 t = 6
        · rw [if_pos k6] at h
          obtain ⟨r, e2, h⟩ := bind_some_eq h
          obtain ⟨p3, e3, h⟩ := bind_some_eq h
          injection h with h
          subst h
          obtain ⟨w1, w2, w3⟩ := hw.2.2.2.2.2.2.2.2.1 (Or.inl k6)
          have w10 := hw.2.2.2.2.2.2.2.2.2.1 k6
          refine Or.inr (Or.inr (Or.inr (Or.inl ⟨k6, _, _, _, _, _, _, rfl, wvc_of (by omega) ih' (Nat.le_trans q1 hen) _ _ _ _ _ _ (fun j' hj' => ⟨(w3 j' (by omega)).2, fun hf => ?_⟩) e2, rfl, rfl⟩)))
          rcases w10 j' (by omega) with z | z | z
          · rw [z] at hf; exact absurd hf (by decide)
          · rw [z] at hf; exact absurd hf (by decide)
          · exact z.2
        · rw [if_neg k6] at h
          by_cases k7 : T 4 t = 7
          · rw [if_pos k7] at h
            obtain ⟨r, e2, h⟩ := bind_some_eq h
            obtain ⟨_, h⟩ := ite_some h
            obtain ⟨p3, e3, h⟩ := bind_some_eq h
            injection h with h
            subst h
            obtain ⟨z1, z2⟩ := wvl_of (hw.2.2.2.2.2.2.1 k7).2 ih' (Nat.le_trans q1 hen) _ _ _ _ _ _ e2
            exact Or.inr (Or.inr (Or.inr (Or.inr (Or.inl ⟨k7, _, _, _, _, by omega, rfl, z1, rfl, rfl⟩))))
          · rw [if_neg k7] at h
            refine Or.inr (Or.inr (Or.inr (Or.inr (Or.inr ?_))))
            unfold rdPl at h
            by_cases k1 : T 4 t = 1
            · rw [if_pos k1] at h
              obtain ⟨_, h⟩ := ite_some h
              injection h with h
              subst h
              refine ⟨_, rfl, Or.inl ⟨k1, ?_, rfl, ?_, rfl⟩⟩
              · split
                · exact Or.inl rfl
                · exact Or.inr rfl
              · by_cases z : src h1.1 = 0
                · simp [z]
                · simp [z]
            · rw [if_neg k1] at h
              by_cases k2 : T 4 t = 2
              · rw [if_pos k2] at h
                obtain ⟨z, h⟩ := ite_some h
                injection h with h
                subst h
                refine ⟨_, rfl, Or.inr (Or.inl ⟨k2, rfl, ?_, rfl⟩)⟩
                rw [z.2.2.1]
              · rw [if_neg k2] at h
                by_cases k4 : T 4 t = 4
                · rw [if_pos k4] at h
                  obtain ⟨z, h⟩ := ite_some h
                  injection h with h
                  subst h
                  refine ⟨_, rfl, Or.inr (Or.inr (Or.inl ⟨k4, ?_, ?_, ?_, rfl, rfl⟩))⟩
                  · show nI _ = nI (seg src h1.1 (h1.2.getD en - h1.1)).length
                    rw [seg_len]
                  · show (seg src h1.1 (h1.2.getD en - h1.1)).length ≤ 120
                    rw [seg_len]
                    omega
                  · intro b hb
                    obtain ⟨k, hk, rfl⟩ := List.mem_map.mp hb
                    exact hs _
                · rw [if_neg k4] at h
                  obtain ⟨z, h⟩ := ite_some h
                  injection h with h
                  subst h
                  have k5 : T 4 t = 5 := by
                    rcases hw.2.1 with y | y | y | y | y | y | y | y
                    · exact absurd y k1
                    · exact absurd y k2
                    · exact absurd y k4
                    · exact y
                    · exact absurd y k6
                    · exact absurd y k7
                    · exact absurd y k9
                    · exact absurd y k10
                  exact ⟨_, rfl, Or.inr (Or.inr (Or.inr ⟨k5, rfl, rfl, rfl, rfl⟩))⟩
