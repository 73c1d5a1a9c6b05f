/-! TYPES while they are compiled: parts of the memory, parts of the table -/
def zcut (M : zM) (S : Nat → Bool) : zM := (fun x => if S x = true then M.1 x else none, M.2)
theorem zcut_sh (M : zM) (S : Nat → Bool) (x : Nat) : zsh (zcut M S) x = if S x = true then zsh M x else none := rfl
theorem zcut_i (M : zM) (S : Nat → Bool) : zi (zcut M S) = zi M := rfl
theorem zcut_r (M : zM) (S : Nat → Bool) : zr (zcut M S) = zr M := rfl
theorem zcut_s {M : zM} {S : Nat → Bool} {x : Nat} {s : Nat ⊕ Nat × Nat} (h : zsh (zcut M S) x = some s) : S x = true ∧ zsh M x = some s := by
  rw [zcut_sh] at h
  by_cases c : S x = true
  · rw [if_pos c] at h
    exact ⟨c, h⟩
  · rw [if_neg c] at h
    cases h
def jcut (J : zJ) (c : Nat → Bool) : zJ := fun k t => if k = 4 ∧ c t = false then 0 else J k t
def tAg (c : Nat → Bool) (T T' : zJ) : Prop := ∀ t, c t = true → (∀ k, 4 ≤ k → k ≤ 12 → T' k t = T k t) ∧ ∀ j, j < 6 → ∀ k, 13 ≤ k → k ≤ 15 → T' k (6 * t + j) = T k (6 * t + j)
theorem tAg_trans {c c' : Nat → Bool} {T T1 T2 : zJ} (hc : ∀ t, c t = true → c' t = true) (h1 : tAg c T T1) (h2 : tAg c' T1 T2) : tAg c T T2 := fun t ht => ⟨fun k a b => ((h2 t (hc t ht)).1 k a b).trans ((h1 t ht).1 k a b), fun j hj k a b => ((h2 t (hc t ht)).2 j hj k a b).trans ((h1 t ht).2 j hj k a b)⟩
theorem tAg_refl (c : Nat → Bool) (T : zJ) : tAg c T T := fun _ _ => ⟨fun _ _ _ => rfl, fun _ _ _ _ _ => rfl⟩
theorem jcut_o {J : zJ} {c : Nat → Bool} {k t : Nat} (h : k ≠ 4) : jcut J c k t = J k t := by unfold jcut; rw [if_neg (by omega)]
theorem jcut_lt {J : zJ} {c : Nat → Bool} {k t : Nat} (h : c t = true) : jcut J c k t = J k t := by unfold jcut; rw [if_neg (by rw [h]; simp)]
theorem jcut_ge {J : zJ} {c : Nat → Bool} {t : Nat} (h : c t = false) : jcut J c 4 t = 0 := by unfold jcut; rw [if_pos ⟨rfl, h⟩]
theorem tAg_cut {c c' : Nat → Bool} {J J' : zJ} (h : tAg c J J') (hc : ∀ t, c t = true → c' t = true) : tAg c (jcut J c) (jcut J' c') := by
  intro t ht
  refine ⟨fun k a b => ?_, fun j hj k a b => ?_⟩
  · rw [jcut_lt ht, jcut_lt (hc t ht)]
    exact (h t ht).1 k a b
  · rw [jcut_o (by omega), jcut_o (by omega)]
    exact (h t ht).2 j hj k a b
theorem tAg_out {c : Nat → Bool} {J J' : zJ} (h : tAg c J J') : tAg c (jcut J c) J' := by
  intro t ht
  refine ⟨fun k a b => ?_, fun j hj k a b => ?_⟩
  · rw [jcut_lt ht]
    exact (h t ht).1 k a b
  · rw [jcut_o (by omega)]
    exact (h t ht).2 j hj k a b
theorem wfT_m {T : zJ} : ∀ n t, wfT T n t → wfT T (n + 1) t := by
  intro n
  induction n with
  | zero => intro t h; exact h.elim
  | succ n ih =>
    intro t h
    obtain ⟨h1, h2, h3, h4, h5, h6, h7, h8, h9, h10, h11⟩ := h
    refine ⟨h1, h2, h3, h4, h5, h6, fun q => ⟨(h7 q).1, ih _ (h7 q).2⟩, fun q => ?_, fun q => ?_, h10, h11⟩
    · obtain ⟨q1, q2, q3, q4, q5⟩ := h8 q
      exact ⟨q1, q2, q3, q4, ih _ q5⟩
    · obtain ⟨q1, q2, q3⟩ := h9 q
      exact ⟨q1, q2, fun j hj => ⟨(q3 j hj).1, ih _ (q3 j hj).2⟩⟩
theorem wfT_le {T : zJ} {n m t : Nat} (h : wfT T n t) (hn : n ≤ m) : wfT T m t := by
  obtain ⟨k, rfl⟩ := Nat.exists_eq_add_of_le hn
  induction k with
  | zero => exact h
  | succ k ih => exact wfT_m _ _ (ih (by omega))
theorem rChain_m {M : zM} {T : zJ} {P P' : Nat → Nat → Prop} {t : Nat} (hP : ∀ a u, P a u → P' a u) : ∀ m j c, rChain M T P t m j c → rChain M T P' t m j c := rChain_mono (zag_rf M) (fun _ _ _ _ => rfl) hP
theorem rep_m {M : zM} {T : zJ} : ∀ n a t, rep M T n a t → rep M T (n + 1) a t := by
  intro n
  induction n with
  | zero => intro a t h; exact h.elim
  | succ n ih =>
    intro a t h
    obtain ⟨h1, h2, h3, h4, h5, h6, h7, h8⟩ := h
    refine ⟨h1, h2, h3, h4, h5, fun q => ?_, fun q => ?_, fun q => ?_⟩
    · obtain ⟨b, q1, q2⟩ := h6 q
      exact ⟨b, q1, ih _ _ q2⟩
    · obtain ⟨q1, q2, b, q3, q4⟩ := h7 q
      exact ⟨q1, q2, b, q3, ih _ _ q4⟩
    · obtain ⟨q1, q2⟩ := h8 q
      exact ⟨q1, rChain_m (fun a u h => ih a u h) _ _ _ q2⟩
theorem rep_le {M : zM} {T : zJ} {n m a t : Nat} (h : rep M T n a t) (hn : n ≤ m) : rep M T m a t := by
  obtain ⟨k, rfl⟩ := Nat.exists_eq_add_of_le hn
  induction k with
  | zero => exact h
  | succ k ih => exact rep_m _ _ _ (ih (by omega))
theorem wf_k {T : zJ} {n t : Nat} (h : wfT T n t) : T 4 t ≠ 0 := by
  cases n with
  | zero => exact h.elim
  | succ n =>
    rcases h.2.1 with k | k | k | k | k | k | k | k <;> rw [k] <;> decide
theorem wf_c {T : zJ} {n t : Nat} {c : Nat → Bool} (h0 : ∀ t, c t = false → T 4 t = 0) (h : wfT T n t) : c t = true := by
  cases hc : c t with
  | true => rfl
  | false => exact absurd (h0 t hc) (wf_k h)
theorem bas_up {T T' : zJ} {c : Nat → Bool} (h0 : ∀ t, c t = false → T 4 t = 0) (hag : tAg c T T') : ∀ n m t, wfT T n t → bas T' m t = bas T m t := by
  intro n
  induction n with
  | zero => intro m t h; exact h.elim
  | succ n ih =>
    intro m t h
    cases m with
    | zero => rfl
    | succ m =>
      have ht := wf_c h0 h
      show (if T' 4 t = 10 then _ else _) = (if T 4 t = 10 then _ else _)
      rw [(hag t ht).1 4 (by omega) (by omega)]
      by_cases k : T 4 t = 10
      · rw [if_pos k, if_pos k]
        have e : chd T' (6 * t) = chd T (6 * t) := by
          unfold chd
          rw [show T' 13 (6 * t) = T 13 (6 * t) from (hag t ht).2 0 (by omega) 13 (by omega) (by omega)]
        rw [e]
        exact ih m _ (h.2.2.2.2.2.2.2.1 k).2.2.2.2
      · rw [if_neg k, if_neg k]
theorem chd_up {T T' : zJ} {c : Nat → Bool} {t j : Nat} (hag : tAg c T T') (ht : c t = true) (hj : j < 6) : chd T' (6 * t + j) = chd T (6 * t + j) := by
  unfold chd
  rw [(hag t ht).2 j hj 13 (by omega) (by omega)]
theorem wf_up {T T' : zJ} {c : Nat → Bool} (h0 : ∀ t, c t = false → T 4 t = 0) (hag : tAg c T T') : ∀ n t, wfT T n t → wfT T' n t := by
  intro n
  induction n with
  | zero => intro t h; exact h
  | succ n ih =>
    intro t h
    have ht := wf_c h0 h
    have e := (hag t ht).1
    have e2 := (hag t ht).2
    have ec : ∀ j, j < 6 → chd T' (6 * t + j) = chd T (6 * t + j) := fun j hj => chd_up hag ht hj
    have ec0 : chd T' (6 * t) = chd T (6 * t) := ec 0 (by omega)
    have en : cnt T' t = cnt T t := by unfold cnt; rw [e 8 (by omega) (by omega)]
    have ed : dgt T' t = dgt T t := by unfold dgt; rw [e 7 (by omega) (by omega)]
    obtain ⟨h1, h2, h3, h4, h5, h6, h7, h8, h9, h10, h11⟩ := h
    unfold wfT
    rw [e 4 (by omega) (by omega), e 11 (by omega) (by omega), e 5 (by omega) (by omega), e 6 (by omega) (by omega), e 9 (by omega) (by omega), e 7 (by omega) (by omega), e 12 (by omega) (by omega), e 8 (by omega) (by omega), en, ed, ec0, show T' 13 (6 * t) = T 13 (6 * t) from e2 0 (by omega) 13 (by omega) (by omega)]
    refine ⟨h1, h2, h3, h4, h5, h6, fun q => ⟨(h7 q).1, ih _ (h7 q).2⟩, fun q => ?_, fun q => ?_, fun q j hj => ?_, fun q => ?_⟩
    · obtain ⟨q1, q2, q3, q4, q5⟩ := h8 q
      exact ⟨q1, q2, q3, q4, ih _ q5⟩
    · obtain ⟨q1, q2, q3⟩ := h9 q
      refine ⟨q1, q2, fun j hj => ?_⟩
      rw [e2 j (by omega) 13 (by omega) (by omega), ec j (by omega)]
      exact ⟨(q3 j hj).1, ih _ (q3 j hj).2⟩
    · obtain ⟨q1, q2, q3⟩ := h9 (Or.inl q)
      rw [e2 j (by omega) 14 (by omega) (by omega), ec j (by omega), bas_up h0 hag n 6 _ (q3 j hj).2]
      rcases h10 q j hj with k | k | ⟨k1, k2⟩
      · exact Or.inl k
      · exact Or.inr (Or.inl k)
      · refine Or.inr (Or.inr ⟨k1, ?_⟩)
        have hlt : c (bas T 6 (chd T (6 * t + j))) = true := by
          cases hc : c (bas T 6 (chd T (6 * t + j))) with
          | true => rfl
          | false =>
            have := h0 _ hc
            rw [this] at k2
            rcases k2 with k2 | k2 <;> exact absurd k2 (by decide)
        rw [(hag _ hlt).1 4 (by omega) (by omega)]
        exact k2
    · obtain ⟨q1, q2, q3⟩ := h9 (Or.inr q)
      obtain ⟨g1, g2⟩ := h11 q
      refine ⟨g1, fun i j hi hj hij => ?_⟩
      rw [ec i (by omega), ec j (by omega), (hag _ (wf_c h0 (q3 i hi).2)).1 9 (by omega) (by omega), (hag _ (wf_c h0 (q3 j hj).2)).1 9 (by omega) (by omega)]
      exact g2 i j hi hj hij
theorem jRank_up {T T' : zJ} {c : Nat → Bool} {t cn : Nat} (hag : tAg c T T') (ht : c t = true) (hcn : cn ≤ 6) (hc : ∀ j, j < cn → c (chd T (6 * t + j)) = true) : ∀ j, j < cn → jRank T' t j cn = jRank T t j cn := by
  have hl : ∀ j, j < cn → jLeast T' (6 * t + j) = jLeast T (6 * t + j) := by
    intro j hj
    have e : chd T' (6 * t + j) = chd T (6 * t + j) := chd_up hag ht (by omega)
    show T' 9 (chd T' (6 * t + j)) &&& -T' 9 (chd T' (6 * t + j)) = T 9 (chd T (6 * t + j)) &&& -T 9 (chd T (6 * t + j))
    rw [e, (hag _ (hc j hj)).1 9 (by omega) (by omega)]
  intro j hj
  unfold jRank
  congr 1
  apply List.filter_congr
  intro i hi
  rw [hl i (List.mem_range.mp hi), hl j hj]
theorem rChain_up {M M' : zM} {T T' : zJ} {P P' : Nat → Nat → Prop} {c : Nat → Bool} {t : Nat} (hag : tAg c T T') (ht : c t = true) (hg : zag M M') (hcn : cnt T t ≤ 6) (hw : ∀ j, j < cnt T t → c (chd T (6 * t + j)) = true) (hP : ∀ j, j < cnt T t → ∀ a, P a (chd T (6 * t + j)) → P' a (chd T (6 * t + j))) : ∀ m j x, j + m ≤ cnt T t → rChain M T P t m j x → rChain M' T' P' t m j x := by
  intro m
  induction m with
  | zero => intro j x _ h; exact h
  | succ m ih =>
    intro j x hj h
    obtain ⟨b, a, h1, h2, h3, h4, h5, h6, h7, h8, h9⟩ := h
    obtain ⟨g1, g2, g3⟩ := hg b 1 (Or.inr rfl) h2
    have e := (hag t ht).1
    have e2 := (hag t ht).2 j (by omega)
    have ec : chd T' (6 * t + j) = chd T (6 * t + j) := chd_up hag ht (by omega)
    have en : cnt T' t = cnt T t := by unfold cnt; rw [e 8 (by omega) (by omega)]
    refine ⟨b, a, h1, g1, by rw [g3]; exact h3, by rw [ec]; exact hP j (by omega) a h4, by rw [g2]; exact h5, ?_, ?_, ?_, by rw [g3]; exact ih _ _ (by omega) h9⟩
    · rw [e 4 (by omega) (by omega), g2, e2 14 (by omega) (by omega)]; exact h6
    · rw [e 4 (by omega) (by omega), e2 14 (by omega) (by omega), g2, e2 15 (by omega) (by omega)]; exact h7
    · rw [e 4 (by omega) (by omega), g2, en, jRank_up hag ht hcn hw j (by omega)]; exact h8
theorem rep_up {M M' : zM} {T T' : zJ} {c : Nat → Bool} (h0 : ∀ t, c t = false → T 4 t = 0) (hag : tAg c T T') (hg : zag M M') : ∀ n a t, wfT T n t → rep M T n a t → rep M' T' n a t := by
  intro n
  induction n with
  | zero => intro a t _ h; exact h
  | succ n ih =>
    intro a t hw h
    have ht := wf_c h0 hw
    have e := (hag t ht).1
    have ec0 : chd T' (6 * t) = chd T (6 * t) := chd_up (j := 0) hag ht (by omega)
    have en : cnt T' t = cnt T t := by unfold cnt; rw [e 8 (by omega) (by omega)]
    obtain ⟨w1, w2, w3, w4, w5, w6, w7, w8, w9, w10, w11⟩ := hw
    obtain ⟨h1, h2, h3, h4, h5, h6, h7, h8⟩ := h
    obtain ⟨g1, g2, g3⟩ := hg a 6 (Or.inl rfl) h1
    unfold rep
    rw [e 4 (by omega) (by omega), e 11 (by omega) (by omega), e 5 (by omega) (by omega), e 6 (by omega) (by omega), e 9 (by omega) (by omega), e 7 (by omega) (by omega), e 12 (by omega) (by omega), e 8 (by omega) (by omega), en, ec0, g2, g3]
    refine ⟨g1, h2, h3, h4, h5, fun q => ?_, fun q => ?_, fun q => ?_⟩
    · obtain ⟨b, q1, q2⟩ := h6 q
      exact ⟨b, q1, ih _ _ (w7 q).2 q2⟩
    · obtain ⟨q1, q2, b, q3, q4⟩ := h7 q
      have wc := (w8 q).2.2.2.2
      rw [(hag _ (wf_c h0 wc)).1 4 (by omega) (by omega)]
      exact ⟨q1, q2, b, q3, ih _ _ wc q4⟩
    · obtain ⟨q1, q2⟩ := h8 q
      obtain ⟨u1, u2, u3⟩ := w9 q
      exact ⟨q1, rChain_up hag ht hg u2 (fun j hj => wf_c h0 (u3 j hj).2) (fun j hj a ha => ih a _ (u3 j hj).2 ha) _ _ _ (by omega) q2⟩
/-- a finished type: node t among R, object a among S, of height ht -/
def dT (M : zM) (J : zJ) (S R : Nat → Bool) (a t ht : Nat) : Prop := wfT (jcut J R) (ht + 1) t ∧ rep (zcut M S) (jcut J R) (ht + 1) a t ∧ J 10 t = nI ht ∧ zi M a 7 = nI ht
theorem dT_lt {M : zM} {J : zJ} {S R : Nat → Bool} {a t ht : Nat} (h : dT M J S R a t ht) : R t = true := wf_c (fun t ht => jcut_ge ht) h.1
theorem dT_in {M : zM} {J : zJ} {S R : Nat → Bool} {a t ht : Nat} (h : dT M J S R a t ht) : S a = true ∧ zsh M a = some (.inl 6) := zcut_s h.2.1.1
theorem zag_cut {M M' : zM} {S S' : Nat → Bool} (hM : ∀ x, S x = true → S' x = true ∧ zi M' x = zi M x ∧ zr M' x = zr M x ∧ ∀ s, zsh M x = some s → zsh M' x = some s) : zag (zcut M S) (zcut M' S') := by
  intro b ci hci hs
  obtain ⟨g1, g2⟩ := zcut_s hs
  obtain ⟨m1, m2, m3, m4⟩ := hM b g1
  exact ⟨by rw [zcut_sh, if_pos m1]; exact m4 _ g2, m2, m3⟩
theorem dT_up {M M' : zM} {J J' : zJ} {S S' R R' : Nat → Bool} {a t ht : Nat} (hR : ∀ t, R t = true → R' t = true) (hJ : tAg R J J') (hM : ∀ x, S x = true → S' x = true ∧ zi M' x = zi M x ∧ zr M' x = zr M x ∧ ∀ s, zsh M x = some s → zsh M' x = some s) (h : dT M J S R a t ht) : dT M' J' S' R' a t ht := by
  have hlt := dT_lt h
  have hin := dT_in h
  obtain ⟨h1, h2, h3, h4⟩ := h
  have h0 : ∀ t, R t = false → jcut J R 4 t = 0 := fun t ht => jcut_ge ht
  refine ⟨wf_up h0 (tAg_cut hJ hR) _ _ h1, rep_up h0 (tAg_cut hJ hR) (zag_cut hM) _ _ _ h1 h2, ?_, ?_⟩
  · rw [(hJ t hlt).1 10 (by omega) (by omega)]
    exact h3
  · rw [(hM a hin.1).2.1]
    exact h4
theorem dT_out {M : zM} {J : zJ} {S R : Nat → Bool} {a t ht : Nat} (h : dT M J S R a t ht) (h6 : ht + 1 ≤ 6) : wfT J 6 t ∧ rep M J 6 a t := by
  obtain ⟨h1, h2, h3, h4⟩ := h
  have h0 : ∀ t, R t = false → jcut J R 4 t = 0 := fun t ht => jcut_ge ht
  have hag : zag (zcut M S) M := by
    intro b ci hci hs
    obtain ⟨g1, g2⟩ := zcut_s hs
    exact ⟨g2, rfl, rfl⟩
  exact ⟨wfT_le (wf_up h0 (tAg_out (tAg_refl R J)) _ _ h1) h6, rep_le (rep_up h0 (tAg_out (tAg_refl R J)) hag _ _ _ h1 h2) h6⟩
