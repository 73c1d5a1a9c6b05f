/-! THE REFERENCE reads packed bits: components, heads -/
def YC (T : zJ) (src : Nat → Nat) (L n b h : Nat) (ths : List Bool) (j i o p num : Nat) : Option (Nat × Nat × Rs) := (rpC T false (rdP T src false n) b (nI h) (8 * L) ths j i o p).bind fun q => some (q.1, num + q.2.1, q.2.2.2.2)
theorem q_seq {T : zJ} {src : Nat → Nat} {L n n0 b t0 h f : Nat} {full : List Bool} (hs : sOK src) (hw0 : wfT T n0 t0) (hn0 : n0 ≤ 6) (hb : bas T 6 t0 = b) (k6 : T 4 b = 6) (hwb : wfT T (n + 1) b) (hh : h < 100) (hE : elW T src L n) (hfn : f + 1 + n ≤ 12) (hfl : full.length = cnt T b) :
    ∀ ths j i o p num J, full.drop j = ths → j + ths.length = cnt T b → num ≤ j → h < i → hS T J src L i o p (f + 1) → J 31 f = nI h → J 21 h = nI t0 → J 22 h = nI num → J 33 f = nI j → J 34 f = nI (fbv full) →
      hX T src L J h i o p f (YC T src L n b h ths j i o p num) J := by
  obtain ⟨w1, w2, w3⟩ := hwb.2.2.2.2.2.2.2.2.1 (Or.inl k6)
  have w10 := hwb.2.2.2.2.2.2.2.2.2.1 k6
  have b160 := hwb.1
  have n7 : ¬ T 4 b = 7 := by rw [k6]; decide
  intro ths
  induction ths with
  | nil =>
    intro j i o p num J hdr hj hnum hi hS0 h31 h21 h22 h33 h34
    obtain ⟨J2, u4, u2, hg⟩ := q_goOn hS0 h31 hh h21 hw0 hn0 hb b160 h33
    have hS2 := uKp_hS u4 hS0
    have hS3 : hS T (zu J2 33 f (nI (j + 1))) src L i o p (f + 1) := hS_fr hS2 (by omega)
    have f100 := hS0.2.2.2.2.2.2.2.2.2.2.2.2
    have hjc : j = cnt T b := by simpa using hj
    have hstep : goS2 J (zu (zu J2 33 f (nI (j + 1))) 0 48 (nI f)) := by
      refine ⟨hS0.1, ⟨f, by omega, hS0.2.2.2.2.1⟩, ev_mono hg (fun N hN => ?_)⟩
      rw [hN, if_pos k6, w1]
      unfold FM_goOnPacked_66
      rw [if_pos (by rw [hjc])]
      simp only [hS3.2.2.2.2.1, show nI (f + 1) - 1 = nI f from nI_subs (a := f + 1) (b := 1) (by omega)]
    refine hX_some (J2 := zu (zu J2 33 f (nI (j + 1))) 0 48 (nI f)) (Rch2_step hstep (Rch2_refl _)) ?_ (hS_pop hS3) (Nat.le_refl _) ?_ (mH_nil _ _) (mO_nil _ _)
    · exact mGh_of (mG_trans (mG_trans (uKp_mG u4 i o f) (mG_zu (i := i) (o := o) (fr := f) (mW_r (by omega)) (by omega)) (Nat.le_refl _) (Nat.le_refl _) (Nat.le_refl _)) (mG_zu (i := i) (o := o) (fr := f) (mW_f (by omega)) (by omega)) (Nat.le_refl _) (Nat.le_refl _) (Nat.le_refl _))
    · rw [zu_at, if_neg (by omega), zu_at, if_neg (by omega), u4 22 h (by omega) (by omega) (by omega)]; exact h22
  | cons th ths ih =>
    intro j i o p num J hdr hj hnum hi hS0 h31 h21 h22 h33 h34
    rw [List.length_cons] at hj
    have hjlt : j < cnt T b := by omega
    obtain ⟨v1, v2⟩ := w3 j hjlt
    have hget : full.getD j false = th := by
      have : (full.drop j)[0]? = some th := by rw [hdr]; rfl
      rw [List.getElem?_drop, Nat.add_zero] at this
      rw [List.getD_eq_getElem?_getD, this]
      rfl
    have hdr' : full.drop (j + 1) = ths := by
      rw [← List.drop_drop, hdr]
      rfl
    obtain ⟨J2, u4, u2, hg⟩ := q_goOn hS0 h31 hh h21 hw0 hn0 hb b160 h33
    have hS2 := uKp_hS u4 hS0
    have hS3 : hS T (zu J2 33 f (nI (j + 1))) src L i o p (f + 1) := hS_fr hS2 (by omega)
    have f100 := hS0.2.2.2.2.2.2.2.2.2.2.2.2
    have hT3 := hS3.2.2.2.2.2.2.2.1
    have hgo : J 0 49 = 1 ∧ ∃ f, f < 160 ∧ J 0 48 = nI (f + 1) := ⟨hS0.1, f, by omega, hS0.2.2.2.2.1⟩
    have hz : ∀ c' x, c' ≠ 0 → c' ≠ 16 → c' ≠ 17 → ¬ (c' = 33 ∧ x = f) → zu J2 33 f (nI (j + 1)) c' x = J c' x := fun c' x q1 q2 q3 q4 => by rw [zu_at, if_neg q4, u4 c' x q2 (by omega) (by omega)]
    have hg3 : mGh J (zu J2 33 f (nI (j + 1))) h i o f := mGh_of (mG_trans (uKp_mG u4 i o f) (mG_zu (i := i) (o := o) (fr := f) (mW_r (by omega)) (by omega)) (Nat.le_refl _) (Nat.le_refl _) (Nat.le_refl _))
    have e6 : (6 : Int32) * nI b + nI j = nI (6 * b + j) := by rw [show (6 : Int32) = nI 6 from rfl, nI_mul, nI_add]
    have z33 : zu J2 33 f (nI (j + 1)) 33 f = nI (j + 1) := zu_self _ _ _ _
    generalize zu J2 33 f (nI (j + 1)) = K at hg hS3 hT3 hz hg3 z33
    have hK22 : K 22 h = nI num := by rw [hz 22 h (by omega) (by omega) (by omega) (by omega)]; exact h22
    have hbits : ((K 34 f >>> (((nI (cnt T b) - 1) - nI j) &&& 31)) &&& 1) = nI th.toNat := by
      have hlt := fbv_lt full
      have h64 : fbv full < 64 := Nat.lt_of_lt_of_le hlt (by rw [hfl]; exact Nat.pow_le_pow_right (by omega) (show cnt T b ≤ 6 by omega))
      rw [hz 34 f (by omega) (by omega) (by omega) (by omega), h34, show nI (cnt T b) - 1 = nI (cnt T b - 1) from nI_subs (a := cnt T b) (b := 1) (by omega), nI_subs (by omega), nI_and31 (by omega), nI_shr (by omega) (by omega), show (1 : Int32) = nI 1 from rfl, nI_and (by have := Nat.div_le_self (fbv full) (2 ^ (cnt T b - 1 - j)); omega) (by omega), Nat.and_one_is_mod, ← hfl, fbv_bit full j (by omega), hget]
    have h66 : ∀ N, FM_goOnPacked_66 N (nI f) (nI h) (nI b) (nI j) (nI j) (T 8 b) K = if th = false then qb (FM_absent N (nI h) (nI b) (nI j) K) (fun v10 J11 => some ((), J11)) else FM_want N (nI (chd T (6 * b + j))) (nI h) (nI j) (zu K 22 h (nI (num + 1))) := by
      intro N
      unfold FM_goOnPacked_66
      rw [w1, if_neg (by rw [nI_eq (by omega) (by omega)]; omega), qk_t (qi_nI b160 (by omega)), nI_clamp (by omega), hT3 4 b (by omega) (by omega), if_pos k6, qk_t (qi_nI (by omega) (by omega)), qk_t (qi_nI b160 (by omega)), nI_clamp (by omega), hT3 8 b (by omega) (by omega), w1, hbits, e6]
      simp only [qk_t (qi_nI hh (show 100 < 2 ^ 31 by omega)), qk_t (qi_nI (show 6 * b + j < 960 by omega) (show 960 < 2 ^ 31 by omega)), nI_clamp (show 6 * b + j < 2 ^ 31 by omega), nI_clamp (show h < 2 ^ 31 by omega), hK22, nI_p1]
      rw [show zu K 22 h (nI (num + 1)) 13 (6 * b + j) = nI (chd T (6 * b + j)) from by rw [zu_at, if_neg (by omega), hT3 13 _ (by omega) (by omega)]; exact v1]
      cases th with
      | false => rw [if_pos (by decide), if_pos rfl]
      | true => rw [if_neg (by decide), if_neg (by decide), qb_id]
    have habs : ∀ N, FM_absent N (nI h) (nI b) (nI j) K = if T 14 (6 * b + j) = 0 then some ((), zu K 0 49 0) else if T 14 (6 * b + j) = 2 then qb (FM_adds N (nI (chd T (6 * b + j))) (nI h) (nI j) (T 15 (6 * b + j)) (zu K 22 h (nI (num + 1)))) (fun v7 J8 => some ((), J8)) else some ((), K) := by
      intro N
      unfold FM_absent FM_absent_23
      rw [e6]
      simp only [qk_t (qi_nI (show 6 * b + j < 960 by omega) (show 960 < 2 ^ 31 by omega)), qk_t (qi_nI hh (show 100 < 2 ^ 31 by omega)), nI_clamp (show 6 * b + j < 2 ^ 31 by omega), nI_clamp (show h < 2 ^ 31 by omega), hT3 14 _ (show 4 ≤ 14 by omega) (show 14 ≤ 15 by omega), hK22, nI_p1]
      by_cases c0 : T 14 (6 * b + j) = 0
      · rw [if_pos c0, if_pos c0]
        rw [if_neg (by rw [zu_at, if_neg (by omega), hT3 14 _ (by omega) (by omega), c0]; decide)]
      · rw [if_neg c0, if_neg c0]
        by_cases c2 : T 14 (6 * b + j) = 2
        · rw [if_pos c2, if_pos c2]
          rw [show zu K 22 h (nI (num + 1)) 13 (6 * b + j) = nI (chd T (6 * b + j)) from by rw [zu_at, if_neg (by omega), hT3 13 _ (by omega) (by omega)]; exact v1, show zu K 22 h (nI (num + 1)) 15 (6 * b + j) = T 15 (6 * b + j) from by rw [zu_at, if_neg (by omega), hT3 15 _ (by omega) (by omega)]]
        · rw [if_neg c2, if_neg c2]
    have hS4 : hS T (zu K 22 h (nI (num + 1))) src L i o p (f + 1) := hS_num hS3
    have hK1 : ∀ c' x, c' ≠ 0 → c' ≠ 16 → c' ≠ 17 → ¬ (c' = 33 ∧ x = f) → ¬ (c' = 22 ∧ x = h) → zu K 22 h (nI (num + 1)) c' x = J c' x := fun c' x q1 q2 q3 q4 q5 => by rw [zu_at, if_neg q5, hz c' x q1 q2 q3 q4]
    have hg4 : mGh J (zu K 22 h (nI (num + 1))) h i o f := mGh_trans hg3 (mGh_num (i := i) (o := o) (f := f)) (Nat.le_refl _) (Nat.le_refl _) (Nat.le_refl _)
    have z334 : zu K 22 h (nI (num + 1)) 33 f = nI (j + 1) := by rw [zu_at, if_neg (by omega)]; exact z33
    cases th with
    | false =>
      simp only [if_true] at h66
      by_cases c1 : T 14 (6 * b + j) = 1
      · -- optional
        have c0 : ¬ T 14 (6 * b + j) = 0 := by rw [c1]; decide
        have c2 : ¬ T 14 (6 * b + j) = 2 := by rw [c1]; decide
        simp only [habs, if_neg c0, if_neg c2, qb_some] at h66
        have hstep : goS2 J K := ⟨hgo.1, hgo.2, ev_mono hg (fun N hN => by rw [hN, if_pos k6, h66])⟩
        have g := ih (j + 1) i o p num K hdr' (by omega) (by omega) hi hS3 (by rw [hz 31 f (by omega) (by omega) (by omega) (by omega)]; exact h31) (by rw [hz 21 h (by omega) (by omega) (by omega) (by omega)]; exact h21) hK22 z33 (by rw [hz 34 f (by omega) (by omega) (by omega) (by omega)]; exact h34)
        have hY : YC T src L n b h (false :: ths) j i o p num = YC T src L n b h ths (j + 1) i o p num := by
          unfold YC
          conv => lhs; unfold rpC
          rw [if_pos rfl, if_pos c1]
          cases rpC T false (rdP T src false n) b (nI h) (8 * L) ths (j + 1) i o p <;> rfl
        rw [hY]
        exact hX_step hg3 (Rch2_step hstep (Rch2_refl _)) (Nat.le_refl _) g
      · by_cases c2 : T 14 (6 * b + j) = 2
        · have c0 : ¬ T 14 (6 * b + j) = 0 := by rw [c2]; decide
          simp only [habs, if_neg c0, if_pos c2] at h66
          by_cases hi100 : i < 100
          · obtain ⟨J4, d1, d2, d3, d4, d5, d6, d7⟩ := h_adds hS4 hi100 (chd T (6 * b + j)) (nI h) j (T 15 (6 * b + j))
            simp only [d1, qb_some] at h66
            have hstep : goS2 J J4 := ⟨hgo.1, hgo.2, ev_mono hg (fun N hN => by rw [hN, if_pos k6, h66])⟩
            have hgh : mGh J J4 h i o f := mGh_trans hg4 (mGh_of ⟨d2.1, d2.2.1, d2.2.2.1, fun c k c1 c2 hk => d2.2.2.2 c k c1 c2 (by omega)⟩) (by omega) (by omega) (by omega)
            have g := ih (j + 1) (i + 1) o p (num + 1) J4 hdr' (by omega) (by omega) (by omega) d3 (by rw [d7 31 f (by omega), hK1 31 f (by omega) (by omega) (by omega) (by omega) (by omega)]; exact h31) (by rw [d2.2.1 21 h (by omega) (by omega) hi, hK1 21 h (by omega) (by omega) (by omega) (by omega) (by omega)]; exact h21) (by rw [d2.2.1 22 h (by omega) (by omega) hi, zu_self]) (by rw [d7 33 f (by omega)]; exact z334) (by rw [d7 34 f (by omega), hK1 34 f (by omega) (by omega) (by omega) (by omega) (by omega)]; exact h34)
            have hrd : rpC T false (rdP T src false n) b (nI h) (8 * L) (false :: ths) j i o p = (rpC T false (rdP T src false n) b (nI h) (8 * L) ths (j + 1) (i + 1) o p).bind fun q => some (q.1, q.2.1 + 1, q.2.2.1, false :: q.2.2.2.1, rcat ([mkP (chd T (6 * b + j)) (bas T 6 (chd T (6 * b + j))) (T 15 (6 * b + j)) j (nI h) o 0 1], [], [], pnil) q.2.2.2.2) := by
              conv => lhs; unfold rpC
              rw [if_pos rfl, if_neg c1, if_pos ⟨c2, hi100⟩]
            unfold YC at g ⊢
            rw [hrd]
            cases hr : rpC T false (rdP T src false n) b (nI h) (8 * L) ths (j + 1) (i + 1) o p with
            | none =>
              rw [hr] at g
              obtain ⟨J6, z1, z2, z3⟩ := g.1 rfl
              exact hX_none (Rch2_step hstep z1) z2 (mK_trans hgh.1 z3)
            | some q =>
              rw [hr] at g
              obtain ⟨J6, z1, z2, z3, z4, z5, z6, z7⟩ := g.2 _ rfl
              refine hX_some (J2 := J6) (Rch2_step hstep z1) (mGh_trans hgh z2 (by omega) (by omega) (by omega)) ?_ z4 ?_ (mH_apph (l1 := [_]) hi (mH_one d4) z2 z6) z7
              · show hS T J6 src L (i + ([_] ++ q.2.2.2.2.1).length) (o + ([] ++ q.2.2.2.2.2.1).length) q.1 f
                rw [List.length_append, List.nil_append, ← Nat.add_assoc]
                exact z3
              · rw [z5]
                show nI (num + 1 + q.2.1) = nI (num + (q.2.1 + 1))
                rw [show num + 1 + q.2.1 = num + (q.2.1 + 1) by omega]
          · simp only [h_adds0 hS4 hi100, qb_some] at h66
            have hstep : goS2 J (zu (zu K 22 h (nI (num + 1))) 0 49 0) := ⟨hgo.1, hgo.2, ev_mono hg (fun N hN => by rw [hN, if_pos k6, h66])⟩
            have hY : YC T src L n b h (false :: ths) j i o p num = none := by
              unfold YC rpC
              rw [if_pos rfl, if_neg c1, if_neg (fun q => hi100 q.2)]
              rfl
            rw [hY]
            exact hX_none (Rch2_step hstep (Rch2_refl _)) (zu_self _ _ _ _) (mK_trans hg4.1 (mK_zu (mW_f (by omega))))
        · have c0 : T 14 (6 * b + j) = 0 := by
            rcases w10 j hjlt with z | z | z
            · exact z
            · exact absurd z c1
            · exact absurd z.1 c2
          simp only [habs, if_pos c0, qb_some] at h66
          have hstep : goS2 J (zu K 0 49 0) := ⟨hgo.1, hgo.2, ev_mono hg (fun N hN => by rw [hN, if_pos k6, h66])⟩
          have hY : YC T src L n b h (false :: ths) j i o p num = none := by
            unfold YC rpC
            rw [if_pos rfl, if_neg c1, if_neg (fun q => c2 q.1)]
            rfl
          rw [hY]
          exact hX_none (Rch2_step hstep (Rch2_refl _)) (zu_self _ _ _ _) (mK_trans hg3.1 (mK_zu (mW_f (by omega))))
    | true =>
      have nf : ¬ true = false := by decide
      simp only [if_neg nf] at h66
      obtain ⟨J4, e1, e2⟩ := hE (chd T (6 * b + j)) (nI h) j i o p (f + 1) _ v2 hS4 (by omega)
      have hstep : goS2 J J4 := ⟨hgo.1, hgo.2, ev_mono (ev_and hg e1) (fun N hN => by rw [hN.1, if_pos k6, h66, hN.2])⟩
      cases hr : rdP T src false n (chd T (6 * b + j)) (chd T (6 * b + j)) none (nI h) j i o (8 * L) p with
      | none =>
        have hY : YC T src L n b h (true :: ths) j i o p num = none := by
          unfold YC rpC
          rw [if_neg nf, hr]
          rfl
        rw [hY]
        obtain ⟨J6, z1, z2, z3⟩ := e2.1 hr
        exact hX_none (Rch2_step hstep z1) z2 (mK_trans hg4.1 z3)
      | some r =>
        obtain ⟨J5, q1, q2, q3, q4, q5, q6⟩ := e2.2 r hr
        have hgh : mGh J J5 h i o f := mGh_trans hg4 (mGh_of ⟨q2.1, q2.2.1, q2.2.2.1, fun c k c1 c2 hk => q2.2.2.2 c k c1 c2 (by omega)⟩) (Nat.le_refl _) (Nat.le_refl _) (Nat.le_refl _)
        have g := ih (j + 1) (i + r.2.1.length) (o + r.2.2.1.length) r.1 (num + 1) J5 hdr' (by omega) (by omega) (by omega) q3 (by rw [q2.2.2.2 31 f (by omega) (by omega) (by omega), hK1 31 f (by omega) (by omega) (by omega) (by omega) (by omega)]; exact h31) (by rw [q2.2.1 21 h (by omega) (by omega) hi, hK1 21 h (by omega) (by omega) (by omega) (by omega) (by omega)]; exact h21) (by rw [q2.2.1 22 h (by omega) (by omega) hi, zu_self]) (by rw [q2.2.2.2 33 f (by omega) (by omega) (by omega)]; exact z334) (by rw [q2.2.2.2 34 f (by omega) (by omega) (by omega), hK1 34 f (by omega) (by omega) (by omega) (by omega) (by omega)]; exact h34)
        have hY : (YC T src L n b h ths (j + 1) (i + r.2.1.length) (o + r.2.2.1.length) r.1 (num + 1) = none → YC T src L n b h (true :: ths) j i o p num = none) ∧ (∀ y, YC T src L n b h ths (j + 1) (i + r.2.1.length) (o + r.2.2.1.length) r.1 (num + 1) = some y → ∃ x, YC T src L n b h (true :: ths) j i o p num = some x ∧ x.1 = y.1 ∧ x.2.1 = y.2.1 ∧ x.2.2.1 = r.2.1 ++ y.2.2.1 ∧ x.2.2.2.1 = r.2.2.1 ++ y.2.2.2.1) := by
          have hu : rpC T false (rdP T src false n) b (nI h) (8 * L) (true :: ths) j i o p = if T 14 (6 * b + j) = 2 ∧ hdV r.2.1 = T 15 (6 * b + j) then (rpC T false (rdP T src false n) b (nI h) (8 * L) ths (j + 1) (i + r.2.1.length) (o + r.2.2.1.length) r.1).bind (fun q => some (q.1, q.2.1 + 1, q.2.2.1, false :: q.2.2.2.1, rcat (r.2.1, r.2.2.1, [], pnil) q.2.2.2.2)) else (rpC T false (rdP T src false n) b (nI h) (8 * L) ths (j + 1) (i + r.2.1.length) (o + r.2.2.1.length) r.1).bind (fun q => some (q.1, q.2.1 + 1, 2 ^ j + q.2.2.1, (if T 14 (6 * b + j) = 0 then q.2.2.2.1 else true :: q.2.2.2.1), rcat r.2 q.2.2.2.2)) := by
            conv => lhs; unfold rpC
            rw [if_neg nf, hr, Option.bind_some, if_neg (show ¬ false = true by decide)]
          unfold YC
          rw [hu]
          cases hq : rpC T false (rdP T src false n) b (nI h) (8 * L) ths (j + 1) (i + r.2.1.length) (o + r.2.2.1.length) r.1 with
          | none =>
            refine ⟨fun _ => ?_, fun y hy => (by cases hy)⟩
            split <;> rfl
          | some q =>
            refine ⟨fun hy => (by cases hy), fun y hy => ?_⟩
            injection hy with hy
            subst hy
            split
            · refine ⟨_, rfl, rfl, ?_, rfl, rfl⟩
              show num + (q.2.1 + 1) = num + 1 + q.2.1
              omega
            · refine ⟨_, rfl, rfl, ?_, rfl, rfl⟩
              show num + (q.2.1 + 1) = num + 1 + q.2.1
              omega
        cases hy : YC T src L n b h ths (j + 1) (i + r.2.1.length) (o + r.2.2.1.length) r.1 (num + 1) with
        | none =>
          rw [hY.1 hy]
          obtain ⟨J6, z1, z2, z3⟩ := g.1 hy
          exact hX_none (Rch2_trans (Rch2_step hstep q1) z1) z2 (mK_trans hgh.1 z3)
        | some y =>
          obtain ⟨x, x0, x1, x2, x3, x4⟩ := hY.2 y hy
          rw [x0]
          obtain ⟨J6, z1, z2, z3, z4, z5, z6, z7⟩ := g.2 y hy
          refine hX_some (J2 := J6) (Rch2_trans (Rch2_step hstep q1) z1) (mGh_trans hgh z2 (by omega) (by omega) (by omega)) ?_ (by rw [x1]; exact Nat.le_trans q4 z4) (by rw [x2]; exact z5) (by rw [x3]; exact mH_apph hi q5 z2 z6) (by rw [x4]; exact mO_apph q6 z2 z7)
          rw [x1, x3, x4, List.length_append, List.length_append, ← Nat.add_assoc, ← Nat.add_assoc]
          exact z3
