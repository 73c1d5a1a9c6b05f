/-! COMPILING: members together: clashes, ranks, the finished type -/
def mC (M : zM) (J : zJ) (S R : Nat → Bool) (x t k : Nat) (bs xs us hs : Nat → Nat) : Prop := (∀ j, j < k → zsh M (bs j) = some (.inl 1) ∧ S (bs j) = false ∧ zr M (bs j) 0 = some (xs j) ∧ zi M (bs j) 1 = nI j ∧ zr M (bs j) 5 = (if j + 1 < k then some (bs (j + 1)) else none) ∧ zi M (bs j) 4 = 0 ∧ J 13 (6 * t + j) = nI (us j) ∧ dT M J S R (xs j) (us j) (hs j)) ∧ (∀ i j, i < k → j < k → bs i = bs j → i = j) ∧ zr M x 10 = (if 0 < k then some (bs 0) else none) ∧ zr M x 11 = (if k = 0 then none else some (bs (k - 1)))
def mMd (M : zM) (J : zJ) (R : Nat → Bool) (t k : Nat) (bs us : Nat → Nat) : Prop := ∀ j, j < k → zi M (bs j) 2 = J 14 (6 * t + j) ∧ (J 14 (6 * t + j) = 0 ∨ J 14 (6 * t + j) = 1 ∨ (J 14 (6 * t + j) = 2 ∧ (J 4 (bas (jcut J R) 6 (us j)) = 1 ∨ J 4 (bas (jcut J R) 6 (us j)) = 2) ∧ zi M (bs j) 3 = J 15 (6 * t + j)))
theorem dT_tag {M : zM} {J : zJ} {S R : Nat → Bool} {a t ht : Nat} (h : dT M J S R a t ht) : zi M a 6 = cTag (J 9 t) ∧ mOk (J 9 t) ∧ J 9 t ≠ 0 := by
  have hR := dT_lt h
  obtain ⟨h1, h2, -⟩ := h
  have e : jcut J R 9 t = J 9 t := jcut_o (by omega)
  have g1 := h2.2.2.2.2.1
  have g2 := h1.2.2.2.2.1
  have g3 := h1.2.2.2.2.2.1
  rw [e] at g1 g2 g3
  exact ⟨g1, g3, g2⟩
theorem mC_tag {M : zM} {J : zJ} {S R : Nat → Bool} {x t k : Nat} {bs xs us hs : Nat → Nat} (h : mC M J S R x t k bs xs us hs) {j : Nat} (hj : j < k) (N : Nat) : FK_tags N M (bs j) = some (cTag (J 9 (us j))) := by
  obtain ⟨h1, h2, h3, h4, h5, h6, h7, h8⟩ := h.1 j hj
  unfold FK_tags
  rw [h3, if_neg (by simp), qo_s rfl (dT_in h8).2, (dT_tag h8).1]
/-- does a set of tags meet one that went before -/
def clF (md : Nat → Bool) (tg : Nat → Int32) : Nat → Nat → Int32 → Bool
  | 0, _, _ => false
  | m + 1, j, acc => if acc &&& tg j = 0 then clF md tg m (j + 1) (if md j = true then 0 else acc ||| tg j) else true
def clU (tg : Nat → Int32) : Nat → Nat → Int32 → Int32
  | 0, _, acc => acc
  | m + 1, j, acc => clU tg m (j + 1) (acc ||| tg j)
def chn (k : Nat) (bs : Nat → Nat) (j : Nat) : Option Nat := if j < k then some (bs j) else none
theorem chn_n {k j : Nat} {bs : Nat → Nat} (h : ¬ j < k) : chn k bs j = none := if_neg h
theorem chn_s {k j : Nat} {bs : Nat → Nat} (h : j < k) : chn k bs j = some (bs j) := if_pos h
theorem clF_c {md md' : Nat → Bool} {tg : Nat → Int32} : ∀ m j acc, (∀ i, j ≤ i → i < j + m → md i = md' i) → clF md tg m j acc = clF md' tg m j acc := by
  intro m
  induction m with
  | zero => intro j acc _; rfl
  | succ m ih =>
    intro j acc h
    unfold clF
    rw [h j (by omega) (by omega), ih (j + 1) _ (fun i h1 h2 => h i (by omega) (by omega))]
theorem c_compC {M : zM} {J : zJ} {S R : Nat → Bool} {x t k : Nat} {bs xs us hs : Nat → Nat} (h : mC M J S R x t k bs xs us hs) (h2 : ∀ j, j < k → zi M (bs j) 2 = J 14 (6 * t + j)) : ∀ m j acc, j + m = k → mOk acc → ∀ N F, m + 1 ≤ F → qfix (FC_componentsClash_7 N M) F (cTag acc, chn k bs j) = some (clF (fun j => decide (J 14 (6 * t + j) = 0)) (fun j => J 9 (us j)) m j acc) := by
  intro m
  induction m with
  | zero =>
    intro j acc hj hm N F hF
    obtain ⟨F, rfl⟩ : ∃ g, F = g + 1 := ⟨F - 1, by omega⟩
    rw [qfix_s, chn_n (by omega)]
    simp only [FC_componentsClash_7]
    rw [if_pos trivial]
    rfl
  | succ m ih =>
    intro j acc hj hm N F hF
    obtain ⟨F, rfl⟩ : ∃ g, F = g + 1 := ⟨F - 1, by omega⟩
    have hjk : j < k := by omega
    obtain ⟨e1, e2, e3, e4, e5, e6, e7, e8⟩ := h.1 j hjk
    have ht := mC_tag h hjk N
    have hd := dT_tag e8
    have e5' : zr M (bs j) 5 = chn k bs (j + 1) := e5
    rw [qfix_s, chn_s hjk]
    simp only [FC_componentsClash_7]
    rw [if_neg (by simp), qo_s rfl e1, ht, qc_some]
    unfold clF
    by_cases c : acc &&& J 9 (us j) = 0
    · rw [if_pos ((cTag_dis hm).mpr c), if_pos c, qo_s rfl e1, h2 j hjk]
      by_cases c0 : J 14 (6 * t + j) = 0
      · rw [if_pos c0, qo_s rfl e1, e5', if_pos (decide_eq_true c0)]
        have := ih (j + 1) 0 (by omega) mOk_0 N F (by omega)
        rw [cTag_z] at this
        exact this
      · rw [if_neg c0, qo_s rfl e1, ht, qc_some, qo_s rfl e1, e5', if_neg (by simp [c0]), ← cTag_or]
        exact ih (j + 1) _ (by omega) (mOk_or hm hd.2.1) N F (by omega)
    · rw [if_neg (fun z => c ((cTag_dis hm).mp z)), if_neg c]
theorem c_altC {M : zM} {J : zJ} {S R : Nat → Bool} {x t k : Nat} {bs xs us hs : Nat → Nat} (h : mC M J S R x t k bs xs us hs) : ∀ m j acc, j + m = k → mOk acc → ∀ N F, m + 1 ≤ F → qfix (FC_alternativesClash_7 N M) F (cTag acc, chn k bs j) = some (clF (fun _ => false) (fun j => J 9 (us j)) m j acc) := by
  intro m
  induction m with
  | zero =>
    intro j acc hj hm N F hF
    obtain ⟨F, rfl⟩ : ∃ g, F = g + 1 := ⟨F - 1, by omega⟩
    rw [qfix_s, chn_n (by omega)]
    simp only [FC_alternativesClash_7]
    rw [if_pos trivial]
    rfl
  | succ m ih =>
    intro j acc hj hm N F hF
    obtain ⟨F, rfl⟩ : ∃ g, F = g + 1 := ⟨F - 1, by omega⟩
    have hjk : j < k := by omega
    obtain ⟨e1, e2, e3, e4, e5, e6, e7, e8⟩ := h.1 j hjk
    have ht := mC_tag h hjk N
    have hd := dT_tag e8
    have e5' : zr M (bs j) 5 = chn k bs (j + 1) := e5
    rw [qfix_s, chn_s hjk]
    simp only [FC_alternativesClash_7]
    rw [if_neg (by simp), qo_s rfl e1, ht, qc_some]
    unfold clF
    by_cases c : acc &&& J 9 (us j) = 0
    · rw [if_pos ((cTag_dis hm).mpr c), if_pos c, qo_s rfl e1, ht, qc_some, qo_s rfl e1, e5', if_neg (by simp), ← cTag_or]
      exact ih (j + 1) _ (by omega) (mOk_or hm hd.2.1) N F (by omega)
    · rw [if_neg (fun z => c ((cTag_dis hm).mp z)), if_neg c]
/-- the reference's loop -/
theorem m_clash {J : zJ} {t k kd : Nat} {us : Nat → Nat} (hk : kd = 6 ∨ kd = 9) (ht : t < 160) (hk6 : k ≤ 6) (h4 : J 4 t = nI kd) (h8 : J 8 t = nI k) (h13 : ∀ j, j < k → J 13 (6 * t + j) = nI (us j) ∧ us j < 160) : ∀ m j acc fl, j + m = k → ∀ N F, m + 1 ≤ F → qfix (FM_clashes_10 N (nI t)) F (bI fl, acc, nI (6 * t + j), J) = some (fl || clF (fun j => decide (kd = 6 ∧ J 14 (6 * t + j) = 0)) (fun j => J 9 (us j)) m j acc, if kd = 9 then zu J 9 t (clU (fun j => J 9 (us j)) m j acc) else J) := by
  have qt : qi (nI t) 160 = true := qi_nI ht (by omega)
  have ct : (nI t).toNatClampNeg = t := nI_clamp (by omega)
  have e6 : (6 : Int32) * nI t + nI k = nI (6 * t + k) := by rw [show (6 : Int32) = nI 6 from rfl, nI_mul, nI_add]
  have qz_b : ∀ {β : Type} (b : Bool) (f : Bool → Option β), qz (bI b) f = f b := by
    intro β b f
    cases b
    · exact qz_0 f
    · exact qz_1 f
  intro m
  induction m with
  | zero =>
    intro j acc fl hj N F hF
    obtain ⟨F, rfl⟩ : ∃ g, F = g + 1 := ⟨F - 1, by omega⟩
    rw [qfix_s]
    simp only [FM_clashes_10]
    rw [qk_t qt, ct, h8, e6, if_pos (by rw [nI_leI (by omega) (by omega)]; omega), qk_t qt, h4, qk_t qt, qz_b, qz_b]
    show _ = some (fl || false, _)
    rw [Bool.or_false]
    rcases hk with rfl | rfl
    · rw [if_neg (by decide), if_neg (by omega)]
    · rw [if_pos (by decide), if_pos rfl]
      rfl
  | succ m ih =>
    intro j acc fl hj N F hF
    obtain ⟨F, rfl⟩ : ∃ g, F = g + 1 := ⟨F - 1, by omega⟩
    obtain ⟨u1, u2⟩ := h13 j (by omega)
    have q960 : qi (nI (6 * t + j)) 960 = true := qi_nI (by omega) (by omega)
    have c960 : (nI (6 * t + j)).toNatClampNeg = 6 * t + j := nI_clamp (by omega)
    have qu : qi (nI (us j)) 160 = true := qi_nI u2 (by omega)
    have cu : (nI (us j)).toNatClampNeg = us j := nI_clamp (by omega)
    have h52 : ∀ fl', FM_clashes_52 N (qfix (FM_clashes_10 N (nI t)) F) (nI t) acc (nI (6 * t + j)) (bI fl') J = qfix (FM_clashes_10 N (nI t)) F (bI fl', (if decide (kd = 6 ∧ J 14 (6 * t + j) = 0) = true then 0 else acc ||| J 9 (us j)), nI (6 * t + (j + 1)), J) := by
      intro fl'
      unfold FM_clashes_52 FM_clashes_78
      rw [qk_t qt, ct, h4, qk_t q960, c960, u1, qk_t q960, qk_t qu, cu, nI_add1, Nat.add_assoc]
      by_cases k6 : kd = 6
      · rw [if_pos (by rw [k6]; rfl)]
        by_cases c0 : J 14 (6 * t + j) = 0
        · rw [if_pos c0, if_pos (decide_eq_true ⟨k6, c0⟩)]
        · rw [if_neg c0, if_neg (by simp [c0])]
      · rw [if_neg (by rw [show (6 : Int32) = nI 6 from rfl, nI_eq (by omega) (by omega)]; exact k6), if_neg (by simp [k6])]
    have acc9 : kd = 9 → (if decide (kd = 6 ∧ J 14 (6 * t + j) = 0) = true then (0 : Int32) else acc ||| J 9 (us j)) = acc ||| J 9 (us j) := fun k9 => if_neg (by rw [k9]; simp)
    have hU : (if kd = 9 then zu J 9 t (clU (fun j => J 9 (us j)) (m + 1) j acc) else J) = (if kd = 9 then zu J 9 t (clU (fun j => J 9 (us j)) m (j + 1) (if decide (kd = 6 ∧ J 14 (6 * t + j) = 0) = true then (0 : Int32) else acc ||| J 9 (us j))) else J) := by
      by_cases k9 : kd = 9
      · rw [if_pos k9, if_pos k9, acc9 k9]
        rfl
      · rw [if_neg k9, if_neg k9]
    rw [qfix_s]
    simp only [FM_clashes_10]
    rw [qk_t qt, ct, h8, e6, if_neg (by rw [nI_leI (by omega) (by omega)]; omega), qk_t q960, c960, u1, qk_t qu, cu, hU]
    unfold clF
    have h52z : FM_clashes_52 N (qfix (FM_clashes_10 N (nI t)) F) (nI t) acc (nI (6 * t + j)) 0 J = _ := h52 false
    have h521 : FM_clashes_52 N (qfix (FM_clashes_10 N (nI t)) F) (nI t) acc (nI (6 * t + j)) 1 J = _ := h52 true
    cases fl with
    | true =>
      rw [if_neg (by decide), h521, ih (j + 1) _ true (by omega) N F (by omega), Bool.true_or, Bool.true_or]
    | false =>
      rw [if_pos (by decide), Bool.false_or]
      by_cases c : acc &&& J 9 (us j) = 0
      · rw [if_pos c, if_pos c, h52z, ih (j + 1) _ false (by omega) N F (by omega), Bool.false_or]
      · rw [if_neg c, if_neg c, h521, ih (j + 1) _ true (by omega) N F (by omega), Bool.true_or]
theorem clF_dis {tg : Nat → Int32} : ∀ m j acc, clF (fun _ => false) tg m j acc = false → ∀ i, j ≤ i → i < j + m → acc &&& tg i = 0 ∧ ∀ i', i < i' → i' < j + m → tg i &&& tg i' = 0 := by
  intro m
  induction m with
  | zero => intro j acc _ i h1 h2; omega
  | succ m ih =>
    intro j acc h i h1 h2
    unfold clF at h
    by_cases c : acc &&& tg j = 0
    · rw [if_pos c, if_neg (by simp)] at h
      have hi := ih (j + 1) _ h
      have hor : ∀ z, (acc ||| tg j) &&& z = 0 → acc &&& z = 0 ∧ tg j &&& z = 0 := by
        intro z hz
        refine ⟨tb_ext (fun k hk => ?_), tb_ext (fun k hk => ?_)⟩
        · have := congrArg (fun w => tb w k) hz
          simp only [tb_and, tb_or, tb_0] at this
          rw [tb_and, tb_0]
          cases h1 : tb acc k <;> cases h2 : tb z k <;> simp_all
        · have := congrArg (fun w => tb w k) hz
          simp only [tb_and, tb_or, tb_0] at this
          rw [tb_and, tb_0]
          cases h1 : tb (tg j) k <;> cases h2 : tb z k <;> simp_all
      by_cases hij : i = j
      · subst hij
        exact ⟨c, fun i' g1 g2 => (hor _ (hi i' (by omega) (by omega)).1).2⟩
      · obtain ⟨q1, q2⟩ := hi i (by omega) (by omega)
        exact ⟨(hor _ q1).1, fun i' g1 g2 => q2 i' g1 (by omega)⟩
    · rw [if_neg c] at h
      cases h
theorem clU_ok {tg : Nat → Int32} : ∀ m j acc, mOk acc → (∀ i, j ≤ i → i < j + m → mOk (tg i)) → mOk (clU tg m j acc) := by
  intro m
  induction m with
  | zero => intro j acc h _; exact h
  | succ m ih =>
    intro j acc h ht
    exact ih (j + 1) _ (mOk_or h (ht j (by omega) (by omega))) (fun i h1 h2 => ht i (by omega) (by omega))
theorem clU_ne {tg : Nat → Int32} : ∀ m j acc, (acc ≠ 0 ∨ (0 < m ∧ tg j ≠ 0)) → clU tg m j acc ≠ 0 := by
  intro m
  induction m with
  | zero =>
    intro j acc h
    rcases h with h | h
    · exact h
    · omega
  | succ m ih =>
    intro j acc h
    refine ih (j + 1) _ (Or.inl (fun z => ?_))
    have hb : ∀ k, tb acc k = false ∧ tb (tg j) k = false := by
      intro k
      have := congrArg (fun w => tb w k) z
      simp only [tb_or, tb_0] at this
      cases h1 : tb acc k <;> cases h2 : tb (tg j) k <;> simp_all
    rcases h with h | h
    · exact h (tb_ext (fun k _ => by rw [(hb k).1, tb_0]))
    · exact h.2 (tb_ext (fun k _ => by rw [(hb k).2, tb_0]))
theorem clU_s {tg : Nat → Int32} : ∀ m j acc, clU tg (m + 1) j acc = clU tg m j acc ||| tg (j + m) := by
  intro m
  induction m with
  | zero => intro j acc; rfl
  | succ m ih =>
    intro j acc
    show clU tg (m + 1) (j + 1) (acc ||| tg j) = clU tg m (j + 1) (acc ||| tg j) ||| _
    rw [ih (j + 1), show j + 1 + m = j + (m + 1) by omega]
