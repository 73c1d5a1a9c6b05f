/-! THE CLASS writes strictly: all of it -/
theorem s_items {M : zM} {T : zJ} {n u a b f h ins tot mT : Nat} {par : Int32} (hE : sE M T n f ins) (hsh : zsh M a = some (.inl 6)) (h9 : zr M a 9 = some b) (hw : wfT T n u) (hr : rep M T n b u) (hh : h < 100) (hm : mT < 1000) :
    ∀ m k i o bl os e pk D pos fl, k + m = mT → WVL (WV T n) u par m k i o bl os e pk → D 18 h = nI mT → sH T D tot i o bl os → sS D pos i fl →
      ∃ D', Ev (fun N => ∀ F, m + 1 ≤ F → qfix (FS_writeContent_155 N M (RS_writeElement N M f) (some a) (nI ins) (nI h)) F (nI k, D) = some ((), D')) ∧ wP D D' pos fl e (i + bl.length) := by
  intro m
  induction m with
  | zero =>
    intro k i o bl os e pk D pos fl hk hv h18 hH hS
    obtain ⟨rfl, rfl, rfl, _⟩ := hv
    refine ⟨D, ev_of (fun N F hF => ?_), wP_nil hS⟩
    obtain ⟨F, rfl⟩ : ∃ g, F = g + 1 := ⟨F - 1, by omega⟩
    show FS_writeContent_155 N M _ _ _ _ _ (nI k, D) = _
    simp only [FS_writeContent_155]
    rw [qk_t (qi_nI hh (by omega)), nI_clamp (by omega), h18, if_pos (by rw [nI_leI (by omega) (by omega)]; omega)]
  | succ m ih =>
    intro k i o bl os e pk D pos fl hk hv h18 hH hS
    obtain ⟨b1, os1, e1, k1, b', os', c', pk', hv1, rfl, rfl, rfl, _, hv⟩ := hv
    obtain ⟨hH1, hH2⟩ := sH_app hH
    obtain ⟨D1, r1, r2⟩ := hE b u par k i o b1 os1 e1 k1 D pos fl tot hw hr hv1 hH1 hS
    obtain ⟨p1, f1, s1, s2⟩ := wP_next r2
    obtain ⟨D', q1, q2⟩ := ih (k + 1) (i + b1.length) (o + os1.length) b' os' c' pk' D1 p1 f1 (by omega) hv (by rw [r2.1 18 (by omega) (by omega)]; exact h18) (sH_wK r2.1 hH2) s1
    refine ⟨D', ev_mono (ev_and r1 q1) (fun N hN F hF => ?_), ?_⟩
    · obtain ⟨F, rfl⟩ : ∃ g, F = g + 1 := ⟨F - 1, by omega⟩
      show FS_writeContent_155 N M _ _ _ _ _ (nI k, D) = _
      simp only [FS_writeContent_155]
      rw [qk_t (qi_nI hh (by omega)), nI_clamp (by omega), h18, if_neg (by rw [nI_leI (by omega) (by omega)]; omega), qo_s rfl hsh, h9, nI_p1, hN.1, qb_some, nI_p1, hN.2 F (by omega)]
    · have := s2 _ _ _ q2
      rw [List.length_append, ← Nat.add_assoc]
      exact this
theorem c_octAt {M : zM} {D : zJ} {tot h o k b : Nat} {os : List Nat} (h0 : D 16 0 = nI tot) (ht : h < tot) (ht2 : tot ≤ 100) (h17 : D 17 h = 4) (h18 : D 18 h = nI os.length) (h21 : D 21 h = nI o) (hO : cO D o os) (ho : o + os.length ≤ 120) (hk : os[k]? = some b) (N : Nat) : FV_octetAt N M 16 (nI h) (nI k) D = some (nI b, D) := by
  have hlt : k < os.length := (List.getElem?_eq_some_iff.mp hk).1
  unfold FV_octetAt
  rw [if_neg (by rw [show (0 : Int32) = nI 0 from rfl, nI_ltI (by omega) (by omega)]; omega), h0, if_neg (by rw [nI_leI (by omega) (by omega)]; omega), qk_t (qi_nI (by omega) (by omega)), nI_clamp (by omega), h17, if_pos rfl, if_neg (by rw [show (0 : Int32) = nI 0 from rfl, nI_ltI (by omega) (by omega)]; omega), qk_t (qi_nI (by omega) (by omega)), h18, if_pos (by rw [nI_ltI (by omega) (by omega)]; omega), qk_t (qi_nI (by omega) (by omega)), h21, nI_add, qk_t (qi_nI (by omega) (by omega)), nI_clamp (by omega), hO k b hk]
theorem s_octs {M : zM} {h o tot nx : Nat} {os : List Nat} (ht : h < tot) (ht2 : tot ≤ 100) (ho : o + os.length ≤ 120) :
    ∀ m k D pos fl, k + m = os.length → D 16 0 = nI tot → D 17 h = 4 → D 18 h = nI os.length → D 21 h = nI o → cO D o os → sS D pos nx fl →
      ∃ D', (∀ N F (rec : (Option Nat × Int32 × Int32 × zJ) → Option (Unit × zJ)), m + 1 ≤ F → qfix (FS_writeContent_105 N M rec (nI h)) F (nI k, D) = some ((), D')) ∧ wP D D' pos fl (os.drop k) nx := by
  intro m
  induction m with
  | zero =>
    intro k D pos fl hk h0 h17 h18 h21 hO hS
    refine ⟨D, fun N F rec hF => ?_, ?_⟩
    · obtain ⟨F, rfl⟩ : ∃ g, F = g + 1 := ⟨F - 1, by omega⟩
      show FS_writeContent_105 N M _ _ _ (nI k, D) = _
      simp only [FS_writeContent_105]
      rw [qk_t (qi_nI (by omega) (by omega)), nI_clamp (by omega), h18, if_pos (by rw [nI_leI (by omega) (by omega)]; omega)]
    · rw [List.drop_eq_nil_of_le (by omega)]
      exact wP_nil hS
  | succ m ih =>
    intro k D pos fl hk h0 h17 h18 h21 hO hS
    have hlt : k < os.length := by omega
    have hg : os[k]? = some os[k] := List.getElem?_eq_getElem hlt
    obtain ⟨D1, a1, a2⟩ := s_app hS os[k]
    obtain ⟨p1, f1, b1, b2⟩ := wP_next a2
    have hk1 := a2.1
    obtain ⟨D', q1, q2⟩ := ih (k + 1) D1 p1 f1 (by omega) (by rw [hk1 16 (by omega) (by omega)]; exact h0) (by rw [hk1 17 (by omega) (by omega)]; exact h17) (by rw [hk1 18 (by omega) (by omega)]; exact h18) (by rw [hk1 21 (by omega) (by omega)]; exact h21) (fun k b hb => by rw [hk1 23 (by omega) (by omega)]; exact hO k b hb) b1
    refine ⟨D', fun N F rec hF => ?_, ?_⟩
    · obtain ⟨F, rfl⟩ : ∃ g, F = g + 1 := ⟨F - 1, by omega⟩
      show FS_writeContent_105 N M _ _ _ (nI k, D) = _
      simp only [FS_writeContent_105]
      rw [qk_t (qi_nI (by omega) (by omega)), nI_clamp (by omega), h18, if_neg (by rw [nI_leI (by omega) (by omega)]; omega), c_octAt h0 ht ht2 h17 h18 h21 hO ho hg, qb_some, a1, qb_some, nI_p1]
      exact q1 N F rec (by omega)
    · rw [List.drop_eq_getElem_cons hlt]
      exact b2 _ _ _ q2
theorem qfix_s {σ β : Type} (B : (σ → Option β) → σ → Option β) (n : Nat) (s : σ) : qfix B (n + 1) s = B (qfix B n) s := rfl
theorem RS_s (N : Nat) (M : zM) (g : Nat) (s : Option Nat × Int32 × Int32 × zJ) : RS_writeElement N M (g + 1) s = FS_writeElement N M (RS_writeElement N M g) s.1 s.2.1 s.2.2.1 s.2.2.2 := by
  unfold RS_writeElement
  rw [qfix_s]
theorem s_unf {M : zM} {T D : zJ} {a t i ins tot : Nat} {dg : Option Nat} {rc : (Option Nat × Int32 × Int32 × zJ) → Option (Unit × zJ)} (e1 : zsh M a = some (.inl 6)) (e2 : zi M a 0 = T 4 t) (hins : ins < 6) (h3 : D 26 3 = nI i) (h0 : D 16 0 = nI tot) (hit : i < tot) (ht : tot ≤ 100) (N : Nat) : FS_writeElement N M rc (some a) (dgI dg) (nI ins) D = if T 4 t = 9 then FS_writeChoice N M rc (some a) (nI ins) D else if T 4 t = 10 then (if zi M a 5 = 0 then (if dgI dg = -1 then FS_writeElement_140 N M rc (nI ins) (zr M a 9) (zi M a 4) D else FS_writeElement_140 N M rc (nI ins) (zr M a 9) (dgI dg) D) else qc (FT_tagByte N M a (dgI dg)) fun v9 => qb (FS_beginElement N M v9 D) fun v10 J11 => qb (rc (zr M a 9, -1, nI ins + 1, J11)) fun v13 J14 => FS_endElement N M v10 J14) else qc (FT_tagByte N M a (dgI dg)) fun v18 => qb (FS_beginElement N M v18 D) fun v19 J20 => qb (FS_writeContent N M rc (some a) (nI ins) J20) fun v21 J22 => FS_endElement N M v19 J22 := by
  unfold FS_writeElement
  have hid : ∀ x : Option (Unit × zJ), (qb x fun v J => some ((), J)) = x := fun x => qb_id x
  simp only [qo_s rfl e1, e2, hid]
  rw [if_neg (by simp), if_neg (by rw [show (6 : Int32) = nI 6 from rfl, nI_leI (by omega) (by omega)]; omega), h3, h0, if_pos (by rw [nI_ltI (by omega) (by omega)]; omega)]
theorem s_elem {M : zM} {T : zJ} : ∀ n f a t t0 dg par wh i o blk os e pk D ins pos fl tot, n ≤ f → n + ins ≤ 6 → wfT T n t → rep M T n a t → (∀ d, dg = some d → d ≤ 9) → WV T n t t0 dg par wh i o blk os e pk → sH T D tot i o blk os → sS D pos i fl → ∃ D', Ev (fun N => RS_writeElement N M f (some a, dgI dg, nI ins, D) = some ((), D')) ∧ wP D D' pos fl e (i + blk.length) := by
  intro n
  induction n with
  | zero => intro f a t t0 dg par wh i o blk os e pk D ins pos fl tot _ _ hw; exact hw.elim
  | succ n ih =>
    intro f a t t0 dg par wh i o blk os e pk D ins pos fl tot hf hin hw hr hd hv hH hS
    obtain ⟨g, rfl⟩ : ∃ g, f = g + 1 := ⟨f - 1, by omega⟩
    obtain ⟨e1, e2, _⟩ := rep_sh hr
    have hE : sE M T n g ins := by
      intro a u par wh i o blk os e pk D pos fl tot hw hr hv hH hS
      exact ih g a u u none par wh i o blk os e pk D (ins + 1) pos fl tot (by omega) (by omega) hw hr (fun d hd => by cases hd) hv hH hS
    have hne := wv_ne _ _ _ _ _ _ _ _ _ _ _ _ hv
    have htot := hH.2.1
    have hitot := hH.2.2.1
    have hgo : ∀ N, RS_writeElement N M (g + 1) (some a, dgI dg, nI ins, D) = if T 4 t = 9 then FS_writeChoice N M (RS_writeElement N M g) (some a) (nI ins) D else if T 4 t = 10 then (if zi M a 5 = 0 then (if dgI dg = -1 then FS_writeElement_140 N M (RS_writeElement N M g) (nI ins) (zr M a 9) (zi M a 4) D else FS_writeElement_140 N M (RS_writeElement N M g) (nI ins) (zr M a 9) (dgI dg) D) else qc (FT_tagByte N M a (dgI dg)) fun v9 => qb (FS_beginElement N M v9 D) fun v10 J11 => qb (RS_writeElement N M g (zr M a 9, -1, nI ins + 1, J11)) fun v13 J14 => FS_endElement N M v10 J14) else qc (FT_tagByte N M a (dgI dg)) fun v18 => qb (FS_beginElement N M v18 D) fun v19 J20 => qb (FS_writeContent N M (RS_writeElement N M g) (some a) (nI ins) J20) fun v21 J22 => FS_endElement N M v19 J22 := by
      intro N
      rw [RS_s]
      exact s_unf e1 e2 (by omega) hS.2.1 hH.1 (by omega) htot N
    simp only [hgo]
    unfold WV WVb at hv
    rcases hv with ⟨k10, x, e1', hv, he⟩ | ⟨k10, x, hv⟩ | ⟨k9, k, b1, k1, hk, hb, hv, _⟩ | ⟨k6, num, sh, ma, b1, c, k1, hb, hv, he, _⟩ | ⟨k7, m, b1, c, k1, hm, hb, hv, he, _⟩ | hv
    · -- explicit tag
      have k9 : ¬ T 4 t = 9 := by rw [k10]; decide
      obtain ⟨w1, w2, w3, w4, w5⟩ := hw.2.2.2.2.2.2.2.1 k10
      obtain ⟨q1, q2, b, q3, q4⟩ := hr.2.2.2.2.2.2.1 k10
      have x' : ¬ zi M a 5 = 0 := by rw [q2, if_pos ((isX_iff T t).mp x)]; decide
      simp only [if_neg k9, if_pos k10, if_neg x', q3, nI_p1]
      obtain ⟨tb1, tb2⟩ := c_tgB hw hr hd k9
      obtain ⟨D1, pos1, fl1, g1, g2, g3, g4⟩ := s_begin hS (tgB T t dg)
      obtain ⟨D2, r1, r2⟩ := ih g b (chd T (6 * t)) t0 none par wh i o blk os e1' pk D1 (ins + 1) pos1 fl1 tot (by omega) (by omega) w5 q4 (fun d hd => by cases hd) hv (sH_wK g3 hH) g2
      obtain ⟨D3, s1, s2⟩ := s_wrap (tg := tgB T t dg) (nx := 0) hS.2.2.2 g3 g4 r2
      refine ⟨D3, ev_mono r1 (fun N hN => ?_), by rw [he]; exact s2⟩
      dsimp only [dgI] at hN
      rw [tb1, qc_some, g1, qb_some, hN, qb_some, s1]
    · -- implicit tag
      have k9 : ¬ T 4 t = 9 := by rw [k10]; decide
      obtain ⟨w1, w2, w3, w4, w5⟩ := hw.2.2.2.2.2.2.2.1 k10
      obtain ⟨q1, q2, b, q3, q4⟩ := hr.2.2.2.2.2.2.1 k10
      have x' : zi M a 5 = 0 := by rw [q2, if_neg (fun z => x ((isX_iff T t).mpr z))]
      simp only [if_neg k9, if_pos k10, if_pos x', q3, q1]
      obtain ⟨D', r1, r2⟩ := ih g b (chd T (6 * t)) t0 (some (dg.getD (dgt T t))) par wh i o blk os e pk D (ins + 1) pos fl tot (by omega) (by omega) w5 q4 (fun d hq => by
        injection hq with hq
        subst hq
        cases dg with
        | none => exact w2
        | some d => exact hd d rfl) hv hH hS
      refine ⟨D', ev_mono r1 (fun N hN => ?_), r2⟩
      unfold FS_writeElement_140
      have hid : ∀ x : Option (Unit × zJ), (qb x fun v J => some ((), J)) = x := fun x => qb_id x
      rw [hid, hid, nI_p1]
      cases dg with
      | none =>
        rw [if_pos (show dgI none = -1 from rfl), w1]
        exact hN
      | some d =>
        have := hd d rfl
        rw [if_neg (show dgI (some d) ≠ -1 from nI_n1 (by omega))]
        exact hN
    · -- choice
      simp only [if_pos k9]
      obtain ⟨w1, w2, w3⟩ := hw.2.2.2.2.2.2.2.2.1 (Or.inr k9)
      obtain ⟨q1, q2⟩ := hr.2.2.2.2.2.2.2 (Or.inr k9)
      subst hb
      obtain ⟨hH1, p17, p18, p21, p22, hi⟩ := sH_cons hH
      obtain ⟨mb, ma, m1, m2, m3, m4, m5⟩ := c_memAt (k := k) _ _ _ q2 (by omega) (by omega) (by omega)
      obtain ⟨D', r1, r2⟩ := hE ma (chd T (6 * t + k)) (nI i) 0 (i + 1) o b1 os e k1 (zu D 26 3 (nI (i + 1))) pos fl tot (w3 k hk).2 m4 hv (sH_wK wK_26 hH1) (sS_nx hS (i + 1))
      refine ⟨D', ev_mono (ev_and r1 ⟨cnt T t + 1, fun N hN => m1 N N (by omega)⟩) (fun N hN => ?_), ?_⟩
      · unfold FS_writeChoice FT_memberAt
        have hid : ∀ x : Option (Unit × zJ), (qb x fun v J => some ((), J)) = x := fun x => qb_id x
        rw [hS.2.1, qk_t (qi_nI hi (by omega)), qo_s rfl e1, nI_clamp (by omega), p18]
        show qc (qfix (FT_memberAt_5 N M (nI k)) N (zr M a 10)) _ = _
        rw [hN.2, qc_some, if_neg (by simp), qo_s rfl m2, m3, nI_p1, nI_p1, hid]
        exact hN.1
      · have := wP_nx r2
        rw [List.length_cons, show i + (b1.length + 1) = i + 1 + b1.length by omega]
        exact this
    · -- sequence
      have k9 : ¬ T 4 t = 9 := by rw [k6]; decide
      have k10 : ¬ T 4 t = 10 := by rw [k6]; decide
      simp only [if_neg k9, if_neg k10]
      obtain ⟨w1, w2, w3⟩ := hw.2.2.2.2.2.2.2.2.1 (Or.inl k6)
      obtain ⟨q1, q2⟩ := hr.2.2.2.2.2.2.2 (Or.inl k6)
      obtain ⟨tb1, tb2⟩ := c_tgB hw hr hd k9
      obtain ⟨D1, pos1, fl1, g1, g2, g3, g4⟩ := s_begin hS (tgB T t dg)
      subst hb
      obtain ⟨hH1, p17, p18, p21, p22, hi⟩ := sH_cons hH
      have hsh := wvc_sh _ _ _ _ _ _ _ _ _ _ _ (by omega) hv
      have hsh64 : sh < 64 := by
        have : 2 ^ (0 + cnt T t) ≤ 2 ^ 6 := Nat.pow_le_pow_right (by omega) (by omega)
        omega
      obtain ⟨D2, r1, r2⟩ := s_comps (h := i) (shT := sh) (tot := tot) k6 hE hi hsh64 (cnt T t) 0 (zr M a 10) (i + 1) o b1 os c ma k1 num sh 0 (zu D1 26 3 (nI (i + 1))) pos1 fl1 q2 (fun j' hj' => (w3 j' (by omega)).2) (by omega) hv (by omega) (by decide) (by rw [zu_at, if_neg (by omega), g3 22 (by omega) (by omega)]; exact p22) (sH_wK wK_26 (sH_wK g3 hH1)) (sS_nx g2 (i + 1))
      obtain ⟨D3, s1, s2⟩ := s_wrap (tg := tgB T t dg) (nx := 0) hS.2.2.2 g3 g4 (wP_nx r2)
      obtain ⟨n1, r1⟩ := r1
      refine ⟨D3, ⟨n1 + (cnt T t + 1), fun N hN => ?_⟩, ?_⟩
      · dsimp only
        rw [tb1, qc_some, g1, qb_some]
        have hc : FS_writeContent N M (RS_writeElement N M g) (some a) (nI ins) D1 = some ((), D2) := by
          unfold FS_writeContent FS_writeComponents
          have hid : ∀ x : Option (Unit × zJ), (qb x fun v J => some ((), J)) = x := fun x => qb_id x
          rw [qo_s rfl e1, e2, if_neg (by rw [k6]; decide), if_neg (by rw [k6]; decide), if_neg (by rw [k6]; decide), if_pos k6, hid, qo_s rfl e1, g2.2.1, nI_p1]
          exact r1 N (by omega) N (by omega)
        rw [hc, qb_some, s1]
      · rw [he, List.length_cons, show i + (b1.length + 1) = i + 1 + b1.length by omega]
        exact s2
    · -- list
      have k9 : ¬ T 4 t = 9 := by rw [k7]; decide
      have k10 : ¬ T 4 t = 10 := by rw [k7]; decide
      simp only [if_neg k9, if_neg k10]
      obtain ⟨w1, w2⟩ := hw.2.2.2.2.2.2.1 k7
      obtain ⟨b, q1, q2⟩ := hr.2.2.2.2.2.1 k7
      obtain ⟨tb1, tb2⟩ := c_tgB hw hr hd k9
      obtain ⟨D1, pos1, fl1, g1, g2, g3, g4⟩ := s_begin hS (tgB T t dg)
      subst hb
      obtain ⟨hH1, p17, p18, p21, p22, hi⟩ := sH_cons hH
      obtain ⟨D2, r1, r2⟩ := s_items (h := i) (mT := m) (tot := tot) hE e1 q1 w2 q2 hi (by omega) m 0 (i + 1) o b1 os c k1 (zu D1 26 3 (nI (i + 1))) pos1 fl1 (by omega) hv (by rw [zu_at, if_neg (by omega), g3 18 (by omega) (by omega)]; exact p18) (sH_wK wK_26 (sH_wK g3 hH1)) (sS_nx g2 (i + 1))
      obtain ⟨D3, s1, s2⟩ := s_wrap (tg := tgB T t dg) (nx := 0) hS.2.2.2 g3 g4 (wP_nx r2)
      obtain ⟨n1, r1⟩ := r1
      refine ⟨D3, ⟨n1 + (m + 1), fun N hN => ?_⟩, ?_⟩
      · dsimp only
        rw [tb1, qc_some, g1, qb_some]
        have hc : FS_writeContent N M (RS_writeElement N M g) (some a) (nI ins) D1 = some ((), D2) := by
          unfold FS_writeContent
          rw [qo_s rfl e1, e2, if_neg (by rw [k7]; decide), if_neg (by rw [k7]; decide), if_neg (by rw [k7]; decide), if_neg (by rw [k7]; decide), if_pos k7, g2.2.1, nI_p1]
          exact r1 N (by omega) N (by omega)
        rw [hc, qb_some, s1]
      · rw [he, List.length_cons, show i + (b1.length + 1) = i + 1 + b1.length by omega]
        exact s2
    · -- plain
      obtain ⟨v, hb, hv⟩ := hv
      subst hb
      obtain ⟨hH1, p17, p18, p21, p22, hi⟩ := sH_cons hH
      have p17 : D 17 i = T 4 t := p17
      have p18 : D 18 i = v := p18
      have p21 : D 21 i = nI o := p21
      have hk : ∀ D1 pos1 fl1, wK D D1 → sS D1 pos1 i fl1 → ∀ c, (∃ D2, Ev (fun N => FS_writeContent N M (RS_writeElement N M g) (some a) (nI ins) D1 = some ((), D2)) ∧ wP (zu D1 26 3 (nI (i + 1))) D2 pos1 fl1 c (i + 1)) → ¬ T 4 t = 9 → ¬ T 4 t = 10 → True := fun _ _ _ _ _ _ _ _ _ => trivial
      have hfin : ∀ c, e = elem (tgB T t dg) c → ¬ T 4 t = 9 → ¬ T 4 t = 10 → (∀ D1 pos1 fl1, wK D D1 → sS D1 pos1 i fl1 → ∃ D2, Ev (fun N => FS_writeContent N M (RS_writeElement N M g) (some a) (nI ins) D1 = some ((), D2)) ∧ wP (zu D1 26 3 (nI (i + 1))) D2 pos1 fl1 c (i + 1)) → ∃ D', Ev (fun N => (if T 4 t = 9 then FS_writeChoice N M (RS_writeElement N M g) (some a) (nI ins) D else if T 4 t = 10 then (if zi M a 5 = 0 then (if dgI dg = -1 then FS_writeElement_140 N M (RS_writeElement N M g) (nI ins) (zr M a 9) (zi M a 4) D else FS_writeElement_140 N M (RS_writeElement N M g) (nI ins) (zr M a 9) (dgI dg) D) else qc (FT_tagByte N M a (dgI dg)) fun v9 => qb (FS_beginElement N M v9 D) fun v10 J11 => qb (RS_writeElement N M g (zr M a 9, -1, nI ins + 1, J11)) fun v13 J14 => FS_endElement N M v10 J14) else qc (FT_tagByte N M a (dgI dg)) fun v18 => qb (FS_beginElement N M v18 D) fun v19 J20 => qb (FS_writeContent N M (RS_writeElement N M g) (some a) (nI ins) J20) fun v21 J22 => FS_endElement N M v19 J22) = some ((), D')) ∧ wP D D' pos fl e (i + [mkP t0 t v wh par o 0 1].length) := by
        intro c he k9 k10 hc
        obtain ⟨tb1, tb2⟩ := c_tgB hw hr hd k9
        obtain ⟨D1, pos1, fl1, g1, g2, g3, g4⟩ := s_begin hS (tgB T t dg)
        obtain ⟨D2, r1, r2⟩ := hc D1 pos1 fl1 g3 g2
        obtain ⟨D3, s1, s2⟩ := s_wrap (tg := tgB T t dg) (nx := 0) hS.2.2.2 g3 g4 (wP_nx r2)
        refine ⟨D3, ev_mono r1 (fun N hN => ?_), by rw [he]; exact s2⟩
        rw [if_neg k9, if_neg k10, tb1, qc_some, g1, qb_some, hN, qb_some, s1]
      rcases hv with ⟨k1, hvv, _, he, _⟩ | ⟨k2, _, he, _⟩ | ⟨k4, hvv, hol, hob, he, _⟩ | ⟨k5, hvv, _, he, _⟩
      · refine hfin _ he (by rw [k1]; decide) (by rw [k1]; decide) (fun D1 pos1 fl1 g3 g2 => ?_)
        obtain ⟨D2, a1, a2⟩ := s_app (sS_nx g2 (i + 1)) (if v = 0 then 0 else 255)
        refine ⟨D2, ev_of (fun N => ?_), a2⟩
        have hid : ∀ x : Option (Unit × zJ), (qb x fun v J => some ((), J)) = x := fun x => qb_id x
        unfold FS_writeContent FS_writeContent_80
        rw [qo_s rfl e1, e2, if_pos k1, g2.2.1, qk_t (qi_nI hi (by omega)), nI_clamp (by omega), nI_p1, hid, hid]
        rw [show zu D1 26 3 (nI (i + 1)) 18 i = v from by rw [zu_at, if_neg (by omega), g3 18 (by omega) (by omega)]; exact p18]
        have a1 := a1 N M
        by_cases v0 : v = 0
        · rw [if_pos v0]
          rw [if_pos v0] at a1
          exact a1
        · rw [if_neg v0]
          rw [if_neg v0] at a1
          exact a1
      · refine hfin _ he (by rw [k2]; decide) (by rw [k2]; decide) (fun D1 pos1 fl1 g3 g2 => ?_)
        obtain ⟨z1, z2⟩ := byC_le v
        obtain ⟨D2, a1, a2⟩ := s_int (D := D) (pos := 0) (fl := fl) v M (byC v) (zu D1 26 3 (nI (i + 1))) pos1 fl1 z2 (sS_nx g2 (i + 1))
        refine ⟨D2, ev_mono (ev_and (c_byC v) ⟨10, fun N hN => a1 N N (by omega)⟩) (fun N hN => ?_), a2⟩
        have hid : ∀ x : Option (Unit × zJ), (qb x fun v J => some ((), J)) = x := fun x => qb_id x
        unfold FS_writeContent FS_writeInteger
        rw [qo_s rfl e1, e2, if_neg (by rw [k2]; decide), if_pos k2, g2.2.1, qk_t (qi_nI hi (by omega)), nI_clamp (by omega), nI_p1, hid]
        rw [show zu D1 26 3 (nI (i + 1)) 18 i = v from by rw [zu_at, if_neg (by omega), g3 18 (by omega) (by omega)]; exact p18, hN.1, qc_some]
        have e8 : (8 : Int32) * (nI (byC v) - 1) = nI (8 * byC v) + (-8) := by
          rw [show nI (byC v) - 1 = nI (byC v - 1) from nI_subs (b := 1) (by omega), show (8 : Int32) = nI 8 from rfl, nI_mul, show 8 * byC v = 8 * (byC v - 1) + 8 by omega, ← nI_add, Int32.add_assoc, show (nI 8 + -nI 8 : Int32) = 0 from by decide, Int32.add_zero]
        rw [e8]
        exact hN.2
      · refine hfin _ he (by rw [k4]; decide) (by rw [k4]; decide) (fun D1 pos1 fl1 g3 g2 => ?_)
        obtain ⟨h1, h2, h3, h4, h5, h6⟩ := hH
        have hz : ∀ c x, c ≠ 7 → c ≠ 26 → zu D1 26 3 (nI (i + 1)) c x = D c x := fun c x h h' => by rw [zu_at, if_neg (by omega), g3 c h h']
        obtain ⟨D2, a1, a2⟩ := s_octs (M := M) (h := i) (o := o) (tot := tot) (nx := i + 1) (os := os) (by omega) htot h6 os.length 0 (zu D1 26 3 (nI (i + 1))) pos1 fl1 (by omega) (by rw [hz 16 _ (by omega) (by omega)]; exact h1) (by rw [hz 17 _ (by omega) (by omega), p17]; exact k4) (by rw [hz 18 _ (by omega) (by omega), p18]; exact hvv) (by rw [hz 21 _ (by omega) (by omega)]; exact p21) (fun k b hb => by rw [hz 23 _ (by omega) (by omega)]; exact h5 k b hb) (sS_nx g2 (i + 1))
        refine ⟨D2, ⟨os.length + 1, fun N hN => ?_⟩, a2⟩
        dsimp only
        unfold FS_writeContent
        rw [qo_s rfl e1, e2, if_neg (by rw [k4]; decide), if_neg (by rw [k4]; decide), if_pos k4, g2.2.1, nI_p1]
        exact a1 N N _ (by omega)
      · refine hfin _ he (by rw [k5]; decide) (by rw [k5]; decide) (fun D1 pos1 fl1 g3 g2 => ?_)
        refine ⟨zu D1 26 3 (nI (i + 1)), ev_of (fun N => ?_), wP_nil (sS_nx g2 (i + 1))⟩
        unfold FS_writeContent
        rw [qo_s rfl e1, e2, if_neg (by rw [k5]; decide), if_neg (by rw [k5]; decide), if_neg (by rw [k5]; decide), if_neg (by rw [k5]; decide), if_neg (by rw [k5]; decide), g2.2.1, nI_p1]
/-- a whole value -/
theorem s_writeAll {M : zM} {T D : zJ} {a t st : Nat} {blk : List Pt} {os e : List Nat} {pk : PK} (hw : wfT T 6 t) (hr : rep M T 6 a t) (hv : WV T 6 t t none (-1) 0 0 0 blk os e pk) (hH : sH T D blk.length 0 0 blk os) (hst : st ≤ 120) :
    ∃ D', wK D D' ∧ (∀ k, k < st → st + e.length ≤ 120 → D' 7 k = D 7 k) ∧ ((st + e.length ≤ 120 ∧ Ev (fun N => FS_writeAll N M (some a) (nI st) D = some (nI (st + e.length), D')) ∧ ∀ k b, e[k]? = some b → D' 7 (st + k) = nI b) ∨ (¬ st + e.length ≤ 120 ∧ Ev (fun N => FS_writeAll N M (some a) (nI st) D = some (-1, D')))) := by
  have hS : sS (zu (zu (zu D 26 2 (nI st)) 26 3 0) 26 4 0) st 0 false := by
    refine ⟨?_, ?_, zu_self _ _ _ _, hst⟩
    · rw [zu_at, if_neg (by omega), zu_at, if_neg (by omega), zu_self]
    · rw [zu_at, if_neg (by omega), zu_self]; rfl
  have hk0 : wK D (zu (zu (zu D 26 2 (nI st)) 26 3 0) 26 4 0) := wK_trans (wK_trans wK_26 wK_26) wK_26
  obtain ⟨D', r1, r2, r3, r4⟩ := s_elem (M := M) 6 8 a t t none (-1) 0 0 0 blk os e pk _ 0 st false blk.length (by omega) (by omega) hw hr (fun d hd => by cases hd) hv (sH_wK hk0 hH) hS
  have h7 : ∀ k, zu (zu (zu D 26 2 (nI st)) 26 3 0) 26 4 0 7 k = D 7 k := fun k => by rw [zu_at, if_neg (by omega), zu_at, if_neg (by omega), zu_at, if_neg (by omega)]
  refine ⟨D', wK_trans hk0 r2, fun k hk hle => ?_, ?_⟩
  · rcases r4 with ⟨a1, a2, a3, a4, a5, a6⟩ | ⟨a1, _⟩
    · rw [a5 k hk, h7]
    · exact absurd ⟨rfl, hle⟩ a1
  · rcases r4 with ⟨a1, a2, a3, a4, a5, a6⟩ | ⟨a1, a2, a3⟩
    · refine Or.inl ⟨a2, ev_mono r1 (fun N hN => ?_), a6⟩
      unfold FS_writeAll
      have hN' : RS_writeElement N M 8 (some a, -1, 0, zu (zu (zu D 26 2 (nI st)) 26 3 0) 26 4 0) = some ((), D') := hN
      simp only [hN', qb_some]
      rw [a3, if_pos rfl, a4]
    · refine Or.inr ⟨fun q => a1 ⟨rfl, q⟩, ev_mono r1 (fun N hN => ?_)⟩
      unfold FS_writeAll
      have hN' : RS_writeElement N M 8 (some a, -1, 0, zu (zu (zu D 26 2 (nI st)) 26 3 0) 26 4 0) = some ((), D') := hN
      simp only [hN', qb_some]
      rw [a2, if_neg (by decide)]
