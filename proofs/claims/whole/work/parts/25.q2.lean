/-! METHODS AS FUNCTIONS, 2: how walks begin and end; arrays; switches; layouts -/
section ZW
variable {g : zg} {d : Nat} {y : zm} {av : List Value} {M M1 : zM} {lv : List (Nat × Value)}
theorem zEi_q {r : Int32} (hy : zmok y) (hc : ∀ v ∈ av, v.category = 1) (hlen : av.length ≤ y.2.2.1) (hlv : zlv 0 av = lv) (h : zG g d y (zPq (rI r) M1) M 0 lv []) : zEi g d y av M (fun v M2 => v = r ∧ M2 = M1) :=
  zEi_of hy hc hlen hlv (zG_mono (fun q M2 h => ⟨r, h.1, rfl, h.2⟩) h)
theorem zEb_q {r : Bool} (hy : zmok y) (hc : ∀ v ∈ av, v.category = 1) (hlen : av.length ≤ y.2.2.1) (hlv : zlv 0 av = lv) (h : zG g d y (zPq (rB r) M1) M 0 lv []) : zEi g d y av M (fun v M2 => v = bI r ∧ M2 = M1) :=
  zEi_of hy hc hlen hlv (zG_mono (fun q M2 h => ⟨bI r, h.1, rfl, h.2⟩) h)
theorem zEu_q {r : Unit} (hy : zmok y) (hc : ∀ v ∈ av, v.category = 1) (hlen : av.length ≤ y.2.2.1) (hlv : zlv 0 av = lv) (h : zG g d y (zPq (rU r) M1) M 0 lv []) : zEv g d y av M (fun M2 => M2 = M1) :=
  zEv_of hy hc hlen hlv (zG_mono (fun q M2 h => ⟨h.1, h.2⟩) h)
theorem zEr_q {r : Option Nat} (hy : zmok y) (hc : ∀ v ∈ av, v.category = 1) (hlen : av.length ≤ y.2.2.1) (hlv : zlv 0 av = lv) (h : zG g d y (zPq (rR r) M1) M 0 lv []) : zEr g d y av M (fun v M2 => v = r ∧ M2 = M1) :=
  zEr_of hy hc hlen hlv (zG_mono (fun q M2 h => ⟨r, h.1, rfl, h.2⟩) h)
theorem zEb_qL {r : Bool} (hy : zmok y) (hlen : (lg_sl av).length ≤ y.2.2.1) (hlv : lv_args 0 av = lv) (h : zG g d y (zPq (rB r) M1) M 0 lv []) : zEi g d y av M (fun v M2 => v = bI r ∧ M2 = M1) :=
  zE_of hy hlen hlv (zG_mono (fun q M2 h => ⟨_, h.1, _, rfl, rfl, h.2⟩) h)
end ZW
theorem q_ri {M0 : zM} {A n : Nat} {J J1 : zJ} {x r : Int32} (h : some (x, J) = some (r, J1)) : zPq (rI r) (zmm M0 A n J1) (.inl (some (.int x))) (zmm M0 A n J) := by cases h; exact ⟨rfl, rfl⟩
theorem q_rb {M0 : zM} {A n : Nat} {J J1 : zJ} {b r : Bool} (h : some (b, J) = some (r, J1)) : zPq (rB r) (zmm M0 A n J1) (.inl (some (.int (bI b)))) (zmm M0 A n J) := by cases h; exact ⟨rfl, rfl⟩
theorem q_ru {M0 : zM} {A n : Nat} {J J1 : zJ} {r : Unit} (h : some ((), J) = some (r, J1)) : zPq (rU r) (zmm M0 A n J1) (.inl none) (zmm M0 A n J) := by cases h; exact ⟨rfl, rfl⟩
theorem q_rr {M0 : zM} {A n : Nat} {J J1 : zJ} {x r : Option Nat} (h : some (x, J) = some (r, J1)) : zPq (rR r) (zmm M0 A n J1) (.inl (some (va_rf x))) (zmm M0 A n J) := by cases h; exact ⟨rfl, rfl⟩
theorem q_riZ {M M1 : zM} {x r : Int32} (h : some (x, M) = some (r, M1)) : zPq (rI r) M1 (.inl (some (.int x))) M := by cases h; exact ⟨rfl, rfl⟩
theorem q_rbZ {M M1 : zM} {b r : Bool} (h : some (b, M) = some (r, M1)) : zPq (rB r) M1 (.inl (some (.int (bI b)))) M := by cases h; exact ⟨rfl, rfl⟩
theorem q_ruZ {M M1 : zM} {r : Unit} (h : some ((), M) = some (r, M1)) : zPq (rU r) M1 (.inl none) M := by cases h; exact ⟨rfl, rfl⟩
theorem q_rrZ {M M1 : zM} {x r : Option Nat} (h : some (x, M) = some (r, M1)) : zPq (rR r) M1 (.inl (some (va_rf x))) M := by cases h; exact ⟨rfl, rfl⟩
theorem q_riT {M : zM} {x r : Int32} (h : some x = some r) : zPq (rI r) M (.inl (some (.int x))) M := by cases h; exact ⟨rfl, rfl⟩
theorem q_rbT {M : zM} {b r : Bool} (h : some b = some r) : zPq (rB r) M (.inl (some (.int (bI b)))) M := by cases h; exact ⟨rfl, rfl⟩
theorem q_rrT {M : zM} {x r : Option Nat} (h : some x = some r) : zPq (rR r) M (.inl (some (va_rf x))) M := by cases h; exact ⟨rfl, rfl⟩
theorem q_w {β : Type} {c : Prop} [Decidable c] {A B : Option β} {r : β} (h : (if c then A else B) = some r) : (c ∧ A = some r) ∨ (¬ c ∧ B = some r) := by
  by_cases hc : c
  · rw [if_pos hc] at h; exact Or.inl ⟨hc, h⟩
  · rw [if_neg hc] at h; exact Or.inr ⟨hc, h⟩
/-- an array of the type t, and a place in it -/
def qa {β : Type} (a : Option Nat) (M : zM) (t : Nat) (i : Int32) (f : Nat → Option β) : Option β := match a with
  | none => none
  | some b => match zsh M b with
    | some (.inr q) => if q.1 = t ∧ qi i q.2 = true then f b else none
    | _ => none
theorem q_a {β : Type} {a : Option Nat} {M : zM} {t : Nat} {i : Int32} {f : Nat → Option β} {r : β} (h : qa a M t i f = some r) : ∃ b n, a = some b ∧ zsh M b = some (.inr (t, n)) ∧ vp_in i n ∧ f b = some r := by
  unfold qa at h
  cases a with
  | none => cases h
  | some b =>
    simp only at h
    split at h
    · rename_i q hq
      by_cases hc : q.1 = t ∧ qi i q.2 = true
      · rw [if_pos hc] at h
        exact ⟨b, q.2, rfl, by rw [hq, ← hc.1], qi_in hc.2, h⟩
      · rw [if_neg hc] at h; cases h
    · cases h
/-- an array of the type t, and its length -/
def ql {β : Type} (a : Option Nat) (M : zM) (t : Nat) (f : Nat → Nat → Option β) : Option β := match a with
  | none => none
  | some b => match zsh M b with
    | some (.inr q) => if q.1 = t then f b q.2 else none
    | _ => none
theorem q_l {β : Type} {a : Option Nat} {M : zM} {t : Nat} {f : Nat → Nat → Option β} {r : β} (h : ql a M t f = some r) : ∃ b n, a = some b ∧ zsh M b = some (.inr (t, n)) ∧ f b n = some r := by
  unfold ql at h
  cases a with
  | none => cases h
  | some b =>
    simp only at h
    split at h
    · rename_i q hq
      by_cases hc : q.1 = t
      · rw [if_pos hc] at h
        exact ⟨b, q.2, rfl, by rw [hq, ← hc], h⟩
      · rw [if_neg hc] at h; cases h
    · cases h
theorem z_nsh (M : zM) (s : Nat ⊕ Nat × Nat) (n : Nat) : zsh (znew M s n) (zsz M) = some s := by rw [zsh_nw, if_pos rfl]
theorem q_room {g : zg} {KC KS a b : Nat} (h1 : KC ≤ g.KC) (h2 : KS ≤ g.KS) (h : (decide (a ≤ KC) && decide (b ≤ KS)) = true) : a ≤ g.KC ∧ b ≤ g.KS := by
  simp only [Bool.and_eq_true, decide_eq_true_eq] at h
  exact ⟨Nat.le_trans h.1 h1, Nat.le_trans h.2 h2⟩
theorem zi_tableDef {g : zg} {d : Nat} {y : zm} {post : zR → zM → Prop} {M : zM} {pc : Nat} {lv : List (Nat × Value)} {st : List Value} {dflt lo hi : Int} {offs : Array Int} {len : Nat} {x : Int32} {tgt : Nat} {vals : List Int32} (hd : decode y.2.1 pc = .ok (.tableswitch dflt lo hi offs, len)) (hx : ∀ v ∈ vals, ¬ x = v) (hv : (List.range offs.size).all (fun k => decide (offs.getD k 0 = dflt) || vals.contains (Int32.ofInt (lo + k))) = true) (hsz : hi + 1 = lo + offs.size) (ht : (pc : Int) + dflt = (tgt : Int)) (k : zG g d y post M tgt lv st) : zG g d y post M pc lv (.int x :: st) := by
  by_cases ho : x.toInt < lo ∨ hi < x.toInt
  · exact zi_tableOut hd ho ht k
  · have hk : (x.toInt - lo).toNat < offs.size := by omega
    have h1 := List.all_eq_true.mp hv _ (List.mem_range.mpr hk)
    have h2 : lo + ((x.toInt - lo).toNat : Int) = x.toInt := by omega
    rw [h2] at h1
    simp only [Bool.or_eq_true, decide_eq_true_eq, List.contains_iff_mem] at h1
    have h3 : offs[(x.toInt - lo).toNat]? = some (offs.getD (x.toInt - lo).toNat 0) := by
      rw [Array.getElem?_eq_getElem hk]
      simp [Array.getD, hk]
    rcases h1 with h1 | h1
    · rw [h1] at h3
      exact zi_tableIn hd (by omega) (by omega) h3 ht k
    · exact absurd (by rw [Int32.ofInt_toInt]) (hx _ h1)
def dShL : List (Nat × (Nat ⊕ Nat × Nat)) := [(0, .inl 8), (1, .inr (1, 150)), (2, .inl 0), (3, .inr (4, 26)), (4, .inr (4, 150)), (5, .inr (5, 150)), (6, .inr (0, 120)), (7, .inr (0, 120)), (8, .inl 7), (9, .inr (0, 100)), (10, .inr (0, 100)), (11, .inr (0, 100)), (12, .inr (0, 100)), (13, .inr (0, 100)), (14, .inr (0, 100)), (15, .inr (0, 120)), (16, .inl 7), (17, .inr (0, 100)), (18, .inr (0, 100)), (19, .inr (0, 100)), (20, .inr (0, 100)), (21, .inr (0, 100)), (22, .inr (0, 100)), (23, .inr (0, 120)), (24, .inl 2), (25, .inl 3), (26, .inl 5), (27, .inl 4), (28, .inr (4, 8)), (29, .inr (0, 8)), (30, .inr (0, 8)), (31, .inr (2, 4))]
def mShL : List (Nat × (Nat ⊕ Nat × Nat)) := [(0, .inl 9), (1, .inr (1, 150)), (2, .inr (0, 150)), (3, .inr (0, 26)), (4, .inr (0, 160)), (5, .inr (0, 160)), (6, .inr (0, 160)), (7, .inr (0, 160)), (8, .inr (0, 160)), (9, .inr (0, 160)), (10, .inr (0, 160)), (11, .inr (3, 160)), (12, .inr (3, 160)), (13, .inr (0, 960)), (14, .inr (0, 960)), (15, .inr (0, 960)), (16, .inr (0, 16)), (17, .inr (0, 150)), (18, .inr (0, 120)), (19, .inr (0, 120)), (20, .inr (0, 4000)), (21, .inr (0, 100)), (22, .inr (0, 100)), (23, .inr (0, 100)), (24, .inr (0, 100)), (25, .inr (0, 100)), (26, .inr (0, 100)), (27, .inr (0, 101)), (28, .inr (0, 240)), (29, .inr (0, 500)), (30, .inr (0, 240)), (31, .inr (0, 160)), (32, .inr (0, 160)), (33, .inr (0, 160)), (34, .inr (0, 160)), (35, .inr (3, 160)), (36, .inr (0, 8)), (37, .inr (0, 8)), (38, .inr (0, 8)), (39, .inr (3, 256))]
def mRf : List (Nat × Nat × Nat) := [(0, 7, 1), (0, 8, 2), (0, 9, 3), (0, 11, 4), (0, 12, 5), (0, 13, 6), (0, 14, 7), (0, 15, 8), (0, 16, 9), (0, 17, 10), (0, 18, 11), (0, 19, 12), (0, 20, 13), (0, 21, 14), (0, 22, 15), (0, 25, 16), (0, 26, 17), (0, 31, 18), (0, 32, 19), (0, 33, 20), (0, 36, 21), (0, 37, 22), (0, 38, 23), (0, 39, 24), (0, 40, 25), (0, 41, 26), (0, 42, 27), (0, 43, 28), (0, 45, 29), (0, 46, 30), (0, 50, 31), (0, 51, 32), (0, 52, 33), (0, 53, 34), (0, 54, 35), (0, 55, 36), (0, 56, 37), (0, 57, 38), (0, 58, 39)]
def vShL (v : Nat) : List (Nat × (Nat ⊕ Nat × Nat)) := [(v, .inl 7), (v + 1, .inr (0, 100)), (v + 2, .inr (0, 100)), (v + 3, .inr (0, 100)), (v + 4, .inr (0, 100)), (v + 5, .inr (0, 100)), (v + 6, .inr (0, 100)), (v + 7, .inr (0, 120))]
def vRf (v : Nat) : List (Nat × Nat × Nat) := [(v, 1, v + 1), (v, 2, v + 2), (v, 3, v + 3), (v, 4, v + 4), (v, 5, v + 5), (v, 6, v + 6), (v, 7, v + 7)]
theorem zag_d {M0 : zM} {A : Nat} (hL : zLy M0 A dShL dRf) (J : zJ) : zag M0 (zmm M0 A 32 J) := by
  intro b ci hci hs
  refine ⟨hs, zmm_o M0 A 32 J ?_, rfl⟩
  rintro ⟨h1, h2⟩
  obtain ⟨k, rfl⟩ := Nat.exists_eq_add_of_le h1
  have hk : k < 32 := by omega
  have h3 : ∀ k : Fin 32, dShL[(k : Nat)]? = some ((k : Nat), (dShL.getD k (0, .inl 0)).2) ∧ (dShL.getD k (0, .inl 0)).2 ≠ .inl 6 ∧ (dShL.getD k (0, .inl 0)).2 ≠ .inl 1 := by decide
  obtain ⟨h4, h5, h6⟩ := h3 ⟨k, hk⟩
  have h7 := zLs hL k h4
  rw [h7] at hs
  rcases hci with rfl | rfl
  · exact h5 (Option.some.inj hs)
  · exact h6 (Option.some.inj hs)
theorem dLy_v {M0 : zM} {A v : Nat} (hv : v = 8 ∨ v = 16) (hL : zLy M0 A dShL dRf) : zLy M0 A (vShL v) (vRf v) := by
  have h1 : ∀ q ∈ vShL v, q ∈ dShL := by rcases hv with rfl | rfl <;> simp [vShL, dShL]
  have h2 : ∀ q ∈ vRf v, q ∈ dRf := by rcases hv with rfl | rfl <;> simp [vRf, dRf]
  exact ⟨fun q hq => hL.1 q (h1 q hq), fun q hq => hL.2 q (h2 q hq)⟩
theorem q_char {x : Int32} (h : (decide (0 ≤ x) && decide (x ≤ 65535)) = true) : narrow .char (.int x) = .int x := by
  simp only [Bool.and_eq_true, decide_eq_true_eq] at h
  have h1 := Int32.le_iff_toInt_le.mp h.1
  have h2 := Int32.le_iff_toInt_le.mp h.2
  have e1 : (0 : Int32).toInt = 0 := by decide
  have e2 : (65535 : Int32).toInt = 65535 := by decide
  obtain ⟨j, hj, rfl⟩ := vp_in_of (x := x) (n := 65536) (vp_in_iff.mpr ⟨by omega, by omega⟩) (by decide)
  exact (pk_charN hj).1
