/-! THE PURE PROOF: for all fuel that is large enough; loops; small facts -/
def Ev (P : Nat → Prop) : Prop := ∃ n0, ∀ N, n0 ≤ N → P N
theorem ev_of {P : Nat → Prop} (h : ∀ N, P N) : Ev P := ⟨0, fun N _ => h N⟩
theorem ev_mono {P Q : Nat → Prop} (hP : Ev P) (h : ∀ N, P N → Q N) : Ev Q := by
  obtain ⟨n0, h0⟩ := hP
  exact ⟨n0, fun N hN => h N (h0 N hN)⟩
theorem ev_and {P Q : Nat → Prop} (hP : Ev P) (hQ : Ev Q) : Ev (fun N => P N ∧ Q N) := by
  obtain ⟨n0, h0⟩ := hP
  obtain ⟨n1, h1⟩ := hQ
  exact ⟨n0 + n1, fun N hN => ⟨h0 N (by omega), h1 N (by omega)⟩⟩
theorem ev_all {P : Nat → Nat → Prop} (n : Nat) (h : ∀ k, k < n → Ev (fun N => P N k)) : Ev (fun N => ∀ k, k < n → P N k) := by
  induction n with
  | zero => exact ev_of (fun N k hk => by omega)
  | succ n ih =>
    refine ev_mono (ev_and (ih (fun k hk => h k (by omega))) (h n (by omega))) (fun N q k hk => ?_)
    by_cases hkn : k = n
    · subst hkn; exact q.2
    · exact q.1 k (by omega)
theorem ev_qb {α σ β : Type} {f : Nat → Option (α × σ)} {k : Nat → α → σ → Option β} {a : α} {s : σ} {r : Option β} (h : Ev (fun N => f N = some (a, s))) (h2 : Ev (fun N => k N a s = r)) : Ev (fun N => qb (f N) (k N) = r) :=
  ev_mono (ev_and h h2) (fun N q => by rw [q.1]; exact q.2)
theorem ev_qc {α β : Type} {f : Nat → Option α} {k : Nat → α → Option β} {a : α} {r : Option β} (h : Ev (fun N => f N = some a)) (h2 : Ev (fun N => k N a = r)) : Ev (fun N => qc (f N) (k N) = r) :=
  ev_mono (ev_and h h2) (fun N q => by rw [q.1]; exact q.2)
theorem qfix_run {σ β : Type} {B : (σ → Option β) → σ → Option β} {r : Option β} (s : Nat → σ) (n : Nat) (hstep : ∀ k, k < n → ∀ K, B K (s k) = K (s (k + 1))) (hexit : ∀ K, B K (s n) = r) : ∀ m k f, k + m = n → m + 1 ≤ f → qfix B f (s k) = r := by
  intro m
  induction m with
  | zero =>
    intro k f hk hf
    obtain ⟨f, rfl⟩ : ∃ g, f = g + 1 := ⟨f - 1, by omega⟩
    have : k = n := by omega
    subst this
    exact hexit _
  | succ m ih =>
    intro k f hk hf
    obtain ⟨f, rfl⟩ : ∃ g, f = g + 1 := ⟨f - 1, by omega⟩
    show B (qfix B f) (s k) = r
    rw [hstep k (by omega)]
    exact ih (k + 1) f (by omega) (by omega)
theorem ev_loop {σ β : Type} {B : Nat → (σ → Option β) → σ → Option β} {r : Option β} (s : Nat → σ) (n : Nat) (hstep : Ev (fun N => ∀ k, k < n → ∀ K, B N K (s k) = K (s (k + 1)))) (hexit : Ev (fun N => ∀ K, B N K (s n) = r)) : Ev (fun N => qfix (B N) N (s 0) = r) := by
  obtain ⟨n0, h0⟩ := hstep
  obtain ⟨n1, h1⟩ := hexit
  exact ⟨n0 + n1 + n + 1, fun N hN => qfix_run s n (h0 N (by omega)) (h1 N (by omega)) n 0 N (by omega) (by omega)⟩
theorem qk_t {β : Type} {c : Bool} {f : Option β} (h : c = true) : qk c f = f := by unfold qk; rw [if_pos h]
theorem qi_nI {k n : Nat} (h : k < n) (hn : n < 2 ^ 31) : qi (nI k) n = true := by
  have h1 : k < 2 ^ 31 := by omega
  simp [qi, nI_pos h1, nI_clamp h1, h]
theorem qi_ge {k n : Nat} (hk : k < 2 ^ 31) (h : n ≤ k) : qi (nI k) n = false := by
  simp [qi, nI_clamp hk]
  intro _
  exact h
/-- ints of a cell filled up to n -/
def zfJ (J : zJ) (c n : Nat) (v : Int32) : zJ := fun c' k => if c' = c ∧ k < n then v else J c' k
theorem zfJ_0 (J : zJ) (c : Nat) (v : Int32) : zfJ J c 0 v = J := by
  funext a k
  unfold zfJ
  rw [if_neg (by omega)]
theorem zfJ_s (J : zJ) (c n : Nat) (v : Int32) : zu (zfJ J c n v) c n v = zfJ J c (n + 1) v := by
  funext a k
  rw [zu_at]
  unfold zfJ
  by_cases h : a = c ∧ k = n
  · rw [if_pos h, if_pos (by omega)]
  · rw [if_neg h]
    by_cases h2 : a = c ∧ k < n
    · rw [if_pos h2, if_pos (by omega)]
    · rw [if_neg h2, if_neg (by omega)]
theorem lit_nI (n : Nat) : (OfNat.ofNat n : Int32) = nI n := rfl
theorem qi_dec {k n : Nat} (hk : k < 2 ^ 31) : qi (nI k) n = decide (k < n) := by
  by_cases h : k < n
  · simp [qi, nI_pos hk, nI_clamp hk, h]
  · simp [qi, nI_clamp hk, h]
theorem qk_d {β : Type} {p : Prop} [Decidable p] {f : Option β} (h : p) : qk (decide p) f = f := by unfold qk; rw [if_pos (decide_eq_true h)]
theorem nI_add1 (k : Nat) : nI k + (1) = nI (k + 1) := nI_1 k
theorem bI_t : bI true = 1 := rfl
theorem bI_f : bI false = 0 := rfl
theorem bI_eq0 (b : Bool) : (bI b = 0) = (b = false) := by cases b <;> simp [bI]
theorem bI_inj (a b : Bool) : (bI a = bI b) = (a = b) := by cases a <;> cases b <;> simp [bI]
/-- leave() of the reference -/
def jLeave (J : zJ) : zJ := zfJ (zfJ (zu (zu J 0 1 0) 0 44 0) 36 8 (-1)) 39 256 0
theorem eM_leave (J : zJ) : Ev (fun N => FM_leave N J = some ((), jLeave J)) := by
  have h2 : ∀ J : zJ, Ev (fun N => qfix (FM_leave_33 N) N (0, J) = some ((), zfJ J 39 256 0)) := by
    intro J
    have := ev_loop (B := FM_leave_33) (r := some ((), zfJ J 39 256 0)) (fun k => (nI k, zfJ J 39 k 0)) 256 (ev_of (fun N k hk K => ?_)) (ev_of (fun N K => ?_))
    · rw [zfJ_0] at this; exact this
    · simp only [FM_leave_33]
      simp (disch := omega) only [lit_nI, nI_leI, qi_dec, nI_clamp, nI_add]
      rw [if_neg (by omega), qk_d hk]
      simp only [← lit_nI]
      rw [zfJ_s]
    · simp only [FM_leave_33]
      rw [if_pos (by decide)]
  have h1 := ev_loop (B := FM_leave_12) (r := some ((), jLeave J)) (fun k => (nI k, zfJ (zu (zu J 0 1 0) 0 44 0) 36 k (-1))) 8 (ev_of (fun N k hk K => ?_)) ?_
  · simp only [FM_leave]
    rw [zfJ_0] at h1
    exact h1
  · simp only [FM_leave_12]
    simp (disch := omega) only [lit_nI, nI_leI, qi_dec, nI_clamp, nI_add]
    rw [if_neg (by omega), qk_d hk]
    rw [zfJ_s]
  · refine ev_mono (h2 (zfJ (zu (zu J 0 1 0) 0 44 0) 36 8 (-1))) (fun N h K => ?_)
    simp only [FM_leave_12]
    rw [if_pos (by decide), h]
    rfl
