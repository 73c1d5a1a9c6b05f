/-! THE SPECIFICATION of packed reading (s: as the class does it; else without looking at what is passed over) -/
def sbit (src : Nat → Nat) (p : Nat) : Nat := src (p / 8) / 2 ^ (7 - p % 8) % 2
def bvs (src : Nat → Nat) (p : Nat) : Nat → Nat
  | 0 => 0
  | n + 1 => 2 * bvs src p n + sbit src (p + n)
def alU (p : Nat) : Nat := (p + 7) / 8 * 8
def alP (s : Bool) (src : Nat → Nat) (p : Nat) : Option Nat := if s = false ∨ bvs src p (alU p - p) = 0 then some (alU p) else none
/-- a number of 0 .. h: where it ends, and the number -/
def numP (s : Bool) (src : Nat → Nat) (en h p : Nat) : Option (Nat × Nat) :=
  (if 255 ≤ h then alP s src p else some p).bind fun p1 => if p1 + wid h ≤ en ∧ bvs src p1 (wid h) ≤ h then some (p1 + wid h, bvs src p1 (wid h)) else none
def loT (T : zJ) (t : Nat) : Nat := (T 5 t).toNatClampNeg
def cntP (T : zJ) (s : Bool) (src : Nat → Nat) (en t p : Nat) : Option (Nat × Nat) :=
  if T 11 t = 1 then (numP s src en (rngT T t) p).bind fun q => some (q.1, loT T t + q.2)
  else (alP s src p).bind fun p1 => if p1 + 8 ≤ en ∧ bvs src p1 8 ≤ 127 then some (p1 + 8, bvs src p1 8) else none
def octP (src : Nat → Nat) (p n : Nat) : List Nat := (List.range n).map (fun k => bvs src (p + 8 * k) 8)
/-- marks of the components from j on: where they end; which components there are -/
def prsP (T : zJ) (src : Nat → Nat) (en t : Nat) : Nat → Nat → Nat → Option (Nat × List Bool)
  | 0, _, p => some (p, [])
  | m + 1, j, p =>
    if T 14 (6 * t + j) = 0 then (prsP T src en t m (j + 1) p).bind fun q => some (q.1, true :: q.2)
    else if p + 1 ≤ en then (prsP T src en t m (j + 1) (p + 1)).bind fun q => some (q.1, decide (sbit src p = 1) :: q.2)
    else none
def rpC (T : zJ) (s : Bool) (rc : rdRec) (t : Nat) (par : Int32) (en : Nat) : List Bool → Nat → Nat → Nat → Nat → Option (Nat × Nat × Nat × List Bool × Rs)
  | [], _, _, _, p => some (p, 0, 0, [], rnil)
  | th :: ths, j, i, o, p =>
    if th = false then
      if T 14 (6 * t + j) = 1 then
        (rpC T s rc t par en ths (j + 1) i o p).bind fun q => some (q.1, q.2.1, q.2.2.1, false :: q.2.2.2.1, q.2.2.2.2)
      else if T 14 (6 * t + j) = 2 ∧ i < 100 then
        (rpC T s rc t par en ths (j + 1) (i + 1) o p).bind fun q => some (q.1, q.2.1 + 1, q.2.2.1, false :: q.2.2.2.1, rcat ([mkP (chd T (6 * t + j)) (bas T 6 (chd T (6 * t + j))) (T 15 (6 * t + j)) j par o 0 1], [], [], pnil) q.2.2.2.2)
      else none
    else
      (rc (chd T (6 * t + j)) (chd T (6 * t + j)) none par j i o en p).bind fun r =>
        if T 14 (6 * t + j) = 2 ∧ hdV r.2.1 = T 15 (6 * t + j) then
          if s = true then none
          else (rpC T s rc t par en ths (j + 1) (i + r.2.1.length) (o + r.2.2.1.length) r.1).bind fun q => some (q.1, q.2.1 + 1, q.2.2.1, false :: q.2.2.2.1, rcat (r.2.1, r.2.2.1, [], pnil) q.2.2.2.2)
        else (rpC T s rc t par en ths (j + 1) (i + r.2.1.length) (o + r.2.2.1.length) r.1).bind fun q => some (q.1, q.2.1 + 1, 2 ^ j + q.2.2.1, (if T 14 (6 * t + j) = 0 then q.2.2.2.1 else true :: q.2.2.2.1), rcat r.2 q.2.2.2.2)
def rpL (rc : rdRec) (u : Nat) (par : Int32) (en : Nat) : Nat → Nat → Nat → Nat → Nat → Option (Nat × Rs)
  | 0, _, _, _, p => some (p, rnil)
  | m + 1, k, i, o, p => (rc u u none par k i o en p).bind fun r =>
      (rpL rc u par en m (k + 1) (i + r.2.1.length) (o + r.2.2.1.length) r.1).bind fun q => some (q.1, rcat r.2 q.2)
/-- the alternative of a rank -/
def altR (T : zJ) (t r : Nat) : Nat → Nat → Option Nat
  | 0, _ => none
  | m + 1, j => if jRank T t j (cnt T t) = r then some j else altR T t r m (j + 1)
def rpPl (T : zJ) (src : Nat → Nat) (s : Bool) (t t0 tg : Nat) (par : Int32) (wh o en p : Nat) : Option (Nat × Rs) :=
  if T 4 t = 1 then
    if p + 1 ≤ en then some (p + 1, [mkP t0 t (nI (sbit src p)) wh par o 0 1], [], elem tg [if nI (sbit src p) = 0 then 0 else 255], pbits (nI (sbit src p)) 1) else none
  else if T 4 t = 2 then
    if T 11 t = 1 then (numP s src en (rngT T t) p).bind fun q => some (q.1, [mkP t0 t (T 5 t + nI q.2) wh par o 0 1], [], elem tg (intB (T 5 t + nI q.2) (byC (T 5 t + nI q.2))), pint T t (T 5 t + nI q.2))
    else (alP s src p).bind fun p1 => if p1 + 8 ≤ en ∧ 1 ≤ bvs src p1 8 ∧ bvs src p1 8 ≤ 4 ∧ p1 + 8 + 8 * bvs src p1 8 ≤ en ∧ (s = false ∨ byC (ivF src ((p1 + 8) / 8) (bvs src p1 8)) = bvs src p1 8) then some (p1 + 8 + 8 * bvs src p1 8, [mkP t0 t (ivF src ((p1 + 8) / 8) (bvs src p1 8)) wh par o 0 1], [], elem tg (intB (ivF src ((p1 + 8) / 8) (bvs src p1 8)) (byC (ivF src ((p1 + 8) / 8) (bvs src p1 8)))), pint T t (ivF src ((p1 + 8) / 8) (bvs src p1 8))) else none
  else if T 4 t = 4 then
    (cntP T s src en t p).bind fun q => (if 0 < q.2 ∧ alnd T t = true then alP s src q.1 else some q.1).bind fun p1 => if p1 + 8 * q.2 ≤ en then some (p1 + 8 * q.2, [mkP t0 t (nI q.2) wh par o 0 1], octP src p1 q.2, elem tg (octP src p1 q.2), pocts T t (octP src p1 q.2)) else none
  else some (p, [mkP t0 t 0 wh par o 0 1], [], elem tg [], pnil)
def rpB (T : zJ) (src : Nat → Nat) (s : Bool) (rc : rdRec) : rdRec := fun t t0 dg par wh i o en p =>
  if T 4 t = 10 then
    if isX T t = true then
      (rc (chd T (6 * t)) t0 none par wh i o en p).bind fun r => some (r.1, r.2.1, r.2.2.1, elem (tgB T t dg) r.2.2.2.1, r.2.2.2.2)
    else rc (chd T (6 * t)) t0 (some (dg.getD (dgt T t))) par wh i o en p
  else if i < 100 then
    if T 4 t = 9 then
      (numP s src en (cnt T t - 1) p).bind fun q => (altR T t q.2 (cnt T t) 0).bind fun k =>
        (rc (chd T (6 * t + k)) (chd T (6 * t + k)) none (nI i) 0 (i + 1) o en q.1).bind fun r =>
          some (r.1, mkP t0 t (nI k) wh par o 0 (r.2.1.length + 1) :: r.2.1, r.2.2.1, r.2.2.2.1, pcat (pnum (nI (jRank T t k (cnt T t))) (cnt T t - 1)) r.2.2.2.2)
    else if T 4 t = 6 then
      (prsP T src en t (cnt T t) 0 p).bind fun h =>
        (rpC T s rc t (nI i) en h.2 0 (i + 1) o h.1).bind fun q =>
          some (q.1, mkP t0 t (nI q.2.1) wh par o q.2.2.1 (q.2.2.2.2.1.length + 1) :: q.2.2.2.2.1, q.2.2.2.2.2.1, elem (tgB T t dg) q.2.2.2.2.2.2.1, pcat (fun _ => q.2.2.2.1) q.2.2.2.2.2.2.2)
    else if T 4 t = 7 then
      (cntP T s src en t p).bind fun h =>
        (rpL rc (chd T (6 * t)) (nI i) en h.2 0 (i + 1) o h.1).bind fun q =>
          some (q.1, mkP t0 t (nI h.2) wh par o 0 (q.2.1.length + 1) :: q.2.1, q.2.2.1, elem (tgB T t dg) q.2.2.2.1, pcat (pcount T t (nI h.2)) q.2.2.2.2)
    else rpPl T src s t t0 (tgB T t dg) par wh o en p
  else none
def rdP (T : zJ) (src : Nat → Nat) (s : Bool) : Nat → rdRec
  | 0 => fun _ _ _ _ _ _ _ _ _ => none
  | n + 1 => rpB T src s (rdP T src s n)
/-- what is read has a part -/
theorem rp_ne (T : zJ) (src : Nat → Nat) (s : Bool) : ∀ n t t0 dg par wh i o en p q, rdP T src s n t t0 dg par wh i o en p = some q → 1 ≤ q.2.1.length := by
  intro n
  induction n with
  | zero => intro t t0 dg par wh i o en p q h; cases h
  | succ n ih =>
    intro t t0 dg par wh i o en p q h
    unfold rdP rpB at h
    by_cases k10 : T 4 t = 10
    · rw [if_pos k10] at h
      by_cases x : isX T t = true
      · rw [if_pos x] at h
        obtain ⟨r, e2, h⟩ := bind_some_eq h
        injection h with h
        subst h
        have := ih _ _ _ _ _ _ _ _ _ _ e2
        exact this
      · rw [if_neg x] at h
        exact ih _ _ _ _ _ _ _ _ _ _ h
    · rw [if_neg k10] at h
      obtain ⟨c, h⟩ := ite_some h
      by_cases k9 : T 4 t = 9
      · rw [if_pos k9] at h
        obtain ⟨y, e1, h⟩ := bind_some_eq h
        obtain ⟨k, e2, h⟩ := bind_some_eq h
        obtain ⟨r, e3, h⟩ := bind_some_eq h
        injection h with h
        subst h
        simp
      · rw [if_neg k9] at h
        by_cases k6 : T 4 t = 6
        · rw [if_pos k6] at h
          obtain ⟨r, e2, h⟩ := bind_some_eq h
          obtain ⟨p3, e3, h⟩ := bind_some_eq h
          injection h with h
          subst h
          simp
        · rw [if_neg k6] at h
          by_cases k7 : T 4 t = 7
          · rw [if_pos k7] at h
            obtain ⟨r, e2, h⟩ := bind_some_eq h
            obtain ⟨p3, e3, h⟩ := bind_some_eq h
            injection h with h
            subst h
            simp
          · rw [if_neg k7] at h
            unfold rpPl at h
            by_cases k1 : T 4 t = 1
            · rw [if_pos k1] at h
              obtain ⟨_, h⟩ := ite_some h
              injection h with h; subst h; simp
            · rw [if_neg k1] at h
              by_cases k2 : T 4 t = 2
              · rw [if_pos k2] at h
                by_cases k11 : T 11 t = 1
                · rw [if_pos k11] at h
                  obtain ⟨_, _, h⟩ := bind_some_eq h
                  injection h with h; subst h; simp
                · rw [if_neg k11] at h
                  obtain ⟨_, _, h⟩ := bind_some_eq h
                  obtain ⟨_, h⟩ := ite_some h
                  injection h with h; subst h; simp
              · rw [if_neg k2] at h
                by_cases k4 : T 4 t = 4
                · rw [if_pos k4] at h
                  obtain ⟨_, _, h⟩ := bind_some_eq h
                  obtain ⟨_, _, h⟩ := bind_some_eq h
                  obtain ⟨_, h⟩ := ite_some h
                  injection h with h; subst h; simp
                · rw [if_neg k4] at h
                  injection h with h; subst h; simp
