/-! THE SPECIFICATION of reading: values out of bytes by the open rules (s: strictly); with each value its parts, its octets, its strict bytes and its packed bits -/
def Pt : Type := Nat × Nat × Int32 × Nat × Int32 × Nat × Nat × Nat
/-- type, type without tags, number, place, parent, first octet, components shown, how many parts it is -/
def mkP (t b : Nat) (v : Int32) (w : Nat) (pa : Int32) (f sh m : Nat) : Pt := (t, b, v, w, pa, f, sh, m)
def pT (p : Pt) : Nat := p.1
def pB (p : Pt) : Nat := p.2.1
def pV (p : Pt) : Int32 := p.2.2.1
def pW (p : Pt) : Nat := p.2.2.2.1
def pA (p : Pt) : Int32 := p.2.2.2.2.1
def pF (p : Pt) : Nat := p.2.2.2.2.2.1
def pS (p : Pt) : Nat := p.2.2.2.2.2.2.1
def pM (p : Pt) : Nat := p.2.2.2.2.2.2.2
/-- packed bits, by the bit at which they begin -/
def PK : Type := Nat → List Bool
def pnil : PK := fun _ => []
def pcat (a b : PK) : PK := fun p => a p ++ b (p + (a p).length)
def ppad : PK := fun p => List.replicate ((8 - p % 8) % 8) false
def ibits (v : Int32) (n : Nat) : List Bool := (List.range n).map (fun k => v.toBitVec.getLsbD (n - 1 - k))
def pbits (v : Int32) (n : Nat) : PK := fun _ => ibits v n
/-- how many bits a number of 0 .. h has -/
def wid (h : Nat) : Nat := if h < 1 then 0 else if h < 2 then 1 else if h < 4 then 2 else if h < 8 then 3 else if h < 16 then 4 else if h < 32 then 5 else if h < 64 then 6 else if h < 128 then 7 else if h < 256 then 8 else 16
def pnum (v : Int32) (h : Nat) : PK := if 255 ≤ h then pcat ppad (pbits v (wid h)) else pbits v (wid h)
/-- parts, octets, strict bytes, packed bits -/
def Rs : Type := List Pt × List Nat × List Nat × PK
def rnil : Rs := ([], [], [], pnil)
def rcat (a b : Rs) : Rs := (a.1 ++ b.1, a.2.1 ++ b.2.1, a.2.2.1 ++ b.2.2.1, pcat a.2.2.2 b.2.2.2)
def lenB (n : Nat) : List Nat := if n < 128 then [n] else if n < 256 then [129, n] else [130, n / 256, n % 256]
def elem (tg : Nat) (c : List Nat) : List Nat := tg :: (lenB c.length ++ c)
/-- the number of bytes of a number, and these bytes -/
def byC (v : Int32) : Nat := if -128 ≤ v.toInt ∧ v.toInt ≤ 127 then 1 else if -32768 ≤ v.toInt ∧ v.toInt ≤ 32767 then 2 else if -8388608 ≤ v.toInt ∧ v.toInt ≤ 8388607 then 3 else 4
def vby (v : Int32) (j : Nat) : Nat := (v.toBitVec.toNat / 2 ^ (8 * j)) % 256
def intB (v : Int32) (c : Nat) : List Nat := (List.range c).map (fun k => vby v (c - 1 - k))
/-- bytes from p on -/
def seg (src : Nat → Nat) (p n : Nat) : List Nat := (List.range n).map (fun k => src (p + k))
/-- the tag that a byte is, as a set -/
def bt (b : Nat) : Int32 := if 128 ≤ b ∧ b ≤ 137 then (1 : Int32) <<< nI (b - 108) else if 160 ≤ b ∧ b ≤ 169 then (1 : Int32) <<< nI (b - 140) else if b = 1 ∨ b = 2 ∨ b = 4 ∨ b = 5 then (1 : Int32) <<< nI b else if b = 48 then 65536 else 0
def ntb (src : Nat → Nat) (en p : Nat) : Int32 := if p < en then bt (src p) else 0
def isMade (T : zJ) (t : Nat) : Bool := decide (T 4 t = 6 ∨ T 4 t = 7)
def isX (T : zJ) (t : Nat) : Bool := decide (T 12 t = 0 ∨ T 4 (chd T (6 * t)) = 9)
/-- the tag byte of a type that is no choice; dg: the digit of an implicit tag in front -/
def tgB (T : zJ) (t : Nat) (dg : Option Nat) : Nat := match dg with
  | some d => (if T 4 t = 6 ∨ T 4 t = 7 ∨ T 4 t = 10 then 160 else 128) + d
  | none => if T 4 t = 10 then 160 + dgt T t else if T 4 t = 6 ∨ T 4 t = 7 then 48 else (T 4 t).toNatClampNeg
/-- the head of an element: where its content begins and ends; none as end: two bytes 0 end it -/
def hdr (s : Bool) (src : Nat → Nat) (tg : Nat) (made : Bool) (en p : Nat) : Option (Nat × Option Nat) :=
  if en < p + 2 then none
  else if src p = tg then
    if src (p + 1) = 128 then (if made = true ∧ s = false then some (p + 2, none) else none)
    else if src (p + 1) < 128 then (if p + 2 + src (p + 1) ≤ en then some (p + 2, some (p + 2 + src (p + 1))) else none)
    else if s = true ∨ 130 < src (p + 1) then none
    else if src (p + 1) = 129 then (if p + 3 + src (p + 2) ≤ en then some (p + 3, some (p + 3 + src (p + 2))) else none)
    else (if p + 4 + (256 * src (p + 2) + src (p + 3)) ≤ en then some (p + 4, some (p + 4 + (256 * src (p + 2) + src (p + 3)))) else none)
  else none
def cls (src : Nat → Nat) (ce : Option Nat) (en p : Nat) : Option Nat := match ce with
  | some c => if p = c then some p else none
  | none => if p + 2 ≤ en ∧ src p = 0 ∧ src (p + 1) = 0 then some (p + 2) else none
/-- is the number (of items, of octets) allowed -/
def alw (T : zJ) (t : Nat) (v : Int32) : Bool := decide (T 11 t = 0 ∨ ((T 5 t).toInt ≤ v.toInt ∧ v.toInt ≤ (T 6 t).toInt))
def rngT (T : zJ) (t : Nat) : Nat := ((T 6 t).toInt - (T 5 t).toInt).toNat
def pcount (T : zJ) (t : Nat) (v : Int32) : PK := if T 11 t = 1 then pnum (v - T 5 t) (rngT T t) else pcat ppad (pbits v 8)
def alnd (T : zJ) (t : Nat) : Bool := decide (¬ (T 11 t = 1 ∧ T 5 t = T 6 t ∧ (T 6 t).toInt ≤ 2))
def pocts (T : zJ) (t : Nat) (os : List Nat) : PK := pcat (pcount T t (nI os.length)) (pcat (if os ≠ [] ∧ alnd T t = true then ppad else pnil) (fun _ => os.flatMap (fun b => ibits (nI b) 8)))
def pint (T : zJ) (t : Nat) (v : Int32) : PK := if T 11 t = 1 then pnum (v - T 5 t) (rngT T t) else pcat ppad (pcat (pbits (nI (byC v)) 8) (pbits v (8 * byC v)))
/-- the number that bytes from p on are -/
def ivF (src : Nat → Nat) (p : Nat) : Nat → Int32
  | 0 => if src p < 128 then 0 else -1
  | c + 1 => (ivF src p c <<< (8 : Int32)) ||| nI (src (p + c))
def hdV (l : List Pt) : Int32 := match l with
  | [] => 0
  | p :: _ => pV p
def rdRec : Type := Nat → Nat → Option Nat → Int32 → Nat → Nat → Nat → Nat → Nat → Option (Nat × Rs)
/-- components from j on, m of them: position, how many parts, which are shown, marks, the rest -/
def rdC (T : zJ) (src : Nat → Nat) (s : Bool) (rc : rdRec) (t : Nat) (par : Int32) (lim : Nat) : Nat → Nat → Nat → Nat → Nat → Option (Nat × Nat × Nat × List Bool × Rs)
  | 0, _, _, _, p => some (p, 0, 0, [], rnil)
  | m + 1, j, i, o, p =>
    if T 9 (chd T (6 * t + j)) &&& ntb src lim p = 0 then
      if T 14 (6 * t + j) = 1 then
        (rdC T src s rc t par lim m (j + 1) i o p).bind fun q => some (q.1, q.2.1, q.2.2.1, false :: q.2.2.2.1, q.2.2.2.2)
      else if T 14 (6 * t + j) = 2 ∧ i < 100 then
        (rdC T src s rc t par lim m (j + 1) (i + 1) o p).bind fun q => some (q.1, q.2.1 + 1, q.2.2.1, false :: q.2.2.2.1, rcat ([mkP (chd T (6 * t + j)) (bas T 6 (chd T (6 * t + j))) (T 15 (6 * t + j)) j par o 0 1], [], [], pnil) q.2.2.2.2)
      else none
    else
      (rc (chd T (6 * t + j)) (chd T (6 * t + j)) none par j i o lim p).bind fun r =>
        if T 14 (6 * t + j) = 2 ∧ hdV r.2.1 = T 15 (6 * t + j) then
          if s = true then none
          else (rdC T src s rc t par lim m (j + 1) (i + r.2.1.length) (o + r.2.2.1.length) r.1).bind fun q => some (q.1, q.2.1 + 1, q.2.2.1, false :: q.2.2.2.1, rcat (r.2.1, r.2.2.1, [], pnil) q.2.2.2.2)
        else (rdC T src s rc t par lim m (j + 1) (i + r.2.1.length) (o + r.2.2.1.length) r.1).bind fun q => some (q.1, q.2.1 + 1, 2 ^ j + q.2.2.1, (if T 14 (6 * t + j) = 0 then q.2.2.2.1 else true :: q.2.2.2.1), rcat r.2 q.2.2.2.2)
/-- items from the k-th on -/
def rdL (src : Nat → Nat) (rc : rdRec) (u : Nat) (par : Int32) (lim : Nat) : Nat → Nat → Nat → Nat → Nat → Option (Nat × Nat × Rs)
  | 0, _, _, _, p => some (p, 0, rnil)
  | m + 1, k, i, o, p =>
    if ntb src lim p = 0 then some (p, 0, rnil)
    else (rc u u none par k i o lim p).bind fun r =>
      (rdL src rc u par lim m (k + 1) (i + r.2.1.length) (o + r.2.2.1.length) r.1).bind fun q => some (q.1, q.2.1 + 1, rcat r.2 q.2.2)
/-- the first alternative with this tag -/
def altF (T : zJ) (t : Nat) (b : Int32) : Nat → Nat → Option Nat
  | 0, _ => none
  | m + 1, j => if T 9 (chd T (6 * t + j)) &&& b = 0 then altF T t b m (j + 1) else some j
def rdPl (T : zJ) (src : Nat → Nat) (s : Bool) (t t0 tg : Nat) (par : Int32) (wh o p c : Nat) : Option (Nat × Rs) :=
  if T 4 t = 1 then
    if c = p + 1 ∧ ¬ (s = true ∧ src p ≠ 0 ∧ src p ≠ 255) then some (c, [mkP t0 t (if src p = 0 then 0 else 1) wh par o 0 1], [], elem tg [if src p = 0 then 0 else 255], pbits (if src p = 0 then 0 else 1) 1)
    else none
  else if T 4 t = 2 then
    if 1 ≤ c - p ∧ c - p ≤ 4 ∧ byC (ivF src p (c - p)) = c - p ∧ alw T t (ivF src p (c - p)) = true then some (c, [mkP t0 t (ivF src p (c - p)) wh par o 0 1], [], elem tg (intB (ivF src p (c - p)) (c - p)), pint T t (ivF src p (c - p)))
    else none
  else if T 4 t = 4 then
    if alw T t (nI (c - p)) = true then some (c, [mkP t0 t (nI (c - p)) wh par o 0 1], seg src p (c - p), elem tg (seg src p (c - p)), pocts T t (seg src p (c - p)))
    else none
  else
    if c = p then some (c, [mkP t0 t 0 wh par o 0 1], [], elem tg [], pnil) else none
/-- one level -/
def rdB (T : zJ) (src : Nat → Nat) (s : Bool) (rc : rdRec) : rdRec := fun t t0 dg par wh i o en p =>
  if T 4 t = 10 then
    if isX T t = true then
      (hdr s src (tgB T t dg) true en p).bind fun h =>
        (rc (chd T (6 * t)) t0 none par wh i o (h.2.getD en) h.1).bind fun r =>
          (cls src h.2 en r.1).bind fun p3 => some (p3, r.2.1, r.2.2.1, elem (tgB T t dg) r.2.2.2.1, r.2.2.2.2)
    else rc (chd T (6 * t)) t0 (some (dg.getD (dgt T t))) par wh i o en p
  else if T 4 t = 9 then
    (altF T t (ntb src en p) (cnt T t) 0).bind fun k =>
      if i < 100 then
        (rc (chd T (6 * t + k)) (chd T (6 * t + k)) none (nI i) 0 (i + 1) o en p).bind fun r =>
          some (r.1, mkP t0 t (nI k) wh par o 0 (r.2.1.length + 1) :: r.2.1, r.2.2.1, r.2.2.2.1, pcat (pnum (nI (jRank T t k (cnt T t))) (cnt T t - 1)) r.2.2.2.2)
      else none
  else
    (hdr s src (tgB T t dg) (isMade T t) en p).bind fun h =>
      if i < 100 then
        if T 4 t = 6 then
          (rdC T src s rc t (nI i) (h.2.getD en) (cnt T t) 0 (i + 1) o h.1).bind fun q =>
            (cls src h.2 en q.1).bind fun p3 =>
              some (p3, mkP t0 t (nI q.2.1) wh par o q.2.2.1 (q.2.2.2.2.1.length + 1) :: q.2.2.2.2.1, q.2.2.2.2.2.1, elem (tgB T t dg) q.2.2.2.2.2.2.1, pcat (fun _ => q.2.2.2.1) q.2.2.2.2.2.2.2)
        else if T 4 t = 7 then
          (rdL src rc (chd T (6 * t)) (nI i) (h.2.getD en) 100 0 (i + 1) o h.1).bind fun q =>
            if alw T t (nI q.2.1) = true then
              (cls src h.2 en q.1).bind fun p3 =>
                some (p3, mkP t0 t (nI q.2.1) wh par o 0 (q.2.2.1.length + 1) :: q.2.2.1, q.2.2.2.1, elem (tgB T t dg) q.2.2.2.2.1, pcat (pcount T t (nI q.2.1)) q.2.2.2.2.2)
            else none
        else rdPl T src s t t0 (tgB T t dg) par wh o h.1 (h.2.getD en)
      else none
def rdE (T : zJ) (src : Nat → Nat) (s : Bool) : Nat → rdRec
  | 0 => fun _ _ _ _ _ _ _ _ _ => none
  | n + 1 => rdB T src s (rdE T src s n)
