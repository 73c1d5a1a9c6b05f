/-! THE LAW, case by case (tools/genCase.py) -/
theorem lc_0 {N KC KS sn o1 o2 o3 : Nat} {sx : Nat → Int32} {K23 : (Int32 × zM) → Option (Bool × zM)} {l4 : Int32} {M : zM} (h0 : ¬ ((nI sn) - 5) < l4) (h1 : qi l4 sn = true) (h : (sx l4.toNatClampNeg) &&& 15 = 0) : FL_law_23 N KC KS sn sx o1 o2 o3 K23 (l4, M) = (
  qk (qi (l4 + 1) sn) <|
  qk (decide (zsh M o1 = some (.inl 8))) <|
  qb (FD_type N KC KS o1 (((sx (l4 + 1).toNatClampNeg).toUInt32 % 65536).toInt32) M) fun v4 M5 =>
  qk (qi (l4 + 1) sn) <|
  qk (mLyB M5 o2) <|
  qb (FM_type N (((sx (l4 + 1).toNatClampNeg).toUInt32 % 65536).toInt32) (zJo M5 o2)) fun v8 J9 =>
  let M10 := zmm M5 o2 40 J9
  if (bI v4) = (bI v8) then
    let y11 := l4 + (5)
    K23 (y11, M10)
  else
    some (false, M10)) := by
  simp only [FL_law_23]
  rw [if_neg h0, qk_t h1, if_pos h]
theorem lc_1 {N KC KS sn o1 o2 o3 : Nat} {sx : Nat → Int32} {K23 : (Int32 × zM) → Option (Bool × zM)} {l4 : Int32} {M : zM} (h0 : ¬ ((nI sn) - 5) < l4) (h1 : qi l4 sn = true) (h : (sx l4.toNatClampNeg) &&& 15 = 1) : FL_law_23 N KC KS sn sx o1 o2 o3 K23 (l4, M) = (
  qk (decide (zsh M o1 = some (.inl 8))) <|
  qb (FD_clear N KC KS o1 M) fun v13 M14 =>
  qk (mLyB M14 o2) <|
  qb (FM_clear N (zJo M14 o2)) fun v16 J17 =>
  let M18 := zmm M14 o2 40 J17
  if v13 = v16 then
    let y19 := l4 + (5)
    K23 (y19, M18)
  else
    some (false, M18)) := by
  simp only [FL_law_23]
  rw [if_neg h0, qk_t h1, if_neg (by rw [h]; decide), if_pos h]
theorem lc_2 {N KC KS sn o1 o2 o3 : Nat} {sx : Nat → Int32} {K23 : (Int32 × zM) → Option (Bool × zM)} {l4 : Int32} {M : zM} (h0 : ¬ ((nI sn) - 5) < l4) (h1 : qi l4 sn = true) (h : (sx l4.toNatClampNeg) &&& 15 = 2) : FL_law_23 N KC KS sn sx o1 o2 o3 K23 (l4, M) = (
  qk (decide (zsh M o1 = some (.inl 8))) <|
  qb (FD_compile N KC KS o1 M) fun v21 M22 =>
  qk (mLyB M22 o2) <|
  qb (FM_compile N (zJo M22 o2)) fun v24 J25 =>
  let M26 := zmm M22 o2 40 J25
  if v21 = v24 then
    let y27 := l4 + (5)
    K23 (y27, M26)
  else
    some (false, M26)) := by
  simp only [FL_law_23]
  rw [if_neg h0, qk_t h1, if_neg (by rw [h]; decide), if_neg (by rw [h]; decide), if_pos h]
theorem lc_3 {N KC KS sn o1 o2 o3 : Nat} {sx : Nat → Int32} {K23 : (Int32 × zM) → Option (Bool × zM)} {l4 : Int32} {M : zM} (h0 : ¬ ((nI sn) - 5) < l4) (h1 : qi l4 sn = true) (h : (sx l4.toNatClampNeg) &&& 15 = 3) : FL_law_23 N KC KS sn sx o1 o2 o3 K23 (l4, M) = (
  qk (qi (l4 + 1) sn) <|
  qk (qi (l4 + 2) sn) <|
  qk (qi (l4 + 3) sn) <|
  qk (dLyB M o1) <|
  qb (FD_put N M ((((sx (l4 + 1).toNatClampNeg).toInt64 : Int64) <<< ((32 : Int32).toInt64 &&& 63)) ||| (((sx (l4 + 2).toNatClampNeg).toInt64) &&& 4294967295)) (sx (l4 + 3).toNatClampNeg) (zJo M o1)) fun v32 J33 =>
  let M34 := zmm M o1 32 J33
  qk (qi (l4 + 1) sn) <|
  qk (qi (l4 + 2) sn) <|
  qk (qi (l4 + 3) sn) <|
  qk (mLyB M34 o2) <|
  qb (FM_put N ((((sx (l4 + 1).toNatClampNeg).toInt64 : Int64) <<< ((32 : Int32).toInt64 &&& 63)) ||| (((sx (l4 + 2).toNatClampNeg).toInt64) &&& 4294967295)) (sx (l4 + 3).toNatClampNeg) (zJo M34 o2)) fun v39 J40 =>
  let M41 := zmm M34 o2 40 J40
  if (bI v32) = (bI v39) then
    let y42 := l4 + (5)
    K23 (y42, M41)
  else
    some (false, M41)) := by
  simp only [FL_law_23]
  rw [if_neg h0, qk_t h1, if_neg (by rw [h]; decide), if_neg (by rw [h]; decide), if_neg (by rw [h]; decide), if_pos h]
theorem lc_4 {N KC KS sn o1 o2 o3 : Nat} {sx : Nat → Int32} {K23 : (Int32 × zM) → Option (Bool × zM)} {l4 : Int32} {M : zM} (h0 : ¬ ((nI sn) - 5) < l4) (h1 : qi l4 sn = true) (h : (sx l4.toNatClampNeg) &&& 15 = 4) : FL_law_23 N KC KS sn sx o1 o2 o3 K23 (l4, M) = (
  qk (dLyB M o1) <|
  qb (FD_wipe N M (zJo M o1)) fun v44 J45 =>
  let M46 := zmm M o1 32 J45
  qk (mLyB M46 o2) <|
  qb (FM_wipe N (zJo M46 o2)) fun v48 J49 =>
  let M50 := zmm M46 o2 40 J49
  if v44 = v48 then
    let y51 := l4 + (5)
    K23 (y51, M50)
  else
    some (false, M50)) := by
  simp only [FL_law_23]
  rw [if_neg h0, qk_t h1, if_neg (by rw [h]; decide), if_neg (by rw [h]; decide), if_neg (by rw [h]; decide), if_neg (by rw [h]; decide), if_pos h]
theorem lc_5 {N KC KS sn o1 o2 o3 : Nat} {sx : Nat → Int32} {K23 : (Int32 × zM) → Option (Bool × zM)} {l4 : Int32} {M : zM} (h0 : ¬ ((nI sn) - 5) < l4) (h1 : qi l4 sn = true) (h : (sx l4.toNatClampNeg) &&& 15 = 5) : FL_law_23 N KC KS sn sx o1 o2 o3 K23 (l4, M) = (
  qk (qi (l4 + 1) sn) <|
  qb (FL_at N KC KS o1 (sx (l4 + 1).toNatClampNeg) o3 M) fun v53 M54 =>
  qk (qi (l4 + 1) sn) <|
  qk (mLyB M54 o2) <|
  qb (FM_at N (sx (l4 + 1).toNatClampNeg) (zJo M54 o2)) fun v57 J58 =>
  let M59 := zmm M54 o2 40 J58
  qk (mLyB M59 o2) <|
  qb (FM_thrown N (zJo M59 o2)) fun v61 J62 =>
  let M63 := zmm M59 o2 40 J62
  if v61 = v53 then
    if v53 = 0 then
      qa (some o3) M63 2 0 fun a65 =>
      if (lg_cmp (zl M63 a65 (0 : Int32).toNatClampNeg) v57.toInt64) = 0 then
        let y66 := l4 + (5)
        K23 (y66, M63)
      else
        some (false, M63)
    else
      let y64 := l4 + (5)
      K23 (y64, M63)
  else
    some (false, M63)) := by
  simp only [FL_law_23]
  rw [if_neg h0, qk_t h1, if_neg (by rw [h]; decide), if_neg (by rw [h]; decide), if_neg (by rw [h]; decide), if_neg (by rw [h]; decide), if_neg (by rw [h]; decide), if_pos h]
theorem lc_6 {N KC KS sn o1 o2 o3 : Nat} {sx : Nat → Int32} {K23 : (Int32 × zM) → Option (Bool × zM)} {l4 : Int32} {M : zM} (h0 : ¬ ((nI sn) - 5) < l4) (h1 : qi l4 sn = true) (h : (sx l4.toNatClampNeg) &&& 15 = 6) : FL_law_23 N KC KS sn sx o1 o2 o3 K23 (l4, M) = (
  qk (qi (l4 + 1) sn) <|
  qk (qi (l4 + 2) sn) <|
  qk (qi (l4 + 3) sn) <|
  qb (FL_transcode N KC KS o1 (((sx (l4 + 1).toNatClampNeg).toUInt32 % 65536).toInt32) (sx (l4 + 2).toNatClampNeg) (sx (l4 + 3).toNatClampNeg) o3 M) fun v70 M71 =>
  qk (qi (l4 + 1) sn) <|
  qk (qi (l4 + 2) sn) <|
  qk (qi (l4 + 3) sn) <|
  qk (mLyB M71 o2) <|
  qb (FM_transcode N (((sx (l4 + 1).toNatClampNeg).toUInt32 % 65536).toInt32) (sx (l4 + 2).toNatClampNeg) (sx (l4 + 3).toNatClampNeg) (zJo M71 o2)) fun v76 J77 =>
  let M78 := zmm M71 o2 40 J77
  qk (mLyB M78 o2) <|
  qb (FM_thrown N (zJo M78 o2)) fun v80 J81 =>
  let M82 := zmm M78 o2 40 J81
  if v80 = v70 then
    if v70 = 0 then
      qa (some o3) M82 2 0 fun a84 =>
      if (lg_cmp (zl M82 a84 (0 : Int32).toNatClampNeg) v76.toInt64) = 0 then
        let y85 := l4 + (5)
        K23 (y85, M82)
      else
        some (false, M82)
    else
      let y83 := l4 + (5)
      K23 (y83, M82)
  else
    some (false, M82)) := by
  simp only [FL_law_23]
  rw [if_neg h0, qk_t h1, if_neg (by rw [h]; decide), if_neg (by rw [h]; decide), if_neg (by rw [h]; decide), if_neg (by rw [h]; decide), if_neg (by rw [h]; decide), if_neg (by rw [h]; decide), if_pos h]
theorem lc_7 {N KC KS sn o1 o2 o3 : Nat} {sx : Nat → Int32} {K23 : (Int32 × zM) → Option (Bool × zM)} {l4 : Int32} {M : zM} (h0 : ¬ ((nI sn) - 5) < l4) (h1 : qi l4 sn = true) (h : (sx l4.toNatClampNeg) &&& 15 = 7) : FL_law_23 N KC KS sn sx o1 o2 o3 K23 (l4, M) = (
  qk (dLyB M o1) <|
  qb (FD_parts N M (zJo M o1)) fun v87 J88 =>
  let M89 := zmm M o1 32 J88
  qk (mLyB M89 o2) <|
  qb (FM_parts N (zJo M89 o2)) fun v91 J92 =>
  let M93 := zmm M89 o2 40 J92
  if v87 = v91 then
    let y94 := l4 + (5)
    K23 (y94, M93)
  else
    some (false, M93)) := by
  simp only [FL_law_23]
  rw [if_neg h0, qk_t h1, if_neg (by rw [h]; decide), if_neg (by rw [h]; decide), if_neg (by rw [h]; decide), if_neg (by rw [h]; decide), if_neg (by rw [h]; decide), if_neg (by rw [h]; decide), if_neg (by rw [h]; decide), if_pos h]
theorem lc_8 {N KC KS sn o1 o2 o3 : Nat} {sx : Nat → Int32} {K23 : (Int32 × zM) → Option (Bool × zM)} {l4 : Int32} {M : zM} (h0 : ¬ ((nI sn) - 5) < l4) (h1 : qi l4 sn = true) (h : (sx l4.toNatClampNeg) &&& 15 = 8) : FL_law_23 N KC KS sn sx o1 o2 o3 K23 (l4, M) = (
  qk (qi (l4 + 1) sn) <|
  qk (qi (l4 + 2) sn) <|
  qb (FL_part N KC KS o1 (sx (l4 + 1).toNatClampNeg) (sx (l4 + 2).toNatClampNeg) o3 M) fun v97 M98 =>
  qk (qi (l4 + 1) sn) <|
  qk (qi (l4 + 2) sn) <|
  qk (mLyB M98 o2) <|
  qb (FM_part N (sx (l4 + 1).toNatClampNeg) (sx (l4 + 2).toNatClampNeg) (zJo M98 o2)) fun v102 J103 =>
  let M104 := zmm M98 o2 40 J103
  qk (mLyB M104 o2) <|
  qb (FM_thrown N (zJo M104 o2)) fun v106 J107 =>
  let M108 := zmm M104 o2 40 J107
  if v106 = v97 then
    if v97 = 0 then
      qa (some o3) M108 2 0 fun a110 =>
      if (lg_cmp (zl M108 a110 (0 : Int32).toNatClampNeg) v102.toInt64) = 0 then
        let y111 := l4 + (5)
        K23 (y111, M108)
      else
        some (false, M108)
    else
      let y109 := l4 + (5)
      K23 (y109, M108)
  else
    some (false, M108)) := by
  simp only [FL_law_23]
  rw [if_neg h0, qk_t h1, if_neg (by rw [h]; decide), if_neg (by rw [h]; decide), if_neg (by rw [h]; decide), if_neg (by rw [h]; decide), if_neg (by rw [h]; decide), if_neg (by rw [h]; decide), if_neg (by rw [h]; decide), if_neg (by rw [h]; decide), if_pos h]
theorem lc_9 {N KC KS sn o1 o2 o3 : Nat} {sx : Nat → Int32} {K23 : (Int32 × zM) → Option (Bool × zM)} {l4 : Int32} {M : zM} (h0 : ¬ ((nI sn) - 5) < l4) (h1 : qi l4 sn = true) (h : (sx l4.toNatClampNeg) &&& 15 = 9) : FL_law_23 N KC KS sn sx o1 o2 o3 K23 (l4, M) = (
  qk (qi (l4 + 1) sn) <|
  qk (qi (l4 + 2) sn) <|
  qb (FL_octet N KC KS o1 (sx (l4 + 1).toNatClampNeg) (sx (l4 + 2).toNatClampNeg) o3 M) fun v114 M115 =>
  qk (qi (l4 + 1) sn) <|
  qk (qi (l4 + 2) sn) <|
  qk (mLyB M115 o2) <|
  qb (FM_octet N (sx (l4 + 1).toNatClampNeg) (sx (l4 + 2).toNatClampNeg) (zJo M115 o2)) fun v119 J120 =>
  let M121 := zmm M115 o2 40 J120
  qk (mLyB M121 o2) <|
  qb (FM_thrown N (zJo M121 o2)) fun v123 J124 =>
  let M125 := zmm M121 o2 40 J124
  if v123 = v114 then
    if v114 = 0 then
      qa (some o3) M125 2 0 fun a127 =>
      if (lg_cmp (zl M125 a127 (0 : Int32).toNatClampNeg) v119.toInt64) = 0 then
        let y128 := l4 + (5)
        K23 (y128, M125)
      else
        some (false, M125)
    else
      let y126 := l4 + (5)
      K23 (y126, M125)
  else
    some (false, M125)) := by
  simp only [FL_law_23]
  rw [if_neg h0, qk_t h1, if_neg (by rw [h]; decide), if_neg (by rw [h]; decide), if_neg (by rw [h]; decide), if_neg (by rw [h]; decide), if_neg (by rw [h]; decide), if_neg (by rw [h]; decide), if_neg (by rw [h]; decide), if_neg (by rw [h]; decide), if_neg (by rw [h]; decide), if_pos h]
theorem lc_10 {N KC KS sn o1 o2 o3 : Nat} {sx : Nat → Int32} {K23 : (Int32 × zM) → Option (Bool × zM)} {l4 : Int32} {M : zM} (h0 : ¬ ((nI sn) - 5) < l4) (h1 : qi l4 sn = true) (h : (sx l4.toNatClampNeg) &&& 15 = 10) : FL_law_23 N KC KS sn sx o1 o2 o3 K23 (l4, M) = (
  qk (qi (l4 + 1) sn) <|
  qk (qi (l4 + 2) sn) <|
  qk (qi (l4 + 3) sn) <|
  qk (qi (l4 + 4) sn) <|
  qb (FL_operation N KC KS o1 (sx (l4 + 1).toNatClampNeg) (((sx (l4 + 2).toNatClampNeg).toUInt32 % 65536).toInt32) (sx (l4 + 3).toNatClampNeg) (sx (l4 + 4).toNatClampNeg) M) fun v133 M134 =>
  qk (qi (l4 + 1) sn) <|
  qk (qi (l4 + 2) sn) <|
  qk (qi (l4 + 3) sn) <|
  qk (qi (l4 + 4) sn) <|
  qk (mLyB M134 o2) <|
  qb (FM_operation N (sx (l4 + 1).toNatClampNeg) (((sx (l4 + 2).toNatClampNeg).toUInt32 % 65536).toInt32) (sx (l4 + 3).toNatClampNeg) (sx (l4 + 4).toNatClampNeg) (zJo M134 o2)) fun v140 J141 =>
  let M142 := zmm M134 o2 40 J141
  qk (mLyB M142 o2) <|
  qb (FM_thrown N (zJo M142 o2)) fun v144 J145 =>
  let M146 := zmm M142 o2 40 J145
  if v144 = v133 then
    let y147 := l4 + (5)
    K23 (y147, M146)
  else
    some (false, M146)) := by
  simp only [FL_law_23]
  rw [if_neg h0, qk_t h1, if_neg (by rw [h]; decide), if_neg (by rw [h]; decide), if_neg (by rw [h]; decide), if_neg (by rw [h]; decide), if_neg (by rw [h]; decide), if_neg (by rw [h]; decide), if_neg (by rw [h]; decide), if_neg (by rw [h]; decide), if_neg (by rw [h]; decide), if_neg (by rw [h]; decide), if_pos h]
theorem lc_11 {N KC KS sn o1 o2 o3 : Nat} {sx : Nat → Int32} {K23 : (Int32 × zM) → Option (Bool × zM)} {l4 : Int32} {M : zM} (h0 : ¬ ((nI sn) - 5) < l4) (h1 : qi l4 sn = true) (h : (sx l4.toNatClampNeg) &&& 15 = 11) : FL_law_23 N KC KS sn sx o1 o2 o3 K23 (l4, M) = (
  qb (FL_serve N KC KS o1 o3 M) fun v148 M149 =>
  qk (mLyB M149 o2) <|
  qb (FM_serve N (zJo M149 o2)) fun v151 J152 =>
  let M153 := zmm M149 o2 40 J152
  qk (mLyB M153 o2) <|
  qb (FM_thrown N (zJo M153 o2)) fun v155 J156 =>
  let M157 := zmm M153 o2 40 J156
  if v155 = v148 then
    if v148 = 0 then
      qa (some o3) M157 2 0 fun a159 =>
      if (lg_cmp (zl M157 a159 (0 : Int32).toNatClampNeg) v151.toInt64) = 0 then
        let y160 := l4 + (5)
        K23 (y160, M157)
      else
        some (false, M157)
    else
      let y158 := l4 + (5)
      K23 (y158, M157)
  else
    some (false, M157)) := by
  simp only [FL_law_23]
  rw [if_neg h0, qk_t h1, if_neg (by rw [h]; decide), if_neg (by rw [h]; decide), if_neg (by rw [h]; decide), if_neg (by rw [h]; decide), if_neg (by rw [h]; decide), if_neg (by rw [h]; decide), if_neg (by rw [h]; decide), if_neg (by rw [h]; decide), if_neg (by rw [h]; decide), if_neg (by rw [h]; decide), if_neg (by rw [h]; decide), if_pos h]
theorem lc_d {N KC KS sn o1 o2 o3 : Nat} {sx : Nat → Int32} {K23 : (Int32 × zM) → Option (Bool × zM)} {l4 : Int32} {M : zM} (h0 : ¬ ((nI sn) - 5) < l4) (h1 : qi l4 sn = true) (g0 : ¬ (sx l4.toNatClampNeg) &&& 15 = 0) (g1 : ¬ (sx l4.toNatClampNeg) &&& 15 = 1) (g2 : ¬ (sx l4.toNatClampNeg) &&& 15 = 2) (g3 : ¬ (sx l4.toNatClampNeg) &&& 15 = 3) (g4 : ¬ (sx l4.toNatClampNeg) &&& 15 = 4) (g5 : ¬ (sx l4.toNatClampNeg) &&& 15 = 5) (g6 : ¬ (sx l4.toNatClampNeg) &&& 15 = 6) (g7 : ¬ (sx l4.toNatClampNeg) &&& 15 = 7) (g8 : ¬ (sx l4.toNatClampNeg) &&& 15 = 8) (g9 : ¬ (sx l4.toNatClampNeg) &&& 15 = 9) (g10 : ¬ (sx l4.toNatClampNeg) &&& 15 = 10) (g11 : ¬ (sx l4.toNatClampNeg) &&& 15 = 11) : FL_law_23 N KC KS sn sx o1 o2 o3 K23 (l4, M) = K23 (l4 + 5, M) := by
  simp only [FL_law_23]
  rw [if_neg h0, qk_t h1, if_neg g0, if_neg g1, if_neg g2, if_neg g3, if_neg g4, if_neg g5, if_neg g6, if_neg g7, if_neg g8, if_neg g9, if_neg g10, if_neg g11]
