/-! TURNS of the law: what is to be shown of class and reference (tools/genTurn.py) -/
theorem qb_some {α σ β : Type} (a : α) (s : σ) (k : α → σ → Option β) : qb (some (a, s)) k = k a s := rfl
theorem qc_some {α β : Type} (a : α) (k : α → Option β) : qc (some a) k = k a := rfl
theorem l_tail0 {N A : Nat} {M5 : zM} {J : zJ} {K : (Int32 × zM) → Option (Bool × zM)} {v y : Int32} (hL : zLy M5 (A + 32) mShL mRf) (hc : J 0 0 = v) :
    (qk (mLyB (zmm M5 (A + 32) 40 J) (A + 32)) <| qb (FM_thrown N (zJo (zmm M5 (A + 32) 40 J) (A + 32))) fun w J2 => if w = v then K (y, zmm (zmm M5 (A + 32) 40 J) (A + 32) 40 J2) else some (false, zmm (zmm M5 (A + 32) 40 J) (A + 32) 40 J2)) = K (y, zmm M5 (A + 32) 40 J) := by
  rw [qk_t (mLyB_of (M := zmm M5 (A + 32) 40 J) hL)]
  unfold FM_thrown
  simp only [qb]
  rw [zmm_J, show zJo (zmm M5 (A + 32) 40 J) (A + 32) 0 0 = v from by rw [zJo_mm (by omega), hc], if_pos rfl]
theorem tn_5 {KC KS A sn q i : Nat} {sx : Nat → Int32} {M : zM} (hi : i + 5 ≤ sn) (hn : sn ≤ 2560) (hc : sx i &&& 15 = 5) {c w : Int32} {M5 : zM} {J : zJ} (h1 : Ev (fun N => FL_at N KC KS A (sx (i + 1)) (A + 72) M = some (c, M5))) (h2 : Ev (fun N => FM_at N (sx (i + 1)) (zJo M5 (A + 32)) = some (w, J))) (hL : zLy M5 (A + 32) mShL mRf) (hs : zsh M5 (A + 72) = some (.inr (2, 1))) (hcd : J 0 0 = c) (hv : c = 0 → zl M5 (A + 72) 0 = w.toInt64) (hI : INV (zmm M5 (A + 32) 40 J) A KC KS q) : lTurn KC KS A sn sx q i M := by
  refine ⟨_, hI, ev_mono (ev_and h1 h2) (fun N q K => ?_)⟩
  rw [lc_5 (l_b0 hi hn) (l_qi hi hn 0 (by omega)) (by rw [nI_clamp (by omega)]; exact hc), nI_p1, nI_p5, nI_clamp (show i + 1 < 2 ^ 31 by omega)]
  rw [qk_t (l_qi hi hn 1 (by omega))]
  rw [q.1, qb_some]
  rw [qk_t (l_qi hi hn 1 (by omega))]
  rw [qk_t (mLyB_of hL), q.2, qb_some]
  exact l_tail (N := N) hL hs hcd hv
theorem tn_6 {KC KS A sn q i : Nat} {sx : Nat → Int32} {M : zM} (hi : i + 5 ≤ sn) (hn : sn ≤ 2560) (hc : sx i &&& 15 = 6) {c w : Int32} {M5 : zM} {J : zJ} (h1 : Ev (fun N => FL_transcode N KC KS A (((sx (i + 1)).toUInt32 % 65536).toInt32) (sx (i + 2)) (sx (i + 3)) (A + 72) M = some (c, M5))) (h2 : Ev (fun N => FM_transcode N (((sx (i + 1)).toUInt32 % 65536).toInt32) (sx (i + 2)) (sx (i + 3)) (zJo M5 (A + 32)) = some (w, J))) (hL : zLy M5 (A + 32) mShL mRf) (hs : zsh M5 (A + 72) = some (.inr (2, 1))) (hcd : J 0 0 = c) (hv : c = 0 → zl M5 (A + 72) 0 = w.toInt64) (hI : INV (zmm M5 (A + 32) 40 J) A KC KS q) : lTurn KC KS A sn sx q i M := by
  refine ⟨_, hI, ev_mono (ev_and h1 h2) (fun N q K => ?_)⟩
  rw [lc_6 (l_b0 hi hn) (l_qi hi hn 0 (by omega)) (by rw [nI_clamp (by omega)]; exact hc), nI_p1, nI_p2, nI_p3, nI_p5, nI_clamp (show i + 1 < 2 ^ 31 by omega), nI_clamp (show i + 2 < 2 ^ 31 by omega), nI_clamp (show i + 3 < 2 ^ 31 by omega)]
  rw [qk_t (l_qi hi hn 1 (by omega)), qk_t (l_qi hi hn 2 (by omega)), qk_t (l_qi hi hn 3 (by omega))]
  rw [q.1, qb_some]
  rw [qk_t (l_qi hi hn 1 (by omega)), qk_t (l_qi hi hn 2 (by omega)), qk_t (l_qi hi hn 3 (by omega))]
  rw [qk_t (mLyB_of hL), q.2, qb_some]
  exact l_tail (N := N) hL hs hcd hv
theorem tn_8 {KC KS A sn q i : Nat} {sx : Nat → Int32} {M : zM} (hi : i + 5 ≤ sn) (hn : sn ≤ 2560) (hc : sx i &&& 15 = 8) {c w : Int32} {M5 : zM} {J : zJ} (h1 : Ev (fun N => FL_part N KC KS A (sx (i + 1)) (sx (i + 2)) (A + 72) M = some (c, M5))) (h2 : Ev (fun N => FM_part N (sx (i + 1)) (sx (i + 2)) (zJo M5 (A + 32)) = some (w, J))) (hL : zLy M5 (A + 32) mShL mRf) (hs : zsh M5 (A + 72) = some (.inr (2, 1))) (hcd : J 0 0 = c) (hv : c = 0 → zl M5 (A + 72) 0 = w.toInt64) (hI : INV (zmm M5 (A + 32) 40 J) A KC KS q) : lTurn KC KS A sn sx q i M := by
  refine ⟨_, hI, ev_mono (ev_and h1 h2) (fun N q K => ?_)⟩
  rw [lc_8 (l_b0 hi hn) (l_qi hi hn 0 (by omega)) (by rw [nI_clamp (by omega)]; exact hc), nI_p1, nI_p2, nI_p5, nI_clamp (show i + 1 < 2 ^ 31 by omega), nI_clamp (show i + 2 < 2 ^ 31 by omega)]
  rw [qk_t (l_qi hi hn 1 (by omega)), qk_t (l_qi hi hn 2 (by omega))]
  rw [q.1, qb_some]
  rw [qk_t (l_qi hi hn 1 (by omega)), qk_t (l_qi hi hn 2 (by omega))]
  rw [qk_t (mLyB_of hL), q.2, qb_some]
  exact l_tail (N := N) hL hs hcd hv
theorem tn_9 {KC KS A sn q i : Nat} {sx : Nat → Int32} {M : zM} (hi : i + 5 ≤ sn) (hn : sn ≤ 2560) (hc : sx i &&& 15 = 9) {c w : Int32} {M5 : zM} {J : zJ} (h1 : Ev (fun N => FL_octet N KC KS A (sx (i + 1)) (sx (i + 2)) (A + 72) M = some (c, M5))) (h2 : Ev (fun N => FM_octet N (sx (i + 1)) (sx (i + 2)) (zJo M5 (A + 32)) = some (w, J))) (hL : zLy M5 (A + 32) mShL mRf) (hs : zsh M5 (A + 72) = some (.inr (2, 1))) (hcd : J 0 0 = c) (hv : c = 0 → zl M5 (A + 72) 0 = w.toInt64) (hI : INV (zmm M5 (A + 32) 40 J) A KC KS q) : lTurn KC KS A sn sx q i M := by
  refine ⟨_, hI, ev_mono (ev_and h1 h2) (fun N q K => ?_)⟩
  rw [lc_9 (l_b0 hi hn) (l_qi hi hn 0 (by omega)) (by rw [nI_clamp (by omega)]; exact hc), nI_p1, nI_p2, nI_p5, nI_clamp (show i + 1 < 2 ^ 31 by omega), nI_clamp (show i + 2 < 2 ^ 31 by omega)]
  rw [qk_t (l_qi hi hn 1 (by omega)), qk_t (l_qi hi hn 2 (by omega))]
  rw [q.1, qb_some]
  rw [qk_t (l_qi hi hn 1 (by omega)), qk_t (l_qi hi hn 2 (by omega))]
  rw [qk_t (mLyB_of hL), q.2, qb_some]
  exact l_tail (N := N) hL hs hcd hv
theorem tn_10 {KC KS A sn q i : Nat} {sx : Nat → Int32} {M : zM} (hi : i + 5 ≤ sn) (hn : sn ≤ 2560) (hc : sx i &&& 15 = 10) {c : Int32} {M5 : zM} {J : zJ} (h1 : Ev (fun N => FL_operation N KC KS A (sx (i + 1)) (((sx (i + 2)).toUInt32 % 65536).toInt32) (sx (i + 3)) (sx (i + 4)) M = some (c, M5))) (h2 : Ev (fun N => FM_operation N (sx (i + 1)) (((sx (i + 2)).toUInt32 % 65536).toInt32) (sx (i + 3)) (sx (i + 4)) (zJo M5 (A + 32)) = some ((), J))) (hL : zLy M5 (A + 32) mShL mRf) (hcd : J 0 0 = c) (hI : INV (zmm M5 (A + 32) 40 J) A KC KS q) : lTurn KC KS A sn sx q i M := by
  refine ⟨_, hI, ev_mono (ev_and h1 h2) (fun N q K => ?_)⟩
  rw [lc_10 (l_b0 hi hn) (l_qi hi hn 0 (by omega)) (by rw [nI_clamp (by omega)]; exact hc), nI_p1, nI_p2, nI_p3, nI_p4, nI_p5, nI_clamp (show i + 1 < 2 ^ 31 by omega), nI_clamp (show i + 2 < 2 ^ 31 by omega), nI_clamp (show i + 3 < 2 ^ 31 by omega), nI_clamp (show i + 4 < 2 ^ 31 by omega)]
  rw [qk_t (l_qi hi hn 1 (by omega)), qk_t (l_qi hi hn 2 (by omega)), qk_t (l_qi hi hn 3 (by omega)), qk_t (l_qi hi hn 4 (by omega))]
  rw [q.1, qb_some]
  rw [qk_t (l_qi hi hn 1 (by omega)), qk_t (l_qi hi hn 2 (by omega)), qk_t (l_qi hi hn 3 (by omega)), qk_t (l_qi hi hn 4 (by omega))]
  rw [qk_t (mLyB_of hL), q.2, qb_some]
  exact l_tail0 (N := N) hL hcd
theorem tn_11 {KC KS A sn q i : Nat} {sx : Nat → Int32} {M : zM} (hi : i + 5 ≤ sn) (hn : sn ≤ 2560) (hc : sx i &&& 15 = 11) {c w : Int32} {M5 : zM} {J : zJ} (h1 : Ev (fun N => FL_serve N KC KS A (A + 72) M = some (c, M5))) (h2 : Ev (fun N => FM_serve N (zJo M5 (A + 32)) = some (w, J))) (hL : zLy M5 (A + 32) mShL mRf) (hs : zsh M5 (A + 72) = some (.inr (2, 1))) (hcd : J 0 0 = c) (hv : c = 0 → zl M5 (A + 72) 0 = w.toInt64) (hI : INV (zmm M5 (A + 32) 40 J) A KC KS q) : lTurn KC KS A sn sx q i M := by
  refine ⟨_, hI, ev_mono (ev_and h1 h2) (fun N q K => ?_)⟩
  rw [lc_11 (l_b0 hi hn) (l_qi hi hn 0 (by omega)) (by rw [nI_clamp (by omega)]; exact hc), nI_p5]
  rw [q.1, qb_some]
  rw [qk_t (mLyB_of hL), q.2, qb_some]
  exact l_tail (N := N) hL hs hcd hv
theorem tn_0 {KC KS A sn q i : Nat} {sx : Nat → Int32} {M : zM} (hi : i + 5 ≤ sn) (hn : sn ≤ 2560) (hc : sx i &&& 15 = 0) {w : Bool} {M5 : zM} {J : zJ} (h0 : zsh M A = some (.inl 8)) (h1 : Ev (fun N => FD_type N KC KS A (((sx (i + 1)).toUInt32 % 65536).toInt32) M = some (w, M5))) (h2 : Ev (fun N => FM_type N (((sx (i + 1)).toUInt32 % 65536).toInt32) (zJo M5 (A + 32)) = some (w, J))) (hL : zLy M5 (A + 32) mShL mRf) (hI : INV (zmm M5 (A + 32) 40 J) A KC KS q) : lTurn KC KS A sn sx q i M := by
  refine ⟨_, hI, ev_mono (ev_and h1 h2) (fun N q K => ?_)⟩
  rw [lc_0 (l_b0 hi hn) (l_qi hi hn 0 (by omega)) (by rw [nI_clamp (by omega)]; exact hc), nI_p1, nI_p5, nI_clamp (show i + 1 < 2 ^ 31 by omega)]
  rw [qk_t (l_qi hi hn 1 (by omega))]
  rw [qk_d h0, q.1, qb_some]
  rw [qk_t (l_qi hi hn 1 (by omega))]
  rw [qk_t (mLyB_of hL), q.2, qb_some]
  exact if_pos rfl
theorem tn_1 {KC KS A sn q i : Nat} {sx : Nat → Int32} {M : zM} (hi : i + 5 ≤ sn) (hn : sn ≤ 2560) (hc : sx i &&& 15 = 1) {w : Int32} {M5 : zM} {J : zJ} (h0 : zsh M A = some (.inl 8)) (h1 : Ev (fun N => FD_clear N KC KS A M = some (w, M5))) (h2 : Ev (fun N => FM_clear N (zJo M5 (A + 32)) = some (w, J))) (hL : zLy M5 (A + 32) mShL mRf) (hI : INV (zmm M5 (A + 32) 40 J) A KC KS q) : lTurn KC KS A sn sx q i M := by
  refine ⟨_, hI, ev_mono (ev_and h1 h2) (fun N q K => ?_)⟩
  rw [lc_1 (l_b0 hi hn) (l_qi hi hn 0 (by omega)) (by rw [nI_clamp (by omega)]; exact hc), nI_p5]
  rw [qk_d h0, q.1, qb_some]
  rw [qk_t (mLyB_of hL), q.2, qb_some]
  exact if_pos rfl
theorem tn_2 {KC KS A sn q i : Nat} {sx : Nat → Int32} {M : zM} (hi : i + 5 ≤ sn) (hn : sn ≤ 2560) (hc : sx i &&& 15 = 2) {w : Int32} {M5 : zM} {J : zJ} (h0 : zsh M A = some (.inl 8)) (h1 : Ev (fun N => FD_compile N KC KS A M = some (w, M5))) (h2 : Ev (fun N => FM_compile N (zJo M5 (A + 32)) = some (w, J))) (hL : zLy M5 (A + 32) mShL mRf) (hI : INV (zmm M5 (A + 32) 40 J) A KC KS q) : lTurn KC KS A sn sx q i M := by
  refine ⟨_, hI, ev_mono (ev_and h1 h2) (fun N q K => ?_)⟩
  rw [lc_2 (l_b0 hi hn) (l_qi hi hn 0 (by omega)) (by rw [nI_clamp (by omega)]; exact hc), nI_p5]
  rw [qk_d h0, q.1, qb_some]
  rw [qk_t (mLyB_of hL), q.2, qb_some]
  exact if_pos rfl
theorem tn_3 {KC KS A sn q i : Nat} {sx : Nat → Int32} {M : zM} (hi : i + 5 ≤ sn) (hn : sn ≤ 2560) (hc : sx i &&& 15 = 3) {w : Bool} {D J : zJ} (hLd : zLy M A dShL dRf) (hL : zLy M (A + 32) mShL mRf) (h1 : Ev (fun N => FD_put N M ((((sx (i + 1)).toInt64 : Int64) <<< ((32 : Int32).toInt64 &&& 63)) ||| (((sx (i + 2)).toInt64) &&& 4294967295)) (sx (i + 3)) (zJo M A) = some (w, D))) (h2 : Ev (fun N => FM_put N ((((sx (i + 1)).toInt64 : Int64) <<< ((32 : Int32).toInt64 &&& 63)) ||| (((sx (i + 2)).toInt64) &&& 4294967295)) (sx (i + 3)) (zJo M (A + 32)) = some (w, J))) (hI : INV (zmm (zmm M A 32 D) (A + 32) 40 J) A KC KS q) : lTurn KC KS A sn sx q i M := by
  refine ⟨_, hI, ev_mono (ev_and h1 h2) (fun N q K => ?_)⟩
  have hx : zJo (zmm M A 32 D) (A + 32) = zJo M (A + 32) := by funext c k; rw [zJo_mmo (by omega)]
  rw [lc_3 (l_b0 hi hn) (l_qi hi hn 0 (by omega)) (by rw [nI_clamp (by omega)]; exact hc), nI_p1, nI_p2, nI_p3, nI_p5, nI_clamp (show i + 1 < 2 ^ 31 by omega), nI_clamp (show i + 2 < 2 ^ 31 by omega), nI_clamp (show i + 3 < 2 ^ 31 by omega)]
  rw [qk_t (l_qi hi hn 1 (by omega)), qk_t (l_qi hi hn 2 (by omega)), qk_t (l_qi hi hn 3 (by omega))]
  rw [qk_t (dLyB_of hLd), q.1, qb_some]
  rw [qk_t (l_qi hi hn 1 (by omega)), qk_t (l_qi hi hn 2 (by omega)), qk_t (l_qi hi hn 3 (by omega))]
  rw [qk_t (mLyB_of (M := zmm M A 32 D) hL), hx, q.2, qb_some]
  exact if_pos rfl
theorem tn_4 {KC KS A sn q i : Nat} {sx : Nat → Int32} {M : zM} (hi : i + 5 ≤ sn) (hn : sn ≤ 2560) (hc : sx i &&& 15 = 4) {w : Int32} {D J : zJ} (hLd : zLy M A dShL dRf) (hL : zLy M (A + 32) mShL mRf) (h1 : Ev (fun N => FD_wipe N M (zJo M A) = some (w, D))) (h2 : Ev (fun N => FM_wipe N (zJo M (A + 32)) = some (w, J))) (hI : INV (zmm (zmm M A 32 D) (A + 32) 40 J) A KC KS q) : lTurn KC KS A sn sx q i M := by
  refine ⟨_, hI, ev_mono (ev_and h1 h2) (fun N q K => ?_)⟩
  have hx : zJo (zmm M A 32 D) (A + 32) = zJo M (A + 32) := by funext c k; rw [zJo_mmo (by omega)]
  rw [lc_4 (l_b0 hi hn) (l_qi hi hn 0 (by omega)) (by rw [nI_clamp (by omega)]; exact hc), nI_p5]
  rw [qk_t (dLyB_of hLd), q.1, qb_some]
  rw [qk_t (mLyB_of (M := zmm M A 32 D) hL), hx, q.2, qb_some]
  exact if_pos rfl
theorem tn_7 {KC KS A sn q i : Nat} {sx : Nat → Int32} {M : zM} (hi : i + 5 ≤ sn) (hn : sn ≤ 2560) (hc : sx i &&& 15 = 7) {w : Int32} {D J : zJ} (hLd : zLy M A dShL dRf) (hL : zLy M (A + 32) mShL mRf) (h1 : Ev (fun N => FD_parts N M (zJo M A) = some (w, D))) (h2 : Ev (fun N => FM_parts N (zJo M (A + 32)) = some (w, J))) (hI : INV (zmm (zmm M A 32 D) (A + 32) 40 J) A KC KS q) : lTurn KC KS A sn sx q i M := by
  refine ⟨_, hI, ev_mono (ev_and h1 h2) (fun N q K => ?_)⟩
  have hx : zJo (zmm M A 32 D) (A + 32) = zJo M (A + 32) := by funext c k; rw [zJo_mmo (by omega)]
  rw [lc_7 (l_b0 hi hn) (l_qi hi hn 0 (by omega)) (by rw [nI_clamp (by omega)]; exact hc), nI_p5]
  rw [qk_t (dLyB_of hLd), q.1, qb_some]
  rw [qk_t (mLyB_of (M := zmm M A 32 D) hL), hx, q.2, qb_some]
  exact if_pos rfl
