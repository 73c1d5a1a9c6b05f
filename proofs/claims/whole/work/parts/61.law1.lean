/-! THE LAW AS A FUNCTION (tools/genL.py): its loop -/
def FL_law_23 (N : Nat) (KC : Nat) (KS : Nat) (sn : Nat) (sx : Nat → Int32) (o1 : Nat) (o2 : Nat) (o3 : Nat) (K23 : (Int32 × zM) → Option (Bool × zM)) (s : Int32 × zM) : Option (Bool × zM) :=
  let l4 := s.1
  let M := s.2
  if ((nI sn) - 5) < l4 then
    some (true, M)
  else
    qk (qi l4 sn) <|
    if ((sx l4.toNatClampNeg) &&& 15) = 0 then
      qk (qi (l4 + 1) sn) <|
      qk (decide (zsh M o1 = some (.inl 8))) <|
      qb (FD_type N KC KS o1 (((sx (l4 + 1).toNatClampNeg).toUInt32 % 65536).toInt32) M) fun v4 M5 =>
      qk (qi (l4 + 1) sn) <|
      qk (mLyB M5 o2) <|
      qb (FM_type N (((sx (l4 + 1).toNatClampNeg).toUInt32 % 65536).toInt32) (zJo M5 o2)) fun v8 J9 =>
      let M10 := zmm M5 o2 40 J9
      if (bI v4) = (bI v8) then
        let y11 := l4 + (5)
        K23 (y11, M10)
      else
        some (false, M10)
    else
      if ((sx l4.toNatClampNeg) &&& 15) = 1 then
        qk (decide (zsh M o1 = some (.inl 8))) <|
        qb (FD_clear N KC KS o1 M) fun v13 M14 =>
        qk (mLyB M14 o2) <|
        qb (FM_clear N (zJo M14 o2)) fun v16 J17 =>
        let M18 := zmm M14 o2 40 J17
        if v13 = v16 then
          let y19 := l4 + (5)
          K23 (y19, M18)
        else
          some (false, M18)
      else
        if ((sx l4.toNatClampNeg) &&& 15) = 2 then
          qk (decide (zsh M o1 = some (.inl 8))) <|
          qb (FD_compile N KC KS o1 M) fun v21 M22 =>
          qk (mLyB M22 o2) <|
          qb (FM_compile N (zJo M22 o2)) fun v24 J25 =>
          let M26 := zmm M22 o2 40 J25
          if v21 = v24 then
            let y27 := l4 + (5)
            K23 (y27, M26)
          else
            some (false, M26)
        else
          if ((sx l4.toNatClampNeg) &&& 15) = 3 then
            qk (qi (l4 + 1) sn) <|
            qk (qi (l4 + 2) sn) <|
            qk (qi (l4 + 3) sn) <|
            qk (dLyB M o1) <|
            qb (FD_put N M ((((sx (l4 + 1).toNatClampNeg).toInt64 : Int64) <<< ((32 : Int32).toInt64 &&& 63)) ||| (((sx (l4 + 2).toNatClampNeg).toInt64) &&& 4294967295)) (sx (l4 + 3).toNatClampNeg) (zJo M o1)) fun v32 J33 =>
            let M34 := zmm M o1 32 J33
            qk (qi (l4 + 1) sn) <|
            qk (qi (l4 + 2) sn) <|
            qk (qi (l4 + 3) sn) <|
            qk (mLyB M34 o2) <|
            qb (FM_put N ((((sx (l4 + 1).toNatClampNeg).toInt64 : Int64) <<< ((32 : Int32).toInt64 &&& 63)) ||| (((sx (l4 + 2).toNatClampNeg).toInt64) &&& 4294967295)) (sx (l4 + 3).toNatClampNeg) (zJo M34 o2)) fun v39 J40 =>
            let M41 := zmm M34 o2 40 J40
            if (bI v32) = (bI v39) then
              let y42 := l4 + (5)
              K23 (y42, M41)
            else
              some (false, M41)
          else
            if ((sx l4.toNatClampNeg) &&& 15) = 4 then
              qk (dLyB M o1) <|
              qb (FD_wipe N M (zJo M o1)) fun v44 J45 =>
              let M46 := zmm M o1 32 J45
              qk (mLyB M46 o2) <|
              qb (FM_wipe N (zJo M46 o2)) fun v48 J49 =>
              let M50 := zmm M46 o2 40 J49
              if v44 = v48 then
                let y51 := l4 + (5)
                K23 (y51, M50)
              else
                some (false, M50)
            else
              if ((sx l4.toNatClampNeg) &&& 15) = 5 then
                qk (qi (l4 + 1) sn) <|
                qb (FL_at N KC KS o1 (sx (l4 + 1).toNatClampNeg) o3 M) fun v53 M54 =>
                qk (qi (l4 + 1) sn) <|
                qk (mLyB M54 o2) <|
                qb (FM_at N (sx (l4 + 1).toNatClampNeg) (zJo M54 o2)) fun v57 J58 =>
                let M59 := zmm M54 o2 40 J58
                qk (mLyB M59 o2) <|
                qb (FM_thrown N (zJo M59 o2)) fun v61 J62 =>
                let M63 := zmm M59 o2 40 J62
                if v61 = v53 then
                  if v53 = 0 then
                    qa (some o3) M63 2 0 fun a65 =>
                    if (lg_cmp (zl M63 a65 (0 : Int32).toNatClampNeg) v57.toInt64) = 0 then
                      let y66 := l4 + (5)
                      K23 (y66, M63)
                    else
                      some (false, M63)
                  else
                    let y64 := l4 + (5)
                    K23 (y64, M63)
                else
                  some (false, M63)
              else
                if ((sx l4.toNatClampNeg) &&& 15) = 6 then
                  qk (qi (l4 + 1) sn) <|
                  qk (qi (l4 + 2) sn) <|
                  qk (qi (l4 + 3) sn) <|
                  qb (FL_transcode N KC KS o1 (((sx (l4 + 1).toNatClampNeg).toUInt32 % 65536).toInt32) (sx (l4 + 2).toNatClampNeg) (sx (l4 + 3).toNatClampNeg) o3 M) fun v70 M71 =>
                  qk (qi (l4 + 1) sn) <|
                  qk (qi (l4 + 2) sn) <|
                  qk (qi (l4 + 3) sn) <|
                  qk (mLyB M71 o2) <|
                  qb (FM_transcode N (((sx (l4 + 1).toNatClampNeg).toUInt32 % 65536).toInt32) (sx (l4 + 2).toNatClampNeg) (sx (l4 + 3).toNatClampNeg) (zJo M71 o2)) fun v76 J77 =>
                  let M78 := zmm M71 o2 40 J77
                  qk (mLyB M78 o2) <|
                  qb (FM_thrown N (zJo M78 o2)) fun v80 J81 =>
                  let M82 := zmm M78 o2 40 J81
                  if v80 = v70 then
                    if v70 = 0 then
                      qa (some o3) M82 2 0 fun a84 =>
                      if (lg_cmp (zl M82 a84 (0 : Int32).toNatClampNeg) v76.toInt64) = 0 then
                        let y85 := l4 + (5)
                        K23 (y85, M82)
                      else
                        some (false, M82)
                    else
                      let y83 := l4 + (5)
                      K23 (y83, M82)
                  else
                    some (false, M82)
                else
                  if ((sx l4.toNatClampNeg) &&& 15) = 7 then
                    qk (dLyB M o1) <|
                    qb (FD_parts N M (zJo M o1)) fun v87 J88 =>
                    let M89 := zmm M o1 32 J88
                    qk (mLyB M89 o2) <|
                    qb (FM_parts N (zJo M89 o2)) fun v91 J92 =>
                    let M93 := zmm M89 o2 40 J92
                    if v87 = v91 then
                      let y94 := l4 + (5)
                      K23 (y94, M93)
                    else
                      some (false, M93)
                  else
                    if ((sx l4.toNatClampNeg) &&& 15) = 8 then
                      qk (qi (l4 + 1) sn) <|
                      qk (qi (l4 + 2) sn) <|
                      qb (FL_part N KC KS o1 (sx (l4 + 1).toNatClampNeg) (sx (l4 + 2).toNatClampNeg) o3 M) fun v97 M98 =>
                      qk (qi (l4 + 1) sn) <|
                      qk (qi (l4 + 2) sn) <|
                      qk (mLyB M98 o2) <|
                      qb (FM_part N (sx (l4 + 1).toNatClampNeg) (sx (l4 + 2).toNatClampNeg) (zJo M98 o2)) fun v102 J103 =>
                      let M104 := zmm M98 o2 40 J103
                      qk (mLyB M104 o2) <|
                      qb (FM_thrown N (zJo M104 o2)) fun v106 J107 =>
                      let M108 := zmm M104 o2 40 J107
                      if v106 = v97 then
                        if v97 = 0 then
                          qa (some o3) M108 2 0 fun a110 =>
                          if (lg_cmp (zl M108 a110 (0 : Int32).toNatClampNeg) v102.toInt64) = 0 then
                            let y111 := l4 + (5)
                            K23 (y111, M108)
                          else
                            some (false, M108)
                        else
                          let y109 := l4 + (5)
                          K23 (y109, M108)
                      else
                        some (false, M108)
                    else
                      if ((sx l4.toNatClampNeg) &&& 15) = 9 then
                        qk (qi (l4 + 1) sn) <|
                        qk (qi (l4 + 2) sn) <|
                        qb (FL_octet N KC KS o1 (sx (l4 + 1).toNatClampNeg) (sx (l4 + 2).toNatClampNeg) o3 M) fun v114 M115 =>
                        qk (qi (l4 + 1) sn) <|
                        qk (qi (l4 + 2) sn) <|
                        qk (mLyB M115 o2) <|
                        qb (FM_octet N (sx (l4 + 1).toNatClampNeg) (sx (l4 + 2).toNatClampNeg) (zJo M115 o2)) fun v119 J120 =>
                        let M121 := zmm M115 o2 40 J120
                        qk (mLyB M121 o2) <|
                        qb (FM_thrown N (zJo M121 o2)) fun v123 J124 =>
                        let M125 := zmm M121 o2 40 J124
                        if v123 = v114 then
                          if v114 = 0 then
                            qa (some o3) M125 2 0 fun a127 =>
                            if (lg_cmp (zl M125 a127 (0 : Int32).toNatClampNeg) v119.toInt64) = 0 then
                              let y128 := l4 + (5)
                              K23 (y128, M125)
                            else
                              some (false, M125)
                          else
                            let y126 := l4 + (5)
                            K23 (y126, M125)
                        else
                          some (false, M125)
                      else
                        if ((sx l4.toNatClampNeg) &&& 15) = 10 then
                          qk (qi (l4 + 1) sn) <|
                          qk (qi (l4 + 2) sn) <|
                          qk (qi (l4 + 3) sn) <|
                          qk (qi (l4 + 4) sn) <|
                          qb (FL_operation N KC KS o1 (sx (l4 + 1).toNatClampNeg) (((sx (l4 + 2).toNatClampNeg).toUInt32 % 65536).toInt32) (sx (l4 + 3).toNatClampNeg) (sx (l4 + 4).toNatClampNeg) M) fun v133 M134 =>
                          qk (qi (l4 + 1) sn) <|
                          qk (qi (l4 + 2) sn) <|
                          qk (qi (l4 + 3) sn) <|
                          qk (qi (l4 + 4) sn) <|
                          qk (mLyB M134 o2) <|
                          qb (FM_operation N (sx (l4 + 1).toNatClampNeg) (((sx (l4 + 2).toNatClampNeg).toUInt32 % 65536).toInt32) (sx (l4 + 3).toNatClampNeg) (sx (l4 + 4).toNatClampNeg) (zJo M134 o2)) fun v140 J141 =>
                          let M142 := zmm M134 o2 40 J141
                          qk (mLyB M142 o2) <|
                          qb (FM_thrown N (zJo M142 o2)) fun v144 J145 =>
                          let M146 := zmm M142 o2 40 J145
                          if v144 = v133 then
                            let y147 := l4 + (5)
                            K23 (y147, M146)
                          else
                            some (false, M146)
                        else
                          if ((sx l4.toNatClampNeg) &&& 15) = 11 then
                            qb (FL_serve N KC KS o1 o3 M) fun v148 M149 =>
                            qk (mLyB M149 o2) <|
                            qb (FM_serve N (zJo M149 o2)) fun v151 J152 =>
                            let M153 := zmm M149 o2 40 J152
                            qk (mLyB M153 o2) <|
                            qb (FM_thrown N (zJo M153 o2)) fun v155 J156 =>
                            let M157 := zmm M153 o2 40 J156
                            if v155 = v148 then
                              if v148 = 0 then
                                qa (some o3) M157 2 0 fun a159 =>
                                if (lg_cmp (zl M157 a159 (0 : Int32).toNatClampNeg) v151.toInt64) = 0 then
                                  let y160 := l4 + (5)
                                  K23 (y160, M157)
                                else
                                  some (false, M157)
                              else
                                let y158 := l4 + (5)
                                K23 (y158, M157)
                            else
                              some (false, M157)
                          else
                            let y161 := l4 + (5)
                            K23 (y161, M)
theorem SL_law_23 {g : zg} {d N : Nat} {KC KS : Nat} {sn : Nat} {sx : Nat → Int32} {r : Bool} {M1 : zM}  {o1 : Nat} {o2 : Nat} {o3 : Nat} (hz : zZ g KC KS) (hsn : sn = g.sn) (hsx : sx = g.sx) (hd : 52 ≤ d)  : ∀ n s, qfix (FL_law_23 N KC KS sn sx o1 o2 o3) n s = some (r, M1) → zG g d mL_law (zPq (rB r) (M1)) (s.2) 23 [(0, va_rf (some g.sb)), (1, va_rf (some o1)), (2, va_rf (some o2)), (3, va_rf (some o3)), (4, .int s.1)] [] := by
  refine qfix_sound (fun K23 hK23 s h => ?_)
  unfold FL_law_23 at h
  subst hsn
  subst hsx
  refine zi_iload 4 (dq dL_law 13 rfl) rfl ?_
  refine zi_aload_n 0 (dq dL_law 14 rfl) rfl ?_
  refine zi_slen (dq dL_law 15 rfl) ?_
  refine zi_iconst (v := 5) (dq dL_law 16 rfl) (by decide) ?_
  refine zi_isub (dq dL_law 17 rfl) ?_
  refine zi_icmp_gt (tgt := 646) (dq dL_law 18 rfl) (by decide) (fun c => ?_) (fun c => ?_)
  · have h := q_t c h
    refine zi_iconst (v := 1) (dq dL_law 386 rfl) (by decide) ?_
    exact zi_ireturn rfl (by decide) (dq dL_law 387 rfl) (q_rbZ (b := true) h)
  · have h := q_f c h
    refine zi_aload_n 0 (dq dL_law 19 rfl) rfl ?_
    refine zi_iload 4 (dq dL_law 20 rfl) rfl ?_
    obtain ⟨c1, h⟩ := q_k h
    refine zi_sld (qi_in c1) (dq dL_law 21 rfl) ?_
    refine zi_bipush (v := 15) (dq dL_law 22 rfl) (by decide) ?_
    refine zi_iand (dq dL_law 23 rfl) ?_
    rcases q_w h with ⟨c0, h⟩ | ⟨c0, h⟩
    · refine zi_top c0 ?_
      refine zi_tableIn (tgt := 100) (dq dL_law 24 rfl) (by decide) (by decide) rfl (by decide) ?_
      refine zi_aload_n 1 (dq dL_law 25 rfl) rfl ?_
      refine zi_aload_n 0 (dq dL_law 26 rfl) rfl ?_
      refine zi_iload 4 (dq dL_law 27 rfl) rfl ?_
      refine zi_iconst (v := 1) (dq dL_law 28 rfl) (by decide) ?_
      refine zi_iadd (dq dL_law 29 rfl) ?_
      obtain ⟨c2, h⟩ := q_k h
      refine zi_sld (qi_in c2) (dq dL_law 30 rfl) ?_
      refine zi_i2c (dq dL_law 31 rfl) ?_
      obtain ⟨c3, h⟩ := q_k h
      replace c3 := of_decide_eq_true c3
      obtain ⟨v4, M5, hv4, h⟩ := q_b h
      refine zi_cVi1 (SD_type hz  c3 hv4 (d := d - 1) (by omega)) wD_type aL_46 iD_type sD_type (by omega) c3 rfl (Nat.le_of_ble_eq_true rfl) (dq dL_law 32 rfl) (fun _ _ hh => ?_)
      obtain ⟨rfl, rfl⟩ := hh
      refine zi_aload_n 2 (dq dL_law 33 rfl) rfl ?_
      refine zi_aload_n 0 (dq dL_law 34 rfl) rfl ?_
      refine zi_iload 4 (dq dL_law 35 rfl) rfl ?_
      refine zi_iconst (v := 1) (dq dL_law 36 rfl) (by decide) ?_
      refine zi_iadd (dq dL_law 37 rfl) ?_
      obtain ⟨c6, h⟩ := q_k h
      refine zi_sld (qi_in c6) (dq dL_law 38 rfl) ?_
      refine zi_i2c (dq dL_law 39 rfl) ?_
      obtain ⟨c7, h⟩ := q_k h
      replace c7 := mLyB_ok c7
      obtain ⟨v8, J9, hv8, h⟩ := q_b h
      have qv8 := SM_type (g := g) c7 hv8 (d := d - 1) (by omega)
      rw [zmm_J] at qv8
      refine zi_cVi1 qv8 wM_type aL_50 iM_type sM_type (by omega) (zLs c7 0 rfl) rfl (Nat.le_of_ble_eq_true rfl) (dq dL_law 40 rfl) (fun _ _ hh => ?_)
      obtain ⟨rfl, rfl⟩ := hh
      refine zi_icmp_eq (tgt := 640) (dq dL_law 41 rfl) (by decide) (fun c => ?_) (fun c => ?_)
      · have h := q_t c h
        refine zi_iincC (v := _ + (5)) (lv' := [(4, _), (0, _), (1, _), (2, _), (3, _)]) 4 (dq dL_law 384 rfl) rfl rfl (by decide) (by simp [z_cr, z_ci]) rfl ?_
        refine zi_goto (tgt := 23) (dq dL_law 385 rfl) (by decide) ?_
        exact zG_lv (zs_c 1 rfl (zs_c 2 rfl (zs_c 3 rfl (zs_c 4 rfl (zs_c 0 rfl zs_n))))) (hK23 _ h)
      · have h := q_f c h
        refine zi_iconst (v := 0) (dq dL_law 42 rfl) (by decide) ?_
        exact zi_ireturn rfl (by decide) (dq dL_law 43 rfl) (q_rbZ (b := false) h)
    rcases q_w h with ⟨c1, h⟩ | ⟨c1, h⟩
    · refine zi_top c1 ?_
      refine zi_tableIn (tgt := 127) (dq dL_law 24 rfl) (by decide) (by decide) rfl (by decide) ?_
      refine zi_aload_n 1 (dq dL_law 44 rfl) rfl ?_
      obtain ⟨c12, h⟩ := q_k h
      replace c12 := of_decide_eq_true c12
      obtain ⟨v13, M14, hv13, h⟩ := q_b h
      refine zi_cVi0 (SD_clear hz  c12 hv13 (d := d - 1) (by omega)) wD_clear aL_51 iD_clear sD_clear (by omega) c12 rfl (Nat.le_of_ble_eq_true rfl) (dq dL_law 45 rfl) (fun _ _ hh => ?_)
      obtain ⟨rfl, rfl⟩ := hh
      refine zi_aload_n 2 (dq dL_law 46 rfl) rfl ?_
      obtain ⟨c15, h⟩ := q_k h
      replace c15 := mLyB_ok c15
      obtain ⟨v16, J17, hv16, h⟩ := q_b h
      have qv16 := SM_clear (g := g) c15 hv16 (d := d - 1) (by omega)
      rw [zmm_J] at qv16
      refine zi_cVi0 qv16 wM_clear aL_54 iM_clear sM_clear (by omega) (zLs c15 0 rfl) rfl (Nat.le_of_ble_eq_true rfl) (dq dL_law 47 rfl) (fun _ _ hh => ?_)
      obtain ⟨rfl, rfl⟩ := hh
      refine zi_icmp_eq (tgt := 640) (dq dL_law 48 rfl) (by decide) (fun c => ?_) (fun c => ?_)
      · have h := q_t c h
        refine zi_iincC (v := _ + (5)) (lv' := [(4, _), (0, _), (1, _), (2, _), (3, _)]) 4 (dq dL_law 384 rfl) rfl rfl (by decide) (by simp [z_cr, z_ci]) rfl ?_
        refine zi_goto (tgt := 23) (dq dL_law 385 rfl) (by decide) ?_
        exact zG_lv (zs_c 1 rfl (zs_c 2 rfl (zs_c 3 rfl (zs_c 4 rfl (zs_c 0 rfl zs_n))))) (hK23 _ h)
      · have h := q_f c h
        refine zi_iconst (v := 0) (dq dL_law 49 rfl) (by decide) ?_
        exact zi_ireturn rfl (by decide) (dq dL_law 50 rfl) (q_rbZ (b := false) h)
    rcases q_w h with ⟨c2, h⟩ | ⟨c2, h⟩
    · refine zi_top c2 ?_
      refine zi_tableIn (tgt := 140) (dq dL_law 24 rfl) (by decide) (by decide) rfl (by decide) ?_
      refine zi_aload_n 1 (dq dL_law 51 rfl) rfl ?_
      obtain ⟨c20, h⟩ := q_k h
      replace c20 := of_decide_eq_true c20
      obtain ⟨v21, M22, hv21, h⟩ := q_b h
      refine zi_cVi0 (SD_compile hz  c20 hv21 (d := d - 1) (by omega)) wD_compile aL_55 iD_compile sD_compile (by omega) c20 rfl (Nat.le_of_ble_eq_true rfl) (dq dL_law 52 rfl) (fun _ _ hh => ?_)
      obtain ⟨rfl, rfl⟩ := hh
      refine zi_aload_n 2 (dq dL_law 53 rfl) rfl ?_
      obtain ⟨c23, h⟩ := q_k h
      replace c23 := mLyB_ok c23
      obtain ⟨v24, J25, hv24, h⟩ := q_b h
      have qv24 := SM_compile (g := g) c23 hv24 (d := d - 1) (by omega)
      rw [zmm_J] at qv24
      refine zi_cVi0 qv24 wM_compile aL_58 iM_compile sM_compile (by omega) (zLs c23 0 rfl) rfl (Nat.le_of_ble_eq_true rfl) (dq dL_law 54 rfl) (fun _ _ hh => ?_)
      obtain ⟨rfl, rfl⟩ := hh
      refine zi_icmp_eq (tgt := 640) (dq dL_law 55 rfl) (by decide) (fun c => ?_) (fun c => ?_)
      · have h := q_t c h
        refine zi_iincC (v := _ + (5)) (lv' := [(4, _), (0, _), (1, _), (2, _), (3, _)]) 4 (dq dL_law 384 rfl) rfl rfl (by decide) (by simp [z_cr, z_ci]) rfl ?_
        refine zi_goto (tgt := 23) (dq dL_law 385 rfl) (by decide) ?_
        exact zG_lv (zs_c 1 rfl (zs_c 2 rfl (zs_c 3 rfl (zs_c 4 rfl (zs_c 0 rfl zs_n))))) (hK23 _ h)
      · have h := q_f c h
        refine zi_iconst (v := 0) (dq dL_law 56 rfl) (by decide) ?_
        exact zi_ireturn rfl (by decide) (dq dL_law 57 rfl) (q_rbZ (b := false) h)
    rcases q_w h with ⟨c3, h⟩ | ⟨c3, h⟩
    · refine zi_top c3 ?_
      refine zi_tableIn (tgt := 153) (dq dL_law 24 rfl) (by decide) (by decide) rfl (by decide) ?_
      refine zi_aload_n 1 (dq dL_law 58 rfl) rfl ?_
      refine zi_aload_n 0 (dq dL_law 59 rfl) rfl ?_
      refine zi_iload 4 (dq dL_law 60 rfl) rfl ?_
      refine zi_iconst (v := 1) (dq dL_law 61 rfl) (by decide) ?_
      refine zi_iadd (dq dL_law 62 rfl) ?_
      obtain ⟨c28, h⟩ := q_k h
      refine zi_sld (qi_in c28) (dq dL_law 63 rfl) ?_
      refine zi_i2l (dq dL_law 64 rfl) ?_
      refine zi_bipush (v := 32) (dq dL_law 65 rfl) (by decide) ?_
      refine zi_lshl (dq dL_law 66 rfl) ?_
      refine zi_aload_n 0 (dq dL_law 67 rfl) rfl ?_
      refine zi_iload 4 (dq dL_law 68 rfl) rfl ?_
      refine zi_iconst (v := 2) (dq dL_law 69 rfl) (by decide) ?_
      refine zi_iadd (dq dL_law 70 rfl) ?_
      obtain ⟨c29, h⟩ := q_k h
      refine zi_sld (qi_in c29) (dq dL_law 71 rfl) ?_
      refine zi_i2l (dq dL_law 72 rfl) ?_
      refine zi_ldc2 (v := 4294967295) cL_59 (dq dL_law 73 rfl) ?_
      refine zi_land (dq dL_law 74 rfl) ?_
      refine zi_lor (dq dL_law 75 rfl) ?_
      refine zi_aload_n 0 (dq dL_law 76 rfl) rfl ?_
      refine zi_iload 4 (dq dL_law 77 rfl) rfl ?_
      refine zi_iconst (v := 3) (dq dL_law 78 rfl) (by decide) ?_
      refine zi_iadd (dq dL_law 79 rfl) ?_
      obtain ⟨c30, h⟩ := q_k h
      refine zi_sld (qi_in c30) (dq dL_law 80 rfl) ?_
      obtain ⟨c31, h⟩ := q_k h
      replace c31 := dLyB_ok c31
      obtain ⟨v32, J33, hv32, h⟩ := q_b h
      have qv32 := SD_put (g := g) c31 hv32 (d := d - 1) (by omega)
      rw [zmm_J] at qv32
      refine zi_cVi2 qv32 wD_put aL_61 iD_put sD_put (by omega) (zLs c31 0 rfl) rfl (Nat.le_of_ble_eq_true rfl) (dq dL_law 81 rfl) (fun _ _ hh => ?_)
      obtain ⟨rfl, rfl⟩ := hh
      refine zi_aload_n 2 (dq dL_law 82 rfl) rfl ?_
      refine zi_aload_n 0 (dq dL_law 83 rfl) rfl ?_
      refine zi_iload 4 (dq dL_law 84 rfl) rfl ?_
      refine zi_iconst (v := 1) (dq dL_law 85 rfl) (by decide) ?_
      refine zi_iadd (dq dL_law 86 rfl) ?_
      obtain ⟨c35, h⟩ := q_k h
      refine zi_sld (qi_in c35) (dq dL_law 87 rfl) ?_
      refine zi_i2l (dq dL_law 88 rfl) ?_
      refine zi_bipush (v := 32) (dq dL_law 89 rfl) (by decide) ?_
      refine zi_lshl (dq dL_law 90 rfl) ?_
      refine zi_aload_n 0 (dq dL_law 91 rfl) rfl ?_
      refine zi_iload 4 (dq dL_law 92 rfl) rfl ?_
      refine zi_iconst (v := 2) (dq dL_law 93 rfl) (by decide) ?_
      refine zi_iadd (dq dL_law 94 rfl) ?_
      obtain ⟨c36, h⟩ := q_k h
      refine zi_sld (qi_in c36) (dq dL_law 95 rfl) ?_
      refine zi_i2l (dq dL_law 96 rfl) ?_
      refine zi_ldc2 (v := 4294967295) cL_59 (dq dL_law 97 rfl) ?_
      refine zi_land (dq dL_law 98 rfl) ?_
      refine zi_lor (dq dL_law 99 rfl) ?_
      refine zi_aload_n 0 (dq dL_law 100 rfl) rfl ?_
      refine zi_iload 4 (dq dL_law 101 rfl) rfl ?_
      refine zi_iconst (v := 3) (dq dL_law 102 rfl) (by decide) ?_
      refine zi_iadd (dq dL_law 103 rfl) ?_
      obtain ⟨c37, h⟩ := q_k h
      refine zi_sld (qi_in c37) (dq dL_law 104 rfl) ?_
      obtain ⟨c38, h⟩ := q_k h
      replace c38 := mLyB_ok c38
      obtain ⟨v39, J40, hv39, h⟩ := q_b h
      have qv39 := SM_put (g := g) c38 hv39 (d := d - 1) (by omega)
      rw [zmm_J] at qv39
      refine zi_cVi2 qv39 wM_put aL_65 iM_put sM_put (by omega) (zLs c38 0 rfl) rfl (Nat.le_of_ble_eq_true rfl) (dq dL_law 105 rfl) (fun _ _ hh => ?_)
      obtain ⟨rfl, rfl⟩ := hh
      refine zi_icmp_eq (tgt := 640) (dq dL_law 106 rfl) (by decide) (fun c => ?_) (fun c => ?_)
      · have h := q_t c h
        refine zi_iincC (v := _ + (5)) (lv' := [(4, _), (0, _), (1, _), (2, _), (3, _)]) 4 (dq dL_law 384 rfl) rfl rfl (by decide) (by simp [z_cr, z_ci]) rfl ?_
        refine zi_goto (tgt := 23) (dq dL_law 385 rfl) (by decide) ?_
        exact zG_lv (zs_c 1 rfl (zs_c 2 rfl (zs_c 3 rfl (zs_c 4 rfl (zs_c 0 rfl zs_n))))) (hK23 _ h)
      · have h := q_f c h
        refine zi_iconst (v := 0) (dq dL_law 107 rfl) (by decide) ?_
        exact zi_ireturn rfl (by decide) (dq dL_law 108 rfl) (q_rbZ (b := false) h)
    rcases q_w h with ⟨c4, h⟩ | ⟨c4, h⟩
    · refine zi_top c4 ?_
      refine zi_tableIn (tgt := 222) (dq dL_law 24 rfl) (by decide) (by decide) rfl (by decide) ?_
      refine zi_aload_n 1 (dq dL_law 109 rfl) rfl ?_
      obtain ⟨c43, h⟩ := q_k h
      replace c43 := dLyB_ok c43
      obtain ⟨v44, J45, hv44, h⟩ := q_b h
      have qv44 := SD_wipe (g := g) c43 hv44 (d := d - 1) (by omega)
      rw [zmm_J] at qv44
      refine zi_cVi0 qv44 wD_wipe aL_66 iD_wipe sD_wipe (by omega) (zLs c43 0 rfl) rfl (Nat.le_of_ble_eq_true rfl) (dq dL_law 110 rfl) (fun _ _ hh => ?_)
      obtain ⟨rfl, rfl⟩ := hh
      refine zi_aload_n 2 (dq dL_law 111 rfl) rfl ?_
      obtain ⟨c47, h⟩ := q_k h
      replace c47 := mLyB_ok c47
      obtain ⟨v48, J49, hv48, h⟩ := q_b h
      have qv48 := SM_wipe (g := g) c47 hv48 (d := d - 1) (by omega)
      rw [zmm_J] at qv48
      refine zi_cVi0 qv48 wM_wipe aL_69 iM_wipe sM_wipe (by omega) (zLs c47 0 rfl) rfl (Nat.le_of_ble_eq_true rfl) (dq dL_law 112 rfl) (fun _ _ hh => ?_)
      obtain ⟨rfl, rfl⟩ := hh
      refine zi_icmp_eq (tgt := 640) (dq dL_law 113 rfl) (by decide) (fun c => ?_) (fun c => ?_)
      · have h := q_t c h
        refine zi_iincC (v := _ + (5)) (lv' := [(4, _), (0, _), (1, _), (2, _), (3, _)]) 4 (dq dL_law 384 rfl) rfl rfl (by decide) (by simp [z_cr, z_ci]) rfl ?_
        refine zi_goto (tgt := 23) (dq dL_law 385 rfl) (by decide) ?_
        exact zG_lv (zs_c 1 rfl (zs_c 2 rfl (zs_c 3 rfl (zs_c 4 rfl (zs_c 0 rfl zs_n))))) (hK23 _ h)
      · have h := q_f c h
        refine zi_iconst (v := 0) (dq dL_law 114 rfl) (by decide) ?_
        exact zi_ireturn rfl (by decide) (dq dL_law 115 rfl) (q_rbZ (b := false) h)
    rcases q_w h with ⟨c5, h⟩ | ⟨c5, h⟩
    · refine zi_top c5 ?_
      refine zi_tableIn (tgt := 235) (dq dL_law 24 rfl) (by decide) (by decide) rfl (by decide) ?_
      refine zi_aload_n 1 (dq dL_law 116 rfl) rfl ?_
      refine zi_aload_n 0 (dq dL_law 117 rfl) rfl ?_
      refine zi_iload 4 (dq dL_law 118 rfl) rfl ?_
      refine zi_iconst (v := 1) (dq dL_law 119 rfl) (by decide) ?_
      refine zi_iadd (dq dL_law 120 rfl) ?_
      obtain ⟨c52, h⟩ := q_k h
      refine zi_sld (qi_in c52) (dq dL_law 121 rfl) ?_
      refine zi_aload_n 3 (dq dL_law 122 rfl) rfl ?_
      obtain ⟨v53, M54, hv53, h⟩ := q_b h
      refine zi_callSW (n := 3) (As := [_, _, _]) (SL_at hz hv53 (d := d - 1) (by omega)) cwL_at gL ⟨by decide, by decide, by decide +kernel⟩ (by decide) aL_70 tL_at (by omega) rfl (Nat.le_of_ble_eq_true rfl) (dq dL_law 123 rfl) (fun _ _ hh => ?_)
      obtain ⟨rfl, rfl⟩ := hh
      refine zi_istC (lv' := [(5, _), (0, _), (1, _), (2, _), (3, _), (4, _)]) (dq dL_law 124 rfl) (by decide) (by simp [z_cr, z_ci]) rfl ?_
      refine zi_aload_n 3 (dq dL_law 125 rfl) rfl ?_
      refine zi_aload_n 1 (dq dL_law 126 rfl) rfl ?_
      refine zi_iload 5 (dq dL_law 127 rfl) rfl ?_
      refine zi_iconst (v := 1) (dq dL_law 128 rfl) (by decide) ?_
      refine zi_iadd (dq dL_law 129 rfl) ?_
      obtain ⟨c55, h⟩ := q_k h
      refine zi_sld (qi_in c55) (dq dL_law 130 rfl) ?_
      obtain ⟨c56, h⟩ := q_k h
      replace c56 := mLyB_ok c56
      obtain ⟨v57, J58, hv57, h⟩ := q_b h
      have qv57 := SM_at (g := g) c56 hv57 (d := d - 1) (by omega)
      rw [zmm_J] at qv57
      refine zi_cVi1 qv57 wM_at aL_75 iM_at sM_at (by omega) (zLs c56 0 rfl) rfl (Nat.le_of_ble_eq_true rfl) (dq dL_law 131 rfl) (fun _ _ hh => ?_)
      obtain ⟨rfl, rfl⟩ := hh
      refine zi_istC (lv' := [(6, _), (5, _), (0, _), (1, _), (2, _), (3, _), (4, _)]) (dq dL_law 132 rfl) (by decide) (by simp [z_cr, z_ci]) rfl ?_
      refine zi_aload_n 4 (dq dL_law 133 rfl) rfl ?_
      obtain ⟨c60, h⟩ := q_k h
      replace c60 := mLyB_ok c60
      obtain ⟨v61, J62, hv61, h⟩ := q_b h
      have qv61 := SM_thrown (g := g) c60 hv61 (d := d - 1) (by omega)
      rw [zmm_J] at qv61
      refine zi_cVi0 qv61 wM_thrown aL_76 iM_thrown sM_thrown (by omega) (zLs c60 0 rfl) rfl (Nat.le_of_ble_eq_true rfl) (dq dL_law 134 rfl) (fun _ _ hh => ?_)
      obtain ⟨rfl, rfl⟩ := hh
      refine zi_iload 1 (dq dL_law 135 rfl) rfl ?_
      refine zi_icmp_eq (tgt := 271) (dq dL_law 136 rfl) (by decide) (fun c => ?_) (fun c => ?_)
      · have h := q_t c h
        refine zi_iload 1 (dq dL_law 139 rfl) rfl ?_
        refine zi_if_ne (tgt := 288) (dq dL_law 140 rfl) (by decide) (fun c => ?_) (fun c => ?_)
        · have h := q_f c h
          refine zi_goto (tgt := 640) (dq dL_law 150 rfl) (by decide) ?_
          refine zi_iincC (v := _ + (5)) (lv' := [(4, _), (6, _), (5, _), (0, _), (1, _), (2, _), (3, _)]) 6 (dq dL_law 384 rfl) rfl rfl (by decide) (by simp [z_cr, z_ci]) rfl ?_
          refine zi_goto (tgt := 23) (dq dL_law 385 rfl) (by decide) ?_
          exact zG_lv (zs_c 3 rfl (zs_c 4 rfl (zs_c 5 rfl (zs_c 6 rfl (zs_c 0 rfl zs_n))))) (hK23 _ h)
        · have h := q_t c h
          refine zi_aload_n 5 (dq dL_law 141 rfl) rfl ?_
          refine zi_iconst (v := 0) (dq dL_law 142 rfl) (by decide) ?_
          obtain ⟨a65, na65, ea65, ha65, ia65, h⟩ := q_a h
          refine zi_rc1 ea65 ?_
          refine zi_lald ha65 rfl ia65 (dq dL_law 143 rfl) ?_
          refine zi_iload 0 (dq dL_law 144 rfl) rfl ?_
          refine zi_i2l (dq dL_law 145 rfl) ?_
          refine zi_lcmp (dq dL_law 146 rfl) ?_
          refine zi_if_eq (tgt := 288) (dq dL_law 147 rfl) (by decide) (fun c => ?_) (fun c => ?_)
          · have h := q_t c h
            refine zi_goto (tgt := 640) (dq dL_law 150 rfl) (by decide) ?_
            refine zi_iincC (v := _ + (5)) (lv' := [(4, _), (6, _), (5, _), (0, _), (1, _), (2, _), (3, _)]) 6 (dq dL_law 384 rfl) rfl rfl (by decide) (by simp [z_cr, z_ci]) rfl ?_
            refine zi_goto (tgt := 23) (dq dL_law 385 rfl) (by decide) ?_
            exact zG_lv (zs_c 3 rfl (zs_c 4 rfl (zs_c 5 rfl (zs_c 6 rfl (zs_c 0 rfl zs_n))))) (hK23 _ h)
          · have h := q_f c h
            refine zi_iconst (v := 0) (dq dL_law 148 rfl) (by decide) ?_
            exact zi_ireturn rfl (by decide) (dq dL_law 149 rfl) (q_rbZ (b := false) h)
      · have h := q_f c h
        refine zi_iconst (v := 0) (dq dL_law 137 rfl) (by decide) ?_
        exact zi_ireturn rfl (by decide) (dq dL_law 138 rfl) (q_rbZ (b := false) h)
    rcases q_w h with ⟨c6, h⟩ | ⟨c6, h⟩
    · refine zi_top c6 ?_
      refine zi_tableIn (tgt := 291) (dq dL_law 24 rfl) (by decide) (by decide) rfl (by decide) ?_
      refine zi_aload_n 1 (dq dL_law 151 rfl) rfl ?_
      refine zi_aload_n 0 (dq dL_law 152 rfl) rfl ?_
      refine zi_iload 4 (dq dL_law 153 rfl) rfl ?_
      refine zi_iconst (v := 1) (dq dL_law 154 rfl) (by decide) ?_
      refine zi_iadd (dq dL_law 155 rfl) ?_
      obtain ⟨c67, h⟩ := q_k h
      refine zi_sld (qi_in c67) (dq dL_law 156 rfl) ?_
      refine zi_i2c (dq dL_law 157 rfl) ?_
      refine zi_aload_n 0 (dq dL_law 158 rfl) rfl ?_
      refine zi_iload 4 (dq dL_law 159 rfl) rfl ?_
      refine zi_iconst (v := 2) (dq dL_law 160 rfl) (by decide) ?_
      refine zi_iadd (dq dL_law 161 rfl) ?_
      obtain ⟨c68, h⟩ := q_k h
      refine zi_sld (qi_in c68) (dq dL_law 162 rfl) ?_
      refine zi_aload_n 0 (dq dL_law 163 rfl) rfl ?_
      refine zi_iload 4 (dq dL_law 164 rfl) rfl ?_
      refine zi_iconst (v := 3) (dq dL_law 165 rfl) (by decide) ?_
      refine zi_iadd (dq dL_law 166 rfl) ?_
      obtain ⟨c69, h⟩ := q_k h
      refine zi_sld (qi_in c69) (dq dL_law 167 rfl) ?_
      refine zi_aload_n 3 (dq dL_law 168 rfl) rfl ?_
      obtain ⟨v70, M71, hv70, h⟩ := q_b h
      refine zi_callSW (n := 5) (As := [_, _, _, _, _]) (SL_transcode hz hv70 (d := d - 1) (by omega)) cwL_transcode gL ⟨by decide, by decide, by decide +kernel⟩ (by decide) aL_79 tL_transcode (by omega) rfl (Nat.le_of_ble_eq_true rfl) (dq dL_law 169 rfl) (fun _ _ hh => ?_)
      obtain ⟨rfl, rfl⟩ := hh
      refine zi_istC (lv' := [(5, _), (0, _), (1, _), (2, _), (3, _), (4, _)]) (dq dL_law 170 rfl) (by decide) (by simp [z_cr, z_ci]) rfl ?_
      refine zi_aload_n 3 (dq dL_law 171 rfl) rfl ?_
      refine zi_aload_n 1 (dq dL_law 172 rfl) rfl ?_
      refine zi_iload 5 (dq dL_law 173 rfl) rfl ?_
      refine zi_iconst (v := 1) (dq dL_law 174 rfl) (by decide) ?_
      refine zi_iadd (dq dL_law 175 rfl) ?_
      obtain ⟨c72, h⟩ := q_k h
      refine zi_sld (qi_in c72) (dq dL_law 176 rfl) ?_
      refine zi_i2c (dq dL_law 177 rfl) ?_
      refine zi_aload_n 1 (dq dL_law 178 rfl) rfl ?_
      refine zi_iload 5 (dq dL_law 179 rfl) rfl ?_
      refine zi_iconst (v := 2) (dq dL_law 180 rfl) (by decide) ?_
      refine zi_iadd (dq dL_law 181 rfl) ?_
      obtain ⟨c73, h⟩ := q_k h
      refine zi_sld (qi_in c73) (dq dL_law 182 rfl) ?_
      refine zi_aload_n 1 (dq dL_law 183 rfl) rfl ?_
      refine zi_iload 5 (dq dL_law 184 rfl) rfl ?_
      refine zi_iconst (v := 3) (dq dL_law 185 rfl) (by decide) ?_
      refine zi_iadd (dq dL_law 186 rfl) ?_
      obtain ⟨c74, h⟩ := q_k h
      refine zi_sld (qi_in c74) (dq dL_law 187 rfl) ?_
      obtain ⟨c75, h⟩ := q_k h
      replace c75 := mLyB_ok c75
      obtain ⟨v76, J77, hv76, h⟩ := q_b h
      have qv76 := SM_transcode (g := g) c75 hv76 (d := d - 1) (by omega)
      rw [zmm_J] at qv76
      refine zi_cVi3 qv76 wM_transcode aL_82 iM_transcode sM_transcode (by omega) (zLs c75 0 rfl) rfl (Nat.le_of_ble_eq_true rfl) (dq dL_law 188 rfl) (fun _ _ hh => ?_)
      obtain ⟨rfl, rfl⟩ := hh
      refine zi_istC (lv' := [(6, _), (5, _), (0, _), (1, _), (2, _), (3, _), (4, _)]) (dq dL_law 189 rfl) (by decide) (by simp [z_cr, z_ci]) rfl ?_
      refine zi_aload_n 4 (dq dL_law 190 rfl) rfl ?_
      obtain ⟨c79, h⟩ := q_k h
      replace c79 := mLyB_ok c79
      obtain ⟨v80, J81, hv80, h⟩ := q_b h
      have qv80 := SM_thrown (g := g) c79 hv80 (d := d - 1) (by omega)
      rw [zmm_J] at qv80
      refine zi_cVi0 qv80 wM_thrown aL_76 iM_thrown sM_thrown (by omega) (zLs c79 0 rfl) rfl (Nat.le_of_ble_eq_true rfl) (dq dL_law 191 rfl) (fun _ _ hh => ?_)
      obtain ⟨rfl, rfl⟩ := hh
      refine zi_iload 1 (dq dL_law 192 rfl) rfl ?_
      refine zi_icmp_eq (tgt := 353) (dq dL_law 193 rfl) (by decide) (fun c => ?_) (fun c => ?_)
      · have h := q_t c h
        refine zi_iload 1 (dq dL_law 196 rfl) rfl ?_
        refine zi_if_ne (tgt := 370) (dq dL_law 197 rfl) (by decide) (fun c => ?_) (fun c => ?_)
        · have h := q_f c h
          refine zi_goto (tgt := 640) (dq dL_law 207 rfl) (by decide) ?_
          refine zi_iincC (v := _ + (5)) (lv' := [(4, _), (6, _), (5, _), (0, _), (1, _), (2, _), (3, _)]) 6 (dq dL_law 384 rfl) rfl rfl (by decide) (by simp [z_cr, z_ci]) rfl ?_
          refine zi_goto (tgt := 23) (dq dL_law 385 rfl) (by decide) ?_
          exact zG_lv (zs_c 3 rfl (zs_c 4 rfl (zs_c 5 rfl (zs_c 6 rfl (zs_c 0 rfl zs_n))))) (hK23 _ h)
        · have h := q_t c h
          refine zi_aload_n 5 (dq dL_law 198 rfl) rfl ?_
          refine zi_iconst (v := 0) (dq dL_law 199 rfl) (by decide) ?_
          obtain ⟨a84, na84, ea84, ha84, ia84, h⟩ := q_a h
          refine zi_rc1 ea84 ?_
          refine zi_lald ha84 rfl ia84 (dq dL_law 200 rfl) ?_
          refine zi_iload 0 (dq dL_law 201 rfl) rfl ?_
          refine zi_i2l (dq dL_law 202 rfl) ?_
          refine zi_lcmp (dq dL_law 203 rfl) ?_
          refine zi_if_eq (tgt := 370) (dq dL_law 204 rfl) (by decide) (fun c => ?_) (fun c => ?_)
          · have h := q_t c h
            refine zi_goto (tgt := 640) (dq dL_law 207 rfl) (by decide) ?_
            refine zi_iincC (v := _ + (5)) (lv' := [(4, _), (6, _), (5, _), (0, _), (1, _), (2, _), (3, _)]) 6 (dq dL_law 384 rfl) rfl rfl (by decide) (by simp [z_cr, z_ci]) rfl ?_
            refine zi_goto (tgt := 23) (dq dL_law 385 rfl) (by decide) ?_
            exact zG_lv (zs_c 3 rfl (zs_c 4 rfl (zs_c 5 rfl (zs_c 6 rfl (zs_c 0 rfl zs_n))))) (hK23 _ h)
          · have h := q_f c h
            refine zi_iconst (v := 0) (dq dL_law 205 rfl) (by decide) ?_
            exact zi_ireturn rfl (by decide) (dq dL_law 206 rfl) (q_rbZ (b := false) h)
      · have h := q_f c h
        refine zi_iconst (v := 0) (dq dL_law 194 rfl) (by decide) ?_
        exact zi_ireturn rfl (by decide) (dq dL_law 195 rfl) (q_rbZ (b := false) h)
    rcases q_w h with ⟨c7, h⟩ | ⟨c7, h⟩
    · refine zi_top c7 ?_
      refine zi_tableIn (tgt := 373) (dq dL_law 24 rfl) (by decide) (by decide) rfl (by decide) ?_
      refine zi_aload_n 1 (dq dL_law 208 rfl) rfl ?_
      obtain ⟨c86, h⟩ := q_k h
      replace c86 := dLyB_ok c86
      obtain ⟨v87, J88, hv87, h⟩ := q_b h
      have qv87 := SD_parts (g := g) c86 hv87 (d := d - 1) (by omega)
      rw [zmm_J] at qv87
      refine zi_cVi0 qv87 wD_parts aL_83 iD_parts sD_parts (by omega) (zLs c86 0 rfl) rfl (Nat.le_of_ble_eq_true rfl) (dq dL_law 209 rfl) (fun _ _ hh => ?_)
      obtain ⟨rfl, rfl⟩ := hh
      refine zi_aload_n 2 (dq dL_law 210 rfl) rfl ?_
      obtain ⟨c90, h⟩ := q_k h
      replace c90 := mLyB_ok c90
      obtain ⟨v91, J92, hv91, h⟩ := q_b h
      have qv91 := SM_parts (g := g) c90 hv91 (d := d - 1) (by omega)
      rw [zmm_J] at qv91
      refine zi_cVi0 qv91 wM_parts aL_86 iM_parts sM_parts (by omega) (zLs c90 0 rfl) rfl (Nat.le_of_ble_eq_true rfl) (dq dL_law 211 rfl) (fun _ _ hh => ?_)
      obtain ⟨rfl, rfl⟩ := hh
      refine zi_icmp_eq (tgt := 640) (dq dL_law 212 rfl) (by decide) (fun c => ?_) (fun c => ?_)
      · have h := q_t c h
        refine zi_iincC (v := _ + (5)) (lv' := [(4, _), (0, _), (1, _), (2, _), (3, _)]) 4 (dq dL_law 384 rfl) rfl rfl (by decide) (by simp [z_cr, z_ci]) rfl ?_
        refine zi_goto (tgt := 23) (dq dL_law 385 rfl) (by decide) ?_
        exact zG_lv (zs_c 1 rfl (zs_c 2 rfl (zs_c 3 rfl (zs_c 4 rfl (zs_c 0 rfl zs_n))))) (hK23 _ h)
      · have h := q_f c h
        refine zi_iconst (v := 0) (dq dL_law 213 rfl) (by decide) ?_
        exact zi_ireturn rfl (by decide) (dq dL_law 214 rfl) (q_rbZ (b := false) h)
    rcases q_w h with ⟨c8, h⟩ | ⟨c8, h⟩
    · refine zi_top c8 ?_
      refine zi_tableIn (tgt := 386) (dq dL_law 24 rfl) (by decide) (by decide) rfl (by decide) ?_
      refine zi_aload_n 1 (dq dL_law 215 rfl) rfl ?_
      refine zi_aload_n 0 (dq dL_law 216 rfl) rfl ?_
      refine zi_iload 4 (dq dL_law 217 rfl) rfl ?_
      refine zi_iconst (v := 1) (dq dL_law 218 rfl) (by decide) ?_
      refine zi_iadd (dq dL_law 219 rfl) ?_
      obtain ⟨c95, h⟩ := q_k h
      refine zi_sld (qi_in c95) (dq dL_law 220 rfl) ?_
      refine zi_aload_n 0 (dq dL_law 221 rfl) rfl ?_
      refine zi_iload 4 (dq dL_law 222 rfl) rfl ?_
      refine zi_iconst (v := 2) (dq dL_law 223 rfl) (by decide) ?_
      refine zi_iadd (dq dL_law 224 rfl) ?_
      obtain ⟨c96, h⟩ := q_k h
      refine zi_sld (qi_in c96) (dq dL_law 225 rfl) ?_
      refine zi_aload_n 3 (dq dL_law 226 rfl) rfl ?_
      obtain ⟨v97, M98, hv97, h⟩ := q_b h
      refine zi_callSW (n := 4) (As := [_, _, _, _]) (SL_part hz hv97 (d := d - 1) (by omega)) cwL_part gL ⟨by decide, by decide, by decide +kernel⟩ (by decide) aL_87 tL_part (by omega) rfl (Nat.le_of_ble_eq_true rfl) (dq dL_law 227 rfl) (fun _ _ hh => ?_)
      obtain ⟨rfl, rfl⟩ := hh
      refine zi_istC (lv' := [(5, _), (0, _), (1, _), (2, _), (3, _), (4, _)]) (dq dL_law 228 rfl) (by decide) (by simp [z_cr, z_ci]) rfl ?_
      refine zi_aload_n 3 (dq dL_law 229 rfl) rfl ?_
      refine zi_aload_n 1 (dq dL_law 230 rfl) rfl ?_
      refine zi_iload 5 (dq dL_law 231 rfl) rfl ?_
      refine zi_iconst (v := 1) (dq dL_law 232 rfl) (by decide) ?_
      refine zi_iadd (dq dL_law 233 rfl) ?_
      obtain ⟨c99, h⟩ := q_k h
      refine zi_sld (qi_in c99) (dq dL_law 234 rfl) ?_
      refine zi_aload_n 1 (dq dL_law 235 rfl) rfl ?_
      refine zi_iload 5 (dq dL_law 236 rfl) rfl ?_
      refine zi_iconst (v := 2) (dq dL_law 237 rfl) (by decide) ?_
      refine zi_iadd (dq dL_law 238 rfl) ?_
      obtain ⟨c100, h⟩ := q_k h
      refine zi_sld (qi_in c100) (dq dL_law 239 rfl) ?_
      obtain ⟨c101, h⟩ := q_k h
      replace c101 := mLyB_ok c101
      obtain ⟨v102, J103, hv102, h⟩ := q_b h
      have qv102 := SM_part (g := g) c101 hv102 (d := d - 1) (by omega)
      rw [zmm_J] at qv102
      refine zi_cVi2 qv102 wM_part aL_90 iM_part sM_part (by omega) (zLs c101 0 rfl) rfl (Nat.le_of_ble_eq_true rfl) (dq dL_law 240 rfl) (fun _ _ hh => ?_)
      obtain ⟨rfl, rfl⟩ := hh
      refine zi_istC (lv' := [(6, _), (5, _), (0, _), (1, _), (2, _), (3, _), (4, _)]) (dq dL_law 241 rfl) (by decide) (by simp [z_cr, z_ci]) rfl ?_
      refine zi_aload_n 4 (dq dL_law 242 rfl) rfl ?_
      obtain ⟨c105, h⟩ := q_k h
      replace c105 := mLyB_ok c105
      obtain ⟨v106, J107, hv106, h⟩ := q_b h
      have qv106 := SM_thrown (g := g) c105 hv106 (d := d - 1) (by omega)
      rw [zmm_J] at qv106
      refine zi_cVi0 qv106 wM_thrown aL_76 iM_thrown sM_thrown (by omega) (zLs c105 0 rfl) rfl (Nat.le_of_ble_eq_true rfl) (dq dL_law 243 rfl) (fun _ _ hh => ?_)
      obtain ⟨rfl, rfl⟩ := hh
      refine zi_iload 1 (dq dL_law 244 rfl) rfl ?_
      refine zi_icmp_eq (tgt := 434) (dq dL_law 245 rfl) (by decide) (fun c => ?_) (fun c => ?_)
      · have h := q_t c h
        refine zi_iload 1 (dq dL_law 248 rfl) rfl ?_
        refine zi_if_ne (tgt := 451) (dq dL_law 249 rfl) (by decide) (fun c => ?_) (fun c => ?_)
        · have h := q_f c h
          refine zi_goto (tgt := 640) (dq dL_law 259 rfl) (by decide) ?_
          refine zi_iincC (v := _ + (5)) (lv' := [(4, _), (6, _), (5, _), (0, _), (1, _), (2, _), (3, _)]) 6 (dq dL_law 384 rfl) rfl rfl (by decide) (by simp [z_cr, z_ci]) rfl ?_
          refine zi_goto (tgt := 23) (dq dL_law 385 rfl) (by decide) ?_
          exact zG_lv (zs_c 3 rfl (zs_c 4 rfl (zs_c 5 rfl (zs_c 6 rfl (zs_c 0 rfl zs_n))))) (hK23 _ h)
        · have h := q_t c h
          refine zi_aload_n 5 (dq dL_law 250 rfl) rfl ?_
          refine zi_iconst (v := 0) (dq dL_law 251 rfl) (by decide) ?_
          obtain ⟨a110, na110, ea110, ha110, ia110, h⟩ := q_a h
          refine zi_rc1 ea110 ?_
          refine zi_lald ha110 rfl ia110 (dq dL_law 252 rfl) ?_
          refine zi_iload 0 (dq dL_law 253 rfl) rfl ?_
          refine zi_i2l (dq dL_law 254 rfl) ?_
          refine zi_lcmp (dq dL_law 255 rfl) ?_
          refine zi_if_eq (tgt := 451) (dq dL_law 256 rfl) (by decide) (fun c => ?_) (fun c => ?_)
          · have h := q_t c h
            refine zi_goto (tgt := 640) (dq dL_law 259 rfl) (by decide) ?_
            refine zi_iincC (v := _ + (5)) (lv' := [(4, _), (6, _), (5, _), (0, _), (1, _), (2, _), (3, _)]) 6 (dq dL_law 384 rfl) rfl rfl (by decide) (by simp [z_cr, z_ci]) rfl ?_
            refine zi_goto (tgt := 23) (dq dL_law 385 rfl) (by decide) ?_
            exact zG_lv (zs_c 3 rfl (zs_c 4 rfl (zs_c 5 rfl (zs_c 6 rfl (zs_c 0 rfl zs_n))))) (hK23 _ h)
          · have h := q_f c h
            refine zi_iconst (v := 0) (dq dL_law 257 rfl) (by decide) ?_
            exact zi_ireturn rfl (by decide) (dq dL_law 258 rfl) (q_rbZ (b := false) h)
      · have h := q_f c h
        refine zi_iconst (v := 0) (dq dL_law 246 rfl) (by decide) ?_
        exact zi_ireturn rfl (by decide) (dq dL_law 247 rfl) (q_rbZ (b := false) h)
    rcases q_w h with ⟨c9, h⟩ | ⟨c9, h⟩
    · refine zi_top c9 ?_
      refine zi_tableIn (tgt := 454) (dq dL_law 24 rfl) (by decide) (by decide) rfl (by decide) ?_
      refine zi_aload_n 1 (dq dL_law 260 rfl) rfl ?_
      refine zi_aload_n 0 (dq dL_law 261 rfl) rfl ?_
      refine zi_iload 4 (dq dL_law 262 rfl) rfl ?_
      refine zi_iconst (v := 1) (dq dL_law 263 rfl) (by decide) ?_
      refine zi_iadd (dq dL_law 264 rfl) ?_
      obtain ⟨c112, h⟩ := q_k h
      refine zi_sld (qi_in c112) (dq dL_law 265 rfl) ?_
      refine zi_aload_n 0 (dq dL_law 266 rfl) rfl ?_
      refine zi_iload 4 (dq dL_law 267 rfl) rfl ?_
      refine zi_iconst (v := 2) (dq dL_law 268 rfl) (by decide) ?_
      refine zi_iadd (dq dL_law 269 rfl) ?_
      obtain ⟨c113, h⟩ := q_k h
      refine zi_sld (qi_in c113) (dq dL_law 270 rfl) ?_
      refine zi_aload_n 3 (dq dL_law 271 rfl) rfl ?_
      obtain ⟨v114, M115, hv114, h⟩ := q_b h
      refine zi_callSW (n := 4) (As := [_, _, _, _]) (SL_octet hz hv114 (d := d - 1) (by omega)) cwL_octet gL ⟨by decide, by decide, by decide +kernel⟩ (by decide) aL_91 tL_octet (by omega) rfl (Nat.le_of_ble_eq_true rfl) (dq dL_law 272 rfl) (fun _ _ hh => ?_)
      obtain ⟨rfl, rfl⟩ := hh
      refine zi_istC (lv' := [(5, _), (0, _), (1, _), (2, _), (3, _), (4, _)]) (dq dL_law 273 rfl) (by decide) (by simp [z_cr, z_ci]) rfl ?_
      refine zi_aload_n 3 (dq dL_law 274 rfl) rfl ?_
      refine zi_aload_n 1 (dq dL_law 275 rfl) rfl ?_
      refine zi_iload 5 (dq dL_law 276 rfl) rfl ?_
      refine zi_iconst (v := 1) (dq dL_law 277 rfl) (by decide) ?_
      refine zi_iadd (dq dL_law 278 rfl) ?_
      obtain ⟨c116, h⟩ := q_k h
      refine zi_sld (qi_in c116) (dq dL_law 279 rfl) ?_
      refine zi_aload_n 1 (dq dL_law 280 rfl) rfl ?_
      refine zi_iload 5 (dq dL_law 281 rfl) rfl ?_
      refine zi_iconst (v := 2) (dq dL_law 282 rfl) (by decide) ?_
      refine zi_iadd (dq dL_law 283 rfl) ?_
      obtain ⟨c117, h⟩ := q_k h
      refine zi_sld (qi_in c117) (dq dL_law 284 rfl) ?_
      obtain ⟨c118, h⟩ := q_k h
      replace c118 := mLyB_ok c118
      obtain ⟨v119, J120, hv119, h⟩ := q_b h
      have qv119 := SM_octet (g := g) c118 hv119 (d := d - 1) (by omega)
      rw [zmm_J] at qv119
      refine zi_cVi2 qv119 wM_octet aL_93 iM_octet sM_octet (by omega) (zLs c118 0 rfl) rfl (Nat.le_of_ble_eq_true rfl) (dq dL_law 285 rfl) (fun _ _ hh => ?_)
      obtain ⟨rfl, rfl⟩ := hh
      refine zi_istC (lv' := [(6, _), (5, _), (0, _), (1, _), (2, _), (3, _), (4, _)]) (dq dL_law 286 rfl) (by decide) (by simp [z_cr, z_ci]) rfl ?_
      refine zi_aload_n 4 (dq dL_law 287 rfl) rfl ?_
      obtain ⟨c122, h⟩ := q_k h
      replace c122 := mLyB_ok c122
      obtain ⟨v123, J124, hv123, h⟩ := q_b h
      have qv123 := SM_thrown (g := g) c122 hv123 (d := d - 1) (by omega)
      rw [zmm_J] at qv123
      refine zi_cVi0 qv123 wM_thrown aL_76 iM_thrown sM_thrown (by omega) (zLs c122 0 rfl) rfl (Nat.le_of_ble_eq_true rfl) (dq dL_law 288 rfl) (fun _ _ hh => ?_)
      obtain ⟨rfl, rfl⟩ := hh
      refine zi_iload 1 (dq dL_law 289 rfl) rfl ?_
      refine zi_icmp_eq (tgt := 502) (dq dL_law 290 rfl) (by decide) (fun c => ?_) (fun c => ?_)
      · have h := q_t c h
        refine zi_iload 1 (dq dL_law 293 rfl) rfl ?_
        refine zi_if_ne (tgt := 519) (dq dL_law 294 rfl) (by decide) (fun c => ?_) (fun c => ?_)
        · have h := q_f c h
          refine zi_goto (tgt := 640) (dq dL_law 304 rfl) (by decide) ?_
          refine zi_iincC (v := _ + (5)) (lv' := [(4, _), (6, _), (5, _), (0, _), (1, _), (2, _), (3, _)]) 6 (dq dL_law 384 rfl) rfl rfl (by decide) (by simp [z_cr, z_ci]) rfl ?_
          refine zi_goto (tgt := 23) (dq dL_law 385 rfl) (by decide) ?_
          exact zG_lv (zs_c 3 rfl (zs_c 4 rfl (zs_c 5 rfl (zs_c 6 rfl (zs_c 0 rfl zs_n))))) (hK23 _ h)
        · have h := q_t c h
          refine zi_aload_n 5 (dq dL_law 295 rfl) rfl ?_
          refine zi_iconst (v := 0) (dq dL_law 296 rfl) (by decide) ?_
          obtain ⟨a127, na127, ea127, ha127, ia127, h⟩ := q_a h
          refine zi_rc1 ea127 ?_
          refine zi_lald ha127 rfl ia127 (dq dL_law 297 rfl) ?_
          refine zi_iload 0 (dq dL_law 298 rfl) rfl ?_
          refine zi_i2l (dq dL_law 299 rfl) ?_
          refine zi_lcmp (dq dL_law 300 rfl) ?_
          refine zi_if_eq (tgt := 519) (dq dL_law 301 rfl) (by decide) (fun c => ?_) (fun c => ?_)
          · have h := q_t c h
            refine zi_goto (tgt := 640) (dq dL_law 304 rfl) (by decide) ?_
            refine zi_iincC (v := _ + (5)) (lv' := [(4, _), (6, _), (5, _), (0, _), (1, _), (2, _), (3, _)]) 6 (dq dL_law 384 rfl) rfl rfl (by decide) (by simp [z_cr, z_ci]) rfl ?_
            refine zi_goto (tgt := 23) (dq dL_law 385 rfl) (by decide) ?_
            exact zG_lv (zs_c 3 rfl (zs_c 4 rfl (zs_c 5 rfl (zs_c 6 rfl (zs_c 0 rfl zs_n))))) (hK23 _ h)
          · have h := q_f c h
            refine zi_iconst (v := 0) (dq dL_law 302 rfl) (by decide) ?_
            exact zi_ireturn rfl (by decide) (dq dL_law 303 rfl) (q_rbZ (b := false) h)
      · have h := q_f c h
        refine zi_iconst (v := 0) (dq dL_law 291 rfl) (by decide) ?_
        exact zi_ireturn rfl (by decide) (dq dL_law 292 rfl) (q_rbZ (b := false) h)
    rcases q_w h with ⟨c10, h⟩ | ⟨c10, h⟩
    · refine zi_top c10 ?_
      refine zi_tableIn (tgt := 522) (dq dL_law 24 rfl) (by decide) (by decide) rfl (by decide) ?_
      refine zi_aload_n 1 (dq dL_law 305 rfl) rfl ?_
      refine zi_aload_n 0 (dq dL_law 306 rfl) rfl ?_
      refine zi_iload 4 (dq dL_law 307 rfl) rfl ?_
      refine zi_iconst (v := 1) (dq dL_law 308 rfl) (by decide) ?_
      refine zi_iadd (dq dL_law 309 rfl) ?_
      obtain ⟨c129, h⟩ := q_k h
      refine zi_sld (qi_in c129) (dq dL_law 310 rfl) ?_
      refine zi_aload_n 0 (dq dL_law 311 rfl) rfl ?_
      refine zi_iload 4 (dq dL_law 312 rfl) rfl ?_
      refine zi_iconst (v := 2) (dq dL_law 313 rfl) (by decide) ?_
      refine zi_iadd (dq dL_law 314 rfl) ?_
      obtain ⟨c130, h⟩ := q_k h
      refine zi_sld (qi_in c130) (dq dL_law 315 rfl) ?_
      refine zi_i2c (dq dL_law 316 rfl) ?_
      refine zi_aload_n 0 (dq dL_law 317 rfl) rfl ?_
      refine zi_iload 4 (dq dL_law 318 rfl) rfl ?_
      refine zi_iconst (v := 3) (dq dL_law 319 rfl) (by decide) ?_
      refine zi_iadd (dq dL_law 320 rfl) ?_
      obtain ⟨c131, h⟩ := q_k h
      refine zi_sld (qi_in c131) (dq dL_law 321 rfl) ?_
      refine zi_aload_n 0 (dq dL_law 322 rfl) rfl ?_
      refine zi_iload 4 (dq dL_law 323 rfl) rfl ?_
      refine zi_iconst (v := 4) (dq dL_law 324 rfl) (by decide) ?_
      refine zi_iadd (dq dL_law 325 rfl) ?_
      obtain ⟨c132, h⟩ := q_k h
      refine zi_sld (qi_in c132) (dq dL_law 326 rfl) ?_
      obtain ⟨v133, M134, hv133, h⟩ := q_b h
      refine zi_callSW (n := 5) (As := [_, _, _, _, _]) (SL_operation hz hv133 (d := d - 1) (by omega)) cwL_operation gL ⟨by decide, by decide, by decide +kernel⟩ (by decide) aL_94 tL_operation (by omega) rfl (Nat.le_of_ble_eq_true rfl) (dq dL_law 327 rfl) (fun _ _ hh => ?_)
      obtain ⟨rfl, rfl⟩ := hh
      refine zi_istC (lv' := [(5, _), (0, _), (1, _), (2, _), (3, _), (4, _)]) (dq dL_law 328 rfl) (by decide) (by simp [z_cr, z_ci]) rfl ?_
      refine zi_aload_n 3 (dq dL_law 329 rfl) rfl ?_
      refine zi_aload_n 1 (dq dL_law 330 rfl) rfl ?_
      refine zi_iload 5 (dq dL_law 331 rfl) rfl ?_
      refine zi_iconst (v := 1) (dq dL_law 332 rfl) (by decide) ?_
      refine zi_iadd (dq dL_law 333 rfl) ?_
      obtain ⟨c135, h⟩ := q_k h
      refine zi_sld (qi_in c135) (dq dL_law 334 rfl) ?_
      refine zi_aload_n 1 (dq dL_law 335 rfl) rfl ?_
      refine zi_iload 5 (dq dL_law 336 rfl) rfl ?_
      refine zi_iconst (v := 2) (dq dL_law 337 rfl) (by decide) ?_
      refine zi_iadd (dq dL_law 338 rfl) ?_
      obtain ⟨c136, h⟩ := q_k h
      refine zi_sld (qi_in c136) (dq dL_law 339 rfl) ?_
      refine zi_i2c (dq dL_law 340 rfl) ?_
      refine zi_aload_n 1 (dq dL_law 341 rfl) rfl ?_
      refine zi_iload 5 (dq dL_law 342 rfl) rfl ?_
      refine zi_iconst (v := 3) (dq dL_law 343 rfl) (by decide) ?_
      refine zi_iadd (dq dL_law 344 rfl) ?_
      obtain ⟨c137, h⟩ := q_k h
      refine zi_sld (qi_in c137) (dq dL_law 345 rfl) ?_
      refine zi_aload_n 1 (dq dL_law 346 rfl) rfl ?_
      refine zi_iload 5 (dq dL_law 347 rfl) rfl ?_
      refine zi_iconst (v := 4) (dq dL_law 348 rfl) (by decide) ?_
      refine zi_iadd (dq dL_law 349 rfl) ?_
      obtain ⟨c138, h⟩ := q_k h
      refine zi_sld (qi_in c138) (dq dL_law 350 rfl) ?_
      obtain ⟨c139, h⟩ := q_k h
      replace c139 := mLyB_ok c139
      obtain ⟨v140, J141, hv140, h⟩ := q_b h
      have qv140 := SM_operation (g := g) c139 hv140 (d := d - 1) (by omega)
      rw [zmm_J] at qv140
      refine zi_cVv4 qv140 wM_operation aL_97 iM_operation sM_operation (by omega) (zLs c139 0 rfl) rfl (Nat.le_of_ble_eq_true rfl) (dq dL_law 351 rfl) (fun _ hh => ?_)
      subst hh
      refine zi_aload_n 3 (dq dL_law 352 rfl) rfl ?_
      obtain ⟨c143, h⟩ := q_k h
      replace c143 := mLyB_ok c143
      obtain ⟨v144, J145, hv144, h⟩ := q_b h
      have qv144 := SM_thrown (g := g) c143 hv144 (d := d - 1) (by omega)
      rw [zmm_J] at qv144
      refine zi_cVi0 qv144 wM_thrown aL_76 iM_thrown sM_thrown (by omega) (zLs c143 0 rfl) rfl (Nat.le_of_ble_eq_true rfl) (dq dL_law 353 rfl) (fun _ _ hh => ?_)
      obtain ⟨rfl, rfl⟩ := hh
      refine zi_iload 0 (dq dL_law 354 rfl) rfl ?_
      refine zi_icmp_eq (tgt := 593) (dq dL_law 355 rfl) (by decide) (fun c => ?_) (fun c => ?_)
      · have h := q_t c h
        refine zi_goto (tgt := 640) (dq dL_law 358 rfl) (by decide) ?_
        refine zi_iincC (v := _ + (5)) (lv' := [(4, _), (5, _), (0, _), (1, _), (2, _), (3, _)]) 5 (dq dL_law 384 rfl) rfl rfl (by decide) (by simp [z_cr, z_ci]) rfl ?_
        refine zi_goto (tgt := 23) (dq dL_law 385 rfl) (by decide) ?_
        exact zG_lv (zs_c 2 rfl (zs_c 3 rfl (zs_c 4 rfl (zs_c 5 rfl (zs_c 0 rfl zs_n))))) (hK23 _ h)
      · have h := q_f c h
        refine zi_iconst (v := 0) (dq dL_law 356 rfl) (by decide) ?_
        exact zi_ireturn rfl (by decide) (dq dL_law 357 rfl) (q_rbZ (b := false) h)
    rcases q_w h with ⟨c11, h⟩ | ⟨c11, h⟩
    · refine zi_top c11 ?_
      refine zi_tableIn (tgt := 596) (dq dL_law 24 rfl) (by decide) (by decide) rfl (by decide) ?_
      refine zi_aload_n 1 (dq dL_law 359 rfl) rfl ?_
      refine zi_aload_n 3 (dq dL_law 360 rfl) rfl ?_
      obtain ⟨v148, M149, hv148, h⟩ := q_b h
      refine zi_callSW (n := 2) (As := [_, _]) (SL_serve hz hv148 (d := d - 1) (by omega)) cwL_serve gL ⟨by decide, by decide, by decide +kernel⟩ (by decide) aL_98 tL_serve (by omega) rfl (Nat.le_of_ble_eq_true rfl) (dq dL_law 361 rfl) (fun _ _ hh => ?_)
      obtain ⟨rfl, rfl⟩ := hh
      refine zi_istC (lv' := [(5, _), (0, _), (1, _), (2, _), (3, _), (4, _)]) (dq dL_law 362 rfl) (by decide) (by simp [z_cr, z_ci]) rfl ?_
      refine zi_aload_n 3 (dq dL_law 363 rfl) rfl ?_
      obtain ⟨c150, h⟩ := q_k h
      replace c150 := mLyB_ok c150
      obtain ⟨v151, J152, hv151, h⟩ := q_b h
      have qv151 := SM_serve (g := g) c150 hv151 (d := d - 1) (by omega)
      rw [zmm_J] at qv151
      refine zi_cVi0 qv151 wM_serve aL_101 iM_serve sM_serve (by omega) (zLs c150 0 rfl) rfl (Nat.le_of_ble_eq_true rfl) (dq dL_law 364 rfl) (fun _ _ hh => ?_)
      obtain ⟨rfl, rfl⟩ := hh
      refine zi_istC (lv' := [(6, _), (5, _), (0, _), (1, _), (2, _), (3, _), (4, _)]) (dq dL_law 365 rfl) (by decide) (by simp [z_cr, z_ci]) rfl ?_
      refine zi_aload_n 4 (dq dL_law 366 rfl) rfl ?_
      obtain ⟨c154, h⟩ := q_k h
      replace c154 := mLyB_ok c154
      obtain ⟨v155, J156, hv155, h⟩ := q_b h
      have qv155 := SM_thrown (g := g) c154 hv155 (d := d - 1) (by omega)
      rw [zmm_J] at qv155
      refine zi_cVi0 qv155 wM_thrown aL_76 iM_thrown sM_thrown (by omega) (zLs c154 0 rfl) rfl (Nat.le_of_ble_eq_true rfl) (dq dL_law 367 rfl) (fun _ _ hh => ?_)
      obtain ⟨rfl, rfl⟩ := hh
      refine zi_iload 1 (dq dL_law 368 rfl) rfl ?_
      refine zi_icmp_eq (tgt := 620) (dq dL_law 369 rfl) (by decide) (fun c => ?_) (fun c => ?_)
      · have h := q_t c h
        refine zi_iload 1 (dq dL_law 372 rfl) rfl ?_
        refine zi_if_ne (tgt := 637) (dq dL_law 373 rfl) (by decide) (fun c => ?_) (fun c => ?_)
        · have h := q_f c h
          refine zi_goto (tgt := 640) (dq dL_law 383 rfl) (by decide) ?_
          refine zi_iincC (v := _ + (5)) (lv' := [(4, _), (6, _), (5, _), (0, _), (1, _), (2, _), (3, _)]) 6 (dq dL_law 384 rfl) rfl rfl (by decide) (by simp [z_cr, z_ci]) rfl ?_
          refine zi_goto (tgt := 23) (dq dL_law 385 rfl) (by decide) ?_
          exact zG_lv (zs_c 3 rfl (zs_c 4 rfl (zs_c 5 rfl (zs_c 6 rfl (zs_c 0 rfl zs_n))))) (hK23 _ h)
        · have h := q_t c h
          refine zi_aload_n 5 (dq dL_law 374 rfl) rfl ?_
          refine zi_iconst (v := 0) (dq dL_law 375 rfl) (by decide) ?_
          obtain ⟨a159, na159, ea159, ha159, ia159, h⟩ := q_a h
          refine zi_rc1 ea159 ?_
          refine zi_lald ha159 rfl ia159 (dq dL_law 376 rfl) ?_
          refine zi_iload 0 (dq dL_law 377 rfl) rfl ?_
          refine zi_i2l (dq dL_law 378 rfl) ?_
          refine zi_lcmp (dq dL_law 379 rfl) ?_
          refine zi_if_eq (tgt := 637) (dq dL_law 380 rfl) (by decide) (fun c => ?_) (fun c => ?_)
          · have h := q_t c h
            refine zi_goto (tgt := 640) (dq dL_law 383 rfl) (by decide) ?_
            refine zi_iincC (v := _ + (5)) (lv' := [(4, _), (6, _), (5, _), (0, _), (1, _), (2, _), (3, _)]) 6 (dq dL_law 384 rfl) rfl rfl (by decide) (by simp [z_cr, z_ci]) rfl ?_
            refine zi_goto (tgt := 23) (dq dL_law 385 rfl) (by decide) ?_
            exact zG_lv (zs_c 3 rfl (zs_c 4 rfl (zs_c 5 rfl (zs_c 6 rfl (zs_c 0 rfl zs_n))))) (hK23 _ h)
          · have h := q_f c h
            refine zi_iconst (v := 0) (dq dL_law 381 rfl) (by decide) ?_
            exact zi_ireturn rfl (by decide) (dq dL_law 382 rfl) (q_rbZ (b := false) h)
      · have h := q_f c h
        refine zi_iconst (v := 0) (dq dL_law 370 rfl) (by decide) ?_
        exact zi_ireturn rfl (by decide) (dq dL_law 371 rfl) (q_rbZ (b := false) h)
    refine zi_tableDef (tgt := 640) (vals := [0, 1, 2, 3, 4, 5, 6, 7, 8, 9, 10, 11]) (dq dL_law 24 rfl) (List.forall_mem_cons.mpr ⟨c0, List.forall_mem_cons.mpr ⟨c1, List.forall_mem_cons.mpr ⟨c2, List.forall_mem_cons.mpr ⟨c3, List.forall_mem_cons.mpr ⟨c4, List.forall_mem_cons.mpr ⟨c5, List.forall_mem_cons.mpr ⟨c6, List.forall_mem_cons.mpr ⟨c7, List.forall_mem_cons.mpr ⟨c8, List.forall_mem_cons.mpr ⟨c9, List.forall_mem_cons.mpr ⟨c10, List.forall_mem_cons.mpr ⟨c11, fun _ h => absurd h List.not_mem_nil⟩⟩⟩⟩⟩⟩⟩⟩⟩⟩⟩⟩) (by decide) (by decide) (by decide) ?_
    refine zi_iincC (v := _ + (5)) (lv' := [(4, _), (0, _), (1, _), (2, _), (3, _)]) 4 (dq dL_law 384 rfl) rfl rfl (by decide) (by simp [z_cr, z_ci]) rfl ?_
    refine zi_goto (tgt := 23) (dq dL_law 385 rfl) (by decide) ?_
    exact zG_lv (zs_c 1 rfl (zs_c 2 rfl (zs_c 3 rfl (zs_c 4 rfl (zs_c 0 rfl zs_n))))) (hK23 _ h)
