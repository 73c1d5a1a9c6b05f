/-! LINKS: by program (tools/gen_links.py): entries of the pools, methods, classes, as words -/
theorem zin1 (i : Nat) {w : Cond} (hi : tables_1_1[i]? = some w) (hg : goodWord w = true) : w ∈ zCW := by
  have h := List.mem_of_getElem? hi
  exact List.mem_filter.mpr ⟨List.mem_append_right _ (List.mem_append_left _ h), hg⟩
theorem zin2 (i : Nat) {w : Cond} (hi : tables_1_2[i]? = some w) (hg : goodWord w = true) : w ∈ zCW := by
  have h := List.mem_of_getElem? hi
  exact List.mem_filter.mpr ⟨List.mem_append_right _ (List.mem_append_right _ (List.mem_append_left _ h)), hg⟩
theorem zin3 (i : Nat) {w : Cond} (hi : tables_1_3[i]? = some w) (hg : goodWord w = true) : w ∈ zCW := by
  have h := List.mem_of_getElem? hi
  exact List.mem_filter.mpr ⟨List.mem_append_right _ (List.mem_append_right _ (List.mem_append_right _ (List.mem_append_left _ h))), hg⟩
theorem zin4 (i : Nat) {w : Cond} (hi : tables_1_4[i]? = some w) (hg : goodWord w = true) : w ∈ zCW := by
  have h := List.mem_of_getElem? hi
  exact List.mem_filter.mpr ⟨List.mem_append_right _ (List.mem_append_right _ (List.mem_append_right _ (List.mem_append_right _ (List.mem_append_left _ h)))), hg⟩
theorem zin5 (i : Nat) {w : Cond} (hi : tables_1_5[i]? = some w) (hg : goodWord w = true) : w ∈ zCW := by
  have h := List.mem_of_getElem? hi
  exact List.mem_filter.mpr ⟨List.mem_append_right _ (List.mem_append_right _ (List.mem_append_right _ (List.mem_append_right _ (List.mem_append_right _ (List.mem_append_left _ h))))), hg⟩
theorem zin6 (i : Nat) {w : Cond} (hi : tables_1_6[i]? = some w) (hg : goodWord w = true) : w ∈ zCW := by
  have h := List.mem_of_getElem? hi
  exact List.mem_filter.mpr ⟨List.mem_append_right _ (List.mem_append_right _ (List.mem_append_right _ (List.mem_append_right _ (List.mem_append_right _ (List.mem_append_right _ (List.mem_append_left _ h)))))), hg⟩
theorem zin7 (i : Nat) {w : Cond} (hi : tables_1_7[i]? = some w) (hg : goodWord w = true) : w ∈ zCW := by
  have h := List.mem_of_getElem? hi
  exact List.mem_filter.mpr ⟨List.mem_append_right _ (List.mem_append_right _ (List.mem_append_right _ (List.mem_append_right _ (List.mem_append_right _ (List.mem_append_right _ (List.mem_append_right _ (h))))))), hg⟩
theorem kC : z_cl 0 "NotationDesk$Compiler" TC 10 tyC := ⟨rfl, uC, by decide +kernel, by decide +kernel, rfl⟩
theorem vC : ∀ j, j < 10 → defaultValue (tyC j) = zdv ((zkd 0).getD j 0) := by decide +kernel
theorem kK : z_cl 1 "NotationDesk$Component" TK 6 tyK := ⟨rfl, uK, by decide +kernel, by decide +kernel, rfl⟩
theorem vK : ∀ j, j < 6 → defaultValue (tyK j) = zdv ((zkd 1).getD j 0) := by decide +kernel
theorem kO : z_cl 2 "NotationDesk$OpenReader" TO 4 tyO := ⟨rfl, uO, by decide +kernel, by decide +kernel, rfl⟩
theorem vO : ∀ j, j < 4 → defaultValue (tyO j) = zdv ((zkd 2).getD j 0) := by decide +kernel
theorem kP : z_cl 3 "NotationDesk$PackedReader" TP 4 tyP := ⟨rfl, uP, by decide +kernel, by decide +kernel, rfl⟩
theorem vP : ∀ j, j < 4 → defaultValue (tyP j) = zdv ((zkd 3).getD j 0) := by decide +kernel
theorem kQ : z_cl 4 "NotationDesk$PackedWriter" TQ 5 tyQ := ⟨rfl, uQ, by decide +kernel, by decide +kernel, rfl⟩
theorem vQ : ∀ j, j < 5 → defaultValue (tyQ j) = zdv ((zkd 4).getD j 0) := by decide +kernel
theorem kS : z_cl 5 "NotationDesk$StrictWriter" TS 5 tyS := ⟨rfl, uS, by decide +kernel, by decide +kernel, rfl⟩
theorem vS : ∀ j, j < 5 → defaultValue (tyS j) = zdv ((zkd 5).getD j 0) := by decide +kernel
theorem kT : z_cl 6 "NotationDesk$Type" TT 12 tyT := ⟨rfl, uT, by decide +kernel, by decide +kernel, rfl⟩
theorem vT : ∀ j, j < 12 → defaultValue (tyT j) = zdv ((zkd 6).getD j 0) := by decide +kernel
theorem kV : z_cl 7 "NotationDesk$Value" TV 9 tyV := ⟨rfl, uV, by decide +kernel, by decide +kernel, rfl⟩
theorem vV : ∀ j, j < 9 → defaultValue (tyV j) = zdv ((zkd 7).getD j 0) := by decide +kernel
theorem kD : z_cl 8 "NotationDesk" TD 17 tyD := ⟨rfl, uD, by decide +kernel, by decide +kernel, rfl⟩
theorem vD : ∀ j, j < 17 → defaultValue (tyD j) = zdv ((zkd 8).getD j 0) := by decide +kernel
theorem kM : z_cl 9 "NotationDeskModel" TM 59 tyM := ⟨rfl, uM, by decide +kernel, by decide +kernel, rfl⟩
theorem vM : ∀ j, j < 59 → defaultValue (tyM j) = zdv ((zkd 9).getD j 0) := by decide +kernel
theorem gL : Cond.initialized "NotationDeskLaw" ∈ zCW := zin 0 (by decide +kernel) rfl
theorem gD : Cond.initialized "NotationDesk" ∈ zCW := zin 1 (by decide +kernel) rfl
theorem gC : Cond.initialized "NotationDesk$Compiler" ∈ zCW := zin 2 (by decide +kernel) rfl
theorem gV : Cond.initialized "NotationDesk$Value" ∈ zCW := zin 3 (by decide +kernel) rfl
theorem gO : Cond.initialized "NotationDesk$OpenReader" ∈ zCW := zin 4 (by decide +kernel) rfl
theorem gP : Cond.initialized "NotationDesk$PackedReader" ∈ zCW := zin 5 (by decide +kernel) rfl
theorem gS : Cond.initialized "NotationDesk$StrictWriter" ∈ zCW := zin 6 (by decide +kernel) rfl
theorem gQ : Cond.initialized "NotationDesk$PackedWriter" ∈ zCW := zin 7 (by decide +kernel) rfl
theorem gM : Cond.initialized "NotationDeskModel" ∈ zCW := zin 8 (by decide +kernel) rfl
theorem gT : Cond.initialized "NotationDesk$Type" ∈ zCW := zin 10 (by decide +kernel) rfl
theorem gK : Cond.initialized "NotationDesk$Component" ∈ zCW := zin 11 (by decide +kernel) rfl
theorem gI : Cond.initialized "NotationDesk$Integers" ∈ zCW := zin 19 (by decide +kernel) rfl
theorem bL_8 : Cond.classLink "NotationDeskLaw" 8 "NotationDesk" ∈ zCW := zin 22 (by decide +kernel) rfl
theorem nD : Cond.instantiable "NotationDesk" 17 ∈ zCW := zin 23 (by decide +kernel) rfl
theorem aL_42 : Cond.methodLink "NotationDeskLaw" 42 mD_init.1 ∈ zCW := zin 24 (by decide +kernel) rfl
theorem aD_1 : Cond.methodLink "NotationDesk" 1 Lib.objectInit ∈ zCW := zin 27 (by decide +kernel) rfl
theorem bD_13 : Cond.classLink "NotationDesk" 13 "NotationDesk$Compiler" ∈ zCW := zin 30 (by decide +kernel) rfl
theorem nC : Cond.instantiable "NotationDesk$Compiler" 10 ∈ zCW := zin 31 (by decide +kernel) rfl
theorem aD_15 : Cond.methodLink "NotationDesk" 15 mC_init.1 ∈ zCW := zin 32 (by decide +kernel) rfl
theorem aC_3 : Cond.methodLink "NotationDesk$Compiler" 3 Lib.objectInit ∈ zCW := zin 35 (by decide +kernel) rfl
theorem bC_15 : Cond.classLink "NotationDesk$Compiler" 15 "NotationDesk$Type" ∈ zCW := zin 36 (by decide +kernel) rfl
theorem bC_24 : Cond.classLink "NotationDesk$Compiler" 24 "NotationDesk$Component" ∈ zCW := zin 38 (by decide +kernel) rfl
theorem fC_9 : z_fl "NotationDesk$Compiler" 9 0 0 1 (.array .char) true := ⟨_, _, _, _, kC, by decide, zin 40 (by decide +kernel) rfl, rfl, rfl, rfl, fun _ _ => rfl⟩
theorem fC_17 : z_fl "NotationDesk$Compiler" 17 0 1 1 (.array (.object "NotationDesk$Type")) true := ⟨_, _, _, _, kC, by decide, zin 41 (by decide +kernel) rfl, rfl, rfl, rfl, fun _ _ => rfl⟩
theorem fC_21 : z_fl "NotationDesk$Compiler" 21 0 2 1 (.array (.object "NotationDesk$Type")) true := ⟨_, _, _, _, kC, by decide, zin 42 (by decide +kernel) rfl, rfl, rfl, rfl, fun _ _ => rfl⟩
theorem fC_26 : z_fl "NotationDesk$Compiler" 26 0 3 1 (.array (.object "NotationDesk$Component")) true := ⟨_, _, _, _, kC, by decide, zin 43 (by decide +kernel) rfl, rfl, rfl, rfl, fun _ _ => rfl⟩
theorem fC_50 : z_fl "NotationDesk$Compiler" 50 0 4 0 .int false := ⟨_, _, _, _, kC, by decide, zin 44 (by decide +kernel) rfl, rfl, rfl, rfl, fun _ _ => rfl⟩
theorem fC_53 : z_fl "NotationDesk$Compiler" 53 0 5 0 .int false := ⟨_, _, _, _, kC, by decide, zin 45 (by decide +kernel) rfl, rfl, rfl, rfl, fun _ _ => rfl⟩
theorem fC_40 : z_fl "NotationDesk$Compiler" 40 0 6 0 .int false := ⟨_, _, _, _, kC, by decide, zin 46 (by decide +kernel) rfl, rfl, rfl, rfl, fun _ _ => rfl⟩
theorem fC_44 : z_fl "NotationDesk$Compiler" 44 0 7 0 .int false := ⟨_, _, _, _, kC, by decide, zin 47 (by decide +kernel) rfl, rfl, rfl, rfl, fun _ _ => rfl⟩
theorem fC_47 : z_fl "NotationDesk$Compiler" 47 0 8 0 .int false := ⟨_, _, _, _, kC, by decide, zin 48 (by decide +kernel) rfl, rfl, rfl, rfl, fun _ _ => rfl⟩
theorem fC_133 : z_fl "NotationDesk$Compiler" 133 0 9 0 .int false := ⟨_, _, _, _, kC, by decide, zin 49 (by decide +kernel) rfl, rfl, rfl, rfl, fun _ _ => rfl⟩
theorem r_char : Cond.arrayClass .char ∈ zCW := zin 71 (by decide +kernel) rfl
theorem bD_29 : Cond.classLink "NotationDesk" 29 "NotationDesk$Value" ∈ zCW := zin 72 (by decide +kernel) rfl
theorem nV : Cond.instantiable "NotationDesk$Value" 9 ∈ zCW := zin 73 (by decide +kernel) rfl
theorem aD_31 : Cond.methodLink "NotationDesk" 31 mV_init.1 ∈ zCW := zin 74 (by decide +kernel) rfl
theorem aV_3 : Cond.methodLink "NotationDesk$Value" 3 Lib.objectInit ∈ zCW := zin 77 (by decide +kernel) rfl
theorem fV_33 : z_fl "NotationDesk$Value" 33 7 0 0 .int false := ⟨_, _, _, _, kV, by decide, zin 78 (by decide +kernel) rfl, rfl, rfl, rfl, fun _ _ => rfl⟩
theorem fQ_41 : z_fl "NotationDesk$PackedWriter" 41 7 0 0 .int false := ⟨_, _, _, _, kV, by decide, zin 79 (by decide +kernel) rfl, rfl, rfl, rfl, fun _ h => absurd h (by decide)⟩
theorem fS_34 : z_fl "NotationDesk$StrictWriter" 34 7 0 0 .int false := ⟨_, _, _, _, kV, by decide, zin 80 (by decide +kernel) rfl, rfl, rfl, rfl, fun _ h => absurd h (by decide)⟩
theorem fO_104 : z_fl "NotationDesk$OpenReader" 104 7 0 0 .int false := ⟨_, _, _, _, kV, by decide, zin 81 (by decide +kernel) rfl, rfl, rfl, rfl, fun _ h => absurd h (by decide)⟩
theorem fP_128 : z_fl "NotationDesk$PackedReader" 128 7 0 0 .int false := ⟨_, _, _, _, kV, by decide, zin 82 (by decide +kernel) rfl, rfl, rfl, rfl, fun _ h => absurd h (by decide)⟩
theorem fD_154 : z_fl "NotationDesk" 154 7 0 0 .int false := ⟨_, _, _, _, kV, by decide, zin 83 (by decide +kernel) rfl, rfl, rfl, rfl, fun _ h => absurd h (by decide)⟩
theorem fV_9 : z_fl "NotationDesk$Value" 9 7 1 1 (.array .int) true := ⟨_, _, _, _, kV, by decide, zin 84 (by decide +kernel) rfl, rfl, rfl, rfl, fun _ _ => rfl⟩
theorem fD_161 : z_fl "NotationDesk" 161 7 1 1 (.array .int) true := ⟨_, _, _, _, kV, by decide, zin 85 (by decide +kernel) rfl, rfl, rfl, rfl, fun _ h => absurd h (by decide)⟩
theorem fV_15 : z_fl "NotationDesk$Value" 15 7 2 1 (.array .int) true := ⟨_, _, _, _, kV, by decide, zin 86 (by decide +kernel) rfl, rfl, rfl, rfl, fun _ _ => rfl⟩
theorem fQ_55 : z_fl "NotationDesk$PackedWriter" 55 7 2 1 (.array .int) true := ⟨_, _, _, _, kV, by decide, zin 87 (by decide +kernel) rfl, rfl, rfl, rfl, fun _ h => absurd h (by decide)⟩
theorem fP_59 : z_fl "NotationDesk$PackedReader" 59 7 2 1 (.array .int) true := ⟨_, _, _, _, kV, by decide, zin 88 (by decide +kernel) rfl, rfl, rfl, rfl, fun _ h => absurd h (by decide)⟩
theorem fS_72 : z_fl "NotationDesk$StrictWriter" 72 7 2 1 (.array .int) true := ⟨_, _, _, _, kV, by decide, zin 89 (by decide +kernel) rfl, rfl, rfl, rfl, fun _ h => absurd h (by decide)⟩
theorem fO_89 : z_fl "NotationDesk$OpenReader" 89 7 2 1 (.array .int) true := ⟨_, _, _, _, kV, by decide, zin 90 (by decide +kernel) rfl, rfl, rfl, rfl, fun _ h => absurd h (by decide)⟩
theorem fD_164 : z_fl "NotationDesk" 164 7 2 1 (.array .int) true := ⟨_, _, _, _, kV, by decide, zin 91 (by decide +kernel) rfl, rfl, rfl, rfl, fun _ h => absurd h (by decide)⟩
theorem fV_18 : z_fl "NotationDesk$Value" 18 7 3 1 (.array .int) true := ⟨_, _, _, _, kV, by decide, zin 92 (by decide +kernel) rfl, rfl, rfl, rfl, fun _ _ => rfl⟩
theorem fD_167 : z_fl "NotationDesk" 167 7 3 1 (.array .int) true := ⟨_, _, _, _, kV, by decide, zin 93 (by decide +kernel) rfl, rfl, rfl, rfl, fun _ h => absurd h (by decide)⟩
theorem fV_21 : z_fl "NotationDesk$Value" 21 7 4 1 (.array .int) true := ⟨_, _, _, _, kV, by decide, zin 94 (by decide +kernel) rfl, rfl, rfl, rfl, fun _ _ => rfl⟩
theorem fD_170 : z_fl "NotationDesk" 170 7 4 1 (.array .int) true := ⟨_, _, _, _, kV, by decide, zin 95 (by decide +kernel) rfl, rfl, rfl, rfl, fun _ h => absurd h (by decide)⟩
theorem fV_24 : z_fl "NotationDesk$Value" 24 7 5 1 (.array .int) true := ⟨_, _, _, _, kV, by decide, zin 96 (by decide +kernel) rfl, rfl, rfl, rfl, fun _ _ => rfl⟩
theorem fV_27 : z_fl "NotationDesk$Value" 27 7 6 1 (.array .int) true := ⟨_, _, _, _, kV, by decide, zin 97 (by decide +kernel) rfl, rfl, rfl, rfl, fun _ _ => rfl⟩
theorem fV_30 : z_fl "NotationDesk$Value" 30 7 7 1 (.array .int) true := ⟨_, _, _, _, kV, by decide, zin 98 (by decide +kernel) rfl, rfl, rfl, rfl, fun _ _ => rfl⟩
theorem fV_37 : z_fl "NotationDesk$Value" 37 7 8 0 .int false := ⟨_, _, _, _, kV, by decide, zin 99 (by decide +kernel) rfl, rfl, rfl, rfl, fun _ _ => rfl⟩
theorem r_int : Cond.arrayClass .int ∈ zCW := zin 119 (by decide +kernel) rfl
theorem bD_39 : Cond.classLink "NotationDesk" 39 "NotationDesk$OpenReader" ∈ zCW := zin 120 (by decide +kernel) rfl
theorem nO : Cond.instantiable "NotationDesk$OpenReader" 4 ∈ zCW := zin 121 (by decide +kernel) rfl
theorem aD_41 : Cond.methodLink "NotationDesk" 41 mO_init.1 ∈ zCW := zin 122 (by decide +kernel) rfl
theorem aO_3 : Cond.methodLink "NotationDesk$OpenReader" 3 Lib.objectInit ∈ zCW := zin 125 (by decide +kernel) rfl
theorem fO_9 : z_fl "NotationDesk$OpenReader" 9 2 0 1 (.array .int) true := ⟨_, _, _, _, kO, by decide, zin 126 (by decide +kernel) rfl, rfl, rfl, rfl, fun _ _ => rfl⟩
theorem fO_15 : z_fl "NotationDesk$OpenReader" 15 2 1 1 (.object "NotationDesk$Value") true := ⟨_, _, _, _, kO, by decide, zin 127 (by decide +kernel) rfl, rfl, rfl, rfl, fun _ _ => rfl⟩
theorem fO_19 : z_fl "NotationDesk$OpenReader" 19 2 2 0 .boolean false := ⟨_, _, _, _, kO, by decide, zin 128 (by decide +kernel) rfl, rfl, rfl, rfl, fun _ _ => rfl⟩
theorem fO_23 : z_fl "NotationDesk$OpenReader" 23 2 3 0 .int false := ⟨_, _, _, _, kO, by decide, zin 129 (by decide +kernel) rfl, rfl, rfl, rfl, fun _ _ => rfl⟩
theorem bD_48 : Cond.classLink "NotationDesk" 48 "NotationDesk$PackedReader" ∈ zCW := zin 139 (by decide +kernel) rfl
theorem nP : Cond.instantiable "NotationDesk$PackedReader" 4 ∈ zCW := zin 140 (by decide +kernel) rfl
theorem aD_50 : Cond.methodLink "NotationDesk" 50 mP_init.1 ∈ zCW := zin 141 (by decide +kernel) rfl
theorem aP_3 : Cond.methodLink "NotationDesk$PackedReader" 3 Lib.objectInit ∈ zCW := zin 144 (by decide +kernel) rfl
theorem fP_9 : z_fl "NotationDesk$PackedReader" 9 3 0 1 (.array .int) true := ⟨_, _, _, _, kP, by decide, zin 145 (by decide +kernel) rfl, rfl, rfl, rfl, fun _ _ => rfl⟩
theorem fP_15 : z_fl "NotationDesk$PackedReader" 15 3 1 1 (.object "NotationDesk$Value") true := ⟨_, _, _, _, kP, by decide, zin 146 (by decide +kernel) rfl, rfl, rfl, rfl, fun _ _ => rfl⟩
theorem fP_19 : z_fl "NotationDesk$PackedReader" 19 3 2 0 .int false := ⟨_, _, _, _, kP, by decide, zin 147 (by decide +kernel) rfl, rfl, rfl, rfl, fun _ _ => rfl⟩
theorem fP_29 : z_fl "NotationDesk$PackedReader" 29 3 3 0 .int false := ⟨_, _, _, _, kP, by decide, zin 148 (by decide +kernel) rfl, rfl, rfl, rfl, fun _ _ => rfl⟩
theorem bD_55 : Cond.classLink "NotationDesk" 55 "NotationDesk$StrictWriter" ∈ zCW := zin 158 (by decide +kernel) rfl
theorem nS : Cond.instantiable "NotationDesk$StrictWriter" 5 ∈ zCW := zin 159 (by decide +kernel) rfl
theorem aD_57 : Cond.methodLink "NotationDesk" 57 mS_init.1 ∈ zCW := zin 160 (by decide +kernel) rfl
theorem aS_3 : Cond.methodLink "NotationDesk$StrictWriter" 3 Lib.objectInit ∈ zCW := zin 163 (by decide +kernel) rfl
theorem fS_9 : z_fl "NotationDesk$StrictWriter" 9 5 0 1 (.array .int) true := ⟨_, _, _, _, kS, by decide, zin 164 (by decide +kernel) rfl, rfl, rfl, rfl, fun _ _ => rfl⟩
theorem fS_15 : z_fl "NotationDesk$StrictWriter" 15 5 1 1 (.object "NotationDesk$Value") true := ⟨_, _, _, _, kS, by decide, zin 165 (by decide +kernel) rfl, rfl, rfl, rfl, fun _ _ => rfl⟩
theorem fS_19 : z_fl "NotationDesk$StrictWriter" 19 5 2 0 .int false := ⟨_, _, _, _, kS, by decide, zin 166 (by decide +kernel) rfl, rfl, rfl, rfl, fun _ _ => rfl⟩
theorem fS_23 : z_fl "NotationDesk$StrictWriter" 23 5 3 0 .int false := ⟨_, _, _, _, kS, by decide, zin 167 (by decide +kernel) rfl, rfl, rfl, rfl, fun _ _ => rfl⟩
theorem fS_26 : z_fl "NotationDesk$StrictWriter" 26 5 4 0 .boolean false := ⟨_, _, _, _, kS, by decide, zin 168 (by decide +kernel) rfl, rfl, rfl, rfl, fun _ _ => rfl⟩
theorem bD_62 : Cond.classLink "NotationDesk" 62 "NotationDesk$PackedWriter" ∈ zCW := zin 180 (by decide +kernel) rfl
theorem nQ : Cond.instantiable "NotationDesk$PackedWriter" 5 ∈ zCW := zin 181 (by decide +kernel) rfl
theorem aD_64 : Cond.methodLink "NotationDesk" 64 mQ_init.1 ∈ zCW := zin 182 (by decide +kernel) rfl
theorem aQ_3 : Cond.methodLink "NotationDesk$PackedWriter" 3 Lib.objectInit ∈ zCW := zin 185 (by decide +kernel) rfl
theorem fQ_9 : z_fl "NotationDesk$PackedWriter" 9 4 0 1 (.array .int) true := ⟨_, _, _, _, kQ, by decide, zin 186 (by decide +kernel) rfl, rfl, rfl, rfl, fun _ _ => rfl⟩
theorem fQ_15 : z_fl "NotationDesk$PackedWriter" 15 4 1 1 (.object "NotationDesk$Value") true := ⟨_, _, _, _, kQ, by decide, zin 187 (by decide +kernel) rfl, rfl, rfl, rfl, fun _ _ => rfl⟩
theorem fQ_19 : z_fl "NotationDesk$PackedWriter" 19 4 2 0 .int false := ⟨_, _, _, _, kQ, by decide, zin 188 (by decide +kernel) rfl, rfl, rfl, rfl, fun _ _ => rfl⟩
theorem fQ_23 : z_fl "NotationDesk$PackedWriter" 23 4 3 0 .int false := ⟨_, _, _, _, kQ, by decide, zin 189 (by decide +kernel) rfl, rfl, rfl, rfl, fun _ _ => rfl⟩
theorem fQ_26 : z_fl "NotationDesk$PackedWriter" 26 4 4 0 .boolean false := ⟨_, _, _, _, kQ, by decide, zin 190 (by decide +kernel) rfl, rfl, rfl, rfl, fun _ _ => rfl⟩
theorem bD_69 : Cond.classLink "NotationDesk" 69 "NotationDesk$Type" ∈ zCW := zin 202 (by decide +kernel) rfl
theorem fD_9 : z_fl "NotationDesk" 9 8 0 1 (.array .char) true := ⟨_, _, _, _, kD, by decide, zin 203 (by decide +kernel) rfl, rfl, rfl, rfl, fun _ _ => rfl⟩
theorem fD_85 : z_fl "NotationDesk" 85 8 1 0 .int false := ⟨_, _, _, _, kD, by decide, zin 204 (by decide +kernel) rfl, rfl, rfl, rfl, fun _ _ => rfl⟩
theorem fD_18 : z_fl "NotationDesk" 18 8 2 1 (.object "NotationDesk$Compiler") true := ⟨_, _, _, _, kD, by decide, zin 205 (by decide +kernel) rfl, rfl, rfl, rfl, fun _ _ => rfl⟩
theorem fD_96 : z_fl "NotationDesk" 96 8 3 0 .boolean false := ⟨_, _, _, _, kD, by decide, zin 206 (by decide +kernel) rfl, rfl, rfl, rfl, fun _ _ => rfl⟩
theorem fD_22 : z_fl "NotationDesk" 22 8 4 1 (.array .int) true := ⟨_, _, _, _, kD, by decide, zin 207 (by decide +kernel) rfl, rfl, rfl, rfl, fun _ _ => rfl⟩
theorem fD_100 : z_fl "NotationDesk" 100 8 5 0 .int false := ⟨_, _, _, _, kD, by decide, zin 208 (by decide +kernel) rfl, rfl, rfl, rfl, fun _ _ => rfl⟩
theorem fD_26 : z_fl "NotationDesk" 26 8 6 1 (.array .int) true := ⟨_, _, _, _, kD, by decide, zin 209 (by decide +kernel) rfl, rfl, rfl, rfl, fun _ _ => rfl⟩
theorem fD_32 : z_fl "NotationDesk" 32 8 7 1 (.object "NotationDesk$Value") true := ⟨_, _, _, _, kD, by decide, zin 210 (by decide +kernel) rfl, rfl, rfl, rfl, fun _ _ => rfl⟩
theorem fD_36 : z_fl "NotationDesk" 36 8 8 1 (.object "NotationDesk$Value") true := ⟨_, _, _, _, kD, by decide, zin 211 (by decide +kernel) rfl, rfl, rfl, rfl, fun _ _ => rfl⟩
theorem fD_44 : z_fl "NotationDesk" 44 8 9 1 (.object "NotationDesk$OpenReader") true := ⟨_, _, _, _, kD, by decide, zin 212 (by decide +kernel) rfl, rfl, rfl, rfl, fun _ _ => rfl⟩
theorem fD_51 : z_fl "NotationDesk" 51 8 10 1 (.object "NotationDesk$PackedReader") true := ⟨_, _, _, _, kD, by decide, zin 213 (by decide +kernel) rfl, rfl, rfl, rfl, fun _ _ => rfl⟩
theorem fD_58 : z_fl "NotationDesk" 58 8 11 1 (.object "NotationDesk$StrictWriter") true := ⟨_, _, _, _, kD, by decide, zin 214 (by decide +kernel) rfl, rfl, rfl, rfl, fun _ _ => rfl⟩
theorem fD_65 : z_fl "NotationDesk" 65 8 12 1 (.object "NotationDesk$PackedWriter") true := ⟨_, _, _, _, kD, by decide, zin 215 (by decide +kernel) rfl, rfl, rfl, rfl, fun _ _ => rfl⟩
theorem fD_71 : z_fl "NotationDesk" 71 8 13 1 (.array (.object "NotationDesk$Type")) true := ⟨_, _, _, _, kD, by decide, zin 216 (by decide +kernel) rfl, rfl, rfl, rfl, fun _ _ => rfl⟩
theorem fD_75 : z_fl "NotationDesk" 75 8 14 1 (.array .int) true := ⟨_, _, _, _, kD, by decide, zin 217 (by decide +kernel) rfl, rfl, rfl, rfl, fun _ _ => rfl⟩
theorem fD_78 : z_fl "NotationDesk" 78 8 15 1 (.array .int) true := ⟨_, _, _, _, kD, by decide, zin 218 (by decide +kernel) rfl, rfl, rfl, rfl, fun _ _ => rfl⟩
theorem fD_81 : z_fl "NotationDesk" 81 8 16 1 (.array .long) true := ⟨_, _, _, _, kD, by decide, zin 219 (by decide +kernel) rfl, rfl, rfl, rfl, fun _ _ => rfl⟩
theorem r_long : Cond.arrayClass .long ∈ zCW := zin 255 (by decide +kernel) rfl
theorem aL_46 : Cond.methodLink "NotationDeskLaw" 46 mD_type.1 ∈ zCW := zin 256 (by decide +kernel) rfl
theorem aD_89 : Cond.methodLink "NotationDesk" 89 mD_forgetModule.1 ∈ zCW := zin 260 (by decide +kernel) rfl
theorem aD_192 : Cond.methodLink "NotationDesk" 192 mV_empty.1 ∈ zCW := zin 264 (by decide +kernel) rfl
theorem aL_51 : Cond.methodLink "NotationDeskLaw" 51 mD_clear.1 ∈ zCW := zin 268 (by decide +kernel) rfl
theorem aL_55 : Cond.methodLink "NotationDeskLaw" 55 mD_compile.1 ∈ zCW := zin 272 (by decide +kernel) rfl
theorem aD_92 : Cond.methodLink "NotationDesk" 92 mC_translate.1 ∈ zCW := zin 276 (by decide +kernel) rfl
theorem aC_56 : Cond.methodLink "NotationDesk$Compiler" 56 mC_readDefinition.1 ∈ zCW := zin 283 (by decide +kernel) rfl
theorem aC_59 : Cond.methodLink "NotationDesk$Compiler" 59 mC_nextCharacter.1 ∈ zCW := zin 287 (by decide +kernel) rfl
theorem aC_30 : Cond.methodLink "NotationDesk$Compiler" 30 mC_isName.1 ∈ zCW := zin 291 (by decide +kernel) rfl
theorem aC_63 : Cond.methodLink "NotationDesk$Compiler" 63 mC_refuse.1 ∈ zCW := zin 294 (by decide +kernel) rfl
theorem aC_67 : Cond.methodLink "NotationDesk$Compiler" 67 mC_pass.1 ∈ zCW := zin 298 (by decide +kernel) rfl
theorem aC_71 : Cond.methodLink "NotationDesk$Compiler" 71 mC_readType.1 ∈ zCW := zin 302 (by decide +kernel) rfl
theorem aC_75 : Cond.methodLink "NotationDesk$Compiler" 75 mC_readTag.1 ∈ zCW := zin 306 (by decide +kernel) rfl
theorem aC_100 : Cond.methodLink "NotationDesk$Compiler" 100 mC_isDigit.1 ∈ zCW := zin 310 (by decide +kernel) rfl
theorem aC_103 : Cond.methodLink "NotationDesk$Compiler" 103 mC_newType.1 ∈ zCW := zin 313 (by decide +kernel) rfl
theorem nT : Cond.instantiable "NotationDesk$Type" 12 ∈ zCW := zin 317 (by decide +kernel) rfl
theorem aC_211 : Cond.methodLink "NotationDesk$Compiler" 211 mT_init.1 ∈ zCW := zin 318 (by decide +kernel) rfl
theorem aT_3 : Cond.methodLink "NotationDesk$Type" 3 Lib.objectInit ∈ zCW := zin 321 (by decide +kernel) rfl
theorem fT_9 : z_fl "NotationDesk$Type" 9 6 0 0 .int false := ⟨_, _, _, _, kT, by decide, zin 322 (by decide +kernel) rfl, rfl, rfl, rfl, fun _ _ => rfl⟩
theorem fP_44 : z_fl "NotationDesk$PackedReader" 44 6 0 0 .int false := ⟨_, _, _, _, kT, by decide, zin 323 (by decide +kernel) rfl, rfl, rfl, rfl, fun _ h => absurd h (by decide)⟩
theorem fO_31 : z_fl "NotationDesk$OpenReader" 31 6 0 0 .int false := ⟨_, _, _, _, kT, by decide, zin 324 (by decide +kernel) rfl, rfl, rfl, rfl, fun _ h => absurd h (by decide)⟩
theorem fQ_46 : z_fl "NotationDesk$PackedWriter" 46 6 0 0 .int false := ⟨_, _, _, _, kT, by decide, zin 325 (by decide +kernel) rfl, rfl, rfl, rfl, fun _ h => absurd h (by decide)⟩
theorem fS_39 : z_fl "NotationDesk$StrictWriter" 39 6 0 0 .int false := ⟨_, _, _, _, kT, by decide, zin 326 (by decide +kernel) rfl, rfl, rfl, rfl, fun _ h => absurd h (by decide)⟩
theorem fC_86 : z_fl "NotationDesk$Compiler" 86 6 0 0 .int false := ⟨_, _, _, _, kT, by decide, zin 327 (by decide +kernel) rfl, rfl, rfl, rfl, fun _ h => absurd h (by decide)⟩
theorem fV_66 : z_fl "NotationDesk$Value" 66 6 0 0 .int false := ⟨_, _, _, _, kT, by decide, zin 328 (by decide +kernel) rfl, rfl, rfl, rfl, fun _ h => absurd h (by decide)⟩
theorem fT_15 : z_fl "NotationDesk$Type" 15 6 1 0 .boolean false := ⟨_, _, _, _, kT, by decide, zin 329 (by decide +kernel) rfl, rfl, rfl, rfl, fun _ _ => rfl⟩
theorem fP_62 : z_fl "NotationDesk$PackedReader" 62 6 1 0 .boolean false := ⟨_, _, _, _, kT, by decide, zin 330 (by decide +kernel) rfl, rfl, rfl, rfl, fun _ h => absurd h (by decide)⟩
theorem fQ_74 : z_fl "NotationDesk$PackedWriter" 74 6 1 0 .boolean false := ⟨_, _, _, _, kT, by decide, zin 331 (by decide +kernel) rfl, rfl, rfl, rfl, fun _ h => absurd h (by decide)⟩
theorem fC_145 : z_fl "NotationDesk$Compiler" 145 6 1 0 .boolean false := ⟨_, _, _, _, kT, by decide, zin 332 (by decide +kernel) rfl, rfl, rfl, rfl, fun _ h => absurd h (by decide)⟩
theorem fT_19 : z_fl "NotationDesk$Type" 19 6 2 0 .int false := ⟨_, _, _, _, kT, by decide, zin 333 (by decide +kernel) rfl, rfl, rfl, rfl, fun _ _ => rfl⟩
theorem fP_90 : z_fl "NotationDesk$PackedReader" 90 6 2 0 .int false := ⟨_, _, _, _, kT, by decide, zin 334 (by decide +kernel) rfl, rfl, rfl, rfl, fun _ h => absurd h (by decide)⟩
theorem fQ_77 : z_fl "NotationDesk$PackedWriter" 77 6 2 0 .int false := ⟨_, _, _, _, kT, by decide, zin 335 (by decide +kernel) rfl, rfl, rfl, rfl, fun _ h => absurd h (by decide)⟩
theorem fC_136 : z_fl "NotationDesk$Compiler" 136 6 2 0 .int false := ⟨_, _, _, _, kT, by decide, zin 336 (by decide +kernel) rfl, rfl, rfl, rfl, fun _ h => absurd h (by decide)⟩
theorem fT_22 : z_fl "NotationDesk$Type" 22 6 3 0 .int false := ⟨_, _, _, _, kT, by decide, zin 337 (by decide +kernel) rfl, rfl, rfl, rfl, fun _ _ => rfl⟩
theorem fP_87 : z_fl "NotationDesk$PackedReader" 87 6 3 0 .int false := ⟨_, _, _, _, kT, by decide, zin 338 (by decide +kernel) rfl, rfl, rfl, rfl, fun _ h => absurd h (by decide)⟩
theorem fQ_80 : z_fl "NotationDesk$PackedWriter" 80 6 3 0 .int false := ⟨_, _, _, _, kT, by decide, zin 339 (by decide +kernel) rfl, rfl, rfl, rfl, fun _ h => absurd h (by decide)⟩
theorem fC_139 : z_fl "NotationDesk$Compiler" 139 6 3 0 .int false := ⟨_, _, _, _, kT, by decide, zin 340 (by decide +kernel) rfl, rfl, rfl, rfl, fun _ h => absurd h (by decide)⟩
theorem fT_25 : z_fl "NotationDesk$Type" 25 6 4 0 .int false := ⟨_, _, _, _, kT, by decide, zin 341 (by decide +kernel) rfl, rfl, rfl, rfl, fun _ _ => rfl⟩
theorem fS_69 : z_fl "NotationDesk$StrictWriter" 69 6 4 0 .int false := ⟨_, _, _, _, kT, by decide, zin 342 (by decide +kernel) rfl, rfl, rfl, rfl, fun _ h => absurd h (by decide)⟩
theorem fO_75 : z_fl "NotationDesk$OpenReader" 75 6 4 0 .int false := ⟨_, _, _, _, kT, by decide, zin 343 (by decide +kernel) rfl, rfl, rfl, rfl, fun _ h => absurd h (by decide)⟩
theorem fT_28 : z_fl "NotationDesk$Type" 28 6 5 0 .boolean false := ⟨_, _, _, _, kT, by decide, zin 344 (by decide +kernel) rfl, rfl, rfl, rfl, fun _ _ => rfl⟩
theorem fS_62 : z_fl "NotationDesk$StrictWriter" 62 6 5 0 .boolean false := ⟨_, _, _, _, kT, by decide, zin 345 (by decide +kernel) rfl, rfl, rfl, rfl, fun _ h => absurd h (by decide)⟩
theorem fO_72 : z_fl "NotationDesk$OpenReader" 72 6 5 0 .boolean false := ⟨_, _, _, _, kT, by decide, zin 346 (by decide +kernel) rfl, rfl, rfl, rfl, fun _ h => absurd h (by decide)⟩
theorem fC_89 : z_fl "NotationDesk$Compiler" 89 6 5 0 .boolean false := ⟨_, _, _, _, kT, by decide, zin 347 (by decide +kernel) rfl, rfl, rfl, rfl, fun _ h => absurd h (by decide)⟩
theorem fT_35 : z_fl "NotationDesk$Type" 35 6 6 0 .int false := ⟨_, _, _, _, kT, by decide, zin 348 (by decide +kernel) rfl, rfl, rfl, rfl, fun _ _ => rfl⟩
theorem fK_32 : z_fl "NotationDesk$Component" 32 6 6 0 .int false := ⟨_, _, _, _, kT, by decide, zin 349 (by decide +kernel) rfl, rfl, rfl, rfl, fun _ h => absurd h (by decide)⟩
theorem fC_203 : z_fl "NotationDesk$Compiler" 203 6 6 0 .int false := ⟨_, _, _, _, kT, by decide, zin 350 (by decide +kernel) rfl, rfl, rfl, rfl, fun _ h => absurd h (by decide)⟩
theorem fT_38 : z_fl "NotationDesk$Type" 38 6 7 0 .int false := ⟨_, _, _, _, kT, by decide, zin 351 (by decide +kernel) rfl, rfl, rfl, rfl, fun _ _ => rfl⟩
theorem fC_97 : z_fl "NotationDesk$Compiler" 97 6 7 0 .int false := ⟨_, _, _, _, kT, by decide, zin 352 (by decide +kernel) rfl, rfl, rfl, rfl, fun _ h => absurd h (by decide)⟩
theorem fT_41 : z_fl "NotationDesk$Type" 41 6 8 0 .int false := ⟨_, _, _, _, kT, by decide, zin 353 (by decide +kernel) rfl, rfl, rfl, rfl, fun _ _ => rfl⟩
theorem fQ_129 : z_fl "NotationDesk$PackedWriter" 129 6 8 0 .int false := ⟨_, _, _, _, kT, by decide, zin 354 (by decide +kernel) rfl, rfl, rfl, rfl, fun _ h => absurd h (by decide)⟩
theorem fP_153 : z_fl "NotationDesk$PackedReader" 153 6 8 0 .int false := ⟨_, _, _, _, kT, by decide, zin 355 (by decide +kernel) rfl, rfl, rfl, rfl, fun _ h => absurd h (by decide)⟩
theorem fT_44 : z_fl "NotationDesk$Type" 44 6 9 1 (.object "NotationDesk$Type") false := ⟨_, _, _, _, kT, by decide, zin 356 (by decide +kernel) rfl, rfl, rfl, rfl, fun _ _ => rfl⟩
theorem fP_49 : z_fl "NotationDesk$PackedReader" 49 6 9 1 (.object "NotationDesk$Type") false := ⟨_, _, _, _, kT, by decide, zin 357 (by decide +kernel) rfl, rfl, rfl, rfl, fun _ h => absurd h (by decide)⟩
theorem fQ_51 : z_fl "NotationDesk$PackedWriter" 51 6 9 1 (.object "NotationDesk$Type") false := ⟨_, _, _, _, kT, by decide, zin 358 (by decide +kernel) rfl, rfl, rfl, rfl, fun _ h => absurd h (by decide)⟩
theorem fS_65 : z_fl "NotationDesk$StrictWriter" 65 6 9 1 (.object "NotationDesk$Type") false := ⟨_, _, _, _, kT, by decide, zin 359 (by decide +kernel) rfl, rfl, rfl, rfl, fun _ h => absurd h (by decide)⟩
theorem fO_78 : z_fl "NotationDesk$OpenReader" 78 6 9 1 (.object "NotationDesk$Type") false := ⟨_, _, _, _, kT, by decide, zin 360 (by decide +kernel) rfl, rfl, rfl, rfl, fun _ h => absurd h (by decide)⟩
theorem fC_79 : z_fl "NotationDesk$Compiler" 79 6 9 1 (.object "NotationDesk$Type") false := ⟨_, _, _, _, kT, by decide, zin 361 (by decide +kernel) rfl, rfl, rfl, rfl, fun _ h => absurd h (by decide)⟩
theorem fT_48 : z_fl "NotationDesk$Type" 48 6 10 1 (.object "NotationDesk$Component") false := ⟨_, _, _, _, kT, by decide, zin 362 (by decide +kernel) rfl, rfl, rfl, rfl, fun _ _ => rfl⟩
theorem fO_100 : z_fl "NotationDesk$OpenReader" 100 6 10 1 (.object "NotationDesk$Component") false := ⟨_, _, _, _, kT, by decide, zin 363 (by decide +kernel) rfl, rfl, rfl, rfl, fun _ h => absurd h (by decide)⟩
theorem fQ_103 : z_fl "NotationDesk$PackedWriter" 103 6 10 1 (.object "NotationDesk$Component") false := ⟨_, _, _, _, kT, by decide, zin 364 (by decide +kernel) rfl, rfl, rfl, rfl, fun _ h => absurd h (by decide)⟩
theorem fS_102 : z_fl "NotationDesk$StrictWriter" 102 6 10 1 (.object "NotationDesk$Component") false := ⟨_, _, _, _, kT, by decide, zin 365 (by decide +kernel) rfl, rfl, rfl, rfl, fun _ h => absurd h (by decide)⟩
theorem fP_124 : z_fl "NotationDesk$PackedReader" 124 6 10 1 (.object "NotationDesk$Component") false := ⟨_, _, _, _, kT, by decide, zin 366 (by decide +kernel) rfl, rfl, rfl, rfl, fun _ h => absurd h (by decide)⟩
theorem fC_193 : z_fl "NotationDesk$Compiler" 193 6 10 1 (.object "NotationDesk$Component") false := ⟨_, _, _, _, kT, by decide, zin 367 (by decide +kernel) rfl, rfl, rfl, rfl, fun _ h => absurd h (by decide)⟩
theorem fT_52 : z_fl "NotationDesk$Type" 52 6 11 1 (.object "NotationDesk$Component") false := ⟨_, _, _, _, kT, by decide, zin 368 (by decide +kernel) rfl, rfl, rfl, rfl, fun _ _ => rfl⟩
theorem aC_212 : Cond.methodLink "NotationDesk$Compiler" 212 mT_begin.1 ∈ zCW := zin 394 (by decide +kernel) rfl
theorem aT_31 : Cond.methodLink "NotationDesk$Type" 31 mT_tagsOf.1 ∈ zCW := zin 398 (by decide +kernel) rfl
theorem cT_55 : Cond.constant "NotationDesk$Type" 55 (65536 : Int32) ∈ zCW := zin 401 (by decide +kernel) rfl
theorem aC_106 : Cond.methodLink "NotationDesk$Compiler" 106 mT_beginTag.1 ∈ zCW := zin 402 (by decide +kernel) rfl
theorem aT_56 : Cond.methodLink "NotationDesk$Type" 56 mT_begin.1 ∈ zCW := zin 406 (by decide +kernel) rfl
theorem aC_83 : Cond.methodLink "NotationDesk$Compiler" 83 mC_readUntagged.1 ∈ zCW := zin 407 (by decide +kernel) rfl
theorem aC_110 : Cond.methodLink "NotationDesk$Compiler" 110 mC_readReference.1 ∈ zCW := zin 411 (by decide +kernel) rfl
theorem aC_114 : Cond.methodLink "NotationDesk$Compiler" 114 mC_kindOf.1 ∈ zCW := zin 415 (by decide +kernel) rfl
theorem aC_118 : Cond.methodLink "NotationDesk$Compiler" 118 mC_readMembers.1 ∈ zCW := zin 418 (by decide +kernel) rfl
theorem aC_149 : Cond.methodLink "NotationDesk$Compiler" 149 mC_readMember.1 ∈ zCW := zin 422 (by decide +kernel) rfl
theorem aC_155 : Cond.methodLink "NotationDesk$Compiler" 155 mC_newMember.1 ∈ zCW := zin 426 (by decide +kernel) rfl
theorem nK : Cond.instantiable "NotationDesk$Component" 6 ∈ zCW := zin 430 (by decide +kernel) rfl
theorem aC_216 : Cond.methodLink "NotationDesk$Compiler" 216 mK_init.1 ∈ zCW := zin 431 (by decide +kernel) rfl
theorem aK_3 : Cond.methodLink "NotationDesk$Component" 3 Lib.objectInit ∈ zCW := zin 434 (by decide +kernel) rfl
theorem fK_9 : z_fl "NotationDesk$Component" 9 1 0 1 (.object "NotationDesk$Type") false := ⟨_, _, _, _, kK, by decide, zin 435 (by decide +kernel) rfl, rfl, rfl, rfl, fun _ _ => rfl⟩
theorem fS_79 : z_fl "NotationDesk$StrictWriter" 79 1 0 1 (.object "NotationDesk$Type") false := ⟨_, _, _, _, kK, by decide, zin 436 (by decide +kernel) rfl, rfl, rfl, rfl, fun _ h => absurd h (by decide)⟩
theorem fO_97 : z_fl "NotationDesk$OpenReader" 97 1 0 1 (.object "NotationDesk$Type") false := ⟨_, _, _, _, kK, by decide, zin 437 (by decide +kernel) rfl, rfl, rfl, rfl, fun _ h => absurd h (by decide)⟩
theorem fQ_119 : z_fl "NotationDesk$PackedWriter" 119 1 0 1 (.object "NotationDesk$Type") false := ⟨_, _, _, _, kK, by decide, zin 438 (by decide +kernel) rfl, rfl, rfl, rfl, fun _ h => absurd h (by decide)⟩
theorem fP_140 : z_fl "NotationDesk$PackedReader" 140 1 0 1 (.object "NotationDesk$Type") false := ⟨_, _, _, _, kK, by decide, zin 439 (by decide +kernel) rfl, rfl, rfl, rfl, fun _ h => absurd h (by decide)⟩
theorem fV_56 : z_fl "NotationDesk$Value" 56 1 0 1 (.object "NotationDesk$Type") false := ⟨_, _, _, _, kK, by decide, zin 440 (by decide +kernel) rfl, rfl, rfl, rfl, fun _ h => absurd h (by decide)⟩
theorem fK_15 : z_fl "NotationDesk$Component" 15 1 1 0 .int false := ⟨_, _, _, _, kK, by decide, zin 441 (by decide +kernel) rfl, rfl, rfl, rfl, fun _ _ => rfl⟩
theorem fT_60 : z_fl "NotationDesk$Type" 60 1 1 0 .int false := ⟨_, _, _, _, kK, by decide, zin 442 (by decide +kernel) rfl, rfl, rfl, rfl, fun _ h => absurd h (by decide)⟩
theorem fO_92 : z_fl "NotationDesk$OpenReader" 92 1 1 0 .int false := ⟨_, _, _, _, kK, by decide, zin 443 (by decide +kernel) rfl, rfl, rfl, rfl, fun _ h => absurd h (by decide)⟩
theorem fP_131 : z_fl "NotationDesk$PackedReader" 131 1 1 0 .int false := ⟨_, _, _, _, kK, by decide, zin 444 (by decide +kernel) rfl, rfl, rfl, rfl, fun _ h => absurd h (by decide)⟩
theorem fV_53 : z_fl "NotationDesk$Value" 53 1 1 0 .int false := ⟨_, _, _, _, kK, by decide, zin 445 (by decide +kernel) rfl, rfl, rfl, rfl, fun _ h => absurd h (by decide)⟩
theorem fK_19 : z_fl "NotationDesk$Component" 19 1 2 0 .int false := ⟨_, _, _, _, kK, by decide, zin 446 (by decide +kernel) rfl, rfl, rfl, rfl, fun _ _ => rfl⟩
theorem fQ_107 : z_fl "NotationDesk$PackedWriter" 107 1 2 0 .int false := ⟨_, _, _, _, kK, by decide, zin 447 (by decide +kernel) rfl, rfl, rfl, rfl, fun _ h => absurd h (by decide)⟩
theorem fV_46 : z_fl "NotationDesk$Value" 46 1 2 0 .int false := ⟨_, _, _, _, kK, by decide, zin 448 (by decide +kernel) rfl, rfl, rfl, rfl, fun _ h => absurd h (by decide)⟩
theorem fS_110 : z_fl "NotationDesk$StrictWriter" 110 1 2 0 .int false := ⟨_, _, _, _, kK, by decide, zin 449 (by decide +kernel) rfl, rfl, rfl, rfl, fun _ h => absurd h (by decide)⟩
theorem fP_150 : z_fl "NotationDesk$PackedReader" 150 1 2 0 .int false := ⟨_, _, _, _, kK, by decide, zin 450 (by decide +kernel) rfl, rfl, rfl, rfl, fun _ h => absurd h (by decide)⟩
theorem fC_173 : z_fl "NotationDesk$Compiler" 173 1 2 0 .int false := ⟨_, _, _, _, kK, by decide, zin 451 (by decide +kernel) rfl, rfl, rfl, rfl, fun _ h => absurd h (by decide)⟩
theorem fK_22 : z_fl "NotationDesk$Component" 22 1 3 0 .int false := ⟨_, _, _, _, kK, by decide, zin 452 (by decide +kernel) rfl, rfl, rfl, rfl, fun _ _ => rfl⟩
theorem fV_51 : z_fl "NotationDesk$Value" 51 1 3 0 .int false := ⟨_, _, _, _, kK, by decide, zin 453 (by decide +kernel) rfl, rfl, rfl, rfl, fun _ h => absurd h (by decide)⟩
theorem fC_179 : z_fl "NotationDesk$Compiler" 179 1 3 0 .int false := ⟨_, _, _, _, kK, by decide, zin 454 (by decide +kernel) rfl, rfl, rfl, rfl, fun _ h => absurd h (by decide)⟩
theorem fK_25 : z_fl "NotationDesk$Component" 25 1 4 0 .int false := ⟨_, _, _, _, kK, by decide, zin 455 (by decide +kernel) rfl, rfl, rfl, rfl, fun _ _ => rfl⟩
theorem fQ_126 : z_fl "NotationDesk$PackedWriter" 126 1 4 0 .int false := ⟨_, _, _, _, kK, by decide, zin 456 (by decide +kernel) rfl, rfl, rfl, rfl, fun _ h => absurd h (by decide)⟩
theorem fT_68 : z_fl "NotationDesk$Type" 68 1 4 0 .int false := ⟨_, _, _, _, kK, by decide, zin 457 (by decide +kernel) rfl, rfl, rfl, rfl, fun _ h => absurd h (by decide)⟩
theorem fC_208 : z_fl "NotationDesk$Compiler" 208 1 4 0 .int false := ⟨_, _, _, _, kK, by decide, zin 458 (by decide +kernel) rfl, rfl, rfl, rfl, fun _ h => absurd h (by decide)⟩
theorem fK_28 : z_fl "NotationDesk$Component" 28 1 5 1 (.object "NotationDesk$Component") false := ⟨_, _, _, _, kK, by decide, zin 459 (by decide +kernel) rfl, rfl, rfl, rfl, fun _ _ => rfl⟩
theorem fT_65 : z_fl "NotationDesk$Type" 65 1 5 1 (.object "NotationDesk$Component") false := ⟨_, _, _, _, kK, by decide, zin 460 (by decide +kernel) rfl, rfl, rfl, rfl, fun _ h => absurd h (by decide)⟩
theorem fQ_116 : z_fl "NotationDesk$PackedWriter" 116 1 5 1 (.object "NotationDesk$Component") false := ⟨_, _, _, _, kK, by decide, zin 461 (by decide +kernel) rfl, rfl, rfl, rfl, fun _ h => absurd h (by decide)⟩
theorem fO_119 : z_fl "NotationDesk$OpenReader" 119 1 5 1 (.object "NotationDesk$Component") false := ⟨_, _, _, _, kK, by decide, zin 462 (by decide +kernel) rfl, rfl, rfl, rfl, fun _ h => absurd h (by decide)⟩
theorem fS_113 : z_fl "NotationDesk$StrictWriter" 113 1 5 1 (.object "NotationDesk$Component") false := ⟨_, _, _, _, kK, by decide, zin 463 (by decide +kernel) rfl, rfl, rfl, rfl, fun _ h => absurd h (by decide)⟩
theorem fP_147 : z_fl "NotationDesk$PackedReader" 147 1 5 1 (.object "NotationDesk$Component") false := ⟨_, _, _, _, kK, by decide, zin 464 (by decide +kernel) rfl, rfl, rfl, rfl, fun _ h => absurd h (by decide)⟩
theorem fC_200 : z_fl "NotationDesk$Compiler" 200 1 5 1 (.object "NotationDesk$Component") false := ⟨_, _, _, _, kK, by decide, zin 465 (by decide +kernel) rfl, rfl, rfl, rfl, fun _ h => absurd h (by decide)⟩
theorem aC_217 : Cond.methodLink "NotationDesk$Compiler" 217 mK_begin.1 ∈ zCW := zin 479 (by decide +kernel) rfl
theorem aC_159 : Cond.methodLink "NotationDesk$Compiler" 159 mT_addMember.1 ∈ zCW := zin 483 (by decide +kernel) rfl
theorem aC_166 : Cond.methodLink "NotationDesk$Compiler" 166 mT_untagged.1 ∈ zCW := zin 490 (by decide +kernel) rfl
theorem aC_169 : Cond.methodLink "NotationDesk$Compiler" 169 mC_readMode.1 ∈ zCW := zin 494 (by decide +kernel) rfl
theorem aC_129 : Cond.methodLink "NotationDesk$Compiler" 129 mC_readNumber.1 ∈ zCW := zin 498 (by decide +kernel) rfl
theorem aC_176 : Cond.methodLink "NotationDesk$Compiler" 176 mC_isDefault.1 ∈ zCW := zin 502 (by decide +kernel) rfl
theorem aC_180 : Cond.methodLink "NotationDesk$Compiler" 180 mT_allows.1 ∈ zCW := zin 505 (by decide +kernel) rfl
theorem aC_152 : Cond.methodLink "NotationDesk$Compiler" 152 mC_closeMembers.1 ∈ zCW := zin 509 (by decide +kernel) rfl
theorem aC_183 : Cond.methodLink "NotationDesk$Compiler" 183 mC_alternativesClash.1 ∈ zCW := zin 513 (by decide +kernel) rfl
theorem aC_197 : Cond.methodLink "NotationDesk$Compiler" 197 mK_tags.1 ∈ zCW := zin 516 (by decide +kernel) rfl
theorem aC_186 : Cond.methodLink "NotationDesk$Compiler" 186 mC_componentsClash.1 ∈ zCW := zin 520 (by decide +kernel) rfl
theorem aC_189 : Cond.methodLink "NotationDesk$Compiler" 189 mC_gatherAlternatives.1 ∈ zCW := zin 523 (by decide +kernel) rfl
theorem aC_205 : Cond.methodLink "NotationDesk$Compiler" 205 mK_leastTag.1 ∈ zCW := zin 526 (by decide +kernel) rfl
theorem aK_37 : Cond.methodLink "NotationDesk$Component" 37 mK_tags.1 ∈ zCW := zin 530 (by decide +kernel) rfl
theorem aC_122 : Cond.methodLink "NotationDesk$Compiler" 122 mC_readBounds.1 ∈ zCW := zin 531 (by decide +kernel) rfl
theorem aC_142 : Cond.methodLink "NotationDesk$Compiler" 142 mC_areBounds.1 ∈ zCW := zin 535 (by decide +kernel) rfl
theorem cC_148 : Cond.constant "NotationDesk$Compiler" 148 (65536 : Int32) ∈ zCW := zin 538 (by decide +kernel) rfl
theorem aC_126 : Cond.methodLink "NotationDesk$Compiler" 126 mC_readItems.1 ∈ zCW := zin 539 (by decide +kernel) rfl
theorem aC_93 : Cond.methodLink "NotationDesk$Compiler" 93 mC_setHeights.1 ∈ zCW := zin 543 (by decide +kernel) rfl
theorem aL_61 : Cond.methodLink "NotationDeskLaw" 61 mD_put.1 ∈ zCW := zin 546 (by decide +kernel) rfl
theorem aL_66 : Cond.methodLink "NotationDeskLaw" 66 mD_wipe.1 ∈ zCW := zin 550 (by decide +kernel) rfl
theorem aL_83 : Cond.methodLink "NotationDeskLaw" 83 mD_parts.1 ∈ zCW := zin 554 (by decide +kernel) rfl
theorem aL_70 : Cond.methodLink "NotationDeskLaw" 70 mL_at.1 ∈ zCW := zin 558 (by decide +kernel) rfl
theorem bL_13 : Cond.classLink "NotationDeskLaw" 13 "java/lang/IndexOutOfBoundsException" ∈ zCW := zin 561 (by decide +kernel) rfl
theorem aL_7 : Cond.methodLink "NotationDeskLaw" 7 mD_at.1 ∈ zCW := zin 562 (by decide +kernel) rfl
theorem bD_103 : Cond.classLink "NotationDesk" 103 "java/lang/IndexOutOfBoundsException" ∈ zCW := zin 566 (by decide +kernel) rfl
theorem r_byte : Cond.arrayClass .byte ∈ zCW := zin 635 (by decide +kernel) rfl
theorem aL_79 : Cond.methodLink "NotationDeskLaw" 79 mL_transcode.1 ∈ zCW := zin 636 (by decide +kernel) rfl
theorem bL_19 : Cond.classLink "NotationDeskLaw" 19 "java/lang/IllegalArgumentException" ∈ zCW := zin 639 (by decide +kernel) rfl
theorem bL_21 : Cond.classLink "NotationDeskLaw" 21 "java/lang/IllegalStateException" ∈ zCW := zin 640 (by decide +kernel) rfl
theorem bL_23 : Cond.classLink "NotationDeskLaw" 23 "java/util/NoSuchElementException" ∈ zCW := zin 641 (by decide +kernel) rfl
theorem bL_25 : Cond.classLink "NotationDeskLaw" 25 "java/lang/UnsupportedOperationException" ∈ zCW := zin 642 (by decide +kernel) rfl
theorem aL_15 : Cond.methodLink "NotationDeskLaw" 15 mD_transcode.1 ∈ zCW := zin 643 (by decide +kernel) rfl
theorem aD_110 : Cond.methodLink "NotationDesk" 110 mD_areRules.1 ∈ zCW := zin 647 (by decide +kernel) rfl
theorem bD_114 : Cond.classLink "NotationDesk" 114 "java/lang/IllegalArgumentException" ∈ zCW := zin 650 (by decide +kernel) rfl
theorem bD_119 : Cond.classLink "NotationDesk" 119 "java/lang/IllegalStateException" ∈ zCW := zin 666 (by decide +kernel) rfl
theorem aD_124 : Cond.methodLink "NotationDesk" 124 mC_typeNamed.1 ∈ zCW := zin 682 (by decide +kernel) rfl
theorem bD_128 : Cond.classLink "NotationDesk" 128 "java/util/NoSuchElementException" ∈ zCW := zin 686 (by decide +kernel) rfl
theorem aD_133 : Cond.methodLink "NotationDesk" 133 mD_readBuffer.1 ∈ zCW := zin 702 (by decide +kernel) rfl
theorem aD_195 : Cond.methodLink "NotationDesk" 195 mP_readAll.1 ∈ zCW := zin 706 (by decide +kernel) rfl
theorem aP_32 : Cond.methodLink "NotationDesk$PackedReader" 32 mP_readValue.1 ∈ zCW := zin 711 (by decide +kernel) rfl
theorem aP_53 : Cond.methodLink "NotationDesk$PackedReader" 53 mV_addPart.1 ∈ zCW := zin 715 (by decide +kernel) rfl
theorem aP_36 : Cond.methodLink "NotationDesk$PackedReader" 36 mP_takeBits.1 ∈ zCW := zin 719 (by decide +kernel) rfl
theorem aP_66 : Cond.methodLink "NotationDesk$PackedReader" 66 mP_readBounded.1 ∈ zCW := zin 723 (by decide +kernel) rfl
theorem aP_93 : Cond.methodLink "NotationDesk$PackedReader" 93 mP_takeNumber.1 ∈ zCW := zin 727 (by decide +kernel) rfl
theorem aP_40 : Cond.methodLink "NotationDesk$PackedReader" 40 mP_align.1 ∈ zCW := zin 731 (by decide +kernel) rfl
theorem aP_160 : Cond.methodLink "NotationDesk$PackedReader" 160 mI_bitsOfNumbersTo.1 ∈ zCW := zin 735 (by decide +kernel) rfl
theorem aP_70 : Cond.methodLink "NotationDesk$PackedReader" 70 mP_readUnbounded.1 ∈ zCW := zin 738 (by decide +kernel) rfl
theorem aP_96 : Cond.methodLink "NotationDesk$PackedReader" 96 mP_takeByte.1 ∈ zCW := zin 742 (by decide +kernel) rfl
theorem aP_100 : Cond.methodLink "NotationDesk$PackedReader" 100 mI_areBytesOfOne.1 ∈ zCW := zin 746 (by decide +kernel) rfl
theorem aP_106 : Cond.methodLink "NotationDesk$PackedReader" 106 mI_fromBytes.1 ∈ zCW := zin 749 (by decide +kernel) rfl
theorem aP_74 : Cond.methodLink "NotationDesk$PackedReader" 74 mP_readOctets.1 ∈ zCW := zin 752 (by decide +kernel) rfl
theorem aP_110 : Cond.methodLink "NotationDesk$PackedReader" 110 mP_takeCount.1 ∈ zCW := zin 756 (by decide +kernel) rfl
theorem aP_114 : Cond.methodLink "NotationDesk$PackedReader" 114 mT_isAlignedOctets.1 ∈ zCW := zin 760 (by decide +kernel) rfl
theorem aP_117 : Cond.methodLink "NotationDesk$PackedReader" 117 mV_addOctet.1 ∈ zCW := zin 764 (by decide +kernel) rfl
theorem aP_77 : Cond.methodLink "NotationDesk$PackedReader" 77 mP_readComponents.1 ∈ zCW := zin 768 (by decide +kernel) rfl
theorem aP_121 : Cond.methodLink "NotationDesk$PackedReader" 121 mP_takePresence.1 ∈ zCW := zin 772 (by decide +kernel) rfl
theorem aP_136 : Cond.methodLink "NotationDesk$PackedReader" 136 mV_leaveOutComponent.1 ∈ zCW := zin 776 (by decide +kernel) rfl
theorem aV_60 : Cond.methodLink "NotationDesk$Value" 60 mT_untagged.1 ∈ zCW := zin 780 (by decide +kernel) rfl
theorem aV_68 : Cond.methodLink "NotationDesk$Value" 68 mV_addPart.1 ∈ zCW := zin 781 (by decide +kernel) rfl
theorem aP_143 : Cond.methodLink "NotationDesk$PackedReader" 143 mV_takeComponent.1 ∈ zCW := zin 782 (by decide +kernel) rfl
theorem aP_81 : Cond.methodLink "NotationDesk$PackedReader" 81 mP_readItems.1 ∈ zCW := zin 786 (by decide +kernel) rfl
theorem aP_84 : Cond.methodLink "NotationDesk$PackedReader" 84 mP_readChoice.1 ∈ zCW := zin 790 (by decide +kernel) rfl
theorem aP_156 : Cond.methodLink "NotationDesk$PackedReader" 156 mT_memberRanked.1 ∈ zCW := zin 794 (by decide +kernel) rfl
theorem aD_198 : Cond.methodLink "NotationDesk" 198 mO_readAll.1 ∈ zCW := zin 798 (by decide +kernel) rfl
theorem aO_27 : Cond.methodLink "NotationDesk$OpenReader" 27 mO_readElement.1 ∈ zCW := zin 802 (by decide +kernel) rfl
theorem aO_36 : Cond.methodLink "NotationDesk$OpenReader" 36 mO_readTagged.1 ∈ zCW := zin 806 (by decide +kernel) rfl
theorem aO_43 : Cond.methodLink "NotationDesk$OpenReader" 43 mT_tagByte.1 ∈ zCW := zin 810 (by decide +kernel) rfl
theorem aO_47 : Cond.methodLink "NotationDesk$OpenReader" 47 mO_readHeader.1 ∈ zCW := zin 814 (by decide +kernel) rfl
theorem aO_148 : Cond.methodLink "NotationDesk$OpenReader" 148 mO_readLongLength.1 ∈ zCW := zin 818 (by decide +kernel) rfl
theorem aO_68 : Cond.methodLink "NotationDesk$OpenReader" 68 mO_readContentEnd.1 ∈ zCW := zin 822 (by decide +kernel) rfl
theorem aO_39 : Cond.methodLink "NotationDesk$OpenReader" 39 mO_readChoice.1 ∈ zCW := zin 826 (by decide +kernel) rfl
theorem aO_82 : Cond.methodLink "NotationDesk$OpenReader" 82 mO_nextTagBit.1 ∈ zCW := zin 830 (by decide +kernel) rfl
theorem aO_152 : Cond.methodLink "NotationDesk$OpenReader" 152 mO_tagBitOf.1 ∈ zCW := zin 834 (by decide +kernel) rfl
theorem cO_155 : Cond.constant "NotationDesk$OpenReader" 155 (65536 : Int32) ∈ zCW := zin 837 (by decide +kernel) rfl
theorem aO_85 : Cond.methodLink "NotationDesk$OpenReader" 85 mT_memberWithTag.1 ∈ zCW := zin 838 (by decide +kernel) rfl
theorem aT_71 : Cond.methodLink "NotationDesk$Type" 71 mK_tags.1 ∈ zCW := zin 842 (by decide +kernel) rfl
theorem aO_51 : Cond.methodLink "NotationDesk$OpenReader" 51 mV_addPart.1 ∈ zCW := zin 843 (by decide +kernel) rfl
theorem aO_57 : Cond.methodLink "NotationDesk$OpenReader" 57 mO_readPlain.1 ∈ zCW := zin 844 (by decide +kernel) rfl
theorem aO_126 : Cond.methodLink "NotationDesk$OpenReader" 126 mO_readBoolean.1 ∈ zCW := zin 848 (by decide +kernel) rfl
theorem aO_129 : Cond.methodLink "NotationDesk$OpenReader" 129 mO_readInteger.1 ∈ zCW := zin 852 (by decide +kernel) rfl
theorem aO_135 : Cond.methodLink "NotationDesk$OpenReader" 135 mI_areBytesOfOne.1 ∈ zCW := zin 856 (by decide +kernel) rfl
theorem aO_141 : Cond.methodLink "NotationDesk$OpenReader" 141 mI_fromBytes.1 ∈ zCW := zin 857 (by decide +kernel) rfl
theorem aO_122 : Cond.methodLink "NotationDesk$OpenReader" 122 mT_allows.1 ∈ zCW := zin 858 (by decide +kernel) rfl
theorem aO_132 : Cond.methodLink "NotationDesk$OpenReader" 132 mO_readOctets.1 ∈ zCW := zin 859 (by decide +kernel) rfl
theorem aO_145 : Cond.methodLink "NotationDesk$OpenReader" 145 mV_addOctet.1 ∈ zCW := zin 863 (by decide +kernel) rfl
theorem aO_61 : Cond.methodLink "NotationDesk$OpenReader" 61 mO_readItems.1 ∈ zCW := zin 864 (by decide +kernel) rfl
theorem aO_65 : Cond.methodLink "NotationDesk$OpenReader" 65 mO_readComponents.1 ∈ zCW := zin 868 (by decide +kernel) rfl
theorem aO_107 : Cond.methodLink "NotationDesk$OpenReader" 107 mK_tags.1 ∈ zCW := zin 872 (by decide +kernel) rfl
theorem aO_111 : Cond.methodLink "NotationDesk$OpenReader" 111 mV_leaveOutComponent.1 ∈ zCW := zin 873 (by decide +kernel) rfl
theorem aO_115 : Cond.methodLink "NotationDesk$OpenReader" 115 mV_takeComponent.1 ∈ zCW := zin 874 (by decide +kernel) rfl
theorem aD_137 : Cond.methodLink "NotationDesk" 137 mD_writeFound.1 ∈ zCW := zin 875 (by decide +kernel) rfl
theorem aD_201 : Cond.methodLink "NotationDesk" 201 mQ_writeAll.1 ∈ zCW := zin 879 (by decide +kernel) rfl
theorem aQ_30 : Cond.methodLink "NotationDesk$PackedWriter" 30 mQ_writeValue.1 ∈ zCW := zin 883 (by decide +kernel) rfl
theorem aQ_34 : Cond.methodLink "NotationDesk$PackedWriter" 34 mQ_appendBits.1 ∈ zCW := zin 887 (by decide +kernel) rfl
theorem aQ_58 : Cond.methodLink "NotationDesk$PackedWriter" 58 mQ_writeInteger.1 ∈ zCW := zin 891 (by decide +kernel) rfl
theorem aQ_83 : Cond.methodLink "NotationDesk$PackedWriter" 83 mQ_appendNumber.1 ∈ zCW := zin 895 (by decide +kernel) rfl
theorem aQ_38 : Cond.methodLink "NotationDesk$PackedWriter" 38 mQ_align.1 ∈ zCW := zin 899 (by decide +kernel) rfl
theorem aQ_132 : Cond.methodLink "NotationDesk$PackedWriter" 132 mI_bitsOfNumbersTo.1 ∈ zCW := zin 903 (by decide +kernel) rfl
theorem aQ_86 : Cond.methodLink "NotationDesk$PackedWriter" 86 mI_byteCount.1 ∈ zCW := zin 904 (by decide +kernel) rfl
theorem aQ_61 : Cond.methodLink "NotationDesk$PackedWriter" 61 mQ_writeOctets.1 ∈ zCW := zin 907 (by decide +kernel) rfl
theorem aQ_92 : Cond.methodLink "NotationDesk$PackedWriter" 92 mQ_appendCount.1 ∈ zCW := zin 911 (by decide +kernel) rfl
theorem aQ_95 : Cond.methodLink "NotationDesk$PackedWriter" 95 mT_isAlignedOctets.1 ∈ zCW := zin 915 (by decide +kernel) rfl
theorem aQ_99 : Cond.methodLink "NotationDesk$PackedWriter" 99 mV_octetAt.1 ∈ zCW := zin 916 (by decide +kernel) rfl
theorem aQ_64 : Cond.methodLink "NotationDesk$PackedWriter" 64 mQ_writeComponents.1 ∈ zCW := zin 920 (by decide +kernel) rfl
theorem aQ_112 : Cond.methodLink "NotationDesk$PackedWriter" 112 mV_shows.1 ∈ zCW := zin 924 (by decide +kernel) rfl
theorem aQ_68 : Cond.methodLink "NotationDesk$PackedWriter" 68 mQ_writeItems.1 ∈ zCW := zin 928 (by decide +kernel) rfl
theorem aQ_71 : Cond.methodLink "NotationDesk$PackedWriter" 71 mQ_writeChoice.1 ∈ zCW := zin 932 (by decide +kernel) rfl
theorem aQ_122 : Cond.methodLink "NotationDesk$PackedWriter" 122 mT_memberAt.1 ∈ zCW := zin 936 (by decide +kernel) rfl
theorem aD_205 : Cond.methodLink "NotationDesk" 205 mS_writeAll.1 ∈ zCW := zin 940 (by decide +kernel) rfl
theorem aS_30 : Cond.methodLink "NotationDesk$StrictWriter" 30 mS_writeElement.1 ∈ zCW := zin 944 (by decide +kernel) rfl
theorem aS_44 : Cond.methodLink "NotationDesk$StrictWriter" 44 mS_writeChoice.1 ∈ zCW := zin 948 (by decide +kernel) rfl
theorem aS_75 : Cond.methodLink "NotationDesk$StrictWriter" 75 mT_memberAt.1 ∈ zCW := zin 952 (by decide +kernel) rfl
theorem aS_48 : Cond.methodLink "NotationDesk$StrictWriter" 48 mT_tagByte.1 ∈ zCW := zin 953 (by decide +kernel) rfl
theorem aS_52 : Cond.methodLink "NotationDesk$StrictWriter" 52 mS_beginElement.1 ∈ zCW := zin 954 (by decide +kernel) rfl
theorem aS_84 : Cond.methodLink "NotationDesk$StrictWriter" 84 mS_append.1 ∈ zCW := zin 958 (by decide +kernel) rfl
theorem aS_55 : Cond.methodLink "NotationDesk$StrictWriter" 55 mS_writeContent.1 ∈ zCW := zin 962 (by decide +kernel) rfl
theorem aS_87 : Cond.methodLink "NotationDesk$StrictWriter" 87 mS_writeInteger.1 ∈ zCW := zin 966 (by decide +kernel) rfl
theorem aS_97 : Cond.methodLink "NotationDesk$StrictWriter" 97 mI_byteCount.1 ∈ zCW := zin 970 (by decide +kernel) rfl
theorem aS_90 : Cond.methodLink "NotationDesk$StrictWriter" 90 mV_octetAt.1 ∈ zCW := zin 971 (by decide +kernel) rfl
theorem aS_94 : Cond.methodLink "NotationDesk$StrictWriter" 94 mS_writeComponents.1 ∈ zCW := zin 972 (by decide +kernel) rfl
theorem aS_106 : Cond.methodLink "NotationDesk$StrictWriter" 106 mV_shows.1 ∈ zCW := zin 976 (by decide +kernel) rfl
theorem aS_58 : Cond.methodLink "NotationDesk$StrictWriter" 58 mS_endElement.1 ∈ zCW := zin 977 (by decide +kernel) rfl
theorem bD_141 : Cond.classLink "NotationDesk" 141 "java/lang/UnsupportedOperationException" ∈ zCW := zin 981 (by decide +kernel) rfl
theorem aD_146 : Cond.methodLink "NotationDesk" 146 mV_copyOf.1 ∈ zCW := zin 997 (by decide +kernel) rfl
theorem aD_150 : Cond.methodLink "NotationDesk" 150 mD_keepWritten.1 ∈ zCW := zin 1004 (by decide +kernel) rfl
theorem aL_87 : Cond.methodLink "NotationDeskLaw" 87 mL_part.1 ∈ zCW := zin 1009 (by decide +kernel) rfl
theorem aL_27 : Cond.methodLink "NotationDeskLaw" 27 mD_part.1 ∈ zCW := zin 1012 (by decide +kernel) rfl
theorem aL_91 : Cond.methodLink "NotationDeskLaw" 91 mL_octet.1 ∈ zCW := zin 1018 (by decide +kernel) rfl
theorem aL_31 : Cond.methodLink "NotationDeskLaw" 31 mD_octet.1 ∈ zCW := zin 1021 (by decide +kernel) rfl
theorem aD_173 : Cond.methodLink "NotationDesk" 173 mV_octetAt.1 ∈ zCW := zin 1025 (by decide +kernel) rfl
theorem aL_94 : Cond.methodLink "NotationDeskLaw" 94 mL_operation.1 ∈ zCW := zin 1026 (by decide +kernel) rfl
theorem aL_34 : Cond.methodLink "NotationDeskLaw" 34 mD_operation.1 ∈ zCW := zin 1029 (by decide +kernel) rfl
theorem aL_98 : Cond.methodLink "NotationDeskLaw" 98 mL_serve.1 ∈ zCW := zin 1034 (by decide +kernel) rfl
theorem aL_38 : Cond.methodLink "NotationDeskLaw" 38 mD_serve.1 ∈ zCW := zin 1037 (by decide +kernel) rfl
theorem aD_179 : Cond.methodLink "NotationDesk" 179 mD_refuseMessage.1 ∈ zCW := zin 1041 (by decide +kernel) rfl
theorem aD_182 : Cond.methodLink "NotationDesk" 182 mD_wasServed.1 ∈ zCW := zin 1045 (by decide +kernel) rfl
theorem aD_186 : Cond.methodLink "NotationDesk" 186 mD_markServed.1 ∈ zCW := zin 1049 (by decide +kernel) rfl
theorem aD_189 : Cond.methodLink "NotationDesk" 189 mD_sayNoValue.1 ∈ zCW := zin 1053 (by decide +kernel) rfl
theorem bL_43 : Cond.classLink "NotationDeskLaw" 43 "NotationDeskModel" ∈ zCW := zin 1057 (by decide +kernel) rfl
theorem nM : Cond.instantiable "NotationDeskModel" 59 ∈ zCW := zin 1058 (by decide +kernel) rfl
theorem aL_45 : Cond.methodLink "NotationDeskLaw" 45 mM_init.1 ∈ zCW := zin 1059 (by decide +kernel) rfl
theorem aM_1 : Cond.methodLink "NotationDeskModel" 1 Lib.objectInit ∈ zCW := zin 1062 (by decide +kernel) rfl
theorem aM_129 : Cond.methodLink "NotationDeskModel" 129 mM_leave.1 ∈ zCW := zin 1063 (by decide +kernel) rfl
theorem fM_132 : z_fl "NotationDeskModel" 132 9 0 0 .int false := ⟨_, _, _, _, kM, by decide, zin 1067 (by decide +kernel) rfl, rfl, rfl, rfl, fun _ _ => rfl⟩
theorem fM_136 : z_fl "NotationDeskModel" 136 9 1 0 .boolean false := ⟨_, _, _, _, kM, by decide, zin 1068 (by decide +kernel) rfl, rfl, rfl, rfl, fun _ _ => rfl⟩
theorem fM_143 : z_fl "NotationDeskModel" 143 9 2 0 .int false := ⟨_, _, _, _, kM, by decide, zin 1069 (by decide +kernel) rfl, rfl, rfl, rfl, fun _ _ => rfl⟩
theorem fM_146 : z_fl "NotationDeskModel" 146 9 3 0 .int false := ⟨_, _, _, _, kM, by decide, zin 1070 (by decide +kernel) rfl, rfl, rfl, rfl, fun _ _ => rfl⟩
theorem fM_149 : z_fl "NotationDeskModel" 149 9 4 0 .int false := ⟨_, _, _, _, kM, by decide, zin 1071 (by decide +kernel) rfl, rfl, rfl, rfl, fun _ _ => rfl⟩
theorem fM_177 : z_fl "NotationDeskModel" 177 9 5 0 .int false := ⟨_, _, _, _, kM, by decide, zin 1072 (by decide +kernel) rfl, rfl, rfl, rfl, fun _ _ => rfl⟩
theorem fM_203 : z_fl "NotationDeskModel" 203 9 6 0 .int false := ⟨_, _, _, _, kM, by decide, zin 1073 (by decide +kernel) rfl, rfl, rfl, rfl, fun _ _ => rfl⟩
theorem fM_7 : z_fl "NotationDeskModel" 7 9 7 1 (.array .char) true := ⟨_, _, _, _, kM, by decide, zin 1074 (by decide +kernel) rfl, rfl, rfl, rfl, fun _ _ => rfl⟩
theorem fM_13 : z_fl "NotationDeskModel" 13 9 8 1 (.array .int) true := ⟨_, _, _, _, kM, by decide, zin 1075 (by decide +kernel) rfl, rfl, rfl, rfl, fun _ _ => rfl⟩
theorem fM_17 : z_fl "NotationDeskModel" 17 9 9 1 (.array .int) true := ⟨_, _, _, _, kM, by decide, zin 1076 (by decide +kernel) rfl, rfl, rfl, rfl, fun _ _ => rfl⟩
theorem fM_160 : z_fl "NotationDeskModel" 160 9 10 0 .int false := ⟨_, _, _, _, kM, by decide, zin 1077 (by decide +kernel) rfl, rfl, rfl, rfl, fun _ _ => rfl⟩
theorem fM_20 : z_fl "NotationDeskModel" 20 9 11 1 (.array .int) true := ⟨_, _, _, _, kM, by decide, zin 1078 (by decide +kernel) rfl, rfl, rfl, rfl, fun _ _ => rfl⟩
theorem fM_23 : z_fl "NotationDeskModel" 23 9 12 1 (.array .int) true := ⟨_, _, _, _, kM, by decide, zin 1079 (by decide +kernel) rfl, rfl, rfl, rfl, fun _ _ => rfl⟩
theorem fM_26 : z_fl "NotationDeskModel" 26 9 13 1 (.array .int) true := ⟨_, _, _, _, kM, by decide, zin 1080 (by decide +kernel) rfl, rfl, rfl, rfl, fun _ _ => rfl⟩
theorem fM_29 : z_fl "NotationDeskModel" 29 9 14 1 (.array .int) true := ⟨_, _, _, _, kM, by decide, zin 1081 (by decide +kernel) rfl, rfl, rfl, rfl, fun _ _ => rfl⟩
theorem fM_32 : z_fl "NotationDeskModel" 32 9 15 1 (.array .int) true := ⟨_, _, _, _, kM, by decide, zin 1082 (by decide +kernel) rfl, rfl, rfl, rfl, fun _ _ => rfl⟩
theorem fM_35 : z_fl "NotationDeskModel" 35 9 16 1 (.array .int) true := ⟨_, _, _, _, kM, by decide, zin 1083 (by decide +kernel) rfl, rfl, rfl, rfl, fun _ _ => rfl⟩
theorem fM_38 : z_fl "NotationDeskModel" 38 9 17 1 (.array .int) true := ⟨_, _, _, _, kM, by decide, zin 1084 (by decide +kernel) rfl, rfl, rfl, rfl, fun _ _ => rfl⟩
theorem fM_41 : z_fl "NotationDeskModel" 41 9 18 1 (.array .boolean) true := ⟨_, _, _, _, kM, by decide, zin 1085 (by decide +kernel) rfl, rfl, rfl, rfl, fun _ _ => rfl⟩
theorem fM_45 : z_fl "NotationDeskModel" 45 9 19 1 (.array .boolean) true := ⟨_, _, _, _, kM, by decide, zin 1086 (by decide +kernel) rfl, rfl, rfl, rfl, fun _ _ => rfl⟩
theorem fM_48 : z_fl "NotationDeskModel" 48 9 20 1 (.array .int) true := ⟨_, _, _, _, kM, by decide, zin 1087 (by decide +kernel) rfl, rfl, rfl, rfl, fun _ _ => rfl⟩
theorem fM_51 : z_fl "NotationDeskModel" 51 9 21 1 (.array .int) true := ⟨_, _, _, _, kM, by decide, zin 1088 (by decide +kernel) rfl, rfl, rfl, rfl, fun _ _ => rfl⟩
theorem fM_54 : z_fl "NotationDeskModel" 54 9 22 1 (.array .int) true := ⟨_, _, _, _, kM, by decide, zin 1089 (by decide +kernel) rfl, rfl, rfl, rfl, fun _ _ => rfl⟩
theorem fM_222 : z_fl "NotationDeskModel" 222 9 23 0 .int false := ⟨_, _, _, _, kM, by decide, zin 1090 (by decide +kernel) rfl, rfl, rfl, rfl, fun _ _ => rfl⟩
theorem fM_225 : z_fl "NotationDeskModel" 225 9 24 0 .int false := ⟨_, _, _, _, kM, by decide, zin 1091 (by decide +kernel) rfl, rfl, rfl, rfl, fun _ _ => rfl⟩
theorem fM_57 : z_fl "NotationDeskModel" 57 9 25 1 (.array .int) true := ⟨_, _, _, _, kM, by decide, zin 1092 (by decide +kernel) rfl, rfl, rfl, rfl, fun _ _ => rfl⟩
theorem fM_60 : z_fl "NotationDeskModel" 60 9 26 1 (.array .int) true := ⟨_, _, _, _, kM, by decide, zin 1093 (by decide +kernel) rfl, rfl, rfl, rfl, fun _ _ => rfl⟩
theorem fM_228 : z_fl "NotationDeskModel" 228 9 27 0 .int false := ⟨_, _, _, _, kM, by decide, zin 1094 (by decide +kernel) rfl, rfl, rfl, rfl, fun _ _ => rfl⟩
theorem fM_261 : z_fl "NotationDeskModel" 261 9 28 0 .int false := ⟨_, _, _, _, kM, by decide, zin 1095 (by decide +kernel) rfl, rfl, rfl, rfl, fun _ _ => rfl⟩
theorem fM_270 : z_fl "NotationDeskModel" 270 9 29 0 .int false := ⟨_, _, _, _, kM, by decide, zin 1096 (by decide +kernel) rfl, rfl, rfl, rfl, fun _ _ => rfl⟩
theorem fM_341 : z_fl "NotationDeskModel" 341 9 30 0 .int false := ⟨_, _, _, _, kM, by decide, zin 1097 (by decide +kernel) rfl, rfl, rfl, rfl, fun _ _ => rfl⟩
theorem fM_63 : z_fl "NotationDeskModel" 63 9 31 1 (.array .int) true := ⟨_, _, _, _, kM, by decide, zin 1098 (by decide +kernel) rfl, rfl, rfl, rfl, fun _ _ => rfl⟩
theorem fM_66 : z_fl "NotationDeskModel" 66 9 32 1 (.array .int) true := ⟨_, _, _, _, kM, by decide, zin 1099 (by decide +kernel) rfl, rfl, rfl, rfl, fun _ _ => rfl⟩
theorem fM_69 : z_fl "NotationDeskModel" 69 9 33 1 (.array .int) true := ⟨_, _, _, _, kM, by decide, zin 1100 (by decide +kernel) rfl, rfl, rfl, rfl, fun _ _ => rfl⟩
theorem fM_233 : z_fl "NotationDeskModel" 233 9 34 0 .int false := ⟨_, _, _, _, kM, by decide, zin 1101 (by decide +kernel) rfl, rfl, rfl, rfl, fun _ _ => rfl⟩
theorem fM_239 : z_fl "NotationDeskModel" 239 9 35 0 .int false := ⟨_, _, _, _, kM, by decide, zin 1102 (by decide +kernel) rfl, rfl, rfl, rfl, fun _ _ => rfl⟩
theorem fM_72 : z_fl "NotationDeskModel" 72 9 36 1 (.array .int) true := ⟨_, _, _, _, kM, by decide, zin 1103 (by decide +kernel) rfl, rfl, rfl, rfl, fun _ _ => rfl⟩
theorem fM_75 : z_fl "NotationDeskModel" 75 9 37 1 (.array .int) true := ⟨_, _, _, _, kM, by decide, zin 1104 (by decide +kernel) rfl, rfl, rfl, rfl, fun _ _ => rfl⟩
theorem fM_78 : z_fl "NotationDeskModel" 78 9 38 1 (.array .int) true := ⟨_, _, _, _, kM, by decide, zin 1105 (by decide +kernel) rfl, rfl, rfl, rfl, fun _ _ => rfl⟩
theorem fM_81 : z_fl "NotationDeskModel" 81 9 39 1 (.array .int) true := ⟨_, _, _, _, kM, by decide, zin 1106 (by decide +kernel) rfl, rfl, rfl, rfl, fun _ _ => rfl⟩
theorem fM_84 : z_fl "NotationDeskModel" 84 9 40 1 (.array .int) true := ⟨_, _, _, _, kM, by decide, zin 1107 (by decide +kernel) rfl, rfl, rfl, rfl, fun _ _ => rfl⟩
theorem fM_87 : z_fl "NotationDeskModel" 87 9 41 1 (.array .int) true := ⟨_, _, _, _, kM, by decide, zin 1108 (by decide +kernel) rfl, rfl, rfl, rfl, fun _ _ => rfl⟩
theorem fM_90 : z_fl "NotationDeskModel" 90 9 42 1 (.array .int) true := ⟨_, _, _, _, kM, by decide, zin 1109 (by decide +kernel) rfl, rfl, rfl, rfl, fun _ _ => rfl⟩
theorem fM_93 : z_fl "NotationDeskModel" 93 9 43 1 (.array .int) true := ⟨_, _, _, _, kM, by decide, zin 1110 (by decide +kernel) rfl, rfl, rfl, rfl, fun _ _ => rfl⟩
theorem fM_140 : z_fl "NotationDeskModel" 140 9 44 0 .int false := ⟨_, _, _, _, kM, by decide, zin 1111 (by decide +kernel) rfl, rfl, rfl, rfl, fun _ _ => rfl⟩
theorem fM_96 : z_fl "NotationDeskModel" 96 9 45 1 (.array .int) true := ⟨_, _, _, _, kM, by decide, zin 1112 (by decide +kernel) rfl, rfl, rfl, rfl, fun _ _ => rfl⟩
theorem fM_99 : z_fl "NotationDeskModel" 99 9 46 1 (.array .int) true := ⟨_, _, _, _, kM, by decide, zin 1113 (by decide +kernel) rfl, rfl, rfl, rfl, fun _ _ => rfl⟩
theorem fM_245 : z_fl "NotationDeskModel" 245 9 47 0 .int false := ⟨_, _, _, _, kM, by decide, zin 1114 (by decide +kernel) rfl, rfl, rfl, rfl, fun _ _ => rfl⟩
theorem fM_242 : z_fl "NotationDeskModel" 242 9 48 0 .int false := ⟨_, _, _, _, kM, by decide, zin 1115 (by decide +kernel) rfl, rfl, rfl, rfl, fun _ _ => rfl⟩
theorem fM_236 : z_fl "NotationDeskModel" 236 9 49 0 .boolean false := ⟨_, _, _, _, kM, by decide, zin 1116 (by decide +kernel) rfl, rfl, rfl, rfl, fun _ _ => rfl⟩
theorem fM_102 : z_fl "NotationDeskModel" 102 9 50 1 (.array .int) true := ⟨_, _, _, _, kM, by decide, zin 1117 (by decide +kernel) rfl, rfl, rfl, rfl, fun _ _ => rfl⟩
theorem fM_105 : z_fl "NotationDeskModel" 105 9 51 1 (.array .int) true := ⟨_, _, _, _, kM, by decide, zin 1118 (by decide +kernel) rfl, rfl, rfl, rfl, fun _ _ => rfl⟩
theorem fM_108 : z_fl "NotationDeskModel" 108 9 52 1 (.array .int) true := ⟨_, _, _, _, kM, by decide, zin 1119 (by decide +kernel) rfl, rfl, rfl, rfl, fun _ _ => rfl⟩
theorem fM_111 : z_fl "NotationDeskModel" 111 9 53 1 (.array .int) true := ⟨_, _, _, _, kM, by decide, zin 1120 (by decide +kernel) rfl, rfl, rfl, rfl, fun _ _ => rfl⟩
theorem fM_114 : z_fl "NotationDeskModel" 114 9 54 1 (.array .boolean) true := ⟨_, _, _, _, kM, by decide, zin 1121 (by decide +kernel) rfl, rfl, rfl, rfl, fun _ _ => rfl⟩
theorem fM_117 : z_fl "NotationDeskModel" 117 9 55 1 (.array .int) true := ⟨_, _, _, _, kM, by decide, zin 1122 (by decide +kernel) rfl, rfl, rfl, rfl, fun _ _ => rfl⟩
theorem fM_120 : z_fl "NotationDeskModel" 120 9 56 1 (.array .int) true := ⟨_, _, _, _, kM, by decide, zin 1123 (by decide +kernel) rfl, rfl, rfl, rfl, fun _ _ => rfl⟩
theorem fM_123 : z_fl "NotationDeskModel" 123 9 57 1 (.array .int) true := ⟨_, _, _, _, kM, by decide, zin 1124 (by decide +kernel) rfl, rfl, rfl, rfl, fun _ _ => rfl⟩
theorem fM_126 : z_fl "NotationDeskModel" 126 9 58 1 (.array .boolean) true := ⟨_, _, _, _, kM, by decide, zin 1125 (by decide +kernel) rfl, rfl, rfl, rfl, fun _ _ => rfl⟩
theorem r_boolean : Cond.arrayClass .boolean ∈ zCW := zin 1245 (by decide +kernel) rfl
theorem aL_76 : Cond.methodLink "NotationDeskLaw" 76 mM_thrown.1 ∈ zCW := zin 1246 (by decide +kernel) rfl
theorem aL_50 : Cond.methodLink "NotationDeskLaw" 50 mM_type.1 ∈ zCW := zin 1250 (by decide +kernel) rfl
theorem aL_54 : Cond.methodLink "NotationDeskLaw" 54 mM_clear.1 ∈ zCW := zin 1254 (by decide +kernel) rfl
theorem aL_58 : Cond.methodLink "NotationDeskLaw" 58 mM_compile.1 ∈ zCW := zin 1258 (by decide +kernel) rfl
theorem aM_163 : Cond.methodLink "NotationDeskModel" 163 mM_definition.1 ∈ zCW := zin 1262 (by decide +kernel) rfl
theorem aM_152 : Cond.methodLink "NotationDeskModel" 152 mM_look.1 ∈ zCW := zin 1266 (by decide +kernel) rfl
theorem aM_166 : Cond.methodLink "NotationDeskModel" 166 mM_in.1 ∈ zCW := zin 1270 (by decide +kernel) rfl
theorem aM_156 : Cond.methodLink "NotationDeskModel" 156 mM_stop.1 ∈ zCW := zin 1273 (by decide +kernel) rfl
theorem aM_170 : Cond.methodLink "NotationDeskModel" 170 mM_need.1 ∈ zCW := zin 1277 (by decide +kernel) rfl
theorem aM_174 : Cond.methodLink "NotationDeskModel" 174 mM_whole.1 ∈ zCW := zin 1281 (by decide +kernel) rfl
theorem aM_180 : Cond.methodLink "NotationDeskModel" 180 mM_begin.1 ∈ zCW := zin 1285 (by decide +kernel) rfl
theorem aM_187 : Cond.methodLink "NotationDeskModel" 187 mM_tagged.1 ∈ zCW := zin 1289 (by decide +kernel) rfl
theorem aM_193 : Cond.methodLink "NotationDeskModel" 193 mM_add.1 ∈ zCW := zin 1293 (by decide +kernel) rfl
theorem aM_196 : Cond.methodLink "NotationDeskModel" 196 mM_push.1 ∈ zCW := zin 1297 (by decide +kernel) rfl
theorem aM_190 : Cond.methodLink "NotationDeskModel" 190 mM_named.1 ∈ zCW := zin 1301 (by decide +kernel) rfl
theorem aM_199 : Cond.methodLink "NotationDeskModel" 199 mM_ranged.1 ∈ zCW := zin 1305 (by decide +kernel) rfl
theorem aM_206 : Cond.methodLink "NotationDeskModel" 206 mM_numeral.1 ∈ zCW := zin 1309 (by decide +kernel) rfl
theorem cM_210 : Cond.constant "NotationDeskModel" 210 (65536 : Int32) ∈ zCW := zin 1313 (by decide +kernel) rfl
theorem aM_183 : Cond.methodLink "NotationDeskModel" 183 mM_end.1 ∈ zCW := zin 1314 (by decide +kernel) rfl
theorem aM_211 : Cond.methodLink "NotationDeskModel" 211 mM_component.1 ∈ zCW := zin 1318 (by decide +kernel) rfl
theorem aM_218 : Cond.methodLink "NotationDeskModel" 218 mM_unwrap.1 ∈ zCW := zin 1322 (by decide +kernel) rfl
theorem aM_215 : Cond.methodLink "NotationDeskModel" 215 mM_clashes.1 ∈ zCW := zin 1326 (by decide +kernel) rfl
theorem aL_65 : Cond.methodLink "NotationDeskLaw" 65 mM_put.1 ∈ zCW := zin 1330 (by decide +kernel) rfl
theorem cM_231 : Cond.constantLong "NotationDeskModel" 231 (255 : Int64) ∈ zCW := zin 1334 (by decide +kernel) rfl
theorem aL_69 : Cond.methodLink "NotationDeskLaw" 69 mM_wipe.1 ∈ zCW := zin 1335 (by decide +kernel) rfl
theorem aL_75 : Cond.methodLink "NotationDeskLaw" 75 mM_at.1 ∈ zCW := zin 1339 (by decide +kernel) rfl
theorem aL_82 : Cond.methodLink "NotationDeskLaw" 82 mM_transcode.1 ∈ zCW := zin 1343 (by decide +kernel) rfl
theorem aM_372 : Cond.methodLink "NotationDeskModel" 372 mM_asked.1 ∈ zCW := zin 1347 (by decide +kernel) rfl
theorem aM_368 : Cond.methodLink "NotationDeskModel" 368 mM_typeOf.1 ∈ zCW := zin 1351 (by decide +kernel) rfl
theorem aM_376 : Cond.methodLink "NotationDeskModel" 376 mM_load.1 ∈ zCW := zin 1355 (by decide +kernel) rfl
theorem aM_379 : Cond.methodLink "NotationDeskModel" 379 mM_isValue.1 ∈ zCW := zin 1359 (by decide +kernel) rfl
theorem aM_248 : Cond.methodLink "NotationDeskModel" 248 mM_element.1 ∈ zCW := zin 1363 (by decide +kernel) rfl
theorem aM_276 : Cond.methodLink "NotationDeskModel" 276 mM_next.1 ∈ zCW := zin 1367 (by decide +kernel) rfl
theorem aM_273 : Cond.methodLink "NotationDeskModel" 273 mM_bound.1 ∈ zCW := zin 1371 (by decide +kernel) rfl
theorem aM_287 : Cond.methodLink "NotationDeskModel" 287 mM_enter.1 ∈ zCW := zin 1375 (by decide +kernel) rfl
theorem aM_279 : Cond.methodLink "NotationDeskModel" 279 mM_length.1 ∈ zCW := zin 1379 (by decide +kernel) rfl
theorem aM_283 : Cond.methodLink "NotationDeskModel" 283 mM_frame.1 ∈ zCW := zin 1383 (by decide +kernel) rfl
theorem aM_290 : Cond.methodLink "NotationDeskModel" 290 mM_bitOf.1 ∈ zCW := zin 1387 (by decide +kernel) rfl
theorem aM_293 : Cond.methodLink "NotationDeskModel" 293 mM_adds.1 ∈ zCW := zin 1390 (by decide +kernel) rfl
theorem aM_297 : Cond.methodLink "NotationDeskModel" 297 mM_inner.1 ∈ zCW := zin 1394 (by decide +kernel) rfl
theorem aM_300 : Cond.methodLink "NotationDeskModel" 300 mM_bytesOf.1 ∈ zCW := zin 1398 (by decide +kernel) rfl
theorem cM_303 : Cond.constant "NotationDeskModel" 303 (-8388608 : Int32) ∈ zCW := zin 1401 (by decide +kernel) rfl
theorem cM_304 : Cond.constant "NotationDeskModel" 304 (8388607 : Int32) ∈ zCW := zin 1402 (by decide +kernel) rfl
theorem aM_252 : Cond.methodLink "NotationDeskModel" 252 mM_want.1 ∈ zCW := zin 1403 (by decide +kernel) rfl
theorem aM_329 : Cond.methodLink "NotationDeskModel" 329 mM_ranging.1 ∈ zCW := zin 1407 (by decide +kernel) rfl
theorem aM_320 : Cond.methodLink "NotationDeskModel" 320 mM_align.1 ∈ zCW := zin 1411 (by decide +kernel) rfl
theorem aM_323 : Cond.methodLink "NotationDeskModel" 323 mM_width.1 ∈ zCW := zin 1415 (by decide +kernel) rfl
theorem aM_326 : Cond.methodLink "NotationDeskModel" 326 mM_some.1 ∈ zCW := zin 1418 (by decide +kernel) rfl
theorem aM_317 : Cond.methodLink "NotationDeskModel" 317 mM_bit.1 ∈ zCW := zin 1422 (by decide +kernel) rfl
theorem aM_332 : Cond.methodLink "NotationDeskModel" 332 mM_rank.1 ∈ zCW := zin 1426 (by decide +kernel) rfl
theorem aM_335 : Cond.methodLink "NotationDeskModel" 335 mM_counted.1 ∈ zCW := zin 1430 (by decide +kernel) rfl
theorem aM_255 : Cond.methodLink "NotationDeskModel" 255 mM_goOn.1 ∈ zCW := zin 1434 (by decide +kernel) rfl
theorem aM_305 : Cond.methodLink "NotationDeskModel" 305 mM_isEnd.1 ∈ zCW := zin 1438 (by decide +kernel) rfl
theorem aM_308 : Cond.methodLink "NotationDeskModel" 308 mM_baseOf.1 ∈ zCW := zin 1442 (by decide +kernel) rfl
theorem aM_311 : Cond.methodLink "NotationDeskModel" 311 mM_leaveFrame.1 ∈ zCW := zin 1446 (by decide +kernel) rfl
theorem aM_314 : Cond.methodLink "NotationDeskModel" 314 mM_absent.1 ∈ zCW := zin 1450 (by decide +kernel) rfl
theorem aM_258 : Cond.methodLink "NotationDeskModel" 258 mM_goOnPacked.1 ∈ zCW := zin 1454 (by decide +kernel) rfl
theorem aM_264 : Cond.methodLink "NotationDeskModel" 264 mM_settle.1 ∈ zCW := zin 1458 (by decide +kernel) rfl
theorem aM_267 : Cond.methodLink "NotationDeskModel" 267 mM_write.1 ∈ zCW := zin 1462 (by decide +kernel) rfl
theorem aM_344 : Cond.methodLink "NotationDeskModel" 344 mM_isLeft.1 ∈ zCW := zin 1466 (by decide +kernel) rfl
theorem aM_347 : Cond.methodLink "NotationDeskModel" 347 mM_encode.1 ∈ zCW := zin 1470 (by decide +kernel) rfl
theorem aM_338 : Cond.methodLink "NotationDeskModel" 338 mM_make.1 ∈ zCW := zin 1474 (by decide +kernel) rfl
theorem aM_350 : Cond.methodLink "NotationDeskModel" 350 mM_packed.1 ∈ zCW := zin 1478 (by decide +kernel) rfl
theorem aM_353 : Cond.methodLink "NotationDeskModel" 353 mM_bring.1 ∈ zCW := zin 1482 (by decide +kernel) rfl
theorem aM_362 : Cond.methodLink "NotationDeskModel" 362 mM_bringCount.1 ∈ zCW := zin 1486 (by decide +kernel) rfl
theorem aM_356 : Cond.methodLink "NotationDeskModel" 356 mM_fill.1 ∈ zCW := zin 1490 (by decide +kernel) rfl
theorem aM_359 : Cond.methodLink "NotationDeskModel" 359 mM_bringOf.1 ∈ zCW := zin 1494 (by decide +kernel) rfl
theorem aM_365 : Cond.methodLink "NotationDeskModel" 365 mM_marks.1 ∈ zCW := zin 1498 (by decide +kernel) rfl
theorem aM_383 : Cond.methodLink "NotationDeskModel" 383 mM_fails.1 ∈ zCW := zin 1502 (by decide +kernel) rfl
theorem aM_386 : Cond.methodLink "NotationDeskModel" 386 mM_keep.1 ∈ zCW := zin 1506 (by decide +kernel) rfl
theorem aL_86 : Cond.methodLink "NotationDeskLaw" 86 mM_parts.1 ∈ zCW := zin 1510 (by decide +kernel) rfl
theorem aL_90 : Cond.methodLink "NotationDeskLaw" 90 mM_part.1 ∈ zCW := zin 1514 (by decide +kernel) rfl
theorem aL_93 : Cond.methodLink "NotationDeskLaw" 93 mM_octet.1 ∈ zCW := zin 1518 (by decide +kernel) rfl
theorem aL_97 : Cond.methodLink "NotationDeskLaw" 97 mM_operation.1 ∈ zCW := zin 1522 (by decide +kernel) rfl
theorem aL_101 : Cond.methodLink "NotationDeskLaw" 101 mM_serve.1 ∈ zCW := zin 1526 (by decide +kernel) rfl
theorem aM_389 : Cond.methodLink "NotationDeskModel" 389 mM_reply.1 ∈ zCW := zin 1530 (by decide +kernel) rfl
theorem cL_59 : Cond.constantLong "NotationDeskLaw" 59 (4294967295 : Int64) ∈ zCW := zin 1534 (by decide +kernel) rfl
theorem iD_init : Cond.instanceMethod mD_init.1 ∈ zCW := zin 25 (by decide +kernel) rfl
theorem wD_init : z_mw mD_init 0 := ⟨zin1 26 rfl rfl, gD, ⟨by decide, by decide, by decide +kernel⟩, by decide⟩
theorem i_obj : Cond.instanceMethod Lib.objectInit ∈ zCW := zin 28 (by decide +kernel) rfl
theorem w_obj : Cond.code Lib.objectInit ⟨#[0xb1]⟩ 1 none ∈ zCW := zin 29 (by rfl) rfl
theorem iC_init : Cond.instanceMethod mC_init.1 ∈ zCW := zin 33 (by decide +kernel) rfl
theorem wC_init : z_mw mC_init 1 := ⟨zin1 34 rfl rfl, gC, ⟨by decide, by decide, by decide +kernel⟩, by decide⟩
theorem iV_init : Cond.instanceMethod mV_init.1 ∈ zCW := zin 75 (by decide +kernel) rfl
theorem wV_init : z_mw mV_init 0 := ⟨zin1 76 rfl rfl, gV, ⟨by decide, by decide, by decide +kernel⟩, by decide⟩
theorem iO_init : Cond.instanceMethod mO_init.1 ∈ zCW := zin 123 (by decide +kernel) rfl
theorem wO_init : z_mw mO_init 2 := ⟨zin1 124 rfl rfl, gO, ⟨by decide, by decide, by decide +kernel⟩, by decide⟩
theorem iP_init : Cond.instanceMethod mP_init.1 ∈ zCW := zin 142 (by decide +kernel) rfl
theorem wP_init : z_mw mP_init 2 := ⟨zin1 143 rfl rfl, gP, ⟨by decide, by decide, by decide +kernel⟩, by decide⟩
theorem iS_init : Cond.instanceMethod mS_init.1 ∈ zCW := zin 161 (by decide +kernel) rfl
theorem wS_init : z_mw mS_init 2 := ⟨zin1 162 rfl rfl, gS, ⟨by decide, by decide, by decide +kernel⟩, by decide⟩
theorem iQ_init : Cond.instanceMethod mQ_init.1 ∈ zCW := zin 183 (by decide +kernel) rfl
theorem wQ_init : z_mw mQ_init 2 := ⟨zin1 184 rfl rfl, gQ, ⟨by decide, by decide, by decide +kernel⟩, by decide⟩
theorem iD_type : Cond.instanceMethod mD_type.1 ∈ zCW := zin 257 (by decide +kernel) rfl
theorem wD_type : z_mw mD_type 1 := ⟨zin2 19 rfl rfl, gD, ⟨by decide, by decide, by decide +kernel⟩, by decide⟩
theorem iD_forgetModule : Cond.instanceMethod mD_forgetModule.1 ∈ zCW := zin 262 (by decide +kernel) rfl
theorem wD_forgetModule : z_mw mD_forgetModule 0 := ⟨zin2 23 rfl rfl, gD, ⟨by decide, by decide, by decide +kernel⟩, by decide⟩
theorem iV_empty : Cond.instanceMethod mV_empty.1 ∈ zCW := zin 265 (by decide +kernel) rfl
theorem wV_empty : z_mw mV_empty 0 := ⟨zin2 27 rfl rfl, gV, ⟨by decide, by decide, by decide +kernel⟩, by decide⟩
theorem iD_clear : Cond.instanceMethod mD_clear.1 ∈ zCW := zin 269 (by decide +kernel) rfl
theorem wD_clear : z_mw mD_clear 0 := ⟨zin2 31 rfl rfl, gD, ⟨by decide, by decide, by decide +kernel⟩, by decide⟩
theorem iD_compile : Cond.instanceMethod mD_compile.1 ∈ zCW := zin 273 (by decide +kernel) rfl
theorem wD_compile : z_mw mD_compile 0 := ⟨zin2 35 rfl rfl, gD, ⟨by decide, by decide, by decide +kernel⟩, by decide⟩
theorem iC_translate : Cond.instanceMethod mC_translate.1 ∈ zCW := zin 277 (by decide +kernel) rfl
theorem wC_translate : z_mw mC_translate 1 := ⟨zin2 39 rfl rfl, gC, ⟨by decide, by decide, by decide +kernel⟩, by decide⟩
theorem iC_readDefinition : Cond.instanceMethod mC_readDefinition.1 ∈ zCW := zin 285 (by decide +kernel) rfl
theorem wC_readDefinition : z_mw mC_readDefinition 0 := ⟨zin2 46 rfl rfl, gC, ⟨by decide, by decide, by decide +kernel⟩, by decide⟩
theorem iC_nextCharacter : Cond.instanceMethod mC_nextCharacter.1 ∈ zCW := zin 289 (by decide +kernel) rfl
theorem wC_nextCharacter : z_mw mC_nextCharacter 0 := ⟨zin2 50 rfl rfl, gC, ⟨by decide, by decide, by decide +kernel⟩, by decide⟩
theorem tC_isName : Cond.static mC_isName.1 ∈ zCW := zin 292 (by decide +kernel) rfl
theorem wC_isName : z_mw mC_isName 1 := ⟨zin2 53 rfl rfl, gC, ⟨by decide, by decide, by decide +kernel⟩, by decide⟩
theorem iC_refuse : Cond.instanceMethod mC_refuse.1 ∈ zCW := zin 296 (by decide +kernel) rfl
theorem wC_refuse : z_mw mC_refuse 2 := ⟨zin2 57 rfl rfl, gC, ⟨by decide, by decide, by decide +kernel⟩, by decide⟩
theorem iC_pass : Cond.instanceMethod mC_pass.1 ∈ zCW := zin 300 (by decide +kernel) rfl
theorem wC_pass : z_mw mC_pass 1 := ⟨zin2 61 rfl rfl, gC, ⟨by decide, by decide, by decide +kernel⟩, by decide⟩
theorem iC_readType : Cond.instanceMethod mC_readType.1 ∈ zCW := zin 304 (by decide +kernel) rfl
theorem wC_readType : z_mw mC_readType 1 := ⟨zin2 65 rfl rfl, gC, ⟨by decide, by decide, by decide +kernel⟩, by decide⟩
theorem iC_readTag : Cond.instanceMethod mC_readTag.1 ∈ zCW := zin 308 (by decide +kernel) rfl
theorem wC_readTag : z_mw mC_readTag 0 := ⟨zin2 69 rfl rfl, gC, ⟨by decide, by decide, by decide +kernel⟩, by decide⟩
theorem tC_isDigit : Cond.static mC_isDigit.1 ∈ zCW := zin 311 (by decide +kernel) rfl
theorem wC_isDigit : z_mw mC_isDigit 1 := ⟨zin2 72 rfl rfl, gC, ⟨by decide, by decide, by decide +kernel⟩, by decide⟩
theorem iC_newType : Cond.instanceMethod mC_newType.1 ∈ zCW := zin 315 (by decide +kernel) rfl
theorem wC_newType : z_mw mC_newType 1 := ⟨zin2 76 rfl rfl, gC, ⟨by decide, by decide, by decide +kernel⟩, by decide⟩
theorem iT_init : Cond.instanceMethod mT_init.1 ∈ zCW := zin 319 (by decide +kernel) rfl
theorem wT_init : z_mw mT_init 0 := ⟨zin2 80 rfl rfl, gT, ⟨by decide, by decide, by decide +kernel⟩, by decide⟩
theorem iT_begin : Cond.instanceMethod mT_begin.1 ∈ zCW := zin 395 (by decide +kernel) rfl
theorem wT_begin : z_mw mT_begin 1 := ⟨zin2 157 rfl rfl, gT, ⟨by decide, by decide, by decide +kernel⟩, by decide⟩
theorem tT_tagsOf : Cond.static mT_tagsOf.1 ∈ zCW := zin 399 (by decide +kernel) rfl
theorem wT_tagsOf : z_mw mT_tagsOf 1 := ⟨zin2 160 rfl rfl, gT, ⟨by decide, by decide, by decide +kernel⟩, by decide⟩
theorem iT_beginTag : Cond.instanceMethod mT_beginTag.1 ∈ zCW := zin 403 (by decide +kernel) rfl
theorem wT_beginTag : z_mw mT_beginTag 2 := ⟨zin2 165 rfl rfl, gT, ⟨by decide, by decide, by decide +kernel⟩, by decide⟩
theorem iC_readUntagged : Cond.instanceMethod mC_readUntagged.1 ∈ zCW := zin 409 (by decide +kernel) rfl
theorem wC_readUntagged : z_mw mC_readUntagged 1 := ⟨zin2 170 rfl rfl, gC, ⟨by decide, by decide, by decide +kernel⟩, by decide⟩
theorem iC_readReference : Cond.instanceMethod mC_readReference.1 ∈ zCW := zin 413 (by decide +kernel) rfl
theorem wC_readReference : z_mw mC_readReference 2 := ⟨zin2 174 rfl rfl, gC, ⟨by decide, by decide, by decide +kernel⟩, by decide⟩
theorem tC_kindOf : Cond.static mC_kindOf.1 ∈ zCW := zin 416 (by decide +kernel) rfl
theorem wC_kindOf : z_mw mC_kindOf 1 := ⟨zin2 177 rfl rfl, gC, ⟨by decide, by decide, by decide +kernel⟩, by decide⟩
theorem iC_readMembers : Cond.instanceMethod mC_readMembers.1 ∈ zCW := zin 420 (by decide +kernel) rfl
theorem wC_readMembers : z_mw mC_readMembers 2 := ⟨zin2 181 rfl rfl, gC, ⟨by decide, by decide, by decide +kernel⟩, by decide⟩
theorem iC_readMember : Cond.instanceMethod mC_readMember.1 ∈ zCW := zin 424 (by decide +kernel) rfl
theorem wC_readMember : z_mw mC_readMember 2 := ⟨zin2 185 rfl rfl, gC, ⟨by decide, by decide, by decide +kernel⟩, by decide⟩
theorem iC_newMember : Cond.instanceMethod mC_newMember.1 ∈ zCW := zin 428 (by decide +kernel) rfl
theorem wC_newMember : z_mw mC_newMember 1 := ⟨zin2 189 rfl rfl, gC, ⟨by decide, by decide, by decide +kernel⟩, by decide⟩
theorem iK_init : Cond.instanceMethod mK_init.1 ∈ zCW := zin 432 (by decide +kernel) rfl
theorem wK_init : z_mw mK_init 0 := ⟨zin2 193 rfl rfl, gK, ⟨by decide, by decide, by decide +kernel⟩, by decide⟩
theorem iK_begin : Cond.instanceMethod mK_begin.1 ∈ zCW := zin 480 (by decide +kernel) rfl
theorem wK_begin : z_mw mK_begin 1 := ⟨zin3 2 rfl rfl, gK, ⟨by decide, by decide, by decide +kernel⟩, by decide⟩
theorem iT_addMember : Cond.instanceMethod mT_addMember.1 ∈ zCW := zin 484 (by decide +kernel) rfl
theorem wT_addMember : z_mw mT_addMember 1 := ⟨zin3 6 rfl rfl, gT, ⟨by decide, by decide, by decide +kernel⟩, by decide⟩
theorem iT_untagged : Cond.instanceMethod mT_untagged.1 ∈ zCW := zin 491 (by decide +kernel) rfl
theorem wT_untagged : z_mw mT_untagged 0 := ⟨zin3 13 rfl rfl, gT, ⟨by decide, by decide, by decide +kernel⟩, by decide⟩
theorem iC_readMode : Cond.instanceMethod mC_readMode.1 ∈ zCW := zin 496 (by decide +kernel) rfl
theorem wC_readMode : z_mw mC_readMode 2 := ⟨zin3 17 rfl rfl, gC, ⟨by decide, by decide, by decide +kernel⟩, by decide⟩
theorem iC_readNumber : Cond.instanceMethod mC_readNumber.1 ∈ zCW := zin 500 (by decide +kernel) rfl
theorem wC_readNumber : z_mw mC_readNumber 0 := ⟨zin3 21 rfl rfl, gC, ⟨by decide, by decide, by decide +kernel⟩, by decide⟩
theorem tC_isDefault : Cond.static mC_isDefault.1 ∈ zCW := zin 503 (by decide +kernel) rfl
theorem wC_isDefault : z_mw mC_isDefault 2 := ⟨zin3 24 rfl rfl, gC, ⟨by decide, by decide, by decide +kernel⟩, by decide⟩
theorem iT_allows : Cond.instanceMethod mT_allows.1 ∈ zCW := zin 506 (by decide +kernel) rfl
theorem wT_allows : z_mw mT_allows 1 := ⟨zin3 28 rfl rfl, gT, ⟨by decide, by decide, by decide +kernel⟩, by decide⟩
theorem iC_closeMembers : Cond.instanceMethod mC_closeMembers.1 ∈ zCW := zin 511 (by decide +kernel) rfl
theorem wC_closeMembers : z_mw mC_closeMembers 1 := ⟨zin3 32 rfl rfl, gC, ⟨by decide, by decide, by decide +kernel⟩, by decide⟩
theorem tC_alternativesClash : Cond.static mC_alternativesClash.1 ∈ zCW := zin 514 (by decide +kernel) rfl
theorem wC_alternativesClash : z_mw mC_alternativesClash 1 := ⟨zin3 35 rfl rfl, gC, ⟨by decide, by decide, by decide +kernel⟩, by decide⟩
theorem iK_tags : Cond.instanceMethod mK_tags.1 ∈ zCW := zin 517 (by decide +kernel) rfl
theorem wK_tags : z_mw mK_tags 0 := ⟨zin3 39 rfl rfl, gK, ⟨by decide, by decide, by decide +kernel⟩, by decide⟩
theorem tC_componentsClash : Cond.static mC_componentsClash.1 ∈ zCW := zin 521 (by decide +kernel) rfl
theorem wC_componentsClash : z_mw mC_componentsClash 1 := ⟨zin3 42 rfl rfl, gC, ⟨by decide, by decide, by decide +kernel⟩, by decide⟩
theorem tC_gatherAlternatives : Cond.static mC_gatherAlternatives.1 ∈ zCW := zin 524 (by decide +kernel) rfl
theorem wC_gatherAlternatives : z_mw mC_gatherAlternatives 1 := ⟨zin3 45 rfl rfl, gC, ⟨by decide, by decide, by decide +kernel⟩, by decide⟩
theorem iK_leastTag : Cond.instanceMethod mK_leastTag.1 ∈ zCW := zin 527 (by decide +kernel) rfl
theorem wK_leastTag : z_mw mK_leastTag 0 := ⟨zin3 49 rfl rfl, gK, ⟨by decide, by decide, by decide +kernel⟩, by decide⟩
theorem iC_readBounds : Cond.instanceMethod mC_readBounds.1 ∈ zCW := zin 533 (by decide +kernel) rfl
theorem wC_readBounds : z_mw mC_readBounds 1 := ⟨zin3 54 rfl rfl, gC, ⟨by decide, by decide, by decide +kernel⟩, by decide⟩
theorem tC_areBounds : Cond.static mC_areBounds.1 ∈ zCW := zin 536 (by decide +kernel) rfl
theorem wC_areBounds : z_mw mC_areBounds 1 := ⟨zin3 57 rfl rfl, gC, ⟨by decide, by decide, by decide +kernel⟩, by decide⟩
theorem iC_readItems : Cond.instanceMethod mC_readItems.1 ∈ zCW := zin 541 (by decide +kernel) rfl
theorem wC_readItems : z_mw mC_readItems 2 := ⟨zin3 62 rfl rfl, gC, ⟨by decide, by decide, by decide +kernel⟩, by decide⟩
theorem tC_setHeights : Cond.static mC_setHeights.1 ∈ zCW := zin 544 (by decide +kernel) rfl
theorem wC_setHeights : z_mw mC_setHeights 3 := ⟨zin3 65 rfl rfl, gC, ⟨by decide, by decide, by decide +kernel⟩, by decide⟩
theorem iD_put : Cond.instanceMethod mD_put.1 ∈ zCW := zin 547 (by decide +kernel) rfl
theorem wD_put : z_mw mD_put 2 := ⟨zin3 69 rfl rfl, gD, ⟨by decide, by decide, by decide +kernel⟩, by decide⟩
theorem iD_wipe : Cond.instanceMethod mD_wipe.1 ∈ zCW := zin 551 (by decide +kernel) rfl
theorem wD_wipe : z_mw mD_wipe 0 := ⟨zin3 73 rfl rfl, gD, ⟨by decide, by decide, by decide +kernel⟩, by decide⟩
theorem iD_parts : Cond.instanceMethod mD_parts.1 ∈ zCW := zin 555 (by decide +kernel) rfl
theorem wD_parts : z_mw mD_parts 0 := ⟨zin3 77 rfl rfl, gD, ⟨by decide, by decide, by decide +kernel⟩, by decide⟩
theorem tL_at : Cond.static mL_at.1 ∈ zCW := zin 559 (by decide +kernel) rfl
theorem iD_at : Cond.instanceMethod mD_at.1 ∈ zCW := zin 563 (by decide +kernel) rfl
theorem wD_at : z_mw mD_at 1 := ⟨zin3 85 rfl rfl, gD, ⟨by decide, by decide, by decide +kernel⟩, by decide⟩
theorem tL_transcode : Cond.static mL_transcode.1 ∈ zCW := zin 637 (by decide +kernel) rfl
theorem iD_transcode : Cond.instanceMethod mD_transcode.1 ∈ zCW := zin 644 (by decide +kernel) rfl
theorem wD_transcode : z_mw mD_transcode 3 := ⟨zin3 166 rfl rfl, gD, ⟨by decide, by decide, by decide +kernel⟩, by decide⟩
theorem tD_areRules : Cond.static mD_areRules.1 ∈ zCW := zin 648 (by decide +kernel) rfl
theorem wD_areRules : z_mw mD_areRules 2 := ⟨zin3 169 rfl rfl, gD, ⟨by decide, by decide, by decide +kernel⟩, by decide⟩
theorem iC_typeNamed : Cond.instanceMethod mC_typeNamed.1 ∈ zCW := zin 683 (by decide +kernel) rfl
theorem wC_typeNamed : z_mw mC_typeNamed 1 := ⟨zin3 205 rfl rfl, gC, ⟨by decide, by decide, by decide +kernel⟩, by decide⟩
theorem iD_readBuffer : Cond.instanceMethod mD_readBuffer.1 ∈ zCW := zin 704 (by decide +kernel) rfl
theorem wD_readBuffer : z_mw mD_readBuffer 3 := ⟨zin3 225 rfl rfl, gD, ⟨by decide, by decide, by decide +kernel⟩, by decide⟩
theorem iP_readAll : Cond.instanceMethod mP_readAll.1 ∈ zCW := zin 707 (by decide +kernel) rfl
theorem wP_readAll : z_mw mP_readAll 3 := ⟨zin3 229 rfl rfl, gP, ⟨by decide, by decide, by decide +kernel⟩, by decide⟩
theorem iP_readValue : Cond.instanceMethod mP_readValue.1 ∈ zCW := zin 713 (by decide +kernel) rfl
theorem wP_readValue : z_mw mP_readValue 4 := ⟨zin3 234 rfl rfl, gP, ⟨by decide, by decide, by decide +kernel⟩, by decide⟩
theorem iV_addPart : Cond.instanceMethod mV_addPart.1 ∈ zCW := zin 716 (by decide +kernel) rfl
theorem wV_addPart : z_mw mV_addPart 3 := ⟨zin3 238 rfl rfl, gV, ⟨by decide, by decide, by decide +kernel⟩, by decide⟩
theorem iP_takeBits : Cond.instanceMethod mP_takeBits.1 ∈ zCW := zin 721 (by decide +kernel) rfl
theorem wP_takeBits : z_mw mP_takeBits 1 := ⟨zin4 2 rfl rfl, gP, ⟨by decide, by decide, by decide +kernel⟩, by decide⟩
theorem iP_readBounded : Cond.instanceMethod mP_readBounded.1 ∈ zCW := zin 725 (by decide +kernel) rfl
theorem wP_readBounded : z_mw mP_readBounded 2 := ⟨zin4 6 rfl rfl, gP, ⟨by decide, by decide, by decide +kernel⟩, by decide⟩
theorem iP_takeNumber : Cond.instanceMethod mP_takeNumber.1 ∈ zCW := zin 729 (by decide +kernel) rfl
theorem wP_takeNumber : z_mw mP_takeNumber 1 := ⟨zin4 10 rfl rfl, gP, ⟨by decide, by decide, by decide +kernel⟩, by decide⟩
theorem iP_align : Cond.instanceMethod mP_align.1 ∈ zCW := zin 733 (by decide +kernel) rfl
theorem wP_align : z_mw mP_align 0 := ⟨zin4 14 rfl rfl, gP, ⟨by decide, by decide, by decide +kernel⟩, by decide⟩
theorem tI_bitsOfNumbersTo : Cond.static mI_bitsOfNumbersTo.1 ∈ zCW := zin 736 (by decide +kernel) rfl
theorem wI_bitsOfNumbersTo : z_mw mI_bitsOfNumbersTo 1 := ⟨zin4 17 rfl rfl, gI, ⟨by decide, by decide, by decide +kernel⟩, by decide⟩
theorem iP_readUnbounded : Cond.instanceMethod mP_readUnbounded.1 ∈ zCW := zin 740 (by decide +kernel) rfl
theorem wP_readUnbounded : z_mw mP_readUnbounded 1 := ⟨zin4 21 rfl rfl, gP, ⟨by decide, by decide, by decide +kernel⟩, by decide⟩
theorem iP_takeByte : Cond.instanceMethod mP_takeByte.1 ∈ zCW := zin 744 (by decide +kernel) rfl
theorem wP_takeByte : z_mw mP_takeByte 0 := ⟨zin4 25 rfl rfl, gP, ⟨by decide, by decide, by decide +kernel⟩, by decide⟩
theorem tI_areBytesOfOne : Cond.static mI_areBytesOfOne.1 ∈ zCW := zin 747 (by decide +kernel) rfl
theorem wI_areBytesOfOne : z_mw mI_areBytesOfOne 3 := ⟨zin4 28 rfl rfl, gI, ⟨by decide, by decide, by decide +kernel⟩, by decide⟩
theorem tI_fromBytes : Cond.static mI_fromBytes.1 ∈ zCW := zin 750 (by decide +kernel) rfl
theorem wI_fromBytes : z_mw mI_fromBytes 3 := ⟨zin4 31 rfl rfl, gI, ⟨by decide, by decide, by decide +kernel⟩, by decide⟩
theorem iP_readOctets : Cond.instanceMethod mP_readOctets.1 ∈ zCW := zin 754 (by decide +kernel) rfl
theorem wP_readOctets : z_mw mP_readOctets 2 := ⟨zin4 35 rfl rfl, gP, ⟨by decide, by decide, by decide +kernel⟩, by decide⟩
theorem iP_takeCount : Cond.instanceMethod mP_takeCount.1 ∈ zCW := zin 758 (by decide +kernel) rfl
theorem wP_takeCount : z_mw mP_takeCount 1 := ⟨zin4 39 rfl rfl, gP, ⟨by decide, by decide, by decide +kernel⟩, by decide⟩
theorem iT_isAlignedOctets : Cond.instanceMethod mT_isAlignedOctets.1 ∈ zCW := zin 761 (by decide +kernel) rfl
theorem wT_isAlignedOctets : z_mw mT_isAlignedOctets 0 := ⟨zin4 43 rfl rfl, gT, ⟨by decide, by decide, by decide +kernel⟩, by decide⟩
theorem iV_addOctet : Cond.instanceMethod mV_addOctet.1 ∈ zCW := zin 765 (by decide +kernel) rfl
theorem wV_addOctet : z_mw mV_addOctet 2 := ⟨zin4 47 rfl rfl, gV, ⟨by decide, by decide, by decide +kernel⟩, by decide⟩
theorem iP_readComponents : Cond.instanceMethod mP_readComponents.1 ∈ zCW := zin 770 (by decide +kernel) rfl
theorem wP_readComponents : z_mw mP_readComponents 3 := ⟨zin4 51 rfl rfl, gP, ⟨by decide, by decide, by decide +kernel⟩, by decide⟩
theorem iP_takePresence : Cond.instanceMethod mP_takePresence.1 ∈ zCW := zin 774 (by decide +kernel) rfl
theorem wP_takePresence : z_mw mP_takePresence 1 := ⟨zin4 55 rfl rfl, gP, ⟨by decide, by decide, by decide +kernel⟩, by decide⟩
theorem iV_leaveOutComponent : Cond.instanceMethod mV_leaveOutComponent.1 ∈ zCW := zin 777 (by decide +kernel) rfl
theorem wV_leaveOutComponent : z_mw mV_leaveOutComponent 2 := ⟨zin4 59 rfl rfl, gV, ⟨by decide, by decide, by decide +kernel⟩, by decide⟩
theorem iV_takeComponent : Cond.instanceMethod mV_takeComponent.1 ∈ zCW := zin 783 (by decide +kernel) rfl
theorem wV_takeComponent : z_mw mV_takeComponent 4 := ⟨zin4 65 rfl rfl, gV, ⟨by decide, by decide, by decide +kernel⟩, by decide⟩
theorem iP_readItems : Cond.instanceMethod mP_readItems.1 ∈ zCW := zin 788 (by decide +kernel) rfl
theorem wP_readItems : z_mw mP_readItems 3 := ⟨zin4 69 rfl rfl, gP, ⟨by decide, by decide, by decide +kernel⟩, by decide⟩
theorem iP_readChoice : Cond.instanceMethod mP_readChoice.1 ∈ zCW := zin 792 (by decide +kernel) rfl
theorem wP_readChoice : z_mw mP_readChoice 3 := ⟨zin4 73 rfl rfl, gP, ⟨by decide, by decide, by decide +kernel⟩, by decide⟩
theorem iT_memberRanked : Cond.instanceMethod mT_memberRanked.1 ∈ zCW := zin 795 (by decide +kernel) rfl
theorem wT_memberRanked : z_mw mT_memberRanked 1 := ⟨zin4 77 rfl rfl, gT, ⟨by decide, by decide, by decide +kernel⟩, by decide⟩
theorem iO_readAll : Cond.instanceMethod mO_readAll.1 ∈ zCW := zin 799 (by decide +kernel) rfl
theorem wO_readAll : z_mw mO_readAll 4 := ⟨zin4 81 rfl rfl, gO, ⟨by decide, by decide, by decide +kernel⟩, by decide⟩
theorem iO_readElement : Cond.instanceMethod mO_readElement.1 ∈ zCW := zin 804 (by decide +kernel) rfl
theorem wO_readElement : z_mw mO_readElement 6 := ⟨zin4 85 rfl rfl, gO, ⟨by decide, by decide, by decide +kernel⟩, by decide⟩
theorem iO_readTagged : Cond.instanceMethod mO_readTagged.1 ∈ zCW := zin 808 (by decide +kernel) rfl
theorem wO_readTagged : z_mw mO_readTagged 6 := ⟨zin4 89 rfl rfl, gO, ⟨by decide, by decide, by decide +kernel⟩, by decide⟩
theorem iT_tagByte : Cond.instanceMethod mT_tagByte.1 ∈ zCW := zin 811 (by decide +kernel) rfl
theorem wT_tagByte : z_mw mT_tagByte 1 := ⟨zin4 93 rfl rfl, gT, ⟨by decide, by decide, by decide +kernel⟩, by decide⟩
theorem iO_readHeader : Cond.instanceMethod mO_readHeader.1 ∈ zCW := zin 816 (by decide +kernel) rfl
theorem wO_readHeader : z_mw mO_readHeader 3 := ⟨zin4 97 rfl rfl, gO, ⟨by decide, by decide, by decide +kernel⟩, by decide⟩
theorem iO_readLongLength : Cond.instanceMethod mO_readLongLength.1 ∈ zCW := zin 820 (by decide +kernel) rfl
theorem wO_readLongLength : z_mw mO_readLongLength 2 := ⟨zin4 101 rfl rfl, gO, ⟨by decide, by decide, by decide +kernel⟩, by decide⟩
theorem iO_readContentEnd : Cond.instanceMethod mO_readContentEnd.1 ∈ zCW := zin 824 (by decide +kernel) rfl
theorem wO_readContentEnd : z_mw mO_readContentEnd 2 := ⟨zin4 105 rfl rfl, gO, ⟨by decide, by decide, by decide +kernel⟩, by decide⟩
theorem iO_readChoice : Cond.instanceMethod mO_readChoice.1 ∈ zCW := zin 828 (by decide +kernel) rfl
theorem wO_readChoice : z_mw mO_readChoice 5 := ⟨zin4 109 rfl rfl, gO, ⟨by decide, by decide, by decide +kernel⟩, by decide⟩
theorem iO_nextTagBit : Cond.instanceMethod mO_nextTagBit.1 ∈ zCW := zin 832 (by decide +kernel) rfl
theorem wO_nextTagBit : z_mw mO_nextTagBit 1 := ⟨zin4 113 rfl rfl, gO, ⟨by decide, by decide, by decide +kernel⟩, by decide⟩
theorem tO_tagBitOf : Cond.static mO_tagBitOf.1 ∈ zCW := zin 835 (by decide +kernel) rfl
theorem wO_tagBitOf : z_mw mO_tagBitOf 1 := ⟨zin4 116 rfl rfl, gO, ⟨by decide, by decide, by decide +kernel⟩, by decide⟩
theorem iT_memberWithTag : Cond.instanceMethod mT_memberWithTag.1 ∈ zCW := zin 839 (by decide +kernel) rfl
theorem wT_memberWithTag : z_mw mT_memberWithTag 1 := ⟨zin4 121 rfl rfl, gT, ⟨by decide, by decide, by decide +kernel⟩, by decide⟩
theorem iO_readPlain : Cond.instanceMethod mO_readPlain.1 ∈ zCW := zin 846 (by decide +kernel) rfl
theorem wO_readPlain : z_mw mO_readPlain 3 := ⟨zin4 127 rfl rfl, gO, ⟨by decide, by decide, by decide +kernel⟩, by decide⟩
theorem iO_readBoolean : Cond.instanceMethod mO_readBoolean.1 ∈ zCW := zin 850 (by decide +kernel) rfl
theorem wO_readBoolean : z_mw mO_readBoolean 1 := ⟨zin4 131 rfl rfl, gO, ⟨by decide, by decide, by decide +kernel⟩, by decide⟩
theorem iO_readInteger : Cond.instanceMethod mO_readInteger.1 ∈ zCW := zin 854 (by decide +kernel) rfl
theorem wO_readInteger : z_mw mO_readInteger 3 := ⟨zin4 135 rfl rfl, gO, ⟨by decide, by decide, by decide +kernel⟩, by decide⟩
theorem iO_readOctets : Cond.instanceMethod mO_readOctets.1 ∈ zCW := zin 861 (by decide +kernel) rfl
theorem wO_readOctets : z_mw mO_readOctets 2 := ⟨zin4 142 rfl rfl, gO, ⟨by decide, by decide, by decide +kernel⟩, by decide⟩
theorem iO_readItems : Cond.instanceMethod mO_readItems.1 ∈ zCW := zin 866 (by decide +kernel) rfl
theorem wO_readItems : z_mw mO_readItems 4 := ⟨zin4 147 rfl rfl, gO, ⟨by decide, by decide, by decide +kernel⟩, by decide⟩
theorem iO_readComponents : Cond.instanceMethod mO_readComponents.1 ∈ zCW := zin 870 (by decide +kernel) rfl
theorem wO_readComponents : z_mw mO_readComponents 4 := ⟨zin4 151 rfl rfl, gO, ⟨by decide, by decide, by decide +kernel⟩, by decide⟩
theorem iD_writeFound : Cond.instanceMethod mD_writeFound.1 ∈ zCW := zin 877 (by decide +kernel) rfl
theorem wD_writeFound : z_mw mD_writeFound 3 := ⟨zin4 158 rfl rfl, gD, ⟨by decide, by decide, by decide +kernel⟩, by decide⟩
theorem iQ_writeAll : Cond.instanceMethod mQ_writeAll.1 ∈ zCW := zin 880 (by decide +kernel) rfl
theorem wQ_writeAll : z_mw mQ_writeAll 2 := ⟨zin4 162 rfl rfl, gQ, ⟨by decide, by decide, by decide +kernel⟩, by decide⟩
theorem iQ_writeValue : Cond.instanceMethod mQ_writeValue.1 ∈ zCW := zin 885 (by decide +kernel) rfl
theorem wQ_writeValue : z_mw mQ_writeValue 2 := ⟨zin4 166 rfl rfl, gQ, ⟨by decide, by decide, by decide +kernel⟩, by decide⟩
theorem iQ_appendBits : Cond.instanceMethod mQ_appendBits.1 ∈ zCW := zin 889 (by decide +kernel) rfl
theorem wQ_appendBits : z_mw mQ_appendBits 2 := ⟨zin4 170 rfl rfl, gQ, ⟨by decide, by decide, by decide +kernel⟩, by decide⟩
theorem iQ_writeInteger : Cond.instanceMethod mQ_writeInteger.1 ∈ zCW := zin 893 (by decide +kernel) rfl
theorem wQ_writeInteger : z_mw mQ_writeInteger 2 := ⟨zin4 174 rfl rfl, gQ, ⟨by decide, by decide, by decide +kernel⟩, by decide⟩
theorem iQ_appendNumber : Cond.instanceMethod mQ_appendNumber.1 ∈ zCW := zin 897 (by decide +kernel) rfl
theorem wQ_appendNumber : z_mw mQ_appendNumber 2 := ⟨zin4 178 rfl rfl, gQ, ⟨by decide, by decide, by decide +kernel⟩, by decide⟩
theorem iQ_align : Cond.instanceMethod mQ_align.1 ∈ zCW := zin 901 (by decide +kernel) rfl
theorem wQ_align : z_mw mQ_align 0 := ⟨zin4 182 rfl rfl, gQ, ⟨by decide, by decide, by decide +kernel⟩, by decide⟩
theorem tI_byteCount : Cond.static mI_byteCount.1 ∈ zCW := zin 905 (by decide +kernel) rfl
theorem wI_byteCount : z_mw mI_byteCount 1 := ⟨zin4 186 rfl rfl, gI, ⟨by decide, by decide, by decide +kernel⟩, by decide⟩
theorem iQ_writeOctets : Cond.instanceMethod mQ_writeOctets.1 ∈ zCW := zin 909 (by decide +kernel) rfl
theorem wQ_writeOctets : z_mw mQ_writeOctets 2 := ⟨zin4 190 rfl rfl, gQ, ⟨by decide, by decide, by decide +kernel⟩, by decide⟩
theorem iQ_appendCount : Cond.instanceMethod mQ_appendCount.1 ∈ zCW := zin 913 (by decide +kernel) rfl
theorem wQ_appendCount : z_mw mQ_appendCount 2 := ⟨zin4 194 rfl rfl, gQ, ⟨by decide, by decide, by decide +kernel⟩, by decide⟩
theorem iV_octetAt : Cond.instanceMethod mV_octetAt.1 ∈ zCW := zin 917 (by decide +kernel) rfl
theorem wV_octetAt : z_mw mV_octetAt 2 := ⟨zin4 199 rfl rfl, gV, ⟨by decide, by decide, by decide +kernel⟩, by decide⟩
theorem iQ_writeComponents : Cond.instanceMethod mQ_writeComponents.1 ∈ zCW := zin 922 (by decide +kernel) rfl
theorem wQ_writeComponents : z_mw mQ_writeComponents 3 := ⟨zin4 203 rfl rfl, gQ, ⟨by decide, by decide, by decide +kernel⟩, by decide⟩
theorem iV_shows : Cond.instanceMethod mV_shows.1 ∈ zCW := zin 925 (by decide +kernel) rfl
theorem wV_shows : z_mw mV_shows 2 := ⟨zin4 207 rfl rfl, gV, ⟨by decide, by decide, by decide +kernel⟩, by decide⟩
theorem iQ_writeItems : Cond.instanceMethod mQ_writeItems.1 ∈ zCW := zin 930 (by decide +kernel) rfl
theorem wQ_writeItems : z_mw mQ_writeItems 3 := ⟨zin4 211 rfl rfl, gQ, ⟨by decide, by decide, by decide +kernel⟩, by decide⟩
theorem iQ_writeChoice : Cond.instanceMethod mQ_writeChoice.1 ∈ zCW := zin 934 (by decide +kernel) rfl
theorem wQ_writeChoice : z_mw mQ_writeChoice 3 := ⟨zin4 215 rfl rfl, gQ, ⟨by decide, by decide, by decide +kernel⟩, by decide⟩
theorem iT_memberAt : Cond.instanceMethod mT_memberAt.1 ∈ zCW := zin 937 (by decide +kernel) rfl
theorem wT_memberAt : z_mw mT_memberAt 1 := ⟨zin4 219 rfl rfl, gT, ⟨by decide, by decide, by decide +kernel⟩, by decide⟩
theorem iS_writeAll : Cond.instanceMethod mS_writeAll.1 ∈ zCW := zin 941 (by decide +kernel) rfl
theorem wS_writeAll : z_mw mS_writeAll 2 := ⟨zin4 223 rfl rfl, gS, ⟨by decide, by decide, by decide +kernel⟩, by decide⟩
theorem iS_writeElement : Cond.instanceMethod mS_writeElement.1 ∈ zCW := zin 946 (by decide +kernel) rfl
theorem wS_writeElement : z_mw mS_writeElement 3 := ⟨zin4 227 rfl rfl, gS, ⟨by decide, by decide, by decide +kernel⟩, by decide⟩
theorem iS_writeChoice : Cond.instanceMethod mS_writeChoice.1 ∈ zCW := zin 950 (by decide +kernel) rfl
theorem wS_writeChoice : z_mw mS_writeChoice 2 := ⟨zin4 231 rfl rfl, gS, ⟨by decide, by decide, by decide +kernel⟩, by decide⟩
theorem iS_beginElement : Cond.instanceMethod mS_beginElement.1 ∈ zCW := zin 956 (by decide +kernel) rfl
theorem wS_beginElement : z_mw mS_beginElement 1 := ⟨zin4 237 rfl rfl, gS, ⟨by decide, by decide, by decide +kernel⟩, by decide⟩
theorem iS_append : Cond.instanceMethod mS_append.1 ∈ zCW := zin 960 (by decide +kernel) rfl
theorem wS_append : z_mw mS_append 1 := ⟨zin5 1 rfl rfl, gS, ⟨by decide, by decide, by decide +kernel⟩, by decide⟩
theorem iS_writeContent : Cond.instanceMethod mS_writeContent.1 ∈ zCW := zin 964 (by decide +kernel) rfl
theorem wS_writeContent : z_mw mS_writeContent 2 := ⟨zin5 5 rfl rfl, gS, ⟨by decide, by decide, by decide +kernel⟩, by decide⟩
theorem iS_writeInteger : Cond.instanceMethod mS_writeInteger.1 ∈ zCW := zin 968 (by decide +kernel) rfl
theorem wS_writeInteger : z_mw mS_writeInteger 1 := ⟨zin5 9 rfl rfl, gS, ⟨by decide, by decide, by decide +kernel⟩, by decide⟩
theorem iS_writeComponents : Cond.instanceMethod mS_writeComponents.1 ∈ zCW := zin 974 (by decide +kernel) rfl
theorem wS_writeComponents : z_mw mS_writeComponents 3 := ⟨zin5 15 rfl rfl, gS, ⟨by decide, by decide, by decide +kernel⟩, by decide⟩
theorem iS_endElement : Cond.instanceMethod mS_endElement.1 ∈ zCW := zin 979 (by decide +kernel) rfl
theorem wS_endElement : z_mw mS_endElement 1 := ⟨zin5 20 rfl rfl, gS, ⟨by decide, by decide, by decide +kernel⟩, by decide⟩
theorem iV_copyOf : Cond.instanceMethod mV_copyOf.1 ∈ zCW := zin 998 (by decide +kernel) rfl
theorem wV_copyOf : z_mw mV_copyOf 1 := ⟨zin5 40 rfl rfl, gV, ⟨by decide, by decide, by decide +kernel⟩, by decide⟩
theorem iD_keepWritten : Cond.instanceMethod mD_keepWritten.1 ∈ zCW := zin 1006 (by decide +kernel) rfl
theorem wD_keepWritten : z_mw mD_keepWritten 1 := ⟨zin5 47 rfl rfl, gD, ⟨by decide, by decide, by decide +kernel⟩, by decide⟩
theorem tL_part : Cond.static mL_part.1 ∈ zCW := zin 1010 (by decide +kernel) rfl
theorem iD_part : Cond.instanceMethod mD_part.1 ∈ zCW := zin 1013 (by decide +kernel) rfl
theorem wD_part : z_mw mD_part 2 := ⟨zin5 55 rfl rfl, gD, ⟨by decide, by decide, by decide +kernel⟩, by decide⟩
theorem tL_octet : Cond.static mL_octet.1 ∈ zCW := zin 1019 (by decide +kernel) rfl
theorem iD_octet : Cond.instanceMethod mD_octet.1 ∈ zCW := zin 1022 (by decide +kernel) rfl
theorem wD_octet : z_mw mD_octet 2 := ⟨zin5 64 rfl rfl, gD, ⟨by decide, by decide, by decide +kernel⟩, by decide⟩
theorem tL_operation : Cond.static mL_operation.1 ∈ zCW := zin 1027 (by decide +kernel) rfl
theorem iD_operation : Cond.instanceMethod mD_operation.1 ∈ zCW := zin 1030 (by decide +kernel) rfl
theorem wD_operation : z_mw mD_operation 4 := ⟨zin5 72 rfl rfl, gD, ⟨by decide, by decide, by decide +kernel⟩, by decide⟩
theorem tL_serve : Cond.static mL_serve.1 ∈ zCW := zin 1035 (by decide +kernel) rfl
theorem iD_serve : Cond.instanceMethod mD_serve.1 ∈ zCW := zin 1038 (by decide +kernel) rfl
theorem wD_serve : z_mw mD_serve 0 := ⟨zin5 80 rfl rfl, gD, ⟨by decide, by decide, by decide +kernel⟩, by decide⟩
theorem iD_refuseMessage : Cond.instanceMethod mD_refuseMessage.1 ∈ zCW := zin 1043 (by decide +kernel) rfl
theorem wD_refuseMessage : z_mw mD_refuseMessage 2 := ⟨zin5 84 rfl rfl, gD, ⟨by decide, by decide, by decide +kernel⟩, by decide⟩
theorem iD_wasServed : Cond.instanceMethod mD_wasServed.1 ∈ zCW := zin 1047 (by decide +kernel) rfl
theorem wD_wasServed : z_mw mD_wasServed 1 := ⟨zin5 88 rfl rfl, gD, ⟨by decide, by decide, by decide +kernel⟩, by decide⟩
theorem iD_markServed : Cond.instanceMethod mD_markServed.1 ∈ zCW := zin 1051 (by decide +kernel) rfl
theorem wD_markServed : z_mw mD_markServed 1 := ⟨zin5 92 rfl rfl, gD, ⟨by decide, by decide, by decide +kernel⟩, by decide⟩
theorem iD_sayNoValue : Cond.instanceMethod mD_sayNoValue.1 ∈ zCW := zin 1055 (by decide +kernel) rfl
theorem wD_sayNoValue : z_mw mD_sayNoValue 1 := ⟨zin5 96 rfl rfl, gD, ⟨by decide, by decide, by decide +kernel⟩, by decide⟩
theorem iM_init : Cond.instanceMethod mM_init.1 ∈ zCW := zin 1060 (by decide +kernel) rfl
theorem wM_init : z_mw mM_init 0 := ⟨zin5 101 rfl rfl, gM, ⟨by decide, by decide, by decide +kernel⟩, by decide⟩
theorem iM_leave : Cond.instanceMethod mM_leave.1 ∈ zCW := zin 1065 (by decide +kernel) rfl
theorem wM_leave : z_mw mM_leave 0 := ⟨zin5 106 rfl rfl, gM, ⟨by decide, by decide, by decide +kernel⟩, by decide⟩
theorem iM_thrown : Cond.instanceMethod mM_thrown.1 ∈ zCW := zin 1247 (by decide +kernel) rfl
theorem wM_thrown : z_mw mM_thrown 0 := ⟨zin6 49 rfl rfl, gM, ⟨by decide, by decide, by decide +kernel⟩, by decide⟩
theorem iM_type : Cond.instanceMethod mM_type.1 ∈ zCW := zin 1251 (by decide +kernel) rfl
theorem wM_type : z_mw mM_type 1 := ⟨zin6 53 rfl rfl, gM, ⟨by decide, by decide, by decide +kernel⟩, by decide⟩
theorem iM_clear : Cond.instanceMethod mM_clear.1 ∈ zCW := zin 1255 (by decide +kernel) rfl
theorem wM_clear : z_mw mM_clear 0 := ⟨zin6 57 rfl rfl, gM, ⟨by decide, by decide, by decide +kernel⟩, by decide⟩
theorem iM_compile : Cond.instanceMethod mM_compile.1 ∈ zCW := zin 1259 (by decide +kernel) rfl
theorem wM_compile : z_mw mM_compile 0 := ⟨zin6 61 rfl rfl, gM, ⟨by decide, by decide, by decide +kernel⟩, by decide⟩
theorem iM_definition : Cond.instanceMethod mM_definition.1 ∈ zCW := zin 1264 (by decide +kernel) rfl
theorem wM_definition : z_mw mM_definition 0 := ⟨zin6 65 rfl rfl, gM, ⟨by decide, by decide, by decide +kernel⟩, by decide⟩
theorem iM_look : Cond.instanceMethod mM_look.1 ∈ zCW := zin 1268 (by decide +kernel) rfl
theorem wM_look : z_mw mM_look 0 := ⟨zin6 69 rfl rfl, gM, ⟨by decide, by decide, by decide +kernel⟩, by decide⟩
theorem tM_in : Cond.static mM_in.1 ∈ zCW := zin 1271 (by decide +kernel) rfl
theorem wM_in : z_mw mM_in 3 := ⟨zin6 72 rfl rfl, gM, ⟨by decide, by decide, by decide +kernel⟩, by decide⟩
theorem iM_stop : Cond.instanceMethod mM_stop.1 ∈ zCW := zin 1275 (by decide +kernel) rfl
theorem wM_stop : z_mw mM_stop 2 := ⟨zin6 76 rfl rfl, gM, ⟨by decide, by decide, by decide +kernel⟩, by decide⟩
theorem iM_need : Cond.instanceMethod mM_need.1 ∈ zCW := zin 1279 (by decide +kernel) rfl
theorem wM_need : z_mw mM_need 1 := ⟨zin6 80 rfl rfl, gM, ⟨by decide, by decide, by decide +kernel⟩, by decide⟩
theorem iM_whole : Cond.instanceMethod mM_whole.1 ∈ zCW := zin 1283 (by decide +kernel) rfl
theorem wM_whole : z_mw mM_whole 0 := ⟨zin6 84 rfl rfl, gM, ⟨by decide, by decide, by decide +kernel⟩, by decide⟩
theorem iM_begin : Cond.instanceMethod mM_begin.1 ∈ zCW := zin 1287 (by decide +kernel) rfl
theorem wM_begin : z_mw mM_begin 0 := ⟨zin6 88 rfl rfl, gM, ⟨by decide, by decide, by decide +kernel⟩, by decide⟩
theorem iM_tagged : Cond.instanceMethod mM_tagged.1 ∈ zCW := zin 1291 (by decide +kernel) rfl
theorem wM_tagged : z_mw mM_tagged 0 := ⟨zin6 92 rfl rfl, gM, ⟨by decide, by decide, by decide +kernel⟩, by decide⟩
theorem iM_add : Cond.instanceMethod mM_add.1 ∈ zCW := zin 1295 (by decide +kernel) rfl
theorem wM_add : z_mw mM_add 1 := ⟨zin6 96 rfl rfl, gM, ⟨by decide, by decide, by decide +kernel⟩, by decide⟩
theorem iM_push : Cond.instanceMethod mM_push.1 ∈ zCW := zin 1299 (by decide +kernel) rfl
theorem wM_push : z_mw mM_push 1 := ⟨zin6 100 rfl rfl, gM, ⟨by decide, by decide, by decide +kernel⟩, by decide⟩
theorem iM_named : Cond.instanceMethod mM_named.1 ∈ zCW := zin 1303 (by decide +kernel) rfl
theorem wM_named : z_mw mM_named 1 := ⟨zin6 104 rfl rfl, gM, ⟨by decide, by decide, by decide +kernel⟩, by decide⟩
theorem iM_ranged : Cond.instanceMethod mM_ranged.1 ∈ zCW := zin 1307 (by decide +kernel) rfl
theorem wM_ranged : z_mw mM_ranged 2 := ⟨zin6 108 rfl rfl, gM, ⟨by decide, by decide, by decide +kernel⟩, by decide⟩
theorem iM_numeral : Cond.instanceMethod mM_numeral.1 ∈ zCW := zin 1311 (by decide +kernel) rfl
theorem wM_numeral : z_mw mM_numeral 0 := ⟨zin6 112 rfl rfl, gM, ⟨by decide, by decide, by decide +kernel⟩, by decide⟩
theorem iM_end : Cond.instanceMethod mM_end.1 ∈ zCW := zin 1316 (by decide +kernel) rfl
theorem wM_end : z_mw mM_end 1 := ⟨zin6 117 rfl rfl, gM, ⟨by decide, by decide, by decide +kernel⟩, by decide⟩
theorem iM_component : Cond.instanceMethod mM_component.1 ∈ zCW := zin 1320 (by decide +kernel) rfl
theorem wM_component : z_mw mM_component 2 := ⟨zin6 121 rfl rfl, gM, ⟨by decide, by decide, by decide +kernel⟩, by decide⟩
theorem iM_unwrap : Cond.instanceMethod mM_unwrap.1 ∈ zCW := zin 1324 (by decide +kernel) rfl
theorem wM_unwrap : z_mw mM_unwrap 1 := ⟨zin6 125 rfl rfl, gM, ⟨by decide, by decide, by decide +kernel⟩, by decide⟩
theorem iM_clashes : Cond.instanceMethod mM_clashes.1 ∈ zCW := zin 1328 (by decide +kernel) rfl
theorem wM_clashes : z_mw mM_clashes 1 := ⟨zin6 129 rfl rfl, gM, ⟨by decide, by decide, by decide +kernel⟩, by decide⟩
theorem iM_put : Cond.instanceMethod mM_put.1 ∈ zCW := zin 1331 (by decide +kernel) rfl
theorem wM_put : z_mw mM_put 2 := ⟨zin6 133 rfl rfl, gM, ⟨by decide, by decide, by decide +kernel⟩, by decide⟩
theorem iM_wipe : Cond.instanceMethod mM_wipe.1 ∈ zCW := zin 1336 (by decide +kernel) rfl
theorem wM_wipe : z_mw mM_wipe 0 := ⟨zin6 138 rfl rfl, gM, ⟨by decide, by decide, by decide +kernel⟩, by decide⟩
theorem iM_at : Cond.instanceMethod mM_at.1 ∈ zCW := zin 1340 (by decide +kernel) rfl
theorem wM_at : z_mw mM_at 1 := ⟨zin6 142 rfl rfl, gM, ⟨by decide, by decide, by decide +kernel⟩, by decide⟩
theorem iM_transcode : Cond.instanceMethod mM_transcode.1 ∈ zCW := zin 1344 (by decide +kernel) rfl
theorem wM_transcode : z_mw mM_transcode 3 := ⟨zin6 146 rfl rfl, gM, ⟨by decide, by decide, by decide +kernel⟩, by decide⟩
theorem iM_asked : Cond.instanceMethod mM_asked.1 ∈ zCW := zin 1349 (by decide +kernel) rfl
theorem wM_asked : z_mw mM_asked 2 := ⟨zin6 150 rfl rfl, gM, ⟨by decide, by decide, by decide +kernel⟩, by decide⟩
theorem iM_typeOf : Cond.instanceMethod mM_typeOf.1 ∈ zCW := zin 1353 (by decide +kernel) rfl
theorem wM_typeOf : z_mw mM_typeOf 1 := ⟨zin6 154 rfl rfl, gM, ⟨by decide, by decide, by decide +kernel⟩, by decide⟩
theorem iM_load : Cond.instanceMethod mM_load.1 ∈ zCW := zin 1357 (by decide +kernel) rfl
theorem wM_load : z_mw mM_load 1 := ⟨zin6 158 rfl rfl, gM, ⟨by decide, by decide, by decide +kernel⟩, by decide⟩
theorem iM_isValue : Cond.instanceMethod mM_isValue.1 ∈ zCW := zin 1361 (by decide +kernel) rfl
theorem wM_isValue : z_mw mM_isValue 2 := ⟨zin6 162 rfl rfl, gM, ⟨by decide, by decide, by decide +kernel⟩, by decide⟩
theorem iM_element : Cond.instanceMethod mM_element.1 ∈ zCW := zin 1365 (by decide +kernel) rfl
theorem wM_element : z_mw mM_element 3 := ⟨zin6 166 rfl rfl, gM, ⟨by decide, by decide, by decide +kernel⟩, by decide⟩
theorem iM_next : Cond.instanceMethod mM_next.1 ∈ zCW := zin 1369 (by decide +kernel) rfl
theorem wM_next : z_mw mM_next 0 := ⟨zin6 170 rfl rfl, gM, ⟨by decide, by decide, by decide +kernel⟩, by decide⟩
theorem iM_bound : Cond.instanceMethod mM_bound.1 ∈ zCW := zin 1373 (by decide +kernel) rfl
theorem wM_bound : z_mw mM_bound 0 := ⟨zin6 174 rfl rfl, gM, ⟨by decide, by decide, by decide +kernel⟩, by decide⟩
theorem iM_enter : Cond.instanceMethod mM_enter.1 ∈ zCW := zin 1377 (by decide +kernel) rfl
theorem wM_enter : z_mw mM_enter 1 := ⟨zin6 178 rfl rfl, gM, ⟨by decide, by decide, by decide +kernel⟩, by decide⟩
theorem iM_length : Cond.instanceMethod mM_length.1 ∈ zCW := zin 1381 (by decide +kernel) rfl
theorem wM_length : z_mw mM_length 1 := ⟨zin6 182 rfl rfl, gM, ⟨by decide, by decide, by decide +kernel⟩, by decide⟩
theorem iM_frame : Cond.instanceMethod mM_frame.1 ∈ zCW := zin 1385 (by decide +kernel) rfl
theorem wM_frame : z_mw mM_frame 3 := ⟨zin6 186 rfl rfl, gM, ⟨by decide, by decide, by decide +kernel⟩, by decide⟩
theorem tM_bitOf : Cond.static mM_bitOf.1 ∈ zCW := zin 1388 (by decide +kernel) rfl
theorem wM_bitOf : z_mw mM_bitOf 1 := ⟨zin6 189 rfl rfl, gM, ⟨by decide, by decide, by decide +kernel⟩, by decide⟩
theorem iM_adds : Cond.instanceMethod mM_adds.1 ∈ zCW := zin 1392 (by decide +kernel) rfl
theorem wM_adds : z_mw mM_adds 4 := ⟨zin6 193 rfl rfl, gM, ⟨by decide, by decide, by decide +kernel⟩, by decide⟩
theorem iM_inner : Cond.instanceMethod mM_inner.1 ∈ zCW := zin 1396 (by decide +kernel) rfl
theorem wM_inner : z_mw mM_inner 3 := ⟨zin6 197 rfl rfl, gM, ⟨by decide, by decide, by decide +kernel⟩, by decide⟩
theorem tM_bytesOf : Cond.static mM_bytesOf.1 ∈ zCW := zin 1399 (by decide +kernel) rfl
theorem wM_bytesOf : z_mw mM_bytesOf 1 := ⟨zin6 200 rfl rfl, gM, ⟨by decide, by decide, by decide +kernel⟩, by decide⟩
theorem iM_want : Cond.instanceMethod mM_want.1 ∈ zCW := zin 1405 (by decide +kernel) rfl
theorem wM_want : z_mw mM_want 3 := ⟨zin6 206 rfl rfl, gM, ⟨by decide, by decide, by decide +kernel⟩, by decide⟩
theorem iM_ranging : Cond.instanceMethod mM_ranging.1 ∈ zCW := zin 1409 (by decide +kernel) rfl
theorem wM_ranging : z_mw mM_ranging 2 := ⟨zin6 210 rfl rfl, gM, ⟨by decide, by decide, by decide +kernel⟩, by decide⟩
theorem iM_align : Cond.instanceMethod mM_align.1 ∈ zCW := zin 1413 (by decide +kernel) rfl
theorem wM_align : z_mw mM_align 0 := ⟨zin6 214 rfl rfl, gM, ⟨by decide, by decide, by decide +kernel⟩, by decide⟩
theorem tM_width : Cond.static mM_width.1 ∈ zCW := zin 1416 (by decide +kernel) rfl
theorem wM_width : z_mw mM_width 1 := ⟨zin6 217 rfl rfl, gM, ⟨by decide, by decide, by decide +kernel⟩, by decide⟩
theorem iM_some : Cond.instanceMethod mM_some.1 ∈ zCW := zin 1420 (by decide +kernel) rfl
theorem wM_some : z_mw mM_some 1 := ⟨zin6 221 rfl rfl, gM, ⟨by decide, by decide, by decide +kernel⟩, by decide⟩
theorem iM_bit : Cond.instanceMethod mM_bit.1 ∈ zCW := zin 1424 (by decide +kernel) rfl
theorem wM_bit : z_mw mM_bit 0 := ⟨zin6 225 rfl rfl, gM, ⟨by decide, by decide, by decide +kernel⟩, by decide⟩
theorem iM_rank : Cond.instanceMethod mM_rank.1 ∈ zCW := zin 1428 (by decide +kernel) rfl
theorem wM_rank : z_mw mM_rank 2 := ⟨zin6 229 rfl rfl, gM, ⟨by decide, by decide, by decide +kernel⟩, by decide⟩
theorem iM_counted : Cond.instanceMethod mM_counted.1 ∈ zCW := zin 1432 (by decide +kernel) rfl
theorem wM_counted : z_mw mM_counted 1 := ⟨zin6 233 rfl rfl, gM, ⟨by decide, by decide, by decide +kernel⟩, by decide⟩
theorem iM_goOn : Cond.instanceMethod mM_goOn.1 ∈ zCW := zin 1436 (by decide +kernel) rfl
theorem wM_goOn : z_mw mM_goOn 0 := ⟨zin6 237 rfl rfl, gM, ⟨by decide, by decide, by decide +kernel⟩, by decide⟩
theorem iM_isEnd : Cond.instanceMethod mM_isEnd.1 ∈ zCW := zin 1440 (by decide +kernel) rfl
theorem wM_isEnd : z_mw mM_isEnd 0 := ⟨zin7 1 rfl rfl, gM, ⟨by decide, by decide, by decide +kernel⟩, by decide⟩
theorem iM_baseOf : Cond.instanceMethod mM_baseOf.1 ∈ zCW := zin 1444 (by decide +kernel) rfl
theorem wM_baseOf : z_mw mM_baseOf 1 := ⟨zin7 5 rfl rfl, gM, ⟨by decide, by decide, by decide +kernel⟩, by decide⟩
theorem iM_leaveFrame : Cond.instanceMethod mM_leaveFrame.1 ∈ zCW := zin 1448 (by decide +kernel) rfl
theorem wM_leaveFrame : z_mw mM_leaveFrame 0 := ⟨zin7 9 rfl rfl, gM, ⟨by decide, by decide, by decide +kernel⟩, by decide⟩
theorem iM_absent : Cond.instanceMethod mM_absent.1 ∈ zCW := zin 1452 (by decide +kernel) rfl
theorem wM_absent : z_mw mM_absent 3 := ⟨zin7 13 rfl rfl, gM, ⟨by decide, by decide, by decide +kernel⟩, by decide⟩
theorem iM_goOnPacked : Cond.instanceMethod mM_goOnPacked.1 ∈ zCW := zin 1456 (by decide +kernel) rfl
theorem wM_goOnPacked : z_mw mM_goOnPacked 0 := ⟨zin7 17 rfl rfl, gM, ⟨by decide, by decide, by decide +kernel⟩, by decide⟩
theorem iM_settle : Cond.instanceMethod mM_settle.1 ∈ zCW := zin 1460 (by decide +kernel) rfl
theorem wM_settle : z_mw mM_settle 0 := ⟨zin7 21 rfl rfl, gM, ⟨by decide, by decide, by decide +kernel⟩, by decide⟩
theorem iM_write : Cond.instanceMethod mM_write.1 ∈ zCW := zin 1464 (by decide +kernel) rfl
theorem wM_write : z_mw mM_write 1 := ⟨zin7 25 rfl rfl, gM, ⟨by decide, by decide, by decide +kernel⟩, by decide⟩
theorem iM_isLeft : Cond.instanceMethod mM_isLeft.1 ∈ zCW := zin 1468 (by decide +kernel) rfl
theorem wM_isLeft : z_mw mM_isLeft 1 := ⟨zin7 29 rfl rfl, gM, ⟨by decide, by decide, by decide +kernel⟩, by decide⟩
theorem iM_encode : Cond.instanceMethod mM_encode.1 ∈ zCW := zin 1472 (by decide +kernel) rfl
theorem wM_encode : z_mw mM_encode 1 := ⟨zin7 33 rfl rfl, gM, ⟨by decide, by decide, by decide +kernel⟩, by decide⟩
theorem iM_make : Cond.instanceMethod mM_make.1 ∈ zCW := zin 1476 (by decide +kernel) rfl
theorem wM_make : z_mw mM_make 1 := ⟨zin7 37 rfl rfl, gM, ⟨by decide, by decide, by decide +kernel⟩, by decide⟩
theorem iM_packed : Cond.instanceMethod mM_packed.1 ∈ zCW := zin 1480 (by decide +kernel) rfl
theorem wM_packed : z_mw mM_packed 1 := ⟨zin7 41 rfl rfl, gM, ⟨by decide, by decide, by decide +kernel⟩, by decide⟩
theorem iM_bring : Cond.instanceMethod mM_bring.1 ∈ zCW := zin 1484 (by decide +kernel) rfl
theorem wM_bring : z_mw mM_bring 2 := ⟨zin7 45 rfl rfl, gM, ⟨by decide, by decide, by decide +kernel⟩, by decide⟩
theorem iM_bringCount : Cond.instanceMethod mM_bringCount.1 ∈ zCW := zin 1488 (by decide +kernel) rfl
theorem wM_bringCount : z_mw mM_bringCount 2 := ⟨zin7 49 rfl rfl, gM, ⟨by decide, by decide, by decide +kernel⟩, by decide⟩
theorem iM_fill : Cond.instanceMethod mM_fill.1 ∈ zCW := zin 1492 (by decide +kernel) rfl
theorem wM_fill : z_mw mM_fill 0 := ⟨zin7 53 rfl rfl, gM, ⟨by decide, by decide, by decide +kernel⟩, by decide⟩
theorem iM_bringOf : Cond.instanceMethod mM_bringOf.1 ∈ zCW := zin 1496 (by decide +kernel) rfl
theorem wM_bringOf : z_mw mM_bringOf 3 := ⟨zin7 57 rfl rfl, gM, ⟨by decide, by decide, by decide +kernel⟩, by decide⟩
theorem iM_marks : Cond.instanceMethod mM_marks.1 ∈ zCW := zin 1500 (by decide +kernel) rfl
theorem wM_marks : z_mw mM_marks 2 := ⟨zin7 61 rfl rfl, gM, ⟨by decide, by decide, by decide +kernel⟩, by decide⟩
theorem iM_fails : Cond.instanceMethod mM_fails.1 ∈ zCW := zin 1504 (by decide +kernel) rfl
theorem wM_fails : z_mw mM_fails 1 := ⟨zin7 65 rfl rfl, gM, ⟨by decide, by decide, by decide +kernel⟩, by decide⟩
theorem iM_keep : Cond.instanceMethod mM_keep.1 ∈ zCW := zin 1508 (by decide +kernel) rfl
theorem wM_keep : z_mw mM_keep 0 := ⟨zin7 69 rfl rfl, gM, ⟨by decide, by decide, by decide +kernel⟩, by decide⟩
theorem iM_parts : Cond.instanceMethod mM_parts.1 ∈ zCW := zin 1511 (by decide +kernel) rfl
theorem wM_parts : z_mw mM_parts 0 := ⟨zin7 73 rfl rfl, gM, ⟨by decide, by decide, by decide +kernel⟩, by decide⟩
theorem iM_part : Cond.instanceMethod mM_part.1 ∈ zCW := zin 1515 (by decide +kernel) rfl
theorem wM_part : z_mw mM_part 2 := ⟨zin7 77 rfl rfl, gM, ⟨by decide, by decide, by decide +kernel⟩, by decide⟩
theorem iM_octet : Cond.instanceMethod mM_octet.1 ∈ zCW := zin 1519 (by decide +kernel) rfl
theorem wM_octet : z_mw mM_octet 2 := ⟨zin7 81 rfl rfl, gM, ⟨by decide, by decide, by decide +kernel⟩, by decide⟩
theorem iM_operation : Cond.instanceMethod mM_operation.1 ∈ zCW := zin 1523 (by decide +kernel) rfl
theorem wM_operation : z_mw mM_operation 4 := ⟨zin7 85 rfl rfl, gM, ⟨by decide, by decide, by decide +kernel⟩, by decide⟩
theorem iM_serve : Cond.instanceMethod mM_serve.1 ∈ zCW := zin 1527 (by decide +kernel) rfl
theorem wM_serve : z_mw mM_serve 0 := ⟨zin7 89 rfl rfl, gM, ⟨by decide, by decide, by decide +kernel⟩, by decide⟩
theorem iM_reply : Cond.instanceMethod mM_reply.1 ∈ zCW := zin 1532 (by decide +kernel) rfl
theorem wM_reply : z_mw mM_reply 4 := ⟨zin7 93 rfl rfl, gM, ⟨by decide, by decide, by decide +kernel⟩, by decide⟩
theorem sD_type : Cond.selects mD_type.1.cls mD_type.1 mD_type.1 ∈ zCW := zin 258 (by decide +kernel) rfl
theorem sV_empty : Cond.selects mV_empty.1.cls mV_empty.1 mV_empty.1 ∈ zCW := zin 266 (by decide +kernel) rfl
theorem sD_clear : Cond.selects mD_clear.1.cls mD_clear.1 mD_clear.1 ∈ zCW := zin 270 (by decide +kernel) rfl
theorem sD_compile : Cond.selects mD_compile.1.cls mD_compile.1 mD_compile.1 ∈ zCW := zin 274 (by decide +kernel) rfl
theorem sC_translate : Cond.selects mC_translate.1.cls mC_translate.1 mC_translate.1 ∈ zCW := zin 278 (by decide +kernel) rfl
theorem sT_begin : Cond.selects mT_begin.1.cls mT_begin.1 mT_begin.1 ∈ zCW := zin 396 (by decide +kernel) rfl
theorem sT_beginTag : Cond.selects mT_beginTag.1.cls mT_beginTag.1 mT_beginTag.1 ∈ zCW := zin 404 (by decide +kernel) rfl
theorem sK_begin : Cond.selects mK_begin.1.cls mK_begin.1 mK_begin.1 ∈ zCW := zin 481 (by decide +kernel) rfl
theorem sT_addMember : Cond.selects mT_addMember.1.cls mT_addMember.1 mT_addMember.1 ∈ zCW := zin 485 (by decide +kernel) rfl
theorem sT_untagged : Cond.selects mT_untagged.1.cls mT_untagged.1 mT_untagged.1 ∈ zCW := zin 492 (by decide +kernel) rfl
theorem sT_allows : Cond.selects mT_allows.1.cls mT_allows.1 mT_allows.1 ∈ zCW := zin 507 (by decide +kernel) rfl
theorem sK_tags : Cond.selects mK_tags.1.cls mK_tags.1 mK_tags.1 ∈ zCW := zin 518 (by decide +kernel) rfl
theorem sK_leastTag : Cond.selects mK_leastTag.1.cls mK_leastTag.1 mK_leastTag.1 ∈ zCW := zin 528 (by decide +kernel) rfl
theorem sD_put : Cond.selects mD_put.1.cls mD_put.1 mD_put.1 ∈ zCW := zin 548 (by decide +kernel) rfl
theorem sD_wipe : Cond.selects mD_wipe.1.cls mD_wipe.1 mD_wipe.1 ∈ zCW := zin 552 (by decide +kernel) rfl
theorem sD_parts : Cond.selects mD_parts.1.cls mD_parts.1 mD_parts.1 ∈ zCW := zin 556 (by decide +kernel) rfl
theorem sD_at : Cond.selects mD_at.1.cls mD_at.1 mD_at.1 ∈ zCW := zin 564 (by decide +kernel) rfl
theorem sD_transcode : Cond.selects mD_transcode.1.cls mD_transcode.1 mD_transcode.1 ∈ zCW := zin 645 (by decide +kernel) rfl
theorem sC_typeNamed : Cond.selects mC_typeNamed.1.cls mC_typeNamed.1 mC_typeNamed.1 ∈ zCW := zin 684 (by decide +kernel) rfl
theorem sP_readAll : Cond.selects mP_readAll.1.cls mP_readAll.1 mP_readAll.1 ∈ zCW := zin 708 (by decide +kernel) rfl
theorem sV_addPart : Cond.selects mV_addPart.1.cls mV_addPart.1 mV_addPart.1 ∈ zCW := zin 717 (by decide +kernel) rfl
theorem sT_isAlignedOctets : Cond.selects mT_isAlignedOctets.1.cls mT_isAlignedOctets.1 mT_isAlignedOctets.1 ∈ zCW := zin 762 (by decide +kernel) rfl
theorem sV_addOctet : Cond.selects mV_addOctet.1.cls mV_addOctet.1 mV_addOctet.1 ∈ zCW := zin 766 (by decide +kernel) rfl
theorem sV_leaveOutComponent : Cond.selects mV_leaveOutComponent.1.cls mV_leaveOutComponent.1 mV_leaveOutComponent.1 ∈ zCW := zin 778 (by decide +kernel) rfl
theorem sV_takeComponent : Cond.selects mV_takeComponent.1.cls mV_takeComponent.1 mV_takeComponent.1 ∈ zCW := zin 784 (by decide +kernel) rfl
theorem sT_memberRanked : Cond.selects mT_memberRanked.1.cls mT_memberRanked.1 mT_memberRanked.1 ∈ zCW := zin 796 (by decide +kernel) rfl
theorem sO_readAll : Cond.selects mO_readAll.1.cls mO_readAll.1 mO_readAll.1 ∈ zCW := zin 800 (by decide +kernel) rfl
theorem sT_tagByte : Cond.selects mT_tagByte.1.cls mT_tagByte.1 mT_tagByte.1 ∈ zCW := zin 812 (by decide +kernel) rfl
theorem sT_memberWithTag : Cond.selects mT_memberWithTag.1.cls mT_memberWithTag.1 mT_memberWithTag.1 ∈ zCW := zin 840 (by decide +kernel) rfl
theorem sQ_writeAll : Cond.selects mQ_writeAll.1.cls mQ_writeAll.1 mQ_writeAll.1 ∈ zCW := zin 881 (by decide +kernel) rfl
theorem sV_octetAt : Cond.selects mV_octetAt.1.cls mV_octetAt.1 mV_octetAt.1 ∈ zCW := zin 918 (by decide +kernel) rfl
theorem sV_shows : Cond.selects mV_shows.1.cls mV_shows.1 mV_shows.1 ∈ zCW := zin 926 (by decide +kernel) rfl
theorem sT_memberAt : Cond.selects mT_memberAt.1.cls mT_memberAt.1 mT_memberAt.1 ∈ zCW := zin 938 (by decide +kernel) rfl
theorem sS_writeAll : Cond.selects mS_writeAll.1.cls mS_writeAll.1 mS_writeAll.1 ∈ zCW := zin 942 (by decide +kernel) rfl
theorem sV_copyOf : Cond.selects mV_copyOf.1.cls mV_copyOf.1 mV_copyOf.1 ∈ zCW := zin 999 (by decide +kernel) rfl
theorem sD_part : Cond.selects mD_part.1.cls mD_part.1 mD_part.1 ∈ zCW := zin 1014 (by decide +kernel) rfl
theorem sD_octet : Cond.selects mD_octet.1.cls mD_octet.1 mD_octet.1 ∈ zCW := zin 1023 (by decide +kernel) rfl
theorem sD_operation : Cond.selects mD_operation.1.cls mD_operation.1 mD_operation.1 ∈ zCW := zin 1031 (by decide +kernel) rfl
theorem sD_serve : Cond.selects mD_serve.1.cls mD_serve.1 mD_serve.1 ∈ zCW := zin 1039 (by decide +kernel) rfl
theorem sM_thrown : Cond.selects mM_thrown.1.cls mM_thrown.1 mM_thrown.1 ∈ zCW := zin 1248 (by decide +kernel) rfl
theorem sM_type : Cond.selects mM_type.1.cls mM_type.1 mM_type.1 ∈ zCW := zin 1252 (by decide +kernel) rfl
theorem sM_clear : Cond.selects mM_clear.1.cls mM_clear.1 mM_clear.1 ∈ zCW := zin 1256 (by decide +kernel) rfl
theorem sM_compile : Cond.selects mM_compile.1.cls mM_compile.1 mM_compile.1 ∈ zCW := zin 1260 (by decide +kernel) rfl
theorem sM_put : Cond.selects mM_put.1.cls mM_put.1 mM_put.1 ∈ zCW := zin 1332 (by decide +kernel) rfl
theorem sM_wipe : Cond.selects mM_wipe.1.cls mM_wipe.1 mM_wipe.1 ∈ zCW := zin 1337 (by decide +kernel) rfl
theorem sM_at : Cond.selects mM_at.1.cls mM_at.1 mM_at.1 ∈ zCW := zin 1341 (by decide +kernel) rfl
theorem sM_transcode : Cond.selects mM_transcode.1.cls mM_transcode.1 mM_transcode.1 ∈ zCW := zin 1345 (by decide +kernel) rfl
theorem sM_parts : Cond.selects mM_parts.1.cls mM_parts.1 mM_parts.1 ∈ zCW := zin 1512 (by decide +kernel) rfl
theorem sM_part : Cond.selects mM_part.1.cls mM_part.1 mM_part.1 ∈ zCW := zin 1516 (by decide +kernel) rfl
theorem sM_octet : Cond.selects mM_octet.1.cls mM_octet.1 mM_octet.1 ∈ zCW := zin 1520 (by decide +kernel) rfl
theorem sM_operation : Cond.selects mM_operation.1.cls mM_operation.1 mM_operation.1 ∈ zCW := zin 1524 (by decide +kernel) rfl
theorem sM_serve : Cond.selects mM_serve.1.cls mM_serve.1 mM_serve.1 ∈ zCW := zin 1528 (by decide +kernel) rfl
theorem sD_forgetModule : Cond.selects mD_forgetModule.1.cls mD_forgetModule.1 mD_forgetModule.1 ∈ zCW := zsel 0 (y := mD_forgetModule.1) (n := 17) (by decide +kernel) rfl
theorem sC_readDefinition : Cond.selects mC_readDefinition.1.cls mC_readDefinition.1 mC_readDefinition.1 ∈ zCW := zsel 1 (y := mC_readDefinition.1) (n := 10) (by decide +kernel) rfl
theorem sC_nextCharacter : Cond.selects mC_nextCharacter.1.cls mC_nextCharacter.1 mC_nextCharacter.1 ∈ zCW := zsel 2 (y := mC_nextCharacter.1) (n := 10) (by decide +kernel) rfl
theorem sC_refuse : Cond.selects mC_refuse.1.cls mC_refuse.1 mC_refuse.1 ∈ zCW := zsel 3 (y := mC_refuse.1) (n := 10) (by decide +kernel) rfl
theorem sC_pass : Cond.selects mC_pass.1.cls mC_pass.1 mC_pass.1 ∈ zCW := zsel 4 (y := mC_pass.1) (n := 10) (by decide +kernel) rfl
theorem sC_readType : Cond.selects mC_readType.1.cls mC_readType.1 mC_readType.1 ∈ zCW := zsel 5 (y := mC_readType.1) (n := 10) (by decide +kernel) rfl
theorem sC_readTag : Cond.selects mC_readTag.1.cls mC_readTag.1 mC_readTag.1 ∈ zCW := zsel 6 (y := mC_readTag.1) (n := 10) (by decide +kernel) rfl
theorem sC_newType : Cond.selects mC_newType.1.cls mC_newType.1 mC_newType.1 ∈ zCW := zsel 7 (y := mC_newType.1) (n := 10) (by decide +kernel) rfl
theorem sC_readUntagged : Cond.selects mC_readUntagged.1.cls mC_readUntagged.1 mC_readUntagged.1 ∈ zCW := zsel 8 (y := mC_readUntagged.1) (n := 10) (by decide +kernel) rfl
theorem sC_readReference : Cond.selects mC_readReference.1.cls mC_readReference.1 mC_readReference.1 ∈ zCW := zsel 9 (y := mC_readReference.1) (n := 10) (by decide +kernel) rfl
theorem sC_readMembers : Cond.selects mC_readMembers.1.cls mC_readMembers.1 mC_readMembers.1 ∈ zCW := zsel 10 (y := mC_readMembers.1) (n := 10) (by decide +kernel) rfl
theorem sC_readMember : Cond.selects mC_readMember.1.cls mC_readMember.1 mC_readMember.1 ∈ zCW := zsel 11 (y := mC_readMember.1) (n := 10) (by decide +kernel) rfl
theorem sC_newMember : Cond.selects mC_newMember.1.cls mC_newMember.1 mC_newMember.1 ∈ zCW := zsel 12 (y := mC_newMember.1) (n := 10) (by decide +kernel) rfl
theorem sC_readMode : Cond.selects mC_readMode.1.cls mC_readMode.1 mC_readMode.1 ∈ zCW := zsel 13 (y := mC_readMode.1) (n := 10) (by decide +kernel) rfl
theorem sC_readNumber : Cond.selects mC_readNumber.1.cls mC_readNumber.1 mC_readNumber.1 ∈ zCW := zsel 14 (y := mC_readNumber.1) (n := 10) (by decide +kernel) rfl
theorem sC_closeMembers : Cond.selects mC_closeMembers.1.cls mC_closeMembers.1 mC_closeMembers.1 ∈ zCW := zsel 15 (y := mC_closeMembers.1) (n := 10) (by decide +kernel) rfl
theorem sC_readBounds : Cond.selects mC_readBounds.1.cls mC_readBounds.1 mC_readBounds.1 ∈ zCW := zsel 16 (y := mC_readBounds.1) (n := 10) (by decide +kernel) rfl
theorem sC_readItems : Cond.selects mC_readItems.1.cls mC_readItems.1 mC_readItems.1 ∈ zCW := zsel 17 (y := mC_readItems.1) (n := 10) (by decide +kernel) rfl
theorem sD_readBuffer : Cond.selects mD_readBuffer.1.cls mD_readBuffer.1 mD_readBuffer.1 ∈ zCW := zsel 19 (y := mD_readBuffer.1) (n := 17) (by decide +kernel) rfl
theorem sP_readValue : Cond.selects mP_readValue.1.cls mP_readValue.1 mP_readValue.1 ∈ zCW := zsel 20 (y := mP_readValue.1) (n := 4) (by decide +kernel) rfl
theorem sP_takeBits : Cond.selects mP_takeBits.1.cls mP_takeBits.1 mP_takeBits.1 ∈ zCW := zsel 21 (y := mP_takeBits.1) (n := 4) (by decide +kernel) rfl
theorem sP_readBounded : Cond.selects mP_readBounded.1.cls mP_readBounded.1 mP_readBounded.1 ∈ zCW := zsel 22 (y := mP_readBounded.1) (n := 4) (by decide +kernel) rfl
theorem sP_takeNumber : Cond.selects mP_takeNumber.1.cls mP_takeNumber.1 mP_takeNumber.1 ∈ zCW := zsel 23 (y := mP_takeNumber.1) (n := 4) (by decide +kernel) rfl
theorem sP_align : Cond.selects mP_align.1.cls mP_align.1 mP_align.1 ∈ zCW := zsel 24 (y := mP_align.1) (n := 4) (by decide +kernel) rfl
theorem sP_readUnbounded : Cond.selects mP_readUnbounded.1.cls mP_readUnbounded.1 mP_readUnbounded.1 ∈ zCW := zsel 25 (y := mP_readUnbounded.1) (n := 4) (by decide +kernel) rfl
theorem sP_takeByte : Cond.selects mP_takeByte.1.cls mP_takeByte.1 mP_takeByte.1 ∈ zCW := zsel 26 (y := mP_takeByte.1) (n := 4) (by decide +kernel) rfl
theorem sP_readOctets : Cond.selects mP_readOctets.1.cls mP_readOctets.1 mP_readOctets.1 ∈ zCW := zsel 27 (y := mP_readOctets.1) (n := 4) (by decide +kernel) rfl
theorem sP_takeCount : Cond.selects mP_takeCount.1.cls mP_takeCount.1 mP_takeCount.1 ∈ zCW := zsel 28 (y := mP_takeCount.1) (n := 4) (by decide +kernel) rfl
theorem sP_readComponents : Cond.selects mP_readComponents.1.cls mP_readComponents.1 mP_readComponents.1 ∈ zCW := zsel 29 (y := mP_readComponents.1) (n := 4) (by decide +kernel) rfl
theorem sP_takePresence : Cond.selects mP_takePresence.1.cls mP_takePresence.1 mP_takePresence.1 ∈ zCW := zsel 30 (y := mP_takePresence.1) (n := 4) (by decide +kernel) rfl
theorem sP_readItems : Cond.selects mP_readItems.1.cls mP_readItems.1 mP_readItems.1 ∈ zCW := zsel 31 (y := mP_readItems.1) (n := 4) (by decide +kernel) rfl
theorem sP_readChoice : Cond.selects mP_readChoice.1.cls mP_readChoice.1 mP_readChoice.1 ∈ zCW := zsel 32 (y := mP_readChoice.1) (n := 4) (by decide +kernel) rfl
theorem sO_readElement : Cond.selects mO_readElement.1.cls mO_readElement.1 mO_readElement.1 ∈ zCW := zsel 33 (y := mO_readElement.1) (n := 4) (by decide +kernel) rfl
theorem sO_readTagged : Cond.selects mO_readTagged.1.cls mO_readTagged.1 mO_readTagged.1 ∈ zCW := zsel 34 (y := mO_readTagged.1) (n := 4) (by decide +kernel) rfl
theorem sO_readHeader : Cond.selects mO_readHeader.1.cls mO_readHeader.1 mO_readHeader.1 ∈ zCW := zsel 35 (y := mO_readHeader.1) (n := 4) (by decide +kernel) rfl
theorem sO_readLongLength : Cond.selects mO_readLongLength.1.cls mO_readLongLength.1 mO_readLongLength.1 ∈ zCW := zsel 36 (y := mO_readLongLength.1) (n := 4) (by decide +kernel) rfl
theorem sO_readContentEnd : Cond.selects mO_readContentEnd.1.cls mO_readContentEnd.1 mO_readContentEnd.1 ∈ zCW := zsel 37 (y := mO_readContentEnd.1) (n := 4) (by decide +kernel) rfl
theorem sO_readChoice : Cond.selects mO_readChoice.1.cls mO_readChoice.1 mO_readChoice.1 ∈ zCW := zsel 38 (y := mO_readChoice.1) (n := 4) (by decide +kernel) rfl
theorem sO_nextTagBit : Cond.selects mO_nextTagBit.1.cls mO_nextTagBit.1 mO_nextTagBit.1 ∈ zCW := zsel 39 (y := mO_nextTagBit.1) (n := 4) (by decide +kernel) rfl
theorem sO_readPlain : Cond.selects mO_readPlain.1.cls mO_readPlain.1 mO_readPlain.1 ∈ zCW := zsel 40 (y := mO_readPlain.1) (n := 4) (by decide +kernel) rfl
theorem sO_readBoolean : Cond.selects mO_readBoolean.1.cls mO_readBoolean.1 mO_readBoolean.1 ∈ zCW := zsel 41 (y := mO_readBoolean.1) (n := 4) (by decide +kernel) rfl
theorem sO_readInteger : Cond.selects mO_readInteger.1.cls mO_readInteger.1 mO_readInteger.1 ∈ zCW := zsel 42 (y := mO_readInteger.1) (n := 4) (by decide +kernel) rfl
theorem sO_readOctets : Cond.selects mO_readOctets.1.cls mO_readOctets.1 mO_readOctets.1 ∈ zCW := zsel 43 (y := mO_readOctets.1) (n := 4) (by decide +kernel) rfl
theorem sO_readItems : Cond.selects mO_readItems.1.cls mO_readItems.1 mO_readItems.1 ∈ zCW := zsel 44 (y := mO_readItems.1) (n := 4) (by decide +kernel) rfl
theorem sO_readComponents : Cond.selects mO_readComponents.1.cls mO_readComponents.1 mO_readComponents.1 ∈ zCW := zsel 45 (y := mO_readComponents.1) (n := 4) (by decide +kernel) rfl
theorem sD_writeFound : Cond.selects mD_writeFound.1.cls mD_writeFound.1 mD_writeFound.1 ∈ zCW := zsel 46 (y := mD_writeFound.1) (n := 17) (by decide +kernel) rfl
theorem sQ_writeValue : Cond.selects mQ_writeValue.1.cls mQ_writeValue.1 mQ_writeValue.1 ∈ zCW := zsel 47 (y := mQ_writeValue.1) (n := 5) (by decide +kernel) rfl
theorem sQ_appendBits : Cond.selects mQ_appendBits.1.cls mQ_appendBits.1 mQ_appendBits.1 ∈ zCW := zsel 48 (y := mQ_appendBits.1) (n := 5) (by decide +kernel) rfl
theorem sQ_writeInteger : Cond.selects mQ_writeInteger.1.cls mQ_writeInteger.1 mQ_writeInteger.1 ∈ zCW := zsel 49 (y := mQ_writeInteger.1) (n := 5) (by decide +kernel) rfl
theorem sQ_appendNumber : Cond.selects mQ_appendNumber.1.cls mQ_appendNumber.1 mQ_appendNumber.1 ∈ zCW := zsel 50 (y := mQ_appendNumber.1) (n := 5) (by decide +kernel) rfl
theorem sQ_align : Cond.selects mQ_align.1.cls mQ_align.1 mQ_align.1 ∈ zCW := zsel 51 (y := mQ_align.1) (n := 5) (by decide +kernel) rfl
theorem sQ_writeOctets : Cond.selects mQ_writeOctets.1.cls mQ_writeOctets.1 mQ_writeOctets.1 ∈ zCW := zsel 52 (y := mQ_writeOctets.1) (n := 5) (by decide +kernel) rfl
theorem sQ_appendCount : Cond.selects mQ_appendCount.1.cls mQ_appendCount.1 mQ_appendCount.1 ∈ zCW := zsel 53 (y := mQ_appendCount.1) (n := 5) (by decide +kernel) rfl
theorem sQ_writeComponents : Cond.selects mQ_writeComponents.1.cls mQ_writeComponents.1 mQ_writeComponents.1 ∈ zCW := zsel 54 (y := mQ_writeComponents.1) (n := 5) (by decide +kernel) rfl
theorem sQ_writeItems : Cond.selects mQ_writeItems.1.cls mQ_writeItems.1 mQ_writeItems.1 ∈ zCW := zsel 55 (y := mQ_writeItems.1) (n := 5) (by decide +kernel) rfl
theorem sQ_writeChoice : Cond.selects mQ_writeChoice.1.cls mQ_writeChoice.1 mQ_writeChoice.1 ∈ zCW := zsel 56 (y := mQ_writeChoice.1) (n := 5) (by decide +kernel) rfl
theorem sS_writeElement : Cond.selects mS_writeElement.1.cls mS_writeElement.1 mS_writeElement.1 ∈ zCW := zsel 57 (y := mS_writeElement.1) (n := 5) (by decide +kernel) rfl
theorem sS_writeChoice : Cond.selects mS_writeChoice.1.cls mS_writeChoice.1 mS_writeChoice.1 ∈ zCW := zsel 58 (y := mS_writeChoice.1) (n := 5) (by decide +kernel) rfl
theorem sS_beginElement : Cond.selects mS_beginElement.1.cls mS_beginElement.1 mS_beginElement.1 ∈ zCW := zsel 59 (y := mS_beginElement.1) (n := 5) (by decide +kernel) rfl
theorem sS_append : Cond.selects mS_append.1.cls mS_append.1 mS_append.1 ∈ zCW := zsel 60 (y := mS_append.1) (n := 5) (by decide +kernel) rfl
theorem sS_writeContent : Cond.selects mS_writeContent.1.cls mS_writeContent.1 mS_writeContent.1 ∈ zCW := zsel 61 (y := mS_writeContent.1) (n := 5) (by decide +kernel) rfl
theorem sS_writeInteger : Cond.selects mS_writeInteger.1.cls mS_writeInteger.1 mS_writeInteger.1 ∈ zCW := zsel 62 (y := mS_writeInteger.1) (n := 5) (by decide +kernel) rfl
theorem sS_writeComponents : Cond.selects mS_writeComponents.1.cls mS_writeComponents.1 mS_writeComponents.1 ∈ zCW := zsel 63 (y := mS_writeComponents.1) (n := 5) (by decide +kernel) rfl
theorem sS_endElement : Cond.selects mS_endElement.1.cls mS_endElement.1 mS_endElement.1 ∈ zCW := zsel 64 (y := mS_endElement.1) (n := 5) (by decide +kernel) rfl
theorem sD_keepWritten : Cond.selects mD_keepWritten.1.cls mD_keepWritten.1 mD_keepWritten.1 ∈ zCW := zsel 65 (y := mD_keepWritten.1) (n := 17) (by decide +kernel) rfl
theorem sD_refuseMessage : Cond.selects mD_refuseMessage.1.cls mD_refuseMessage.1 mD_refuseMessage.1 ∈ zCW := zsel 66 (y := mD_refuseMessage.1) (n := 17) (by decide +kernel) rfl
theorem sD_wasServed : Cond.selects mD_wasServed.1.cls mD_wasServed.1 mD_wasServed.1 ∈ zCW := zsel 67 (y := mD_wasServed.1) (n := 17) (by decide +kernel) rfl
theorem sD_markServed : Cond.selects mD_markServed.1.cls mD_markServed.1 mD_markServed.1 ∈ zCW := zsel 68 (y := mD_markServed.1) (n := 17) (by decide +kernel) rfl
theorem sD_sayNoValue : Cond.selects mD_sayNoValue.1.cls mD_sayNoValue.1 mD_sayNoValue.1 ∈ zCW := zsel 69 (y := mD_sayNoValue.1) (n := 17) (by decide +kernel) rfl
theorem sM_leave : Cond.selects mM_leave.1.cls mM_leave.1 mM_leave.1 ∈ zCW := zsel 70 (y := mM_leave.1) (n := 59) (by decide +kernel) rfl
theorem sM_definition : Cond.selects mM_definition.1.cls mM_definition.1 mM_definition.1 ∈ zCW := zsel 71 (y := mM_definition.1) (n := 59) (by decide +kernel) rfl
theorem sM_look : Cond.selects mM_look.1.cls mM_look.1 mM_look.1 ∈ zCW := zsel 72 (y := mM_look.1) (n := 59) (by decide +kernel) rfl
theorem sM_stop : Cond.selects mM_stop.1.cls mM_stop.1 mM_stop.1 ∈ zCW := zsel 73 (y := mM_stop.1) (n := 59) (by decide +kernel) rfl
theorem sM_need : Cond.selects mM_need.1.cls mM_need.1 mM_need.1 ∈ zCW := zsel 74 (y := mM_need.1) (n := 59) (by decide +kernel) rfl
theorem sM_whole : Cond.selects mM_whole.1.cls mM_whole.1 mM_whole.1 ∈ zCW := zsel 75 (y := mM_whole.1) (n := 59) (by decide +kernel) rfl
theorem sM_begin : Cond.selects mM_begin.1.cls mM_begin.1 mM_begin.1 ∈ zCW := zsel 76 (y := mM_begin.1) (n := 59) (by decide +kernel) rfl
theorem sM_tagged : Cond.selects mM_tagged.1.cls mM_tagged.1 mM_tagged.1 ∈ zCW := zsel 77 (y := mM_tagged.1) (n := 59) (by decide +kernel) rfl
theorem sM_add : Cond.selects mM_add.1.cls mM_add.1 mM_add.1 ∈ zCW := zsel 78 (y := mM_add.1) (n := 59) (by decide +kernel) rfl
theorem sM_push : Cond.selects mM_push.1.cls mM_push.1 mM_push.1 ∈ zCW := zsel 79 (y := mM_push.1) (n := 59) (by decide +kernel) rfl
theorem sM_named : Cond.selects mM_named.1.cls mM_named.1 mM_named.1 ∈ zCW := zsel 80 (y := mM_named.1) (n := 59) (by decide +kernel) rfl
theorem sM_ranged : Cond.selects mM_ranged.1.cls mM_ranged.1 mM_ranged.1 ∈ zCW := zsel 81 (y := mM_ranged.1) (n := 59) (by decide +kernel) rfl
theorem sM_numeral : Cond.selects mM_numeral.1.cls mM_numeral.1 mM_numeral.1 ∈ zCW := zsel 82 (y := mM_numeral.1) (n := 59) (by decide +kernel) rfl
theorem sM_end : Cond.selects mM_end.1.cls mM_end.1 mM_end.1 ∈ zCW := zsel 83 (y := mM_end.1) (n := 59) (by decide +kernel) rfl
theorem sM_component : Cond.selects mM_component.1.cls mM_component.1 mM_component.1 ∈ zCW := zsel 84 (y := mM_component.1) (n := 59) (by decide +kernel) rfl
theorem sM_unwrap : Cond.selects mM_unwrap.1.cls mM_unwrap.1 mM_unwrap.1 ∈ zCW := zsel 85 (y := mM_unwrap.1) (n := 59) (by decide +kernel) rfl
theorem sM_clashes : Cond.selects mM_clashes.1.cls mM_clashes.1 mM_clashes.1 ∈ zCW := zsel 86 (y := mM_clashes.1) (n := 59) (by decide +kernel) rfl
theorem sM_asked : Cond.selects mM_asked.1.cls mM_asked.1 mM_asked.1 ∈ zCW := zsel 87 (y := mM_asked.1) (n := 59) (by decide +kernel) rfl
theorem sM_typeOf : Cond.selects mM_typeOf.1.cls mM_typeOf.1 mM_typeOf.1 ∈ zCW := zsel 88 (y := mM_typeOf.1) (n := 59) (by decide +kernel) rfl
theorem sM_load : Cond.selects mM_load.1.cls mM_load.1 mM_load.1 ∈ zCW := zsel 89 (y := mM_load.1) (n := 59) (by decide +kernel) rfl
theorem sM_isValue : Cond.selects mM_isValue.1.cls mM_isValue.1 mM_isValue.1 ∈ zCW := zsel 90 (y := mM_isValue.1) (n := 59) (by decide +kernel) rfl
theorem sM_element : Cond.selects mM_element.1.cls mM_element.1 mM_element.1 ∈ zCW := zsel 91 (y := mM_element.1) (n := 59) (by decide +kernel) rfl
theorem sM_next : Cond.selects mM_next.1.cls mM_next.1 mM_next.1 ∈ zCW := zsel 92 (y := mM_next.1) (n := 59) (by decide +kernel) rfl
theorem sM_bound : Cond.selects mM_bound.1.cls mM_bound.1 mM_bound.1 ∈ zCW := zsel 93 (y := mM_bound.1) (n := 59) (by decide +kernel) rfl
theorem sM_enter : Cond.selects mM_enter.1.cls mM_enter.1 mM_enter.1 ∈ zCW := zsel 94 (y := mM_enter.1) (n := 59) (by decide +kernel) rfl
theorem sM_length : Cond.selects mM_length.1.cls mM_length.1 mM_length.1 ∈ zCW := zsel 95 (y := mM_length.1) (n := 59) (by decide +kernel) rfl
theorem sM_frame : Cond.selects mM_frame.1.cls mM_frame.1 mM_frame.1 ∈ zCW := zsel 96 (y := mM_frame.1) (n := 59) (by decide +kernel) rfl
theorem sM_adds : Cond.selects mM_adds.1.cls mM_adds.1 mM_adds.1 ∈ zCW := zsel 97 (y := mM_adds.1) (n := 59) (by decide +kernel) rfl
theorem sM_inner : Cond.selects mM_inner.1.cls mM_inner.1 mM_inner.1 ∈ zCW := zsel 98 (y := mM_inner.1) (n := 59) (by decide +kernel) rfl
theorem sM_want : Cond.selects mM_want.1.cls mM_want.1 mM_want.1 ∈ zCW := zsel 99 (y := mM_want.1) (n := 59) (by decide +kernel) rfl
theorem sM_ranging : Cond.selects mM_ranging.1.cls mM_ranging.1 mM_ranging.1 ∈ zCW := zsel 100 (y := mM_ranging.1) (n := 59) (by decide +kernel) rfl
theorem sM_align : Cond.selects mM_align.1.cls mM_align.1 mM_align.1 ∈ zCW := zsel 101 (y := mM_align.1) (n := 59) (by decide +kernel) rfl
theorem sM_some : Cond.selects mM_some.1.cls mM_some.1 mM_some.1 ∈ zCW := zsel 102 (y := mM_some.1) (n := 59) (by decide +kernel) rfl
theorem sM_bit : Cond.selects mM_bit.1.cls mM_bit.1 mM_bit.1 ∈ zCW := zsel 103 (y := mM_bit.1) (n := 59) (by decide +kernel) rfl
theorem sM_rank : Cond.selects mM_rank.1.cls mM_rank.1 mM_rank.1 ∈ zCW := zsel 104 (y := mM_rank.1) (n := 59) (by decide +kernel) rfl
theorem sM_counted : Cond.selects mM_counted.1.cls mM_counted.1 mM_counted.1 ∈ zCW := zsel 105 (y := mM_counted.1) (n := 59) (by decide +kernel) rfl
theorem sM_goOn : Cond.selects mM_goOn.1.cls mM_goOn.1 mM_goOn.1 ∈ zCW := zsel 106 (y := mM_goOn.1) (n := 59) (by decide +kernel) rfl
theorem sM_isEnd : Cond.selects mM_isEnd.1.cls mM_isEnd.1 mM_isEnd.1 ∈ zCW := zsel 107 (y := mM_isEnd.1) (n := 59) (by decide +kernel) rfl
theorem sM_baseOf : Cond.selects mM_baseOf.1.cls mM_baseOf.1 mM_baseOf.1 ∈ zCW := zsel 108 (y := mM_baseOf.1) (n := 59) (by decide +kernel) rfl
theorem sM_leaveFrame : Cond.selects mM_leaveFrame.1.cls mM_leaveFrame.1 mM_leaveFrame.1 ∈ zCW := zsel 109 (y := mM_leaveFrame.1) (n := 59) (by decide +kernel) rfl
theorem sM_absent : Cond.selects mM_absent.1.cls mM_absent.1 mM_absent.1 ∈ zCW := zsel 110 (y := mM_absent.1) (n := 59) (by decide +kernel) rfl
theorem sM_goOnPacked : Cond.selects mM_goOnPacked.1.cls mM_goOnPacked.1 mM_goOnPacked.1 ∈ zCW := zsel 111 (y := mM_goOnPacked.1) (n := 59) (by decide +kernel) rfl
theorem sM_settle : Cond.selects mM_settle.1.cls mM_settle.1 mM_settle.1 ∈ zCW := zsel 112 (y := mM_settle.1) (n := 59) (by decide +kernel) rfl
theorem sM_write : Cond.selects mM_write.1.cls mM_write.1 mM_write.1 ∈ zCW := zsel 113 (y := mM_write.1) (n := 59) (by decide +kernel) rfl
theorem sM_isLeft : Cond.selects mM_isLeft.1.cls mM_isLeft.1 mM_isLeft.1 ∈ zCW := zsel 114 (y := mM_isLeft.1) (n := 59) (by decide +kernel) rfl
theorem sM_encode : Cond.selects mM_encode.1.cls mM_encode.1 mM_encode.1 ∈ zCW := zsel 115 (y := mM_encode.1) (n := 59) (by decide +kernel) rfl
theorem sM_make : Cond.selects mM_make.1.cls mM_make.1 mM_make.1 ∈ zCW := zsel 116 (y := mM_make.1) (n := 59) (by decide +kernel) rfl
theorem sM_packed : Cond.selects mM_packed.1.cls mM_packed.1 mM_packed.1 ∈ zCW := zsel 117 (y := mM_packed.1) (n := 59) (by decide +kernel) rfl
theorem sM_bring : Cond.selects mM_bring.1.cls mM_bring.1 mM_bring.1 ∈ zCW := zsel 118 (y := mM_bring.1) (n := 59) (by decide +kernel) rfl
theorem sM_bringCount : Cond.selects mM_bringCount.1.cls mM_bringCount.1 mM_bringCount.1 ∈ zCW := zsel 119 (y := mM_bringCount.1) (n := 59) (by decide +kernel) rfl
theorem sM_fill : Cond.selects mM_fill.1.cls mM_fill.1 mM_fill.1 ∈ zCW := zsel 120 (y := mM_fill.1) (n := 59) (by decide +kernel) rfl
theorem sM_bringOf : Cond.selects mM_bringOf.1.cls mM_bringOf.1 mM_bringOf.1 ∈ zCW := zsel 121 (y := mM_bringOf.1) (n := 59) (by decide +kernel) rfl
theorem sM_marks : Cond.selects mM_marks.1.cls mM_marks.1 mM_marks.1 ∈ zCW := zsel 122 (y := mM_marks.1) (n := 59) (by decide +kernel) rfl
theorem sM_fails : Cond.selects mM_fails.1.cls mM_fails.1 mM_fails.1 ∈ zCW := zsel 123 (y := mM_fails.1) (n := 59) (by decide +kernel) rfl
theorem sM_keep : Cond.selects mM_keep.1.cls mM_keep.1 mM_keep.1 ∈ zCW := zsel 124 (y := mM_keep.1) (n := 59) (by decide +kernel) rfl
theorem sM_reply : Cond.selects mM_reply.1.cls mM_reply.1 mM_reply.1 ∈ zCW := zsel 125 (y := mM_reply.1) (n := 59) (by decide +kernel) rfl
