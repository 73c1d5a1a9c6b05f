/-! WORDS: of classes, fields and methods, by their places in the tables -/
theorem uC : ∀ w ∈ u_ws "NotationDesk$Compiler" TC 10, w ∈ zCW := by
  have h : ∀ k, k < 10 → tables_1[([50, 52, 54, 56, 58, 60, 62, 64, 66, 68] : List Nat).getD k 0]? = some (u_lay "NotationDesk$Compiler" TC k) := by decide +kernel
  intro w hw
  obtain ⟨k, hk, rfl⟩ := List.mem_map.mp hw
  refine zin _ (h k (List.mem_range.mp hk)) ?_
  unfold u_lay
  split <;> rfl
theorem uK : ∀ w ∈ u_ws "NotationDesk$Component" TK 6, w ∈ zCW := by
  have h : ∀ k, k < 6 → tables_1[([466, 468, 470, 472, 474, 476] : List Nat).getD k 0]? = some (u_lay "NotationDesk$Component" TK k) := by decide +kernel
  intro w hw
  obtain ⟨k, hk, rfl⟩ := List.mem_map.mp hw
  refine zin _ (h k (List.mem_range.mp hk)) ?_
  unfold u_lay
  split <;> rfl
theorem uO : ∀ w ∈ u_ws "NotationDesk$OpenReader" TO 4, w ∈ zCW := by
  have h : ∀ k, k < 4 → tables_1[([130, 132, 134, 136] : List Nat).getD k 0]? = some (u_lay "NotationDesk$OpenReader" TO k) := by decide +kernel
  intro w hw
  obtain ⟨k, hk, rfl⟩ := List.mem_map.mp hw
  refine zin _ (h k (List.mem_range.mp hk)) ?_
  unfold u_lay
  split <;> rfl
theorem uP : ∀ w ∈ u_ws "NotationDesk$PackedReader" TP 4, w ∈ zCW := by
  have h : ∀ k, k < 4 → tables_1[([149, 151, 153, 155] : List Nat).getD k 0]? = some (u_lay "NotationDesk$PackedReader" TP k) := by decide +kernel
  intro w hw
  obtain ⟨k, hk, rfl⟩ := List.mem_map.mp hw
  refine zin _ (h k (List.mem_range.mp hk)) ?_
  unfold u_lay
  split <;> rfl
theorem uQ : ∀ w ∈ u_ws "NotationDesk$PackedWriter" TQ 5, w ∈ zCW := by
  have h : ∀ k, k < 5 → tables_1[([191, 193, 195, 197, 199] : List Nat).getD k 0]? = some (u_lay "NotationDesk$PackedWriter" TQ k) := by decide +kernel
  intro w hw
  obtain ⟨k, hk, rfl⟩ := List.mem_map.mp hw
  refine zin _ (h k (List.mem_range.mp hk)) ?_
  unfold u_lay
  split <;> rfl
theorem uS : ∀ w ∈ u_ws "NotationDesk$StrictWriter" TS 5, w ∈ zCW := by
  have h : ∀ k, k < 5 → tables_1[([169, 171, 173, 175, 177] : List Nat).getD k 0]? = some (u_lay "NotationDesk$StrictWriter" TS k) := by decide +kernel
  intro w hw
  obtain ⟨k, hk, rfl⟩ := List.mem_map.mp hw
  refine zin _ (h k (List.mem_range.mp hk)) ?_
  unfold u_lay
  split <;> rfl
theorem uT : ∀ w ∈ u_ws "NotationDesk$Type" TT 12, w ∈ zCW := by
  have h : ∀ k, k < 12 → tables_1[([369, 371, 373, 375, 377, 379, 381, 383, 385, 387, 389, 391] : List Nat).getD k 0]? = some (u_lay "NotationDesk$Type" TT k) := by decide +kernel
  intro w hw
  obtain ⟨k, hk, rfl⟩ := List.mem_map.mp hw
  refine zin _ (h k (List.mem_range.mp hk)) ?_
  unfold u_lay
  split <;> rfl
theorem uV : ∀ w ∈ u_ws "NotationDesk$Value" TV 9, w ∈ zCW := by
  have h : ∀ k, k < 9 → tables_1[([100, 102, 104, 106, 108, 110, 112, 114, 116] : List Nat).getD k 0]? = some (u_lay "NotationDesk$Value" TV k) := by decide +kernel
  intro w hw
  obtain ⟨k, hk, rfl⟩ := List.mem_map.mp hw
  refine zin _ (h k (List.mem_range.mp hk)) ?_
  unfold u_lay
  split <;> rfl
theorem uD : ∀ w ∈ u_ws "NotationDesk" TD 17, w ∈ zCW := by
  have h : ∀ k, k < 17 → tables_1[([220, 222, 224, 226, 228, 230, 232, 234, 236, 238, 240, 242, 244, 246, 248, 250, 252] : List Nat).getD k 0]? = some (u_lay "NotationDesk" TD k) := by decide +kernel
  intro w hw
  obtain ⟨k, hk, rfl⟩ := List.mem_map.mp hw
  refine zin _ (h k (List.mem_range.mp hk)) ?_
  unfold u_lay
  split <;> rfl
theorem uM : ∀ w ∈ u_ws "NotationDeskModel" TM 59, w ∈ zCW := by
  have h : ∀ k, k < 59 → tables_1[([1126, 1128, 1130, 1132, 1134, 1136, 1138, 1140, 1142, 1144, 1146, 1148, 1150, 1152, 1154, 1156, 1158, 1160, 1162, 1164, 1166, 1168, 1170, 1172, 1174, 1176, 1178, 1180, 1182, 1184, 1186, 1188, 1190, 1192, 1194, 1196, 1198, 1200, 1202, 1204, 1206, 1208, 1210, 1212, 1214, 1216, 1218, 1220, 1222, 1224, 1226, 1228, 1230, 1232, 1234, 1236, 1238, 1240, 1242] : List Nat).getD k 0]? = some (u_lay "NotationDeskModel" TM k) := by decide +kernel
  intro w hw
  obtain ⟨k, hk, rfl⟩ := List.mem_map.mp hw
  refine zin _ (h k (List.mem_range.mp hk)) ?_
  unfold u_lay
  split <;> rfl
