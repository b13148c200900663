/-! of each class: its words are among the tables', its fields' types, their names are apart -/
theorem rn_wsin {C : String} {T : u_T} {N : Nat} {ps : List Nat} (h : u_ws C T N = ps.filterMap (fun i => lw_tbl[i]?)) (h2 : (u_ws C T N).all goodWord = true) : ∀ w ∈ u_ws C T N, w ∈ rn_tbl := by
  intro w hw
  have hg := List.all_eq_true.mp h2 w hw
  rw [h] at hw
  obtain ⟨i, -, hi⟩ := List.mem_filterMap.mp hw
  exact List.mem_filter.mpr ⟨List.mem_of_getElem? hi, by rw [hg]; rfl⟩
theorem rn_ci0 : ∀ w ∈ u_ws "LastTrick$Clues" rn_F0 5, w ∈ rn_tbl := rn_wsin (ps := [247, 249, 251, 253, 255]) (by decide +kernel) (by decide +kernel)
theorem rn_cn0 : ∀ a, a < 5 → ∀ b, b < 5 → a ≠ b → (rn_F0 a).2.1 ≠ (rn_F0 b).2.1 := by decide +kernel
theorem rn_ct0 : ∀ k, k < 5 → parseFieldDescriptor (rn_F0 k).2.2.1 = some (rn_ft 0 k) := by decide +kernel
theorem rn_ci1 : ∀ w ∈ u_ws "LastTrick$Game" rn_F1 9, w ∈ rn_tbl := rn_wsin (ps := [173, 175, 177, 179, 181, 183, 185, 187, 189]) (by decide +kernel) (by decide +kernel)
theorem rn_cn1 : ∀ a, a < 9 → ∀ b, b < 9 → a ≠ b → (rn_F1 a).2.1 ≠ (rn_F1 b).2.1 := by decide +kernel
theorem rn_ct1 : ∀ k, k < 9 → parseFieldDescriptor (rn_F1 k).2.2.1 = some (rn_ft 1 k) := by decide +kernel
theorem rn_ci2 : ∀ w ∈ u_ws "LastTrick$Judge" rn_F2 3, w ∈ rn_tbl := rn_wsin (ps := [451, 453, 455]) (by decide +kernel) (by decide +kernel)
theorem rn_cn2 : ∀ a, a < 3 → ∀ b, b < 3 → a ≠ b → (rn_F2 a).2.1 ≠ (rn_F2 b).2.1 := by decide +kernel
theorem rn_ct2 : ∀ k, k < 3 → parseFieldDescriptor (rn_F2 k).2.2.1 = some (rn_ft 2 k) := by decide +kernel
theorem rn_ci3 : ∀ w ∈ u_ws "LastTrick$Row" rn_F3 6, w ∈ rn_tbl := rn_wsin (ps := [278, 280, 282, 284, 286, 288]) (by decide +kernel) (by decide +kernel)
theorem rn_cn3 : ∀ a, a < 6 → ∀ b, b < 6 → a ≠ b → (rn_F3 a).2.1 ≠ (rn_F3 b).2.1 := by decide +kernel
theorem rn_ct3 : ∀ k, k < 6 → parseFieldDescriptor (rn_F3 k).2.2.1 = some (rn_ft 3 k) := by decide +kernel
theorem rn_ci4 : ∀ w ∈ u_ws "LastTrick$Search" rn_F4 20, w ∈ rn_tbl := rn_wsin (ps := [401, 403, 405, 407, 409, 411, 413, 415, 417, 419, 421, 423, 425, 427, 429, 431, 433, 435, 437, 439]) (by decide +kernel) (by decide +kernel)
theorem rn_cn4 : ∀ a, a < 20 → ∀ b, b < 20 → a ≠ b → (rn_F4 a).2.1 ≠ (rn_F4 b).2.1 := by decide +kernel
theorem rn_ct4 : ∀ k, k < 20 → parseFieldDescriptor (rn_F4 k).2.2.1 = some (rn_ft 4 k) := by decide +kernel
theorem rn_ci5 : ∀ w ∈ u_ws "LastTrick$Sheet" rn_F5 4, w ∈ rn_tbl := rn_wsin (ps := [472, 474, 476, 478]) (by decide +kernel) (by decide +kernel)
theorem rn_cn5 : ∀ a, a < 4 → ∀ b, b < 4 → a ≠ b → (rn_F5 a).2.1 ≠ (rn_F5 b).2.1 := by decide +kernel
theorem rn_ct5 : ∀ k, k < 4 → parseFieldDescriptor (rn_F5 k).2.2.1 = some (rn_ft 5 k) := by decide +kernel
theorem rn_ci6 : ∀ w ∈ u_ws "LastTrick$State" rn_F6 4, w ∈ rn_tbl := rn_wsin (ps := [302, 304, 306, 308]) (by decide +kernel) (by decide +kernel)
theorem rn_cn6 : ∀ a, a < 4 → ∀ b, b < 4 → a ≠ b → (rn_F6 a).2.1 ≠ (rn_F6 b).2.1 := by decide +kernel
theorem rn_ct6 : ∀ k, k < 4 → parseFieldDescriptor (rn_F6 k).2.2.1 = some (rn_ft 6 k) := by decide +kernel
theorem rn_ci7 : ∀ w ∈ u_ws "LastTrick$Table" rn_F7 7, w ∈ rn_tbl := rn_wsin (ps := [218, 220, 222, 224, 226, 228, 230]) (by decide +kernel) (by decide +kernel)
theorem rn_cn7 : ∀ a, a < 7 → ∀ b, b < 7 → a ≠ b → (rn_F7 a).2.1 ≠ (rn_F7 b).2.1 := by decide +kernel
theorem rn_ct7 : ∀ k, k < 7 → parseFieldDescriptor (rn_F7 k).2.2.1 = some (rn_ft 7 k) := by decide +kernel
theorem rn_ci8 : ∀ w ∈ u_ws "LastTrick$Tape" rn_F8 3, w ∈ rn_tbl := rn_wsin (ps := [107, 109, 111]) (by decide +kernel) (by decide +kernel)
theorem rn_cn8 : ∀ a, a < 3 → ∀ b, b < 3 → a ≠ b → (rn_F8 a).2.1 ≠ (rn_F8 b).2.1 := by decide +kernel
theorem rn_ct8 : ∀ k, k < 3 → parseFieldDescriptor (rn_F8 k).2.2.1 = some (rn_ft 8 k) := by decide +kernel
theorem rn_ci9 : ∀ w ∈ u_ws "LastTrick$Ways" rn_F9 10, w ∈ rn_tbl := rn_wsin (ps := [350, 352, 354, 356, 358, 360, 362, 364, 366, 368]) (by decide +kernel) (by decide +kernel)
theorem rn_cn9 : ∀ a, a < 10 → ∀ b, b < 10 → a ≠ b → (rn_F9 a).2.1 ≠ (rn_F9 b).2.1 := by decide +kernel
theorem rn_ct9 : ∀ k, k < 10 → parseFieldDescriptor (rn_F9 k).2.2.1 = some (rn_ft 9 k) := by decide +kernel
theorem rn_ci10 : ∀ w ∈ u_ws "LastTrick" rn_F10 11, w ∈ rn_tbl := rn_wsin (ps := [492, 494, 496, 498, 500, 502, 504, 506, 508, 510, 512]) (by decide +kernel) (by decide +kernel)
theorem rn_cn10 : ∀ a, a < 11 → ∀ b, b < 11 → a ≠ b → (rn_F10 a).2.1 ≠ (rn_F10 b).2.1 := by decide +kernel
theorem rn_ct10 : ∀ k, k < 11 → parseFieldDescriptor (rn_F10 k).2.2.1 = some (rn_ft 10 k) := by decide +kernel
theorem rn_ci11 : ∀ w ∈ u_ws "LastTrickModel" rn_F11 51, w ∈ rn_tbl := rn_wsin (ps := [1132, 1134, 1136, 1138, 1140, 1142, 1144, 1146, 1148, 1150, 1152, 1154, 1156, 1158, 1160, 1162, 1164, 1166, 1168, 1170, 1172, 1174, 1176, 1178, 1180, 1182, 1184, 1186, 1188, 1190, 1192, 1194, 1196, 1198, 1200, 1202, 1204, 1206, 1208, 1210, 1212, 1214, 1216, 1218, 1220, 1222, 1224, 1226, 1228, 1230, 1232]) (by decide +kernel) (by decide +kernel)
theorem rn_cn11 : ∀ a, a < 51 → ∀ b, b < 51 → a ≠ b → (rn_F11 a).2.1 ≠ (rn_F11 b).2.1 := by decide +kernel
theorem rn_ct11 : ∀ k, k < 51 → parseFieldDescriptor (rn_F11 k).2.2.1 = some (rn_ft 11 k) := by decide +kernel
def rn_cok (ci : Nat) (q : vw_C) : Prop := (∀ w ∈ u_ws q.1 q.2.1 q.2.2, w ∈ rn_tbl) ∧ (∀ a, a < q.2.2 → ∀ b, b < q.2.2 → a ≠ b → (q.2.1 a).2.1 ≠ (q.2.1 b).2.1) ∧ (∀ k, k < q.2.2 → parseFieldDescriptor (q.2.1 k).2.2.1 = some (rn_ft ci k))
theorem rn_cls_ok {ci : Nat} {q : vw_C} (h : rn_cl[ci]? = some q) : rn_cok ci q := by
  match ci, h with
  | 0, h => cases h; exact ⟨rn_ci0, rn_cn0, rn_ct0⟩
  | 1, h => cases h; exact ⟨rn_ci1, rn_cn1, rn_ct1⟩
  | 2, h => cases h; exact ⟨rn_ci2, rn_cn2, rn_ct2⟩
  | 3, h => cases h; exact ⟨rn_ci3, rn_cn3, rn_ct3⟩
  | 4, h => cases h; exact ⟨rn_ci4, rn_cn4, rn_ct4⟩
  | 5, h => cases h; exact ⟨rn_ci5, rn_cn5, rn_ct5⟩
  | 6, h => cases h; exact ⟨rn_ci6, rn_cn6, rn_ct6⟩
  | 7, h => cases h; exact ⟨rn_ci7, rn_cn7, rn_ct7⟩
  | 8, h => cases h; exact ⟨rn_ci8, rn_cn8, rn_ct8⟩
  | 9, h => cases h; exact ⟨rn_ci9, rn_cn9, rn_ct9⟩
  | 10, h => cases h; exact ⟨rn_ci10, rn_cn10, rn_ct10⟩
  | 11, h => cases h; exact ⟨rn_ci11, rn_cn11, rn_ct11⟩
  | k + 12, h => simp [rn_cl] at h
