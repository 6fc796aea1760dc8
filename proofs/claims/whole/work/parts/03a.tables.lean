/-! THE LAYER V: the machine over a memory of numbers. M: what cells hold (ints, longs), P: which cells references name, sh: what each cell is; cell k lies at v_o E + k. -/
abbrev v_M : Type := (Nat → Nat → Int32) × (Nat → Nat → Int64)
abbrev v_P : Type := Nat → Nat → Option Nat
abbrev v_S : Type := List (Nat × Nat)
abbrev v_E : Type := Launch × va_G × (Nat → ClassId) × Heap × (Nat → Nat) × (Nat → Nat)
def v_o (E : v_E) : Nat := E.2.2.2.1.size
def v_rf (E : v_E) (k : Nat) : Value := .ref (v_o E + k)
def v_st (E : v_E) (i : Nat) : Value := .ref (E.2.2.2.2.1 i)
def v_rq (E : v_E) (r : Option Nat) : Value := match r with
  | none => .null
  | some k => v_rf E k
def v_wr (M : v_M) (k i : Nat) (v : Int32) : v_M := (fun k' => if k' = k then upd (M.1 k) i v else M.1 k', M.2)
def v_wl (M : v_M) (k i : Nat) (v : Int64) : v_M := (M.1, fun k' => if k' = k then vp_updL (M.2 k) i v else M.2 k')
def v_row (M : v_M) (k : Nat) (f : Nat → Int32) : v_M := (fun k' => if k' = k then f else M.1 k', M.2)
def v_wp (P : v_P) (k i : Nat) (v : Option Nat) : v_P := fun k' => if k' = k then (fun j => if j = i then v else P k j) else P k'
def v_cn : Nat → String := fun ci => match ci with
  | 0 => RX0
  | 1 => RX1
  | 2 => RX2
  | 3 => RX3
  | 4 => RX4
  | 5 => RX5
  | 6 => RX6
  | 7 => RX7
  | 8 => RX8
  | 9 => RX9
  | 10 => RX10
  | 11 => RX11
  | _ => RX12
def v_T : Nat → u_T := fun ci => match ci with
  | 0 => TX0
  | 1 => TX1
  | 2 => TX2
  | 3 => TX3
  | 4 => TX4
  | 5 => TX5
  | 6 => TX6
  | 7 => TX7
  | 8 => TX8
  | 9 => TX9
  | 10 => TX10
  | 11 => TX11
  | _ => TX12
def v_ty : Nat → Nat → FieldType := fun ci => match ci with
  | 0 => tyX0
  | 1 => tyX1
  | 2 => tyX2
  | 3 => tyX3
  | 4 => tyX4
  | 5 => tyX5
  | 6 => tyX6
  | 7 => tyX7
  | 8 => tyX8
  | 9 => tyX9
  | 10 => tyX10
  | 11 => tyX11
  | _ => tyX12
def v_N : Nat → Nat := fun ci => match ci with
  | 0 => 8
  | 1 => 6
  | 2 => 10
  | 3 => 10
  | 4 => 7
  | 5 => 10
  | 6 => 6
  | 7 => 7
  | 8 => 13
  | 9 => 7
  | 10 => 7
  | 11 => 14
  | _ => 93
theorem v_cl : ∀ ci : Nat, ci < 13 → vwCl[ci]? = some (v_cn ci, v_T ci, v_N ci) := fun ci h => match ci, h with
  | 0, _ => rfl
  | 1, _ => rfl
  | 2, _ => rfl
  | 3, _ => rfl
  | 4, _ => rfl
  | 5, _ => rfl
  | 6, _ => rfl
  | 7, _ => rfl
  | 8, _ => rfl
  | 9, _ => rfl
  | 10, _ => rfl
  | 11, _ => rfl
  | 12, _ => rfl
  | n + 13, h => absurd h (by omega)
theorem v_nm : ∀ ci : Nat, ci < 13 → ∀ a, a < v_N ci → ∀ b, b < v_N ci → a ≠ b → (v_T ci a).2.1 ≠ (v_T ci b).2.1 := fun ci h => match ci, h with
  | 0, _ => nmX0
  | 1, _ => nmX1
  | 2, _ => nmX2
  | 3, _ => nmX3
  | 4, _ => nmX4
  | 5, _ => nmX5
  | 6, _ => nmX6
  | 7, _ => nmX7
  | 8, _ => nmX8
  | 9, _ => nmX9
  | 10, _ => nmX10
  | 11, _ => nmX11
  | 12, _ => nmX12
  | n + 13, h => absurd h (by omega)
theorem v_tok : ∀ ci : Nat, ci < 13 → ∀ k, k < v_N ci → parseFieldDescriptor (v_T ci k).2.2.1 = some (v_ty ci k) := fun ci h => match ci, h with
  | 0, _ => tyX0_ok
  | 1, _ => tyX1_ok
  | 2, _ => tyX2_ok
  | 3, _ => tyX3_ok
  | 4, _ => tyX4_ok
  | 5, _ => tyX5_ok
  | 6, _ => tyX6_ok
  | 7, _ => tyX7_ok
  | 8, _ => tyX8_ok
  | 9, _ => tyX9_ok
  | 10, _ => tyX10_ok
  | 11, _ => tyX11_ok
  | 12, _ => tyX12_ok
  | n + 13, h => absurd h (by omega)
/-- the words that every method carries along -/
def v_bw : List Cond := lw_tbl.filter goodWord
theorem v_in {w : Cond} (i : Nat) (h : tables_1[i]? = some w) (hg : goodWord w = true) : w ∈ v_bw := List.mem_filter.mpr ⟨List.mem_append_right _ (List.mem_of_getElem? h), hg⟩
theorem v_inq {w : Cond} (i : Nat) (h : (k2_sels lw_privs)[i]? = some w) (hg : goodWord w = true) : w ∈ v_bw := List.mem_filter.mpr ⟨List.mem_append_left _ (List.mem_of_getElem? h), hg⟩
theorem v_inl {ws : List Cond} (ps : List Nat) (h : ws = ps.filterMap (fun i => tables_1[i]?)) (hg : ws.all goodWord = true) : ∀ w ∈ ws, w ∈ v_bw := by
  intro w hw
  have h1 := List.all_eq_true.mp hg w hw
  rw [h] at hw
  obtain ⟨i, -, hi⟩ := List.mem_filterMap.mp hw
  exact v_in i hi h1
set_option maxRecDepth 100000 in
theorem v_lay0 : ∀ w ∈ u_ws RX0 TX0 8, w ∈ v_bw := v_inl [327, 329, 331, 333, 335, 337, 339, 341] (by decide +kernel) (by decide +kernel)
set_option maxRecDepth 100000 in
theorem v_lay1 : ∀ w ∈ u_ws RX1 TX1 6, w ∈ v_bw := v_inl [179, 181, 183, 185, 187, 189] (by decide +kernel) (by decide +kernel)
set_option maxRecDepth 100000 in
theorem v_lay2 : ∀ w ∈ u_ws RX2 TX2 10, w ∈ v_bw := v_inl [145, 147, 149, 151, 153, 155, 157, 159, 161, 163] (by decide +kernel) (by decide +kernel)
set_option maxRecDepth 100000 in
theorem v_lay3 : ∀ w ∈ u_ws RX3 TX3 10, w ∈ v_bw := v_inl [60, 62, 64, 66, 68, 70, 72, 74, 76, 78] (by decide +kernel) (by decide +kernel)
set_option maxRecDepth 100000 in
theorem v_lay4 : ∀ w ∈ u_ws RX4 TX4 7, w ∈ v_bw := v_inl [109, 111, 113, 115, 117, 119, 121] (by decide +kernel) (by decide +kernel)
set_option maxRecDepth 100000 in
theorem v_lay5 : ∀ w ∈ u_ws RX5 TX5 10, w ∈ v_bw := v_inl [263, 265, 267, 269, 271, 273, 275, 277, 279, 281] (by decide +kernel) (by decide +kernel)
set_option maxRecDepth 100000 in
theorem v_lay6 : ∀ w ∈ u_ws RX6 TX6 6, w ∈ v_bw := v_inl [452, 454, 456, 458, 460, 462] (by decide +kernel) (by decide +kernel)
set_option maxRecDepth 100000 in
theorem v_lay7 : ∀ w ∈ u_ws RX7 TX7 7, w ∈ v_bw := v_inl [292, 294, 296, 298, 300, 302, 304] (by decide +kernel) (by decide +kernel)
set_option maxRecDepth 100000 in
theorem v_lay8 : ∀ w ∈ u_ws RX8 TX8 13, w ∈ v_bw := v_inl [380, 382, 384, 386, 388, 390, 392, 394, 396, 398, 400, 402, 404] (by decide +kernel) (by decide +kernel)
set_option maxRecDepth 100000 in
theorem v_lay9 : ∀ w ∈ u_ws RX9 TX9 7, w ∈ v_bw := v_inl [216, 218, 220, 222, 224, 226, 228] (by decide +kernel) (by decide +kernel)
set_option maxRecDepth 100000 in
theorem v_lay10 : ∀ w ∈ u_ws RX10 TX10 7, w ∈ v_bw := v_inl [421, 423, 425, 427, 429, 431, 433] (by decide +kernel) (by decide +kernel)
set_option maxRecDepth 100000 in
theorem v_lay11 : ∀ w ∈ u_ws RX11 TX11 14, w ∈ v_bw := v_inl [480, 482, 484, 486, 488, 490, 492, 494, 496, 498, 500, 502, 504, 506] (by decide +kernel) (by decide +kernel)
set_option maxRecDepth 100000 in
theorem v_lay12 : ∀ w ∈ u_ws RX12 TX12 93, w ∈ v_bw := v_inl [1212, 1214, 1216, 1218, 1220, 1222, 1224, 1226, 1228, 1230, 1232, 1234, 1236, 1238, 1240, 1242, 1244, 1246, 1248, 1250, 1252, 1254, 1256, 1258, 1260, 1262, 1264, 1266, 1268, 1270, 1272, 1274, 1276, 1278, 1280, 1282, 1284, 1286, 1288, 1290, 1292, 1294, 1296, 1298, 1300, 1302, 1304, 1306, 1308, 1310, 1312, 1314, 1316, 1318, 1320, 1322, 1324, 1326, 1328, 1330, 1332, 1334, 1336, 1338, 1340, 1342, 1344, 1346, 1348, 1350, 1352, 1354, 1356, 1358, 1360, 1362, 1364, 1366, 1368, 1370, 1372, 1374, 1376, 1378, 1380, 1382, 1384, 1386, 1388, 1390, 1392, 1394, 1396] (by decide +kernel) (by decide +kernel)
theorem v_lay : ∀ ci : Nat, ci < 13 → ∀ w ∈ u_ws (v_cn ci) (v_T ci) (v_N ci), w ∈ v_bw := fun ci h => match ci, h with
  | 0, _ => v_lay0
  | 1, _ => v_lay1
  | 2, _ => v_lay2
  | 3, _ => v_lay3
  | 4, _ => v_lay4
  | 5, _ => v_lay5
  | 6, _ => v_lay6
  | 7, _ => v_lay7
  | 8, _ => v_lay8
  | 9, _ => v_lay9
  | 10, _ => v_lay10
  | 11, _ => v_lay11
  | 12, _ => v_lay12
  | n + 13, h => absurd h (by omega)
