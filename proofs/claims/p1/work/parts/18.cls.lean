/-! ===== what the words say of the classes ===== -/
theorem zsubw {ws : List Cond} (ps : List Nat) (h1 : ws = ps.filterMap (fun i => lw_tbl[i]?)) (h2 : ws.all goodWord = true) : ∀ w ∈ ws, w ∈ zGd := by
  intro w hw
  have h3 := List.all_eq_true.mp h2 w hw
  rw [h1] at hw
  obtain ⟨i, -, hi⟩ := List.mem_filterMap.mp hw
  exact List.mem_filter.mpr ⟨List.mem_of_getElem? hi, h3⟩
noncomputable def zdfB (fs : zA) (ty : Nat → FieldType) (N : Nat) : Bool := (List.range N).all fun k => match ty k with
  | .int => zeq (zget fs k (5, 0, 0)) (0, 0, 0)
  | .boolean => zeq (zget fs k (5, 0, 0)) (0, 0, 0)
  | .long => zeq (zget fs k (5, 0, 0)) (2, 0, 0)
  | .object _ => zeq (zget fs k (5, 0, 0)) (5, 0, 0)
  | .array _ => zeq (zget fs k (5, 0, 0)) (5, 0, 0)
  | _ => false
theorem zdfB_ok {fs : zA} {ty : Nat → FieldType} {N : Nat} (h : zdfB fs ty N = true) : ∀ (ad : List Nat) (b k : Nat), k < N → zRV ad b (zget fs k (5, 0, 0)) (defaultValue (ty k)) := by
  intro ad b k hk
  have h1 := List.all_eq_true.mp h k (List.mem_range.mpr hk)
  split at h1
  · rename_i q; rw [zeq_spec h1, q]; exact rfl
  · rename_i q; rw [zeq_spec h1, q]; exact rfl
  · rename_i q; rw [zeq_spec h1, q]; exact rfl
  · rename_i q; rw [zeq_spec h1, q]; exact rfl
  · rename_i q; rw [zeq_spec h1, q]; exact rfl
  · cases h1
def zty : Nat → Nat → FieldType
  | 0 => tyX0
  | 1 => tyX1
  | 2 => tyX2
  | 3 => tyX3
  | 4 => tyX4
  | 5 => tyX5
  | 6 => tyX6
  | 7 => tyX7
  | 8 => tyX8
  | 9 => tyX9
  | _ => tyX10
theorem zlw_0 : ∀ w ∈ u_ws RX0 TX0 3, w ∈ zGd   := zsubw [275, 277, 279] (by decide +kernel) (by decide +kernel)
theorem zin_0 : Cond.instantiable RX0 3 ∈ zGd := zat_mem (p := 249) (by decide +kernel)
theorem zit_0 : Cond.initialized RX0 ∈ zGd := zat_mem (p := 132) (by decide +kernel)
theorem zdf_0 : ∃ fs, zobjs[0]? = some (3, fs) ∧ zdfB fs tyX0 3 = true := ⟨_, rfl, by decide +kernel⟩
theorem zlw_1 : ∀ w ∈ u_ws RX1 TX1 6, w ∈ zGd   := zsubw [367, 369, 371, 373, 375, 377] (by decide +kernel) (by decide +kernel)
theorem zin_1 : Cond.instantiable RX1 6 ∈ zGd := zat_mem (p := 353) (by decide +kernel)
theorem zit_1 : Cond.initialized RX1 ∈ zGd := zat_mem (p := 137) (by decide +kernel)
theorem zdf_1 : ∃ fs, zobjs[1]? = some (6, fs) ∧ zdfB fs tyX1 6 = true := ⟨_, rfl, by decide +kernel⟩
theorem zlw_2 : ∀ w ∈ u_ws RX2 TX2 7, w ∈ zGd   := zsubw [297, 299, 301, 303, 305, 307, 309] (by decide +kernel) (by decide +kernel)
theorem zin_2 : Cond.instantiable RX2 7 ∈ zGd := zat_mem (p := 285) (by decide +kernel)
theorem zit_2 : Cond.initialized RX2 ∈ zGd := zat_mem (p := 134) (by decide +kernel)
theorem zdf_2 : ∃ fs, zobjs[2]? = some (7, fs) ∧ zdfB fs tyX2 7 = true := ⟨_, rfl, by decide +kernel⟩
theorem zlw_3 : ∀ w ∈ u_ws RX3 TX3 4, w ∈ zGd   := zsubw [343, 345, 347, 349] (by decide +kernel) (by decide +kernel)
theorem zin_3 : Cond.instantiable RX3 4 ∈ zGd := zat_mem (p := 313) (by decide +kernel)
theorem zit_3 : Cond.initialized RX3 ∈ zGd := zat_mem (p := 135) (by decide +kernel)
theorem zdf_3 : ∃ fs, zobjs[3]? = some (4, fs) ∧ zdfB fs tyX3 4 = true := ⟨_, rfl, by decide +kernel⟩
theorem zlw_4 : ∀ w ∈ u_ws RX4 TX4 8, w ∈ zGd   := zsubw [173, 175, 177, 179, 181, 183, 185, 187] (by decide +kernel) (by decide +kernel)
theorem zin_4 : Cond.instantiable RX4 8 ∈ zGd := zat_mem (p := 160) (by decide +kernel)
theorem zit_4 : Cond.initialized RX4 ∈ zGd := zat_mem (p := 128) (by decide +kernel)
theorem zdf_4 : ∃ fs, zobjs[4]? = some (8, fs) ∧ zdfB fs tyX4 8 = true := ⟨_, rfl, by decide +kernel⟩
theorem zlw_5 : ∀ w ∈ u_ws RX5 TX5 2, w ∈ zGd   := zsubw [266, 268] (by decide +kernel) (by decide +kernel)
theorem zin_5 : Cond.instantiable RX5 2 ∈ zGd := zat_mem (p := 255) (by decide +kernel)
theorem zit_5 : Cond.initialized RX5 ∈ zGd := zat_mem (p := 133) (by decide +kernel)
theorem zdf_5 : ∃ fs, zobjs[5]? = some (2, fs) ∧ zdfB fs tyX5 2 = true := ⟨_, rfl, by decide +kernel⟩
theorem zlw_6 : ∀ w ∈ u_ws RX6 TX6 5, w ∈ zGd   := zsubw [235, 237, 239, 241, 243] (by decide +kernel) (by decide +kernel)
theorem zin_6 : Cond.instantiable RX6 5 ∈ zGd := zat_mem (p := 192) (by decide +kernel)
theorem zit_6 : Cond.initialized RX6 ∈ zGd := zat_mem (p := 129) (by decide +kernel)
theorem zdf_6 : ∃ fs, zobjs[6]? = some (5, fs) ∧ zdfB fs tyX6 5 = true := ⟨_, rfl, by decide +kernel⟩
theorem zlw_7 : ∀ w ∈ u_ws RX7 TX7 3, w ∈ zGd   := zsubw [328, 330, 332] (by decide +kernel) (by decide +kernel)
theorem zin_7 : Cond.instantiable RX7 3 ∈ zGd := zat_mem (p := 319) (by decide +kernel)
theorem zit_7 : Cond.initialized RX7 ∈ zGd := zat_mem (p := 136) (by decide +kernel)
theorem zdf_7 : ∃ fs, zobjs[7]? = some (3, fs) ∧ zdfB fs tyX7 3 = true := ⟨_, rfl, by decide +kernel⟩
theorem zlw_8 : ∀ w ∈ u_ws RX8 TX8 4, w ∈ zGd   := zsubw [210, 212, 214, 216] (by decide +kernel) (by decide +kernel)
theorem zin_8 : Cond.instantiable RX8 4 ∈ zGd := zat_mem (p := 198) (by decide +kernel)
theorem zit_8 : Cond.initialized RX8 ∈ zGd := zat_mem (p := 130) (by decide +kernel)
theorem zdf_8 : ∃ fs, zobjs[8]? = some (4, fs) ∧ zdfB fs tyX8 4 = true := ⟨_, rfl, by decide +kernel⟩
theorem zlw_9 : ∀ w ∈ u_ws RX9 TX9 14, w ∈ zGd   := zsubw [394, 396, 398, 400, 402, 404, 406, 408, 410, 412, 414, 416, 418, 420] (by decide +kernel) (by decide +kernel)
theorem zin_9 : Cond.instantiable RX9 14 ∈ zGd := zat_mem (p := 152) (by decide +kernel)
theorem zit_9 : Cond.initialized RX9 ∈ zGd := zat_mem (p := 127) (by decide +kernel)
theorem zdf_9 : ∃ fs, zobjs[9]? = some (14, fs) ∧ zdfB fs tyX9 14 = true := ⟨_, rfl, by decide +kernel⟩
theorem zlw_10 : ∀ w ∈ u_ws RX10 TX10 53, w ∈ zGd   := zsubw [1371, 1373, 1375, 1377, 1379, 1381, 1383, 1385, 1387, 1389, 1391, 1393, 1395, 1397, 1399, 1401, 1403, 1405, 1407, 1409, 1411, 1413, 1415, 1417, 1419, 1421, 1423, 1425, 1427, 1429, 1431, 1433, 1435, 1437, 1439, 1441, 1443, 1445, 1447, 1449, 1451, 1453, 1455, 1457, 1459, 1461, 1463, 1465, 1467, 1469, 1471, 1473, 1475] (by decide +kernel) (by decide +kernel)
theorem zin_10 : Cond.instantiable RX10 53 ∈ zGd := zat_mem (p := 1313) (by decide +kernel)
theorem zit_10 : Cond.initialized RX10 ∈ zGd := zat_mem (p := 138) (by decide +kernel)
theorem zdf_10 : ∃ fs, zobjs[10]? = some (53, fs) ∧ zdfB fs tyX10 53 = true := ⟨_, rfl, by decide +kernel⟩
theorem zcls {ci : Nat} {C : String} {T : u_T} {N : Nat} (h : vwCl[ci]? = some (C, T, N)) : ci < 100 ∧ (∀ w ∈ u_ws C T N, w ∈ zGd) ∧ (∀ k, k < N → parseFieldDescriptor (T k).2.2.1 = some (zty ci k)) ∧ (∀ a, a < N → ∀ b, b < N → a ≠ b → (T a).2.1 ≠ (T b).2.1) ∧ Cond.instantiable C N ∈ zGd ∧ Cond.initialized C ∈ zGd ∧ ∃ fs, zobjs[ci]? = some (N, fs) ∧ zdfB fs (zty ci) N = true := by
  match ci, h with
  | 0, h => have h : some (RX0, TX0, 3) = some (C, T, N) := h; cases h; exact ⟨by decide, zlw_0, tyX0_ok, nmX0, zin_0, zit_0, zdf_0⟩
  | 1, h => have h : some (RX1, TX1, 6) = some (C, T, N) := h; cases h; exact ⟨by decide, zlw_1, tyX1_ok, nmX1, zin_1, zit_1, zdf_1⟩
  | 2, h => have h : some (RX2, TX2, 7) = some (C, T, N) := h; cases h; exact ⟨by decide, zlw_2, tyX2_ok, nmX2, zin_2, zit_2, zdf_2⟩
  | 3, h => have h : some (RX3, TX3, 4) = some (C, T, N) := h; cases h; exact ⟨by decide, zlw_3, tyX3_ok, nmX3, zin_3, zit_3, zdf_3⟩
  | 4, h => have h : some (RX4, TX4, 8) = some (C, T, N) := h; cases h; exact ⟨by decide, zlw_4, tyX4_ok, nmX4, zin_4, zit_4, zdf_4⟩
  | 5, h => have h : some (RX5, TX5, 2) = some (C, T, N) := h; cases h; exact ⟨by decide, zlw_5, tyX5_ok, nmX5, zin_5, zit_5, zdf_5⟩
  | 6, h => have h : some (RX6, TX6, 5) = some (C, T, N) := h; cases h; exact ⟨by decide, zlw_6, tyX6_ok, nmX6, zin_6, zit_6, zdf_6⟩
  | 7, h => have h : some (RX7, TX7, 3) = some (C, T, N) := h; cases h; exact ⟨by decide, zlw_7, tyX7_ok, nmX7, zin_7, zit_7, zdf_7⟩
  | 8, h => have h : some (RX8, TX8, 4) = some (C, T, N) := h; cases h; exact ⟨by decide, zlw_8, tyX8_ok, nmX8, zin_8, zit_8, zdf_8⟩
  | 9, h => have h : some (RX9, TX9, 14) = some (C, T, N) := h; cases h; exact ⟨by decide, zlw_9, tyX9_ok, nmX9, zin_9, zit_9, zdf_9⟩
  | 10, h => have h : some (RX10, TX10, 53) = some (C, T, N) := h; cases h; exact ⟨by decide, zlw_10, tyX10_ok, nmX10, zin_10, zit_10, zdf_10⟩
  | n + 11, h => cases h
theorem zac_I : Cond.arrayClass (newarray.typeOf .int) ∈ zGd := zat_mem (p := 220) (by decide +kernel)
theorem zac_B : Cond.arrayClass (newarray.typeOf .byte) ∈ zGd := zat_mem (p := 190) (by decide +kernel)
theorem zac_Z : Cond.arrayClass (newarray.typeOf .boolean) ∈ zGd := zat_mem (p := 271) (by decide +kernel)
theorem zac_J : Cond.arrayClass (newarray.typeOf .long) ∈ zGd := zat_mem (p := 219) (by decide +kernel)
theorem zac_D : Cond.arrayClass (newarray.typeOf .double) ∈ zGd := zat_mem (p := 1979) (by decide +kernel)
theorem zoi_1 : Cond.instanceMethod Lib.objectInit ∈ zGd := zat_mem (p := 157) (by decide +kernel)
theorem zoi_2 : Cond.code Lib.objectInit ⟨#[0xb1]⟩ 1 none ∈ zGd := zat_mem (p := 158) (by decide +kernel)
theorem zmax_1 : Cond.static Lib.Math.max.name ∈ zGd := zat_mem (p := 204) (by decide +kernel)
theorem zmax_2 : Cond.code Lib.Math.max.name Lib.Math.max.code 2 (some .int) ∈ zGd := zat_mem (p := 205) (by decide +kernel)
theorem zmin_1 : Cond.static Lib.Math.min.name ∈ zGd := zat_mem (p := 568) (by decide +kernel)
theorem zmin_2 : Cond.code Lib.Math.min.name Lib.Math.min.code 2 (some .int) ∈ zGd := zat_mem (p := 569) (by decide +kernel)
theorem zmath : Cond.initialized "java/lang/Math" ∈ zGd := zat_mem (p := 131) (by decide +kernel)
theorem zac_1 : Cond.native arraycopyName ∈ zGd := zat_mem (p := 666) (by decide +kernel)
theorem zac_2 : Cond.static arraycopyName ∈ zGd := zat_mem (p := 665) (by decide +kernel)
theorem zac_3 : Cond.initialized "java/lang/System" ∈ zGd := zat_mem (p := 148) (by decide +kernel)
