set_option maxRecDepth 100000 in
theorem eX1_bits (v0 : Int32) (v1 : Int32) (μ : gMem) : mX1_bits [.int v0, .int v1] μ = some (some (.int (Int64.toInt32 (((1 <<< (Int32.toInt64 v1 &&& 63)) - 1) <<< (Int32.toInt64 v0 &&& 63)))), μ) := (g_cut dtX1_bits [] 9 0 _ [] μ).trans rfl
noncomputable def rX1_widthOf_2 (v0 : Int32) (v1 : Int32) (μ : gMem) : Option gR := g_run PX1_widthOf 2 [some (.int v0), some (.int v1)] [] μ
set_option maxRecDepth 100000 in
theorem eX1_widthOf (v0 : Int32) (μ : gMem) : mX1_widthOf [.int v0] μ = rX1_widthOf_2 v0 1 μ := (g_cut dtX1_widthOf [2] 15 0 _ [] μ).trans rfl
set_option maxRecDepth 100000 in
theorem eX1_widthOf_2 (v0 : Int32) (v1 : Int32) (μ : gMem) : rX1_widthOf_2 v0 v1 μ = (if v0 ≤ v1 then some (some (.int v1), μ) else (if 32 ≤ v1 then some (some (.int v1), μ) else rX1_widthOf_2 v0 (v1 * 2) μ)) := (g_cut dtX1_widthOf [2] 15 2 _ [] μ).trans rfl
noncomputable def rX1_starts_7 (v1 : Int32) (v2 : Int32) (v3 : Int32) (v4 : Int32) (μ : gMem) : Option gR := g_run PX1_starts 7 [none, some (.int v1), some (.int v2), some (.int v3), some (.int v4)] [] μ
set_option maxRecDepth 100000 in
theorem eX1_starts (v0 : Int32) (v1 : Int32) (μ : gMem) : mX1_starts [.int v0, .int v1] μ = rX1_starts_7 v1 v0 1 1 μ := (g_cut dtX1_starts [7] 31 0 _ [] μ).trans rfl
set_option maxRecDepth 100000 in
theorem eX1_starts_7 (v1 : Int32) (v2 : Int32) (v3 : Int32) (v4 : Int32) (μ : gMem) : rX1_starts_7 v1 v2 v3 v4 μ = (if 6 ≤ v4 then some (some (.int v2), μ) else (if v1 ≤ v3 then some (some (.int v2), μ) else (if g_in v4 6 = true then rX1_starts_7 v1 ((v2 &&& (g_ushr v2 v3)) &&& (g_t0.getD (Int32.toNatClampNeg v4) 0)) (v3 * 2) (v4 + 1) μ else none))) := (g_cut dtX1_starts [7] 31 7 _ [] μ).trans rfl
set_option maxRecDepth 100000 in
theorem eJ6_bitCount_0f7a4 (v0 : Int32) (μ : gMem) : mJ6_bitCount_0f7a4 [.int v0] μ = some (some (.int ((((((((v0 - ((g_ushr v0 1) &&& 1431655765)) &&& 858993459) + ((g_ushr (v0 - ((g_ushr v0 1) &&& 1431655765)) 2) &&& 858993459)) + (g_ushr (((v0 - ((g_ushr v0 1) &&& 1431655765)) &&& 858993459) + ((g_ushr (v0 - ((g_ushr v0 1) &&& 1431655765)) 2) &&& 858993459)) 4)) &&& 252645135) + (g_ushr (((((v0 - ((g_ushr v0 1) &&& 1431655765)) &&& 858993459) + ((g_ushr (v0 - ((g_ushr v0 1) &&& 1431655765)) 2) &&& 858993459)) + (g_ushr (((v0 - ((g_ushr v0 1) &&& 1431655765)) &&& 858993459) + ((g_ushr (v0 - ((g_ushr v0 1) &&& 1431655765)) 2) &&& 858993459)) 4)) &&& 252645135) 8)) + (g_ushr ((((((v0 - ((g_ushr v0 1) &&& 1431655765)) &&& 858993459) + ((g_ushr (v0 - ((g_ushr v0 1) &&& 1431655765)) 2) &&& 858993459)) + (g_ushr (((v0 - ((g_ushr v0 1) &&& 1431655765)) &&& 858993459) + ((g_ushr (v0 - ((g_ushr v0 1) &&& 1431655765)) 2) &&& 858993459)) 4)) &&& 252645135) + (g_ushr (((((v0 - ((g_ushr v0 1) &&& 1431655765)) &&& 858993459) + ((g_ushr (v0 - ((g_ushr v0 1) &&& 1431655765)) 2) &&& 858993459)) + (g_ushr (((v0 - ((g_ushr v0 1) &&& 1431655765)) &&& 858993459) + ((g_ushr (v0 - ((g_ushr v0 1) &&& 1431655765)) 2) &&& 858993459)) 4)) &&& 252645135) 8)) 16)) &&& 63)), μ) := (g_cut dtJ6_bitCount_0f7a4 [] 42 0 _ [] μ).trans rfl
set_option maxRecDepth 100000 in
theorem eX1_lowest (v0 : Int32) (μ : gMem) : mX1_lowest [.int v0] μ = (if v0 = 0 then some (some (.int (-1)), μ) else (g_ci (mJ6_bitCount_0f7a4 [.int ((v0 &&& (-v0)) - 1)] μ) (fun a1 u1 => some (some (.int a1), u1)))) := (g_cut dtX1_lowest [] 12 0 _ [] μ).trans rfl
set_option maxRecDepth 100000 in
theorem eX1_spot (v0 : Int32) (v1 : Int32) (μ : gMem) : mX1_spot [.int v0, .int v1] μ = some (some (.int ((v0 * 32) + v1)), μ) := (g_cut dtX1_spot [] 6 0 _ [] μ).trans rfl
set_option maxRecDepth 100000 in
theorem eX1_slotOf (v0 : Int32) (μ : gMem) : mX1_slotOf [.int v0] μ = some (some (.int (v0 / 32)), μ) := (g_cut dtX1_slotOf [] 4 0 _ [] μ).trans rfl
set_option maxRecDepth 100000 in
theorem eX1_columnOf (v0 : Int32) (μ : gMem) : mX1_columnOf [.int v0] μ = some (some (.int (v0 - v0 / 32 * 32)), μ) := (g_cut dtX1_columnOf [] 4 0 _ [] μ).trans rfl
set_option maxRecDepth 100000 in
theorem eJ9_floorMod_7cf53 (v0 : Int32) (v1 : Int32) (μ : gMem) : mJ9_floorMod_7cf53 [.int v0, .int v1] μ = (if v1 = 0 then none else (if 0 ≤ (v0 ^^^ v1) then some (some (.int (v0 - v0 / v1 * v1)), μ) else (if (v0 - v0 / v1 * v1) = 0 then some (some (.int (v0 - v0 / v1 * v1)), μ) else some (some (.int ((v0 - v0 / v1 * v1) + v1)), μ)))) := (g_cut dtJ9_floorMod_7cf53 [] 16 0 _ [] μ).trans rfl
set_option maxRecDepth 100000 in
theorem eJ9_max_7cf53 (v0 : Int32) (v1 : Int32) (μ : gMem) : mJ9_max_7cf53 [.int v0, .int v1] μ = (if v0 < v1 then some (some (.int v1), μ) else some (some (.int v0), μ)) := (g_cut dtJ9_max_7cf53 [] 7 0 _ [] μ).trans rfl
set_option maxRecDepth 100000 in
theorem eJ9_min_7cf53 (v0 : Int32) (v1 : Int32) (μ : gMem) : mJ9_min_7cf53 [.int v0, .int v1] μ = (if v1 < v0 then some (some (.int v1), μ) else some (some (.int v0), μ)) := (g_cut dtJ9_min_7cf53 [] 7 0 _ [] μ).trans rfl
set_option maxRecDepth 100000 in
theorem eJ9_min_f86c9 (v0 : Int64) (v2 : Int64) (μ : gMem) : mJ9_min_f86c9 [.long v0, .long v2] μ = (if 0 < (lg_cmp v0 v2) then some (some (.long v2), μ) else some (some (.long v0), μ)) := (g_cut dtJ9_min_f86c9 [] 8 0 _ [] μ).trans rfl
