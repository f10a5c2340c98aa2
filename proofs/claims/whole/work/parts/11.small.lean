/-! GangMatrix$Blocks.bits(II)I (-) -/
abbrev MX1_bits : gMi := (cX1_bits, 2, RX1, some .int, 1)
noncomputable def PX1_bits : gP := [(0, .lconst 1, 1, i_psh 1 (.long 1)), (1, .iload_n 1, 1, i_ild 1 1), (2, .lshl, 1, i_lsh (fun x y => x <<< (y.toInt64 &&& 63))), (3, .lconst 1, 1, i_psh 1 (.long 1)), (4, .lsub, 1, i_lbn (fun x y => x - y)), (5, .iload_n 0, 1, i_ild 1 0), (6, .lshl, 1, i_lsh (fun x y => x <<< (y.toInt64 &&& 63))), (7, .l2i, 1, i_l2i), (8, .ireturn, 1, i_irt)]
noncomputable def mX1_bits : gF := g_m PX1_bits 2
set_option maxRecDepth 20000 in
theorem dtX1_bits : gDts PX1_bits := ⟨dt_psh, dt_ild, dt_lsh, dt_psh, dt_lbn, dt_ild, dt_lsh, dt_l2i, dt_irt, trivial⟩
set_option maxRecDepth 20000 in
theorem dcX1_bits : gDec MX1_bits PX1_bits := by unfold gDec PX1_bits; decide +kernel
set_option maxRecDepth 20000 in
theorem okX1_bits (l : Launch) (w : gWo) : gOks w l MX1_bits PX1_bits := ⟨fun d => ok_lconst d (by decide), fun d => ok_iload_n d rfl, fun d => ok_lshl d, fun d => ok_lconst d (by decide), fun d => ok_lsub d, fun d => ok_iload_n d rfl, fun d => ok_lshl d, fun d => ok_l2i d, fun d => ok_ireturn d rfl, trivial⟩
theorem tX1_bits (l : Launch) (w : gWo) : ∀ as μ r, mX1_bits as μ = some r → gMt w l yX1_bits MX1_bits as μ r := fun _ _ _ h => gMt_of (plainFor_of_name (by decide +kernel)) rfl dcX1_bits (okX1_bits l w) h
/-! GangMatrix$Blocks.widthOf(I)I (-) -/
abbrev MX1_widthOf : gMi := (cX1_widthOf, 2, RX1, some .int, 1)
noncomputable def PX1_widthOf : gP := [(0, .iconst 1, 1, i_psh 1 (.int 1)), (1, .istore_n 1, 1, i_ist 1 1), (2, .iload_n 1, 1, i_ild 1 1), (3, .iload_n 0, 1, i_ild 1 0), (4, .if_icmp .ge 16, 3, i_cge 20), (7, .iload_n 1, 1, i_ild 1 1), (8, .bipush 32, 2, i_psh 2 (.int 32)), (10, .if_icmp .ge 10, 3, i_cge 20), (13, .iload_n 1, 1, i_ild 1 1), (14, .iconst 2, 1, i_psh 1 (.int 2)), (15, .imul, 1, i_bin (fun x y => (x * y))), (16, .istore_n 1, 1, i_ist 1 1), (17, .goto (-15), 3, i_gto 2), (20, .iload_n 1, 1, i_ild 1 1), (21, .ireturn, 1, i_irt)]
noncomputable def mX1_widthOf : gF := g_m PX1_widthOf 2
set_option maxRecDepth 20000 in
theorem dtX1_widthOf : gDts PX1_widthOf := ⟨dt_psh, dt_ist, dt_ild, dt_ild, dt_cge, dt_ild, dt_psh, dt_cge, dt_ild, dt_psh, dt_bin, dt_ist, dt_gto, dt_ild, dt_irt, trivial⟩
set_option maxRecDepth 20000 in
theorem dcX1_widthOf : gDec MX1_widthOf PX1_widthOf := by unfold gDec PX1_widthOf; decide +kernel
set_option maxRecDepth 20000 in
theorem okX1_widthOf (l : Launch) (w : gWo) : gOks w l MX1_widthOf PX1_widthOf := ⟨fun d => ok_iconst d (by decide), fun d => ok_istore_n d rfl, fun d => ok_iload_n d rfl, fun d => ok_iload_n d rfl, fun d => ok_icmpge d (by decide), fun d => ok_iload_n d rfl, fun d => ok_bipush d (by decide), fun d => ok_icmpge d (by decide), fun d => ok_iload_n d rfl, fun d => ok_iconst d (by decide), fun d => ok_imul d, fun d => ok_istore_n d rfl, fun d => ok_goto d (by decide), fun d => ok_iload_n d rfl, fun d => ok_ireturn d rfl, trivial⟩
theorem tX1_widthOf (l : Launch) (w : gWo) : ∀ as μ r, mX1_widthOf as μ = some r → gMt w l yX1_widthOf MX1_widthOf as μ r := fun _ _ _ h => gMt_of (plainFor_of_name (by decide +kernel)) rfl dcX1_widthOf (okX1_widthOf l w) h
/-! GangMatrix$Blocks.starts(II)I (-) -/
abbrev MX1_starts : gMi := (cX1_starts, 5, RX1, some .int, 1)
noncomputable def PX1_starts : gP := [(0, .iload_n 0, 1, i_ild 1 0), (1, .istore_n 2, 1, i_ist 1 2), (2, .iconst 1, 1, i_psh 1 (.int 1)), (3, .istore_n 3, 1, i_ist 1 3), (4, .iconst 1, 1, i_psh 1 (.int 1)), (5, .istore 4, 2, i_kll [0] (i_ist 2 4)), (7, .iload 4, 2, i_ild 2 4), (9, .getstatic 11, 3, i_gst 1000), (12, .arraylength, 1, i_tln 1000 6), (13, .if_icmp .ge 31, 3, i_cge 44), (16, .iload_n 3, 1, i_ild 1 3), (17, .iload_n 1, 1, i_ild 1 1), (18, .if_icmp .ge 26, 3, i_cge 44), (21, .iload_n 2, 1, i_ild 1 2), (22, .iload_n 2, 1, i_ild 1 2), (23, .iload_n 3, 1, i_ild 1 3), (24, .iushr, 1, i_bin (fun x y => (g_ushr x y))), (25, .iand, 1, i_bin (fun x y => (x &&& y))), (26, .getstatic 11, 3, i_gst 1000), (29, .iload 4, 2, i_ild 2 4), (31, .iaload, 1, i_tld 1000 g_t0), (32, .iand, 1, i_bin (fun x y => (x &&& y))), (33, .istore_n 2, 1, i_ist 1 2), (34, .iload_n 3, 1, i_ild 1 3), (35, .iconst 2, 1, i_psh 1 (.int 2)), (36, .imul, 1, i_bin (fun x y => (x * y))), (37, .istore_n 3, 1, i_ist 1 3), (38, .iinc 4 1, 3, i_inc 4 1), (41, .goto (-34), 3, i_kll [0] (i_gto 7)), (44, .iload_n 2, 1, i_ild 1 2), (45, .ireturn, 1, i_irt)]
noncomputable def mX1_starts : gF := g_m PX1_starts 5
set_option maxRecDepth 20000 in
theorem dtX1_starts : gDts PX1_starts := ⟨dt_ild, dt_ist, dt_psh, dt_ist, dt_psh, dt_kll dt_ist, dt_ild, dt_gst, dt_tln, dt_cge, dt_ild, dt_ild, dt_cge, dt_ild, dt_ild, dt_ild, dt_bin, dt_bin, dt_gst, dt_ild, dt_tld, dt_bin, dt_ist, dt_ild, dt_psh, dt_bin, dt_ist, dt_inc, dt_kll dt_gto, dt_ild, dt_irt, trivial⟩
set_option maxRecDepth 20000 in
theorem dcX1_starts : gDec MX1_starts PX1_starts := by unfold gDec PX1_starts; decide +kernel
set_option maxRecDepth 20000 in
theorem okX1_starts (l : Launch) (w : gWo) : gOks w l MX1_starts PX1_starts := ⟨fun d => ok_iload_n d rfl, fun d => ok_istore_n d rfl, fun d => ok_iconst d (by decide), fun d => ok_istore_n d rfl, fun d => ok_iconst d (by decide), fun d => ok_kll (ok_istore d), fun d => ok_iload d, fun d => ok_getstatic d gSr0 q475, fun d => ok_tlen d gSr0 (by decide), fun d => ok_icmpge d (by decide), fun d => ok_iload_n d rfl, fun d => ok_iload_n d rfl, fun d => ok_icmpge d (by decide), fun d => ok_iload_n d rfl, fun d => ok_iload_n d rfl, fun d => ok_iload_n d rfl, fun d => ok_iushr d, fun d => ok_iand d, fun d => ok_getstatic d gSr0 q475, fun d => ok_iload d, fun d => ok_tload d gSr0, fun d => ok_iand d, fun d => ok_istore_n d rfl, fun d => ok_iload_n d rfl, fun d => ok_iconst d (by decide), fun d => ok_imul d, fun d => ok_istore_n d rfl, fun d => ok_iinc d (by decide), fun d => ok_kll (ok_goto d (by decide)), fun d => ok_iload_n d rfl, fun d => ok_ireturn d rfl, trivial⟩
theorem tX1_starts (l : Launch) (w : gWo) : ∀ as μ r, mX1_starts as μ = some r → gMt w l yX1_starts MX1_starts as μ r := fun _ _ _ h => gMt_of (plainFor_of_name (by decide +kernel)) rfl dcX1_starts (okX1_starts l w) h
/-! java/lang/Integer.bitCount(I)I (-) -/
abbrev MJ6_bitCount_0f7a4 : gMi := (cJ6_bitCount_0f7a4, 1, RJ6, some .int, 1)
noncomputable def PJ6_bitCount_0f7a4 : gP := [(0, .iload_n 0, 1, i_ild 1 0), (1, .iload_n 0, 1, i_ild 1 0), (2, .iconst 1, 1, i_psh 1 (.int 1)), (3, .iushr, 1, i_bin (fun x y => (g_ushr x y))), (4, .ldc_w 265, 3, i_psh 3 (.int 1431655765)), (7, .iand, 1, i_bin (fun x y => (x &&& y))), (8, .isub, 1, i_bin (fun x y => (x - y))), (9, .istore_n 0, 1, i_ist 1 0), (10, .iload_n 0, 1, i_ild 1 0), (11, .ldc_w 266, 3, i_psh 3 (.int 858993459)), (14, .iand, 1, i_bin (fun x y => (x &&& y))), (15, .iload_n 0, 1, i_ild 1 0), (16, .iconst 2, 1, i_psh 1 (.int 2)), (17, .iushr, 1, i_bin (fun x y => (g_ushr x y))), (18, .ldc_w 266, 3, i_psh 3 (.int 858993459)), (21, .iand, 1, i_bin (fun x y => (x &&& y))), (22, .iadd, 1, i_bin (fun x y => (x + y))), (23, .istore_n 0, 1, i_ist 1 0), (24, .iload_n 0, 1, i_ild 1 0), (25, .iload_n 0, 1, i_ild 1 0), (26, .iconst 4, 1, i_psh 1 (.int 4)), (27, .iushr, 1, i_bin (fun x y => (g_ushr x y))), (28, .iadd, 1, i_bin (fun x y => (x + y))), (29, .ldc_w 267, 3, i_psh 3 (.int 252645135)), (32, .iand, 1, i_bin (fun x y => (x &&& y))), (33, .istore_n 0, 1, i_ist 1 0), (34, .iload_n 0, 1, i_ild 1 0), (35, .iload_n 0, 1, i_ild 1 0), (36, .bipush 8, 2, i_psh 2 (.int 8)), (38, .iushr, 1, i_bin (fun x y => (g_ushr x y))), (39, .iadd, 1, i_bin (fun x y => (x + y))), (40, .istore_n 0, 1, i_ist 1 0), (41, .iload_n 0, 1, i_ild 1 0), (42, .iload_n 0, 1, i_ild 1 0), (43, .bipush 16, 2, i_psh 2 (.int 16)), (45, .iushr, 1, i_bin (fun x y => (g_ushr x y))), (46, .iadd, 1, i_bin (fun x y => (x + y))), (47, .istore_n 0, 1, i_ist 1 0), (48, .iload_n 0, 1, i_ild 1 0), (49, .bipush 63, 2, i_psh 2 (.int 63)), (51, .iand, 1, i_bin (fun x y => (x &&& y))), (52, .ireturn, 1, i_irt)]
noncomputable def mJ6_bitCount_0f7a4 : gF := g_m PJ6_bitCount_0f7a4 1
set_option maxRecDepth 20000 in
theorem dtJ6_bitCount_0f7a4 : gDts PJ6_bitCount_0f7a4 := ⟨dt_ild, dt_ild, dt_psh, dt_bin, dt_psh, dt_bin, dt_bin, dt_ist, dt_ild, dt_psh, dt_bin, dt_ild, dt_psh, dt_bin, dt_psh, dt_bin, dt_bin, dt_ist, dt_ild, dt_ild, dt_psh, dt_bin, dt_bin, dt_psh, dt_bin, dt_ist, dt_ild, dt_ild, dt_psh, dt_bin, dt_bin, dt_ist, dt_ild, dt_ild, dt_psh, dt_bin, dt_bin, dt_ist, dt_ild, dt_psh, dt_bin, dt_irt, trivial⟩
set_option maxRecDepth 20000 in
theorem dcJ6_bitCount_0f7a4 : gDec MJ6_bitCount_0f7a4 PJ6_bitCount_0f7a4 := by unfold gDec PJ6_bitCount_0f7a4; decide +kernel
set_option maxRecDepth 20000 in
theorem okJ6_bitCount_0f7a4 (l : Launch) (w : gWo) : gOks w l MJ6_bitCount_0f7a4 PJ6_bitCount_0f7a4 := ⟨fun d => ok_iload_n d rfl, fun d => ok_iload_n d rfl, fun d => ok_iconst d (by decide), fun d => ok_iushr d, fun d => ok_ldcw d q499, fun d => ok_iand d, fun d => ok_isub d, fun d => ok_istore_n d rfl, fun d => ok_iload_n d rfl, fun d => ok_ldcw d q500, fun d => ok_iand d, fun d => ok_iload_n d rfl, fun d => ok_iconst d (by decide), fun d => ok_iushr d, fun d => ok_ldcw d q500, fun d => ok_iand d, fun d => ok_iadd d, fun d => ok_istore_n d rfl, fun d => ok_iload_n d rfl, fun d => ok_iload_n d rfl, fun d => ok_iconst d (by decide), fun d => ok_iushr d, fun d => ok_iadd d, fun d => ok_ldcw d q501, fun d => ok_iand d, fun d => ok_istore_n d rfl, fun d => ok_iload_n d rfl, fun d => ok_iload_n d rfl, fun d => ok_bipush d (by decide), fun d => ok_iushr d, fun d => ok_iadd d, fun d => ok_istore_n d rfl, fun d => ok_iload_n d rfl, fun d => ok_iload_n d rfl, fun d => ok_bipush d (by decide), fun d => ok_iushr d, fun d => ok_iadd d, fun d => ok_istore_n d rfl, fun d => ok_iload_n d rfl, fun d => ok_bipush d (by decide), fun d => ok_iand d, fun d => ok_ireturn d rfl, trivial⟩
theorem tJ6_bitCount_0f7a4 (l : Launch) (w : gWo) : ∀ as μ r, mJ6_bitCount_0f7a4 as μ = some r → gMt w l yJ6_bitCount_0f7a4 MJ6_bitCount_0f7a4 as μ r := fun _ _ _ h => gMt_of (by decide +kernel) rfl dcJ6_bitCount_0f7a4 (okJ6_bitCount_0f7a4 l w) h
/-! GangMatrix$Blocks.lowest(I)I (-) -/
abbrev MX1_lowest : gMi := (cX1_lowest, 1, RX1, some .int, 2)
noncomputable def PX1_lowest : gP := [(0, .iload_n 0, 1, i_ild 1 0), (1, .ifCond .ne 7, 3, i_fne 8), (4, .iconst (-1), 1, i_psh 1 (.int (-1))), (5, .goto 12, 3, i_gto 17), (8, .iload_n 0, 1, i_ild 1 0), (9, .iload_n 0, 1, i_ild 1 0), (10, .ineg, 1, i_neg), (11, .iand, 1, i_bin (fun x y => (x &&& y))), (12, .iconst 1, 1, i_psh 1 (.int 1)), (13, .isub, 1, i_bin (fun x y => (x - y))), (14, .invokestatic 15, 3, i_csi 1 mJ6_bitCount_0f7a4), (17, .ireturn, 1, i_irt)]
noncomputable def mX1_lowest : gF := g_m PX1_lowest 1
set_option maxRecDepth 20000 in
theorem dtX1_lowest : gDts PX1_lowest := ⟨dt_ild, dt_fne, dt_psh, dt_gto, dt_ild, dt_ild, dt_neg, dt_bin, dt_psh, dt_bin, dt_csi, dt_irt, trivial⟩
set_option maxRecDepth 20000 in
theorem dcX1_lowest : gDec MX1_lowest PX1_lowest := by unfold gDec PX1_lowest; decide +kernel
set_option maxRecDepth 20000 in
theorem okX1_lowest (l : Launch) (w : gWo) : gOks w l MX1_lowest PX1_lowest := ⟨fun d => ok_iload_n d rfl, fun d => ok_ifne d (by decide), fun d => ok_iconst d (by decide), fun d => ok_goto d (by decide), fun d => ok_iload_n d rfl, fun d => ok_iload_n d rfl, fun d => ok_ineg d, fun d => ok_iand d, fun d => ok_iconst d (by decide), fun d => ok_isub d, fun d => ok_csi (ok_callS (M' := MJ6_bitCount_0f7a4) d (tJ6_bitCount_0f7a4 l _) q496 q497 q153 q498 (by decide +kernel) (by decide)), fun d => ok_ireturn d rfl, trivial⟩
theorem tX1_lowest (l : Launch) (w : gWo) : ∀ as μ r, mX1_lowest as μ = some r → gMt w l yX1_lowest MX1_lowest as μ r := fun _ _ _ h => gMt_of (plainFor_of_name (by decide +kernel)) rfl dcX1_lowest (okX1_lowest l w) h
/-! GangMatrix$Blocks.spot(II)I (-) -/
abbrev MX1_spot : gMi := (cX1_spot, 2, RX1, some .int, 1)
noncomputable def PX1_spot : gP := [(0, .iload_n 0, 1, i_ild 1 0), (1, .bipush 32, 2, i_psh 2 (.int 32)), (3, .imul, 1, i_bin (fun x y => (x * y))), (4, .iload_n 1, 1, i_ild 1 1), (5, .iadd, 1, i_bin (fun x y => (x + y))), (6, .ireturn, 1, i_irt)]
noncomputable def mX1_spot : gF := g_m PX1_spot 2
set_option maxRecDepth 20000 in
theorem dtX1_spot : gDts PX1_spot := ⟨dt_ild, dt_psh, dt_bin, dt_ild, dt_bin, dt_irt, trivial⟩
set_option maxRecDepth 20000 in
theorem dcX1_spot : gDec MX1_spot PX1_spot := by unfold gDec PX1_spot; decide +kernel
set_option maxRecDepth 20000 in
theorem okX1_spot (l : Launch) (w : gWo) : gOks w l MX1_spot PX1_spot := ⟨fun d => ok_iload_n d rfl, fun d => ok_bipush d (by decide), fun d => ok_imul d, fun d => ok_iload_n d rfl, fun d => ok_iadd d, fun d => ok_ireturn d rfl, trivial⟩
theorem tX1_spot (l : Launch) (w : gWo) : ∀ as μ r, mX1_spot as μ = some r → gMt w l yX1_spot MX1_spot as μ r := fun _ _ _ h => gMt_of (plainFor_of_name (by decide +kernel)) rfl dcX1_spot (okX1_spot l w) h
/-! GangMatrix$Blocks.slotOf(I)I (-) -/
abbrev MX1_slotOf : gMi := (cX1_slotOf, 1, RX1, some .int, 1)
noncomputable def PX1_slotOf : gP := [(0, .iload_n 0, 1, i_ild 1 0), (1, .bipush 32, 2, i_psh 2 (.int 32)), (3, .idiv, 1, i_dvr (fun x y => (x / y))), (4, .ireturn, 1, i_irt)]
noncomputable def mX1_slotOf : gF := g_m PX1_slotOf 1
set_option maxRecDepth 20000 in
theorem dtX1_slotOf : gDts PX1_slotOf := ⟨dt_ild, dt_psh, dt_dvr, dt_irt, trivial⟩
set_option maxRecDepth 20000 in
theorem dcX1_slotOf : gDec MX1_slotOf PX1_slotOf := by unfold gDec PX1_slotOf; decide +kernel
set_option maxRecDepth 20000 in
theorem okX1_slotOf (l : Launch) (w : gWo) : gOks w l MX1_slotOf PX1_slotOf := ⟨fun d => ok_iload_n d rfl, fun d => ok_bipush d (by decide), fun d => ok_idiv d, fun d => ok_ireturn d rfl, trivial⟩
theorem tX1_slotOf (l : Launch) (w : gWo) : ∀ as μ r, mX1_slotOf as μ = some r → gMt w l yX1_slotOf MX1_slotOf as μ r := fun _ _ _ h => gMt_of (plainFor_of_name (by decide +kernel)) rfl dcX1_slotOf (okX1_slotOf l w) h
/-! GangMatrix$Blocks.columnOf(I)I (-) -/
abbrev MX1_columnOf : gMi := (cX1_columnOf, 1, RX1, some .int, 1)
noncomputable def PX1_columnOf : gP := [(0, .iload_n 0, 1, i_ild 1 0), (1, .bipush 32, 2, i_psh 2 (.int 32)), (3, .irem, 1, i_dvr (fun x y => (x - x / y * y))), (4, .ireturn, 1, i_irt)]
noncomputable def mX1_columnOf : gF := g_m PX1_columnOf 1
set_option maxRecDepth 20000 in
theorem dtX1_columnOf : gDts PX1_columnOf := ⟨dt_ild, dt_psh, dt_dvr, dt_irt, trivial⟩
set_option maxRecDepth 20000 in
theorem dcX1_columnOf : gDec MX1_columnOf PX1_columnOf := by unfold gDec PX1_columnOf; decide +kernel
set_option maxRecDepth 20000 in
theorem okX1_columnOf (l : Launch) (w : gWo) : gOks w l MX1_columnOf PX1_columnOf := ⟨fun d => ok_iload_n d rfl, fun d => ok_bipush d (by decide), fun d => ok_irem d, fun d => ok_ireturn d rfl, trivial⟩
theorem tX1_columnOf (l : Launch) (w : gWo) : ∀ as μ r, mX1_columnOf as μ = some r → gMt w l yX1_columnOf MX1_columnOf as μ r := fun _ _ _ h => gMt_of (plainFor_of_name (by decide +kernel)) rfl dcX1_columnOf (okX1_columnOf l w) h
/-! java/lang/Math.floorMod(II)I (-) -/
abbrev MJ9_floorMod_7cf53 : gMi := (cJ9_floorMod_7cf53, 3, RJ9, some .int, 1)
noncomputable def PJ9_floorMod_7cf53 : gP := [(0, .iload_n 0, 1, i_ild 1 0), (1, .iload_n 1, 1, i_ild 1 1), (2, .irem, 1, i_dvr (fun x y => (x - x / y * y))), (3, .istore_n 2, 1, i_ist 1 2), (4, .iload_n 0, 1, i_ild 1 0), (5, .iload_n 1, 1, i_ild 1 1), (6, .ixor, 1, i_bin (fun x y => (x ^^^ y))), (7, .ifCond .ge 11, 3, i_fge 18), (10, .iload_n 2, 1, i_ild 1 2), (11, .ifCond .eq 7, 3, i_feq 18), (14, .iload_n 2, 1, i_ild 1 2), (15, .iload_n 1, 1, i_ild 1 1), (16, .iadd, 1, i_bin (fun x y => (x + y))), (17, .ireturn, 1, i_irt), (18, .iload_n 2, 1, i_ild 1 2), (19, .ireturn, 1, i_irt)]
noncomputable def mJ9_floorMod_7cf53 : gF := g_m PJ9_floorMod_7cf53 3
set_option maxRecDepth 20000 in
theorem dtJ9_floorMod_7cf53 : gDts PJ9_floorMod_7cf53 := ⟨dt_ild, dt_ild, dt_dvr, dt_ist, dt_ild, dt_ild, dt_bin, dt_fge, dt_ild, dt_feq, dt_ild, dt_ild, dt_bin, dt_irt, dt_ild, dt_irt, trivial⟩
set_option maxRecDepth 20000 in
theorem dcJ9_floorMod_7cf53 : gDec MJ9_floorMod_7cf53 PJ9_floorMod_7cf53 := by unfold gDec PJ9_floorMod_7cf53; decide +kernel
set_option maxRecDepth 20000 in
theorem okJ9_floorMod_7cf53 (l : Launch) (w : gWo) : gOks w l MJ9_floorMod_7cf53 PJ9_floorMod_7cf53 := ⟨fun d => ok_iload_n d rfl, fun d => ok_iload_n d rfl, fun d => ok_irem d, fun d => ok_istore_n d rfl, fun d => ok_iload_n d rfl, fun d => ok_iload_n d rfl, fun d => ok_ixor d, fun d => ok_ifge d (by decide), fun d => ok_iload_n d rfl, fun d => ok_ifeq d (by decide), fun d => ok_iload_n d rfl, fun d => ok_iload_n d rfl, fun d => ok_iadd d, fun d => ok_ireturn d rfl, fun d => ok_iload_n d rfl, fun d => ok_ireturn d rfl, trivial⟩
theorem tJ9_floorMod_7cf53 (l : Launch) (w : gWo) : ∀ as μ r, mJ9_floorMod_7cf53 as μ = some r → gMt w l yJ9_floorMod_7cf53 MJ9_floorMod_7cf53 as μ r := fun _ _ _ h => gMt_of (by decide +kernel) rfl dcJ9_floorMod_7cf53 (okJ9_floorMod_7cf53 l w) h
/-! java/lang/Math.max(II)I (-) -/
abbrev MJ9_max_7cf53 : gMi := (cJ9_max_7cf53, 2, RJ9, some .int, 1)
noncomputable def PJ9_max_7cf53 : gP := [(0, .iload_n 0, 1, i_ild 1 0), (1, .iload_n 1, 1, i_ild 1 1), (2, .if_icmp .lt 7, 3, i_clt 9), (5, .iload_n 0, 1, i_ild 1 0), (6, .goto 4, 3, i_gto 10), (9, .iload_n 1, 1, i_ild 1 1), (10, .ireturn, 1, i_irt)]
noncomputable def mJ9_max_7cf53 : gF := g_m PJ9_max_7cf53 2
set_option maxRecDepth 20000 in
theorem dtJ9_max_7cf53 : gDts PJ9_max_7cf53 := ⟨dt_ild, dt_ild, dt_clt, dt_ild, dt_gto, dt_ild, dt_irt, trivial⟩
set_option maxRecDepth 20000 in
theorem dcJ9_max_7cf53 : gDec MJ9_max_7cf53 PJ9_max_7cf53 := by unfold gDec PJ9_max_7cf53; decide +kernel
set_option maxRecDepth 20000 in
theorem okJ9_max_7cf53 (l : Launch) (w : gWo) : gOks w l MJ9_max_7cf53 PJ9_max_7cf53 := ⟨fun d => ok_iload_n d rfl, fun d => ok_iload_n d rfl, fun d => ok_icmplt d (by decide), fun d => ok_iload_n d rfl, fun d => ok_goto d (by decide), fun d => ok_iload_n d rfl, fun d => ok_ireturn d rfl, trivial⟩
theorem tJ9_max_7cf53 (l : Launch) (w : gWo) : ∀ as μ r, mJ9_max_7cf53 as μ = some r → gMt w l yJ9_max_7cf53 MJ9_max_7cf53 as μ r := fun _ _ _ h => gMt_of (by decide +kernel) rfl dcJ9_max_7cf53 (okJ9_max_7cf53 l w) h
/-! java/lang/Math.min(II)I (-) -/
abbrev MJ9_min_7cf53 : gMi := (cJ9_min_7cf53, 2, RJ9, some .int, 1)
noncomputable def PJ9_min_7cf53 : gP := [(0, .iload_n 0, 1, i_ild 1 0), (1, .iload_n 1, 1, i_ild 1 1), (2, .if_icmp .gt 7, 3, i_cgt 9), (5, .iload_n 0, 1, i_ild 1 0), (6, .goto 4, 3, i_gto 10), (9, .iload_n 1, 1, i_ild 1 1), (10, .ireturn, 1, i_irt)]
noncomputable def mJ9_min_7cf53 : gF := g_m PJ9_min_7cf53 2
set_option maxRecDepth 20000 in
theorem dtJ9_min_7cf53 : gDts PJ9_min_7cf53 := ⟨dt_ild, dt_ild, dt_cgt, dt_ild, dt_gto, dt_ild, dt_irt, trivial⟩
set_option maxRecDepth 20000 in
theorem dcJ9_min_7cf53 : gDec MJ9_min_7cf53 PJ9_min_7cf53 := by unfold gDec PJ9_min_7cf53; decide +kernel
set_option maxRecDepth 20000 in
theorem okJ9_min_7cf53 (l : Launch) (w : gWo) : gOks w l MJ9_min_7cf53 PJ9_min_7cf53 := ⟨fun d => ok_iload_n d rfl, fun d => ok_iload_n d rfl, fun d => ok_icmpgt d (by decide), fun d => ok_iload_n d rfl, fun d => ok_goto d (by decide), fun d => ok_iload_n d rfl, fun d => ok_ireturn d rfl, trivial⟩
theorem tJ9_min_7cf53 (l : Launch) (w : gWo) : ∀ as μ r, mJ9_min_7cf53 as μ = some r → gMt w l yJ9_min_7cf53 MJ9_min_7cf53 as μ r := fun _ _ _ h => gMt_of (by decide +kernel) rfl dcJ9_min_7cf53 (okJ9_min_7cf53 l w) h
/-! java/lang/Math.min(JJ)J (-) -/
abbrev MJ9_min_f86c9 : gMi := (cJ9_min_f86c9, 4, RJ9, some .long, 1)
noncomputable def PJ9_min_f86c9 : gP := [(0, .lload_n 0, 1, i_lld 1 0), (1, .lload_n 2, 1, i_lld 1 2), (2, .lcmp, 1, i_lcm), (3, .ifCond .gt 7, 3, i_fgt 10), (6, .lload_n 0, 1, i_lld 1 0), (7, .goto 4, 3, i_gto 11), (10, .lload_n 2, 1, i_lld 1 2), (11, .lreturn, 1, i_lrt)]
noncomputable def mJ9_min_f86c9 : gF := g_m PJ9_min_f86c9 4
set_option maxRecDepth 20000 in
theorem dtJ9_min_f86c9 : gDts PJ9_min_f86c9 := ⟨dt_lld, dt_lld, dt_lcm, dt_fgt, dt_lld, dt_gto, dt_lld, dt_lrt, trivial⟩
set_option maxRecDepth 20000 in
theorem dcJ9_min_f86c9 : gDec MJ9_min_f86c9 PJ9_min_f86c9 := by unfold gDec PJ9_min_f86c9; decide +kernel
set_option maxRecDepth 20000 in
theorem okJ9_min_f86c9 (l : Launch) (w : gWo) : gOks w l MJ9_min_f86c9 PJ9_min_f86c9 := ⟨fun d => ok_lload_n d rfl, fun d => ok_lload_n d rfl, fun d => ok_lcmp d, fun d => ok_ifgt d (by decide), fun d => ok_lload_n d rfl, fun d => ok_goto d (by decide), fun d => ok_lload_n d rfl, fun d => ok_lreturn d rfl, trivial⟩
theorem tJ9_min_f86c9 (l : Launch) (w : gWo) : ∀ as μ r, mJ9_min_f86c9 as μ = some r → gMt w l yJ9_min_f86c9 MJ9_min_f86c9 as μ r := fun _ _ _ h => gMt_of (by decide +kernel) rfl dcJ9_min_f86c9 (okJ9_min_f86c9 l w) h
