/-- every pair of calls answers alike and keeps the relation -/
def AllOK (Rl : Nat → gMem → gMem → Prop) : Prop := (∀ a0 a1 : Int32, oK Rl mX9_set mX10_set [.int a0, .int a1]) ∧ (∀ a0 a1 : Int32, oK Rl mX9_share mX10_share [.int a0, .int a1]) ∧ (∀ a0 a1 a2 a3 : Int32, oK Rl mX9_job mX10_job [.int a0, .int a1, .int a2, .int a3]) ∧ (∀ a0 a1 a2 a3 : Int32, oK Rl mX9_later mX10_later [.int a0, .int a1, .int a2, .int a3]) ∧ (∀ a0 : Int32, oK Rl mX9_kill mX10_kill [.int a0]) ∧ (∀ a0 : Int32, oK Rl mX9_quantum mX10_quantum [.int a0]) ∧ (∀ a0 : Int32, oK Rl mX9_down mX10_down [.int a0]) ∧ (∀ a0 : Int32, oK Rl mX9_up mX10_up [.int a0]) ∧ oK Rl mX9_unify mX10_unify [] ∧ oK Rl mX9_repack mX10_repack [] ∧ (∀ a0 a1 : Int32, oK Rl mX9_move mX10_move [.int a0, .int a1]) ∧ (∀ a0 : Int32, oK Rl mX9_migrate mX10_migrate [.int a0]) ∧ (∀ a0 a1 : Int32, oK Rl mX9_weigh mX10_weigh [.int a0, .int a1]) ∧ (∀ a0 : Int32, oK Rl mX9_pack mX10_pack [.int a0]) ∧ oK Rl mX9_relay mX10_relay [] ∧ (∀ a0 : Int32, oK Rl mX9_urge mX10_urge [.int a0]) ∧ (∀ a0 a1 : Int32, oK Rl mX9_urged mX10_urged [.int a0, .int a1]) ∧ (∀ a0 : Int32, oK Rl mX9_thin mX10_thin [.int a0]) ∧ (∀ a0 a1 : Int32, oK Rl mX9_where mX10_where [.int a0, .int a1]) ∧ (∀ a0 a1 a2 : Int32, oK Rl mX9_free mX10_free [.int a0, .int a1, .int a2]) ∧ (∀ a0 a1 : Int32, oK Rl mX9_cell mX10_cell [.int a0, .int a1]) ∧ (∀ a0 : Int32, oK Rl mX9_load mX10_load [.int a0]) ∧ (∀ a0 a1 : Int32, oK Rl mX9_of mX10_of [.int a0, .int a1]) ∧ (∀ a0 a1 : Int32, oK Rl mX9_user mX10_user [.int a0, .int a1]) ∧ (∀ a0 a1 : Int32, oK Rl mX9_slot mX10_slot [.int a0, .int a1]) ∧ (∀ a0 : Int32, oK Rl mX9_queue mX10_queue [.int a0]) ∧ (∀ a0 a1 : Int32, oK Rl mX9_lends mX10_lends [.int a0, .int a1]) ∧ (∀ a0 a1 : Int32, oK Rl mX9_would mX10_would [.int a0, .int a1]) ∧ (∀ a0 : Int32, oK Rl mX9_when mX10_when [.int a0]) ∧ (∀ a0 a1 : Int32, oK Rl mX9_log mX10_log [.int a0, .int a1]) ∧ (∀ a0 a1 : Int32, oK Rl mX9_went mX10_went [.int a0, .int a1]) ∧ (∀ a0 : Int32, oK Rl mX9_count mX10_count [.int a0]) ∧ (∀ a0 : Int32, (a0 = 0 ∨ a0 = 1) → oK Rl mX9_image mX10_image [.int a0]) ∧ (∀ a0 : Int32, oK Rl mX9_look mX10_look [.int a0])
set_option maxRecDepth 20000 in
theorem lwd_loop : ∀ e ∈ ([(18, .iload_n 3, 1), (19, .aload_n 0, 1), (20, .arraylength, 1), (21, .iconst 5, 1), (22, .isub, 1), (23, .if_icmp .gt 1155, 3), (26, .aload_n 0, 1), (27, .iload_n 3, 1), (28, .iaload, 1), (29, .bipush 63, 2), (31, .iand, 1), (32, .tableswitch 1140 0 33 #[152, 185, 218, 271, 324, 347, 370, 393, 416, 429, 442, 475, 498, 531, 554, 567, 590, 623, 646, 679, 722, 755, 778, 811, 844, 877, 900, 933, 966, 989, 1022, 1055, 1078, 1117], 152), (1172, .iinc 3 5, 3), (1175, .goto (-1157), 3), (1178, .iconst 1, 1), (1179, .ireturn, 1)] : List (Nat × Instr × Nat)), decode code e.1 = .ok (e.2.1, e.2.2) := by decide +kernel
theorem sw_at {P : Nat → Prop} {j : Nat} (hj : j < 64) (h : ∀ i, i < 34 → P i) (hd : ∀ i, 34 ≤ i → P i) : P j := by
  by_cases hq : j < 34
  · exact h j hq
  · exact hd j (by omega)
set_option maxRecDepth 20000 in
/-- the loop's end -/
theorem law_end {p : Program} {l : Launch} {e : Env} {s : State} {m : MethodId} {below : List Frame} {meth : Method} {c : Code} {b L : Nat} {xs : Nat → Int32} {cells slots k v1 v2 : Nat} {H : Heap} {locs : List Loc} {ls : Array Slot} (C0 : lw_At p s m meth c b L xs) (hL : L ≤ 2560) (hcs : cells ≤ 600000 ∧ slots ≤ 7302250) (hi : L < 5 * k + 5) (hk : 5 * k ≤ 2565) (hS : va_S (fun q => s.heap.size ≤ q) s.heap H locs) (hl : lv_has ls 4 [(0, .ref b), (1, .ref v1), (2, .ref v2), (3, .int (nI (5 * k)))]) : W p l e room_1 s m #[Value.ref b] below meth c H locs cells slots (lw_Z below #[Value.ref b] s) (F0 m 18 ls []) := by
  have d18 : decode code 18 = .ok (.iload_n 3, 1) := lwd_loop (18, .iload_n 3, 1) (List.mem_of_getElem? (i := 0) rfl)
  have d19 : decode code 19 = .ok (.aload_n 0, 1) := lwd_loop (19, .aload_n 0, 1) (List.mem_of_getElem? (i := 1) rfl)
  have d20 : decode code 20 = .ok (.arraylength, 1) := lwd_loop (20, .arraylength, 1) (List.mem_of_getElem? (i := 2) rfl)
  have d21 : decode code 21 = .ok (.iconst 5, 1) := lwd_loop (21, .iconst 5, 1) (List.mem_of_getElem? (i := 3) rfl)
  have d22 : decode code 22 = .ok (.isub, 1) := lwd_loop (22, .isub, 1) (List.mem_of_getElem? (i := 4) rfl)
  have d23 : decode code 23 = .ok (.if_icmp .gt 1155, 3) := lwd_loop (23, .if_icmp .gt 1155, 3) (List.mem_of_getElem? (i := 5) rfl)
  have d1178 : decode code 1178 = .ok (.iconst 1, 1) := lwd_loop (1178, .iconst 1, 1) (List.mem_of_getElem? (i := 14) rfl)
  have d1179 : decode code 1179 = .ok (.ireturn, 1) := lwd_loop (1179, .ireturn, 1) (List.mem_of_getElem? (i := 15) rfl)
  obtain ⟨hx, hb, hr, hml, hown, hts, hX, hbl, hlocks, hgv⟩ := id C0
  refine lv_iload_n hx hb d18 rfl (lv_at hl 3 rfl) ?_
  refine lv_aload_n hx hb d19 rfl (lv_at hl 0 rfl) ?_
  refine va_slen hx hb hX hbl (Nat.not_le.mpr hbl) hS d20 ?_
  refine lv_iconst (v := 5) hx hb d21 (by decide) ?_
  refine lv_isub hx hb d22 ?_
  refine lv_icmp_gt (tgt := 1178) hx hb d23 (by decide) (fun _ => ?_) (fun hc => ?_)
  · refine lv_iconst (v := 1) hx hb d1178 (by decide) ?_
    refine va_forget hS.2.2 ?_
    refine W.widen hcs.1 hcs.2 ?_
    exact lw_ret hx hb hr hlocks d1179
  · exfalso
    have h1 : (nI L - nI 5).toInt = (L : Int) - 5 := pk_sub_toInt (by omega) (by omega)
    have hc : ¬ nI L - nI 5 < nI (5 * k) := hc
    rw [i_lt, h1, nI_ti (by omega)] at hc
    omega
set_option maxHeartbeats 4000000 in
set_option maxRecDepth 20000 in
theorem law_loop {p : Program} {l : Launch} {e : Env} {s : State} {m : MethodId} {below : List Frame} {meth : Method} {c : Code} {b L : Nat} {xs : Nat → Int32} {cells slots : Nat} {D : va_G} {τ : ClassId × ClassId × ClassId × ClassId} {a1 a2 : Nat → Nat} {Rl : Nat → gMem → gMem → Prop} (C0 : lw_At p s m meth c b L xs) (hL : L ≤ 2560) (F : LF D τ a1 a2 s) (hcs : cells ≤ 600000 ∧ slots ≤ 7302250) (ok : AllOK Rl) (hmono : ∀ k μ ν, Rl k μ ν → Rl (k + 1) μ ν) :
    ∀ (n k : Nat), L ≤ 5 * k + n → 5 * k ≤ 2565 → ∀ (H : Heap) (locs : List Loc) (ls : Array Slot) (μ ν : gMem), LW D τ a1 a2 s μ ν H locs → Rl k μ ν → lv_has ls 4 [(0, .ref b), (1, .ref (a1 177)), (2, .ref (a2 0)), (3, .int (nI (5 * k)))] → W p l e room_1 s m #[Value.ref b] below meth c H locs cells slots (lw_Z below #[Value.ref b] s) (F0 m 18 ls []) := by
  intro n
  induction n with
  | zero =>
    intro k hn hk H locs ls μ ν hW hR hl
    exact law_end C0 hL hcs (by omega) hk hW.2.2 hl
  | succ n ih =>
    intro k hn hk H locs ls μ ν hW hR hl
    by_cases hi : L < 5 * k + 5
    · exact law_end C0 hL hcs (by omega) hk hW.2.2 hl
    have hk2 : k < 512 := by omega
    have d18 : decode code 18 = .ok (.iload_n 3, 1) := lwd_loop (18, .iload_n 3, 1) (List.mem_of_getElem? (i := 0) rfl)
    have d19 : decode code 19 = .ok (.aload_n 0, 1) := lwd_loop (19, .aload_n 0, 1) (List.mem_of_getElem? (i := 1) rfl)
    have d20 : decode code 20 = .ok (.arraylength, 1) := lwd_loop (20, .arraylength, 1) (List.mem_of_getElem? (i := 2) rfl)
    have d21 : decode code 21 = .ok (.iconst 5, 1) := lwd_loop (21, .iconst 5, 1) (List.mem_of_getElem? (i := 3) rfl)
    have d22 : decode code 22 = .ok (.isub, 1) := lwd_loop (22, .isub, 1) (List.mem_of_getElem? (i := 4) rfl)
    have d23 : decode code 23 = .ok (.if_icmp .gt 1155, 3) := lwd_loop (23, .if_icmp .gt 1155, 3) (List.mem_of_getElem? (i := 5) rfl)
    have d26 : decode code 26 = .ok (.aload_n 0, 1) := lwd_loop (26, .aload_n 0, 1) (List.mem_of_getElem? (i := 6) rfl)
    have d27 : decode code 27 = .ok (.iload_n 3, 1) := lwd_loop (27, .iload_n 3, 1) (List.mem_of_getElem? (i := 7) rfl)
    have d28 : decode code 28 = .ok (.iaload, 1) := lwd_loop (28, .iaload, 1) (List.mem_of_getElem? (i := 8) rfl)
    have d29 : decode code 29 = .ok (.bipush 63, 2) := lwd_loop (29, .bipush 63, 2) (List.mem_of_getElem? (i := 9) rfl)
    have d31 : decode code 31 = .ok (.iand, 1) := lwd_loop (31, .iand, 1) (List.mem_of_getElem? (i := 10) rfl)
    have d32 : decode code 32 = .ok (.tableswitch 1140 0 33 #[152, 185, 218, 271, 324, 347, 370, 393, 416, 429, 442, 475, 498, 531, 554, 567, 590, 623, 646, 679, 722, 755, 778, 811, 844, 877, 900, 933, 966, 989, 1022, 1055, 1078, 1117], 152) := lwd_loop (32, .tableswitch 1140 0 33 #[152, 185, 218, 271, 324, 347, 370, 393, 416, 429, 442, 475, 498, 531, 554, 567, 590, 623, 646, 679, 722, 755, 778, 811, 844, 877, 900, 933, 966, 989, 1022, 1055, 1078, 1117], 152) (List.mem_of_getElem? (i := 11) rfl)
    have d1172 : decode code 1172 = .ok (.iinc 3 5, 3) := lwd_loop (1172, .iinc 3 5, 3) (List.mem_of_getElem? (i := 12) rfl)
    have d1175 : decode code 1175 = .ok (.goto (-1157), 3) := lwd_loop (1175, .goto (-1157), 3) (List.mem_of_getElem? (i := 13) rfl)
    have d1178 : decode code 1178 = .ok (.iconst 1, 1) := lwd_loop (1178, .iconst 1, 1) (List.mem_of_getElem? (i := 14) rfl)
    have d1179 : decode code 1179 = .ok (.ireturn, 1) := lwd_loop (1179, .ireturn, 1) (List.mem_of_getElem? (i := 15) rfl)
    obtain ⟨hx, hb, hr, hml, hown, hts, hX, hbl, hlocks, hgv⟩ := id C0
    have hS := hW.2.2
    refine lv_iload_n hx hb d18 rfl (lv_at hl 3 rfl) ?_
    refine lv_aload_n hx hb d19 rfl (lv_at hl 0 rfl) ?_
    refine va_slen hx hb hX hbl (Nat.not_le.mpr hbl) hS d20 ?_
    refine lv_iconst (v := 5) hx hb d21 (by decide) ?_
    refine lv_isub hx hb d22 ?_
    refine lv_icmp_gt (tgt := 1178) hx hb d23 (by decide) (fun hc => ?_) (fun _ => ?_)
    · exfalso
      have h1 : (nI L - nI 5).toInt = (L : Int) - 5 := pk_sub_toInt (by omega) (by omega)
      have hc : nI L - nI 5 < nI (5 * k) := hc
      rw [i_lt, h1, nI_ti (by omega)] at hc
      omega
    refine lv_aload_n hx hb d26 rfl (lv_at hl 0 rfl) ?_
    refine lv_iload_n hx hb d27 rfl (lv_at hl 3 rfl) ?_
    refine va_sld hx hb hX hbl (Nat.not_le.mpr hbl) hS (vp_in_nI (by omega) (by omega)) d28 ?_
    refine lv_bipush (v := 63) hx hb d29 (by decide) ?_
    refine lv_iand hx hb d31 ?_
    obtain ⟨j, hj, ej⟩ := pk_andE (xs (nI (5 * k)).toNatClampNeg) (m := 63) 6 (by decide)
    rw [ej]
    have hj : j < 64 := hj
    have back : ∀ (H : Heap) (locs : List Loc) (μ ν : gMem), LW D τ a1 a2 s μ ν H locs → Rl (k + 1) μ ν → W p l e room_1 s m #[Value.ref b] below meth c H locs cells slots (lw_Z below #[Value.ref b] s) (F0 m 1172 ls []) := by
      intro H locs μ ν hW hR
      refine lv_iinc (v := nI (5 * (k + 1))) (lv' := [(3, .int (nI (5 * (k + 1)))), (0, .ref b), (1, .ref (a1 177)), (2, .ref (a2 0))]) hx hb d1172 hl (k := 3) rfl (by show nI (5 * k) + nI 5 = nI (5 * (k + 1)); rw [nad]; rfl) (by decide) rfl (fun ls hl => ?_)
      refine lv_goto (tgt := 18) hx hb d1175 (by decide) ?_
      exact ih (k + 1) (by omega) (by omega) H locs ls μ ν hW hR (lv_sub hl [1, 2, 3, 0] rfl)
    have hti : (nI j).toInt = (j : Int) := nI_ti (by omega)
    by_cases hq : j < 34
    · have key : ∀ (t : Nat) (off : Int), (#[152, 185, 218, 271, 324, 347, 370, 393, 416, 429, 442, 475, 498, 531, 554, 567, 590, 623, 646, 679, 722, 755, 778, 811, 844, 877, 900, 933, 966, 989, 1022, 1055, 1078, 1117] : Array Int)[j]? = some off → (32 : Int) + off = (t : Int) → (∀ (H : Heap) (locs : List Loc) (μ ν : gMem), LW D τ a1 a2 s μ ν H locs → Rl k μ ν → W p l e room_1 s m #[Value.ref b] below meth c H locs cells slots (lw_Z below #[Value.ref b] s) (F0 m t ls [])) → W p l e room_1 s m #[Value.ref b] below meth c H locs cells slots (lw_Z below #[Value.ref b] s) (F0 m 32 ls [.int (nI j)]) := by
        intro t off ho ht hk9
        refine lv_tableIn (tgt := t) hx hb d32 (by rw [hti]; omega) (by rw [hti]; omega) (off := off) ?_ ht (hk9 H locs μ ν hW hR)
        rw [hti]
        simpa using ho
      obtain ⟨o0, o1, o2, o3, o4, o5, o6, o7, o8, o9, o10, o11, o12, o13, o14, o15, o16, o17, o18, o19, o20, o21, o22, o23, o24, o25, o26, o27, o28, o29, o30, o31, o32, o33⟩ := ok
      match j, hq, key with
      | 0, _, key => exact key 184 152 rfl (by decide) (lc_0 C0 hL F hl (by omega) hk2 hcs (o0 _ _) back)
      | 1, _, key => exact key 217 185 rfl (by decide) (lc_1 C0 hL F hl (by omega) hk2 hcs (o1 _ _) back)
      | 2, _, key => exact key 250 218 rfl (by decide) (lc_2 C0 hL F hl (by omega) hk2 hcs (o2 _ _ _ _) back)
      | 3, _, key => exact key 303 271 rfl (by decide) (lc_3 C0 hL F hl (by omega) hk2 hcs (o3 _ _ _ _) back)
      | 4, _, key => exact key 356 324 rfl (by decide) (lc_4 C0 hL F hl (by omega) hk2 hcs (o4 _) back)
      | 5, _, key => exact key 379 347 rfl (by decide) (lc_5 C0 hL F hl (by omega) hk2 hcs (o5 _) back)
      | 6, _, key => exact key 402 370 rfl (by decide) (lc_6 C0 hL F hl (by omega) hk2 hcs (o6 _) back)
      | 7, _, key => exact key 425 393 rfl (by decide) (lc_7 C0 hL F hl (by omega) hk2 hcs (o7 _) back)
      | 8, _, key => exact key 448 416 rfl (by decide) (lc_8 C0 hL F hl (by omega) hk2 hcs o8 back)
      | 9, _, key => exact key 461 429 rfl (by decide) (lc_9 C0 hL F hl (by omega) hk2 hcs o9 back)
      | 10, _, key => exact key 474 442 rfl (by decide) (lc_10 C0 hL F hl (by omega) hk2 hcs (o10 _ _) back)
      | 11, _, key => exact key 507 475 rfl (by decide) (lc_11 C0 hL F hl (by omega) hk2 hcs (o11 _) back)
      | 12, _, key => exact key 530 498 rfl (by decide) (lc_12 C0 hL F hl (by omega) hk2 hcs (o12 _ _) back)
      | 13, _, key => exact key 563 531 rfl (by decide) (lc_13 C0 hL F hl (by omega) hk2 hcs (o13 _) back)
      | 14, _, key => exact key 586 554 rfl (by decide) (lc_14 C0 hL F hl (by omega) hk2 hcs o14 back)
      | 15, _, key => exact key 599 567 rfl (by decide) (lc_15 C0 hL F hl (by omega) hk2 hcs (o15 _) back)
      | 16, _, key => exact key 622 590 rfl (by decide) (lc_16 C0 hL F hl (by omega) hk2 hcs (o16 _ _) back)
      | 17, _, key => exact key 655 623 rfl (by decide) (lc_17 C0 hL F hl (by omega) hk2 hcs (o17 _) back)
      | 18, _, key => exact key 678 646 rfl (by decide) (lc_18 C0 hL F hl (by omega) hk2 hcs (o18 _ _) back)
      | 19, _, key => exact key 711 679 rfl (by decide) (lc_19 C0 hL F hl (by omega) hk2 hcs (o19 _ _ _) back)
      | 20, _, key => exact key 754 722 rfl (by decide) (lc_20 C0 hL F hl (by omega) hk2 hcs (o20 _ _) back)
      | 21, _, key => exact key 787 755 rfl (by decide) (lc_21 C0 hL F hl (by omega) hk2 hcs (o21 _) back)
      | 22, _, key => exact key 810 778 rfl (by decide) (lc_22 C0 hL F hl (by omega) hk2 hcs (o22 _ _) back)
      | 23, _, key => exact key 843 811 rfl (by decide) (lc_23 C0 hL F hl (by omega) hk2 hcs (o23 _ _) back)
      | 24, _, key => exact key 876 844 rfl (by decide) (lc_24 C0 hL F hl (by omega) hk2 hcs (o24 _ _) back)
      | 25, _, key => exact key 909 877 rfl (by decide) (lc_25 C0 hL F hl (by omega) hk2 hcs (o25 _) back)
      | 26, _, key => exact key 932 900 rfl (by decide) (lc_26 C0 hL F hl (by omega) hk2 hcs (o26 _ _) back)
      | 27, _, key => exact key 965 933 rfl (by decide) (lc_27 C0 hL F hl (by omega) hk2 hcs (o27 _ _) back)
      | 28, _, key => exact key 998 966 rfl (by decide) (lc_28 C0 hL F hl (by omega) hk2 hcs (o28 _) back)
      | 29, _, key => exact key 1021 989 rfl (by decide) (lc_29 C0 hL F hl (by omega) hk2 hcs (o29 _ _) back)
      | 30, _, key => exact key 1054 1022 rfl (by decide) (lc_30 C0 hL F hl (by omega) hk2 hcs (o30 _ _) back)
      | 31, _, key => exact key 1087 1055 rfl (by decide) (lc_31 C0 hL F hl (by omega) hk2 hcs (o31 _) back)
      | 32, _, key => exact key 1110 1078 rfl (by decide) (lc_32 C0 hL F hl (by omega) hk2 hcs (o32 _ (by by_cases h9 : xs (5 * k + 1) = 0; (rw [if_pos h9]; exact Or.inl rfl); (rw [if_neg h9]; exact Or.inr rfl))) back)
      | 33, _, key => exact key 1149 1117 rfl (by decide) (lc_33 C0 hL F hl (by omega) hk2 hcs (o33 _) back)
      | j + 34, hq, _ => exact absurd hq (by omega)
    · refine lv_tableOut (tgt := 1172) hx hb d32 (by rw [hti]; omega) (by decide) ?_
      exact back H locs μ ν hW (hmono _ _ _ hR)
