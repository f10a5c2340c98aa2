theorem eq_c9 : (.classLink R_law 7 RX9 : Cond) ∈ gtb := gtb_t1 15 rfl rfl
theorem eq_i9 : (.instantiable RX9 5 : Cond) ∈ gtb := gtb_t1 16 rfl rfl
theorem eq_n9 : (.initialized RX9 : Cond) ∈ gtb := gtb_t1 1 rfl rfl
theorem eq_l9 : (.methodLink R_law 9 yX9_init : Cond) ∈ gtb := gtb_t1 17 rfl rfl
theorem eq_m9 : (.instanceMethod yX9_init : Cond) ∈ gtb := gtb_t1 18 rfl rfl
theorem eq_k9 : (.code yX9_init cX9_init 1 none : Cond) ∈ gtb := gtb_t1 19 rfl rfl
theorem eq_c10 : (.classLink R_law 10 RX10 : Cond) ∈ gtb := gtb_t5 83 rfl rfl
theorem eq_i10 : (.instantiable RX10 30 : Cond) ∈ gtb := gtb_t5 84 rfl rfl
theorem eq_n10 : (.initialized RX10 : Cond) ∈ gtb := gtb_t1 10 rfl rfl
theorem eq_l10 : (.methodLink R_law 12 yX10_init : Cond) ∈ gtb := gtb_t5 85 rfl rfl
theorem eq_m10 : (.instanceMethod yX10_init : Cond) ∈ gtb := gtb_t5 86 rfl rfl
theorem eq_k10 : (.code yX10_init cX10_init 1 none : Cond) ∈ gtb := gtb_t5 87 rfl rfl
theorem ei_X9 : (.instantiable RX9 5 : Cond) ∈ gtb := gtb_t1 16 rfl rfl
theorem ei_X2 : (.instantiable RX2 14 : Cond) ∈ gtb := gtb_t1 24 rfl rfl
theorem ei_X4 : (.instantiable RX4 4 : Cond) ∈ gtb := gtb_t1 30 rfl rfl
theorem ei_X8 : (.instantiable RX8 3 : Cond) ∈ gtb := gtb_t1 63 rfl rfl
theorem ei_X7 : (.instantiable RX7 4 : Cond) ∈ gtb := gtb_t1 85 rfl rfl
theorem ei_X0 : (.instantiable RX0 2 : Cond) ∈ gtb := gtb_t1 115 rfl rfl
theorem ei_X6 : (.instantiable RX6 2 : Cond) ∈ gtb := gtb_t1 131 rfl rfl
theorem ei_X3 : (.instantiable RX3 6 : Cond) ∈ gtb := gtb_t1 146 rfl rfl
theorem ei_X5 : (.instantiable RX5 7 : Cond) ∈ gtb := gtb_t1 236 rfl rfl
theorem ei_X10 : (.instantiable RX10 30 : Cond) ∈ gtb := gtb_t5 84 rfl rfl
theorem ea_I : (.arrayClass .int : Cond) ∈ gtb := gtb_t1 61 rfl rfl
theorem ea_J : (.arrayClass .long : Cond) ∈ gtb := gtb_t1 113 rfl rfl
theorem ea_Z : (.arrayClass .boolean : Cond) ∈ gtb := gtb_t5 180 rfl rfl
theorem es_B : (.initialized "GangMatrix$Board" : Cond) ∈ gtb := gtb_t1 2 rfl rfl
theorem es_K : (.initialized "GangMatrix$Blocks" : Cond) ∈ gtb := gtb_t1 11 rfl rfl
theorem tb_1 {w : Cond} (i : Nat) (h : tables_1_1[i]? = some w) : w ∈ lw_tbl := List.mem_append_right _ (List.mem_append_left _ (List.mem_of_getElem? h))
theorem tb_2 {w : Cond} (i : Nat) (h : tables_1_2[i]? = some w) : w ∈ lw_tbl := List.mem_append_right _ (List.mem_append_right _ (List.mem_append_left _ (List.mem_of_getElem? h)))
section ENTRY
variable {s : State} {args : Array Value}
/-- the classes' numbers -/
theorem known_all (hts : ∀ w ∈ gtb, w.before args s = true) : ∃ D : va_G, ∀ (k : Nat) (q : vw_C), gcl[k]? = some q → u_Kn s q.1 q.2.1 q.2.2 (D.1 k) (D.2 k) := by
  have h : ∀ k : Nat, ∃ (cC : ClassId) (iS : Nat → Nat), ∀ q : vw_C, gcl[k]? = some q → u_Kn s q.1 q.2.1 q.2.2 cC iS := fun k => by
    match k with
    | 0 =>
      obtain ⟨a, i, h⟩ := u_known (C := RX9) (T := TX9) (N := 5) (n := 5) hts inX9 (hts _ ei_X9)
      exact ⟨a, i, fun q hq => by cases hq; exact h⟩
    | 1 =>
      obtain ⟨a, i, h⟩ := u_known (C := RX2) (T := TX2) (N := 14) (n := 14) hts inX2 (hts _ ei_X2)
      exact ⟨a, i, fun q hq => by cases hq; exact h⟩
    | 2 =>
      obtain ⟨a, i, h⟩ := u_known (C := RX4) (T := TX4) (N := 4) (n := 4) hts inX4 (hts _ ei_X4)
      exact ⟨a, i, fun q hq => by cases hq; exact h⟩
    | 3 =>
      obtain ⟨a, i, h⟩ := u_known (C := RX8) (T := TX8) (N := 3) (n := 3) hts inX8 (hts _ ei_X8)
      exact ⟨a, i, fun q hq => by cases hq; exact h⟩
    | 4 =>
      obtain ⟨a, i, h⟩ := u_known (C := RX7) (T := TX7) (N := 4) (n := 4) hts inX7 (hts _ ei_X7)
      exact ⟨a, i, fun q hq => by cases hq; exact h⟩
    | 5 =>
      obtain ⟨a, i, h⟩ := u_known (C := RX0) (T := TX0) (N := 2) (n := 2) hts inX0 (hts _ ei_X0)
      exact ⟨a, i, fun q hq => by cases hq; exact h⟩
    | 6 =>
      obtain ⟨a, i, h⟩ := u_known (C := RX6) (T := TX6) (N := 2) (n := 2) hts inX6 (hts _ ei_X6)
      exact ⟨a, i, fun q hq => by cases hq; exact h⟩
    | 7 =>
      obtain ⟨a, i, h⟩ := u_known (C := RX3) (T := TX3) (N := 6) (n := 6) hts inX3 (hts _ ei_X3)
      exact ⟨a, i, fun q hq => by cases hq; exact h⟩
    | 8 =>
      obtain ⟨a, i, h⟩ := u_known (C := RX5) (T := TX5) (N := 7) (n := 7) hts inX5 (hts _ ei_X5)
      exact ⟨a, i, fun q hq => by cases hq; exact h⟩
    | 9 =>
      obtain ⟨a, i, h⟩ := u_known (C := RX10) (T := TX10) (N := 30) (n := 30) hts inX10 (hts _ ei_X10)
      exact ⟨a, i, fun q hq => by cases hq; exact h⟩
    | k + 10 => exact ⟨Classical.choose (u_known (C := RX9) (T := TX9) (N := 5) (n := 5) hts inX9 (hts _ ei_X9)), fun _ => 0, fun q hq => by
      rw [show gcl[k + 10]? = none from List.getElem?_eq_none (by show 10 ≤ k + 10; omega)] at hq
      cases hq⟩
  exact ⟨(fun k => Classical.choose (h k), fun k => Classical.choose (Classical.choose_spec (h k))), fun k q hq => Classical.choose_spec (Classical.choose_spec (h k)) q hq⟩
theorem arr_known {ty : FieldType} (h : (Cond.arrayClass ty).before args s = true) : ∃ cA : ClassId, ArrOfT s cA ty ∧ s.vm.findClass ("[" ++ ty.toString) = some cA := by
  obtain ⟨cA, kA, comp, h1, h2, h3⟩ := Cond.arrayClass_spec h
  exact ⟨cA, fun n z => ⟨fun k h => (by cases h), kA, h2, comp, h3⟩, h1⟩
/-- the array classes' numbers, and int[][] over int[] -/
theorem known_arr (hts : ∀ w ∈ lw_tbl, w.before args s = true) : ∃ τ : ClassId × ClassId × ClassId × ClassId, gX τ s ∧ ∀ (k : Nat) (q : ClassId × FieldType), [(τ.1, FieldType.int), (τ.2.1, .long), (τ.2.2.1, .boolean), (τ.2.2.2, .array .int)][k]? = some q → ArrOfT s q.1 q.2 ∧ va_RA s q.1 q.2 := by
  obtain ⟨c1, a1, b1⟩ := arr_known (hts _ (gtb_lw ea_I))
  obtain ⟨c2, a2, b2⟩ := arr_known (hts _ (gtb_lw ea_J))
  obtain ⟨c3, a3, b3⟩ := arr_known (hts _ (gtb_lw ea_Z))
  obtain ⟨comp, c4, k4, h1, -, h2, h3, h4⟩ := arrayOverA_spec (hts (.arrayOver (.array .int)) (tb_1 36 rfl))
  have e1 : comp = c1 := Option.some.inj (h1.symm.trans b1)
  subst e1
  refine ⟨(comp, c2, c3, c4), ⟨⟨k4, h2, h3⟩, fun q hq => ?_⟩, fun k q hq => ?_⟩
  · unfold nst at hq
    simp only [List.mem_cons, List.not_mem_nil, or_false] at hq
    rcases hq with rfl | rfl | rfl | rfl | rfl | rfl | rfl
    · exact va_Nw.of rfl (hts _ (tb_1 25 rfl))
    · exact va_Nw.of rfl (hts _ (tb_1 31 rfl))
    · exact va_Nw.of rfl (hts _ (tb_1 64 rfl))
    · exact va_Nw.of rfl (hts _ (tb_1 86 rfl))
    · exact va_Nw.of rfl (hts _ (tb_1 116 rfl))
    · exact va_Nw.of rfl (hts _ (tb_1 132 rfl))
    · exact va_Nw.of rfl (hts _ (tb_1 147 rfl))
  · match k, hq with
    | 0, hq => cases hq; exact ⟨a1, b1⟩
    | 1, hq => cases hq; exact ⟨a2, b2⟩
    | 2, hq => cases hq; exact ⟨a3, b3⟩
    | 3, hq => cases hq; exact ⟨fun n z => ⟨fun k h => (by cases h), k4, h2, comp, h3⟩, h4⟩
    | k + 4, hq =>
      rw [List.getElem?_eq_none (by show 4 ≤ k + 4; omega)] at hq
      cases hq
/-- a static row -/
theorem stat_of {C n : String} {tb : List Int32} (hN : tb.length < 2 ^ 31) (hl : (Cond.laysStatic C n "[I").before args s = true) (hini : (Cond.initialized C).before args s = true) (harr : (Cond.arrayOf (.static C n "[I") .int).before args s = true) (hlen : (Cond.eq (.length (.static C n "[I")) (.int (Int32.ofNat tb.length))).before args s = true) (hel : ∀ j : Nat, j < tb.length → (Cond.eq (.elem (.static C n "[I") (.int (Int32.ofNat j))) (.int (tb.getD j 0))).before args s = true) : ∃ t : Nat, ∀ A : Nat → Prop, (∀ a : Nat, a < s.heap.size → ¬ A a) → gS1 C n t tb A s s.heap := by
  have key : ∀ A : Nat → Prop, (∀ a : Nat, a < s.heap.size → ¬ A a) → ∃ t : Nat, (Term.static C n "[I").eval args s none [] s = some (.ref t) ∧ va_T .int t tb.length (fun j => .int (tb.getD j 0)) A s s.heap := fun A hA => va_Tof hN harr (va_eqt hlen) (fun j hj => va_eqt (hel j hj)) hA
  obtain ⟨t, h1, -⟩ := key (fun _ => False) (fun _ _ h => h)
  refine ⟨t, fun A hA => ?_⟩
  obtain ⟨t', h2, h3⟩ := key A hA
  have e1 : t' = t := by
    have := h2.symm.trans h1
    injection this with this
    injection this
  subst e1
  exact ⟨va_Zof hl hini h2 hA, h3⟩
theorem stats (hts : ∀ w ∈ lw_tbl, w.before args s = true) (hs : ∀ c ∈ flatC (Jvm.Cond.and given_1 narrow_1), c.before args s = true) : ∃ t0 t1 t2 : Nat, ∀ A : Nat → Prop, (∀ a : Nat, a < s.heap.size → ¬ A a) → gS1 "GangMatrix$Blocks" "ALIGNED" t0 g_t0 A s s.heap ∧ gS1 "GangMatrix$Board" "LEAST_TOLD" t1 g_t1 A s s.heap ∧ gS1 "GangMatrix$Board" "MOST_TOLD" t2 g_t2 A s s.heap := by
  obtain ⟨t0, h0⟩ := stat_of (C := "GangMatrix$Blocks") (n := "ALIGNED") (tb := g_t0) (by decide) (hts _ (tb_2 96 rfl)) (hts _ (gtb_lw es_K)) (hs _ (by decide +kernel)) (hs _ (by decide +kernel)) (fun j hj => by
    match j, hj with
    | 0, _ => exact hs _ (by decide +kernel)
    | 1, _ => exact hs _ (by decide +kernel)
    | 2, _ => exact hs _ (by decide +kernel)
    | 3, _ => exact hs _ (by decide +kernel)
    | 4, _ => exact hs _ (by decide +kernel)
    | 5, _ => exact hs _ (by decide +kernel)
    | k + 6, hj => exact absurd hj (by show ¬ k + 6 < 6; omega))
  obtain ⟨t1, h1⟩ := stat_of (C := "GangMatrix$Board") (n := "LEAST_TOLD") (tb := g_t1) (by decide) (hts _ (tb_2 48 rfl)) (hts _ (gtb_lw es_B)) (hs _ (by decide +kernel)) (hs _ (by decide +kernel)) (fun j hj => by
    match j, hj with
    | 0, _ => exact hs _ (by decide +kernel)
    | 1, _ => exact hs _ (by decide +kernel)
    | 2, _ => exact hs _ (by decide +kernel)
    | 3, _ => exact hs _ (by decide +kernel)
    | 4, _ => exact hs _ (by decide +kernel)
    | 5, _ => exact hs _ (by decide +kernel)
    | 6, _ => exact hs _ (by decide +kernel)
    | 7, _ => exact hs _ (by decide +kernel)
    | 8, _ => exact hs _ (by decide +kernel)
    | 9, _ => exact hs _ (by decide +kernel)
    | k + 10, hj => exact absurd hj (by show ¬ k + 10 < 10; omega))
  obtain ⟨t2, h2⟩ := stat_of (C := "GangMatrix$Board") (n := "MOST_TOLD") (tb := g_t2) (by decide) (hts _ (tb_2 50 rfl)) (hts _ (gtb_lw es_B)) (hs _ (by decide +kernel)) (hs _ (by decide +kernel)) (fun j hj => by
    match j, hj with
    | 0, _ => exact hs _ (by decide +kernel)
    | 1, _ => exact hs _ (by decide +kernel)
    | 2, _ => exact hs _ (by decide +kernel)
    | 3, _ => exact hs _ (by decide +kernel)
    | 4, _ => exact hs _ (by decide +kernel)
    | 5, _ => exact hs _ (by decide +kernel)
    | 6, _ => exact hs _ (by decide +kernel)
    | 7, _ => exact hs _ (by decide +kernel)
    | 8, _ => exact hs _ (by decide +kernel)
    | 9, _ => exact hs _ (by decide +kernel)
    | k + 10, hj => exact absurd hj (by show ¬ k + 10 < 10; omega))
  exact ⟨t0, t1, t2, fun A hA => ⟨h0 A hA, h1 A hA, h2 A hA⟩⟩
theorem all_ok : AllOK Rl := ⟨ok_set, ok_share, ok_job, ok_later, ok_kill, ok_quantum, ok_down, ok_up, ok_unify, ok_repack, ok_move, ok_migrate, ok_weigh, ok_pack, ok_relay, ok_urge, ok_urged, ok_thin, ok_where, ok_free, ok_cell, ok_load, ok_of, ok_user, ok_slot, ok_queue, ok_lends, ok_would, ok_when, ok_log, ok_went, ok_count, ok_image, ok_look⟩
theorem Rl_mono (k : Nat) (μ ν : gMem) (h : Rl k μ ν) : Rl (k + 1) μ ν := by
  obtain ⟨⟨n, a, r, p, t, Q, B, h1, h2, h3⟩, h4⟩ := h
  exact ⟨⟨n, a, r, p, t, Q, B, h1, by omega, by omega⟩, h4.fr (by omega) (by omega) cfr.rf ⟨fun _ _ _ => rfl, rfl, fun _ _ _ => rfl⟩⟩
end ENTRY
