section LOOK
variable {b u b' u' μ μ' ν : gMem} {n a r p t B k : Nat} {Q : List Nat}
/-- those that wait, counted -/
theorem wait_cnt (h : BW b u n a r p t Q B) : Q.length = cB (fun j => decide (b.1 9 j = 1)) n := by
  obtain ⟨q1, q2, q3, q4, q5, q6⟩ := h.Q
  rw [cB_flt]
  refine Nat.le_antisymm (nodup_le q4 (fun x hx => ?_)) (nodup_le ?_ (fun x hx => ?_))
  · rw [List.mem_filter, List.mem_range]; have := (q5 x).mp hx; exact ⟨this.1, decide_eq_true this.2⟩
  · exact (List.nodup_range).filter _
  · rw [List.mem_filter, List.mem_range] at hx; exact (q5 x).mpr ⟨hx.1, of_decide_eq_true hx.2⟩
theorem look_tail (a0 : Int32) (h : BW μ (gwI u 0 0 0) n a r p t Q B) (h0 : ∀ w : Nat, w < 10 → ¬ a0 = nI w) (hc : a0 < 0 ∨ (¬ a0 < 0 ∧ 10 ≤ a0)) : ∃ x u', mX9_look [.ref 177, .int a0] μ = some (some (.int x), μ) ∧ mX10_look [.ref 0, .int a0] u = some (some (.int x), u') ∧ qs (gwI u 0 0 0) u' := by
  have hp := h.A.p32
  have hn := h.A.n60
  have E1 : ∃ y : gMem → Option (Option Value × gMem), mX9_look [.ref 177, .int a0] μ = y μ ∧ y μ = (if a0 = 10 then some (some (.int (μ.1 0 12)), μ) else (if a0 = 11 then some (some (.int (μ.1 3 2)), μ) else (if a0 = 12 then some (some (.int (μ.1 33 1)), μ) else (if a0 = 13 then some (some (.int (μ.1 29 3)), μ) else (if a0 = 14 then some (some (.int (μ.1 3 3)), μ) else (if a0 = 15 then (g_ci ((g_lf 0 mX4_inState) [.ref 3, .int 0] μ) (fun a14 u14 => some (some (.int a14), u14))) else (if a0 = 16 then (g_ci ((g_lf 0 mX4_inState) [.ref 3, .int 2] μ) (fun a13 u13 => some (some (.int a13), u13))) else (if a0 = 17 then (g_ci ((g_lf 0 mX4_inState) [.ref 3, .int 3] μ) (fun a12 u12 => some (some (.int a12), u12))) else (if a0 = 18 then (g_ci ((g_lf 0 mX4_inState) [.ref 3, .int 4] μ) (fun a11 u11 => some (some (.int a11), u11))) else (if a0 = 19 then (g_ci ((g_lf 0 mX7_peak) [.ref 29] μ) (fun a10 u10 => some (some (.int a10), u10))) else (if a0 = 20 then (g_ci ((g_lf 0 mX7_peakColumn) [.ref 29] μ) (fun a9 u9 => some (some (.int a9), u9))) else (if a0 = 21 then (g_ci (mJ6_bitCount_0f7a4 [.int (μ.1 0 13)] μ) (fun a8 u8 => some (some (.int a8), u8))) else (if a0 = 22 then some (some (.int (μ.1 39 1)), μ) else some (some (.int (-100000000)), μ)))))))))))))) := by
    refine ⟨fun _ => _, ?_, rfl⟩
    rw [eX9_look]
    rcases hc with q | ⟨q, q2⟩
    · rw [if_pos q]
    · rw [if_neg q, if_pos q2]
  obtain ⟨y, y1, y2⟩ := E1
  rw [y1, y2]
  clear y1 y2
  have i9 : mX10_isIn [.ref 0, .int a0, .int 0, .int 9] (gwI u 0 0 0) = some (some (.int 0), gwI u 0 0 0) := isIn_0 (m := 9) (by omega) hc
  have E2 := eX10_look a0 u
  rw [i9, g_ci_some, if_pos rfl] at E2
  rw [E2]
  clear E2
  have two : ∀ x y : Int32, mX10_isIn [.ref 0, .int a0, .int x, .int y] (gwI u 0 0 0) = (if a0 < x then some (some (.int 0), gwI u 0 0 0) else (if y < a0 then some (some (.int 0), gwI u 0 0 0) else some (some (.int 1), gwI u 0 0 0))) := fun x y => eX10_isIn a0 x y _
  rw [two 10 13]
  by_cases z10 : a0 = 10
  · subst z10
    exact ⟨_, _, rfl, by rw [if_neg (by decide), if_neg (by decide), g_ci_some, if_neg (by decide), if_pos (by decide)]; rw [show (gwI u 0 0 0).1 1 (Int32.toNatClampNeg 10) = μ.1 0 12 from h.e.h.t], qs.rf⟩
  by_cases z11 : a0 = 11
  · subst z11
    exact ⟨_, _, rfl, by rw [if_neg (by decide), if_neg (by decide), g_ci_some, if_neg (by decide), if_pos (by decide)]; rw [show (gwI u 0 0 0).1 1 (Int32.toNatClampNeg 11) = μ.1 3 2 from h.e.h.n], qs.rf⟩
  by_cases z12 : a0 = 12
  · subst z12
    exact ⟨_, _, rfl, by rw [if_neg (by decide), if_neg (by decide), g_ci_some, if_neg (by decide), if_pos (by decide)]; rw [show (gwI u 0 0 0).1 1 (Int32.toNatClampNeg 12) = μ.1 33 1 from h.e.h.a], qs.rf⟩
  by_cases z13 : a0 = 13
  · subst z13
    exact ⟨_, _, rfl, by rw [if_neg (by decide), if_neg (by decide), g_ci_some, if_neg (by decide), if_pos (by decide)]; rw [show (gwI u 0 0 0).1 1 (Int32.toNatClampNeg 13) = μ.1 29 3 from h.e.h.r], qs.rf⟩
  rw [if_neg z10, if_neg z11, if_neg z12, if_neg z13]
  have o13 : (if a0 < 10 then some (some (Value.int 0), gwI u 0 0 0) else (if 13 < a0 then some (some (.int 0), gwI u 0 0 0) else some (some (.int 1), gwI u 0 0 0))) = some (some (Value.int 0), gwI u 0 0 0) := by
    by_cases w1 : a0 < 10
    · rw [if_pos w1]
    · rw [if_neg w1]
      by_cases w2 : 13 < a0
      · rw [if_pos w2]
      · exfalso
        obtain ⟨x, hx, rfl⟩ := nat_of (x := a0) (fun z => w1 (by grind))
        have w3 : ¬ nI x < nI 10 := w1
        have w4 : ¬ nI 13 < nI x := w2
        rw [nlt hx (by omega)] at w3
        rw [nlt (by omega) hx] at w4
        have : x = 10 ∨ x = 11 ∨ x = 12 ∨ x = 13 := by omega
        rcases this with rfl | rfl | rfl | rfl
        · exact z10 rfl
        · exact z11 rfl
        · exact z12 rfl
        · exact z13 rfl
  rw [o13, g_ci_some, if_pos rfl, two 16 18]
  by_cases z14 : a0 = 14
  · rw [if_pos z14, if_pos z14, h.Q.1, wait_cnt h, m_manyOf h.e h.A, g_ci_some]
    exact ⟨_, _, rfl, rfl, qs.rf⟩
  rw [if_neg z14, if_neg z14]
  by_cases z15 : a0 = 15
  · rw [if_pos z15, if_pos z15, lfq rfl rfl (c_inState h.A 0) rfl, g_ci_some, m_manyOf h.e h.A, g_ci_some]
    exact ⟨_, _, rfl, rfl, qs.rf⟩
  rw [if_neg z15, if_neg z15]
  by_cases z16 : a0 = 16
  · subst z16
    rw [if_pos rfl, if_neg (by decide), if_neg (by decide), g_ci_some, if_neg (by decide), lfq rfl rfl (c_inState h.A 2) rfl, g_ci_some, show (16 : Int32) - 14 = 2 from rfl, m_manyOf h.e h.A, g_ci_some]
    exact ⟨_, _, rfl, rfl, qs.rf⟩
  by_cases z17 : a0 = 17
  · subst z17
    rw [if_neg (by decide), if_pos rfl, if_neg (by decide), if_neg (by decide), g_ci_some, if_neg (by decide), lfq rfl rfl (c_inState h.A 3) rfl, g_ci_some, show (17 : Int32) - 14 = 3 from rfl, m_manyOf h.e h.A, g_ci_some]
    exact ⟨_, _, rfl, rfl, qs.rf⟩
  by_cases z18 : a0 = 18
  · subst z18
    rw [if_neg (by decide), if_neg (by decide), if_pos rfl, if_neg (by decide), if_neg (by decide), g_ci_some, if_neg (by decide), lfq rfl rfl (c_inState h.A 4) rfl, g_ci_some, show (18 : Int32) - 14 = 4 from rfl, m_manyOf h.e h.A, g_ci_some]
    exact ⟨_, _, rfl, rfl, qs.rf⟩
  rw [if_neg z16, if_neg z17, if_neg z18]
  have o18 : (if a0 < 16 then some (some (Value.int 0), gwI u 0 0 0) else (if 18 < a0 then some (some (.int 0), gwI u 0 0 0) else some (some (.int 1), gwI u 0 0 0))) = some (some (Value.int 0), gwI u 0 0 0) := by
    by_cases w1 : a0 < 16
    · rw [if_pos w1]
    · rw [if_neg w1]
      by_cases w2 : 18 < a0
      · rw [if_pos w2]
      · exfalso
        obtain ⟨x, hx, rfl⟩ := nat_of (x := a0) (fun z => w1 (by grind))
        have w3 : ¬ nI x < nI 16 := w1
        have w4 : ¬ nI 18 < nI x := w2
        rw [nlt hx (by omega)] at w3
        rw [nlt (by omega) hx] at w4
        have : x = 16 ∨ x = 17 ∨ x = 18 := by omega
        rcases this with rfl | rfl | rfl
        · exact z16 rfl
        · exact z17 rfl
        · exact z18 rfl
  rw [o18, g_ci_some, if_pos rfl]
  by_cases z21 : a0 = 21
  · subst z21
    rw [if_neg (by decide), if_neg (by decide), if_pos rfl, if_pos rfl, bitCount_e, g_ci_some, ones_e, g_ci_some, h.e.h.d]
    exact ⟨_, _, rfl, rfl, qs.rf⟩
  by_cases z22 : a0 = 22
  · subst z22
    rw [if_neg (by decide), if_neg (by decide), if_neg (by decide), if_pos rfl, if_neg (by decide), if_pos rfl, h.e.1.2.1.2.2.2.2.2.1]
    exact ⟨_, _, rfl, rfl, qs.rf⟩
  obtain ⟨u', l1, l2, l3⟩ := m_laysLoads h
  by_cases z19 : a0 = 19
  · subst z19
    rw [if_pos rfl, if_neg (by decide), if_neg (by decide), if_pos rfl, lfq rfl rfl (c_peak h) rfl, g_ci_some, l1, g_cv_some, if_pos rfl, m_greatest (h.qs l2.qs) l3 (fun d _ => by have := ld_60 (b := μ) hn d; omega), g_ci_some]
    exact ⟨_, _, rfl, rfl, l2.qs⟩
  by_cases z20 : a0 = 20
  · subst z20
    obtain ⟨x, x1, x2, x3, x4⟩ := c_peakColumn h
    rw [if_neg (by decide), if_pos rfl, if_neg (by decide), if_neg (by decide), if_neg (by decide), if_pos rfl, lfq rfl rfl x2 rfl, g_ci_some, l1, g_cv_some, if_neg (by decide), m_firstGreatest (h.qs l2.qs) l3 x1 x3 x4, g_ci_some]
    exact ⟨_, _, rfl, rfl, l2.qs⟩
  rw [if_neg z19, if_neg z20, if_neg z21, if_neg z22, if_neg z21, if_neg z22, if_neg z19, if_neg z20]
  exact ⟨_, _, rfl, rfl, qs.rf⟩
theorem ok_look (a0 : Int32) : okc mX9_look mX10_look [.int a0] := okq fun μ u n a r p t Q B h0 _ _ => by
  have h := (BR_iff.mp h0).1
  rcases rng (x := a0) (m := 10) (by omega) with q | ⟨w, hw, rfl⟩
  · obtain ⟨x, u', x1, x2, x3⟩ := look_tail a0 h (fun v hv z => by
        rcases q with q | ⟨q, q2⟩
        · rw [z] at q; exact nneg (by omega) q
        · rw [z] at q2; exact nI_ge hv (by omega) q2) q
    exact ⟨x, μ, u', x1, x2, bs.rf, cfr.rf, x3⟩
  · have E := h.e.1.1
    refine ⟨μ.1 1 w, μ, gwI u 0 0 0, ?_, ?_, bs.rf, cfr.rf, qs.rf⟩
    · rw [eX9_look, if_neg (nneg (by omega)), if_neg (show ¬ (10 : Int32) ≤ nI w from nI_ge (a := w) (b := 10) hw (by omega)), gin hw (by omega), if_pos rfl, tn (by omega)]
    · rw [eX10_look, show mX10_isIn [.ref 0, .int (nI w), .int 0, .int 9] (gwI u 0 0 0) = _ from isIn_1 (y := 0) (z := 9) (by omega) (by omega) (by omega), g_ci_some, if_neg (by decide)]
      have hc : w = 0 ∨ w = 1 ∨ w = 2 ∨ w = 3 ∨ w = 4 ∨ w = 5 ∨ w = 6 ∨ w = 7 ∨ w = 8 ∨ w = 9 := by omega
      rcases hc with rfl | rfl | rfl | rfl | rfl | rfl | rfl | rfl | rfl | rfl
      · rw [show mX10_settingOf [.ref 0, .int (nI 0)] (gwI u 0 0 0) = _ from set_0, g_ci_some, E.1]
      · rw [show mX10_settingOf [.ref 0, .int (nI 1)] (gwI u 0 0 0) = _ from set_1, g_ci_some, E.2.1]
      · rw [show mX10_settingOf [.ref 0, .int (nI 2)] (gwI u 0 0 0) = _ from set_2, g_ci_some, E.2.2.1]
      · rw [show mX10_settingOf [.ref 0, .int (nI 3)] (gwI u 0 0 0) = _ from set_3, g_ci_some, E.2.2.2.1]
      · rw [show mX10_settingOf [.ref 0, .int (nI 4)] (gwI u 0 0 0) = _ from set_4, g_ci_some, E.2.2.2.2.1]
      · rw [show mX10_settingOf [.ref 0, .int (nI 5)] (gwI u 0 0 0) = _ from set_5, g_ci_some, E.2.2.2.2.2.1]
      · rw [show mX10_settingOf [.ref 0, .int (nI 6)] (gwI u 0 0 0) = _ from set_6, g_ci_some, E.2.2.2.2.2.2.1]
      · rw [show mX10_settingOf [.ref 0, .int (nI 7)] (gwI u 0 0 0) = _ from set_7, g_ci_some, E.2.2.2.2.2.2.2.1]
      · rw [show mX10_settingOf [.ref 0, .int (nI 8)] (gwI u 0 0 0) = _ from set_8, g_ci_some, E.2.2.2.2.2.2.2.2.1]
      · rw [show mX10_settingOf [.ref 0, .int (nI 9)] (gwI u 0 0 0) = _ from set_9, g_ci_some, E.2.2.2.2.2.2.2.2.2]
end LOOK
