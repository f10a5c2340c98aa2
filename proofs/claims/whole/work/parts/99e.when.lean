section WHEN
variable {b u b' u' μ μ' ν : gMem} {n a r p t B k o : Nat} {Q : List Nat}
set_option maxRecDepth 8000 in
theorem when_loop {x : Nat} : ∀ m j, j + m = 300 → ∀ (μ u : gMem) (n a r t : Nat) (Q : List Nat) (B : Nat), BR (g_vw 118 μ) u n a r p t Q B → x < n → (g_vw 118 μ).1 9 x ≠ 4 → t + m ≤ 60000 → B + 700 * m ≤ 1000000000 → ∃ (y : Int32) (μ' u5 : gMem), rX9_when_75 (nI x) (nI j) μ = some (some (.int y), μ') ∧ rX10_when_21 (nI x) (nI j) u = some (some (.int y), gcL (gcI u5 2 1 2030) 4 3 9) ∧ th μ μ' ∧ im u u5 := by
  intro m
  induction m with
  | zero =>
    intro j hj μ u n a r t Q B h hx h4 ht hB
    obtain rfl : j = 300 := by omega
    obtain ⟨hw, -⟩ := BR_iff.mp h
    have hn := hw.A.n60
    have E := hw.e.j hx
    have J := hw.J x hx
    obtain ⟨s1, s2, -⟩ := J.2.2.2.1
    have s3 := J.2.2.2.2.1.2.2.2.2.2
    refine ⟨(g_vw 118 μ).1 20 x, μ, u, ?_, ?_, th.rf, im.rf⟩
    · rw [eX9_when_75, if_pos (show (300 : Int32) ≤ nI 300 by decide), gin (show x < 60 by omega) (by omega), if_pos rfl, tn (by omega)]; rfl
    · rw [eX10_when_21, if_pos (show (300 : Int32) ≤ nI 300 by decide), at_4 (by omega), g_ci_some, E.f4]
      by_cases q : (g_vw 118 μ).1 9 x = 3
      · rw [if_pos q, at_15 (by omega), g_ci_some, m_forgets, g_cv_some, E.f15, i_sn]
      · rw [if_neg q, m_forgets, g_cv_some, s3 (by
          refine Classical.byContradiction fun z => ?_
          have z1 : jn (g_vw 118 μ) 9 x = 3 ∨ jn (g_vw 118 μ) 9 x = 4 := by omega
          rcases z1 with z1 | z1
          · rw [z1] at s1; exact q s1
          · rw [z1] at s1; exact h4 s1)]
  | succ m ih =>
    intro j hj μ u n a r t Q B h hx h4 ht hB
    obtain ⟨hw, -⟩ := BR_iff.mp h
    have hn := hw.A.n60
    have E := hw.e.j hx
    have J := hw.J x hx
    obtain ⟨s1, s2, -⟩ := J.2.2.2.1
    have e1 : (g_lf 118 mX4_state) [.ref 121, .int (nI x)] μ = some (some (.int ((g_vw 118 μ).1 9 x)), μ) := lfoq (o := 118) rfl (show mX4_state [.ref 3, .int (nI x)] (g_vw 118 μ) = _ from c_state (by omega)) rfl
    rw [eX9_when_75, if_neg (show ¬ (300 : Int32) ≤ nI j from nI_ge (a := j) (b := 300) (by omega) (by omega)), e1, g_ci_some, eX10_when_21, if_neg (show ¬ (300 : Int32) ≤ nI j from nI_ge (a := j) (b := 300) (by omega) (by omega)), at_4 (by omega), g_ci_some, at_4 (by omega), g_ci_some, E.f4]
    by_cases q : (g_vw 118 μ).1 9 x = 3
    · rw [if_pos q, if_pos q, if_pos (show (3 : Int32) ≤ (g_vw 118 μ).1 9 x by rw [q]; decide), at_15 (by omega), g_ci_some, m_forgets, g_cv_some, E.f15, i_sn, gin (show x < 60 by omega) (by omega), if_pos rfl, tn (by omega)]
      exact ⟨_, μ, u, rfl, rfl, th.rf, im.rf⟩
    · have hs : jn (g_vw 118 μ) 9 x < 3 := Classical.byContradiction fun z => by
        have z1 : jn (g_vw 118 μ) 9 x = 3 ∨ jn (g_vw 118 μ) 9 x = 4 := by omega
        rcases z1 with z1 | z1
        · rw [z1] at s1; exact q s1
        · rw [z1] at s1; exact h4 s1
      have t1 : t + 1 ≤ 60000 := by omega
      have t2 : B + 700 ≤ 1000000000 := by omega
      obtain ⟨b1, u1, n1, a1, r1, Q1, d, g1, g2, g3, g4, g5, g6, g7, g8⟩ := one_both (B := B) (t := t) h t1 t2
      have e9 : (g_vw 118 (g_pt 118 μ b1)).1 9 x = b1.1 9 x := by
        show (if 118 ≤ 118 + 9 ∧ 118 + 9 < 118 + 59 then b1.1 (118 + 9 - 118) x else μ.1 (118 + 9) x) = _
        rw [if_pos (by omega)]
      obtain ⟨y, μ2, u5, w1, w2, w3, w4⟩ := ih (j + 1) (by omega) (g_pt 118 μ b1) u1 n1 a1 r1 (t + 1) Q1 (B + 700) (BR_vp g3) (by omega) (by rw [e9]; exact fun z => h4 (g8 x hx z)) (by omega) (by omega)
      refine ⟨y, μ2, u5, ?_, ?_, th.pt.tr w3, g4.tr w4⟩
      · rw [if_neg q, lfo (o := 118) rfl g1 rfl, g_ci_some, nI_1]; exact w1
      · rw [if_neg (show ¬ (3 : Int32) ≤ (g_vw 118 μ).1 9 x by rw [s1]; exact nI_ge (a := jn (g_vw 118 μ) 9 x) (b := 3) hs (by omega)), eX10_quanta, show rX10_quanta_4 1 0 0 u = _ from g2 1 0 0 (by omega) (by omega), eX10_quanta_4, if_pos (by decide), g_ci_some, nI_1]; exact w2
theorem ok_when (a0 : Int32) : okc mX9_when mX10_when [.int a0] := by
  intro k μ u hk hR
  obtain ⟨⟨n, a, r, p, t, Q, B, h, ht, hB⟩, hI⟩ := hR
  obtain ⟨h0, i0⟩ := told0 h
  obtain ⟨hw, -⟩ := BR_iff.mp h0
  have hn := hw.A.n60
  rcases hasI (u := gwI u 0 0 0) (x := a0) hw.A.1 hn with ⟨g1, g2, g3⟩ | ⟨x, hx, rfl, g1⟩
  · refine ⟨-1, μ, gwI u 0 0 0, ?_, ?_, Rl.mk hI h0 (by omega) (by omega) cfr.rf i0⟩
    · rw [eX9_when, lfq rfl rfl g1 rfl, g_ci_some, if_pos rfl]
    · rw [eX10_when, g2]
      rcases g3 with g3 | g3
      · rw [if_pos g3, g_ci_some, if_pos rfl]
      · by_cases z : a0 < 0
        · rw [if_pos z, g_ci_some, if_pos rfl]
        · rw [if_neg z, hw.e.h.n, hw.A.1, if_pos g3, g_ci_some, if_pos rfl]
  have hj1 : mX10_isJob [.ref 0, .int (nI x)] (gwI u 0 0 0) = some (some (.int 1), gwI u 0 0 0) := by rw [eX10_isJob, if_neg (nneg (by omega)), hw.e.h.n, hw.A.1, if_neg (nI_ge hx (by omega))]
  obtain ⟨μ1, c1, c2, c3', c4⟩ := to_think h0
  obtain ⟨hw3, -⟩ := BR_iff.mp c3'
  have E := hw3.e.j hx
  have e9 : (g_vw 118 μ1).1 9 x = μ.1 9 x := c4 9 x (by unfold cpi; omega)
  have e20 : (g_vw 118 μ1).1 20 x = μ.1 20 x := c4 20 x (by unfold cpi; omega)
  have E1 := eX9_when (nI x) μ
  rw [lfq rfl rfl g1 rfl, g_ci_some, if_neg (show ¬ (1 : Int32) = 0 by decide), lfq rfl rfl (c_state (b := μ) (show x < 60 by omega)) rfl, g_ci_some, lfq rfl rfl (c_state (b := μ) (show x < 60 by omega)) rfl, g_ci_some, gin (show x < 60 by omega) (by omega), if_pos rfl, tn (by omega), c1, g_cv_some] at E1
  have E2 := eX10_when (nI x) u
  rw [hj1, g_ci_some, if_neg (show ¬ (1 : Int32) = 0 by decide), m_thinks, g_cv_some] at E2
  rw [E1, E2]
  clear E1 E2
  by_cases q4 : μ.1 9 x = 4
  · rw [if_pos q4, eX10_when_21, if_neg (by decide), at_4 (by omega), g_ci_some, at_4 (by omega), g_ci_some, E.f4, e9, q4, if_pos (by decide), if_neg (by decide), m_forgets, g_cv_some]
    exact ⟨_, _, _, rfl, rfl, Rl.bk hI rfl h0 (by omega) (by omega) th.rf im.rf⟩
  rw [if_neg q4]
  by_cases q3 : μ.1 9 x = 3
  · rw [if_pos q3, eX10_when_21, if_neg (by decide), at_4 (by omega), g_ci_some, at_4 (by omega), g_ci_some, E.f4, e9, q3, if_pos (by decide), if_pos rfl, at_15 (by omega), g_ci_some, m_forgets, g_cv_some, E.f15, i_sn, e20]
    exact ⟨_, _, _, rfl, rfl, Rl.bk hI rfl h0 (by omega) (by omega) th.rf im.rf⟩
  rw [if_neg q3]
  obtain ⟨y, μ2, u5, w1, w2, w3, w4⟩ := when_loop 300 0 (by omega) μ1 _ n a r t Q B c3' hx (by rw [e9]; exact q4) (by omega) (by omega)
  exact ⟨y, μ2, _, w1, w2, Rl.bk hI rfl h0 (by omega) (by omega) (c2.tr w3) w4⟩
end WHEN
