section CALL2
variable {b u b' u' μ μ' ν : gMem} {n a r p t B k : Nat} {Q : List Nat}
/-- who may come, on both sides -/
theorem can_both {s w x : Int32} (h : BW b u n a r p t Q B) : (mX2_canCome [.ref 0, .int s, .int w, .int x] b = some (some (.int 0), b) ∧ (mX10_canCome [.ref 0, .int s, .int w, .int x] u = some (some (.int 0), u) ∨ (mX10_canCome [.ref 0, .int s, .int w, .int x] u = some (some (.int 1), u) ∧ 60 ≤ n + a))) ∨ (∃ sz wk us, s = nI sz ∧ w = nI wk ∧ x = nI us ∧ 1 ≤ sz ∧ sz ≤ p ∧ 1 ≤ wk ∧ wk ≤ 9999 ∧ us < 6 ∧ n + a < 60 ∧ mX2_canCome [.ref 0, .int s, .int w, .int x] b = some (some (.int 1), b) ∧ mX10_canCome [.ref 0, .int s, .int w, .int x] u = some (some (.int 1), u)) := by
  have hp := h.A.p32
  have hna := h.A.2.2.2.1
  have e1 : mX2_canCome [.ref 0, .int s, .int w, .int x] b = (if s < 1 then some (some (.int 0), b) else (if nI p < s then some (some (.int 0), b) else (if w < 1 then some (some (.int 0), b) else (if 9999 < w then some (some (.int 0), b) else (if x < 0 then some (some (.int 0), b) else (if 6 ≤ x then some (some (.int 0), b) else (if (60 : Int32) ≤ nI (n + a) then some (some (.int 0), b) else some (some (.int 1), b)))))))) := by
    rw [eX2_canCome, h.A.2.2.2.2.2.1, h.A.1, h.A.2.1, nad]
  have e2 : mX10_canCome [.ref 0, .int s, .int w, .int x] u = (if s < 1 then some (some (.int 0), u) else (if nI p < s then some (some (.int 0), u) else (if w < 1 then some (some (.int 0), u) else (if 9999 < w then some (some (.int 0), u) else (if x < 0 then some (some (.int 0), u) else (if 6 ≤ x then some (some (.int 0), u) else some (some (.int 1), u))))))) := by
    rw [eX10_canCome, m_cols h.e h.A, g_ci_some, eX10_isIn]
    by_cases q1 : s < 1
    · rw [if_pos q1, g_ci_some, if_pos rfl, if_pos q1]
    by_cases q2 : nI p < s
    · rw [if_neg q1, if_pos q2, g_ci_some, if_pos rfl, if_neg q1, if_pos q2]
    rw [if_neg q1, if_neg q2, g_ci_some, if_neg (by decide), eX10_isIn, if_neg q1, if_neg q2]
    by_cases q3 : w < 1
    · rw [if_pos q3, g_ci_some, if_pos rfl, if_pos q3]
    by_cases q4 : 9999 < w
    · rw [if_neg q3, if_pos q4, g_ci_some, if_pos rfl, if_neg q3, if_pos q4]
    rw [if_neg q3, if_neg q4, g_ci_some, if_neg (by decide), eX10_isUser, if_neg q3, if_neg q4]
    by_cases q5 : x < 0
    · rw [if_pos q5, g_ci_some, if_pos rfl]
    by_cases q6 : 6 ≤ x
    · rw [if_neg q5, if_pos q6, g_ci_some, if_pos rfl]
    · rw [if_neg q5, if_neg q6, g_ci_some, if_neg (by decide)]
  rw [e1, e2]
  by_cases q1 : s < 1
  · exact Or.inl ⟨if_pos q1, Or.inl (if_pos q1)⟩
  by_cases q2 : nI p < s
  · exact Or.inl ⟨by rw [if_neg q1, if_pos q2], Or.inl (by rw [if_neg q1, if_pos q2])⟩
  by_cases q3 : w < 1
  · exact Or.inl ⟨by rw [if_neg q1, if_neg q2, if_pos q3], Or.inl (by rw [if_neg q1, if_neg q2, if_pos q3])⟩
  by_cases q4 : 9999 < w
  · exact Or.inl ⟨by rw [if_neg q1, if_neg q2, if_neg q3, if_pos q4], Or.inl (by rw [if_neg q1, if_neg q2, if_neg q3, if_pos q4])⟩
  by_cases q5 : x < 0
  · exact Or.inl ⟨by rw [if_neg q1, if_neg q2, if_neg q3, if_neg q4, if_pos q5], Or.inl (by rw [if_neg q1, if_neg q2, if_neg q3, if_neg q4, if_pos q5])⟩
  by_cases q6 : 6 ≤ x
  · exact Or.inl ⟨by rw [if_neg q1, if_neg q2, if_neg q3, if_neg q4, if_neg q5, if_pos q6], Or.inl (by rw [if_neg q1, if_neg q2, if_neg q3, if_neg q4, if_neg q5, if_pos q6])⟩
  rw [if_neg q1, if_neg q2, if_neg q3, if_neg q4, if_neg q5, if_neg q6, if_neg q1, if_neg q2, if_neg q3, if_neg q4, if_neg q5, if_neg q6]
  by_cases q7 : 60 ≤ n + a
  · exact Or.inl ⟨if_pos (show (60 : Int32) ≤ nI (n + a) from nI_le (a := 60) (b := n + a) q7 (by omega)), Or.inr ⟨rfl, q7⟩⟩
  · obtain ⟨sz, s1, rfl⟩ := nat_of (x := s) (fun z => q1 (by grind))
    obtain ⟨wk, w1, rfl⟩ := nat_of (x := w) (fun z => q3 (by grind))
    obtain ⟨us, x1, rfl⟩ := nat_of (x := x) q5
    have a1 : ¬ sz < 1 := fun z => q1 (nI_lt (a := sz) (b := 1) z (by omega))
    have a2 : ¬ p < sz := fun z => q2 (nI_lt z s1)
    have a3 : ¬ wk < 1 := fun z => q3 (nI_lt (a := wk) (b := 1) z (by omega))
    have a4 : ¬ 9999 < wk := fun z => q4 (nI_lt (a := 9999) (b := wk) z w1)
    have a6 : ¬ 6 ≤ us := fun z => q6 (nI_le (a := 6) (b := us) z x1)
    exact Or.inr ⟨sz, wk, us, rfl, rfl, rfl, by omega, by omega, by omega, by omega, by omega, by omega, if_neg (show ¬ (60 : Int32) ≤ nI (n + a) from nI_ge (a := n + a) (b := 60) (by omega) (by omega)), rfl⟩
theorem IS0_come {b1 : gMem} (h0 : IS0 b r) (g6 : ∀ c i, (c < 5 ∨ 23 < c) → c ∉ [3, 24, 39, 41, 42, 43, 44, 45] → b1.1 c i = b.1 c i) (g7 : ∀ c i, 5 ≤ c → c ≤ 23 → i ≠ n → b1.1 c i = b.1 c i) (g8 : b1.1 9 n = 0 ∨ b1.1 9 n = 1) : IS0 b1 r := ⟨fun s hs => by rw [g6 32 s (by omega) (by decide)]; exact h0.1 s hs, fun j hj => by
  by_cases z : j = n
  · subst z
    intro y
    rw [y] at g8
    rcases g8 with g8 | g8 <;> exact absurd g8 (by decide)
  · rw [g7 9 j (by omega) (by omega) z, g7 10 j (by omega) (by omega) z]; exact h0.2 j hj⟩
theorem come_c {sz wk us : Nat} {af : Int32} (h : BR μ u n a r p t Q B) (h9 : B + 2 ≤ 1000000000) (hna : n + a < 60) (hsz : 1 ≤ sz ∧ sz ≤ p) (hwk : 1 ≤ wk ∧ wk ≤ 9999) (hus : us < 6) (haf : af = -1 ∨ ∃ f, af = nI f ∧ f < n) : ∃ (b' u' : gMem) (Q' : List Nat), mX2_come [.ref 0, .int (nI sz), .int (nI wk), .int (nI us), .int af] μ = some (some (.int (nI n)), b') ∧ mX10_comes [.ref 0, .int (nI sz), .int (nI wk), .int (nI us), .int af] u = some (some (.int (nI n)), u') ∧ BR b' u' (n + 1) a r p t Q' (B + 2) ∧ im u u' := by
  obtain ⟨hw, h0⟩ := BR_iff.mp h
  obtain ⟨b', u', Q', g1, g2, g3, g4, g5, g6, g7, g8⟩ := come_pa (w := μ) (b := μ) (by rw [pa_id]; exact hw) h9 hna hsz hwk hus haf
  rw [pa_of (fun c i hc => g6 c i (by omega) (by simp; omega))] at g3
  exact ⟨b', u', Q', g1, g2, BR_iff.mpr ⟨g3, IS0_come h0 g6 g7 g8⟩, g4⟩
theorem ok_job (a0 a1 a2 a3 : Int32) : okc mX9_job mX10_job [.int a0, .int a1, .int a2, .int a3] := by
  intro k μ u hk hR
  obtain ⟨⟨n, a, r, p, t, Q, B, h, ht, hB⟩, hI⟩ := hR
  obtain ⟨h0, i0⟩ := told0 h
  obtain ⟨hw, hs⟩ := BR_iff.mp h0
  have hn := hw.A.n60
  have hna := hw.A.2.2.2.1
  have hsum : (gwI u 0 0 0).1 1 11 + (gwI u 0 0 0).1 1 12 = nI (n + a) := by rw [hw.e.h.n, hw.e.h.a, hw.A.1, hw.A.2.1, nad]
  -- who may be followed
  have fol : (mX4_canFollow [.ref 3, .int a3] μ = some (some (.int 0), μ) ∧ ¬ a3 = -1 ∧ ((mX10_isJob [.ref 0, .int a3] (gwI u 0 0 0) = some (some (.int 0), gwI u 0 0 0)) ∨ (mX10_isJob [.ref 0, .int a3] (gwI u 0 0 0) = some (some (.int 1), gwI u 0 0 0) ∧ mX10_at [.ref 0, .int a3, .int 4] (gwI u 0 0 0) = some (some (.int 4), gwI u 0 0 0)))) ∨ (mX4_canFollow [.ref 3, .int a3] μ = some (some (.int 1), μ) ∧ (a3 = -1 ∨ ∃ f, a3 = nI f ∧ f < n) ∧ (¬ a3 = -1 → mX10_isJob [.ref 0, .int a3] (gwI u 0 0 0) = some (some (.int 1), gwI u 0 0 0) ∧ ∃ v, ¬ v = 4 ∧ mX10_at [.ref 0, .int a3, .int 4] (gwI u 0 0 0) = some (some (.int v), gwI u 0 0 0))) := by
    by_cases q : a3 = -1
    · exact Or.inr ⟨by rw [eX4_canFollow, if_pos q], Or.inl q, fun z => absurd q z⟩
    · rcases hasI (u := gwI u 0 0 0) (x := a3) hw.A.1 hn with ⟨g1, g2, g3⟩ | ⟨j, hj, e, g1⟩
      · refine Or.inl ⟨by rw [eX4_canFollow, if_neg q, g1, g_ci_some, if_pos rfl], q, Or.inl ?_⟩
        rw [g2]
        by_cases z : a3 < 0
        · rw [if_pos z]
        · rcases g3 with g3 | g3
          · exact absurd g3 z
          · rw [if_neg z, hw.e.h.n, hw.A.1, if_pos g3]
      · subst e
        have hj1 : mX10_isJob [.ref 0, .int (nI j)] (gwI u 0 0 0) = some (some (.int 1), gwI u 0 0 0) := by rw [eX10_isJob, if_neg (nneg (by omega)), hw.e.h.n, hw.A.1, if_neg (nI_ge hj (by omega))]
        have hc : mX4_canFollow [.ref 3, .int (nI j)] μ = (if μ.1 9 j = 4 then some (some (.int 0), μ) else some (some (.int 1), μ)) := by
          rw [eX4_canFollow, if_neg q, g1, g_ci_some, if_neg (by decide), gin (show j < 60 by omega) (by omega), if_pos rfl, tn (show j < 2147483648 by omega)]
        have ha : mX10_at [.ref 0, .int (nI j), .int 4] (gwI u 0 0 0) = some (some (.int (μ.1 9 j)), gwI u 0 0 0) := by rw [at_4 (by omega), (hw.e.j hj).f4]
        by_cases z : μ.1 9 j = 4
        · exact Or.inl ⟨by rw [hc, if_pos z], q, Or.inr ⟨hj1, by rw [ha, z]⟩⟩
        · exact Or.inr ⟨by rw [hc, if_neg z], Or.inr ⟨j, rfl, hj⟩, fun _ => ⟨hj1, _, z, ha⟩⟩
  rcases can_both (s := a0) (w := a1) (x := a2) hw with ⟨c1, c2⟩ | ⟨sz, wk, us, rfl, rfl, rfl, z1, z2, z3, z4, z5, z6, c1, c2⟩
  · refine ⟨-1, g_pt 0 μ μ, gwI u 0 0 0, by rw [eX9_job, lf0 rfl rfl c1 rfl, g_ci_some, if_pos rfl], ?_, Rl.mk hI (BR_pt h0) (by omega) (by omega) cfr.pt i0⟩
    rcases c2 with c2 | ⟨c2, c3⟩
    · rw [eX10_job, c2, g_ci_some, if_pos rfl]
    · have hge : ¬ nI (n + a) < (60 : Int32) := nI_nlt (a := n + a) (b := 60) (by omega) (by omega)
      rw [eX10_job, c2, g_ci_some, if_neg (by decide), hsum]
      by_cases q : a3 = -1
      · rw [if_pos q, if_neg hge]
      · rw [if_neg q]
        rcases fol with ⟨-, -, f1 | ⟨f1, f2⟩⟩ | ⟨-, -, f3⟩
        · rw [f1, g_ci_some, if_pos rfl]
        · rw [f1, g_ci_some, if_neg (by decide), f2, g_ci_some, if_pos rfl]
        · obtain ⟨f1, v, f2, f4⟩ := f3 q
          rw [f1, g_ci_some, if_neg (by decide), f4, g_ci_some, if_neg f2, hsum, if_neg hge]
  · have hlt : nI (n + a) < (60 : Int32) := nI_lt (a := n + a) (b := 60) (by omega) (by omega)
    rcases fol with ⟨f0, q, f⟩ | ⟨f0, f1, f3⟩
    · refine ⟨-1, g_pt 0 (g_pt 0 μ μ) (g_pt 0 μ μ), gwI u 0 0 0, ?_, ?_, Rl.mk hI (BR_pt (BR_pt h0)) (by omega) (by omega) (cfr.pt.tr cfr.pt) i0⟩
      · rw [eX9_job, lf0 rfl rfl c1 rfl, g_ci_some, if_neg (by decide)]
        have f0' : mX4_canFollow [.ref 3, .int a3] (g_pt 0 μ μ) = some (some (.int 0), g_pt 0 μ μ) := by
          have : g_pt 0 μ μ = μ := Prod.ext (funext fun c => funext fun i => by
            show (if 0 ≤ c ∧ c < 0 + 59 then μ.1 (c - 0) i else μ.1 c i) = μ.1 c i
            split <;> rfl) (funext fun c => funext fun i => by
            show (if 0 ≤ c ∧ c < 0 + 59 then μ.2 (c - 0) i else μ.2 c i) = μ.2 c i
            split <;> rfl)
          rw [this]; exact f0
        rw [lf0 rfl rfl f0' rfl, g_ci_some, if_pos rfl]
      · rw [eX10_job, c2, g_ci_some, if_neg (by decide), if_neg q]
        rcases f with f1 | ⟨f1, f2⟩
        · rw [f1, g_ci_some, if_pos rfl]
        · rw [f1, g_ci_some, if_neg (by decide), f2, g_ci_some, if_pos rfl]
    · have hid : g_pt 0 μ μ = μ := Prod.ext (funext fun c => funext fun i => by
        show (if 0 ≤ c ∧ c < 0 + 59 then μ.1 (c - 0) i else μ.1 c i) = μ.1 c i
        split <;> rfl) (funext fun c => funext fun i => by
        show (if 0 ≤ c ∧ c < 0 + 59 then μ.2 (c - 0) i else μ.2 c i) = μ.2 c i
        split <;> rfl)
      obtain ⟨b1, u1, Q1, g1, g2, g3, g4⟩ := come_c (af := a3) h0 (by omega) z6 ⟨z1, z2⟩ ⟨z3, z4⟩ z5 f1
      obtain ⟨μ2, u2, r2, Q2, k1, k2, k3, k4, k5⟩ := go_c (BR_pt (μ := μ) g3) (by omega)
      refine ⟨nI n, μ2, u2, ?_, ?_, Rl.mk hI k3 (by omega) (by omega) (cfr.pt.tr k4) ((i0.tr g4).tr k5)⟩
      · rw [eX9_job, lf0 rfl rfl c1 rfl, g_ci_some, if_neg (by decide), hid, lf0 rfl rfl f0 rfl, g_ci_some, if_neg (by decide), hid, lf0 rfl rfl g1 rfl, g_ci_some, k1, g_cv_some]
      · rw [eX10_job, c2, g_ci_some, if_neg (by decide), hsum]
        by_cases q : a3 = -1
        · rw [if_pos q, if_pos hlt, g2, g_ci_some, k2, g_cv_some]
        · obtain ⟨f1, v, f2, f4⟩ := f3 q
          rw [if_neg q, f1, g_ci_some, if_neg (by decide), f4, g_ci_some, if_neg f2, hsum, if_pos hlt, g2, g_ci_some, k2, g_cv_some]
end CALL2
