section WEIGH
variable {b u b' u' μ μ' ν : gMem} {n a r p t B k o : Nat} {Q : List Nat} {f g : Nat → Nat}
/-- how long a job stops -/
def st (b : gMem) (j : Nat) : Int32 := (b.1 1 6 * b.1 5 j + 3) / 4
theorem st_n {j : Nat} (hT : IT b) (hJ : IJ1 b p t j) (hp : p ≤ 32) : st b j = nI ((jn b 1 6 * jn b 5 j + 3) / 4) ∧ (jn b 1 6 * jn b 5 j + 3) / 4 ≤ 72 := by
  obtain ⟨t1, t2⟩ := hT.2.2.2.2.2.1
  obtain ⟨s1, s2, s3⟩ := hJ.1
  have hm : jn b 1 6 * jn b 5 j ≤ 9 * 32 := Nat.mul_le_mul t2 (by omega)
  refine ⟨?_, by omega⟩
  unfold st
  rw [t1, s1, nml, show (3 : Int32) = nI 3 from rfl, nad, show (4 : Int32) = nI 4 from rfl, pk_div (by omega) (by omega) (by omega)]
theorem c_stopOf {j : Nat} (hj : j < 60) : mX5_stopOf [.ref 178, .int (nI j)] μ = some (some (.int (st μ j)), μ) := by
  rw [eX5_stopOf, gin hj (by omega), if_pos rfl, tn (by omega)]; rfl
theorem m_stopOf {j : Nat} (e : EE b u n a r) (hj : j < n) (hn : n ≤ 60) : mX10_stopOf [.ref 0, .int (nI j)] u = some (some (.int (st b j)), u) := by
  rw [eX10_stopOf, set_6, g_ci_some, at_0 (by omega), g_ci_some, (e.j hj).f0, e.1.1.2.2.2.2.2.2.1]; rfl
theorem c_costOf {j : Nat} (hj : j < 60) : mX5_costOf [.ref 178, .int (nI j)] μ = some (some (.int (st μ j * μ.1 5 j)), μ) := by
  rw [eX5_costOf, c_stopOf hj, g_ci_some, gin hj (by omega), if_pos rfl, tn (by omega)]
theorem m_cost {j : Nat} (e : EE b u n a r) (hj : j < n) (hn : n ≤ 60) : mX10_cost [.ref 0, .int (nI j)] u = some (some (.int (st b j * b.1 5 j)), u) := by
  rw [eX10_cost, m_stopOf e hj hn, g_ci_some, at_0 (by omega), g_ci_some, (e.j hj).f0]
theorem least_both (h : BW b u n a r p t Q B) : ∃ y z, mX4_leastLeft [.ref 3] b = some (some (.int y), b) ∧ mX10_leastLeft [.ref 0] u = some (some (.int (nI z)), u) ∧ z ≤ 9999 ∧ ((∃ j, j < n ∧ b.1 9 j = 2) → y = nI z) := by
  have hn := h.A.n60
  have loop : ∀ m j, j + m = n → ∀ (v : Int32) (z : Nat), z ≤ 9999 → (v = nI z ∨ (v = -1 ∧ z = 9999 ∧ ∀ i, i < j → b.1 9 i ≠ 2)) → ∃ y z', rX4_leastLeft_4 v (nI j) b = some (some (.int y), b) ∧ rX10_leastLeft_6 (nI z) (nI j) u = some (some (.int (nI z')), u) ∧ z' ≤ 9999 ∧ ((∃ j, j < n ∧ b.1 9 j = 2) → y = nI z') := by
    intro m
    induction m with
    | zero =>
      intro j hj v z hz hv
      obtain rfl : j = n := by omega
      rw [eX4_leastLeft_4, h.A.1, if_pos (nI_le (by omega) (by omega)), eX10_leastLeft_6, h.e.h.n, h.A.1, if_pos (nI_le (by omega) (by omega)), eJ9_max_7cf53]
      rcases hv with rfl | ⟨rfl, rfl, hv⟩
      · rw [if_neg (nneg (by omega)), g_ci_some]
        exact ⟨_, z, rfl, rfl, hz, fun _ => rfl⟩
      · rw [if_pos (by decide), g_ci_some]
        exact ⟨_, 9999, rfl, rfl, hz, fun ⟨i, i1, i2⟩ => absurd i2 (hv i i1)⟩
    | succ m ih =>
      intro j hj v z hz hv
      have hjn : j < n := by omega
      have E := h.e.j hjn
      have J := (h.J j hjn).2.2.2.2.1
      have E1 := eX4_leastLeft_4 v (nI j) b
      rw [h.A.1, if_neg (nI_ge hjn (by omega)), gin (show j < 60 by omega) (by omega), if_pos rfl, if_pos rfl, if_pos rfl, tn (by omega), nI_1] at E1
      have E2 := eX10_leastLeft_6 (nI z) (nI j) u
      rw [h.e.h.n, h.A.1, if_neg (nI_ge hjn (by omega)), m_isPlaced h.e hjn hn, g_ci_some, at_5 (by omega), g_ci_some, at_5 (by omega), g_ci_some, E.f5, nI_1] at E2
      rw [E1, E2]
      clear E1 E2
      by_cases q : b.1 9 j = 2
      · rw [if_pos q, show (if b.1 9 j = 2 then (1 : Int32) else 0) = 1 from if_pos q, if_neg (show ¬ (1 : Int32) = 0 by decide), J.1]
        have hl : jn b 10 j ≤ 9999 := by have := J.2.2.1; have := J.2.2.2.1; omega
        rcases hv with rfl | ⟨rfl, rfl, hv⟩
        · rw [if_neg (nm1 (by omega))]
          by_cases q2 : z ≤ jn b 10 j
          · rw [if_pos (nI_le q2 (by omega)), if_pos (nI_le q2 (by omega))]
            exact ih (j + 1) (by omega) _ z hz (Or.inl rfl)
          · rw [if_neg (nI_ge (by omega) (by omega)), if_neg (nI_ge (by omega) (by omega))]
            exact ih (j + 1) (by omega) _ _ hl (Or.inl rfl)
        · rw [if_pos rfl]
          by_cases q2 : 9999 ≤ jn b 10 j
          · rw [if_pos (nI_le q2 (by omega)), show jn b 10 j = 9999 by omega]
            exact ih (j + 1) (by omega) _ _ (by omega) (Or.inl rfl)
          · rw [if_neg (nI_ge (by omega) (by omega))]
            exact ih (j + 1) (by omega) _ _ hl (Or.inl rfl)
      · rw [if_neg q, show (if b.1 9 j = 2 then (1 : Int32) else 0) = 0 from if_neg q, if_pos rfl]
        refine ih (j + 1) (by omega) v z hz (hv.imp id (fun w => ⟨w.1, w.2.1, fun i hi => ?_⟩))
        by_cases y : i = j
        · rw [y]; exact q
        · exact w.2.2 i (by omega)
  obtain ⟨y, z, y1, y2, y3, y4⟩ := loop n 0 (by omega) (-1) 9999 (by omega) (Or.inr ⟨rfl, rfl, fun i hi => by omega⟩)
  exact ⟨y, z, (eX4_leastLeft b).trans y1, (eX10_leastLeft u).trans y2, y3, y4⟩
theorem plc_both {x : Int32} (h : BW b u n a r p t Q B) : (mX4_isPlaced [.ref 3, .int x] b = some (some (.int 0), b) ∧ ∀ (Z : Int32) (K : gMem → Option gR), g_ci (mX10_isJob [.ref 0, .int x] u) (fun a1 u1 => (if a1 = 0 then some (some (.int Z), u1) else (g_ci (mX10_isPlaced [.ref 0, .int x] u1) (fun a2 u2 => (if a2 = 0 then some (some (.int Z), u2) else K u2))))) = some (some (.int Z), u)) ∨ (∃ j, j < n ∧ x = nI j ∧ b.1 9 j = 2 ∧ mX4_isPlaced [.ref 3, .int x] b = some (some (.int 1), b) ∧ ∀ (Z : Int32) (K : gMem → Option gR), g_ci (mX10_isJob [.ref 0, .int x] u) (fun a1 u1 => (if a1 = 0 then some (some (.int Z), u1) else (g_ci (mX10_isPlaced [.ref 0, .int x] u1) (fun a2 u2 => (if a2 = 0 then some (some (.int Z), u2) else K u2))))) = K u) := by
  have hn := h.A.n60
  rcases hasI (u := u) (x := x) h.A.1 hn with ⟨g1, g2, g3⟩ | ⟨j, hj, rfl, g1⟩
  · refine Or.inl ⟨by rw [eX4_isPlaced, g1, g_ci_some, if_pos rfl], fun Z K => ?_⟩
    rw [g2]
    rcases g3 with g3 | g3
    · rw [if_pos g3, g_ci_some, if_pos rfl]
    · by_cases z : x < 0
      · rw [if_pos z, g_ci_some, if_pos rfl]
      · rw [if_neg z, h.e.h.n, h.A.1, if_pos g3, g_ci_some, if_pos rfl]
  · have hj1 : mX10_isJob [.ref 0, .int (nI j)] u = some (some (.int 1), u) := by rw [eX10_isJob, if_neg (nneg (by omega)), h.e.h.n, h.A.1, if_neg (nI_ge hj (by omega))]
    have hp := m_isPlaced h.e hj hn
    have hc := c_isPlaced h.A hj
    by_cases q : b.1 9 j = 2
    · rw [if_pos q] at hp hc
      exact Or.inr ⟨j, hj, rfl, q, hc, fun Z K => by rw [hj1, g_ci_some, if_neg (by decide), hp, g_ci_some, if_neg (by decide)]⟩
    · rw [if_neg q] at hp hc
      exact Or.inl ⟨hc, fun Z K => by rw [hj1, g_ci_some, if_neg (by decide), hp, g_ci_some, if_pos rfl]⟩
/-- what is gained, on both sides -/
theorem gain_both {pk : Nat} {v : Int32} {m0 : gMem} (h : BW m0 u n a r p t Q B) (hm : pq m0 μ) (hpl : ∃ j, j < n ∧ m0.1 9 j = 2) (h1 : μ.1 178 6 = nI pk) (h2 : u.1 0 17 = nI (mxF (ld m0 n) 0 p) - nI pk) : ∃ z, z ≤ 9999 ∧ mX5_gain [.ref 178] μ = some (some (.int ((nI (mxF (ld m0 n) 0 p) - nI pk) * nI p * nI z)), μ) ∧ mX10_gain [.ref 0] u = some (some (.int ((nI (mxF (ld m0 n) 0 p) - nI pk) * nI p * nI z)), u) := by
  have hb := h.bs hm.bs
  obtain ⟨y, z, y1, y2, y3, y4⟩ := least_both hb
  have hy := y4 (by obtain ⟨j, j1, j2⟩ := hpl; exact ⟨j, j1, by rw [hm.2 9 j (by omega)]; exact j2⟩)
  subst hy
  have hpk := c_peak hb
  have hld : mxF (ld μ n) 0 p = mxF (ld m0 n) 0 p := mxF_cg fun d _ => hm.bs.xld n _
  rw [hld] at hpk
  refine ⟨z, y3, ?_, ?_⟩
  · rw [eX5_gain, lfq rfl rfl hpk rfl, g_ci_some, lfq rfl rfl (by rw [eX2_p, hb.A.2.2.2.2.2.1]) rfl, g_ci_some, lfq rfl rfl y1 rfl, g_ci_some, h1]
  · rw [eX10_gain, m_cols hb.e hb.A, g_ci_some, y2, g_ci_some, h2]
theorem ok_weigh (a0 a1 : Int32) : okc mX9_weigh mX10_weigh [.int a0, .int a1] := okq fun μ u n a r p t Q B h0 _ _ => by
  have h := (BR_iff.mp h0).1
  have hn := h.A.n60
  rcases plc_both (x := a0) h with ⟨c1, c2⟩ | ⟨j, hj, rfl, hj2, c1, c2⟩
  · exact ⟨-1000000000, μ, gwI u 0 0 0, by rw [eX9_weigh, lfq rfl rfl c1 rfl, g_ci_some, if_pos rfl], by rw [eX10_weigh, c2], bs.rf, cfr.rf, qs.rf⟩
  rw [eX9_weigh, lfq rfl rfl c1 rfl, g_ci_some, if_neg (by decide), eX10_weigh, c2]
  obtain ⟨μ2, u2, o, b1, b2, b3, b4, b5, b6⟩ := best_both h hj hj2
  have hb := h.bs b3.bs
  have hq := h.qs b4
  have hbq := hb.qs b4
  have est : st μ2 j = st μ j := by unfold st; rw [b3.2 1 6 (by omega), b3.2 5 j (by omega)]
  have e5 : μ2.1 5 j = μ.1 5 j := b3.2 5 j (by omega)
  rw [eX5_weighed, b1, g_ci_some]
  rcases rng (x := a1) (m := 5) (by omega) with q | ⟨w, hw, rfl⟩
  · rw [show mX10_isIn [.ref 0, .int a1, .int 0, .int 4] (gwI u 0 0 0) = _ from isIn_0 (m := 4) (by omega) q, g_ci_some, if_pos rfl]
    refine ⟨-1000000000, μ2, gwI u 0 0 0, ?_, rfl, b3.bs, b3.cfr, qs.rf⟩
    have nn : ∀ v : Nat, v < 5 → ¬ a1 = nI v := fun v hv z => by
      rcases q with q | ⟨q, q2⟩
      · rw [z] at q; exact nneg (by omega) q
      · rw [z] at q2; exact nI_ge hv (by omega) q2
    rw [if_neg (show ¬ a1 = 0 from nn 0 (by omega)), if_neg (show ¬ a1 = 1 from nn 1 (by omega)), if_neg (show ¬ a1 = 2 from nn 2 (by omega)), if_neg (show ¬ a1 = 3 from nn 3 (by omega)), if_neg (show ¬ a1 = 4 from nn 4 (by omega))]
    by_cases z : eS o = -1
    · rw [if_pos z, g_ci_some]
    · rw [if_neg z, g_ci_some]
  rw [show mX10_isIn [.ref 0, .int (nI w), .int 0, .int 4] (gwI u 0 0 0) = _ from isIn_1 (y := 0) (z := 4) (by omega) (by omega) (by omega), g_ci_some, if_neg (show ¬ (1 : Int32) = 0 by decide), b2, g_cv_some, b5]
  cases o with
  | none =>
    rw [show eS none = (-1 : Int32) from rfl, if_pos rfl, if_pos rfl, g_ci_some]
    exact ⟨_, μ2, u2, rfl, rfl, b3.bs, b3.cfr, b4⟩
  | some x =>
    obtain ⟨x1, x2, x3⟩ := b6 x rfl
    have hp := h.A.p32
    have xp := x3.1
    rw [show eS (some x) = nI x from rfl, if_neg (nm1 (by omega)), if_neg (nm1 (by omega))]
    have hpk := c_peak hb
    rw [show mxF (ld μ2 n) 0 p = mxF (ld μ n) 0 p from mxF_cg fun d _ => b3.bs.xld n _] at hpk
    obtain ⟨z, z1, z2, z3⟩ := gain_both (v := 0) hq b3 ⟨j, hj, hj2⟩ x1 x2
    have hc1 := c_costOf (μ := μ2) (show j < 60 by omega)
    rw [est, e5] at hc1
    have hc2 := m_cost hq.e hj hn
    have hc : w = 0 ∨ w = 1 ∨ w = 2 ∨ w = 3 ∨ w = 4 := by omega
    rcases hc with rfl | rfl | rfl | rfl | rfl
    · rw [if_pos (show nI 0 = 0 from rfl), if_pos (show nI 0 = 0 from rfl), g_ci_some]
      exact ⟨_, μ2, u2, rfl, rfl, b3.bs, b3.cfr, b4⟩
    · rw [if_neg (show ¬ nI 1 = 0 by decide), if_pos (show nI 1 = 1 from rfl), if_neg (show ¬ nI 1 = 0 by decide), if_pos (show nI 1 = 1 from rfl), lfq rfl rfl hpk rfl, g_ci_some, g_ci_some, x1, x2]
      exact ⟨_, μ2, u2, rfl, rfl, b3.bs, b3.cfr, b4⟩
    · rw [if_neg (show ¬ nI 2 = 0 by decide), if_neg (show ¬ nI 2 = 1 by decide), if_pos (show nI 2 = 2 from rfl), if_neg (show ¬ nI 2 = 0 by decide), if_neg (show ¬ nI 2 = 1 by decide), if_pos (show nI 2 = 2 from rfl), z2, g_ci_some, g_ci_some, z3, g_ci_some]
      exact ⟨_, μ2, u2, rfl, rfl, b3.bs, b3.cfr, b4⟩
    · rw [if_neg (show ¬ nI 3 = 0 by decide), if_neg (show ¬ nI 3 = 1 by decide), if_neg (show ¬ nI 3 = 2 by decide), if_pos (show nI 3 = 3 from rfl), if_neg (show ¬ nI 3 = 0 by decide), if_neg (show ¬ nI 3 = 1 by decide), if_neg (show ¬ nI 3 = 2 by decide), if_pos (show nI 3 = 3 from rfl), hc1, g_ci_some, g_ci_some, hc2, g_ci_some]
      exact ⟨_, μ2, u2, rfl, rfl, b3.bs, b3.cfr, b4⟩
    · rw [if_neg (show ¬ nI 4 = 0 by decide), if_neg (show ¬ nI 4 = 1 by decide), if_neg (show ¬ nI 4 = 2 by decide), if_neg (show ¬ nI 4 = 3 by decide), if_pos (show nI 4 = 4 from rfl), if_neg (show ¬ nI 4 = 0 by decide), if_neg (show ¬ nI 4 = 1 by decide), if_neg (show ¬ nI 4 = 2 by decide), if_neg (show ¬ nI 4 = 3 by decide), z2, g_ci_some, hc1, g_ci_some, z3, g_ci_some, hc2, g_ci_some]
      by_cases y : (nI (mxF (ld μ n) 0 p) - nI (PK μ n p j x)) * nI p * nI z ≤ st μ j * μ.1 5 j
      · rw [if_pos y, if_pos y, g_ci_some]
        exact ⟨_, μ2, u2, rfl, rfl, b3.bs, b3.cfr, b4⟩
      · rw [if_neg y, if_neg y, g_ci_some]
        exact ⟨_, μ2, u2, rfl, rfl, b3.bs, b3.cfr, b4⟩
end WEIGH
