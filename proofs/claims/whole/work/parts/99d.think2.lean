section THINK2
variable {b u b' u' μ μ' ν : gMem} {n a r p t B k o : Nat} {Q : List Nat}
theorem lfo {o : Nat} {m : gF} {as : List Value} {v : Option Value} (has : as.all (g_ib o) = true) (hm : m (as.map (g_sb o)) (g_vw o μ) = some (v, ν)) (hr : g_nr v = true) : g_lf o m as μ = some (v, g_pt o μ ν) := by
  unfold g_lf
  rw [has, hm]
  show (match g_nr v with | true => some (v, g_pt o μ ν) | false => none) = _
  rw [hr]
theorem pt_vw : g_pt o μ (g_vw o μ) = μ := Prod.ext (funext fun c => funext fun i => by
  show (if o ≤ c ∧ c < o + 59 then μ.1 (o + (c - o)) i else μ.1 c i) = μ.1 c i
  split
  · rw [show o + (c - o) = c by omega]
  · rfl) (funext fun c => funext fun i => by
  show (if o ≤ c ∧ c < o + 59 then μ.2 (o + (c - o)) i else μ.2 c i) = μ.2 c i
  split
  · rw [show o + (c - o) = c by omega]
  · rfl)
theorem lfoq {o : Nat} {m : gF} {as : List Value} {v : Option Value} (has : as.all (g_ib o) = true) (hm : m (as.map (g_sb o)) (g_vw o μ) = some (v, g_vw o μ)) (hr : g_nr v = true) : g_lf o m as μ = some (v, μ) := by
  rw [lfo has hm hr, pt_vw]
theorem BR_vp (h : BR ν u n a r p t Q B) : BR (g_vw o (g_pt o μ ν)) u n a r p t Q B := BR_cg h (fun c i hc => by
    show (if o ≤ o + c ∧ o + c < o + 59 then ν.1 (o + c - o) i else μ.1 (o + c) i) = _
    rw [if_pos (by omega), show o + c - o = c by omega]) (fun i => by
    show (if o ≤ o + 30 ∧ o + 30 < o + 59 then ν.2 (o + 30 - o) i else μ.2 (o + 30) i) = _
    rw [if_pos (by omega), show o + 30 - o = 30 by omega])
/-- all but the thought is as it was -/
def th (μ μ' : gMem) : Prop := ∀ c i, ¬ (118 ≤ c ∧ c < 177) → μ'.1 c i = μ.1 c i ∧ μ'.2 c i = μ.2 c i
theorem th.tr {m1 m2 : gMem} (h : th μ m1) (h2 : th m1 m2) : th μ m2 := fun c i hc => ⟨(h2 c i hc).1.trans (h c i hc).1, (h2 c i hc).2.trans (h c i hc).2⟩
theorem th.rf : th μ μ := fun _ _ _ => ⟨rfl, rfl⟩
theorem th.pt : th μ (g_pt 118 μ ν) := fun c i hc => ⟨if_neg (by omega), if_neg (by omega)⟩
theorem th.cfr (h : th μ μ') : cfr μ μ' := fun c i hc => h c i (by omega)
theorem th.BR (h : th μ μ') (hb : BR μ u n a r p t Q B) : BR μ' u n a r p t Q B := BR_cg hb (fun c i hc => (h c i (by omega)).1) (fun i => (h 30 i (by omega)).2)
theorem three (x1 x2 x3 y1 y2 y3 : Int32) : x1 + x2 + x3 - (y1 + y2 + y3) = (x1 - y1) + (x2 - y2) + (x3 - y3) := by grind
set_option maxRecDepth 8000 in
theorem wld_loop {N : Nat} (hN : N < 2147483648) : ∀ m j, j + m = N → ∀ (μ u : gMem) (n a r t : Nat) (Q : List Nat) (B : Nat) (acc : Int32), BR (g_vw 118 μ) u n a r p t Q B → t + m ≤ 60000 → B + 700 * m ≤ 1000000000 → ∃ (μ' u' : gMem) (n' a' r' : Nat) (Q' : List Nat) (D : Nat), (∀ v2, rX9_would_35 (nI N) v2 (nI j) μ = rX9_would_35 (nI N) v2 (nI N) μ') ∧ rX10_quanta_4 (nI N) acc (nI j) u = some (some (.int (acc + nI D)), u') ∧ BR (g_vw 118 μ') u' n' a' r' p (t + m) Q' (B + 700 * m) ∧ th μ μ' ∧ im u u' ∧ c3 (g_vw 118 μ') n' = D + c3 (g_vw 118 μ) n := by
  intro m
  induction m with
  | zero =>
    intro j hj μ u n a r t Q B acc h ht hB
    obtain rfl : j = N := by omega
    refine ⟨μ, u, n, a, r, Q, 0, fun _ => rfl, ?_, h, th.rf, im.rf, by omega⟩
    rw [eX10_quanta_4, if_pos (nI_le (by omega) (by omega)), show acc + nI 0 = acc from by rw [show nI 0 = 0 from rfl]; grind]
  | succ m ih =>
    intro j hj μ u n a r t Q B acc h ht hB
    have t1 : t + 1 ≤ 60000 := by omega
    have t2 : B + 700 ≤ 1000000000 := by omega
    obtain ⟨b1, u1, n1, a1, r1, Q1, d, g1, g2, g3, g4, g5, g6, g7, g8⟩ := one_both (B := B) (t := t) h t1 t2
    obtain ⟨μ2, u2, n2, a2, r2, Q2, D, w1, w2, w3, w4, w5, w6⟩ := ih (j + 1) (by omega) (g_pt 118 μ b1) u1 n1 a1 r1 (t + 1) Q1 (B + 700) (acc + nI d) (BR_vp g3) (by omega) (by omega)
    refine ⟨μ2, u2, n2, a2, r2, Q2, d + D, fun v2 => ?_, ?_, ?_, th.pt.tr w4, g4.tr w5, ?_⟩
    · rw [eX9_would_35, if_neg (nI_ge (by omega) (by omega)), lfo (o := 118) rfl g1 rfl, g_ci_some, nI_1]; exact w1 v2
    · rw [g2 N acc j (by omega) hN, w2, ← nad, show acc + nI d + nI D = acc + (nI d + nI D) from by grind]
    · rw [show t + (m + 1) = t + 1 + m by omega, show B + 700 * (m + 1) = B + 700 + 700 * m by omega]; exact w3
    · rw [w6]
      have : c3 (g_vw 118 (g_pt 118 μ b1)) n1 = c3 b1 n1 := cB_congr fun i _ => by
        show decide ((if 118 ≤ 118 + 9 ∧ 118 + 9 < 118 + 59 then b1.1 (118 + 9 - 118) i else μ.1 (118 + 9) i) = 3) = _
        rw [if_pos (by omega)]
      omega
/-- the reference forgets what it thought -/
theorem back {u0 u5 : gMem} (hi : im (gcL (gcI u0 1 2 2030) 3 4 9) u5) : cyU u0 (gcL (gcI u5 2 1 2030) 4 3 9) ∧ (∀ i, (gcL (gcI u5 2 1 2030) 4 3 9).1 15 i = u0.1 15 i) ∧ (gcL (gcI u5 2 1 2030) 4 3 9).1 0 27 = u0.1 0 27 ∧ ∀ i, (gcL (gcI u5 2 1 2030) 4 3 9).2 16 i = u0.2 16 i := by
  refine ⟨⟨fun i hi' => ?_, fun s hs => ?_⟩, fun i => ?_, ?_, fun i => ?_⟩
  · rw [gcL_i, gcI_r, if_pos ⟨rfl, hi'⟩, hi.1 2 i (by omega), gcL_i, gcI_r, if_pos ⟨rfl, hi'⟩]
  · rw [gcL_r, if_pos ⟨rfl, by omega⟩, gcI_l, hi.2.2 4 s (by omega), gcL_r, if_pos ⟨rfl, by omega⟩, gcI_l]
  · rw [gcL_i, gcI_r, if_neg (by omega), hi.1 15 i (by omega), gcL_i, gcI_r, if_neg (by omega)]
  · rw [gcL_i, gcI_r, if_neg (by omega), hi.2.1, gcL_i, gcI_r, if_neg (by omega)]
  · rw [gcL_r, if_neg (by omega), gcI_l, hi.2.2 16 i (by omega), gcL_r, if_neg (by omega), gcI_l]
theorem to_think {u0 : gMem} (h : BR μ u0 n a r p t Q B) : ∃ μ1, mX2_copyFrom [.ref 118, .ref 0] μ = some (none, μ1) ∧ th μ μ1 ∧ BR (g_vw 118 μ1) (gcL (gcI u0 1 2 2030) 3 4 9) n a r p t Q B ∧ ∀ c i, cpi c i → μ1.1 (118 + c) i = μ.1 c i := by
  obtain ⟨μ1, c1, c2⟩ := copy_118 μ
  have hc : ∀ c i, cpi c i → μ1.1 (118 + c) i = μ.1 c i := fun c i hc => by
    have := c2.2.1 c i (by have := cpi_lt hc; omega) hc
    rw [Nat.zero_add] at this
    exact this
  refine ⟨μ1, c1, fun c i hc => c2.1 c i (by omega), BR_cp h ⟨fun c i z => hc c i z, fun i hi => c2.2.2 trivial i hi⟩ ⟨fun i hi => ?_, fun s hs => ?_⟩, hc⟩
  · rw [gcL_i, gcI_r, if_neg (by omega)]
  · rw [gcL_r, if_neg (by omega), gcI_l]
theorem Rl.bk {u0 u5 : gMem} (hI : IMr (100 * k) (100000 * k) μ u) (h0 : u0 = gwI u 0 0 0) (h : BR μ u0 n a r p t Q B) (ht : t ≤ 100 * k + 100) (hB : B ≤ 100000 * k + 100000) (hc : th μ μ') (hi : im (gcL (gcI u0 1 2 2030) 3 4 9) u5) : Rl (k + 1) μ' (gcL (gcI u5 2 1 2030) 4 3 9) := by
  obtain ⟨b1, b2, b3, b4⟩ := back hi
  refine ⟨⟨n, a, r, p, t, Q, B, BR_cp (hc.BR h) cyB.rf b1, by omega, by omega⟩, hI.fr2 (by omega) (by omega) hc.cfr (fun i => ?_) ?_ (fun i => ?_)⟩
  · rw [b2 i, h0, gI_r, if_neg (by omega)]
  · rw [b3, h0, gI_r, if_neg (by omega)]
  · rw [b4 i, h0]; rfl
set_option maxRecDepth 8000 in
theorem ok_would (a0 a1 : Int32) : okc mX9_would mX10_would [.int a0, .int a1] := by
  intro k μ u hk hR
  obtain ⟨⟨n, a, r, p, t, Q, B, h, ht, hB⟩, hI⟩ := hR
  obtain ⟨h0, i0⟩ := told0 h
  have no : mX9_would [.ref 177, .int a0, .int a1] μ = some (some (.int (-1)), μ) → mX10_would [.ref 0, .int a0, .int a1] u = some (some (.int (-1)), gwI u 0 0 0) → ∃ x μ' ν', mX9_would [.ref 177, .int a0, .int a1] μ = some (some (.int x), μ') ∧ mX10_would [.ref 0, .int a0, .int a1] u = some (some (.int x), ν') ∧ Rl (k + 1) μ' ν' := fun e1 e2 => ⟨-1, μ, _, e1, e2, Rl.mk hI h0 (by omega) (by omega) cfr.rf i0⟩
  by_cases q1 : a0 < 1
  · exact no (by rw [eX9_would, if_pos q1]) (by rw [eX10_would, eX10_isIn, if_pos q1, g_ci_some, if_pos rfl])
  by_cases q2 : 100 < a0
  · exact no (by rw [eX9_would, if_neg q1, if_pos q2]) (by rw [eX10_would, eX10_isIn, if_neg q1, if_pos q2, g_ci_some, if_pos rfl])
  rcases rng (x := a1) (m := 5) (by omega) with q | ⟨w, hw, rfl⟩
  · refine no ?_ ?_
    · rw [eX9_would, if_neg q1, if_neg q2]
      rcases q with q | ⟨q, q3⟩
      · rw [if_pos q]
      · rw [if_neg q, if_neg (fun z => by have q3 : (5 : Int32) ≤ a1 := q3; grind)]
    · rw [eX10_would, eX10_isIn, if_neg q1, if_neg q2, g_ci_some, if_neg (by decide), show mX10_isIn [.ref 0, .int a1, .int 0, .int 4] (gwI u 0 0 0) = _ from isIn_0 (m := 4) (by omega) q, g_ci_some, if_pos rfl]
  obtain ⟨N, hN, rfl⟩ := nat_of (x := a0) (fun z => q1 (by grind))
  have hN1 : ¬ 100 < N := fun z => q2 (nI_lt (a := 100) (b := N) z hN)
  obtain ⟨μ1, c1, c2, c3', c4⟩ := to_think h0
  obtain ⟨μ2, u5, n2, a2, r2, Q2, D, w1, w2, w3, w4, w5, w6⟩ := wld_loop hN N 0 (by omega) μ1 (gcL (gcI (gwI u 0 0 0) 1 2 2030) 3 4 9) n a r t Q B 0 c3' (by omega) (by omega)
  have hD : (0 : Int32) + nI D = nI D := by grind
  rw [hD] at w2
  have hc3 : c3 (g_vw 118 μ1) n = c3 μ n := cB_congr fun i hi => by
    have := (BR_iff.mp h).1.A.n60
    show decide (μ1.1 (118 + 9) i = 3) = _
    rw [c4 9 i (by unfold cpi; omega)]
  obtain ⟨hw3, -⟩ := BR_iff.mp w3
  obtain ⟨hwB, -⟩ := BR_iff.mp ((c2.tr w4).BR h0)
  have hRl : Rl (k + 1) μ2 (gcL (gcI u5 2 1 2030) 4 3 9) := Rl.bk hI rfl h0 (by omega) (by omega) (c2.tr w4) w5
  have E1 := eX9_would (nI N) (nI w) μ
  rw [if_neg q1, if_neg q2, if_neg (nneg (by omega)), if_pos (show nI w ≤ (4 : Int32) from nI_le (a := w) (b := 4) (by omega) (by omega)), c1, g_cv_some, show rX9_would_35 (nI N) (nI w) 0 μ1 = _ from w1 (nI w), eX9_would_35, if_pos (nI_le (Nat.le_refl _) hN)] at E1
  have E2 := eX10_would (nI N) (nI w) u
  rw [eX10_isIn, if_neg q1, if_neg q2, g_ci_some, if_neg (show ¬ (1 : Int32) = 0 by decide), show mX10_isIn [.ref 0, .int (nI w), .int 0, .int 4] (gwI u 0 0 0) = _ from isIn_1 (y := 0) (z := 4) (by omega) (by omega) (by omega), g_ci_some, if_neg (show ¬ (1 : Int32) = 0 by decide), m_thinks, g_cv_some, eX10_idle, g_ci_some, show mX10_quanta [.ref 0, .int (nI N)] (gcL (gcI (gwI u 0 0 0) 1 2 2030) 3 4 9) = _ from (eX10_quanta _ _).trans w2, g_ci_some] at E2
  rw [E1, E2]
  clear E1 E2
  have tal : ∀ x : Nat, x < 11 → mX9_tallied [.ref 177, .int (nI x)] μ2 = some (some (.int (u5.1 1 (18 + x) - (gcL (gcI (gwI u 0 0 0) 1 2 2030) 3 4 9).1 1 (18 + x))), μ2) := fun x hx => by
    rw [eX9_tallied, gin hx (by omega), if_pos rfl, if_pos rfl, tn (by omega), hw3.e.1.2.2.1 x hx]
    have e1 : (gcL (gcI (gwI u 0 0 0) 1 2 2030) 3 4 9).1 1 (18 + x) = (gwI u 0 0 0).1 1 (18 + x) := by rw [gcL_i, gcI_r, if_neg (by omega)]
    rw [e1, hwB.e.1.2.2.1 x hx]
    rfl
  have hc : w = 0 ∨ w = 1 ∨ w = 2 ∨ w = 3 ∨ w = 4 := by omega
  rcases hc with rfl | rfl | rfl | rfl | rfl
  · rw [if_pos (show nI 0 = 0 from rfl), lfoq (o := 118) rfl (show mX4_inState [.ref 3, .int 3] (g_vw 118 μ2) = _ from c_inState hw3.A 3) rfl, g_ci_some, lfq rfl rfl (c_inState hwB.A 3) rfl, g_ci_some, if_neg (show ¬ nI 0 = 1 by decide), if_neg (show ¬ nI 0 = 2 by decide), if_neg (show ¬ nI 0 = 3 by decide), if_neg (show ¬ nI 0 = 4 by decide), m_forgets, g_cv_some]
    have e1 : cB (fun j => decide ((g_vw 118 μ2).1 9 j = 3)) n2 = D + cB (fun j => decide (μ2.1 9 j = 3)) n := by
      have z1 : cB (fun j => decide (μ2.1 9 j = 3)) n = c3 μ n := cB_congr fun i hi => by rw [((c2.tr w4) 9 i (by omega)).1]
      rw [z1, ← hc3]; exact w6
    rw [e1, nsb (by omega), show D + cB (fun j => decide (μ2.1 9 j = 3)) n - cB (fun j => decide (μ2.1 9 j = 3)) n = D by omega]
    exact ⟨_, _, _, rfl, rfl, hRl⟩
  · rw [if_neg (show ¬ nI 1 = 0 by decide), if_pos (show nI 1 = 1 from rfl), show mX9_tallied [.ref 177, .int 0] μ2 = some (some (.int (u5.1 1 18 - (gcL (gcI (gwI u 0 0 0) 1 2 2030) 3 4 9).1 1 18)), μ2) from tal 0 (by omega), g_ci_some, if_pos (show nI 1 = 1 from rfl), if_neg (show ¬ nI 1 = 2 by decide), if_neg (show ¬ nI 1 = 3 by decide), if_neg (show ¬ nI 1 = 4 by decide), m_forgets, g_cv_some]
    exact ⟨_, _, _, rfl, rfl, hRl⟩
  · rw [if_neg (show ¬ nI 2 = 0 by decide), if_neg (show ¬ nI 2 = 1 by decide), if_pos (show nI 2 = 2 from rfl), show mX9_tallied [.ref 177, .int 1] μ2 = some (some (.int (u5.1 1 19 - (gcL (gcI (gwI u 0 0 0) 1 2 2030) 3 4 9).1 1 19)), μ2) from tal 1 (by omega), g_ci_some, show mX9_tallied [.ref 177, .int 2] μ2 = some (some (.int (u5.1 1 20 - (gcL (gcI (gwI u 0 0 0) 1 2 2030) 3 4 9).1 1 20)), μ2) from tal 2 (by omega), g_ci_some, show mX9_tallied [.ref 177, .int 3] μ2 = some (some (.int (u5.1 1 21 - (gcL (gcI (gwI u 0 0 0) 1 2 2030) 3 4 9).1 1 21)), μ2) from tal 3 (by omega), g_ci_some, if_neg (show ¬ nI 2 = 1 by decide), if_pos (show nI 2 = 2 from rfl), eX10_idle, g_ci_some, if_neg (show ¬ nI 2 = 3 by decide), if_neg (show ¬ nI 2 = 4 by decide), m_forgets, g_cv_some]
    rw [three]
    exact ⟨_, _, _, rfl, rfl, hRl⟩
  · rw [if_neg (show ¬ nI 3 = 0 by decide), if_neg (show ¬ nI 3 = 1 by decide), if_neg (show ¬ nI 3 = 2 by decide), if_pos (show nI 3 = 3 from rfl), if_neg (show ¬ nI 3 = 1 by decide), if_neg (show ¬ nI 3 = 2 by decide), if_pos (show nI 3 = 3 from rfl), if_neg (show ¬ nI 3 = 4 by decide), m_forgets, g_cv_some, hw3.e.h.r]
    exact ⟨_, _, _, rfl, rfl, hRl⟩
  · rw [if_neg (show ¬ nI 4 = 0 by decide), if_neg (show ¬ nI 4 = 1 by decide), if_neg (show ¬ nI 4 = 2 by decide), if_neg (show ¬ nI 4 = 3 by decide), if_neg (show ¬ nI 4 = 1 by decide), if_neg (show ¬ nI 4 = 2 by decide), if_neg (show ¬ nI 4 = 3 by decide), if_pos (show nI 4 = 4 from rfl), m_manyOf hw3.e hw3.A, g_ci_some, m_forgets, g_cv_some, ← wait_cnt hw3, ← hw3.Q.1]
    exact ⟨_, _, _, rfl, rfl, hRl⟩
end THINK2
