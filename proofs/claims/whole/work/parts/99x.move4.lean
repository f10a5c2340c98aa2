section MOVE4
variable {b u b' u' μ μ' ν : gMem} {n a r p t B k o : Nat} {Q : List Nat}
noncomputable def mvR (v1 v2 : Int32) (μ : gMem) : Option gR := (g_ci (mX10_canMove [.ref 0, .int v1, .int v2] μ) (fun a3 u3 => (if a3 = 0 then some (some (.int 0), u3) else (g_ci (mX10_at [.ref 0, .int v1, .int 9] u3) (fun a4 u4 => (g_ci (mX10_bits [.ref 0, .int v2, .int a4] u4) (fun a5 u5 => (g_ci (mX10_slotOf [.ref 0, .int v1] u5) (fun a6 u6 => (g_ci (mX10_jobsIn [.ref 0, .int a6] u6) (fun a7 u7 => (if a7 = 1 then rX10_move_72 v1 v2 a5 a6 1 0 u7 else rX10_move_72 v1 v2 a5 a6 0 0 u7))))))))))))
/-- the first clear slot, before and behind the closing of an empty one -/
theorem fst_gone {f g : Nat → Int32} {X : Int32} {r w to s : Nat} (hw : w < r) (hg : ∀ y, y < r - 1 → g y = f (up w y)) (hw0 : f w = 0) (h0 : ∀ y, y < r → y ≠ w → f y ≠ 0) (t1 : to ≤ r) (t2 : ∀ y, y < to → ¬ (f y ≠ 0 ∧ f y &&& X = 0)) (t3 : to < r → f to ≠ 0 ∧ f to &&& X = 0) (s1 : s ≤ r - 1) (s3 : ∀ y, y < s → ¬ g y &&& X = 0) (s4 : s < r - 1 → g s &&& X = 0) : s = if to ≤ w then to else to - 1 := by
  have hne : to < r → to ≠ w := fun z e => (t3 z).1 (by rw [e]; exact hw0)
  refine Classical.byContradiction fun hc => ?_
  by_cases q : s < (if to ≤ w then to else to - 1)
  · have hs : s < r - 1 := by split at q <;> omega
    have e := s4 hs
    rw [hg s hs] at e
    have hy : up w s < r ∧ up w s ≠ w ∧ up w s < to := by
      unfold up
      split at q <;> split <;> omega
    exact t2 (up w s) hy.2.2 ⟨h0 _ hy.1 hy.2.1, e⟩
  · have hlt : (if to ≤ w then to else to - 1) < s := by omega
    have htr : to < r := by split at hlt <;> omega
    have hn := hne htr
    have e := s3 _ hlt
    rw [hg _ (by omega)] at e
    have hup : up w (if to ≤ w then to else to - 1) = to := by
      unfold up
      by_cases z : to ≤ w
      · rw [if_pos z, if_pos (by omega)]
      · rw [if_neg z, if_neg (by omega)]; omega
    rw [hup] at e
    exact e (t3 htr).2
theorem fst_stay {f : Nat → Int32} {X : Int32} {r to s : Nat} (h0 : ∀ y, y < r → f y ≠ 0) (t1 : to ≤ r) (t2 : ∀ y, y < to → ¬ (f y ≠ 0 ∧ f y &&& X = 0)) (t3 : to < r → f to ≠ 0 ∧ f to &&& X = 0) (s1 : s ≤ r) (s3 : ∀ y, y < s → ¬ f y &&& X = 0) (s4 : s < r → f s &&& X = 0) : s = to := by
  refine Classical.byContradiction fun hc => ?_
  by_cases q : s < to
  · exact t2 s q ⟨h0 s (by omega), s4 (by omega)⟩
  · exact s3 to (by omega) (t3 (by omega)).2
theorem moveTo_both {j : Nat} {x : Int32} (h0 : BR μ u n a r p t Q B) (hj : j < n) (h2 : μ.1 9 j = 2) (hB : B + 1 ≤ 1000000000) : (mX5_moveTo [.ref 178, .int (nI j), .int x] μ = some (some (.int 0), μ) ∧ mvR (nI j) x u = some (some (.int 0), u)) ∨ (∃ μ' u' r', mX5_moveTo [.ref 178, .int (nI j), .int x] μ = some (some (.int 1), μ') ∧ mvR (nI j) x u = g_cv (mX10_goesOn [.ref 0] u') (fun u5 => some (some (.int 1), u5)) ∧ BR μ' u' n a r' p t Q (B + 1) ∧ cfr μ μ' ∧ im u u') := by
  obtain ⟨h, hs, hIL⟩ := BR_iff.mp h0
  have hn := h.A.n60
  have hp := h.A.p32
  have hr := h.A.2.2.2.2.1
  obtain ⟨wm, w1, w2, w3, w4, w5, w6, w7⟩ := pl_w h hj h2
  have hle := w1.le
  have hdv := w1.dvd h.A.2.2.2.2.2.2
  obtain ⟨y1, y2⟩ := (ip_yes (h.P.1 j hj) h2).1
  have hmax : ∀ ν : gMem, mJ9_max_7cf53 [.int 1, .int (nI (jn μ 14 j))] ν = some (some (.int (nI (jn μ 14 j))), ν) := fun ν => by
    rw [eJ9_max_7cf53, show (1 : Int32) = nI 1 from rfl]
    by_cases z : 1 < jn μ 14 j
    · rw [if_pos (nI_lt z (by omega))]
    · rw [if_neg (nI_nlt (by omega) (by omega)), show jn μ 14 j = 1 by omega]
  have no1 : x < 0 ∨ nI p ≤ x → mvR (nI j) x u = some (some (.int 0), u) := fun z => by
    unfold mvR
    rw [eX10_canMove, at_9 (by omega), g_ci_some, m_cols h.e h.A, g_ci_some]
    by_cases z1 : x < 0
    · rw [if_pos z1, g_ci_some, if_pos rfl]
    · rw [if_neg z1, if_pos (z.resolve_left z1), g_ci_some, if_pos rfl]
  rw [eX5_moveTo, gin (show j < 60 by omega) (by omega), if_pos rfl]
  by_cases q1 : x < 0
  · refine Or.inl ⟨?_, no1 (Or.inl q1)⟩
    rw [lfq rfl rfl (show mX2_hasColumn [.ref 0, .int x] μ = some (some (.int 0), μ) by rw [eX2_hasColumn, if_pos q1]) rfl, g_ci_some, if_pos rfl]
  obtain ⟨c, c1, rfl⟩ := nat_of q1
  by_cases q2 : p ≤ c
  · have q3 : nI p ≤ nI c := nI_le q2 c1
    refine Or.inl ⟨?_, no1 (Or.inr q3)⟩
    rw [lfq rfl rfl (show mX2_hasColumn [.ref 0, .int (nI c)] μ = some (some (.int 0), μ) by rw [eX2_hasColumn, if_neg q1, h.A.2.2.2.2.2.1, if_pos q3]) rfl, g_ci_some, if_pos rfl]
  have hcp : c < p := by omega
  rw [lfq rfl rfl (show mX2_hasColumn [.ref 0, .int (nI c)] μ = some (some (.int 1), μ) by rw [eX2_hasColumn, if_neg q1, h.A.2.2.2.2.2.1, if_neg (nI_ge hcp (by omega))]) rfl, g_ci_some, if_neg (by decide), tn (by omega), w2, hmax, g_ci_some, if_neg (nI_ne0 (by omega) (by omega)), mod_n (by omega) hle.1 (by omega)]
  by_cases q3 : ¬ c % jn μ 14 j = 0
  · refine Or.inl ⟨if_neg (nI_ne0 (by omega) (by have := Nat.mod_lt c (show jn μ 14 j > 0 by omega); omega)), ?_⟩
    unfold mvR
    rw [eX10_canMove, at_9 (by omega), g_ci_some, (h.e.j hj).f9, w2, if_neg (nneg (by omega)), m_cols h.e h.A, g_ci_some, if_neg (nI_ge hcp (by omega)), if_neg (nI_ne0 (by omega) (by omega)), mod_n (by omega) hle.1 (by omega), if_neg (nI_ne0 (by omega) (by have := Nat.mod_lt c (show jn μ 14 j > 0 by omega); omega)), g_ci_some, if_pos rfl]
  replace q3 : c % jn μ 14 j = 0 := Classical.not_not.mp q3
  have hcm := m_canMove (c := c) h hj h2 hcp q3
  rw [if_pos (show nI (c % jn μ 14 j) = 0 by rw [q3]; rfl), if_pos rfl, w3]
  unfold mvR
  rw [hcm, g_ci_some]
  by_cases q4 : c = jn μ 13 j
  · refine Or.inl ⟨by rw [if_pos (show nI c = nI (jn μ 13 j) by rw [q4])], ?_⟩
    rw [if_neg (c := c ≠ jn μ 13 j ∧ _) (fun z => z.1 q4), if_pos rfl]
  rw [if_neg (show ¬ nI c = nI (jn μ 13 j) from fun z => q4 (by rwa [neq (by omega) (by omega)] at z)), c_isUp (by omega) hle.2, g_ci_some]
  by_cases q5 : ¬ μ.1 0 13 &&& BK c (jn μ 14 j) = 0
  · refine Or.inl ⟨by rw [if_neg q5, if_pos rfl], ?_⟩
    rw [if_neg (c := c ≠ jn μ 13 j ∧ _) (fun z => q5 z.2), if_pos rfl]
  replace q5 : μ.1 0 13 &&& BK c (jn μ 14 j) = 0 := Classical.not_not.mp q5
  have hcw : c + jn μ 14 j ≤ p := by
    obtain ⟨e1, he1⟩ := Nat.dvd_of_mod_eq_zero q3
    obtain ⟨e2, he2⟩ := Nat.dvd_of_mod_eq_zero hdv
    rw [he1, he2] at hcp ⊢
    have : e1 < e2 := Nat.lt_of_mul_lt_mul_left hcp
    calc jn μ 14 j * e1 + jn μ 14 j = jn μ 14 j * (e1 + 1) := by rw [Nat.mul_add, Nat.mul_one]
      _ ≤ jn μ 14 j * e2 := Nat.mul_le_mul_left _ (by omega)
  have hX : upX μ p j c := ⟨q3, hcw, q5⟩
  rw [if_pos q5, if_neg (show ¬ (1 : Int32) = 0 by decide), if_pos (show c ≠ jn μ 13 j ∧ μ.1 0 13 &&& BK c (jn μ 14 j) = 0 from ⟨q4, q5⟩), if_neg (show ¬ (1 : Int32) = 0 by decide), cbits (by omega) hle.2, g_ci_some, at_9 (by omega), g_ci_some, (h.e.j hj).f9, w2, mbits hle.2, g_ci_some, m_slotOf h.e hj hn, g_ci_some, y1, m_jobsIn h.e h.A h.P (by omega), g_ci_some]
  obtain ⟨m, o1, o2, o3, o4, o5, o6⟩ := c_takeOut h hj
  have hOT : OT μ m r j := ⟨o3, o4, o5, o6, fun i => by rw [o2]⟩
  have hm0 : ∀ y, y < r → y ≠ jn μ 12 j → m.1 32 y ≠ 0 := fun y hy z => by
    rw [o6 y hy, if_neg (show ¬ μ.1 12 j = nI y by rw [y1, neq (by omega) (by omega)]; exact fun w => z w.symm)]; exact hs y hy
  obtain ⟨to, t1, t2, t3, t4⟩ := c_room (X := BK c (jn μ 14 j)) h hj h2 hOT hm0
  have hmr := m_room (x := nI c) (X := BK c (jn μ 14 j)) h hj h2 hOT hm0 t1 t2 t3
  have hal := alone_iff h hj h2 hOT
  have hmr' : (if nI (cB (fun i => decide (μ.1 12 i = nI (jn μ 12 j))) n) = 1 then rX10_move_72 (nI j) (nI c) (BK c (jn μ 14 j)) (nI (jn μ 12 j)) 1 0 u else rX10_move_72 (nI j) (nI c) (BK c (jn μ 14 j)) (nI (jn μ 12 j)) 0 0 u) = rX10_move_72 (nI j) (nI c) (BK c (jn μ 14 j)) (nI (jn μ 12 j)) (if m.1 32 (jn μ 12 j) = 0 then 1 else 0) 0 u := by
    by_cases z : m.1 32 (jn μ 12 j) = 0
    · rw [if_pos (hal.mp z), if_pos z]
    · rw [if_neg (fun w => z (hal.mpr w)), if_neg z]
  rw [hmr', hmr, t4, g_ci_some]
  by_cases q6 : ¬ (to < r ∨ r - (if m.1 32 (jn μ 12 j) = 0 then 1 else 0) < jn μ 1 1)
  · refine Or.inl ⟨by rw [if_neg q6, if_pos rfl], by rw [if_neg q6]⟩
  replace q6 := Classical.not_not.mp q6
  rw [if_pos q6, if_pos q6, if_neg (show ¬ (1 : Int32) = 0 by decide)]
  have hpt : g_pt 0 μ m = m := ptq (fun c i hc => o3 c i (by simp; omega)) (fun c i hc => by rw [o2])
  have o1' := lf0 (μ := μ) rfl rfl o1 rfl
  rw [hpt] at o1'
  rw [o1', g_cv_some]
  have cfm : cfr μ m := fun c i hc => ⟨o3 c i (by simp; omega), by rw [o2]⟩
  have hT := h.T.1
  refine Or.inr ?_
  rcases c_dropE (b := m) (n := n) (r := r) (w := jn μ 12 j) (by rw [o3 29 3 (by decide)]; exact h.A.2.2.1) hr (by rw [o3 3 2 (by decide)]; exact h.A.1) hn y2 hm0 with ⟨d1, d2⟩ | ⟨d1, m1, d2, d3⟩
  · -- the slot stays
    have hM := md_stay h hs hj h2 hOT d1
    obtain ⟨s, s1, s2, s3, s4⟩ := c_fc (b := m) (r := r) (X := BK c (jn μ 14 j)) hM.2.1 hr
    have hall : ∀ y, y < r → m.1 32 y ≠ 0 := fun y hy => by
      by_cases z : y = jn μ 12 j
      · rw [z]; exact d1
      · exact hm0 y hy z
    have hst := fst_stay (f := fun y => m.1 32 y) hall t1 t2 t3 s1 s3 s4
    subst hst
    rw [if_neg d1] at q6
    obtain ⟨μ', u', r', f1, f2, f3, f4, f5⟩ := mv_fin (s := s) h hIL hj h2 hX hM cfm s1 hr s4 (fun z => by omega) hB
    refine ⟨μ', u', r', ?_, ?_, f3, f4, f5⟩
    · rw [lfq rfl rfl d2 rfl, g_cv_some, cbits (by omega) hle.2, g_ci_some, lfq rfl rfl s2 rfl, g_ci_some]
      exact f1
    · rw [if_neg d1, eX10_move_157, lay_7 (by omega), g_cv_some, if_pos rfl]
      exact f2 _
  · -- the slot goes
    have hpd : g_lf 0 mX2_dropEmpty [.ref 0] m = some (none, g_pt 0 m m1) := lf0 rfl rfl d2 rfl
    have d3' : drB m (g_pt 0 m m1) n r (jn μ 12 j) := by
      obtain ⟨z1, z2, z3, z4, z5⟩ := d3
      refine ⟨fun c i hc => ?_, by rw [pt0 (by omega)]; exact z2, fun c i hc hi => ?_, fun i hi => by rw [pt0L (by omega)]; exact z4 i hi, fun i => by rw [pt0 (by omega)]; exact z5 i⟩
      · by_cases z : c < 59
        · rw [pt0 z]; exact z1 c i hc
        · exact (pt9 (by omega)).1
      · rw [pt0 (by omega)]; exact z3 c i hc hi
    generalize hm2 : g_pt 0 m m1 = m2 at hpd d3'
    have cf2 : cfr m m2 := by rw [← hm2]; exact cfr.pt
    obtain ⟨u2, v1, v2⟩ := m_dropS (u := wA u j 7 0) (n := n) (r := r) (s := jn μ 12 j) (by rw [wA_h (by omega)]; exact h.e.h.r.trans h.A.2.2.1) hr y2 (by rw [wA_h (by omega)]; exact h.e.h.n.trans h.A.1) hn
    have hM := md_gone h hs hj h2 hOT d1 d3' v2
    obtain ⟨s, s1, s2, s3, s4⟩ := c_fc (b := m2) (r := r - 1) (X := BK c (jn μ 14 j)) hM.2.1 (by omega)
    have hst := fst_gone (f := fun y => m.1 32 y) (g := fun y => m2.1 32 y) y2 (fun y hy => d3'.2.2.1 32 y (by omega) hy) d1 hm0 t1 t2 t3 s1 s3 s4
    obtain ⟨μ', u', r', f1, f2, f3, f4, f5⟩ := mv_fin (s := s) h hIL hj h2 hX hM (cfm.tr cf2) s1 (by omega) s4 (fun z => by omega) hB
    refine ⟨μ', u', r', ?_, ?_, f3, f4, f5⟩
    · rw [hpd, g_cv_some, cbits (by omega) hle.2, g_ci_some, lfq rfl rfl s2 rfl, g_ci_some]
      exact f1
    · rw [if_pos d1, eX10_move_157, lay_7 (by omega), g_cv_some, if_neg (by decide), v1, g_cv_some]
      by_cases z : to ≤ jn μ 12 j
      · rw [if_pos z] at hst
        rw [if_pos (nI_le z (by omega)), ← hst]
        exact f2 _
      · rw [if_neg z] at hst
        rw [if_neg (nI_ge (by omega) (by omega)), nI_s1 (k := to) (by omega), ← hst]
        exact f2 _
theorem ok_move (a0 a1 : Int32) : okc mX9_move mX10_move [.int a0, .int a1] := by
  intro k μ u hk hR
  obtain ⟨⟨n, a, r, p, t, Q, B, h, ht, hB⟩, hI⟩ := hR
  obtain ⟨h0, i0⟩ := told0 h
  obtain ⟨hw, -⟩ := BR_iff.mp h0
  rcases plc_both (x := a0) hw with ⟨c1, c2⟩ | ⟨j, hj, rfl, hj2, c1, c2⟩
  · refine ⟨0, μ, gwI u 0 0 0, ?_, by rw [eX10_move, c2], Rl.mk hI h0 (by omega) (by omega) cfr.rf i0⟩
    rw [eX9_move, lfq rfl rfl c1 rfl, g_ci_some, if_pos rfl, went_0, g_ci_some, g01_0, if_pos rfl]
  rw [eX9_move, lfq rfl rfl c1 rfl, g_ci_some, if_neg (by decide), eX10_move, c2]
  rcases moveTo_both (x := a1) h0 hj hj2 (by omega) with ⟨m1, m2⟩ | ⟨μ', u', r', m1, m2, m3, m4, m5⟩
  · rw [m1, g_ci_some, if_pos rfl, went_0, g_ci_some, g01_0, if_pos rfl]
    exact ⟨0, μ, gwI u 0 0 0, rfl, m2, Rl.mk hI h0 (by omega) (by omega) cfr.rf i0⟩
  · obtain ⟨μ2, u2, r2, Q2, k1, k2, k3, k4, k5⟩ := went_1 m3 (by omega)
    rw [m1, g_ci_some, if_neg (by decide), k1, g_ci_some, g01_1, if_pos rfl]
    refine ⟨1, μ2, u2, rfl, m2.trans ?_, Rl.mk hI k3 (by omega) (by omega) (m4.tr k4) ((i0.tr m5).tr k5)⟩
    rw [k2, g_cv_some]
end MOVE4
