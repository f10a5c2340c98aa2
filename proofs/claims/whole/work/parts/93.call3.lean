section CALL3
variable {b u b' u' μ μ' ν : gMem} {n a r p t B k : Nat} {Q : List Nat}
theorem pt_id : g_pt 0 μ μ = μ := Prod.ext (funext fun c => funext fun i => by
  show (if 0 ≤ c ∧ c < 0 + 59 then μ.1 (c - 0) i else μ.1 c i) = μ.1 c i
  split <;> rfl) (funext fun c => funext fun i => by
  show (if 0 ≤ c ∧ c < 0 + 59 then μ.2 (c - 0) i else μ.2 c i) = μ.2 c i
  split <;> rfl)
/-- a query through the class: nothing changes -/
theorem lfq {m : gF} {as : List Value} {v : Option Value} (has : as.all (g_ib 0) = true) (hmp : as.map (g_sb 0) = as) (hm : m as μ = some (v, μ)) (hr : g_nr v = true) : g_lf 0 m as μ = some (v, μ) := by
  rw [lf0 has hmp hm hr, pt_id]
theorem c_addA {v1 v2 v3 v4 : Int32} (h : b.1 33 1 = nI a) (ha : a < 60) : mX0_add [.ref 33, .int v1, .int v2, .int v3, .int v4] b = some (none, gwI (gwI (gwI (gwI (gwI b 35 a v1) 36 a v2) 37 a v3) 38 a v4) 33 1 (nI (a + 1))) := by
  have e1 : (gwI b 35 a v1).1 33 1 = nI a := h
  have e2 : (gwI (gwI b 35 a v1) 36 a v2).1 33 1 = nI a := h
  have e3 : (gwI (gwI (gwI b 35 a v1) 36 a v2) 37 a v3).1 33 1 = nI a := h
  have e4 : (gwI (gwI (gwI (gwI b 35 a v1) 36 a v2) 37 a v3) 38 a v4).1 33 1 = nI a := h
  rw [eX0_add, h, if_neg (show ¬ (60 : Int32) ≤ nI a from nI_ge (a := a) (b := 60) ha (by omega)), gin ha (by omega), if_pos rfl, tn (show a < 2147483648 by omega), e1, gin ha (by omega), if_pos rfl, tn (show a < 2147483648 by omega), e2, gin ha (by omega), if_pos rfl, tn (show a < 2147483648 by omega), e3, gin ha (by omega), if_pos rfl, tn (show a < 2147483648 by omega), e4, nI_1]
theorem ok_later (a0 a1 a2 a3 : Int32) : okc mX9_later mX10_later [.int a0, .int a1, .int a2, .int a3] := by
  intro k μ u hk hR
  obtain ⟨⟨n, a, r, p, t, Q, B, h, ht, hB⟩, hI⟩ := hR
  obtain ⟨h0, i0⟩ := told0 h
  obtain ⟨hw, hs⟩ := BR_iff.mp h0
  have hna := hw.A.2.2.2.1
  have hsum : (gwI u 0 0 0).1 1 11 + (gwI u 0 0 0).1 1 12 = nI (n + a) := by rw [hw.e.h.n, hw.e.h.a, hw.A.1, hw.A.2.1, nad]
  have no : ∀ (μ' u' : gMem), Rl (k + 1) μ (gwI u 0 0 0) := fun _ _ => Rl.mk hI h0 (by omega) (by omega) cfr.rf i0
  have hin : mX10_isIn [.ref 0, .int a0, .int ((gwI u 0 0 0).1 1 10), .int 99999] (gwI u 0 0 0) = (if a0 < μ.1 0 12 then some (some (.int 0), gwI u 0 0 0) else (if 99999 < a0 then some (some (.int 0), gwI u 0 0 0) else some (some (.int 1), gwI u 0 0 0))) := by rw [eX10_isIn, hw.e.h.t]
  by_cases q1 : a0 < μ.1 0 12
  · exact ⟨-1, μ, _, by rw [eX9_later, if_pos q1], by rw [eX10_later, hin, if_pos q1, g_ci_some, if_pos rfl], no μ u⟩
  by_cases q2 : 99999 < a0
  · exact ⟨-1, μ, _, by rw [eX9_later, if_neg q1, if_pos q2], by rw [eX10_later, hin, if_neg q1, if_pos q2, g_ci_some, if_pos rfl], no μ u⟩
  rcases can_both (s := a1) (w := a2) (x := a3) hw with ⟨c1, c2⟩ | ⟨sz, wk, us, rfl, rfl, rfl, z1, z2, z3, z4, z5, z6, c1, c2⟩
  · refine ⟨-1, μ, _, by rw [eX9_later, if_neg q1, if_neg q2, lfq rfl rfl c1 rfl, g_ci_some, if_pos rfl], ?_, no μ u⟩
    rw [eX10_later, hin, if_neg q1, if_neg q2, g_ci_some, if_neg (by decide)]
    rcases c2 with c2 | ⟨c2, c3⟩
    · rw [c2, g_ci_some, if_pos rfl]
    · rw [c2, g_ci_some, if_neg (by decide), hsum, if_neg (show ¬ nI (n + a) < (60 : Int32) from nI_nlt (a := n + a) (b := 60) (by omega) (by omega))]
  · have ea : (gwI u 0 0 0).1 1 12 = nI a := hw.e.h.a.trans hw.A.2.1
    have hrel : BW (gwI (gwI (gwI (gwI (gwI μ 35 a a0) 36 a (nI sz)) 37 a (nI wk)) 38 a (nI us)) 33 1 (nI (a + 1))) (wH (wR (wR (wR (wR (gwI u 0 0 0) a 0 a0) a 1 (nI sz)) a 2 (nI wk)) a 3 (nI us)) 12 (nI (a + 1))) n (a + 1) r p t Q B := by
      refine arr_rel hw (fun c i hc => ?_) rfl rfl (fun i h1 h2 => ?_) rfl (by rw [wH_h, if_pos rfl]) (by omega) (fun i hi => ?_) (fun i hi => ?_)
      · rw [gI_r, if_neg (by omega), gI_r, if_neg (by omega), gI_r, if_neg (by omega), gI_r, if_neg (by omega), gI_r, if_neg (by omega)]
      · rw [wH_h, if_neg h1]; unfold wR; rw [gI_r, if_neg (by omega), gI_r, if_neg (by omega), gI_r, if_neg (by omega), gI_r, if_neg (by omega)]
      · simp (disch := omega) only [mR_wH, mR_wR]
        simp only [gI_r]
        by_cases z : i = a
        · subst z; simp
        · have := hw.e.2.2.1 i (by omega)
          simp [z]
          exact this
      · by_cases z : i = a
        · subst z
          have e1 : (gwI (gwI (gwI (gwI (gwI μ 35 i a0) 36 i (nI sz)) 37 i (nI wk)) 38 i (nI us)) 33 1 (nI (i + 1))).1 36 i = nI sz := by simp [gI_r]
          have e2 : (gwI (gwI (gwI (gwI (gwI μ 35 i a0) 36 i (nI sz)) 37 i (nI wk)) 38 i (nI us)) 33 1 (nI (i + 1))).1 37 i = nI wk := by simp [gI_r]
          have e3 : (gwI (gwI (gwI (gwI (gwI μ 35 i a0) 36 i (nI sz)) 37 i (nI wk)) 38 i (nI us)) 33 1 (nI (i + 1))).1 38 i = nI us := by simp [gI_r]
          have hp := hw.A.p32
          unfold jn
          rw [e1, e2, e3, tn (by omega), tn (by omega), tn (by omega)]
          exact ⟨⟨rfl, z1, z2⟩, ⟨rfl, z3, z4⟩, rfl, z5⟩
        · have := hw.R i (by omega)
          have e1 : ∀ c, 36 ≤ c → c ≤ 38 → (gwI (gwI (gwI (gwI (gwI μ 35 a a0) 36 a (nI sz)) 37 a (nI wk)) 38 a (nI us)) 33 1 (nI (a + 1))).1 c i = μ.1 c i := fun c h1 h2 => by
            rw [gI_r, if_neg (by omega), gI_r, if_neg (by omega), gI_r, if_neg (by omega), gI_r, if_neg (by omega), gI_r, if_neg (by omega)]
          unfold jn at *
          rw [e1 36 (by omega) (by omega), e1 37 (by omega) (by omega), e1 38 (by omega) (by omega)]
          exact this
    have hBR : BR (gwI (gwI (gwI (gwI (gwI μ 35 a a0) 36 a (nI sz)) 37 a (nI wk)) 38 a (nI us)) 33 1 (nI (a + 1))) (wH (wR (wR (wR (wR (gwI u 0 0 0) a 0 a0) a 1 (nI sz)) a 2 (nI wk)) a 3 (nI us)) 12 (nI (a + 1))) n (a + 1) r p t Q B := BR_iff.mpr ⟨hrel, fun s hs' => hs.1 s hs', fun j hj => hs.2 j hj⟩
    refine ⟨nI (a + 1), _, _, ?_, ?_, Rl.mk hI (BR_pt (μ := μ) hBR) (by omega) (by omega) cfr.pt (i0.tr ⟨fun c i hc => ?_, ?_, fun _ _ _ => rfl⟩)⟩
    · rw [eX9_later, if_neg q1, if_neg q2, lfq rfl rfl c1 rfl, g_ci_some, if_neg (by decide), lf0 rfl rfl (c_addA hw.A.2.1 (by omega)) rfl, g_cv_some, pt0 (by omega)]
      rfl
    · have e12 : (wR (wR (wR (wR (gwI u 0 0 0) a 0 a0) a 1 (nI sz)) a 2 (nI wk)) a 3 (nI us)).1 1 12 = nI a := by rw [wR_h (by omega), wR_h (by omega), wR_h (by omega), wR_h (by omega)]; exact ea
      rw [eX10_later, hin, if_neg q1, if_neg q2, g_ci_some, if_neg (by decide), c2, g_ci_some, if_neg (by decide), hsum, if_pos (show nI (n + a) < (60 : Int32) from nI_lt (a := n + a) (b := 60) (by omega) (by omega)), ea, eX10_arrivalAt, g_ci_some, ar_ix, show nI (1242 + 4 * a) + 1 = nI (1242 + 4 * a + 1) from nad _ 1, show nI (1242 + 4 * a) + 2 = nI (1242 + 4 * a + 2) from nad _ 2, show nI (1242 + 4 * a) + 3 = nI (1242 + 4 * a + 3) from nad _ 3, gin (show 1242 + 4 * a < 2030 by omega) (by omega), gin (show 1242 + 4 * a + 1 < 2030 by omega) (by omega), gin (show 1242 + 4 * a + 2 < 2030 by omega) (by omega), gin (show 1242 + 4 * a + 3 < 2030 by omega) (by omega), if_pos rfl, if_pos rfl, if_pos rfl, if_pos rfl, tn (show 1242 + 4 * a < 2147483648 by omega), tn (show 1242 + 4 * a + 1 < 2147483648 by omega), tn (show 1242 + 4 * a + 2 < 2147483648 by omega), tn (show 1242 + 4 * a + 3 < 2147483648 by omega)]
      rw [show mX10_more [.ref 0, .int 12, .int 1] (gwI (gwI (gwI (gwI (gwI u 0 0 0) 1 (1242 + 4 * a) a0) 1 (1242 + 4 * a + 1) (nI sz)) 1 (1242 + 4 * a + 2) (nI wk)) 1 (1242 + 4 * a + 3) (nI us)) = some (none, wH (wR (wR (wR (wR (gwI u 0 0 0) a 0 a0) a 1 (nI sz)) a 2 (nI wk)) a 3 (nI us)) 12 ((wR (wR (wR (wR (gwI u 0 0 0) a 0 a0) a 1 (nI sz)) a 2 (nI wk)) a 3 (nI us)).1 1 12 + 1)) from more_12, g_cv_some, e12, nI_1, wH_h, if_pos rfl]
    · rw [wH_c (by omega), wR_c (by omega), wR_c (by omega), wR_c (by omega), wR_c (by omega)]
    · rw [wH_c (by omega), wR_c (by omega), wR_c (by omega), wR_c (by omega), wR_c (by omega)]
theorem share_rel {v x : Nat} (h : BW b u n a r p t Q B) (hv : v < 6) (hx : 1 ≤ x ∧ x ≤ 9) : BW (gwI b 26 v (nI x)) (wH u (30 + v) (nI x - 1)) n a r p t Q B := by
  have hn := h.A.n60
  have ha : a ≤ 60 := by have := h.A.2.2.2.1; omega
  have hr := h.A.2.2.2.2.1
  have hag : ∀ S : List Nat, 26 ∉ S → ag S b (gwI b 26 v (nI x)) := fun S hS => ag.rf.w hS
  have hc : ∀ c i, c ≠ 26 → (gwI b 26 v (nI x)).1 c i = b.1 c i := fun c i hc => by rw [gI_r, if_neg (fun z => hc z.1)]
  have hU : ∀ i, i ≠ 30 + v → (wH u (30 + v) (nI x - 1)).1 1 i = u.1 1 i := fun i hi => by rw [wH_h, if_neg hi]
  refine ⟨⟨⟨?_, ?_, ?_, ?_, ?_⟩, ?_, ?_, ?_, ?_, ?_⟩, ?_, ?_, ?_, ?_, ?_, ?_, ?_, ?_, ?_, ?_⟩
  · have := h.e.1.1
    simp (disch := omega) only [hU, hc]
    exact this
  · have := h.e.1.2.1
    simp (disch := omega) only [hU, hc]
    exact this
  · intro i hi; rw [hU _ (by omega), hc _ _ (by omega)]; exact h.e.1.2.2.1 i hi
  · intro i hi
    rw [wH_h, gI_r]
    by_cases q : i = v
    · rw [if_pos (by omega), if_pos ⟨rfl, q⟩, i_ns]
    · rw [if_neg (by omega), if_neg (fun z => q z.2)]; exact h.e.1.2.2.2.1 i hi
  · intro i hi; rw [hU _ (by omega), hc _ _ (by omega)]; exact h.e.1.2.2.2.2 i hi
  · exact h.e.2.1.fr hn (hag _ (by decide)) (ug.rf.w (by omega))
  · exact h.e.2.2.1.fr ha (hag _ (by decide)) (ug.rf.w (by omega))
  · exact h.e.2.2.2.1.fr hr (hag _ (by decide)) (ug.rf.w (by omega)) (fun _ _ => rfl) (fun _ _ => rfl)
  · exact h.e.2.2.2.2.1.fr (hag _ (by decide)) (ug.rf.w (by omega))
  · exact h.e.2.2.2.2.2.fr (hag _ (by decide)) (ug.rf.w (by omega))
  · exact h.A.fr (hc _ _ (by omega)) (hc _ _ (by omega)) (hc _ _ (by omega)) (hc _ _ (by omega))
  · exact h.T.fr (hag _ (by decide))
  · exact h.J.fr (hag _ (by decide))
  · exact h.P.fr (hag _ (by decide)) (hc _ _ (by omega))
  · exact h.S.fr (hag _ (by decide))
  · refine ⟨fun i hi => ?_, fun i hi => ?_, ?_⟩
    · unfold jn
      rw [gI_r]
      by_cases q : i = v
      · rw [if_pos ⟨rfl, q⟩, tn (by omega)]; exact ⟨rfl, hx⟩
      · rw [if_neg (fun z => q z.2)]; exact h.U.1 i hi
    · exact h.U.2.1 i hi
    · exact h.U.2.2
  · exact h.R.fr (hag _ (by decide))
  · exact h.D.fr (hc _ _ (by omega))
  · exact h.Q.fr hn (hag _ (by decide)) (hc _ _ (by omega)) (hU _ (by omega)) (fun i hi => mA_wH (by omega) (by omega) (by omega))
  · exact h.B.fr (hc _ _ (by omega)) (hc _ _ (by omega)) (hc _ _ (by omega))
theorem ok_share (a0 a1 : Int32) : okc mX9_share mX10_share [.int a0, .int a1] := by
  intro k μ u hk hR
  obtain ⟨⟨n, a, r, p, t, Q, B, h, ht, hB⟩, hI⟩ := hR
  obtain ⟨h0, i0⟩ := told0 h
  obtain ⟨hw, hs⟩ := BR_iff.mp h0
  have no : mX8_promise [.ref 25, .int a0, .int a1] μ = some (some (.int 0), μ) → mX10_share [.ref 0, .int a0, .int a1] u = some (some (.int 0), gwI u 0 0 0) → ∃ x μ' ν', mX9_share [.ref 177, .int a0, .int a1] μ = some (some (.int x), μ') ∧ mX10_share [.ref 0, .int a0, .int a1] u = some (some (.int x), ν') ∧ Rl (k + 1) μ' ν' := fun e1 e2 => by
    refine ⟨0, μ, gwI u 0 0 0, ?_, e2, Rl.mk hI h0 (by omega) (by omega) cfr.rf i0⟩
    rw [eX9_share, lfq rfl rfl e1 rfl, g_ci_some, went_0, g_ci_some, g01_0, if_pos rfl]
  by_cases q1 : a0 < 0
  · exact no (by rw [eX8_promise, if_pos q1]) (by rw [eX10_share, eX10_isUser, if_pos q1, g_ci_some, if_pos rfl])
  by_cases q2 : 6 ≤ a0
  · exact no (by rw [eX8_promise, if_neg q1, if_pos q2]) (by rw [eX10_share, eX10_isUser, if_neg q1, if_pos q2, g_ci_some, if_pos rfl])
  by_cases q3 : a1 < 1
  · exact no (by rw [eX8_promise, if_neg q1, if_neg q2, if_pos q3]) (by rw [eX10_share, eX10_isUser, if_neg q1, if_neg q2, g_ci_some, if_neg (by decide), eX10_isIn, if_pos q3, g_ci_some, if_pos rfl])
  by_cases q4 : a1 ≤ 9
  · obtain ⟨v, v1, rfl⟩ := nat_of q1
    obtain ⟨x, x1, rfl⟩ := nat_of (x := a1) (fun z => q3 (by grind))
    have v6 : ¬ 6 ≤ v := fun z => q2 (nI_le (a := 6) (b := v) z v1)
    have xa : ¬ x < 1 := fun z => q3 (nI_lt (a := x) (b := 1) z (by omega))
    have xb : x ≤ 9 := by
      have h3 : nI x ≤ nI 9 := q4
      rwa [nle x1 (by omega)] at h3
    have hBR : BR (gwI μ 26 v (nI x)) (wH (gwI u 0 0 0) (30 + v) (nI x - 1)) n a r p t Q B := BR_iff.mpr ⟨share_rel hw (by omega) ⟨by omega, xb⟩, fun s hs' => hs.1 s hs', fun j hj => hs.2 j hj⟩
    obtain ⟨μ2, u2, r2, Q2, k1, k2, k3, k4, k5⟩ := went_1 (BR_pt (μ := μ) hBR) (by omega)
    have c1 : mX8_promise [.ref 25, .int (nI v), .int (nI x)] μ = some (some (.int 1), gwI μ 26 v (nI x)) := by rw [eX8_promise, if_neg q1, if_neg q2, if_neg q3, if_pos q4, gin (show v < 6 by omega) (by omega), if_pos rfl, tn (show v < 2147483648 by omega)]
    refine ⟨1, μ2, u2, ?_, ?_, Rl.mk hI k3 (by omega) (by omega) (cfr.pt.tr k4) ((i0.tr ⟨fun c i hc => wH_c (by omega), wH_c (by omega), fun _ _ _ => rfl⟩).tr k5)⟩
    · rw [eX9_share, lf0 rfl rfl c1 rfl, g_ci_some, k1, g_ci_some, g01_1, if_pos rfl]
    · rw [eX10_share, eX10_isUser, if_neg q1, if_neg q2, g_ci_some, if_neg (by decide), eX10_isIn, if_neg q3, if_neg (fun z => by grind), g_ci_some, if_neg (by decide), show (30 : Int32) + nI v = nI (30 + v) from nad 30 v, gin (show 30 + v < 2030 by omega) (by omega), if_pos rfl, tn (show 30 + v < 2147483648 by omega), show mX10_goesOn [.ref 0] (gwI (gwI u 0 0 0) 1 (30 + v) (nI x - 1)) = _ from k2, g_cv_some]
  · exact no (by rw [eX8_promise, if_neg q1, if_neg q2, if_neg q3, if_neg q4]) (by rw [eX10_share, eX10_isUser, if_neg q1, if_neg q2, g_ci_some, if_neg (by decide), eX10_isIn, if_neg q3, if_pos (by grind), g_ci_some, if_pos rfl])
/-- a column, on both sides -/
theorem col_both {x : Int32} (h : BW b u n a r p t Q B) : (mX2_hasColumn [.ref 0, .int x] b = some (some (.int 0), b) ∧ mX10_isColumn [.ref 0, .int x] u = some (some (.int 0), u)) ∨ (∃ c, c < p ∧ x = nI c ∧ mX2_hasColumn [.ref 0, .int x] b = some (some (.int 1), b) ∧ mX10_isColumn [.ref 0, .int x] u = some (some (.int 1), u)) := by
  have hp := h.A.p32
  rw [eX2_hasColumn, eX10_isColumn, m_cols h.e h.A, g_ci_some, h.A.2.2.2.2.2.1]
  by_cases q1 : x < 0
  · exact Or.inl ⟨if_pos q1, if_pos q1⟩
  · obtain ⟨c, c1, rfl⟩ := nat_of q1
    rw [if_neg q1, if_neg q1]
    by_cases q2 : p ≤ c
    · exact Or.inl ⟨if_pos (nI_le q2 c1), if_pos (nI_le q2 c1)⟩
    · exact Or.inr ⟨c, by omega, rfl, if_neg (nI_ge (by omega) (by omega)), if_neg (nI_ge (by omega) (by omega))⟩
theorem dn_both {c : Nat} (h : BW b u n a r p t Q B) (hc : c < 32) : mX2_isDown [.ref 0, .int (nI c)] b = some (some (.int (if bt (b.1 0 13) c then 1 else 0)), b) ∧ mX10_isDown [.ref 0, .int (nI c)] u = some (some (.int (if bt (b.1 0 13) c then 1 else 0)), u) := by
  rw [eX2_isDown, eX10_isDown, u_bit hc, h.e.h.d, s_bit hc]
  cases bt (b.1 0 13) c with
  | true => exact ⟨rfl, rfl⟩
  | false => exact ⟨rfl, rfl⟩
theorem ok_down (a0 : Int32) : okc mX9_down mX10_down [.int a0] := by
  intro k μ u hk hR
  obtain ⟨⟨n, a, r, p, t, Q, B, h, ht, hB⟩, hI⟩ := hR
  obtain ⟨h0, i0⟩ := told0 h
  obtain ⟨hw, hs⟩ := BR_iff.mp h0
  have hp := hw.A.p32
  rcases col_both (x := a0) hw with ⟨c1, c2⟩ | ⟨c, hc, rfl, c1, c2⟩
  · exact ⟨0, μ, _, by rw [eX9_down, lfq rfl rfl c1 rfl, g_ci_some, if_pos rfl], by rw [eX10_down, c2, g_ci_some, if_pos rfl], Rl.mk hI h0 (by omega) (by omega) cfr.rf i0⟩
  · obtain ⟨d1, d2⟩ := dn_both hw (show c < 32 by omega)
    cases hd : bt (μ.1 0 13) c with
    | true =>
      rw [hd] at d1 d2
      exact ⟨0, μ, _, by rw [eX9_down, lfq rfl rfl c1 rfl, g_ci_some, if_neg (by decide), lfq rfl rfl d1 rfl, g_ci_some, if_neg (by decide)], by rw [eX10_down, c2, g_ci_some, if_neg (by decide), d2, g_ci_some, if_neg (by decide)], Rl.mk hI h0 (by omega) (by omega) cfr.rf i0⟩
    | false =>
      rw [hd] at d1 d2
      obtain ⟨b1, u1, r1, Q1, g1, g2, g3, g4⟩ := down_both h0 hc (by omega)
      obtain ⟨μ2, u2, r2, Q2, k1, k2, k3, k4, k5⟩ := went_1 (BR_pt (μ := μ) g3) (by omega)
      refine ⟨1, μ2, u2, ?_, ?_, Rl.mk hI k3 (by omega) (by omega) (cfr.pt.tr k4) ((i0.tr g4).tr k5)⟩
      · rw [eX9_down, lfq rfl rfl c1 rfl, g_ci_some, if_neg (by decide), lfq rfl rfl d1 rfl, g_ci_some, if_pos (by rfl), lf0 rfl rfl g1 rfl, g_cv_some, k1, g_ci_some, g01_1, if_pos rfl]
      · rw [eX10_down, c2, g_ci_some, if_neg (by decide), d2, g_ci_some, if_pos (by rfl), g2, k2, g_cv_some]
theorem ok_up (a0 : Int32) : okc mX9_up mX10_up [.int a0] := by
  intro k μ u hk hR
  obtain ⟨⟨n, a, r, p, t, Q, B, h, ht, hB⟩, hI⟩ := hR
  obtain ⟨h0, i0⟩ := told0 h
  obtain ⟨hw, hs⟩ := BR_iff.mp h0
  have hp := hw.A.p32
  rcases col_both (x := a0) hw with ⟨c1, c2⟩ | ⟨c, hc, rfl, c1, c2⟩
  · exact ⟨0, μ, _, by rw [eX9_up, lfq rfl rfl c1 rfl, g_ci_some, if_pos rfl], by rw [eX10_up, c2, g_ci_some, if_pos rfl], Rl.mk hI h0 (by omega) (by omega) cfr.rf i0⟩
  · obtain ⟨d1, d2⟩ := dn_both hw (show c < 32 by omega)
    cases hd : bt (μ.1 0 13) c with
    | false =>
      rw [hd] at d1 d2
      exact ⟨0, μ, _, by rw [eX9_up, lfq rfl rfl c1 rfl, g_ci_some, if_neg (by decide), lfq rfl rfl d1 rfl, g_ci_some, if_pos (by rfl)], by rw [eX10_up, c2, g_ci_some, if_neg (by decide), d2, g_ci_some, if_pos (by rfl)], Rl.mk hI h0 (by omega) (by omega) cfr.rf i0⟩
    | true =>
      rw [hd] at d1 d2
      have hrel := dn_rel (D := μ.1 0 13 &&& (((1 : Int32) <<< (nI c &&& 31)) ^^^ (-1))) hw (fun j hj h2 => by
        have y6 := (ip_yes (hw.P.1 j hj) h2).2.2.2.2
        rw [b_z] at *
        intro d hd
        have := y6 d hd
        rw [b_and] at *
        rw [b_and]
        cases z : bt (μ.1 0 13) d with
        | false => rfl
        | true => rw [z] at this; rw [show bt (bl μ j) d = false from by simpa using this]; simp) (fun d hd hb => by
        rw [b_and, Bool.and_eq_true] at hb
        exact hw.D d hd hb.1)
      have hBR : BR (gwI μ 0 13 (μ.1 0 13 &&& (((1 : Int32) <<< (nI c &&& 31)) ^^^ (-1)))) (wH (gwI u 0 0 0) 14 (μ.1 0 13 &&& (((1 : Int32) <<< (nI c &&& 31)) ^^^ (-1)))) n a r p t Q B := BR_iff.mpr ⟨hrel, fun s hs' => hs.1 s hs', fun j hj => hs.2 j hj⟩
      obtain ⟨μ2, u2, r2, Q2, k1, k2, k3, k4, k5⟩ := went_1 hBR (by omega)
      refine ⟨1, μ2, u2, ?_, ?_, Rl.mk hI k3 (by omega) (by omega) ((cfr.w (by omega)).tr k4) ((i0.tr ⟨fun c i hc => wH_c (by omega), wH_c (by omega), fun _ _ _ => rfl⟩).tr k5)⟩
      · rw [eX9_up, lfq rfl rfl c1 rfl, g_ci_some, if_neg (by decide), lfq rfl rfl d1 rfl, g_ci_some, if_neg (by decide), k1, g_ci_some, g01_1, if_pos rfl]
      · rw [eX10_up, c2, g_ci_some, if_neg (by decide), d2, g_ci_some, if_neg (by decide), hw.e.h.d, show mX10_goesOn [.ref 0] (gwI (gwI u 0 0 0) 1 14 (μ.1 0 13 &&& (((1 : Int32) <<< (nI c &&& 31)) ^^^ (-1)))) = _ from k2, g_cv_some]
end CALL3
