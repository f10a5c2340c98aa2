section GOON2
variable {b u : gMem} {n a r p t B : Nat} {Q : List Nat}
theorem min_e {x y : Nat} {u : gMem} (hx : x < 2147483648) (hy : y < 2147483648) : mJ9_min_7cf53 [.int (nI x), .int (nI y)] u = some (some (.int (nI (min x y))), u) := by
  rw [eJ9_min_7cf53]
  by_cases q : y < x
  · rw [if_pos (nI_lt q hx), Nat.min_eq_right (by omega)]
  · rw [if_neg (nI_nlt (by omega) (by omega)), Nat.min_eq_left (by omega)]
theorem go1 {L : List Nat} (hL : L.length ≤ 60) (hnd : L.Nodup) : ∀ m k, k + m = L.length → ∀ b u r Q B, BR b u n a r p t Q B → B + m + 70 ≤ 1000000000 → od b u L → (∀ x, x ∈ L.drop k → x ∈ Q) → ∃ b' u' r' Q', rX2_goOn_21 (nI L.length) (nI k) b = some (none, b') ∧ rX10_goesOn_6 (nI k) u = some (none, u') ∧ BR b' u' n a r' p t Q' (B + m + 70) ∧ im u u' ∧ gf b b' := by
  intro m
  induction m with
  | zero =>
    intro k hk b u r Q B h h9 ho hQ
    obtain ⟨hw, h0⟩ := BR_iff.mp h
    have hbf := hw.T.2.2.2.1
    refine ⟨b, u, r, Q, ?_, ?_, BR_iff.mpr ⟨hw.mono (by omega) h9, h0⟩, im.rf, gf.rf⟩
    · rw [eX2_goOn_21, if_pos (nI_le (by omega) (by omega)), hbf.1, nI_1, nad, min_e (by omega) (by omega), g_ci_some, eX2_goOn_76, if_pos (nI_le (by omega) (by omega))]
    · rw [eX10_goesOn_6, ho.2.2, if_pos (nI_le (by omega) (by omega)), if_pos (congrArg nI (by omega))]
  | succ m ih =>
    intro k hk b u r Q B h h9 ho hQ
    obtain ⟨hw, h0⟩ := BR_iff.mp h
    have hn := hw.A.n60
    have hkQ : L[k] ∈ Q := hQ _ (drop_get (by omega))
    have hkn := (Q_mem hw hkQ).1
    obtain ⟨b1, u1, ⟨p1, p0⟩, p2, p3⟩ := place_both (wh := 1) h hkQ (by omega)
    have ho1 := ho.pf p1 p2
    rw [eX2_goOn_21, if_neg (nI_ge (a := k) (b := L.length) (by omega) (by omega)), gin (show k < 60 by omega) (by omega), if_pos rfl, tn (show k < 2147483648 by omega), ho.1 k (by omega), eX10_goesOn_6, ho.2.2, if_neg (nI_ge (a := k) (b := L.length) (by omega) (by omega)), gin (show k < 60 by omega) (by omega), if_pos rfl, tn (show k < 2147483648 by omega), ho.2.1 k (by omega)]
    rcases p3 with ⟨g1, g2, g3⟩ | ⟨r1, g1, g2, g3⟩
    · obtain ⟨hw1, h01⟩ := BR_iff.mp g3
      have hbf := hw1.T.2.2.2.1
      have hpat := hw1.T.2.2.2.2.1
      have e4 : u1.1 1 4 + 0 = nI (jn b1 1 4) := by rw [← hbf.1]; exact hw1.e.1.1.2.2.2.2.1
      have e5 : u1.1 1 5 + 10 = b1.1 1 5 := hw1.e.1.1.2.2.2.2.2.1
      have e17 : mA u1 L[k] 17 = b1.1 22 L[k] := (hw1.e.j hkn).f17
      rw [g1, g_ci_some, if_pos rfl, hbf.1, nI_1, nad, min_e (by omega) (by omega), g_ci_some, g2, g_ci_some, if_pos rfl, ho1.2.2, if_neg (by rw [neq (by omega) (by omega)]; omega), if_pos rfl, ho1.2.1 k (by omega), at_17 (by omega), g_ci_some, set_5, g_ci_some, e17, e5]
      by_cases q : b1.1 22 L[k] < b1.1 1 5
      · obtain ⟨b', u', r', Q', w1, w2, w3, w4, w5⟩ := go2 (n := n) (a := a) (p := p) (t := t) hL (show k < L.length by omega) hbf.2 hnd (60 - k) (k + 1) (by omega) (by omega) b1 u1 r Q B g3 (by omega) ho1 (fun x hx => hQ x (drop_suc hx)) hkn hbf.1 0 (Or.inl ⟨rfl, q⟩)
        obtain ⟨v1, v2⟩ := BR_iff.mp w3
        refine ⟨b', u', r', Q', w1, ?_, BR_iff.mpr ⟨v1.mono (by omega) h9, v2⟩, p2.im.tr w4, p0.tr w5⟩
        rw [if_pos q, if_pos rfl, set_4, g_ci_some, ho1.2.1 k (by omega), e4, nad]
        exact w2
      · refine ⟨b1, u1, r, Q, ?_, by rw [if_neg q], BR_iff.mpr ⟨hw1.mono (by omega) h9, h01⟩, p2.im, p0⟩
        rw [eX2_goOn_76]
        by_cases z : min L.length (k + 1 + jn b1 1 4) ≤ k + 1
        · rw [if_pos (nI_le z (by omega))]
        · rw [if_neg (nI_ge (by omega) (by omega)), gin (show k < 60 by omega) (by omega), if_pos rfl, tn (show k < 2147483648 by omega), ho1.1 k (by omega), gin (show L[k] < 60 by omega) (by omega), if_pos rfl, tn (show L[k] < 2147483648 by omega), if_pos (by grind)]
    · obtain ⟨b', u', r', Q', w1, w2, w3, w4, w5⟩ := ih (k + 1) (by omega) b1 u1 r1 _ (B + 1) g3 (by omega) ho1 (fun x hx => List.mem_filter.mpr ⟨hQ x (drop_suc hx), decide_eq_true (drop_ne hnd (by omega) hx)⟩)
      obtain ⟨v1, v2⟩ := BR_iff.mp w3
      exact ⟨b', u', r', Q', by rw [g1, g_ci_some, if_neg (by decide), nI_1, w1], by rw [g2, g_ci_some, if_neg (by decide), nI_1, w2], BR_iff.mpr ⟨v1.mono (by omega) h9, v2⟩, p2.im.tr w4, p0.tr w5⟩
theorem go_both (h : BR b u n a r p t Q B) (h9 : B + 130 ≤ 1000000000) : ∃ b' u' r' Q', mX2_goOn [.ref 0] b = some (none, b') ∧ mX10_goesOn [.ref 0] u = some (none, u') ∧ BR b' u' n a r' p t Q' (B + 130) ∧ im u u' ∧ gf b b' := by
  obtain ⟨hw, h0⟩ := BR_iff.mp h
  obtain ⟨L, u1, m1, m2, m3, m4, m5, m6⟩ := m_laysQueue hw
  have hnd : L.Nodup := m5.1.imp (fun {x y} hxy z => by subst z; omega)
  have fin : ∀ b1, bs b b1 → arr b1 56 L → ∃ b' u' r' Q', rX2_goOn_21 (nI L.length) (nI 0) b1 = some (none, b') ∧ rX10_goesOn_6 (nI 0) u1 = some (none, u') ∧ BR b' u' n a r' p t Q' (B + 130) ∧ im u u' ∧ gf b b' := by
    intro b1 hb ha
    obtain ⟨b', u', r', Q', w1, w2, w3, w4, w5⟩ := go1 (n := n) (a := a) (p := p) (t := t) m6 hnd L.length 0 (by omega) b1 u1 r Q B (BR_iff.mpr ⟨(hw.bs hb).qs m2.qs, hb.xIS0 h0⟩) (by omega) ⟨ha, m4, m3⟩ (fun x hx => (m5.2 x).mp (by simpa using hx))
    obtain ⟨v1, v2⟩ := BR_iff.mp w3
    exact ⟨b', u', r', Q', w1, w2, BR_iff.mpr ⟨v1.mono (by omega) h9, v2⟩, m2.im.tr w4, gf.tr (fun i => Or.inl (hb.c 9 i rfl)) w5⟩
  rw [eX2_goOn, eX10_goesOn, m1, g_cv_some, hw.Q.1]
  by_cases q : Q.length = 0
  · have hQ : Q = [] := List.length_eq_zero_iff.mp q
    have hL : L = [] := List.eq_nil_iff_forall_not_mem.mpr (fun x hx => by have := (m5.2 x).mp hx; rw [hQ] at this; exact absurd this (by simp))
    rw [if_pos (by rw [q]; decide)]
    subst hL
    exact fin b bs.rf (fun i hi => absurd hi (by simp))
  · have hq := hw.Q.2.1
    rw [if_neg (show ¬ nI Q.length ≤ 0 from nI_ge (a := 0) (b := Q.length) (by omega) (by omega))]
    obtain ⟨L2, b1, l1, l2, l3, l4, l5, l6⟩ := c_lineUp hw
    have := l5.uniq m5
    subst this
    rw [l1, g_ci_some]
    exact fin b1 ⟨l2, fun c i hc => l3 c i (by omega) (by omega)⟩ l4
end GOON2
