/-! jobs that are through; those held by them -/
section ENDS
variable {b u b' u' : gMem} {n a r p t B : Nat} {Q : List Nat}
theorem flt {j : Nat} (h : j ∉ Q) : Q.filter (fun x => decide (x ≠ j)) = Q := by
  rw [List.filter_eq_self]
  intro x hx
  exact decide_eq_true (fun z => h (z ▸ hx))
theorem c_takeOut {j : Nat} (h : BW b u n a r p t Q B) (hj : j < n) : ∃ b1, mX2_takeOut [.ref 0, .int (nI j)] b = some (none, b1) ∧ b1.2 = b.2 ∧ (∀ c i, c ∉ [12, 13, 32] → b1.1 c i = b.1 c i) ∧ (∀ i, b1.1 12 i = if i = j then -1 else b.1 12 i) ∧ (∀ i, b1.1 13 i = if i = j then -1 else b.1 13 i) ∧ (∀ s, s < r → b1.1 32 s = if b.1 12 j = nI s then b.1 32 s &&& (bl b j ^^^ (-1)) else b.1 32 s) := by
  have hn := h.A.n60
  have hr := h.A.2.2.2.2.1
  have hp := h.A.p32
  have tl : ∀ ν : gMem, (∀ i, (gwI (gwI ν 12 j (-1)) 13 j (-1)).1 12 i = if i = j then -1 else ν.1 12 i) ∧ (∀ i, (gwI (gwI ν 12 j (-1)) 13 j (-1)).1 13 i = if i = j then -1 else ν.1 13 i) ∧ ∀ c i, c ∉ [12, 13] → (gwI (gwI ν 12 j (-1)) 13 j (-1)).1 c i = ν.1 c i := fun ν => by
    refine ⟨fun i => ?_, fun i => ?_, fun c i hc => ?_⟩
    · rw [gI_r, if_neg (by omega), gI_r]
      by_cases z : i = j
      · rw [if_pos ⟨rfl, z⟩, if_pos z]
      · rw [if_neg (fun y => z y.2), if_neg z]
    · rw [gI_r]
      by_cases z : i = j
      · rw [if_pos ⟨rfl, z⟩, if_pos z]
      · rw [if_neg (fun y => z y.2), if_neg z, gI_r, if_neg (by omega)]
    · simp only [List.mem_cons, not_or, List.not_mem_nil] at hc
      rw [gI_r, if_neg (by omega), gI_r, if_neg (by omega)]
  rw [eX2_takeOut, gin (show j < 60 by omega) (by omega), if_pos rfl, tn (show j < 2147483648 by omega), eX7_has]
  by_cases q : b.1 9 j = 2
  · obtain ⟨⟨y1, y2⟩, y3, y4, y5, y6⟩ := ip_yes (h.P.1 j hj) q
    obtain ⟨t1, t2, t3⟩ := tl (gwI b 32 (jn b 12 j) (b.1 32 (jn b 12 j) &&& (bl b j ^^^ (-1))))
    refine ⟨gwI (gwI (gwI b 32 (jn b 12 j) (b.1 32 (jn b 12 j) &&& (bl b j ^^^ (-1)))) 12 j (-1)) 13 j (-1), ?_, rfl, fun c i hc => ?_, fun i => ?_, fun i => ?_, fun s hs => ?_⟩
    · rw [y1, if_neg (nneg (by omega)), h.A.2.2.1, if_neg (nI_ge (by omega) (by omega)), g_ci_some, if_neg (by decide), gin (show jn b 12 j < 8 by omega) (by omega), if_pos rfl, c_block (by omega) (h.J j hj) (ip_col (h.P.1 j hj) q) (ip_c32 hp.2 (h.J j hj) (h.P.1 j hj) q), g_ci_some, if_pos rfl, if_pos rfl, if_pos rfl, tn (show jn b 12 j < 2147483648 by omega)]
    · simp only [List.mem_cons, not_or, List.not_mem_nil] at hc
      rw [t3 c i (by simp; omega), gI_r, if_neg (by omega)]
    · exact t1 i
    · exact t2 i
    · rw [t3 32 s (by decide), gI_r]
      by_cases z : s = jn b 12 j
      · rw [if_pos ⟨rfl, z⟩, if_pos (by rw [z]; exact y1), z]
      · rw [if_neg (fun y => z y.2), if_neg (fun y => z (by rw [y1, neq (by omega) (by omega)] at y; exact y.symm))]
  · have hno := (ip_no (h.P.1 j hj) q).1
    obtain ⟨t1, t2, t3⟩ := tl b
    refine ⟨gwI (gwI b 12 j (-1)) 13 j (-1), ?_, rfl, fun c i hc => ?_, t1, t2, fun s hs => ?_⟩
    · rw [hno, if_pos (by decide), g_ci_some, if_pos rfl, if_pos rfl, if_pos rfl]
    · simp only [List.mem_cons, not_or, List.not_mem_nil] at hc
      exact t3 c i (by simp; omega)
    · rw [hno, if_neg (fun z => nm1 (show s < 2147483648 by omega) z.symm), t3 32 s (by decide)]
theorem ends_loop : ∀ k j, j + k = n → ∀ (μ ν : gMem) (d B : Nat), BW μ ν n a r p t Q B → B + k ≤ 1000000000 → (∀ x, x < j → ¬ (μ.1 9 x = 2 ∧ μ.1 10 x = 0)) → ∃ (μ' ν' : gMem) (d' : Nat), rX2_endJobs_4 (nI d) (nI j) μ = g_cv (mX2_dropEmpty [.ref 0] μ') (fun u1 => some (some (.int (nI d')), u1)) ∧ rX10_ends_4 (nI d) (nI j) ν = g_cv (mX10_closes [.ref 0] ν') (fun u1 => rX10_ends_89 (nI d') 0 u1) ∧ BW μ' ν' n a r p t Q (B + k) ∧ (∀ x, x < n → ¬ (μ'.1 9 x = 2 ∧ μ'.1 10 x = 0)) ∧ (∀ x, μ'.1 10 x = μ.1 10 x) ∧ im ν ν' ∧ (∀ x, n ≤ x → μ'.1 9 x = μ.1 9 x) ∧ d' + cB (fun x => decide (μ.1 9 x = 3)) n = d + cB (fun x => decide (μ'.1 9 x = 3)) n ∧ (∀ x, μ'.1 9 x = μ.1 9 x ∨ (μ.1 9 x = 2 ∧ μ'.1 9 x = 3)) ∧ d' ≤ d + k := by
  intro k
  induction k with
  | zero =>
    intro j hj μ ν d B h h9 hd
    have : j = n := by omega
    subst this
    have hn := h.A.n60
    refine ⟨μ, ν, d, ?_, ?_, h, hd, fun _ => rfl, im.rf, fun _ _ => rfl, rfl, fun _ => Or.inl rfl, by omega⟩
    · rw [eX2_endJobs_4, h.A.1, if_pos (nI_le (Nat.le_refl _) (by omega))]
    · rw [eX10_ends_4, h.e.h.n, h.A.1, if_pos (nI_le (Nat.le_refl _) (by omega))]
  | succ k ih =>
    intro j hj μ ν d B h h9 hd
    have hn := h.A.n60
    have hjn : j < n := by omega
    have hJ := h.J j hjn
    have hE := h.e.j hjn
    have l5 := hJ.2.2.2.2.1
    have skip : ¬ (μ.1 9 j = 2 ∧ μ.1 10 j = 0) → ∃ (μ' ν' : gMem) (d' : Nat), rX2_endJobs_4 (nI d) (nI (j + 1)) μ = g_cv (mX2_dropEmpty [.ref 0] μ') (fun u1 => some (some (.int (nI d')), u1)) ∧ rX10_ends_4 (nI d) (nI (j + 1)) ν = g_cv (mX10_closes [.ref 0] ν') (fun u1 => rX10_ends_89 (nI d') 0 u1) ∧ BW μ' ν' n a r p t Q (B + (k + 1)) ∧ (∀ x, x < n → ¬ (μ'.1 9 x = 2 ∧ μ'.1 10 x = 0)) ∧ (∀ x, μ'.1 10 x = μ.1 10 x) ∧ im ν ν' ∧ (∀ x, n ≤ x → μ'.1 9 x = μ.1 9 x) ∧ d' + cB (fun x => decide (μ.1 9 x = 3)) n = d + cB (fun x => decide (μ'.1 9 x = 3)) n ∧ (∀ x, μ'.1 9 x = μ.1 9 x ∨ (μ.1 9 x = 2 ∧ μ'.1 9 x = 3)) ∧ d' ≤ d + (k + 1) := fun q => by
      obtain ⟨μ', ν', d', g1, g2, g3, g4, g5, g6, g7, g8, g9, g10⟩ := ih (j + 1) (by omega) μ ν d B h (by omega) (fun x hx => by
        by_cases z : x = j
        · rw [z]; exact q
        · exact hd x (by omega))
      exact ⟨μ', ν', d', g1, g2, g3.mono (by omega) (by omega), g4, g5, g6, g7, g8, g9, by omega⟩
    rw [eX2_endJobs_4, h.A.1, if_neg (nI_ge (by omega) (by omega)), c_isPlaced h.A hjn, g_ci_some, eX10_ends_4, h.e.h.n, h.A.1, if_neg (nI_ge (by omega) (by omega)), m_isPlaced h.e hjn hn, g_ci_some, nI_1]
    by_cases q : μ.1 9 j = 2
    · rw [if_pos q, if_neg (show ¬ (1 : Int32) = 0 by decide), gin (show j < 60 by omega) (by omega), if_pos rfl, tn (show j < 2147483648 by omega), if_neg (show ¬ (1 : Int32) = 0 by decide), at_5 (by omega), g_ci_some, hE.f5]
      by_cases q2 : μ.1 10 j = 0
      · obtain ⟨x, hx, hxB⟩ := h.B.2.2.1
        have hB9 := h.B.2.2.2.2
        have hux : ν.1 1 15 = nI x := h.e.1.2.1.2.2.2.2.2.1.trans hx
        have h1 := log_rel (wh := 3) (j := nI j) (s := μ.1 12 j) (c := μ.1 13 j) h hx hxB (by omega)
        obtain ⟨b1, c1, c2, c3, c4, c5, c6⟩ := c_takeOut h1 hjn
        have hjQ : j ∉ Q := fun z => by have := (Q_mem h z).2; rw [q] at this; exact absurd this (by decide)
        have hfl := flt hjQ
        have hb9 : ∀ i, (gwI (gwI b1 9 j 3) 20 j ((gwI b1 9 j 3).1 0 12)).1 9 i = if i = j then 3 else μ.1 9 i := fun i => by
          rw [gI_r, if_neg (by omega), gI_r]
          by_cases z : i = j
          · rw [if_pos ⟨rfl, z⟩, if_pos z]
          · rw [if_neg (fun y => z y.2), if_neg z, c3 9 i (by decide), lgB_c (by decide)]
        have h12e : b1.1 0 12 = μ.1 0 12 := (c3 0 12 (by decide)).trans (lgB_c (by decide))
        have hrel := end_rel (b' := gwI (gwI b1 9 j 3) 20 j ((gwI b1 9 j 3).1 0 12)) (st := 3) h1 hjn (Or.inl rfl) (fun c i hc => by
            simp only [List.mem_cons, not_or, List.not_mem_nil] at hc
            rw [gI_r, if_neg (by omega), gI_r, if_neg (by omega)]; exact c3 c i (by simp; omega)) c2 (by rw [gI_r, if_neg (by omega), gI_r, if_neg (by omega)]; exact c3 3 2 (by decide)) (by rw [hfl, gI_r, if_neg (by omega), gI_r, if_neg (by omega), c3 3 3 (by decide)]; exact h1.Q.1) (by
            rw [hfl]; intro i hi; rw [gI_r, if_neg (by omega), gI_r, if_neg (by omega), c3 24 i (by decide)]; exact h1.Q.2.2.1 i hi) (fun i => by rw [hb9]; by_cases z : i = j <;> simp [z, lgB_c]) (fun i => by rw [gI_r, if_neg (by omega), gI_r, if_neg (by omega)]; exact c4 i) (fun i => by rw [gI_r, if_neg (by omega), gI_r, if_neg (by omega)]; exact c5 i) (fun i => by
            rw [gI_r]
            by_cases z : i = j
            · rw [if_pos ⟨rfl, z⟩, if_pos z, gI_r, if_neg (by omega), c3 0 12 (by decide)]
            · rw [if_neg (fun y => z y.2), if_neg z, gI_r, if_neg (by omega)]; exact c3 20 i (by decide)) (fun s hs => by rw [gI_r, if_neg (by omega), gI_r, if_neg (by omega)]; exact c6 s hs)
        rw [hfl] at hrel
        have hL10 : ∀ i, (gwI (gwI b1 9 j 3) 20 j ((gwI b1 9 j 3).1 0 12)).1 10 i = μ.1 10 i := fun i => by
          rw [gI_r, if_neg (by omega), gI_r, if_neg (by omega), c3 10 i (by decide), lgB_c (by decide)]
        obtain ⟨μ', ν', d', g1, g2, g3, g4, g5, g6, g7, g8, g9, g10⟩ := ih (j + 1) (by omega) _ _ (d + 1) (B + 1) hrel (by omega) (fun x hx => by
          rw [hb9, hL10]
          by_cases z : x = j
          · rw [if_pos z]; exact fun y => absurd y.1 (by decide)
          · rw [if_neg z]; exact hd x (by omega))
        have hcnt : cB (fun x => decide ((gwI (gwI b1 9 j 3) 20 j ((gwI b1 9 j 3).1 0 12)).1 9 x = 3)) n = cB (fun x => decide (μ.1 9 x = 3)) n + 1 := cB_off hjn (by rw [hb9, if_pos rfl]; rfl) (by rw [q]; rfl) (fun x hx hxj => by rw [hb9, if_neg hxj])
        refine ⟨μ', ν', d', ?_, ?_, g3.mono (by omega) (by omega), g4, fun x => (g5 x).trans (hL10 x), ?_, fun x hx => ?_, by omega, fun x => ?_, by omega⟩
        · rw [if_pos q2, c_note hx (by omega) (by omega), g_cv_some, c1, g_cv_some, if_pos rfl, if_pos rfl, nI_1]; exact g1
        · rw [if_pos (by rw [q2]; decide), m_slotOf h.e hjn hn, g_ci_some, m_columnOf h.e hjn hn, g_ci_some, m_writes hux (by omega), g_cv_some, eX10_isNowhere, lay_4 (by omega), g_cv_some, lay_7 (by omega), g_cv_some, lay_8 (by omega), g_cv_some, g_cv_some, lay_15 (by omega), g_cv_some, wA_h (by omega), wA_h (by omega), wA_h (by omega), h1.e.h.t, nI_1]
          exact g2
        · refine im.tr ⟨fun c i hc => ?_, ?_, fun c i hc => ?_⟩ g6
          · rw [wA_c (by omega), wA_c (by omega), wA_c (by omega), wA_c (by omega), lg_c (by omega)]
          · rw [wA_c (by omega), wA_c (by omega), wA_c (by omega), wA_c (by omega), lg_c (by omega)]
          · rfl
        · rw [g7 x hx, hb9, if_neg (by omega)]
        · have hz := g9 x
          rw [hb9] at hz
          by_cases z : x = j
          · rw [if_pos z] at hz
            rcases hz with hz | hz
            · exact Or.inr ⟨by rw [z]; exact q, hz⟩
            · exact absurd hz.1 (by decide)
          · rw [if_neg z] at hz; exact hz
      · have hne : jn μ 10 j ≠ 0 := fun z => q2 (by rw [l5.1, z]; rfl)
        rw [if_neg q2, l5.1, if_neg (show ¬ nI (jn μ 10 j) ≤ 0 from nI_ge (a := 0) (b := jn μ 10 j) (by omega) (by omega))]
        exact skip (fun z => q2 z.2)
    · rw [if_neg q, if_pos rfl, if_pos rfl]
      exact skip (fun z => q z.1)
end ENDS
