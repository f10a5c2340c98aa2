section WAKE
variable {b u b' u' : gMem} {n a r p t B : Nat} {Q : List Nat}
def liU (u : gMem) (j : Nat) : gMem := wH (wA (wA (wA (wA u j 4 1) j 7 0) j 8 0) j 19 (u.1 1 17)) 17 (u.1 1 17 + 1)
theorem line_rel {j : Nat} (h : BW b u n a r p t Q B) (h9 : B + 1 ≤ 1000000000) (hj : j < n) (hjQ : b.1 9 j ≠ 1) (h10 : 1 ≤ jn b 10 j) (h20 : b.1 20 j = -1) (H1 : ∀ c i, c ∉ [3, 24, 9, 12, 13, 32] → b'.1 c i = b.1 c i) (H2 : b'.2 = b.2) (H3 : b'.1 3 2 = b.1 3 2) (H4 : b'.1 3 3 = nI (Q.length + 1)) (H5 : arr b' 24 (Q ++ [j])) (H6 : ∀ i, b'.1 9 i = if i = j then 1 else b.1 9 i) (H7 : ∀ i, b'.1 12 i = if i = j then -1 else b.1 12 i) (H8 : ∀ i, b'.1 13 i = if i = j then -1 else b.1 13 i) (H9 : ∀ s, s < r → b'.1 32 s = if b.1 12 j = nI s then b.1 32 s &&& (bl b j ^^^ (-1)) else b.1 32 s) : BW b' (liU u j) n a r p t (Q ++ [j]) (B + 1) := by
  have hn := h.A.n60
  have hr := h.A.2.2.2.2.1
  have hag : ∀ S : List Nat, (∀ c ∈ S, c ∉ [3, 24, 9, 12, 13, 32]) → ag S b b' := fun S hS c h1 i => H1 c i (hS c h1)
  have hjm : j ∉ Q := fun z => hjQ (Q_mem h z).2
  have hlen : Q.length + 1 ≤ n := by
    have := nodup_le (L := j :: Q) (M := List.range n) (List.nodup_cons.mpr ⟨hjm, h.Q.2.2.2.1⟩) (fun x hx => by
      rw [List.mem_cons] at hx
      rcases hx with hx | hx
      · rw [hx]; exact List.mem_range.mpr hj
      · exact List.mem_range.mpr (Q_mem h hx).1)
    simpa using this
  have hne : ∀ i, i ≠ j → ∀ k, k ≠ 3 → k ≠ 24 → k ≠ 32 → b'.1 k i = b.1 k i := by
    intro i hi k k1 k2 k3
    by_cases q : k ∈ [3, 24, 9, 12, 13, 32]
    · simp only [List.mem_cons, List.not_mem_nil] at q
      rcases q with q | q | q | q | q | q | q
      · omega
      · omega
      · subst q; rw [H6, if_neg hi]
      · subst q; rw [H7, if_neg hi]
      · subst q; rw [H8, if_neg hi]
      · omega
      · exact absurd q (by simp)
    · exact H1 k i q
  have hbl : ∀ i, i ≠ j → bl b' i = bl b i := fun i hi => bl_fi (fun k hk => hne i hi k (by simp at hk; omega) (by simp at hk; omega) (by simp at hk; omega))
  have hU : ∀ i, (i < 42 ∨ 1242 ≤ i) → i ≠ 17 → (liU u j).1 1 i = u.1 1 i := fun i hi h2 => by
    unfold liU wH wA; rw [gI_r, if_neg (by omega), gI_r, if_neg (by omega), gI_r, if_neg (by omega), gI_r, if_neg (by omega), gI_r, if_neg (by omega)]
  have hA : ∀ i w, i < 60 → w < 20 → mA (liU u j) i w = if i = j ∧ w = 19 then u.1 1 17 else if i = j ∧ w = 8 then 0 else if i = j ∧ w = 7 then 0 else if i = j ∧ w = 4 then 1 else mA u i w := fun i w hi hw => by
    unfold liU
    rw [mA_wH hi hw (by omega), mA_wA hi hw (by omega) (by omega), mA_wA hi hw (by omega) (by omega), mA_wA hi hw (by omega) (by omega), mA_wA hi hw (by omega) (by omega)]
  refine mk_rel h (Nat.le_succ B) h9 (fun c i hc => H1 c i (by simp at hc ⊢; omega)) H3 (fun i hi => hU i (by omega) (by omega)) (fun k hk => by rw [hU _ (by omega) (by omega), H1 2 k (by decide)]; exact h.e.1.2.2.1 k hk) (by rw [hU _ (by omega) (by omega)]; exact h.e.h.r.trans h.A.2.2.1) (by rw [H1 29 3 (by decide)]; exact h.A.2.2.1) hr ?_ ?_ ?_ ⟨?_, ?_⟩ (out_IS h hj H7 H8 (fun i => H1 14 i (by decide)) H9) ?_
  · intro i hi
    obtain ⟨e0, e1, e2, e3, e4, e5, e6, e7, e8, e9, e10, e11, e12, e13, e14, e15, e16, e17, e18⟩ := h.e.2.1 i hi
    have hz : (-1 : Int32) + 1 = 0 := by decide
    unfold EJ1
    simp (disch := omega) only [hA]
    simp (disch := decide) only [H1, H6, H7, H8]
    by_cases q : i = j
    · subst q; simp [e0, e1, e2, e3, e5, e6, e9, e10, e11, e12, e13, e14, e15, e16, e17, e18, hz]
    · simp [q, e0, e1, e2, e3, e4, e5, e6, e7, e8, e9, e10, e11, e12, e13, e14, e15, e16, e17, e18]
  · exact h.e.2.2.2.1.fr hr (hag _ (by decide)) (fun i h1 h2 => hU i (by omega) (by omega)) (fun s _ => by rw [H2]) (fun _ _ => rfl)
  · intro i hi
    by_cases q : i = j
    · subst q
      obtain ⟨j1, j2, j3, j4, j5, j6, j7, j8⟩ := h.J i hi
      unfold IJ1 jn at *
      simp (disch := decide) only [H1, H6, if_pos]
      exact ⟨j1, j2, j3, ⟨by decide, by decide, fun y => absurd y (by decide)⟩, ⟨j5.1, j5.2.1, j5.2.2.1, j5.2.2.2.1, fun _ => h10, fun _ => h20⟩, j6, j7, j8⟩
    · exact (h.J i hi).fi (fun k hk => hne i q k (by simp at hk; omega) (by simp at hk; omega) (by simp at hk; omega))
  · intro i hi
    by_cases q : i = j
    · subst q; exact Or.inr ⟨by rw [H6, if_pos rfl]; decide, by rw [H7, if_pos rfl], by rw [H8, if_pos rfl]⟩
    · exact (h.P.1 i hi).fi (fun k hk => hne i q k (by simp at hk; omega) (by simp at hk; omega) (by simp at hk; omega)) (H1 0 13 (by decide))
  · intro i k hi hk hik h9 h12
    have hij : i ≠ j := fun z => by rw [z, H6, if_pos rfl] at h9; exact absurd h9 (by decide)
    rw [H6, if_neg hij] at h9
    rw [H7, if_neg hij] at h12
    have hkj : k ≠ j := fun z => by
      rw [z, H7, if_pos rfl] at h12
      obtain ⟨y, -⟩ := ip_yes (h.P.1 i hi) h9
      rw [y.1] at h12
      exact nm1 (by omega) h12
    rw [H7, if_neg hkj] at h12
    rw [hbl i hij, hbl k hkj]
    exact h.P.2 i k hi hk hik h9 h12
  · obtain ⟨q1, q2, q3, q4, q5, ⟨cm, q6, q7, q8⟩, q9⟩ := h.Q
    have hB := h.B.2.2.2.2
    have hm60 : ∀ x, x ∈ Q → x < 60 ∧ x ≠ j := fun x hx => ⟨by have := ((q5 x).mp hx).1; omega, fun z => hjm (z ▸ hx)⟩
    have h19 : ∀ x, x ∈ Q → mA (liU u j) x 19 = mA u x 19 := fun x hx => by
      rw [hA x 19 (hm60 x hx).1 (by omega), if_neg (fun z => (hm60 x hx).2 z.1), if_neg (by omega), if_neg (by omega), if_neg (by omega)]
    have hj19 : ∀ x, x ∈ Q → jn (liU u j) 1 (42 + 20 * x + 19) = jn u 1 (42 + 20 * x + 19) := fun x hx => congrArg Int32.toNatClampNeg (h19 x hx)
    have e19 : mA (liU u j) j 19 = nI cm := by rw [hA j 19 (by omega) (by omega), if_pos ⟨rfl, rfl⟩]; exact q6
    have ej : jn (liU u j) 1 (42 + 20 * j + 19) = cm := by
      show (mA (liU u j) j 19).toNatClampNeg = cm
      rw [e19, tn (by omega)]
    refine ⟨by rw [List.length_append]; exact H4, by simp; omega, H5, ?_, fun x => ?_, ⟨cm + 1, ?_, by omega, fun x hx => ?_⟩, ?_⟩
    · rw [List.nodup_append]
      exact ⟨q4, by simp, fun x hx y hy z => by simp at hy; exact (hm60 x hx).2 (z.trans hy)⟩
    · rw [List.mem_append, q5, List.mem_singleton, H6]
      by_cases q : x = j
      · subst q; simp [hj]
      · simp [q]
    · unfold liU; rw [wH_h, if_pos rfl, q6, nI_1]
    · rw [List.mem_append, List.mem_singleton] at hx
      rcases hx with hx | hx
      · have := q8 x hx
        rw [h19 x hx, hj19 x hx]
        exact ⟨this.1, by omega⟩
      · subst hx; rw [ej]; exact ⟨e19, by omega⟩
    · rw [List.pairwise_append]
      refine ⟨q9.imp_of_mem (fun {x y} hx hy hxy => by rw [hj19 x hx, hj19 y hy]; exact hxy), by simp, fun x hx y hy => ?_⟩
      rw [List.mem_singleton] at hy
      subst hy
      rw [ej, hj19 x hx]
      exact (q8 x hx).2
theorem wake_loop {d : Int32} : ∀ k j, j + k = n → ∀ (μ ν : gMem) (Q : List Nat) (B : Nat), BW μ ν n a r p t Q B → B + k ≤ 1000000000 → ∃ (μ' ν' : gMem) (Q' : List Nat), rX2_wakeHeld_2 (nI j) μ = some (none, μ') ∧ rX10_ends_89 d (nI j) ν = some (some (.int d), ν') ∧ BW μ' ν' n a r p t Q' (B + k) ∧ im ν ν' ∧ (∀ c i, c ∉ [3, 24, 9] → μ'.1 c i = μ.1 c i) ∧ (∀ x, μ'.1 9 x = μ.1 9 x ∨ (μ.1 9 x = 0 ∧ μ'.1 9 x = 1)) := by
  intro k
  induction k with
  | zero =>
    intro j hj μ ν Q B h h9
    have : j = n := by omega
    subst this
    have hn := h.A.n60
    refine ⟨μ, ν, Q, ?_, ?_, h, im.rf, fun _ _ _ => rfl, fun _ => Or.inl rfl⟩
    · rw [eX2_wakeHeld_2, h.A.1, if_pos (nI_le (Nat.le_refl _) (by omega))]
    · rw [eX10_ends_89, h.e.h.n, h.A.1, if_pos (nI_le (Nat.le_refl _) (by omega))]
  | succ k ih =>
    intro j hj μ ν Q B h h9
    have hn := h.A.n60
    have hjn : j < n := by omega
    have hJ := h.J j hjn
    have hE := h.e.j hjn
    have skip : ∃ (μ' ν' : gMem) (Q' : List Nat), rX2_wakeHeld_2 (nI (j + 1)) μ = some (none, μ') ∧ rX10_ends_89 d (nI (j + 1)) ν = some (some (.int d), ν') ∧ BW μ' ν' n a r p t Q' (B + (k + 1)) ∧ im ν ν' ∧ (∀ c i, c ∉ [3, 24, 9] → μ'.1 c i = μ.1 c i) ∧ (∀ x, μ'.1 9 x = μ.1 9 x ∨ (μ.1 9 x = 0 ∧ μ'.1 9 x = 1)) := by
      obtain ⟨μ', ν', Q', g1, g2, g3, g4⟩ := ih (j + 1) (by omega) μ ν Q B h (by omega)
      exact ⟨μ', ν', Q', g1, g2, g3.mono (by omega) (by omega), g4⟩
    rw [eX2_wakeHeld_2, h.A.1, if_neg (nI_ge (by omega) (by omega)), c_state (by omega), g_ci_some, eX10_ends_89, h.e.h.n, h.A.1, if_neg (nI_ge (by omega) (by omega)), at_4 (by omega), g_ci_some, hE.f4, nI_1]
    by_cases q : μ.1 9 j = 0
    · have q0 : jn μ 9 j = 0 := by unfold jn; rw [q]; rfl
      obtain ⟨f1, f2⟩ := hJ.2.2.2.1.2.2 q0
      have hfn : jn μ 8 j < n := by omega
      rw [if_pos q, if_pos q, gin (show j < 60 by omega) (by omega), if_pos rfl, tn (show j < 2147483648 by omega), f1, eX2_isOver, c_has h.A hfn, g_ci_some, if_neg (by decide), c_state (by omega), g_ci_some, at_3 (by omega), g_ci_some, hE.f3, f1, i_sn, at_4 (by omega), g_ci_some, (h.e.j hfn).f4]
      by_cases q2 : μ.1 9 (jn μ 8 j) = 3
      · have hq9 : μ.1 9 j ≠ 2 := by rw [q]; decide
        obtain ⟨n1, n2⟩ := ip_no (h.P.1 j hjn) hq9
        have m7 : mA ν j 7 = 0 := by rw [hE.f7, n1]; decide
        have m8 : mA ν j 8 = 0 := by rw [hE.f8, n2]; decide
        have hjm : j ∉ Q := fun z => by have := (Q_mem h z).2; rw [q] at this; exact absurd this (by decide)
        have hlen : Q.length + 1 ≤ n := by
          have := nodup_le (L := j :: Q) (M := List.range n) (List.nodup_cons.mpr ⟨hjm, h.Q.2.2.2.1⟩) (fun x hx => by
            rw [List.mem_cons] at hx
            rcases hx with hx | hx
            · rw [hx]; exact List.mem_range.mpr hjn
            · exact List.mem_range.mpr (Q_mem h hx).1)
          simpa using this
        have hr := h.A.2.2.2.2.1
        have hb9 : ∀ i, (gwI (gwI (gwI μ 9 j 1) 24 Q.length (nI j)) 3 3 (nI (Q.length + 1))).1 9 i = if i = j then 1 else μ.1 9 i := fun i => by
          rw [gI_r, if_neg (by omega), gI_r, if_neg (by omega), gI_r]
          by_cases z : i = j
          · rw [if_pos ⟨rfl, z⟩, if_pos z]
          · rw [if_neg (fun y => z y.2), if_neg z]
        have hc : ∀ c i, c ∉ [3, 24, 9] → (gwI (gwI (gwI μ 9 j 1) 24 Q.length (nI j)) 3 3 (nI (Q.length + 1))).1 c i = μ.1 c i := fun c i hc => by
          simp only [List.mem_cons, not_or, List.not_mem_nil] at hc
          rw [gI_r, if_neg (by omega), gI_r, if_neg (by omega), gI_r, if_neg (by omega)]
        have hrel := line_rel (b' := gwI (gwI (gwI μ 9 j 1) 24 Q.length (nI j)) 3 3 (nI (Q.length + 1))) h (by omega) hjn (by rw [q]; decide) (hJ.2.2.2.2.1.2.2.2.2.1 (by omega)) (hJ.2.2.2.2.1.2.2.2.2.2 (by omega)) (fun c i hc' => hc c i (fun z => hc' (by simp at z ⊢; omega))) rfl (by rw [gI_r, if_neg (by omega), gI_r, if_neg (by omega), gI_r, if_neg (by omega)]) (by rw [gI_r, if_pos ⟨rfl, rfl⟩]) (arr_o (arr_app (arr_o h.Q.2.2.1 (by omega))) (by omega)) hb9 (fun i => by
            rw [hc 12 i (by decide)]
            by_cases z : i = j
            · rw [if_pos z, z]; exact n1
            · rw [if_neg z]) (fun i => by
            rw [hc 13 i (by decide)]
            by_cases z : i = j
            · rw [if_pos z, z]; exact n2
            · rw [if_neg z]) (fun s hs => by
            rw [hc 32 s (by decide), n1, if_neg (fun z => nm1 (show s < 2147483648 by omega) z.symm)])
        have hli : liU ν j = wH (wA (wA ν j 4 1) j 19 (ν.1 1 17)) 17 (ν.1 1 17 + 1) := by
          unfold liU
          have e7 : wA (wA ν j 4 1) j 7 0 = wA ν j 4 1 := gwI_id (show mA (wA ν j 4 1) j 7 = 0 from by rw [mA_wA (by omega) (by omega) (by omega) (by omega), if_neg (by omega)]; exact m7)
          have e8 : wA (wA ν j 4 1) j 8 0 = wA ν j 4 1 := gwI_id (show mA (wA ν j 4 1) j 8 = 0 from by rw [mA_wA (by omega) (by omega) (by omega) (by omega), if_neg (by omega)]; exact m8)
          rw [e7, e8]
        rw [hli] at hrel
        obtain ⟨μ', ν', Q', g1, g2, g3, g4, g5, g6⟩ := ih (j + 1) (by omega) _ _ _ _ hrel (by omega)
        refine ⟨μ', ν', Q', ?_, ?_, g3.mono (by omega) (by omega), ?_, fun c i hc' => (g5 c i hc').trans (hc c i hc'), fun x => ?_⟩
        · rw [if_pos q2, g_ci_some, if_neg (by decide), c_toLine h.Q.1 (by omega) (by omega), g_cv_some]; exact g1
        · rw [if_pos q2, m_waits (by omega), g_cv_some]; exact g2
        · have k4 : im ν (wH (wA (wA ν j 4 1) j 19 (ν.1 1 17)) 17 (ν.1 1 17 + 1)) := ⟨fun c i hc => by rw [wH_c (by omega), wA_c (by omega), wA_c (by omega)], by rw [wH_c (by omega), wA_c (by omega), wA_c (by omega)], fun c i hc => rfl⟩
          exact k4.tr g4
        · have hz := g6 x
          rw [hb9] at hz
          by_cases z : x = j
          · rw [if_pos z] at hz
            rcases hz with hz | hz
            · exact Or.inr ⟨by rw [z]; exact q, hz⟩
            · exact absurd hz.1 (by decide)
          · rw [if_neg z] at hz; exact hz
      · rw [if_neg q2, g_ci_some, if_pos rfl, if_neg q2]; exact skip
    · rw [if_neg q, if_neg q]; exact skip
end WAKE
