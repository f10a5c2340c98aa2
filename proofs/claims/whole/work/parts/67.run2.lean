section RUN2
variable {b u b' u' : gMem} {n a r p t B : Nat} {Q : List Nat}
theorem m_run {j k us : Nat} (hj : j < 60) (hk : k = 10 ∨ k = 11) (h2 : mA u j 2 = nI us) (hus : us < 6) : mX10_runs [.ref 0, .int (nI j), .int (nI k)] u = some (none, rnU u j k us) := by
  have e1 : mA (wA u j 5 (mA u j 5 - 1)) j k = mA u j k := by rw [mA_wA hj (by omega) hj (by omega), if_neg (by omega)]
  have e2 : ∀ w, w < 20 → w ≠ 5 → w ≠ k → mA (wA (wA u j 5 (mA u j 5 - 1)) j k (mA u j k + 1)) j w = mA u j w := fun w hw h1 h3 => by
    rw [mA_wA hj hw hj (by omega), if_neg (by omega), mA_wA hj hw hj (by omega), if_neg (by omega)]
  have e3 : (wA (wA u j 5 (mA u j 5 - 1)) j k (mA u j k + 1)).1 1 (36 + us) = u.1 1 (36 + us) := by rw [wA_h (by omega), wA_h (by omega)]
  have r7 : (rm1 u j k us).1 1 7 = u.1 1 7 := by unfold rm1; rw [wH_h, if_neg (by omega), wA_h (by omega), wA_h (by omega)]
  have r5 : mA (rm1 u j k us) j 5 = mA u j 5 - 1 := by unfold rm1; rw [mA_wH hj (by omega) (by omega), mA_wA hj (by omega) hj (by omega), if_neg (by omega), mA_wA hj (by omega) hj (by omega), if_pos ⟨rfl, rfl⟩]
  have rx : mA (rm1 u j k us) j 10 + mA (rm1 u j k us) j 11 = rmx u j k := by
    unfold rm1 rmx
    rw [mA_wH hj (by omega) (by omega), mA_wH hj (by omega) (by omega)]
    rcases hk with q | q <;> subst q
    · rw [mA_wA hj (by omega) hj (by omega), if_pos ⟨rfl, rfl⟩, e2 11 (by omega) (by omega) (by omega)]; rfl
    · rw [e2 10 (by omega) (by omega) (by omega), mA_wA hj (by omega) hj (by omega), if_pos ⟨rfl, rfl⟩]; rfl
  rw [eX10_runs, eX10_moreOf, at_5 hj, g_ci_some, lay_5 hj, g_cv_some, g_cv_some, sub1, eX10_moreOf, at_n hj (by omega), g_ci_some, lay_n hj (by omega), g_cv_some, g_cv_some, e1, at_2 hj, g_ci_some, at_0 hj, g_ci_some, e2 2 (by omega) (by omega) (by omega), e2 0 (by omega) (by omega) (by omega), h2, show (36 : Int32) + nI us = nI (36 + us) from nad 36 us, eX10_more, gin (show 36 + us < 2030 by omega) (by omega), if_pos rfl, if_pos rfl, tn (show 36 + us < 2147483648 by omega), e3, g_cv_some]
  rw [show gwI (wA (wA u j 5 (mA u j 5 - 1)) j k (mA u j k + 1)) 1 (36 + us) (u.1 1 (36 + us) + mA u j 0) = rm1 u j k us from rfl, set_7, g_ci_some, r7]
  unfold rnU
  by_cases q : u.1 1 7 + 0 ≤ 0
  · rw [if_pos q, if_neg (svc_0 (Or.inl q))]
  · have q0 : ¬ u.1 1 7 + 0 = 0 := fun z => q (by rw [z]; decide)
    rw [if_neg q, at_10 hj, g_ci_some, at_11 hj, g_ci_some, if_neg q0, rx]
    by_cases z : rmx u j k - rmx u j k / (u.1 1 7 + 0) * (u.1 1 7 + 0) = 0
    · rw [if_pos z, at_5 hj, g_ci_some, lay_6 hj, g_cv_some, r5, if_pos (svc_1 q z)]
    · rw [if_neg z, if_neg (svc_0 (Or.inr z))]
theorem IJ1_10 {j x : Nat} (hJ : IJ1 b p t j) (h2 : b.1 9 j = 2) (hx : x ≤ jn b 11 j) : IJ1 (gwI b 10 j (nI x)) p t j := by
  obtain ⟨j1, j2, j3, j4, j5, j6, j7, j8⟩ := hJ
  have e10 : (gwI b 10 j (nI x)).1 10 j = nI x := by rw [gI_r, if_pos ⟨rfl, rfl⟩]
  have h9 := j5.2.2.2.1
  unfold IJ1 jn at *
  rw [e10, tn (by omega)]
  exact ⟨j1, j2, j3, j4, ⟨rfl, j5.2.1, hx, j5.2.2.2.1, fun z => absurd (show (b.1 9 j).toNatClampNeg < 2 from z) (by rw [h2]; decide), j5.2.2.2.2.2⟩, j6, j7, j8⟩
theorem IJ1_11 {j y : Nat} (hJ : IJ1 b p t j) (hx : jn b 10 j ≤ y) (hy : y ≤ 9999) : IJ1 (gwI b 11 j (nI y)) p t j := by
  obtain ⟨j1, j2, j3, j4, j5, j6, j7, j8⟩ := hJ
  have e11 : (gwI b 11 j (nI y)).1 11 j = nI y := by rw [gI_r, if_pos ⟨rfl, rfl⟩]
  unfold IJ1 jn at *
  rw [e11, tn (by omega)]
  exact ⟨j1, j2, j3, j4, ⟨j5.1, rfl, hx, hy, j5.2.2.2.2.1, j5.2.2.2.2.2⟩, j6, j7, j8⟩
theorem IJ1_17 {j y : Nat} (hJ : IJ1 b p t j) (hy : y < 1000) : IJ1 (gwI b 17 j (nI y)) p t j := by
  obtain ⟨j1, j2, j3, j4, j5, j6, j7, j8⟩ := hJ
  have e : (gwI b 17 j (nI y)).1 17 j = nI y := by rw [gI_r, if_pos ⟨rfl, rfl⟩]
  unfold IJ1 jn at *
  rw [e, tn (by omega)]
  exact ⟨j1, j2, j3, j4, j5, j6, ⟨rfl, hy⟩, j8⟩
theorem run_rel {j k : Nat} (h : BW b u n a r p t Q B) (hj : j < n) (hk : k = 10 ∨ k = 11) (h2 : b.1 9 j = 2) (hl : b.1 10 j ≠ 0) (hsum : us6 b + 32 ≤ 1920 * t) : BW (rnB b j k (jn b 7 j)) (rnU u j k (jn b 7 j)) n a r p t Q B := by
  have hn := h.A.n60
  have hp := h.A.p32
  have hJ := h.J j hj
  have hE := h.e.j hj
  obtain ⟨s1, s2, s3⟩ := hJ.1
  obtain ⟨l1, l2, l3, l4, l5, l6⟩ := hJ.2.2.2.2.1
  have hus := hJ.2.1.2
  have hL1 : 1 ≤ jn b 10 j := by
    rcases Nat.eq_zero_or_pos (jn b 10 j) with z | z
    · rw [z] at l1; exact absurd l1 hl
    · exact z
  have eL : b.1 10 j - 1 = nI (jn b 10 j - 1) := by rw [l1, nI_s1 (by omega)]
  have eL2 : mA u j 5 - 1 = nI (jn b 10 j - 1) := by rw [hE.f5]; exact eL
  have R1 : BW (gwI b 10 j (b.1 10 j - 1)) (wA u j 5 (mA u j 5 - 1)) n a r p t Q B := by
    rw [eL, eL2]; exact jf_rel (w := 5) h hj (by decide) (IJ1_10 hJ h2 (by omega))
  have ek : mA u j k = b.1 (5 + k) j := by
    rcases hk with q | q <;> subst q
    · exact hE.f10
    · exact hE.f11
  have R2 : BW (gwI (gwI b 10 j (b.1 10 j - 1)) (5 + k) j (b.1 (5 + k) j + 1)) (wA (wA u j 5 (mA u j 5 - 1)) j k (mA u j k + 1)) n a r p t Q B := by
    rw [ek]; exact fld_rel (w := k) R1 hj (by rcases hk with q | q <;> subst q <;> decide)
  have h27 : ∀ v, jn (gwI (gwI b 10 j (b.1 10 j - 1)) (5 + k) j (b.1 (5 + k) j + 1)) 27 v = jn b 27 v := fun v => by
    unfold jn; rw [gI_r, if_neg (by omega), gI_r, if_neg (by omega)]
  have hu6 : us6 (gwI (gwI b 10 j (b.1 10 j - 1)) (5 + k) j (b.1 (5 + k) j + 1)) = us6 b := by unfold us6; simp only [h27]
  have eS : b.1 27 (jn b 7 j) + b.1 5 j = nI (jn b 27 (jn b 7 j) + jn b 5 j) := by rw [h.U.2.1 _ hus, s1, nad]
  have eS2 : u.1 1 (36 + jn b 7 j) + mA u j 0 = nI (jn b 27 (jn b 7 j) + jn b 5 j) := by rw [h.e.1.2.2.2.2 _ hus, hE.f0]; exact eS
  have R3 : BW (rn1 b j k (jn b 7 j)) (rm1 u j k (jn b 7 j)) n a r p t Q B := by
    unfold rn1 rm1
    rw [eS, eS2]
    refine used_rel R2 hus ?_
    rw [hu6, h27]
    omega
  have ex : rmx u j k = rnx b j k := by unfold rmx rnx; rw [hE.f10, hE.f11]
  have eS7 : u.1 1 7 + 0 = b.1 1 7 := h.e.1.1.2.2.2.2.2.2.2.1
  unfold rnB rnU
  rw [ex, eS7]
  by_cases q : svc (b.1 1 7) (rnx b j k) = true
  · rw [if_pos q, if_pos q, eL, eL2]
    refine jf_rel (w := 6) R3 hj (by decide) (IJ1_11 (R3.J j hj) ?_ (by omega))
    have : (rn1 b j k (jn b 7 j)).1 10 j = nI (jn b 10 j - 1) := by
      unfold rn1; rw [gI_r, if_neg (by omega), gI_r, if_neg (by omega), gI_r, if_pos ⟨rfl, rfl⟩]; exact eL
    unfold jn at *
    rw [this, tn (by omega)]
    exact Nat.le_refl _
  · rw [if_neg q, if_neg q]; exact R3
/-- what running leaves as it was -/
def rfr (b μ : gMem) : Prop := μ.2 = b.2 ∧ ∀ c i, c ∉ [10, 11, 15, 16, 27] → μ.1 c i = b.1 c i
theorem rfr.rf : rfr b b := ⟨rfl, fun _ _ _ => rfl⟩
theorem rfr.tr {b1 b2 : gMem} (h : rfr b b1) (h2 : rfr b1 b2) : rfr b b2 := ⟨h2.1.trans h.1, fun c i hc => (h2.2 c i hc).trans (h.2 c i hc)⟩
theorem rnB_fr {j k us : Nat} (hk : k = 10 ∨ k = 11) : rfr b (rnB b j k us) := by
  have h1 : rfr b (rn1 b j k us) := ⟨rfl, fun c i hc => by
    simp only [List.mem_cons, not_or, List.not_mem_nil] at hc
    unfold rn1
    rw [gI_r, if_neg (by omega), gI_r, if_neg (by omega), gI_r, if_neg (by omega)]⟩
  unfold rnB
  split
  · exact ⟨h1.1, fun c i hc => by
      rw [gI_r, if_neg (by simp at hc; omega)]; exact h1.2 c i hc⟩
  · exact h1
theorem rnB_10 {j k us i : Nat} (hk : k = 10 ∨ k = 11) (hi : i ≠ j) : (rnB b j k us).1 10 i = b.1 10 i := by
  have h1 : (rn1 b j k us).1 10 i = b.1 10 i := by
    unfold rn1; rw [gI_r, if_neg (by omega), gI_r, if_neg (by omega), gI_r, if_neg (fun z => hi z.2)]
  unfold rnB
  split
  · rw [gI_r, if_neg (by omega)]; exact h1
  · exact h1
theorem rnB_us {j k : Nat} (hk : k = 10 ∨ k = 11) (h : BW b u n a r p t Q B) (hj : j < n) (ht : us6 b + 32 ≤ 1920 * t) : us6 (rnB b j k (jn b 7 j)) ≤ us6 b + 32 := by
  have hp := h.A.p32
  have hJ := h.J j hj
  obtain ⟨s1, s2, s3⟩ := hJ.1
  have hus := hJ.2.1.2
  have ht6 := h.B.2.1
  have eS : b.1 27 (jn b 7 j) + b.1 5 j = nI (jn b 27 (jn b 7 j) + jn b 5 j) := by rw [h.U.2.1 _ hus, s1, nad]
  have hle := ud_le h.U ht6 hus
  have h1 : us6 (rnB b j k (jn b 7 j)) = us6 (gwI b 27 (jn b 7 j) (nI (jn b 27 (jn b 7 j) + jn b 5 j))) := by
    have : ∀ v, jn (rnB b j k (jn b 7 j)) 27 v = jn (gwI b 27 (jn b 7 j) (nI (jn b 27 (jn b 7 j) + jn b 5 j))) 27 v := fun v => by
      have h2 : (rn1 b j k (jn b 7 j)).1 27 v = (gwI b 27 (jn b 7 j) (nI (jn b 27 (jn b 7 j) + jn b 5 j))).1 27 v := by
        unfold rn1
        rw [eS]
        by_cases z : v = jn b 7 j
        · rw [gI_r, if_pos ⟨rfl, z⟩, gI_r, if_pos ⟨rfl, z⟩]
        · rw [gI_r, if_neg (fun y => z y.2), gI_r, if_neg (by omega), gI_r, if_neg (by omega), gI_r, if_neg (fun y => z y.2)]
      unfold jn at *
      rw [← h2]
      unfold rnB
      split
      · rw [gI_r, if_neg (by omega)]
      · rfl
    unfold us6; simp only [this]
  have h2 := us6_w (b := b) (x := jn b 27 (jn b 7 j) + jn b 5 j) hus (by omega)
  rw [h1]
  omega
theorem rnU_c {j k us c i : Nat} (hc : c ≠ 1) : (rnU u j k us).1 c i = u.1 c i := by
  have h1 : (rm1 u j k us).1 c i = u.1 c i := by unfold rm1; rw [wH_c hc, wA_c hc, wA_c hc]
  unfold rnU
  split
  · rw [wA_c hc]; exact h1
  · exact h1
theorem rnU_l {j k us : Nat} : (rnU u j k us).2 = u.2 := by
  unfold rnU
  split <;> rfl
end RUN2
