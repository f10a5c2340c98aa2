/-! tryPlace and places -/
section TRY
variable {b u : gMem} {n a r p t B : Nat} {Q : List Nat}
theorem leastPass_both (eT : ET b u r) (hA : b.1 29 3 = nI r) (hu : u.1 1 13 = nI r) (hr : r ≤ 8) : ∃ v, mX7_leastPass [.ref 29] b = some (some (.long v), b) ∧ mX10_leastPass [.ref 0] u = some (some (.long v), u) := by
  rw [eX7_leastPass, eX10_leastPass, hA]
  by_cases h0 : r = 0
  · subst h0
    refine ⟨0, ?_, ?_⟩
    · rw [if_pos (by decide), eX7_leastPass_20, hA, if_pos (by decide)]
    · rw [eX10_leastPass_9, hu, if_pos (by decide), if_pos (by decide)]
  · rw [if_neg (show ¬ nI r ≤ 0 from nI_ge (a := 0) (b := r) (by omega) (by omega))]
    have key : ∀ k s v, s + k = r → ∃ v', rX7_leastPass_20 v (nI s) b = some (some (.long v'), b) ∧ rX10_leastPass_9 v (nI s) u = some (some (.long v'), u) := by
      intro k
      induction k with
      | zero =>
        intro s v hs
        rw [show s = r by omega]
        refine ⟨v, ?_, ?_⟩
        · rw [eX7_leastPass_20, hA, if_pos (nI_le (Nat.le_refl _) (by omega))]
        · rw [eX10_leastPass_9, hu, if_pos (nI_le (Nat.le_refl _) (by omega)), if_neg (nI_ne0 (by omega) (by omega))]
      | succ k ih =>
        intro s v hs
        rw [eX7_leastPass_20, eX10_leastPass_9, hA, hu, if_neg (nI_ge (by omega) (by omega)), if_neg (nI_ge (by omega) (by omega)), gin (by omega) (by omega), gin (by omega) (by omega), if_pos rfl, if_pos rfl, if_pos rfl, if_pos rfl, tn (by omega), (eT s (by omega)).2, nI_1]
        by_cases q : 0 ≤ lg_cmp (b.2 30 s) v
        · rw [if_pos q, if_pos q]; exact ih (s + 1) v (by omega)
        · rw [if_neg q, if_neg q]; exact ih (s + 1) _ (by omega)
    rw [(eT 0 (by omega)).2]
    exact key (r - 1) 1 _ (by omega)
def opB (b : gMem) (r : Nat) (v : Int64) : gMem := gwI (gwI (gwI (gwL b 30 r v) 31 r 0) 32 r 0) 29 3 (nI (r + 1))
def opU (u : gMem) (r : Nat) (v : Int64) : gMem := wH (wT (gwL u 3 r v) r 0) 13 (nI (r + 1))
theorem c_open {v : Int64} (hA : b.1 29 3 = nI r) (hr : r < 8) (hv : mX7_leastPass [.ref 29] b = some (some (.long v), b)) : mX7_open [.ref 29] b = some (none, opB b r v) := by
  have e1 : (gwL b 30 r v).1 29 3 = nI r := hA
  have e2 : (gwI (gwL b 30 r v) 31 r 0).1 29 3 = nI r := hA
  have e3 : (gwI (gwI (gwL b 30 r v) 31 r 0) 32 r 0).1 29 3 = nI r := hA
  rw [eX7_open, hA, if_neg (show ¬ (8 : Int32) ≤ nI r from nI_ge (a := r) (b := 8) (by omega) (by omega)), hv]
  show (if g_in (nI r) 8 = true then _ else none) = _
  rw [gin hr (by omega), if_pos rfl, tn (by omega), e1, gin hr (by omega), if_pos rfl, tn (by omega), e2, gin hr (by omega), if_pos rfl, tn (by omega), e3, nI_1]
  rfl
theorem m_newSlot {v : Int64} (hA : u.1 1 13 = nI r) (hr : r < 8) (hv : mX10_leastPass [.ref 0] u = some (some (.long v), u)) : mX10_newSlot [.ref 0] u = some (none, opU u r v) := by
  have e1 : (gwL u 3 r v).1 1 13 = nI r := hA
  rw [eX10_newSlot, hA, hv]
  show (if g_in (nI r) 9 = true then _ else none) = _
  rw [gin (by omega) (by omega), if_pos rfl, tn (by omega), e1, show (1482 : Int32) = nI 1482 from rfl, nad, gin (by omega) (by omega), if_pos rfl, tn (by omega), more_13, g_cv_some]
  have e2 : (gwI (gwL u 3 r v) 1 (1482 + r) 0).1 1 13 = nI r := by rw [gI_r, if_neg (by omega)]; exact hA
  rw [e2, nI_1]
  rfl
theorem op_ag {S : List Nat} {v : Int64} (h1 : 31 ∉ S) (h2 : 32 ∉ S) (h3 : 29 ∉ S) : ag S b (opB b r v) := ((ag.rf.wl.w h1).w h2).w h3
theorem op_ug {lo hi : Nat} {v : Int64} (hr : r < 8) (h : hi ≤ 1482 ∨ 1490 ≤ lo) (h2 : 13 < lo ∨ hi ≤ 13) : ug lo hi u (opU u r v) := (ug.rf.wl.w (by omega)).w (by omega)
theorem op31 {v : Int64} {s : Nat} : (opB b r v).1 31 s = if s = r then 0 else b.1 31 s := by
  unfold opB; rw [gI_r, if_neg (by omega), gI_r, if_neg (by omega), gI_r, gL_i]; simp
theorem op32 {v : Int64} {s : Nat} : (opB b r v).1 32 s = if s = r then 0 else b.1 32 s := by
  unfold opB; rw [gI_r, if_neg (by omega), gI_r, gI_r, if_neg (c := 32 = 31 ∧ s = r) (by omega), gL_i]; simp
theorem op30 {v : Int64} {s : Nat} : (opB b r v).2 30 s = if s = r then v else b.2 30 s := by
  unfold opB; rw [gI_l, gI_l, gI_l, gL_r]; simp
theorem op_c {v : Int64} {c i : Nat} (h : c ∉ [31, 32, 29]) : (opB b r v).1 c i = b.1 c i := by
  simp only [List.mem_cons, not_or, List.not_mem_nil] at h
  exact (op_ag (S := [c]) (by simp; omega) (by simp; omega) (by simp; omega)).c c i (by simp)
theorem open_rel {v : Int64} (h : BW b u n a r p t Q B) (hr : r < 8) : BW (opB b r v) (opU u r v) n a (r + 1) p t Q B := by
  have hn := h.A.n60
  have ha : a ≤ 60 := by have := h.A.2.2.2.1; omega
  have hu : ∀ i, i < 1482 → i ≠ 13 → (opU u r v).1 1 i = u.1 1 i := fun i h1 h2 => op_ug (lo := i) (hi := i + 1) hr (by omega) (by omega) i (Nat.le_refl _) (by omega)
  refine ⟨⟨?_, ?_, ?_, ?_, ?_, ?_⟩, ?_, ?_, ?_, ?_, ?_, ?_, ?_, ?_, ?_, ?_⟩
  · refine h.e.1.fr (op_ag (by decide) (by decide) (by decide)) (fun i hi => hu i (by omega) (by omega)) ?_
    obtain ⟨g1, g2, g3, g4, g5, g6, g7⟩ := h.e.1.2.1
    exact ⟨(hu _ (by omega) (by omega)).trans g1, (hu _ (by omega) (by omega)).trans g2, (hu _ (by omega) (by omega)).trans g3, rfl, (hu _ (by omega) (by omega)).trans g5, (hu _ (by omega) (by omega)).trans g6, (hu _ (by omega) (by omega)).trans g7⟩
  · exact h.e.2.1.fr hn (op_ag (by decide) (by decide) (by decide)) (op_ug hr (by omega) (by omega))
  · exact h.e.2.2.1.fr ha (op_ag (by decide) (by decide) (by decide)) (op_ug hr (by omega) (by omega))
  · intro s hs
    have hT := h.e.2.2.2.1
    rw [op31, op30, show (opU u r v).2 3 s = if s = r then v else u.2 3 s from by unfold opU; rw [wH_l, wT_l, gL_r]; simp]
    unfold opU
    rw [mT_wH (by omega) (by omega), mT_wT (by omega) (by omega)]
    by_cases q : s = r
    · simp [q]
    · simp [q]; exact hT s (by omega)
  · exact h.e.2.2.2.2.1.fr (op_ag (by decide) (by decide) (by decide)) (op_ug hr (by omega) (by omega))
  · exact h.e.2.2.2.2.2.fr (op_ag (by decide) (by decide) (by decide)) (op_ug hr (by omega) (by omega))
  · obtain ⟨a1, a2, a3, a4, a5, a6⟩ := h.A
    exact ⟨a1, a2, rfl, a4, by omega, a6⟩
  · exact h.T.fr (op_ag (by decide) (by decide) (by decide))
  · exact h.J.fr (op_ag (by decide) (by decide) (by decide))
  · have h2 := h.P.fr (b' := opB b r v) (op_ag (by decide) (by decide) (by decide)) rfl
    refine ⟨fun j hj => ?_, h2.2⟩
    rcases h2.1 j hj with q | q
    · exact Or.inl ⟨q.1, ⟨q.2.1.1, by have := q.2.1.2; omega⟩, q.2.2⟩
    · exact Or.inr q
  · intro s hs
    rw [sb_fr (b := b) (b' := opB b r v) (op_ag (by decide) (by decide) (by decide))]
    rw [op32]
    by_cases q : s = r
    · subst q
      rw [sb_none h.P (Nat.le_refl _) (by omega) h.A.2.2.2.2.1]
      simp
    · simp [q]; exact h.S s (by omega)
  · exact h.U.fr (op_ag (by decide) (by decide) (by decide))
  · exact h.R.fr (op_ag (by decide) (by decide) (by decide))
  · exact h.D.fr rfl
  · exact h.Q.fr hn (op_ag (by decide) (by decide) (by decide)) rfl (hu _ (by omega) (by omega)) (fun j hj => hu _ (by omega) (by omega))
  · exact h.B.fr rfl rfl rfl
/-- a job out of the line, placed, and its first time -/
def lnP (b μ : gMem) (Q : List Nat) (j : Nat) : Prop := (∀ c i, c ∉ [3, 24, 9, 19] → μ.1 c i = b.1 c i) ∧ μ.2 = b.2 ∧ μ.1 3 2 = b.1 3 2 ∧ μ.1 3 3 = nI (Q.filter (fun x => decide (x ≠ j))).length ∧ arr μ 24 (Q.filter (fun x => decide (x ≠ j))) ∧ (∀ i, μ.1 9 i = if i = j then 2 else b.1 9 i) ∧ (∀ i, μ.1 19 i = if i = j then (if b.1 19 j = -1 then b.1 0 12 else b.1 19 j) else b.1 19 i)
theorem c_placeAt0 (h : BW b u n a r p t Q B) {j s c : Nat} {wh : Int32} (hj : j ∈ Q) (hs : s < 9) (hc : c < 32) : ∃ μ : gMem, lnP b μ Q j ∧ mX2_placeAt [.ref 0, .int (nI j), .int (nI (s * 32 + c)), .int wh] b = g_cv (mX2_settle [.ref 0, .int (nI j), .int (nI s), .int (nI c)] μ) (fun u8 => g_cv (mX2_note [.ref 0, .int wh, .int (nI j)] u8) (fun u9 => some (none, u9))) := by
  have hn := h.A.n60
  obtain ⟨hjn, -⟩ := Q_mem h hj
  obtain ⟨b1, f1, ⟨f2, f3⟩, f4, f5⟩ := c_fromLine (j := j) h.Q.1 h.Q.2.1 h.Q.2.2.1 (by omega) (fun x hx => by have := (Q_mem h hx).1; omega)
  have e1 : nI (s * 32 + c) / 32 = nI s := by
    rw [show (32 : Int32) = nI 32 from rfl, pk_div (by omega) (by omega) (by omega)]; congr 1; omega
  have e2 : nI (s * 32 + c) - nI (s * 32 + c) / 32 * 32 = nI c := by
    rw [e1, show (32 : Int32) = nI 32 from rfl, nml, nsb (by omega)]; congr 1; omega
  have e3 : (gwI b1 9 j 2).1 19 j = b.1 19 j := f3 19 j (by omega) (by omega)
  have e4 : (gwI b1 9 j 2).1 0 12 = b.1 0 12 := f3 0 12 (by omega) (by omega)
  rw [eX2_placeAt, f1, g_cv_some, gin (by omega) (by omega), if_pos rfl, if_pos rfl, if_pos rfl, tn (by omega), e3, e4]
  by_cases q : b.1 19 j = -1
  · refine ⟨gwI (gwI b1 9 j 2) 19 j (b.1 0 12), ⟨?_, f2, ?_, ?_, ?_, ?_, ?_⟩, ?_⟩
    · intro c' i hc'
      simp only [List.mem_cons, not_or, List.not_mem_nil] at hc'
      rw [gI_r, if_neg (by omega), gI_r, if_neg (by omega)]
      exact f3 c' i (by omega) (by omega)
    · exact f3 3 2 (by omega) (by omega)
    · exact f4
    · exact f5
    · intro i
      rw [gI_r, if_neg (by omega), gI_r]
      by_cases z : i = j
      · rw [if_pos ⟨rfl, z⟩, if_pos z]
      · rw [if_neg (fun y => z y.2), if_neg z]; exact f3 9 i (by omega) (by omega)
    · intro i
      rw [gI_r]
      by_cases z : i = j
      · rw [if_pos ⟨rfl, z⟩, if_pos z, if_pos q]
      · rw [if_neg (fun y => z y.2), if_neg z, gI_r, if_neg (by omega)]; exact f3 19 i (by omega) (by omega)
    · rw [if_pos q, eX1_slotOf, g_ci_some, eX1_columnOf, g_ci_some, e2, e1]
  · refine ⟨gwI b1 9 j 2, ⟨?_, f2, ?_, ?_, ?_, ?_, ?_⟩, ?_⟩
    · intro c' i hc'
      simp only [List.mem_cons, not_or, List.not_mem_nil] at hc'
      rw [gI_r, if_neg (by omega)]
      exact f3 c' i (by omega) (by omega)
    · exact f3 3 2 (by omega) (by omega)
    · exact f4
    · exact f5
    · intro i
      rw [gI_r]
      by_cases z : i = j
      · rw [if_pos ⟨rfl, z⟩, if_pos z]
      · rw [if_neg (fun y => z y.2), if_neg z]; exact f3 9 i (by omega) (by omega)
    · intro i
      rw [gI_r, if_neg (by omega)]
      by_cases z : i = j
      · rw [if_pos z, if_neg q, z]; exact f3 19 j (by omega) (by omega)
      · rw [if_neg z]; exact f3 19 i (by omega) (by omega)
    · rw [if_neg q, eX1_slotOf, g_ci_some, eX1_columnOf, g_ci_some, e2, e1]
theorem c_settle {μ : gMem} {j s c w : Nat} (hr : μ.1 29 3 = nI r) (hr8 : r ≤ 8) (hj : j < 60) (hs : s < r) (hc : c < 32) (hw : μ.1 14 j = nI w) (hw2 : w ≤ 32) : mX2_settle [.ref 0, .int (nI j), .int (nI s), .int (nI c)] μ = some (none, gwI (gwI (gwI μ 12 j (nI s)) 13 j (nI c)) 32 s (μ.1 32 s ||| BK c w)) := by
  have e13 : (gwI (gwI μ 12 j (nI s)) 13 j (nI c)).1 13 j = nI c := by rw [gI_r, if_pos ⟨rfl, rfl⟩]
  have e14 : (gwI (gwI μ 12 j (nI s)) 13 j (nI c)).1 14 j = nI w := hw
  rw [eX2_settle, hr, if_neg (by rw [neq (by omega) (by omega)]; omega), eX7_has, if_neg (nneg (by omega)), hr, if_neg (nI_ge (by omega) (by omega)), g_ci_some, if_neg (by decide), gin (by omega) (by omega), if_pos rfl, if_pos rfl, gin (by omega) (by omega), if_pos rfl, tn (by omega), tn (by omega), eX4_block, gin (by omega) (by omega), if_pos rfl, if_pos rfl, tn (by omega), e13, e14, cbits hc hw2, g_ci_some, g_ci_some, if_pos rfl]
  rfl
theorem c_settle2 {μ : gMem} {j c w : Nat} {v : Int64} (hr : μ.1 29 3 = nI r) (hr8 : r < 8) (hv : mX7_leastPass [.ref 29] μ = some (some (.long v), μ)) (hj : j < 60) (hc : c < 32) (hw : μ.1 14 j = nI w) (hw2 : w ≤ 32) : mX2_settle [.ref 0, .int (nI j), .int (nI r), .int (nI c)] μ = some (none, gwI (gwI (gwI (opB μ r v) 12 j (nI r)) 13 j (nI c)) 32 r ((opB μ r v).1 32 r ||| BK c w)) := by
  have e13 : (gwI (gwI (opB μ r v) 12 j (nI r)) 13 j (nI c)).1 13 j = nI c := by rw [gI_r, if_pos ⟨rfl, rfl⟩]
  have e14 : (gwI (gwI (opB μ r v) 12 j (nI r)) 13 j (nI c)).1 14 j = nI w := hw
  have e29 : (opB μ r v).1 29 3 = nI (r + 1) := rfl
  rw [eX2_settle, hr, if_pos rfl, c_open hr hr8 hv, g_cv_some, eX7_has, if_neg (nneg (by omega)), e29, if_neg (nI_ge (by omega) (by omega)), g_ci_some, if_neg (by decide), gin (by omega) (by omega), if_pos rfl, if_pos rfl, gin (by omega) (by omega), if_pos rfl, tn (by omega), tn (by omega), eX4_block, gin (by omega) (by omega), if_pos rfl, if_pos rfl, tn (by omega), e13, e14, cbits hc hw2, g_ci_some, g_ci_some, if_pos rfl]
  rfl
end TRY
