section MOVED
variable {b u b' u' μ μ' ν : gMem} {n a r p t B k o : Nat} {Q : List Nat} {f g : Nat → Nat}
theorem mk_pp {Q' : List Nat} (h : PV b u n a r p t Q B) (H1 : ∀ c i, c ∈ [0, 1, 26, 27, 33, 35, 36, 37, 38, 39, 41, 42, 43, 44, 45, 46, 48, 49, 50, 51] → b'.1 c i = b.1 c i) (H32 : b'.1 3 2 = b.1 3 2) (U1 : ∀ i, (i < 17 ∨ (29 ≤ i ∧ i < 42) ∨ (1242 ≤ i ∧ i < 1482) ∨ (1490 ≤ i ∧ i < 2030)) → u'.1 1 i = u.1 1 i) (Ut : ∀ k, k < 11 → u'.1 1 (18 + k) = b'.1 2 k) (H29 : b'.1 29 3 = b.1 29 3) (eJ : EJ b' u' n) (eT : ET b' u' r) (iJ : IJ b' n p t) (iP : ∀ j, j < n → IP1 b' r p j) (iQ : IQ b' u' n Q' B) : PV b' u' n a r p t Q' B := by
  have hag : ∀ S : List Nat, (∀ c ∈ S, c ∈ [0, 1, 26, 27, 33, 35, 36, 37, 38, 39, 41, 42, 43, 44, 45, 46, 48, 49, 50, 51]) → ag S b b' := fun S hS c h1 i => H1 c i (hS c h1)
  refine ⟨⟨⟨?_, ?_, Ut, ?_, ?_⟩, eJ, ?_, eT, ?_, ?_⟩, ?_, ?_, iJ, iP, ?_, ?_, ?_, iQ, ?_⟩
  · have := h.e.1.1
    simp (disch := omega) only [U1]
    simp (disch := decide) only [H1]
    exact this
  · obtain ⟨g1, g2, g3, g4, g5, g6, g7⟩ := h.e.1.2.1
    rw [U1 13 (by omega), H29, H32, U1 10 (by omega), U1 11 (by omega), U1 12 (by omega), U1 14 (by omega), U1 15 (by omega), U1 16 (by omega), H1 0 12 (by decide), H1 33 1 (by decide), H1 0 13 (by decide), H1 39 1 (by decide), H1 46 1 (by decide)]
    exact ⟨g1, g2, g3, g4, g5, g6, g7⟩
  · intro v hv; rw [U1 _ (by omega), H1 26 v (by decide)]; exact h.e.1.2.2.2.1 v hv
  · intro v hv; rw [U1 _ (by omega), H1 27 v (by decide)]; exact h.e.1.2.2.2.2 v hv
  · exact h.e.2.2.1.fr (by have := h.A.2.2.2.1; omega) (hag _ (by decide)) (fun i h1 h2 => U1 i (by omega))
  · exact h.e.2.2.2.2.1.fr (hag _ (by decide)) (fun i h1 h2 => U1 i (by omega))
  · exact h.e.2.2.2.2.2.fr (hag _ (by decide)) (fun i h1 h2 => U1 i (by omega))
  · obtain ⟨a1, a2, a3, a4, a5, a6, a7⟩ := h.A
    exact ⟨H32.trans a1, (H1 33 1 (by decide)).trans a2, H29.trans a3, a4, a5, (H1 1 0 (by decide)).trans a6, a7⟩
  · exact h.T.fr (hag _ (by decide))
  · exact h.U.fr (hag _ (by decide))
  · exact h.R.fr (hag _ (by decide))
  · exact h.D.fr (H1 _ _ (by decide))
  · obtain ⟨b1, b2, ⟨x, b3, b4⟩, ⟨y, b5, b6⟩, b7⟩ := h.B
    exact ⟨by rw [H1 0 12 (by decide)]; exact b1, b2, ⟨x, by rw [H1 39 1 (by decide)]; exact b3, b4⟩, ⟨y, by rw [H1 46 1 (by decide)]; exact b5, b6⟩, b7⟩
/-- a job is moved to a column: it stops, and is counted -/
def mvB (b : gMem) (j x : Nat) : gMem := gwI (gwI (gwI (gwI b 13 j (nI x)) 17 j (st b j)) 23 j (b.1 23 j + 1)) 2 6 (b.1 2 6 + 1)
def mvU (u : gMem) (j x : Nat) (s : Int32) : gMem := wH (wA (wA (wA u j 8 (nI x + 1)) j 12 s) j 18 (mA u j 18 + 1)) 24 (u.1 1 24 + 1)
theorem mvB_r {j x c i : Nat} : (mvB b j x).1 c i = if c = 2 ∧ i = 6 then b.1 2 6 + 1 else if c = 23 ∧ i = j then b.1 23 j + 1 else if c = 17 ∧ i = j then st b j else if c = 13 ∧ i = j then nI x else b.1 c i := by
  unfold mvB; rw [gI_r, gI_r, gI_r, gI_r]
theorem mvB_c {j x c i : Nat} (h : c ≠ 2 ∧ c ≠ 23 ∧ c ≠ 17 ∧ c ≠ 13) : (mvB b j x).1 c i = b.1 c i := by rw [mvB_r, if_neg (by omega), if_neg (by omega), if_neg (by omega), if_neg (by omega)]
theorem mvB_i {j x c i : Nat} (h : i ≠ j) (hc : c ≠ 2) : (mvB b j x).1 c i = b.1 c i := by rw [mvB_r, if_neg (by omega), if_neg (by omega), if_neg (by omega), if_neg (by omega)]
theorem mvU_A {j x i w : Nat} {s : Int32} (hj : j < 60) (hi : i < 60) (hw : w < 20) : mA (mvU u j x s) i w = if i = j ∧ w = 18 then mA u j 18 + 1 else if i = j ∧ w = 12 then s else if i = j ∧ w = 8 then nI x + 1 else mA u i w := by
  unfold mvU
  rw [mA_wH (by omega) (by omega) (by omega), mA_wA hi hw hj (by omega), mA_wA hi hw hj (by omega), mA_wA hi hw hj (by omega)]
theorem mvU_h {j x i : Nat} {s : Int32} (hj : j < 60) (hi : i < 42 ∨ 1242 ≤ i) : (mvU u j x s).1 1 i = if i = 24 then u.1 1 24 + 1 else u.1 1 i := by
  unfold mvU
  rw [wH_h]
  by_cases q : i = 24
  · rw [if_pos q, if_pos q]
  · rw [if_neg q, if_neg q]
    unfold wA
    rw [gI_r, if_neg (by omega), gI_r, if_neg (by omega), gI_r, if_neg (by omega)]
theorem mv_pv {j x : Nat} (h : PV b u n a r p t Q B) (hj : j < n) (h2 : b.1 9 j = 2) (hx : x % jn b 14 j = 0) (hx2 : x + jn b 14 j ≤ p) (hx3 : b.1 0 13 &&& BK x (jn b 14 j) = 0) : PV (mvB b j x) (mvU u j x (st b j)) n a r p t Q B := by
  have hn := h.A.n60
  have hp := h.A.p32
  have hr := h.A.2.2.2.2.1
  obtain ⟨s1, s2⟩ := st_n h.T (h.J j hj) hp.2
  have H : ∀ c i, c ≠ 2 ∧ c ≠ 23 ∧ c ≠ 17 ∧ c ≠ 13 → (mvB b j x).1 c i = b.1 c i := fun c i hc => mvB_c hc
  have hag : ∀ S : List Nat, (∀ c ∈ S, c ≠ 2 ∧ c ≠ 23 ∧ c ≠ 17 ∧ c ≠ 13) → ag S b (mvB b j x) := fun S hS c h1 i => H c i (hS c h1)
  refine mk_pp h (fun c i hc => H c i (by simp at hc; omega)) (H 3 2 (by omega)) (fun i hi => ?_) (fun k hk => ?_) (H 29 3 (by omega)) (fun i hi => ?_) (fun s hs => ?_) (fun i hi => ?_) (fun i hi => ?_) ?_
  · rw [mvU_h (by omega) (by omega), if_neg (by omega)]
  · rw [mvU_h (by omega) (by omega), mvB_r]
    have e := h.e.1.2.2.1
    by_cases q : k = 6
    · rw [if_pos (by omega), if_pos ⟨rfl, q⟩]; have := e 6 (by omega); rw [← this]
    · rw [if_neg (by omega), if_neg (by omega), if_neg (by omega), if_neg (by omega), if_neg (by omega)]; exact e k hk
  · obtain ⟨e0, e1, e2, e3, e4, e5, e6, e7, e8, e9, e10, e11, e12, e13, e14, e15, e16, e17, e18⟩ := h.e.2.1 i hi
    unfold EJ1
    simp (disch := omega) only [mvU_A, mvB_r]
    by_cases z : i = j
    · subst z
      simp
      simp [e0, e1, e2, e3, e4, e5, e6, e7, e8, e9, e10, e11, e12, e13, e14, e15, e16, e17, e18]
    · simp [z]
      simp [e0, e1, e2, e3, e4, e5, e6, e7, e8, e9, e10, e11, e12, e13, e14, e15, e16, e17, e18]
  · have := h.e.2.2.2.1 s hs
    refine ⟨?_, this.2⟩
    unfold mT at *
    rw [mvU_h (by omega) (by omega), if_neg (by omega), H 31 s (by omega)]
    exact this.1
  · have J := h.J i hi
    by_cases z : i = j
    · subst z
      unfold IJ1 jn at *
      simp (disch := omega) only [H]
      rw [mvB_r, if_neg (by omega), if_neg (by omega), if_pos ⟨rfl, rfl⟩, s1, tn (by omega)]
      exact ⟨J.1, J.2.1, J.2.2.1, J.2.2.2.1, J.2.2.2.2.1, J.2.2.2.2.2.1, ⟨rfl, by omega⟩, J.2.2.2.2.2.2.2⟩
    · exact J.fi (fun k hk => mvB_i z (by simp at hk; omega))
  · have P := h.P i hi
    by_cases z : i = j
    · subst z
      have y := ip_yes P h2
      refine Or.inl ⟨by rw [H 9 i (by omega)]; exact h2, ?_, ?_⟩
      · unfold jn; rw [H 12 i (by omega)]; exact y.1
      · have e13 : (mvB b i x).1 13 i = nI x := by rw [mvB_r, if_neg (by omega), if_neg (by omega), if_neg (by omega), if_pos ⟨rfl, rfl⟩]
        have j13 : jn (mvB b i x) 13 i = x := by unfold jn; rw [e13, tn (by omega)]
        have j14 : jn (mvB b i x) 14 i = jn b 14 i := by unfold jn; rw [H 14 i (by omega)]
        unfold bl
        rw [j13, j14, e13, H 0 13 (by omega)]
        exact ⟨rfl, hx, hx2, hx3⟩
    · unfold IP1 bl jn at *
      rw [mvB_i z (by omega), mvB_i z (by omega), mvB_i z (by omega), mvB_i z (by omega), H 0 13 (by omega)]
      exact P
  · exact h.Q.fr hn (hag _ (by decide)) (H _ _ (by omega)) (by rw [mvU_h (by omega) (by omega), if_neg (by omega)]) (fun i hi => by rw [mvU_A (by omega) (by omega) (by omega), if_neg (by omega), if_neg (by omega), if_neg (by omega)])
theorem m_isMoved {j x : Nat} (e : EE b u n a r) (hj : j < n) (hn : n ≤ 60) : mX10_isMoved [.ref 0, .int (nI j), .int (nI x)] u = some (none, mvU u j x (st b j)) := by
  have hs : mX10_stopOf [.ref 0, .int (nI j)] (wA u j 8 (nI x + 1)) = some (some (.int (st b j)), wA u j 8 (nI x + 1)) := by
    rw [eX10_stopOf, set_6, g_ci_some, at_0 (by omega), g_ci_some, wA_h (by omega), mA_wA (by omega) (by omega) (by omega) (by omega), if_neg (by omega), (e.j hj).f0, e.1.1.2.2.2.2.2.2.1]; rfl
  rw [eX10_isMoved, lay_8 (by omega), g_cv_some, hs, g_ci_some, lay_12 (by omega), g_cv_some, eX10_moreOf, at_18 (by omega), g_ci_some, lay_18 (by omega), g_cv_some, g_cv_some, more_24, g_cv_some]
  have e18 : mA (wA (wA u j 8 (nI x + 1)) j 12 (st b j)) j 18 = mA u j 18 := by
    rw [mA_wA (by omega) (by omega) (by omega) (by omega), if_neg (by omega), mA_wA (by omega) (by omega) (by omega) (by omega), if_neg (by omega)]
  rw [e18, wA_h (by omega), wA_h (by omega), wA_h (by omega)]
  rfl
theorem c_stop {j x : Nat} (hj : j < 60) : mX5_stop [.ref 178, .int (nI j)] (gwI μ 13 j (nI x)) = some (none, mvB μ j x) := by
  have e : st (gwI μ 13 j (nI x)) j = st μ j := by unfold st; rw [gI_r, if_neg (by omega), gI_r, if_neg (by omega)]
  rw [eX5_stop, c_stopOf hj, g_ci_some, gin hj (by omega), if_pos rfl, if_pos rfl, if_pos rfl, tn (by omega), e]
  rfl
theorem mvU_im {j x : Nat} {s : Int32} : im u (mvU u j x s) := ⟨fun c i hc => by unfold mvU; rw [wH_c (by omega), wA_c (by omega), wA_c (by omega), wA_c (by omega)], by unfold mvU; rw [wH_c (by omega), wA_c (by omega), wA_c (by omega), wA_c (by omega)], fun _ _ _ => rfl⟩
end MOVED
