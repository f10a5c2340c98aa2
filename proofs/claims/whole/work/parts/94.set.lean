section SET
variable {b u b' u' μ μ' ν : gMem} {n a r p t B k : Nat} {Q : List Nat}
theorem tl_rel {w : Nat} {x y : Int32} (h : BW b u n a r p t Q B) (hw : 1 ≤ w ∧ w ≤ 9) (hE : (wH u w y).1 1 1 + 4 = (gwI b 1 w x).1 1 1 ∧ (wH u w y).1 1 2 + 0 = (gwI b 1 w x).1 1 2 ∧ (wH u w y).1 1 3 + 0 = (gwI b 1 w x).1 1 3 ∧ (wH u w y).1 1 4 + 0 = (gwI b 1 w x).1 1 4 ∧ (wH u w y).1 1 5 + 10 = (gwI b 1 w x).1 1 5 ∧ (wH u w y).1 1 6 + 1 = (gwI b 1 w x).1 1 6 ∧ (wH u w y).1 1 7 + 0 = (gwI b 1 w x).1 1 7 ∧ (wH u w y).1 1 8 + 1 = (gwI b 1 w x).1 1 8 ∧ (wH u w y).1 1 9 + 1 = (gwI b 1 w x).1 1 9) (hI : IT (gwI b 1 w x)) : BW (gwI b 1 w x) (wH u w y) n a r p t Q B := by
  have hn := h.A.n60
  have ha : a ≤ 60 := by have := h.A.2.2.2.1; omega
  have hr := h.A.2.2.2.2.1
  have hag : ∀ S : List Nat, 1 ∉ S → ag S b (gwI b 1 w x) := fun S hS => ag.rf.w hS
  have hc : ∀ c i, ¬ (c = 1 ∧ i = w) → (gwI b 1 w x).1 c i = b.1 c i := fun c i hc => by rw [gI_r, if_neg hc]
  have hU : ∀ i, i ≠ w → (wH u w y).1 1 i = u.1 1 i := fun i hi => by rw [wH_h, if_neg hi]
  refine ⟨⟨⟨⟨?_, hE⟩, ?_, ?_, ?_, ?_⟩, ?_, ?_, ?_, ?_, ?_⟩, ?_, hI, ?_, ?_, ?_, ?_, ?_, ?_, ?_, ?_⟩
  · rw [hU 0 (by omega), hc 1 0 (by omega)]; exact h.e.1.1.1
  · have := h.e.1.2.1
    simp (disch := omega) only [hU, hc]
    exact this
  · intro i hi; rw [hU _ (by omega), hc _ _ (by omega)]; exact h.e.1.2.2.1 i hi
  · intro i hi; rw [hU _ (by omega), hc _ _ (by omega)]; exact h.e.1.2.2.2.1 i hi
  · intro i hi; rw [hU _ (by omega), hc _ _ (by omega)]; exact h.e.1.2.2.2.2 i hi
  · exact h.e.2.1.fr hn (hag _ (by decide)) (ug.rf.w (by omega))
  · exact h.e.2.2.1.fr ha (hag _ (by decide)) (ug.rf.w (by omega))
  · exact h.e.2.2.2.1.fr hr (hag _ (by decide)) (ug.rf.w (by omega)) (fun _ _ => rfl) (fun _ _ => rfl)
  · exact h.e.2.2.2.2.1.fr (hag _ (by decide)) (ug.rf.w (by omega))
  · exact h.e.2.2.2.2.2.fr (hag _ (by decide)) (ug.rf.w (by omega))
  · exact h.A.fr (hc _ _ (by omega)) (hc _ _ (by omega)) (hc _ _ (by omega)) (hc _ _ (by omega))
  · exact h.J.fr (hag _ (by decide))
  · exact h.P.fr (hag _ (by decide)) (hc _ _ (by omega))
  · exact h.S.fr (hag _ (by decide))
  · exact h.U.fr (hag _ (by decide))
  · exact h.R.fr (hag _ (by decide))
  · exact h.D.fr (hc _ _ (by omega))
  · exact h.Q.fr hn (hag _ (by decide)) (hc _ _ (by omega)) (hU _ (by omega)) (fun i hi => mA_wH (by omega) (by omega) (by omega))
  · exact h.B.fr (hc _ _ (by omega)) (hc _ _ (by omega)) (hc _ _ (by omega))
def lo9 (w : Nat) : Nat := if w = 1 then 1 else 0
def hi9 (w : Nat) : Nat := if w = 1 then 8 else if w = 2 then 2 else if w = 4 then 9 else if w = 6 then 9 else if w = 5 then 99 else if w = 7 then 99 else 1
def fi9 (w : Nat) : Int32 := if w = 1 then 4 else if w = 5 then 10 else if w = 6 then 1 else if w = 8 then 1 else if w = 9 then 1 else 0
theorem nine {w : Nat} (h : 1 ≤ w ∧ w ≤ 9) : w = 1 ∨ w = 2 ∨ w = 3 ∨ w = 4 ∨ w = 5 ∨ w = 6 ∨ w = 7 ∨ w = 8 ∨ w = 9 := by omega
theorem told_rel {w v : Nat} (h : BW b u n a r p t Q B) (hw : 1 ≤ w ∧ w ≤ 9) (h1 : lo9 w ≤ v) (h2 : v ≤ hi9 w) : BW (gwI b 1 w (nI v)) (wH u w (nI v - fi9 w)) n a r p t Q B := by
  obtain ⟨e0, e1, e2, e3, e4, e5, e6, e7, e8, e9⟩ := h.e.1.1
  obtain ⟨t1, t2, t3, t4, t5, t6, t7, t8, t9⟩ := h.T
  have hv : v ≤ 99 := by unfold hi9 at h2; split at h2 <;> (try split at h2) <;> (try split at h2) <;> (try split at h2) <;> (try split at h2) <;> (try split at h2) <;> omega
  have hs : ∀ x y : Int32, x - y + y = x := fun x y => by grind
  have hj : ∀ i, jn (gwI b 1 w (nI v)) 1 i = if i = w then v else jn b 1 i := fun i => by
    unfold jn; rw [gI_r]
    by_cases q : i = w
    · rw [if_pos ⟨rfl, q⟩, if_pos q, tn (by omega)]
    · rw [if_neg (fun z => q z.2), if_neg q]
  have hg : ∀ i, (gwI b 1 w (nI v)).1 1 i = if i = w then nI v else b.1 1 i := fun i => by
    rw [gI_r]
    by_cases q : i = w
    · rw [if_pos ⟨rfl, q⟩, if_pos q]
    · rw [if_neg (fun z => q z.2), if_neg q]
  refine tl_rel h hw ?_ ?_
  · simp only [wH_h, hg]
    rcases nine hw with q | q | q | q | q | q | q | q | q <;> subst q <;> simp [fi9, hs, e1, e2, e3, e4, e5, e6, e7, e8, e9]
  · unfold IT
    simp only [hj, hg]
    rcases nine hw with q | q | q | q | q | q | q | q | q <;> subst q <;> simp [lo9, hi9] at h1 h2 <;> simp <;> refine ⟨?_, ?_, ?_, ?_, ?_, ?_, ?_, ?_, ?_⟩ <;> first | assumption | omega
theorem t19 : ∀ w, w < 10 → 1 ≤ w → g_t1.getD w 0 = nI (lo9 w) ∧ g_t2.getD w 0 = nI (hi9 w) := by decide +kernel
theorem m_canSet9 {w : Nat} {v : Int32} (hw : 1 ≤ w ∧ w ≤ 9) : mX10_canSet [.ref 0, .int (nI w), .int v] u = (if v < nI (lo9 w) then some (some (.int 0), u) else (if nI (hi9 w) < v then some (some (.int 0), u) else some (some (.int 1), u))) := by
  have hin : mX10_isIn [.ref 0, .int (nI w), .int 1, .int 9] u = some (some (.int 1), u) := by
    rw [eX10_isIn, if_neg (show ¬ nI w < 1 from nI_nlt (a := w) (b := 1) (by omega) (by omega)), if_neg (show ¬ (9 : Int32) < nI w from nI_nlt (a := 9) (b := w) (by omega) (by omega))]
  have hfin : ∀ lo hi : Int32, g_ci (mX10_isIn [.ref 0, .int v, .int lo, .int hi] u) (fun a3 u3 => (if a3 = 0 then some (some (Value.int 0), u3) else some (some (.int 1), u3))) = (if v < lo then some (some (.int 0), u) else (if hi < v then some (some (.int 0), u) else some (some (.int 1), u))) := fun lo hi => by
    rw [eX10_isIn]
    by_cases q1 : v < lo
    · rw [if_pos q1, g_ci_some, if_pos rfl]
    · by_cases q2 : hi < v
      · rw [if_neg q1, if_pos q2, g_ci_some, if_pos rfl]
      · rw [if_neg q1, if_neg q2, g_ci_some, if_neg (by decide)]
  rw [eX10_canSet, if_neg (nI_ne0 (by omega) (by omega)), hin, g_ci_some, if_neg (by decide)]
  rcases nine hw with q | q | q | q | q | q | q | q | q <;> subst q
  · rw [if_pos (show nI 1 = 1 from rfl), eX10_mostOf, if_pos (show nI 1 = 1 from rfl), g_ci_some]; exact hfin 1 8
  · rw [if_neg (by decide), eX10_mostOf, if_neg (by decide), if_pos (show nI 2 = 2 from rfl), g_ci_some]; exact hfin 0 2
  · rw [if_neg (by decide), eX10_mostOf, if_neg (by decide), if_neg (by decide), if_neg (by decide), if_neg (by decide), if_neg (by decide), if_neg (by decide), g_ci_some]; exact hfin 0 1
  · rw [if_neg (by decide), eX10_mostOf, if_neg (by decide), if_neg (by decide), if_pos (show nI 4 = 4 from rfl), g_ci_some]; exact hfin 0 9
  · rw [if_neg (by decide), eX10_mostOf, if_neg (by decide), if_neg (by decide), if_neg (by decide), if_neg (by decide), if_pos (show nI 5 = 5 from rfl), g_ci_some]; exact hfin 0 99
  · rw [if_neg (by decide), eX10_mostOf, if_neg (by decide), if_neg (by decide), if_neg (by decide), if_pos (show nI 6 = 6 from rfl), g_ci_some]; exact hfin 0 9
  · rw [if_neg (by decide), eX10_mostOf, if_neg (by decide), if_neg (by decide), if_neg (by decide), if_neg (by decide), if_neg (by decide), if_pos (show nI 7 = 7 from rfl), g_ci_some]; exact hfin 0 99
  · rw [if_neg (by decide), eX10_mostOf, if_neg (by decide), if_neg (by decide), if_neg (by decide), if_neg (by decide), if_neg (by decide), if_neg (by decide), g_ci_some]; exact hfin 0 1
  · rw [if_neg (by decide), eX10_mostOf, if_neg (by decide), if_neg (by decide), if_neg (by decide), if_neg (by decide), if_neg (by decide), if_neg (by decide), g_ci_some]; exact hfin 0 1
theorem m_first9 {w : Nat} (hw : 1 ≤ w ∧ w ≤ 9) : mX10_firstOf [.ref 0, .int (nI w)] u = some (some (.int (fi9 w)), u) := by
  rw [eX10_firstOf]
  rcases nine hw with q | q | q | q | q | q | q | q | q <;> subst q <;> rfl
theorem p_rel {v : Nat} (h : BW b u 0 0 0 p t Q B) (hv : v = 4 ∨ v = 8 ∨ v = 16 ∨ v = 32) : BW (gwI (gwI b 0 13 0) 1 0 (nI v)) (wH (wH u 0 (nI v - 16)) 14 0) 0 0 0 v t Q B := by
  have hc : ∀ c i, ¬ (c = 1 ∧ i = 0) → ¬ (c = 0 ∧ i = 13) → (gwI (gwI b 0 13 0) 1 0 (nI v)).1 c i = b.1 c i := fun c i h1 h2 => by rw [gI_r, if_neg h1, gI_r, if_neg h2]
  have hU : ∀ i, i ≠ 0 → i ≠ 14 → (wH (wH u 0 (nI v - 16)) 14 0).1 1 i = u.1 1 i := fun i h1 h2 => by rw [wH_h, if_neg h2, wH_h, if_neg h1]
  have hag : ∀ S : List Nat, (∀ c ∈ S, c ≠ 0 ∧ c ≠ 1) → ag S b (gwI (gwI b 0 13 0) 1 0 (nI v)) := fun S hS c h1 i => hc c i (fun z => (hS c h1).2 z.1) (fun z => (hS c h1).1 z.1)
  have hug : ∀ lo hi, 14 < lo → ug lo hi u (wH (wH u 0 (nI v - 16)) 14 0) := fun lo hi h1 i h3 h4 => hU i (by omega) (by omega)
  obtain ⟨e0, e1, e2, e3, e4, e5, e6, e7, e8, e9⟩ := h.e.1.1
  obtain ⟨g1, g2, g3, g4, g5, g6, g7⟩ := h.e.1.2.1
  refine ⟨⟨⟨⟨?_, ?_⟩, ?_, ?_, ?_, ?_⟩, fun j hj => absurd hj (by omega), fun j hj => absurd hj (by omega), fun j hj => absurd hj (by omega), ?_, ?_⟩, ?_, ?_, fun j hj => absurd hj (by omega), ⟨fun j hj => absurd hj (by omega), fun i j hi => absurd hi (by omega)⟩, fun j hj => absurd hj (by omega), ?_, fun j hj => absurd hj (by omega), ?_, ?_, ?_⟩
  · rw [wH_h, if_neg (by omega), wH_h, if_pos rfl, gI_r, if_pos ⟨rfl, rfl⟩]; grind
  · simp (disch := omega) only [hU, hc]
    exact ⟨e1, e2, e3, e4, e5, e6, e7, e8, e9⟩
  · rw [wH_h (k := 14) (h := 14), if_pos rfl]
    simp (disch := omega) only [hU, hc]
    exact ⟨g1, g2, g3, g4, rfl, g6, g7⟩
  · intro i hi; rw [hU _ (by omega) (by omega), hc _ _ (by omega) (by omega)]; exact h.e.1.2.2.1 i hi
  · intro i hi; rw [hU _ (by omega) (by omega), hc _ _ (by omega) (by omega)]; exact h.e.1.2.2.2.1 i hi
  · intro i hi; rw [hU _ (by omega) (by omega), hc _ _ (by omega) (by omega)]; exact h.e.1.2.2.2.2 i hi
  · exact h.e.2.2.2.2.1.fr (hag _ (by decide)) (hug _ _ (by omega))
  · exact h.e.2.2.2.2.2.fr (hag _ (by decide)) (hug _ _ (by omega))
  · obtain ⟨a1, a2, a3, a4, a5, a6, a7⟩ := h.A
    exact ⟨by rw [hc _ _ (by omega) (by omega)]; exact a1, by rw [hc _ _ (by omega) (by omega)]; exact a2, by rw [hc _ _ (by omega) (by omega)]; exact a3, a4, a5, by rw [gI_r, if_pos ⟨rfl, rfl⟩], hv⟩
  · have := h.T
    unfold IT jn at *
    simp (disch := omega) only [hc]
    exact this
  · exact h.U.fr (hag _ (by decide))
  · intro c hc' hb
    have e : (gwI (gwI b 0 13 0) 1 0 (nI v)).1 0 13 = 0 := by rw [gI_r, if_neg (by omega), gI_r, if_pos ⟨rfl, rfl⟩]
    rw [e, b_0] at hb; cases hb
  · exact h.Q.fr (by omega) (hag _ (by decide)) (hc _ _ (by omega) (by omega)) (hU _ (by omega) (by omega)) (fun i hi => hU _ (by omega) (by omega))
  · exact h.B.fr (hc _ _ (by omega) (by omega)) (hc _ _ (by omega) (by omega)) (hc _ _ (by omega) (by omega))
theorem w_wide {v : Nat} (h : 4 ≤ v ∧ v ≤ 32) : wd v = v ↔ (v = 4 ∨ v = 8 ∨ v = 16 ∨ v = 32) := by
  unfold wd
  split
  · omega
  · split
    · omega
    · split
      · omega
      · split
        · omega
        · split <;> omega
theorem ok_set (a0 a1 : Int32) : okc mX9_set mX10_set [.int a0, .int a1] := by
  intro k μ u hk hR
  obtain ⟨⟨n, a, r, p, t, Q, B, h, ht, hB⟩, hI⟩ := hR
  obtain ⟨h0, i0⟩ := told0 h
  obtain ⟨hw, hs⟩ := BR_iff.mp h0
  have hn := hw.A.n60
  have hna := hw.A.2.2.2.1
  have no : mX2_tell [.ref 0, .int a0, .int a1] μ = some (some (.int 0), μ) → mX10_canSet [.ref 0, .int a0, .int a1] (gwI u 0 0 0) = some (some (.int 0), gwI u 0 0 0) → ∃ x μ' ν', mX9_set [.ref 177, .int a0, .int a1] μ = some (some (.int x), μ') ∧ mX10_set [.ref 0, .int a0, .int a1] u = some (some (.int x), ν') ∧ Rl (k + 1) μ' ν' := fun e1 e2 => by
    refine ⟨0, μ, gwI u 0 0 0, ?_, by rw [eX10_set, e2, g_ci_some, if_pos rfl], Rl.mk hI h0 (by omega) (by omega) cfr.rf i0⟩
    rw [eX9_set, lfq rfl rfl e1 rfl, g_ci_some, went_0, g_ci_some, g01_0, if_pos rfl]
  by_cases q0 : a0 < 0
  · refine no (by rw [eX2_tell, if_pos q0]) ?_
    rw [eX10_canSet, if_neg (by intro z; rw [z] at q0; exact absurd q0 (by decide)), eX10_isIn, if_pos (by grind), g_ci_some, if_pos rfl]
  obtain ⟨w, w1, rfl⟩ := nat_of q0
  by_cases q1 : 10 ≤ w
  · refine no (by rw [eX2_tell, if_neg q0, if_pos (show (10 : Int32) ≤ nI w from nI_le (a := 10) (b := w) q1 w1)]) ?_
    rw [eX10_canSet, if_neg (nI_ne0 (by omega) w1), eX10_isIn, if_neg (show ¬ nI w < 1 from nI_nlt (a := w) (b := 1) (by omega) (by omega)), if_pos (show (9 : Int32) < nI w from nI_lt (a := 9) (b := w) (by omega) w1), g_ci_some, if_pos rfl]
  have e10 : ¬ (10 : Int32) ≤ nI w := nI_ge (a := w) (b := 10) (by omega) (by omega)
  by_cases qw : w = 0
  · subst qw
    have t1 : g_t1.getD 0 0 = nI 4 := by decide +kernel
    have t2 : g_t2.getD 0 0 = nI 32 := by decide +kernel
    have et : mX2_tell [.ref 0, .int (nI 0), .int a1] μ = (if a1 < nI 4 then some (some (.int 0), μ) else (if a1 ≤ nI 32 then (g_ci (mX1_widthOf [.int a1] μ) (fun a1' u1 => (if a1' = a1 then (if 0 < (u1.1 3 2) then some (some (.int 0), u1) else (if (u1.1 33 1) ≤ 0 then some (some (.int 1), (gwI (gwI u1 0 13 0) 1 0 a1)) else some (some (.int 0), u1))) else some (some (.int 0), u1)))) else some (some (.int 0), μ))) := by
      rw [eX2_tell, if_neg q0, if_neg e10, gin (show 0 < 10 by omega) (by omega), if_pos rfl, tn (by omega), t1, t2, if_pos rfl, if_pos (show nI 0 = 0 from rfl)]
      rfl
    have ec : (a1 = 4 ∨ a1 = 8 ∨ a1 = 16 ∨ a1 = 32) ∨ ¬ (a1 = 4 ∨ a1 = 8 ∨ a1 = 16 ∨ a1 = 32) := Classical.em _
    have ecs : mX10_canSet [.ref 0, .int (nI 0), .int a1] (gwI u 0 0 0) = (if (a1 = 4 ∨ a1 = 8 ∨ a1 = 16 ∨ a1 = 32) ∧ n = 0 ∧ a = 0 then some (some (.int 1), gwI u 0 0 0) else some (some (.int 0), gwI u 0 0 0)) := by
      have en : ((gwI u 0 0 0).1 1 11 = 0) = (n = 0) := by rw [hw.e.h.n, hw.A.1, nz (by omega)]
      have ea : ((gwI u 0 0 0).1 1 12 = 0) = (a = 0) := by rw [hw.e.h.a, hw.A.2.1, nz (by omega)]
      rw [eX10_canSet, if_pos (show nI 0 = 0 from rfl)]
      simp only [en, ea]
      by_cases z1 : n = 0 <;> by_cases z2 : a = 0 <;> by_cases z3 : a1 = 4 <;> by_cases z4 : a1 = 8 <;> by_cases z5 : a1 = 16 <;> by_cases z6 : a1 = 32 <;> simp [z1, z2, z3, z4, z5, z6]
    by_cases q4 : a1 < nI 4
    · refine no (by rw [et, if_pos q4]) ?_
      rw [ecs, if_neg]
      rintro ⟨z, -⟩
      rcases z with z | z | z | z <;> rw [z] at q4 <;> exact absurd q4 (by decide)
    by_cases q5 : a1 ≤ nI 32
    · obtain ⟨v, v1, rfl⟩ := nat_of (x := a1) (fun z => q4 (by have : (0 : Int32) < nI 4 := by decide
                                                               grind))
      have v4 : ¬ v < 4 := fun z => q4 (nI_lt z (by omega))
      have v32 : v ≤ 32 := by rwa [nle v1 (by omega)] at q5
      have hwv : (nI (wd v) = nI v) = (wd v = v) := neq (by have := wd_pos v; omega) (by omega)
      have hiff := w_wide (v := v) ⟨by omega, v32⟩
      have hor : (nI v = 4 ∨ nI v = 8 ∨ nI v = 16 ∨ nI v = 32) ↔ (v = 4 ∨ v = 8 ∨ v = 16 ∨ v = 32) := by
        rw [show (4 : Int32) = nI 4 from rfl, show (8 : Int32) = nI 8 from rfl, show (16 : Int32) = nI 16 from rfl, show (32 : Int32) = nI 32 from rfl, neq v1 (by omega), neq v1 (by omega), neq v1 (by omega), neq v1 (by omega)]
      have et2 : mX2_tell [.ref 0, .int (nI 0), .int (nI v)] μ = (if (v = 4 ∨ v = 8 ∨ v = 16 ∨ v = 32) ∧ n = 0 ∧ a = 0 then some (some (.int 1), gwI (gwI μ 0 13 0) 1 0 (nI v)) else some (some (.int 0), μ)) := by
        rw [et, if_neg q4, if_pos q5, c_widthOf v32, g_ci_some, hw.A.1, hw.A.2.1]
        by_cases z : wd v = v
        · rw [if_pos (congrArg nI z)]
          by_cases z1 : n = 0
          · subst z1
            rw [if_neg (by decide)]
            by_cases z2 : a = 0
            · subst z2
              rw [if_pos (by decide), if_pos ⟨hiff.mp z, rfl, rfl⟩]
            · rw [if_neg (show ¬ nI a ≤ 0 from nI_ge (a := 0) (b := a) (by omega) (by omega)), if_neg (fun y => z2 y.2.2)]
          · rw [if_pos (show (0 : Int32) < nI n from nI_lt (a := 0) (b := n) (by omega) (by omega)), if_neg (fun y => z1 y.2.1)]
        · rw [if_neg (by rw [hwv]; exact z), if_neg (fun y => z (hiff.mpr y.1))]
      by_cases q6 : (v = 4 ∨ v = 8 ∨ v = 16 ∨ v = 32) ∧ n = 0 ∧ a = 0
      · obtain ⟨z0, z1, z2⟩ := q6
        subst z1
        subst z2
        have hr0 : r = 0 := by
          rcases Nat.eq_zero_or_pos r with z | z
          · exact z
          · exact absurd (hw.S 0 z) (hs.1 0 z)
        subst hr0
        have hBR : BR (gwI (gwI μ 0 13 0) 1 0 (nI v)) (wH (wH (gwI u 0 0 0) 0 (nI v - 16)) 14 0) 0 0 0 v t Q B := BR_iff.mpr ⟨p_rel hw z0, fun s hs' => absurd hs' (by omega), fun j hj => hs.2 j hj⟩
        obtain ⟨μ2, u2, r2, Q2, k1, k2, k3, k4, k5⟩ := went_1 (BR_pt (μ := μ) hBR) (by omega)
        have i1 : im (gwI u 0 0 0) (wH (wH (gwI u 0 0 0) 0 (nI v - 16)) 14 0) := ⟨fun c i hc => by rw [wH_c (by omega), wH_c (by omega)], by rw [wH_c (by omega), wH_c (by omega)], fun _ _ _ => rfl⟩
        refine ⟨1, μ2, u2, ?_, ?_, Rl.mk hI k3 (by omega) (by omega) (cfr.pt.tr k4) ((i0.tr i1).tr k5)⟩
        · rw [eX9_set, lf0 rfl rfl (by rw [et2, if_pos ⟨z0, rfl, rfl⟩]) rfl, g_ci_some, k1, g_ci_some, g01_1, if_pos rfl]
        · rw [eX10_set, ecs, if_pos ⟨hor.mpr z0, rfl, rfl⟩, g_ci_some, if_neg (by decide), eX10_firstOf, if_pos (show nI 0 = 0 from rfl), g_ci_some, gin (show 0 < 2030 by omega) (by omega), if_pos rfl, if_pos (show nI 0 = 0 from rfl), tn (by omega), show mX10_goesOn [.ref 0] (gwI (gwI (gwI u 0 0 0) 1 0 (nI v - 16)) 1 14 0) = _ from k2, g_cv_some]
      · exact no (by rw [et2, if_neg q6]) (by rw [ecs, if_neg (fun z => q6 ⟨hor.mp z.1, z.2⟩)])
    · refine no (by rw [et, if_neg q4, if_neg q5]) ?_
      rw [ecs, if_neg]
      rintro ⟨z, -⟩
      rcases z with z | z | z | z <;> rw [z] at q5 <;> exact absurd (by decide) q5
  · have hw9 : 1 ≤ w ∧ w ≤ 9 := by omega
    obtain ⟨t1, t2⟩ := t19 w (by omega) (by omega)
    have hl : lo9 w ≤ 1 := by unfold lo9; split <;> omega
    have hh : hi9 w ≤ 99 := by
      rcases nine hw9 with q | q | q | q | q | q | q | q | q <;> subst q <;> decide
    have et : mX2_tell [.ref 0, .int (nI w), .int a1] μ = (if a1 < nI (lo9 w) then some (some (.int 0), μ) else (if a1 ≤ nI (hi9 w) then some (some (.int 1), gwI μ 1 w a1) else some (some (.int 0), μ))) := by
      rw [eX2_tell, if_neg q0, if_neg e10, gin (show w < 10 by omega) (by omega), if_pos rfl, tn (show w < 2147483648 by omega), t1, t2, if_pos rfl, if_neg (nI_ne0 (by omega) (by omega)), if_pos rfl]
    by_cases q4 : a1 < nI (lo9 w)
    · exact no (by rw [et, if_pos q4]) (by rw [m_canSet9 hw9, if_pos q4])
    by_cases q5 : a1 ≤ nI (hi9 w)
    · obtain ⟨v, v1, rfl⟩ := nat_of (x := a1) (fun z => q4 (by have : ¬ nI (lo9 w) < 0 := nneg (by omega)
                                                               grind))
      have va : ¬ v < lo9 w := fun z => q4 (nI_lt z (by omega))
      have vb : v ≤ hi9 w := by rwa [nle v1 (by omega)] at q5
      have hBR : BR (gwI μ 1 w (nI v)) (wH (gwI u 0 0 0) w (nI v - fi9 w)) n a r p t Q B := BR_iff.mpr ⟨told_rel hw hw9 (by omega) vb, fun s hs' => hs.1 s hs', fun j hj => hs.2 j hj⟩
      obtain ⟨μ2, u2, r2, Q2, k1, k2, k3, k4, k5⟩ := went_1 (BR_pt (μ := μ) hBR) (by omega)
      refine ⟨1, μ2, u2, ?_, ?_, Rl.mk hI k3 (by omega) (by omega) (cfr.pt.tr k4) ((i0.tr ⟨fun c i hc => wH_c (by omega), wH_c (by omega), fun _ _ _ => rfl⟩).tr k5)⟩
      · rw [eX9_set, lf0 rfl rfl (by rw [et, if_neg q4, if_pos q5]) rfl, g_ci_some, k1, g_ci_some, g01_1, if_pos rfl]
      · rw [eX10_set, m_canSet9 hw9, if_neg q4, if_neg (fun z => by grind), g_ci_some, if_neg (by decide), m_first9 hw9, g_ci_some, gin (show w < 2030 by omega) (by omega), if_pos rfl, if_neg (nI_ne0 (by omega) (by omega)), tn (show w < 2147483648 by omega), show mX10_goesOn [.ref 0] (gwI (gwI u 0 0 0) 1 w (nI v - fi9 w)) = _ from k2, g_cv_some]
    · exact no (by rw [et, if_neg q4, if_neg q5]) (by rw [m_canSet9 hw9, if_neg q4, if_pos (by grind)])
end SET
