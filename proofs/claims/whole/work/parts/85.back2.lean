section BACK2
variable {b u b' u' : gMem} {n a r p t B : Nat} {Q : List Nat}
theorem liU_h {j i : Nat} (h : i < 42) (h2 : i ≠ 17) : (liU u j).1 1 i = u.1 1 i := by
  unfold liU; rw [wH_h, if_neg h2, wA_h h, wA_h h, wA_h h, wA_h h]
theorem liU_A {j w : Nat} (hj : j < 60) (hw : w < 20) (h : w ≠ 4 ∧ w ≠ 7 ∧ w ≠ 8 ∧ w ≠ 19) : mA (liU u j) j w = mA u j w := by
  unfold liU; rw [mA_wH hj hw (by omega), mA_wA hj hw hj (by omega), if_neg (by omega), mA_wA hj hw hj (by omega), if_neg (by omega), mA_wA hj hw hj (by omega), if_neg (by omega), mA_wA hj hw hj (by omega), if_neg (by omega)]
theorem m_putsBack {j X : Nat} (e : EJ1 b u j) (hj : j < 60) (hx : u.1 1 15 = nI X) (hx2 : X < 2147483648) (h5 : u.1 1 23 = b.1 2 5) (h8 : u.1 1 26 = b.1 2 8) : mX10_putsBack [.ref 0, .int (nI j)] u = some (none, pU u b j X) := by
  have hA : ∀ w, w < 20 → mA (lgU u X 5 (nI j) (b.1 12 j) (b.1 13 j)) j w = mA u j w := fun w hw => lg_at (by omega) (by omega)
  have e4 : wA (wA (wA (wA (lgU u X 5 (nI j) (b.1 12 j) (b.1 13 j)) j 4 1) j 7 0) j 8 0) j 4 1 = wA (wA (wA (lgU u X 5 (nI j) (b.1 12 j) (b.1 13 j)) j 4 1) j 7 0) j 8 0 := gwI_id (show mA _ j 4 = 1 from by rw [mA_wA hj (by omega) hj (by omega), if_neg (by omega), mA_wA hj (by omega) hj (by omega), if_neg (by omega), mA_wA hj (by omega) hj (by omega), if_pos ⟨rfl, rfl⟩])
  have e17 : (wA (wA (wA (lgU u X 5 (nI j) (b.1 12 j) (b.1 13 j)) j 4 1) j 7 0) j 8 0).1 1 17 = (lgU u X 5 (nI j) (b.1 12 j) (b.1 13 j)).1 1 17 := by rw [wA_h (by omega), wA_h (by omega), wA_h (by omega)]
  have e23 : (liU (lgU u X 5 (nI j) (b.1 12 j) (b.1 13 j)) j).1 1 23 = b.1 2 5 := by rw [liU_h (by omega) (by omega), lg_at (by omega) (by omega)]; exact h5
  have e26 : (wH (liU (lgU u X 5 (nI j) (b.1 12 j) (b.1 13 j)) j) 23 (b.1 2 5 + ls b j)).1 1 26 = b.1 2 8 := by rw [wH_h, if_neg (by omega), liU_h (by omega) (by omega), lg_at (by omega) (by omega)]; exact h8
  have e16 : mA (wH (wH (liU (lgU u X 5 (nI j) (b.1 12 j) (b.1 13 j)) j) 23 (b.1 2 5 + ls b j)) 26 (b.1 2 8 + 1)) j 16 = b.1 21 j := by rw [mA_wH hj (by omega) (by omega), mA_wH hj (by omega) (by omega), liU_A hj (by omega) (by omega), hA 16 (by omega)]; exact e.f16
  have e6 : mA (wA (wH (wH (liU (lgU u X 5 (nI j) (b.1 12 j) (b.1 13 j)) j) 23 (b.1 2 5 + ls b j)) 26 (b.1 2 8 + 1)) j 16 (b.1 21 j + 1)) j 6 = b.1 11 j := by rw [mA_wA hj (by omega) hj (by omega), if_neg (by omega), mA_wH hj (by omega) (by omega), mA_wH hj (by omega) (by omega), liU_A hj (by omega) (by omega), hA 6 (by omega)]; exact e.f6
  rw [eX10_putsBack, at_0 hj, g_ci_some, at_6 hj, g_ci_some, at_5 hj, g_ci_some, m_slO hj, g_ci_some, m_coO hj, g_ci_some, e.f0, e.f6, e.f5, e.f7, e.f8, i_sn, i_sn, m_writes hx hx2, g_cv_some, eX10_isNowhere, lay_4 hj, g_cv_some, lay_7 hj, g_cv_some, lay_8 hj, g_cv_some, g_cv_some, m_waits hj, g_cv_some, e4, e17]
  rw [show wH (wA (wA (wA (wA (lgU u X 5 (nI j) (b.1 12 j) (b.1 13 j)) j 4 1) j 7 0) j 8 0) j 19 ((lgU u X 5 (nI j) (b.1 12 j) (b.1 13 j)).1 1 17)) 17 ((lgU u X 5 (nI j) (b.1 12 j) (b.1 13 j)).1 1 17 + 1) = liU (lgU u X 5 (nI j) (b.1 12 j) (b.1 13 j)) j from rfl, show b.1 5 j * (b.1 11 j - b.1 10 j) = ls b j from rfl, more_23, g_cv_some, e23, more_26, g_cv_some, e26, eX10_moreOf, at_16 hj, g_ci_some, lay_16 hj, g_cv_some, g_cv_some, e16, at_6 hj, g_ci_some, e6, lay_5 hj, g_cv_some, lay_12 hj, g_cv_some]
  rfl
theorem c_back1 {v1 v2 : Int32} {j x X : Nat} (hj : j < n) (hn : n ≤ 60) (h32 : b.1 3 2 = nI n) (hst : mX2_stands [.ref 0, .int (nI j), .int v1] b = some (some (.int 1), b)) (hJ : IJ1 b p t j) (hc : b.1 13 j = nI (jn b 13 j)) (hc2 : jn b 13 j < 32) (hv : ¬ (bl b j &&& v2) = 0) (hr : b.1 29 3 = nI r) (hr8 : r ≤ 8) (hx : b.1 12 j = nI x) (hxr : x < r) (hX : b.1 39 1 = nI X) (hX2 : X < 2147483648) (hq : b.1 3 3 = nI Q.length) (hq2 : Q.length < 60) : rX2_putBack_2 v1 v2 (nI j) b = rX2_putBack_2 v1 v2 (nI (j + 1)) (pB b j x X Q.length) := by
  have hbl : bl (lgB b X 5 (nI j) (b.1 12 j) (b.1 13 j)) j = bl b j := rfl
  have hJL : IJ1 (lgB b X 5 (nI j) (b.1 12 j) (b.1 13 j)) p t j := hJ.fi (fun k hk => lgB_c (by simp at hk ⊢; omega))
  have hto := c_takeOutP (b := lgB b X 5 (nI j) (b.1 12 j) (b.1 13 j)) (j := j) (x := x) (show j < 60 by omega) ((lgB_c (by decide)).trans hr) hr8 ((lgB_c (by decide)).trans hx) hxr hJL hc hc2
  rw [hbl, show (lgB b X 5 (nI j) (b.1 12 j) (b.1 13 j)).1 32 x = b.1 32 x from lgB_c (by decide)] at hto
  have hls : mX4_lossOf [.ref 3, .int (nI j)] (pT b j x X) = some (some (.int (ls b j)), pT b j x X) := by
    rw [eX4_lossOf, gin (show j < 60 by omega) (by omega), if_pos rfl, if_pos rfl, if_pos rfl, tn (show j < 2147483648 by omega), pT_o (by decide), pT_o (by decide), pT_o (by decide)]; rfl
  have e5 : (pT b j x X).1 2 5 = b.1 2 5 := pT_o (by decide)
  have e8 : (gwI (pT b j x X) 2 5 (b.1 2 5 + ls b j)).1 2 8 = b.1 2 8 := by rw [gI_r, if_neg (by omega)]; exact pT_o (by decide)
  have e11 : (gwI (gwI (pT b j x X) 2 5 (b.1 2 5 + ls b j)) 2 8 (b.1 2 8 + 1)).1 11 j = b.1 11 j := by rw [gI_r, if_neg (by omega), gI_r, if_neg (by omega)]; exact pT_o (by decide)
  have e21 : (gwI (gwI (gwI (gwI (pT b j x X) 2 5 (b.1 2 5 + ls b j)) 2 8 (b.1 2 8 + 1)) 10 j (b.1 11 j)) 17 j 0).1 21 j = b.1 21 j := by rw [gI_r, if_neg (by omega), gI_r, if_neg (by omega), gI_r, if_neg (by omega), gI_r, if_neg (by omega)]; exact pT_o (by decide)
  have e33 : (gwI (gwI (gwI (gwI (gwI (pT b j x X) 2 5 (b.1 2 5 + ls b j)) 2 8 (b.1 2 8 + 1)) 10 j (b.1 11 j)) 17 j 0) 21 j (b.1 21 j + 1)).1 3 3 = nI Q.length := by rw [gI_r, if_neg (by omega), gI_r, if_neg (by omega), gI_r, if_neg (by omega), gI_r, if_neg (by omega), gI_r, if_neg (by omega), pT_o (by decide)]; exact hq
  rw [eX2_putBack_2, h32, if_neg (nI_ge (by omega) (by omega)), hst, g_ci_some, if_neg (by decide), c_block (by omega) hJ hc hc2, g_ci_some, if_neg hv, c_note hX hX2 (by omega), g_cv_some, hto, g_cv_some]
  rw [show gwI (gwI (gwI (lgB b X 5 (nI j) (b.1 12 j) (b.1 13 j)) 32 x (b.1 32 x &&& (bl b j ^^^ (-1)))) 12 j (-1)) 13 j (-1) = pT b j x X from rfl, hls, g_ci_some, gin (show j < 60 by omega) (by omega), if_pos rfl, if_pos rfl, if_pos rfl, if_pos rfl, if_pos rfl, tn (show j < 2147483648 by omega), e5, e8, e11, e21, c_toLine e33 hq2 (by omega), g_cv_some, nI_1]
  rfl
/-- who is put back -/
def pbW (b : gMem) (v1 v2 : Int32) (j : Nat) : Bool := decide (b.1 9 j = 2) && ((decide (v1 = -1) || decide (b.1 12 j = v1)) && !decide (bl b j &&& v2 = 0))
theorem c_stands {v1 : Int32} {j : Nat} (hA : IA b n a r p) (hj : j < n) : mX2_stands [.ref 0, .int (nI j), .int v1] b = some (some (.int (if b.1 9 j = 2 ∧ (v1 = -1 ∨ b.1 12 j = v1) then 1 else 0)), b) := by
  have hn := hA.n60
  rw [eX2_stands, c_isPlaced hA hj, g_ci_some, gin (show j < 60 by omega) (by omega), if_pos rfl, tn (show j < 2147483648 by omega)]
  by_cases q : b.1 9 j = 2
  · rw [if_pos q, if_neg (by decide)]
    by_cases q1 : v1 = -1
    · rw [if_pos q1, if_pos ⟨q, Or.inl q1⟩]
    · rw [if_neg q1]
      by_cases q2 : b.1 12 j = v1
      · rw [if_pos q2, if_pos ⟨q, Or.inr q2⟩]
      · rw [if_neg q2, if_neg (fun z => z.2.elim q1 q2)]
  · rw [if_neg q, if_pos rfl, if_neg (fun z => q z.1)]
theorem back_step {D v1 v2 : Int32} {j : Nat} (h : BW (gwI b 0 13 D) u n a r p t Q B) (h9 : B + 2 ≤ 1000000000) (hj : j < n) (hl : b.1 9 j = 2 → b.1 10 j ≠ 0) : (pbW b v1 v2 j = false ∧ rX2_putBack_2 v1 v2 (nI j) b = rX2_putBack_2 v1 v2 (nI (j + 1)) b) ∨ (pbW b v1 v2 j = true ∧ ∃ b' u', rX2_putBack_2 v1 v2 (nI j) b = rX2_putBack_2 v1 v2 (nI (j + 1)) b' ∧ mX10_putsBack [.ref 0, .int (nI j)] u = some (none, u') ∧ BW (gwI b' 0 13 D) u' n a r p t (Q ++ [j]) (B + 2) ∧ im u u' ∧ (∀ c i, c ∉ [2, 3, 24, 39, 41, 42, 43, 44, 45, 32] → i ≠ j → b'.1 c i = b.1 c i) ∧ b'.1 9 j = 1 ∧ (∀ c i, c ∈ [0, 1, 5, 14] → b'.1 c i = b.1 c i)) := by
  have hn := h.A.n60
  have hr := h.A.2.2.2.2.1
  have hp := h.A.p32
  have hAb : IA b n a r p := h.A
  have hJb : IJ1 b p t j := h.J j hj
  by_cases q : b.1 9 j = 2 ∧ (v1 = -1 ∨ b.1 12 j = v1)
  · obtain ⟨⟨y1, y2⟩, y3, y4, y5, y6⟩ := ip_yes (h.P.1 j hj) q.1
    have hc2 : jn b 13 j < 32 := ip_c32 (b := gwI b 0 13 D) hp.2 (h.J j hj) (h.P.1 j hj) q.1
    have hst : mX2_stands [.ref 0, .int (nI j), .int v1] b = some (some (.int 1), b) := by rw [c_stands hAb hj, if_pos q]
    by_cases q2 : bl b j &&& v2 = 0
    · refine Or.inl ⟨by unfold pbW; simp [q2], ?_⟩
      rw [eX2_putBack_2, hAb.1, if_neg (nI_ge (by omega) (by omega)), hst, g_ci_some, if_neg (by decide), c_block (by omega) hJb y3 hc2, g_ci_some, if_pos q2, nI_1]
    · obtain ⟨x, X, x1, x2, x3, x4, x5, x6, x7⟩ := back_rel h h9 hj q.1 (hl q.1)
      refine Or.inr ⟨by unfold pbW; simp [q.1, q.2, q2], pB b j x X Q.length, pU u b j X, c_back1 hj hn hAb.1 hst hJb y3 hc2 q2 hAb.2.2.1 hr x4 x5 x2 x3 h.Q.1 (by omega), m_putsBack (h.e.j hj) (by omega) x1 x3 (h.e.1.2.2.1 5 (by omega)) (h.e.1.2.2.1 8 (by omega)), x7, ?_, fun c i hc hi => ?_, ?_, fun c i hc => ?_⟩
      · refine ⟨fun c i hc => ?_, ?_, fun c i hc => rfl⟩
        · unfold pU liU; rw [wA_c (by omega), wA_c (by omega), wA_c (by omega), wH_c (by omega), wH_c (by omega), wH_c (by omega), wA_c (by omega), wA_c (by omega), wA_c (by omega), wA_c (by omega), lg_c (by omega)]
        · unfold pU liU; rw [wA_c (by omega), wA_c (by omega), wA_c (by omega), wH_c (by omega), wH_c (by omega), wH_c (by omega), wA_c (by omega), wA_c (by omega), wA_c (by omega), wA_c (by omega), lg_c (by omega)]
      · have h2 : c ∉ [39, 41, 42, 43, 44, 45] := fun z => hc (by simp at z ⊢; omega)
        simp only [List.mem_cons, not_or, List.not_mem_nil] at hc
        unfold pB pT
        rw [gI_r, if_neg (by omega), gI_r, if_neg (by omega), gI_r, if_neg (by omega), gI_r, if_neg (by omega), gI_r, if_neg (by omega), gI_r, if_neg (by omega), gI_r, if_neg (by omega), gI_r, if_neg (by omega), gI_r, if_neg (by omega), gI_r, if_neg (by omega), gI_r, if_neg (by omega), lgB_c h2]
      · unfold pB; rw [gI_r, if_neg (by omega), gI_r, if_neg (by omega), gI_r, if_pos ⟨rfl, rfl⟩]
      · simp only [List.mem_cons, List.not_mem_nil, or_false] at hc
        unfold pB
        rw [gI_r, if_neg (by omega), gI_r, if_neg (by omega), gI_r, if_neg (by omega), gI_r, if_neg (by omega), gI_r, if_neg (by omega), gI_r, if_neg (by omega), gI_r, if_neg (by omega), gI_r, if_neg (by omega), pT_o (by simp; omega)]
  · refine Or.inl ⟨?_, ?_⟩
    · unfold pbW
      by_cases z : b.1 9 j = 2
      · have : ¬ (v1 = -1 ∨ b.1 12 j = v1) := fun y => q ⟨z, y⟩
        simp only [not_or] at this
        simp [this.1, this.2]
      · simp [z]
    · rw [eX2_putBack_2, hAb.1, if_neg (nI_ge (by omega) (by omega)), c_stands hAb hj, if_neg q, g_ci_some, if_pos rfl, nI_1]
end BACK2
