/-! single writes that keep the relation -/
section FIELD
variable {b u : gMem} {n a r p t B : Nat} {Q : List Nat}
theorem fld_rel {w j : Nat} {x : Int32} (h : BW b u n a r p t Q B) (hj : j < n) (hw : w ∈ [1, 10, 11, 13, 16, 17, 18]) : BW (gwI b (5 + w) j x) (wA u j w x) n a r p t Q B := by
  have hn := h.A.n60
  have ha : a ≤ 60 := by have := h.A.2.2.2.1; omega
  have hr := h.A.2.2.2.2.1
  have hw2 : w = 1 ∨ w = 10 ∨ w = 11 ∨ w = 13 ∨ w = 16 ∨ w = 17 ∨ w = 18 := by simpa using hw
  have hc : ∀ c i, (c < 5 ∨ 23 < c ∨ c = 5 ∨ c = 7 ∨ c = 8 ∨ c = 9 ∨ c = 10 ∨ c = 11 ∨ c = 12 ∨ c = 13 ∨ c = 14 ∨ c = 17 ∨ c = 19 ∨ c = 20) → (gwI b (5 + w) j x).1 c i = b.1 c i := fun c i hc => by rw [gI_r, if_neg (by omega)]
  have hag : ∀ S : List Nat, (∀ c ∈ S, (c < 5 ∨ 23 < c ∨ c = 5 ∨ c = 7 ∨ c = 8 ∨ c = 9 ∨ c = 10 ∨ c = 11 ∨ c = 12 ∨ c = 13 ∨ c = 14 ∨ c = 17 ∨ c = 19 ∨ c = 20)) → ag S b (gwI b (5 + w) j x) := fun S hS c h1 i => hc c i (hS c h1)
  refine ⟨⟨?_, ?_, ?_, ?_, ?_, ?_⟩, ?_, ?_, ?_, ?_, ?_, ?_, ?_, ?_, ?_, ?_⟩
  · refine h.e.1.fr (hag _ (by decide)) (fun i hi => wA_h (by omega)) ?_
    obtain ⟨g1, g2, g3, g4, g5, g6, g7⟩ := h.e.1.2.1
    refine ⟨?_, ?_, ?_, ?_, ?_, ?_, ?_⟩ <;> rw [wA_h (by omega), hc _ _ (by omega)] <;> assumption
  · intro i hi
    obtain ⟨e0, e1, e2, e3, e4, e5, e6, e7, e8, e9, e10, e11, e12, e13, e14, e15, e16, e17, e18⟩ := h.e.2.1 i hi
    rcases hw2 with q | q | q | q | q | q | q <;> subst q <;> unfold EJ1 <;> simp (disch := omega) only [mA_wA] <;> simp only [gI_r] <;> by_cases z : i = j <;> simp [z] <;> (try subst z) <;> simp [e0, e1, e2, e3, e4, e5, e6, e7, e8, e9, e10, e11, e12, e13, e14, e15, e16, e17, e18]
  · exact h.e.2.2.1.fr ha (hag _ (by decide)) (ug.rf.w (by omega))
  · exact h.e.2.2.2.1.fr hr (hag _ (by decide)) (ug.rf.w (by omega)) (fun _ _ => rfl) (fun _ _ => rfl)
  · exact h.e.2.2.2.2.1.fr (hag _ (by decide)) (ug.rf.w (by omega))
  · exact h.e.2.2.2.2.2.fr (hag _ (by decide)) (ug.rf.w (by omega))
  · exact h.A.fr (hc _ _ (by omega)) (hc _ _ (by omega)) (hc _ _ (by omega)) (hc _ _ (by omega))
  · exact h.T.fr (hag _ (by decide))
  · exact h.J.fr (hag _ (by decide))
  · exact h.P.fr (hag _ (by decide)) (hc _ _ (by omega))
  · exact h.S.fr (hag _ (by decide))
  · exact h.U.fr (hag _ (by decide))
  · exact h.R.fr (hag _ (by decide))
  · exact h.D.fr (hc _ _ (by omega))
  · exact h.Q.fr hn (hag _ (by decide)) (hc _ _ (by omega)) (wA_h (by omega)) (fun i hi => by rw [mA_wA (by omega) (by omega) (by omega) (by omega), if_neg (by omega)])
  · exact h.B.fr (hc _ _ (by omega)) (hc _ _ (by omega)) (hc _ _ (by omega))
theorem tal_rel {k : Nat} {x : Int32} (h : BW b u n a r p t Q B) (hk : k < 11) : BW (gwI b 2 k x) (wH u (18 + k) x) n a r p t Q B := by
  have hn := h.A.n60
  have ha : a ≤ 60 := by have := h.A.2.2.2.1; omega
  have hr := h.A.2.2.2.2.1
  have hag : ∀ S : List Nat, 2 ∉ S → ag S b (gwI b 2 k x) := fun S hS => ag.rf.w hS
  have hc : ∀ c i, c ≠ 2 → (gwI b 2 k x).1 c i = b.1 c i := fun c i hc => by rw [gI_r, if_neg (fun z => hc z.1)]
  refine ⟨⟨⟨?_, ?_, ?_, ?_, ?_⟩, ?_, ?_, ?_, ?_, ?_⟩, ?_, ?_, ?_, ?_, ?_, ?_, ?_, ?_, ?_, ?_⟩
  · have := h.e.1.1
    simp (disch := omega) only [wH_h, hc]
    simp (disch := omega) only [if_neg]
    exact this
  · have := h.e.1.2.1
    simp (disch := omega) only [wH_h, hc]
    simp (disch := omega) only [if_neg]
    exact this
  · intro i hi
    rw [wH_h, gI_r]
    by_cases q : i = k
    · rw [if_pos (by omega), if_pos ⟨rfl, q⟩]
    · rw [if_neg (by omega), if_neg (fun z => q z.2)]; exact h.e.1.2.2.1 i hi
  · intro v hv; rw [wH_h, if_neg (by omega), hc _ _ (by omega)]; exact h.e.1.2.2.2.1 v hv
  · intro v hv; rw [wH_h, if_neg (by omega), hc _ _ (by omega)]; exact h.e.1.2.2.2.2 v hv
  · exact h.e.2.1.fr hn (hag _ (by decide)) (ug.rf.w (by omega))
  · exact h.e.2.2.1.fr ha (hag _ (by decide)) (ug.rf.w (by omega))
  · exact h.e.2.2.2.1.fr hr (hag _ (by decide)) (ug.rf.w (by omega)) (fun _ _ => rfl) (fun _ _ => rfl)
  · exact h.e.2.2.2.2.1.fr (hag _ (by decide)) (ug.rf.w (by omega))
  · exact h.e.2.2.2.2.2.fr (hag _ (by decide)) (ug.rf.w (by omega))
  · exact h.A.fr (hc _ _ (by omega)) (hc _ _ (by omega)) (hc _ _ (by omega)) (hc _ _ (by omega))
  · exact h.T.fr (hag _ (by decide))
  · exact h.J.fr (hag _ (by decide))
  · exact h.P.fr (hag _ (by decide)) (hc _ _ (by omega))
  · exact h.S.fr (hag _ (by decide))
  · exact h.U.fr (hag _ (by decide))
  · exact h.R.fr (hag _ (by decide))
  · exact h.D.fr (hc _ _ (by omega))
  · exact h.Q.fr hn (hag _ (by decide)) (hc _ _ (by omega)) (by rw [wH_h, if_neg (by omega)]) (fun i hi => mA_wH (by omega) (by omega) (by omega))
  · exact h.B.fr (hc _ _ (by omega)) (hc _ _ (by omega)) (hc _ _ (by omega))
end FIELD
