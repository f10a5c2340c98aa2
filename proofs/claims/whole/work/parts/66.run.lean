/-! one job runs for a quantum -/
section RUN
variable {b u b' u' : gMem} {n a r p t B : Nat} {Q : List Nat}
theorem BW.tm {t' : Nat} (h : BW b u n a r p t Q B) (ht : t ≤ t') (h6 : t' ≤ 60000) : BW b u n a r p t' Q B := by
  obtain ⟨u1, u2, u3⟩ := h.U
  obtain ⟨⟨tm, b1, b2⟩, b3, b4⟩ := h.B
  refine ⟨h.e, h.A, h.T, fun j hj => ?_, h.P, h.S, ⟨u1, u2, by omega⟩, h.R, h.D, h.Q, ⟨tm, b1, by omega⟩, h6, b4⟩
  obtain ⟨j1, j2, j3, j4, j5, j6, j7, j8⟩ := h.J j hj
  exact ⟨j1, j2, j3, j4, j5, j6, j7, j8.imp id (fun z => ⟨z.1, by omega⟩)⟩
theorem jf_rel {w j : Nat} {x : Int32} (h : BW b u n a r p t Q B) (hj : j < n) (hw : w ∈ [1, 5, 6, 10, 11, 12, 13, 16, 17, 18]) (hI : IJ1 (gwI b (5 + w) j x) p t j) : BW (gwI b (5 + w) j x) (wA u j w x) n a r p t Q B := by
  have hn := h.A.n60
  have hr := h.A.2.2.2.2.1
  have hw2 : w = 1 ∨ w = 5 ∨ w = 6 ∨ w = 10 ∨ w = 11 ∨ w = 12 ∨ w = 13 ∨ w = 16 ∨ w = 17 ∨ w = 18 := by simpa using hw
  have hc : ∀ c i, (c < 5 ∨ 23 < c ∨ c = 9 ∨ c = 12 ∨ c = 13 ∨ c = 14) → (gwI b (5 + w) j x).1 c i = b.1 c i := fun c i hc => by rw [gI_r, if_neg (by omega)]
  have hag : ∀ S : List Nat, (∀ c ∈ S, (c < 5 ∨ 23 < c ∨ c = 9 ∨ c = 12 ∨ c = 13 ∨ c = 14)) → ag S b (gwI b (5 + w) j x) := fun S hS c h1 i => hc c i (hS c h1)
  refine mk_rel h (Nat.le_refl _) h.B.2.2.2.2 (fun c i hc' => hc c i (by simp at hc'; omega)) (hc 3 2 (by omega)) (fun i hi => by unfold wA; rw [gI_r, if_neg (by omega)]) (fun k hk => by rw [wA_h (by omega), hc 2 k (by omega)]; exact h.e.1.2.2.1 k hk) (by rw [wA_h (by omega)]; exact h.e.h.r.trans h.A.2.2.1) (by rw [hc _ _ (by omega)]; exact h.A.2.2.1) hr ?_ ?_ ?_ ?_ ?_ ?_
  · intro i hi
    obtain ⟨e0, e1, e2, e3, e4, e5, e6, e7, e8, e9, e10, e11, e12, e13, e14, e15, e16, e17, e18⟩ := h.e.2.1 i hi
    rcases hw2 with q | q | q | q | q | q | q | q | q | q <;> subst q <;> unfold EJ1 <;> simp (disch := omega) only [mA_wA] <;> simp only [gI_r] <;> by_cases z : i = j <;> simp [z] <;> (try subst z) <;> simp [e0, e1, e2, e3, e4, e5, e6, e7, e8, e9, e10, e11, e12, e13, e14, e15, e16, e17, e18]
  · exact h.e.2.2.2.1.fr hr (hag _ (by decide)) (ug.rf.w (by omega)) (fun _ _ => rfl) (fun _ _ => rfl)
  · intro i hi
    by_cases z : i = j
    · subst z; exact hI
    · exact (h.J i hi).fi (fun k hk => by rw [gI_r, if_neg (fun y => z y.2)])
  · exact h.P.fr (hag _ (by decide)) (hc _ _ (by omega))
  · exact h.S.fr (hag _ (by decide))
  · exact h.Q.fr hn (hag _ (by decide)) (hc _ _ (by omega)) (wA_h (by omega)) (fun i hi => by rw [mA_wA (by omega) (by omega) (by omega) (by omega), if_neg (by omega)])
def us6 (b : gMem) : Nat := jn b 27 0 + jn b 27 1 + jn b 27 2 + jn b 27 3 + jn b 27 4 + jn b 27 5
theorem us6_w {v x : Nat} (hv : v < 6) (hx : x < 2147483648) : us6 (gwI b 27 v (nI x)) + jn b 27 v = us6 b + x := by
  have hj : ∀ i, jn (gwI b 27 v (nI x)) 27 i = if i = v then x else jn b 27 i := fun i => by
    unfold jn; rw [gI_r]
    by_cases q : i = v
    · rw [if_pos ⟨rfl, q⟩, if_pos q, tn hx]
    · rw [if_neg (fun z => q z.2), if_neg q]
  unfold us6
  rw [hj, hj, hj, hj, hj, hj]
  rcases (show v = 0 ∨ v = 1 ∨ v = 2 ∨ v = 3 ∨ v = 4 ∨ v = 5 by omega) with z | z | z | z | z | z <;> subst z <;> simp <;> omega
theorem used_rel {v x : Nat} (h : BW b u n a r p t Q B) (hv : v < 6) (hx : us6 b + x ≤ 1920 * t + jn b 27 v) : BW (gwI b 27 v (nI x)) (wH u (36 + v) (nI x)) n a r p t Q B := by
  have hn := h.A.n60
  have ha : a ≤ 60 := by have := h.A.2.2.2.1; omega
  have hr := h.A.2.2.2.2.1
  have ht := h.B.2.1
  have hjv : jn b 27 v ≤ us6 b := by
    unfold us6
    rcases (show v = 0 ∨ v = 1 ∨ v = 2 ∨ v = 3 ∨ v = 4 ∨ v = 5 by omega) with z | z | z | z | z | z <;> subst z <;> omega
  have hx2 : x < 2147483648 := by omega
  have hag : ∀ S : List Nat, 27 ∉ S → ag S b (gwI b 27 v (nI x)) := fun S hS => ag.rf.w hS
  have hc : ∀ c i, c ≠ 27 → (gwI b 27 v (nI x)).1 c i = b.1 c i := fun c i hc => by rw [gI_r, if_neg (fun z => hc z.1)]
  have hU : ∀ i, i ≠ 36 + v → (wH u (36 + v) (nI x)).1 1 i = u.1 1 i := fun i hi => by rw [wH_h, if_neg hi]
  refine ⟨⟨⟨?_, ?_, ?_, ?_, ?_⟩, ?_, ?_, ?_, ?_, ?_⟩, ?_, ?_, ?_, ?_, ?_, ?_, ?_, ?_, ?_, ?_⟩
  · have := h.e.1.1
    simp (disch := omega) only [hU, hc]
    exact this
  · have := h.e.1.2.1
    simp (disch := omega) only [hU, hc]
    exact this
  · intro i hi; rw [hU _ (by omega), hc _ _ (by omega)]; exact h.e.1.2.2.1 i hi
  · intro i hi; rw [hU _ (by omega), hc _ _ (by omega)]; exact h.e.1.2.2.2.1 i hi
  · intro i hi
    rw [wH_h, gI_r]
    by_cases q : i = v
    · rw [if_pos (by omega), if_pos ⟨rfl, q⟩]
    · rw [if_neg (by omega), if_neg (fun z => q z.2)]; exact h.e.1.2.2.2.2 i hi
  · exact h.e.2.1.fr hn (hag _ (by decide)) (ug.rf.w (by omega))
  · exact h.e.2.2.1.fr ha (hag _ (by decide)) (ug.rf.w (by omega))
  · exact h.e.2.2.2.1.fr hr (hag _ (by decide)) (ug.rf.w (by omega)) (fun _ _ => rfl) (fun _ _ => rfl)
  · exact h.e.2.2.2.2.1.fr (hag _ (by decide)) (ug.rf.w (by omega))
  · exact h.e.2.2.2.2.2.fr (hag _ (by decide)) (ug.rf.w (by omega))
  · exact h.A.fr (hc _ _ (by omega)) (hc _ _ (by omega)) (hc _ _ (by omega)) (hc _ _ (by omega))
  · exact h.T.fr (hag _ (by decide))
  · exact h.J.fr (hag _ (by decide))
  · exact h.P.fr (hag _ (by decide)) (hc _ _ (by omega))
  · exact h.S.fr (hag _ (by decide))
  · refine ⟨fun i hi => ?_, fun i hi => ?_, ?_⟩
    · have := h.U.1 i hi
      unfold jn at *
      rw [hc _ _ (by omega)]; exact this
    · unfold jn
      rw [gI_r]
      by_cases q : i = v
      · rw [if_pos ⟨rfl, q⟩, tn hx2]
      · rw [if_neg (fun z => q z.2)]; exact h.U.2.1 i hi
    · have := us6_w (b := b) (x := x) hv hx2
      have e : us6 (gwI b 27 v (nI x)) ≤ 1920 * t := by omega
      exact e
  · exact h.R.fr (hag _ (by decide))
  · exact h.D.fr (hc _ _ (by omega))
  · exact h.Q.fr hn (hag _ (by decide)) (hc _ _ (by omega)) (hU _ (by omega)) (fun i hi => mA_wH (by omega) (by omega) (by omega))
  · exact h.B.fr (hc _ _ (by omega)) (hc _ _ (by omega)) (hc _ _ (by omega))
def rn1 (b : gMem) (j k us : Nat) : gMem := gwI (gwI (gwI b 10 j (b.1 10 j - 1)) (5 + k) j (b.1 (5 + k) j + 1)) 27 us (b.1 27 us + b.1 5 j)
def rnx (b : gMem) (j k : Nat) : Int32 := (if k = 10 then b.1 15 j + 1 else b.1 15 j) + (if k = 11 then b.1 16 j + 1 else b.1 16 j)
def svc (S X : Int32) : Bool := !decide (S ≤ 0) && decide (X - X / S * S = 0)
theorem svc_1 {S X : Int32} (h1 : ¬ S ≤ 0) (h2 : X - X / S * S = 0) : svc S X = true := by unfold svc; simp [h1, h2]
theorem svc_0 {S X : Int32} (h : S ≤ 0 ∨ X - X / S * S ≠ 0) : ¬ svc S X = true := by
  unfold svc
  rcases h with h | h <;> simp [h]
def rnB (b : gMem) (j k us : Nat) : gMem := if svc (b.1 1 7) (rnx b j k) then gwI (rn1 b j k us) 11 j (b.1 10 j - 1) else rn1 b j k us
def rm1 (u : gMem) (j k us : Nat) : gMem := wH (wA (wA u j 5 (mA u j 5 - 1)) j k (mA u j k + 1)) (36 + us) (u.1 1 (36 + us) + mA u j 0)
def rmx (u : gMem) (j k : Nat) : Int32 := (if k = 10 then mA u j 10 + 1 else mA u j 10) + (if k = 11 then mA u j 11 + 1 else mA u j 11)
def rnU (u : gMem) (j k us : Nat) : gMem := if svc (u.1 1 7 + 0) (rmx u j k) then wA (rm1 u j k us) j 6 (mA u j 5 - 1) else rm1 u j k us
theorem c_run {j k us : Nat} (hj : j < 60) (hk : k = 10 ∨ k = 11) (h7 : b.1 7 j = nI us) (hus : us < 6) : mX2_run [.ref 0, .int (nI j), .int (nI k)] b = some (none, rnB b j k us) := by
  have e1 : (gwI b 10 j (b.1 10 j - 1)).1 (4 + 1 + k) j = b.1 (5 + k) j := by rw [gI_r, if_neg (by omega), show 4 + 1 + k = 5 + k by omega]
  have e7 : (gwI (gwI b 10 j (b.1 10 j - 1)) (4 + 1 + k) j (b.1 (5 + k) j + 1)).1 7 j = nI us := by rw [gI_r, if_neg (by omega), gI_r, if_neg (by omega)]; exact h7
  have e27 : (gwI (gwI b 10 j (b.1 10 j - 1)) (4 + 1 + k) j (b.1 (5 + k) j + 1)).1 27 us = b.1 27 us := by rw [gI_r, if_neg (by omega), gI_r, if_neg (by omega)]
  have e5 : (gwI (gwI b 10 j (b.1 10 j - 1)) (4 + 1 + k) j (b.1 (5 + k) j + 1)).1 5 j = b.1 5 j := by rw [gI_r, if_neg (by omega), gI_r, if_neg (by omega)]
  have er : gwI (gwI (gwI b 10 j (b.1 10 j - 1)) (4 + 1 + k) j (b.1 (5 + k) j + 1)) 27 us (b.1 27 us + b.1 5 j) = rn1 b j k us := by rw [show 4 + 1 + k = 5 + k by omega]; rfl
  have r17 : (rn1 b j k us).1 1 7 = b.1 1 7 := by unfold rn1; rw [gI_r, if_neg (by omega), gI_r, if_neg (by omega), gI_r, if_neg (by omega)]
  have r10 : (rn1 b j k us).1 10 j = b.1 10 j - 1 := by unfold rn1; rw [gI_r, if_neg (by omega), gI_r, if_neg (by omega), gI_r, if_pos ⟨rfl, rfl⟩]
  have rx : (rn1 b j k us).1 15 j + (rn1 b j k us).1 16 j = rnx b j k := by
    unfold rn1 rnx
    rcases hk with q | q <;> subst q
    · rw [gI_r, if_neg (by omega), gI_r, if_pos ⟨rfl, rfl⟩, gI_r, if_neg (by omega), gI_r, if_neg (by omega), gI_r, if_neg (by omega)]; rfl
    · rw [gI_r, if_neg (by omega), gI_r, if_neg (by omega), gI_r, if_neg (by omega), gI_r, if_neg (by omega), gI_r, if_pos ⟨rfl, rfl⟩]; rfl
  rw [eX2_run, gin hj (by omega), gin (show k < 19 by omega) (by omega), tn (show k < 2147483648 by omega), tn (show j < 2147483648 by omega), len_row k (by omega), gin hj (by omega), e1, e7, gin hus (by omega), tn (show us < 2147483648 by omega), e27, e5, er, r17, r10, rx]
  repeat rw [if_pos rfl]
  unfold rnB
  by_cases q : b.1 1 7 ≤ 0
  · rw [if_pos q, if_neg (svc_0 (Or.inl q))]
  · have q0 : ¬ b.1 1 7 = 0 := fun z => q (by rw [z]; decide)
    rw [if_neg q, if_neg q0]
    by_cases z : rnx b j k - rnx b j k / b.1 1 7 * b.1 1 7 = 0
    · rw [if_pos z, if_pos (svc_1 q z)]
    · rw [if_neg z, if_neg (svc_0 (Or.inr z))]
end RUN
