/-! writes that commute; widths -/
theorem gwI_comm {u : gMem} {c i c' i' : Nat} {x y : Int32} (h : ¬ (c = c' ∧ i = i')) : gwI (gwI u c i x) c' i' y = gwI (gwI u c' i' y) c i x := by
  refine Prod.ext (funext fun d => funext fun k => ?_) rfl
  show (gwI (gwI u c i x) c' i' y).1 d k = (gwI (gwI u c' i' y) c i x).1 d k
  simp only [gI_r]
  by_cases q1 : d = c ∧ k = i
  · rw [if_pos q1, if_neg (fun q => h ⟨q1.1.symm.trans q.1, q1.2.symm.trans q.2⟩), if_pos q1]
  · rw [if_neg q1, if_neg q1]
theorem lgU_comm {u : gMem} {x i : Nat} {wh j s c y : Int32} (h : i < 1490 ∨ 1790 ≤ i) (h2 : i ≠ 15) (h3 : i ≠ 10) : gwI (lgU u x wh j s c) 1 i y = lgU (gwI u 1 i y) x wh j s c := by
  have hk : x % 60 < 60 := Nat.mod_lt _ (by omega)
  have e10 : (gwI u 1 i y).1 1 10 = u.1 1 10 := by rw [gI_r, if_neg (by omega)]
  unfold lgU wH wL
  rw [e10, gwI_comm (by omega), gwI_comm (c := 1) (i := 1490 + 5 * (x % 60) + 4) (by omega), gwI_comm (c := 1) (i := 1490 + 5 * (x % 60) + 3) (by omega), gwI_comm (c := 1) (i := 1490 + 5 * (x % 60) + 2) (by omega), gwI_comm (c := 1) (i := 1490 + 5 * (x % 60) + 1) (by omega), gwI_comm (c := 1) (i := 1490 + 5 * (x % 60) + 0) (by omega)]
theorem wd_chain {s e : Nat} (hs : s ≤ 32) (he : e ≤ 5) (h : ∀ d, d < e → 2 ^ d < s) : (s ≤ 2 ^ e → wd s = 2 ^ e) := by
  intro h2
  rcases pw5 he with q | q | q | q | q | q <;> subst q
  · unfold wd; grind
  · have := h 0 (by omega); unfold wd; grind
  · have := h 1 (by omega); unfold wd; grind
  · have := h 2 (by omega); unfold wd; grind
  · have := h 3 (by omega); unfold wd; grind
  · have := h 4 (by omega); unfold wd; grind
theorem c_widthOf {s : Nat} {u : gMem} (hs : s ≤ 32) : mX1_widthOf [.int (nI s)] u = some (some (.int (nI (wd s))), u) := by
  have key : ∀ k e, e + k = 5 → (∀ d, d < e → 2 ^ d < s) → rX1_widthOf_2 (nI s) (nI (2 ^ e)) u = some (some (.int (nI (wd s))), u) := by
    intro k
    induction k with
    | zero =>
      intro e he h
      rw [show e = 5 by omega] at *
      rw [eX1_widthOf_2, if_pos (nI_le (by omega) (by omega)), wd_chain hs (by omega) h (by omega)]
    | succ k ih =>
      intro e he h
      have h6 := pw6 (show e ≤ 6 by omega)
      have h5 : 2 ^ e < 32 := by rcases pw5 (show e ≤ 5 by omega) with q | q | q | q | q | q <;> subst q <;> omega
      rw [eX1_widthOf_2]
      by_cases q : s ≤ 2 ^ e
      · rw [if_pos (nI_le q (by omega)), wd_chain hs (by omega) h q]
      · rw [if_neg (nI_ge (by omega) (by omega)), if_neg (show ¬ (32 : Int32) ≤ nI (2 ^ e) from nI_ge (a := 2 ^ e) (b := 32) h5 (by omega)), show (2 : Int32) = nI 2 from rfl, nml, ← Nat.pow_succ]
        refine ih (e + 1) (by omega) (fun d hd => ?_)
        by_cases z : d = e
        · subst z; omega
        · exact h d (by omega)
  rw [eX1_widthOf]
  exact key 5 0 (by omega) (fun d hd => by omega)
theorem m_widthOf {s : Nat} {u : gMem} (hs : s ≤ 32) : mX10_widthOf [.ref 0, .int (nI s)] u = some (some (.int (nI (wd s))), u) := by
  have key : ∀ k e, e + k = 5 → (∀ d, d < e → 2 ^ d < s) → rX10_widthOf_2 (nI s) (nI (2 ^ e)) u = some (some (.int (nI (wd s))), u) := by
    intro k
    induction k with
    | zero =>
      intro e he h
      rw [show e = 5 by omega] at *
      rw [eX10_widthOf_2, if_pos (nI_le (by omega) (by omega)), wd_chain hs (by omega) h (by omega)]
    | succ k ih =>
      intro e he h
      have h6 := pw6 (show e ≤ 6 by omega)
      have h5 : 2 ^ e < 32 := by rcases pw5 (show e ≤ 5 by omega) with q | q | q | q | q | q <;> subst q <;> omega
      rw [eX10_widthOf_2]
      by_cases q : s ≤ 2 ^ e
      · rw [if_pos (nI_le q (by omega)), wd_chain hs (by omega) h q]
      · rw [if_neg (nI_ge (by omega) (by omega)), show (2 : Int32) = nI 2 from rfl, nml, Nat.mul_comm, ← Nat.pow_succ]
        refine ih (e + 1) (by omega) (fun d hd => ?_)
        by_cases z : d = e
        · subst z; omega
        · exact h d (by omega)
  rw [eX10_widthOf]
  exact key 5 0 (by omega) (fun d hd => by omega)
