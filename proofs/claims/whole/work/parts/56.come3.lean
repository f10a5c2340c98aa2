section COME3
variable {b u : gMem} {n a r p t B : Nat} {Q : List Nat}
theorem len_row : ∀ k, k < 19 → gLen LB 0 (4 + 1 + k) = 60 := by decide +kernel
/-- the same but for a job's row, of which nothing is left up to a field -/
def zr (b μ : gMem) (n v : Nat) : Prop := μ.2 = b.2 ∧ (∀ c i, ¬ (5 ≤ c ∧ c < 5 + v ∧ i = n) → μ.1 c i = b.1 c i) ∧ ∀ c, 5 ≤ c → c < 5 + v → μ.1 c n = 0
theorem c_zero (hn : n < 60) (v1 v2 v3 v4 v5 : Int32) : ∀ k v, v + k = 19 → ∀ μ, zr b μ n v → ∃ μ', rX4_add_9 v1 v2 v3 v4 v5 (nI n) (nI v) μ = rX4_add_9 v1 v2 v3 v4 v5 (nI n) (nI 19) μ' ∧ zr b μ' n 19 := by
  intro k
  induction k with
  | zero => intro v hv μ hz; rw [show v = 19 by omega] at *; exact ⟨μ, rfl, hz⟩
  | succ k ih =>
    intro v hv μ hz
    obtain ⟨μ', g1, g2⟩ := ih (v + 1) (by omega) (gwI μ (4 + 1 + v) n 0) ⟨hz.1, fun c i hc => by rw [gI_r, if_neg (by omega)]; exact hz.2.1 c i (by omega), fun c h1 h2 => by
      rw [gI_r]
      by_cases q : c = 4 + 1 + v
      · rw [if_pos ⟨q, rfl⟩]
      · rw [if_neg (fun z => q z.1)]; exact hz.2.2 c h1 (by omega)⟩
    refine ⟨μ', ?_, g2⟩
    rw [eX4_add_9, if_neg (show ¬ (19 : Int32) ≤ nI v from nI_ge (a := v) (b := 19) (by omega) (by omega)), gin (show v < 19 by omega) (by omega), if_pos rfl, tn (show v < 2147483648 by omega), len_row v (by omega), gin hn (by omega), if_pos rfl, tn (show n < 2147483648 by omega), nI_1]
    exact g1
theorem c_add {sz wk us : Nat} {af tm : Int32} (h3 : b.1 3 2 = nI n) (hn : n < 60) (hsz : sz ≤ 32) : ∃ b1, mX4_add [.ref 3, .int (nI sz), .int (nI wk), .int (nI us), .int af, .int tm] b = some (some (.int (nI n)), b1) ∧ b1.2 = b.2 ∧ (∀ c i, (c < 5 ∨ 23 < c) → ¬ (c = 3 ∧ i = 2) → b1.1 c i = b.1 c i) ∧ (∀ c i, 5 ≤ c → c ≤ 23 → i ≠ n → b1.1 c i = b.1 c i) ∧ b1.1 3 2 = nI (n + 1) ∧ (b1.1 5 n = nI sz ∧ b1.1 6 n = nI wk ∧ b1.1 7 n = nI us ∧ b1.1 8 n = af ∧ b1.1 9 n = 0 ∧ b1.1 10 n = nI wk ∧ b1.1 11 n = nI wk ∧ b1.1 12 n = -1 ∧ b1.1 13 n = -1 ∧ b1.1 14 n = nI (wd sz) ∧ b1.1 15 n = 0 ∧ b1.1 16 n = 0 ∧ b1.1 17 n = 0 ∧ b1.1 18 n = tm ∧ b1.1 19 n = -1 ∧ b1.1 20 n = -1 ∧ b1.1 21 n = 0 ∧ b1.1 22 n = 0 ∧ b1.1 23 n = 0) := by
  obtain ⟨μ, g1, g2, g3, g4⟩ := c_zero (b := b) hn (nI sz) (nI wk) (nI us) af tm 19 0 (by omega) b ⟨rfl, fun _ _ _ => rfl, fun c h1 h2 => by omega⟩
  refine ⟨gwI (gwI (gwI (gwI (gwI (gwI (gwI (gwI (gwI (gwI (gwI (gwI (gwI μ 5 n (nI sz)) 6 n (nI wk)) 7 n (nI us)) 8 n af) 10 n (nI wk)) 11 n (nI wk)) 12 n (-1)) 13 n (-1)) 14 n (nI (wd sz))) 18 n tm) 19 n (-1)) 20 n (-1)) 3 2 (nI (n + 1)), ?_, g2, ?_, ?_, rfl, ?_⟩
  · rw [eX4_add, h3, show rX4_add_9 (nI sz) (nI wk) (nI us) af tm (nI n) 0 b = _ from g1, eX4_add_9, if_pos (by decide), gin hn (by omega), if_pos rfl, if_pos rfl, if_pos rfl, if_pos rfl, if_pos rfl, if_pos rfl, if_pos rfl, if_pos rfl, tn (show n < 2147483648 by omega), c_widthOf hsz, g_ci_some, if_pos rfl, if_pos rfl, if_pos rfl, if_pos rfl]
    have e : (gwI (gwI (gwI (gwI (gwI (gwI (gwI (gwI (gwI (gwI (gwI (gwI μ 5 n (nI sz)) 6 n (nI wk)) 7 n (nI us)) 8 n af) 10 n (nI wk)) 11 n (nI wk)) 12 n (-1)) 13 n (-1)) 14 n (nI (wd sz))) 18 n tm) 19 n (-1)) 20 n (-1)).1 3 2 = nI n := (g3 3 2 (by omega)).trans h3
    rw [e, nI_1]
  · intro c i h1 h2
    rw [gI_r, if_neg (by omega), gI_r, if_neg (by omega), gI_r, if_neg (by omega), gI_r, if_neg (by omega), gI_r, if_neg (by omega), gI_r, if_neg (by omega), gI_r, if_neg (by omega), gI_r, if_neg (by omega), gI_r, if_neg (by omega), gI_r, if_neg (by omega), gI_r, if_neg (by omega), gI_r, if_neg (by omega), gI_r, if_neg (by omega)]
    exact g3 c i (by omega)
  · intro c i h1 h2 h3
    rw [gI_r, if_neg (by omega), gI_r, if_neg (by omega), gI_r, if_neg (by omega), gI_r, if_neg (by omega), gI_r, if_neg (by omega), gI_r, if_neg (by omega), gI_r, if_neg (by omega), gI_r, if_neg (by omega), gI_r, if_neg (by omega), gI_r, if_neg (by omega), gI_r, if_neg (by omega), gI_r, if_neg (by omega), gI_r, if_neg (by omega)]
    exact g3 c i (by omega)
  · have g9 := g4 9 (by omega) (by omega)
    have g15 := g4 15 (by omega) (by omega)
    have g16 := g4 16 (by omega) (by omega)
    have g17 := g4 17 (by omega) (by omega)
    have g21 := g4 21 (by omega) (by omega)
    have g22 := g4 22 (by omega) (by omega)
    have g23 := g4 23 (by omega) (by omega)
    simp [gI_r, g9, g15, g16, g17, g21, g22, g23]
theorem c_toLine {j l : Nat} (h3 : b.1 3 3 = nI l) (hl : l < 60) (hj : j < 60) : mX4_toLine [.ref 3, .int (nI j)] b = some (none, gwI (gwI (gwI b 9 j 1) 24 l (nI j)) 3 3 (nI (l + 1))) := by
  have e1 : (gwI b 9 j 1).1 3 3 = nI l := h3
  have e2 : (gwI (gwI b 9 j 1) 24 l (nI j)).1 3 3 = nI l := h3
  rw [eX4_toLine, gin hj (by omega), if_pos rfl, tn (show j < 2147483648 by omega), e1, if_neg (show ¬ (60 : Int32) ≤ nI l from nI_ge (a := l) (b := 60) hl (by omega)), gin hl (by omega), if_pos rfl, tn (show l < 2147483648 by omega), e2, nI_1]
theorem m_waits {j : Nat} (hj : j < 60) : mX10_waits [.ref 0, .int (nI j)] u = some (none, wH (wA (wA u j 4 1) j 19 (u.1 1 17)) 17 (u.1 1 17 + 1)) := by
  rw [eX10_waits, lay_4 hj, g_cv_some, wA_h (by omega), lay_19 hj, g_cv_some, more_17, g_cv_some, wA_h (by omega), wA_h (by omega)]
end COME3
