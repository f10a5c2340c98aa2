section COME4
variable {b u : gMem} {n a r p t B : Nat} {Q : List Nat}
def zu (u μ : gMem) (n v : Nat) : Prop := μ.2 = u.2 ∧ (∀ c i, ¬ (c = 1 ∧ 42 + 20 * n ≤ i ∧ i < 42 + 20 * n + v) → μ.1 c i = u.1 c i) ∧ ∀ w, w < v → mA μ n w = 0
theorem m_zero (hn : n < 60) (v1 v2 v3 v4 : Int32) : ∀ k v, v + k = 20 → ∀ μ, zu u μ n v → ∃ μ', rX10_comes_12 v1 v2 v3 v4 (nI n) (nI v) μ = rX10_comes_12 v1 v2 v3 v4 (nI n) (nI 20) μ' ∧ zu u μ' n 20 := by
  intro k
  induction k with
  | zero => intro v hv μ hz; rw [show v = 20 by omega] at *; exact ⟨μ, rfl, hz⟩
  | succ k ih =>
    intro v hv μ hz
    obtain ⟨μ', g1, g2⟩ := ih (v + 1) (by omega) (wA μ n v 0) ⟨hz.1, fun c i hc => by unfold wA; rw [gI_r, if_neg (by omega)]; exact hz.2.1 c i (by omega), fun w hw => by
      rw [mA_wA (by omega) (by omega) (by omega) (by omega)]
      by_cases q : w = v
      · rw [if_pos ⟨rfl, q⟩]
      · rw [if_neg (fun z => q z.2)]; exact hz.2.2 w (by omega)⟩
    refine ⟨μ', ?_, g2⟩
    rw [eX10_comes_12, if_neg (show ¬ (20 : Int32) ≤ nI v from nI_ge (a := v) (b := 20) (by omega) (by omega)), lay_n hn (by omega), g_cv_some, nI_1]
    exact g1
theorem m_comes0 {sz wk us : Nat} {af : Int32} (h3 : u.1 1 11 = nI n) (hn : n < 60) (hsz : sz ≤ 32) : ∃ u1, u1.2 = u.2 ∧ (∀ c i, c ≠ 1 → u1.1 c i = u.1 c i) ∧ (∀ i, (i < 42 + 20 * n ∨ 42 + 20 * n + 20 ≤ i) → i ≠ 11 → u1.1 1 i = u.1 1 i) ∧ u1.1 1 11 = nI (n + 1) ∧ (mA u1 n 0 = nI sz ∧ mA u1 n 1 = nI wk ∧ mA u1 n 2 = nI us ∧ mA u1 n 3 = af + 1 ∧ mA u1 n 4 = 0 ∧ mA u1 n 5 = nI wk ∧ mA u1 n 6 = nI wk ∧ mA u1 n 7 = 0 ∧ mA u1 n 8 = 0 ∧ mA u1 n 9 = nI (wd sz) ∧ mA u1 n 10 = 0 ∧ mA u1 n 11 = 0 ∧ mA u1 n 12 = 0 ∧ mA u1 n 13 = u.1 1 10 ∧ mA u1 n 14 = 0 ∧ mA u1 n 15 = 0 ∧ mA u1 n 16 = 0 ∧ mA u1 n 17 = 0 ∧ mA u1 n 18 = 0) ∧
    mX10_comes [.ref 0, .int (nI sz), .int (nI wk), .int (nI us), .int af] u = (g_cv (mX10_writes [.ref 0, .int 0, .int (nI n), .int (-1), .int (-1)] u1) (fun u11 => (if af = (-1) then (g_cv (mX10_waits [.ref 0, .int (nI n)] u11) (fun u12 => some (some (.int (nI n)), u12))) else (g_ci (mX10_at [.ref 0, .int af, .int 4] u11) (fun a13 u13 => (if a13 = 3 then (g_cv (mX10_waits [.ref 0, .int (nI n)] u13) (fun u14 => some (some (.int (nI n)), u14))) else some (some (.int (nI n)), u13))))))) := by
  obtain ⟨μ, g1, g2, g3, g4⟩ := m_zero (u := u) hn (nI sz) (nI wk) (nI us) af 20 0 (by omega) u ⟨rfl, fun _ _ _ => rfl, fun c h1 => by omega⟩
  refine ⟨wH (wA (wA (wA (wA (wA (wA (wA (wA μ n 0 (nI sz)) n 1 (nI wk)) n 2 (nI us)) n 3 (af + 1)) n 5 (nI wk)) n 6 (nI wk)) n 9 (nI (wd sz))) n 13 (u.1 1 10)) 11 (nI (n + 1)), g2, ?_, ?_, ?_, ?_, ?_⟩
  · intro c i hc
    rw [wH_c hc, wA_c hc, wA_c hc, wA_c hc, wA_c hc, wA_c hc, wA_c hc, wA_c hc, wA_c hc]
    exact g3 c i (by omega)
  · intro i h1 h2
    unfold wH wA
    rw [gI_r, if_neg (by omega), gI_r, if_neg (by omega), gI_r, if_neg (by omega), gI_r, if_neg (by omega), gI_r, if_neg (by omega), gI_r, if_neg (by omega), gI_r, if_neg (by omega), gI_r, if_neg (by omega), gI_r, if_neg (by omega)]
    exact g3 1 i (by omega)
  · rw [wH_h, if_pos rfl]
  · have k4 := g4 4 (by omega)
    have k7 := g4 7 (by omega)
    have k8 := g4 8 (by omega)
    have k10 := g4 10 (by omega)
    have k11 := g4 11 (by omega)
    have k12 := g4 12 (by omega)
    have k14 := g4 14 (by omega)
    have k15 := g4 15 (by omega)
    have k16 := g4 16 (by omega)
    have k17 := g4 17 (by omega)
    have k18 := g4 18 (by omega)
    have hr : ∀ w, w < 20 → mA (wH (wA (wA (wA (wA (wA (wA (wA (wA μ n 0 (nI sz)) n 1 (nI wk)) n 2 (nI us)) n 3 (af + 1)) n 5 (nI wk)) n 6 (nI wk)) n 9 (nI (wd sz))) n 13 (u.1 1 10)) 11 (nI (n + 1))) n w = if w = 13 then u.1 1 10 else if w = 9 then nI (wd sz) else if w = 6 then nI wk else if w = 5 then nI wk else if w = 3 then af + 1 else if w = 2 then nI us else if w = 1 then nI wk else if w = 0 then nI sz else mA μ n w := by
      intro w hw
      rw [mA_wH (by omega) (by omega) (by omega), mA_wA (by omega) (by omega) (by omega) (by omega), mA_wA (by omega) (by omega) (by omega) (by omega), mA_wA (by omega) (by omega) (by omega) (by omega), mA_wA (by omega) (by omega) (by omega) (by omega), mA_wA (by omega) (by omega) (by omega) (by omega), mA_wA (by omega) (by omega) (by omega) (by omega), mA_wA (by omega) (by omega) (by omega) (by omega), mA_wA (by omega) (by omega) (by omega) (by omega)]
      simp
    rw [hr 0 (by omega), hr 1 (by omega), hr 2 (by omega), hr 3 (by omega), hr 4 (by omega), hr 5 (by omega), hr 6 (by omega), hr 7 (by omega), hr 8 (by omega), hr 9 (by omega), hr 10 (by omega), hr 11 (by omega), hr 12 (by omega), hr 13 (by omega), hr 14 (by omega), hr 15 (by omega), hr 16 (by omega), hr 17 (by omega), hr 18 (by omega)]
    simp [k4, k7, k8, k10, k11, k12, k14, k15, k16, k17, k18]
  · have e10 : (wA (wA (wA (wA (wA (wA (wA μ n 0 (nI sz)) n 1 (nI wk)) n 2 (nI us)) n 3 (af + 1)) n 5 (nI wk)) n 6 (nI wk)) n 9 (nI (wd sz))).1 1 10 = u.1 1 10 := by
      rw [wA_h (by omega), wA_h (by omega), wA_h (by omega), wA_h (by omega), wA_h (by omega), wA_h (by omega), wA_h (by omega)]; exact g3 1 10 (by omega)
    have e11 : (wA (wA (wA (wA (wA (wA (wA (wA μ n 0 (nI sz)) n 1 (nI wk)) n 2 (nI us)) n 3 (af + 1)) n 5 (nI wk)) n 6 (nI wk)) n 9 (nI (wd sz))) n 13 (u.1 1 10)).1 1 11 = nI n := by
      rw [wA_h (by omega), wA_h (by omega), wA_h (by omega), wA_h (by omega), wA_h (by omega), wA_h (by omega), wA_h (by omega), wA_h (by omega)]; exact (g3 1 11 (by omega)).trans h3
    rw [eX10_comes, h3, show rX10_comes_12 (nI sz) (nI wk) (nI us) af (nI n) 0 u = _ from g1, eX10_comes_12, if_pos (by decide), lay_0 hn, g_cv_some, lay_1 hn, g_cv_some, lay_2 hn, g_cv_some, lay_3 hn, g_cv_some, lay_5 hn, g_cv_some, lay_6 hn, g_cv_some, m_widthOf hsz, g_ci_some, lay_9 hn, g_cv_some, e10, lay_13 hn, g_cv_some, more_11, e11, nI_1, g_cv_some]
end COME4
