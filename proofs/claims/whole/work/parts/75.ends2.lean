section ENDS2
variable {b u b' u' : gMem} {n a r p t B : Nat} {Q : List Nat}
theorem ends_both (h : BW b u n a r p t Q B) (h9 : B + 120 ≤ 1000000000) (hIn : ∀ x, n ≤ x → x < 60 → b.1 9 x = 2 → b.1 10 x ≠ 0) : ∃ (b' u' : gMem) (r' : Nat) (Q' : List Nat) (d : Nat), (∀ K : Int32 → gMem → Option gR, g_ci (mX2_endJobs [.ref 0] b) (fun a8 u8 => g_cv (mX2_wakeHeld [.ref 0] u8) (fun u9 => K a8 u9)) = K (nI d) b') ∧ mX10_ends [.ref 0] u = some (some (.int (nI d)), u') ∧ BR b' u' n a r' p t Q' (B + 120) ∧ im u u' ∧ d ≤ 60 ∧ cB (fun x => decide (b'.1 9 x = 3)) n = d + cB (fun x => decide (b.1 9 x = 3)) n ∧ (∀ x, b'.1 9 x = 4 → b.1 9 x = 4) := by
  have hn := h.A.n60
  obtain ⟨μ1, ν1, d, g1, g2, g3, g4, g5, g6, g7, g8, g9, g10⟩ := ends_loop n 0 (by omega) b u 0 B h (by omega) (fun x hx => by omega)
  obtain ⟨μ2, ν2, r', c1, c2, c3, c4, c5, c6⟩ := close_both g3
  obtain ⟨μ3, ν3, Q', w1, w2, w3, w4, w5, w6⟩ := wake_loop (d := nI d) n 0 (by omega) μ2 ν2 Q (B + n) c3 (by omega)
  have h29 : ∀ x, μ2.1 9 x = μ1.1 9 x := fun x => c6 9 x (by decide)
  have hcnt : cB (fun x => decide (μ3.1 9 x = 3)) n = cB (fun x => decide (μ1.1 9 x = 3)) n := cB_congr (fun x hx => by
    have hz := w6 x
    rw [h29] at hz
    rcases hz with hz | hz
    · rw [hz]
    · rw [hz.1, hz.2]; rfl)
  refine ⟨μ3, ν3, r', Q', d, fun K => ?_, ?_, BR_iff.mpr ⟨w3.mono (by omega) h9, fun s hs => ?_, fun x hx h2 => ?_⟩, (g6.tr c5).tr w4, by omega, by rw [hcnt]; omega, fun x h4 => ?_⟩
  · rw [eX2_endJobs, show rX2_endJobs_4 0 0 b = _ from g1, c1, g_cv_some, g_ci_some, eX2_wakeHeld, show rX2_wakeHeld_2 0 μ2 = _ from w1, g_cv_some]
  · rw [eX10_ends, show rX10_ends_4 0 0 u = _ from g2, c2, g_cv_some]; exact w2
  · rw [w5 32 s (by decide)]; exact c4 s hs
  · have e2 : μ1.1 9 x = 2 := by
      have hz := w6 x
      rw [h29] at hz
      rcases hz with hz | hz
      · exact hz.symm.trans h2
      · rw [h2] at hz; exact absurd hz.2 (by decide)
    rw [w5 10 x (by decide), c6 10 x (by decide)]
    by_cases hxn : x < n
    · exact fun z => g4 x hxn ⟨e2, z⟩
    · rw [g5 x]
      exact hIn x (by omega) hx ((g7 x (by omega)).symm.trans e2)
  · have hz := w6 x
    rw [h29] at hz
    rcases hz with hz | hz
    · have hy := g9 x
      rw [← hz, h4] at hy
      rcases hy with hy | hy
      · exact hy.symm
      · exact absurd hy.2 (by decide)
    · rw [h4] at hz; exact absurd hz.2 (by decide)
end ENDS2
