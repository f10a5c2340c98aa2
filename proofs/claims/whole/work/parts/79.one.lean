/-! a quantum on both sides -/
section ONE
variable {b u b' u' : gMem} {n a r p t B : Nat} {Q : List Nat}
def c3 (b : gMem) (n : Nat) : Nat := cB (fun x => decide (b.1 9 x = 3)) n
theorem c3_gf (h : gf b b') : c3 b' n = c3 b n := cB_congr (fun x _ => by
  rcases h x with q | q
  · rw [q]
  · rw [q.1, q.2]; rfl)
theorem c3_afr {n' : Nat} (h : afr n n' b b') (hn : n ≤ n') : c3 b' n' = c3 b n := by
  unfold c3
  rw [show n' = n + (n' - n) by omega, cB_add, cB_congr (g := fun x => decide (b.1 9 x = 3)) (fun x hx => by rw [h.1 x hx]), cB_zero (k := n' - n) (fun x hx => by
    rcases h.2.1 (n + x) (by omega) (by omega) with q | q <;> rw [q] <;> rfl)]
  omega
theorem one_both (h : BR b u n a r p t Q B) (ht : t + 1 ≤ 60000) (h9 : B + 700 ≤ 1000000000) : ∃ (b' u' : gMem) (n' a' r' : Nat) (Q' : List Nat) (d : Nat), mX2_runOne [.ref 0] b = some (some (.int (nI d)), b') ∧ (∀ N acc k, k < N → N < 2147483648 → rX10_quanta_4 (nI N) acc (nI k) u = rX10_quanta_4 (nI N) (acc + nI d) (nI (k + 1)) u') ∧ BR b' u' n' a' r' p (t + 1) Q' (B + 700) ∧ im u u' ∧ n ≤ n' ∧ d ≤ 60 ∧ c3 b' n' = d + c3 b n ∧ (∀ x, x < n → b'.1 9 x = 4 → b.1 9 x = 4) := by
  obtain ⟨b1, u1, n1, a1, Q1, g1, g2, g3, g4, g5, g6⟩ := arr_both h (by omega)
  obtain ⟨b2, u2, r2, Q2, k1, k2, k3, k4, k5⟩ := go_both g3 (by omega)
  obtain ⟨b3, u3, l1, l2, l3, l4, l5, l6⟩ := turn_both k3 ht (by omega)
  obtain ⟨hw2, h02, hIL2⟩ := BR_iff.mp k3
  obtain ⟨b4, u4, r4, Q4, d, m1, m2, m3, m4, m5, m6, m7⟩ := ends_both l3 (by omega) (fun x hx h60 h2 => by rw [l6 x hx]; exact hIL2 x h60 ((l5 x).symm.trans h2))
  have ht9 : u4.1 1 9 + 1 = b4.1 1 9 := (BR_iff.mp m3).1.e.1.1.2.2.2.2.2.2.2.2.2
  have hc4 : c3 b4 n1 = d + c3 b n := by
    have e1 : c3 b3 n1 = c3 b2 n1 := cB_congr (fun x _ => by rw [l5 x])
    have e2 := c3_gf (n := n1) k5
    have e3 := c3_afr g6 g5
    have e4 : c3 b4 n1 = d + c3 b3 n1 := m6
    omega
  have hk4 : ∀ x, x < n → b4.1 9 x = 4 → b.1 9 x = 4 := fun x hx h4 => by
    have e1 := m7 x h4
    rw [l5 x] at e1
    rcases k5 x with q | q
    · rw [q, g6.1 x hx] at e1; exact e1
    · rw [q.2] at e1; exact absurd e1 (by decide)
  have fin : ∃ (b5 u5 : gMem) (r5 : Nat), (∀ K : gMem → Option gR, (if b4.1 1 9 = 1 then g_ci (mX2_unifyAll [.ref 0] b4) (fun _ u11 => K u11) else K b4) = K b5) ∧ (∀ K : gMem → Option gR, (if u4.1 1 9 + 1 = 1 then g_ci (mX10_unifies [.ref 0] u4) (fun _ u11 => K u11) else K u4) = K u5) ∧ BR b5 u5 n1 a1 r5 p (t + 1) Q4 (B + 120 + 130 + 1 + 120 + 8) ∧ im u4 u5 ∧ (∀ i, b5.1 9 i = b4.1 9 i) := by
    by_cases q : b4.1 1 9 = 1
    · obtain ⟨b5, u5, r5, g, w1, w2, w3, w4, w5⟩ := unify_both m3 (by omega)
      exact ⟨b5, u5, r5, fun K => by rw [if_pos q, w1, g_ci_some], fun K => by rw [ht9, if_pos q, w2, g_ci_some], w3, w4, w5⟩
    · obtain ⟨hw4, h04⟩ := BR_iff.mp m3
      exact ⟨b4, u4, r4, fun K => by rw [if_neg q], fun K => by rw [ht9, if_neg q], BR_iff.mpr ⟨hw4.mono (by omega) (by omega), h04⟩, im.rf, fun _ => rfl⟩
  obtain ⟨b5, u5, r5, w1, w2, w3, w4, w5⟩ := fin
  obtain ⟨b6, u6, r6, Q6, x1, x2, x3, x4, x5⟩ := go_both w3 (by omega)
  obtain ⟨hw6, h06⟩ := BR_iff.mp x3
  refine ⟨b6, u6, n1, a1, r6, Q6, d, ?_, fun N acc k hk hN => ?_, BR_iff.mpr ⟨hw6.mono (by omega) h9, h06⟩, ((((g4.tr k4).tr l4).tr m4).tr w4).tr x4, g5, m5, ?_, fun x hx h4 => ?_⟩
  · rw [eX2_runOne, g1, g_cv_some, k1, g_cv_some]
    refine (l1 (fun μ => (g_ci (mX2_endJobs [.ref 0] μ) (fun a8 u8 => (g_cv (mX2_wakeHeld [.ref 0] u8) (fun u9 => (if (u9.1 1 9) = 1 then (g_ci (mX2_unifyAll [.ref 0] u9) (fun a11 u11 => (g_cv (mX2_goOn [.ref 0] u11) (fun u12 => some (some (.int a8), u12))))) else (g_cv (mX2_goOn [.ref 0] u9) (fun u10 => some (some (.int a8), u10)))))))))).trans ?_
    refine (m1 (fun a8 u9 => (if (u9.1 1 9) = 1 then (g_ci (mX2_unifyAll [.ref 0] u9) (fun a11 u11 => (g_cv (mX2_goOn [.ref 0] u11) (fun u12 => some (some (.int a8), u12))))) else (g_cv (mX2_goOn [.ref 0] u9) (fun u10 => some (some (.int a8), u10)))))).trans ?_
    refine (w1 (fun μ => g_cv (mX2_goOn [.ref 0] μ) (fun u12 => some (some (.int (nI d)), u12)))).trans ?_
    show g_cv (mX2_goOn [.ref 0] b5) (fun u12 => some (some (.int (nI d)), u12)) = _
    rw [x1, g_cv_some]
  · rw [eX10_quanta_4, if_neg (nI_ge hk hN), g2, g_cv_some, k2, g_cv_some]
    refine (l2 (fun u4 => (g_ci (mX10_ends [.ref 0] u4) (fun a5 u5 => (g_ci (mX10_settingOf [.ref 0, .int 9] u5) (fun a6 u6 => (if a6 = 1 then (g_ci (mX10_unifies [.ref 0] u6) (fun a8 u8 => (g_cv (mX10_goesOn [.ref 0] u8) (fun u9 => rX10_quanta_4 (nI N) (acc + a5) (nI k + 1) u9)))) else (g_cv (mX10_goesOn [.ref 0] u6) (fun u7 => rX10_quanta_4 (nI N) (acc + a5) (nI k + 1) u7))))))))).trans ?_
    show g_ci (mX10_ends [.ref 0] u3) _ = _
    rw [m2, g_ci_some, set_9, g_ci_some]
    refine (w2 (fun μ => g_cv (mX10_goesOn [.ref 0] μ) (fun u7 => rX10_quanta_4 (nI N) (acc + nI d) (nI k + 1) u7))).trans ?_
    show g_cv (mX10_goesOn [.ref 0] u5) _ = _
    rw [x2, g_cv_some, nI_1]
  · have e1 := c3_gf (n := n1) x5
    have e2 : c3 b5 n1 = c3 b4 n1 := cB_congr (fun x _ => by rw [w5 x])
    omega
  · rcases x5 x with q | q
    · rw [q, w5 x] at h4; exact hk4 x hx h4
    · rw [q.2] at h4; exact absurd h4 (by decide)
end ONE
