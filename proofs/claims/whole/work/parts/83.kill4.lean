section KILL4
variable {b u b' u' : gMem} {n a r p t B : Nat} {Q : List Nat}
theorem kill_both {j : Nat} (h : BR b u n a r p t Q B) (hj : j < n) (h9 : B + 70 ≤ 1000000000) : ∃ (b' u' : gMem) (r' : Nat) (Q' : List Nat) (d : Nat), mX2_killWithHeld [.ref 0, .int (nI j)] b = some (some (.int (nI d)), b') ∧ (∀ K : Int32 → gMem → Option gR, g_ci (mX10_kills [.ref 0, .int (nI j)] u) (fun a3 u3 => g_cv (mX10_closes [.ref 0] u3) (fun u4 => K a3 u4)) = K (nI d) u') ∧ BR b' u' n a r' p t Q' (B + 70) ∧ im u u' := by
  obtain ⟨hw, h0, hIL⟩ := BR_iff.mp h
  have hn := hw.A.n60
  have hr := hw.A.2.2.2.2.1
  have hq0 : qs u (gwI u 6 0 (nI j)) := ⟨rfl, fun i => by rw [gI_r, if_neg (by omega)], fun i => by rw [gI_r, if_neg (by omega)], fun i => by rw [gI_r, if_neg (by omega)], by rw [gI_r, if_neg (by omega)]⟩
  have hwq := hw.qs hq0
  obtain ⟨b1, x, x1, x2, x3, x4, x5, x6⟩ := kill_first hwq hj (by omega)
  have hn1 : b1.1 3 2 = nI n := x4.A.1
  obtain ⟨b2, -, -, k1, -, -, -, -, k6⟩ := close_both x4
  have h29 : ∀ c i, ¬ (c = 12 ∨ c = 29 ∨ c = 31 ∨ c = 32) → b2.1 c i = b1.1 c i := fun c i hc => k6 c i (by simp; omega)
  have hW : BW (sp b2 b1) (lgU (kiU (gwI u 6 0 (nI j)) j (b.1 0 12 + 1)) x 4 (nI j) (-1) (-1)) n a r p t (Q.filter (fun x => decide (x ≠ j))) (B + 1) := x4.sg (fun c i hc => (sp_out hc).trans (h29 c i hc)) ⟨fun _ => sp_in (by omega), sp_in (by omega), fun s hs => ⟨sp_in (by omega), sp_in (by omega), rfl⟩⟩
  have hc0 : c0 b2 n ≤ 59 := by
    have h1 := cB_strict (f := fun x => decide (b2.1 9 x = 0)) (g := fun _ => true) (d := j) (k := n) hj (by rw [h29 9 j (by omega), x6, if_pos rfl]; rfl) rfl (fun _ _ _ => rfl)
    have h2 := cB_le (fun _ => true) n
    unfold c0
    omega
  have hu10 : (gwI u 6 0 (nI j)).1 1 10 = b.1 0 12 := hwq.e.h.t
  have hu11 : (gwI u 6 0 (nI j)).1 1 11 = nI n := hwq.e.h.n.trans hwq.A.1
  have hrn : rm b2 j (n - (n - 1 + 1)) (n - 1 + 1) = [] := by rw [show n - (n - 1 + 1) = 0 by omega]; rfl
  have hrl := rm_le (b := b2) (x := j) (n - (j + 1)) (j + 1)
  obtain ⟨ν, p1, p2, p3, p4⟩ := m_push (b := b2) (k := j) (v3 := nI (0 + 1)) (S := []) hn (by simp; omega) (n - 1 - j) (n - 1) (by omega) (by omega) (lgU (kiU (gwI u 6 0 (nI j)) j (b.1 0 12 + 1)) x 4 (nI j) (-1) (-1)) (fun i hi => ⟨(hW.e.j hi).f4.trans (sp_out (by omega)), (hW.e.j hi).f3.trans (by rw [sp_out (by omega)])⟩) (by rw [hrn]; exact fun i hi => absurd hi (by simp)) (by rw [hrn]; simp)
  rw [hrn] at p1
  simp only [List.length_nil, Nat.zero_add, List.nil_append] at p1 p2
  have hq : qs (lgU (kiU (gwI u 6 0 (nI j)) j (b.1 0 12 + 1)) x 4 (nI j) (-1) (-1)) ν := ⟨p4, fun i => p3 1 i (by omega), fun i => p3 15 i (by omega), fun i => p3 2 i (by omega), p3 0 27 (by omega)⟩
  obtain ⟨b3, u3, d, g1, g2, g3, g4, g5, g6, g7, g8⟩ := kill_loop (w := b1) (job := j) (2 * c0 b2 n) b2 ν j (j + 1) [] 1 0 (B + 1) (hW.qs hq) rfl hj (by omega) (by omega) (fun k hk hk0 => by
    rw [h29 9 k (by omega)] at hk0
    have e1 := (ip_no (x4.P.1 k hk) (by rw [hk0]; decide)).1
    have hk0' : (sp b2 b1).1 9 k = 0 := (sp_out (by omega)).trans ((h29 9 k (by omega)).trans hk0)
    obtain ⟨b2', u2', r2', c1, c2, c3, c4, c5, c6⟩ := close_both x4
    rw [k1] at c1
    cases c1
    exact (ip_no (c3.P.1 k hk) (by rw [h29 9 k (by omega), hk0]; decide)).1) p2 (by simp) (by omega) (by omega)
  obtain ⟨b4, u4, r4, d1, d2, d3, d4, d5, d6⟩ := close_both g3
  have h3n : b3.1 3 2 = nI n := g8.trans ((h29 3 2 (by omega)).trans hn1)
  obtain ⟨r5, e1, e2, e3⟩ := dE_par (n := n) r b1 (sp b3 b1) r (Nat.le_refl _) hr x4.A.2.2.1 hn1 ((sp_out (by omega)).trans h3n) hn ⟨fun _ => sp_in (by omega), sp_in (by omega), fun s hs => ⟨sp_in (by omega), sp_in (by omega), rfl⟩⟩ b2 b4 (by rw [eX2_dropEmpty, x4.A.2.2.1] at k1; exact k1) (by rw [eX2_dropEmpty, show (sp b3 b1).1 29 3 = b1.1 29 3 from sp_in (by omega), x4.A.2.2.1] at d1; exact d1)
  have hr54 : r5 = r4 := by
    have h1 := d3.A.2.2.1
    rw [e3.2.1, e1, neq (by omega) (by have := d3.A.2.2.2.2.1; omega)] at h1
    exact h1
  subst hr54
  have hsl : ∀ c i, c = 12 ∨ c = 29 ∨ c = 31 ∨ c = 32 → b3.1 c i = b2.1 c i := fun c i hc => g5 c i (by simp; omega)
  have hB3 : BW b3 u4 n a r5 p t (Q.filter (fun x => decide (x ≠ j))) (B + 1 + c0 b2 n) := d3.sg (fun c i hc => ((d6 c i (by simp; omega)).trans (sp_out hc)).symm) ⟨fun i => (hsl 12 i (by omega)).trans (e3.1 i).symm, (hsl 29 3 (by omega)).trans e3.2.1.symm, fun s hs => ⟨(hsl 31 s (by omega)).trans (e3.2.2 s hs).1.symm, (hsl 32 s (by omega)).trans (e3.2.2 s hs).2.1.symm, by rw [g6]; exact (e3.2.2 s hs).2.2.symm⟩⟩
  refine ⟨b3, u4, r5, _, d, ?_, fun K => ?_, BR_iff.mpr ⟨hB3.mono (by omega) h9, fun s hs => ?_, fun k hk h2 => ?_⟩, ?_⟩
  · rw [eX2_killWithHeld, x3, g_cv_some, k1, g_cv_some, nI_1]; exact g1
  · have em : mX10_kills [.ref 0, .int (nI j)] u = some (some (.int (nI d)), u3) := by
      rw [eX10_kills, eX10_kills_11, if_neg (by decide), show (1 : Int32) - 1 = nI 0 from rfl, gin (show 0 < 61 by omega) (by omega), if_pos rfl, tn (by omega), show (gwI u 6 0 (nI j)).1 6 0 = nI j from by rw [gI_r, if_pos ⟨rfl, rfl⟩], m_kill1 (by omega) x1 x2, hu10, hu11, nI_s1 (by omega)]
      rw [show (0 : Int32) + 1 = nI (0 + 1) from rfl, p1]
      exact g2
    rw [em, g_ci_some, d2, g_cv_some]
  · rw [hsl 32 s (by omega), ← (e3.2.2 s hs).2.1]; exact d4 s hs
  · have h22 : b2.1 9 k = 2 := by
      rcases g7 k with q | q
      · exact q.symm.trans h2
      · rw [h2] at q; exact absurd q.2 (by decide)
    rw [h29 9 k (by omega), x6] at h22
    rw [g5 10 k (by decide), h29 10 k (by omega), x5 10 k (by decide)]
    by_cases q : k = j
    · rw [if_pos q] at h22; exact absurd h22 (by decide)
    · rw [if_neg q] at h22; exact hIL k hk h22
  · have i1 : im u (gwI u 6 0 (nI j)) := ⟨fun c i hc => by rw [gI_r, if_neg (by omega)], by rw [gI_r, if_neg (by omega)], fun _ _ _ => rfl⟩
    exact (((i1.tr im_kill).tr ⟨fun c i hc => p3 c i (by omega), p3 0 27 (by omega), fun c i _ => by rw [p4]⟩).tr g4).tr d5
end KILL4
