section URGE2
variable {b u b' u' μ μ' ν : gMem} {n a r p t B k o : Nat} {Q : List Nat}
theorem gw_id {c i : Nat} : gwI b c i (b.1 c i) = b := Prod.ext (funext fun d => funext fun e => by
  rw [gI_r]
  by_cases q : d = c ∧ e = i
  · rw [if_pos q, q.1, q.2]
  · rw [if_neg q]) rfl
theorem pU_0 {j X i : Nat} : (pU u b j X).1 0 i = u.1 0 i := by
  unfold pU liU
  simp (disch := omega) only [wA_c, wH_c, lg_c]
theorem ugb_loop {b0 : gMem} {j s c : Nat} {X : Int32} (hs : s < 8) : ∀ k i, i + k = n → ∀ (b u : gMem) (Q : List Nat) (B : Nat), BW b u n a r p t Q B → IL b → B + 2 * k ≤ 1000000000 → j ∈ Q → u.1 0 20 = nI s → u.1 0 21 = nI c → (∀ x, x < i → b.1 9 x = 2 → b.1 12 x = nI s → bl b x &&& X = 0) → (∀ x, x < n → (∀ d, d ∈ [9, 12, 13, 14] → b.1 d x = b0.1 d x) ∨ (b0.1 12 x = nI s ∧ b.1 9 x = 1)) → b.1 0 13 = b0.1 0 13 → b.1 14 j = b0.1 14 j → ∃ (b' u' : gMem) (Q' : List Nat), rX2_putBack_2 (nI s) X (nI i) b = some (none, b') ∧ rX10_urge_33 (nI j) X (nI i) u = rX10_urge_33 (nI j) X (nI n) u' ∧ BW b' u' n a r p t Q' (B + 2 * k) ∧ IL b' ∧ j ∈ Q' ∧ u'.1 0 20 = nI s ∧ u'.1 0 21 = nI c ∧ (∀ x, x < n → b'.1 9 x = 2 → b'.1 12 x = nI s → bl b' x &&& X = 0) ∧ (∀ x, x < n → (∀ d, d ∈ [9, 12, 13, 14] → b'.1 d x = b0.1 d x) ∨ (b0.1 12 x = nI s ∧ b'.1 9 x = 1)) ∧ b'.1 0 13 = b0.1 0 13 ∧ b'.1 14 j = b0.1 14 j ∧ im u u' := by
  intro k
  induction k with
  | zero =>
    intro i hi b u Q B h hIL hB hj h20 h21 hd hx h13 h14
    obtain rfl : i = n := by omega
    have hn := h.A.n60
    exact ⟨b, u, Q, by rw [eX2_putBack_2, h.A.1, if_pos (nI_le (Nat.le_refl _) (by omega))], rfl, h, hIL, hj, h20, h21, hd, hx, h13, h14, im.rf⟩
  | succ k ih =>
    intro i hi b u Q B h hIL hB hj h20 h21 hd hx h13 h14
    have hn := h.A.n60
    have hin : i < n := by omega
    have hr1 : rX10_urge_33 (nI j) X (nI i) u = (if pbW b (nI s) X i then g_cv (mX10_putsBack [.ref 0, .int (nI i)] u) (fun u4 => rX10_urge_33 (nI j) X (nI (i + 1)) u4) else rX10_urge_33 (nI j) X (nI (i + 1)) u) := by
      rw [eX10_urge_33, h.e.h.n, h.A.1, if_neg (nI_ge hin (by omega)), h20, m_isInWay h hin hs, g_ci_some, nI_1]
      cases pbW b (nI s) X i with
      | true => rw [show (if true = true then (1 : Int32) else 0) = 1 from rfl, if_neg (show ¬ (1 : Int32) = 0 by decide), if_pos rfl]
      | false => rw [show (if false = true then (1 : Int32) else 0) = 0 from rfl, if_pos rfl, if_neg (by decide)]
    have hself : BW (gwI b 0 13 (b.1 0 13)) u n a r p t Q B := by rw [gw_id]; exact h
    rcases back_step (v1 := nI s) (v2 := X) hself (by omega) hin (fun h2 => hIL i (by omega) h2) with ⟨q1, q2⟩ | ⟨q1, b1, u1, g1, g2, g3, g4, g5, g6, g7⟩
    · rw [hr1, q1, if_neg (by decide), q2]
      obtain ⟨b', u', Q', w1, w2, w3, w4, w5, w6, w7, w8, w9, w10, w11, w12⟩ := ih (i + 1) (by omega) b u Q B h hIL (by omega) hj h20 h21 (fun x hxi h2 h3 => by
        by_cases z : x = i
        · subst z
          rw [pbW_n hs, decide_eq_true ⟨h2, h3⟩, Bool.true_and] at q1
          simp at q1
          exact q1
        · exact hd x (by omega) h2 h3) hx h13 h14
      exact ⟨b', u', Q', w1, w2, w3.mono (by omega) (by omega), w4, w5, w6, w7, w8, w9, w10, w11, w12⟩
    · have q3 := q1
      rw [pbW_n hs, Bool.and_eq_true] at q3
      obtain ⟨p2, p12⟩ := of_decide_eq_true q3.1
      obtain ⟨-, -, ⟨lg, lg1, lg2⟩, -⟩ := h.B
      have hdet := m_putsBack (h.e.j hin) (show i < 60 by omega) (h.e.1.2.1.2.2.2.2.2.1.trans lg1) (show lg < 2147483648 by omega) (h.e.1.2.2.1 5 (by omega)) (h.e.1.2.2.1 8 (by omega))
      have hu1 : u1 = pU u b i lg := by
        rw [g2] at hdet
        exact (Prod.mk.inj (Option.some.inj hdet)).2
      have h131 : b1.1 0 13 = b.1 0 13 := g7 0 13 (by decide)
      have g3' : BW b1 u1 n a r p t (Q ++ [i]) (B + 2) := by
        rw [← h131, gw_id] at g3; exact g3
      have hbl : ∀ x, x ≠ i → bl b1 x = bl b x := fun x hx => bl_fi (fun k hk => g5 k x (by simp at hk ⊢; omega) hx)
      have hc : ∀ d x, d ∈ [9, 12, 13, 14] → x ≠ i → b1.1 d x = b.1 d x := fun d x hd hx => g5 d x (by simp at hd ⊢; omega) hx
      obtain ⟨b', u', Q', w1, w2, w3, w4, w5, w6, w7, w8, w9, w10, w11, w12⟩ := ih (i + 1) (by omega) b1 u1 (Q ++ [i]) (B + 2) g3' (fun x hx h2 => by
        by_cases z : x = i
        · rw [z, g6] at h2; exact absurd h2 (by decide)
        · rw [g5 10 x (by decide) z]; exact hIL x hx ((hc 9 x (by decide) z).symm.trans h2)) (by omega) (List.mem_append_left _ hj) (by rw [hu1, pU_0]; exact h20) (by rw [hu1, pU_0]; exact h21) (fun x hxi h2 h3 => by
        by_cases z : x = i
        · rw [z, g6] at h2; exact absurd h2 (by decide)
        · rw [hbl x z]; exact hd x (by omega) ((hc 9 x (by decide) z).symm.trans h2) ((hc 12 x (by decide) z).symm.trans h3)) (fun x hxn => by
        by_cases z : x = i
        · refine Or.inr ⟨?_, by rw [z]; exact g6⟩
          rw [z]
          rcases hx i hin with y | y
          · rw [← y 12 (by decide)]; exact p12
          · exact y.1
        · rcases hx x hxn with y | y
          · exact Or.inl (fun d hd => (hc d x hd z).trans (y d hd))
          · exact Or.inr ⟨y.1, (hc 9 x (by decide) z).trans y.2⟩) (h131.trans h13) ((g7 14 j (by decide)).trans h14)
      refine ⟨b', u', Q', g1.trans w1, ?_, ?_, w4, w5, w6, w7, w8, w9, w10, w11, g4.tr w12⟩
      · rw [hr1, q1, if_pos rfl, g2, g_cv_some]; exact w2
      · rw [show B + 2 * (k + 1) = B + 2 + 2 * k by omega]; exact w3
theorem ok_urge (a0 : Int32) : okc mX9_urge mX10_urge [.int a0] := by
  intro k μ u hk hR
  obtain ⟨⟨n, a, r, p, t, Q, B, h, ht, hB⟩, hI⟩ := hR
  obtain ⟨h0, i0⟩ := told0 h
  obtain ⟨hw, hs0, hIL⟩ := BR_iff.mp h0
  have hn := hw.A.n60
  have hp := hw.A.p32
  have hr := hw.A.2.2.2.2.1
  rw [eX9_urge, eX10_urge]
  rcases wtg_both (x := a0) hw with ⟨c1, c2⟩ | ⟨j, hj, rfl, hj1, c1⟩
  · rw [lfq rfl rfl c1 rfl, g_ci_some, if_pos rfl, went_0, g_ci_some, g01_0, if_pos rfl, c2, g_ci_some, if_pos rfl]
    exact ⟨_, _, _, rfl, rfl, Rl.mk hI h0 (by omega) (by omega) cfr.rf i0⟩
  have J := hw.J j hj
  obtain ⟨m, hW⟩ := wd_isW hw.A.2.2.2.2.2.2 J.1.2.2
  rw [← jw J] at hW
  have hle := hW.le
  obtain ⟨u2, g1, g2⟩ := ug_both hw hj hj1 rfl hW
  rw [lfq rfl rfl c1 rfl, g_ci_some, if_neg (show ¬ (1 : Int32) = 0 by decide), eX5_urgeIn]
  rcases g2 with ⟨x1, x2⟩ | ⟨s, c, x1, x2, x3, x4, x5, x6, x7⟩
  · rw [x1, g_ci_some, if_pos rfl, g_ci_some, if_pos rfl, went_0, g_ci_some, g01_0, if_pos rfl, x2, g_ci_some, if_pos rfl]
    exact ⟨_, _, _, rfl, rfl, Rl.mk hI (g1.xBR h0) (by omega) (by omega) cfr.rf (i0.tr g1.im)⟩
  have s8 := x1.1
  have cp := x1.2.2.1
  have hq := hw.qs g1
  have jq : j ∈ Q := (hw.Q.2.2.2.2.1 j).mpr ⟨hj, hj1⟩
  obtain ⟨y1, y2⟩ := spot_s (s := s) (c := c) (ρ := μ) (by omega) (by omega)
  obtain ⟨b1, u3, Q1, w1, w2, w3, w4, w5, w6, w7, w8, w9, w10, w11, w12⟩ := ugb_loop (b0 := μ) (j := j) (s := s) (c := c) (X := BK c (jn μ 14 j)) (by omega) n 0 (by omega) μ u2 Q B hq hIL (by omega) jq x4 x5 (fun x hx => by omega) (fun x _ => Or.inl (fun _ _ => rfl)) rfl rfl
  have E := w3.e.j hj
  have j14 : jn b1 14 j = jn μ 14 j := by unfold jn; rw [w11]
  -- the columns are clear now
  have hfree : (b1.1 32 s ||| b1.1 0 13) &&& BK c (jn μ 14 j) = 0 := by
    rw [b_z]
    intro d hd
    rw [b_and, b_or, w10]
    have hdn := x1.2.2.2
    rw [b_z] at hdn
    have hdn2 := hdn d hd
    rw [b_and] at hdn2
    cases z : bt (BK c (jn μ 14 j)) d with
    | false => rw [Bool.and_false]
    | true =>
      rw [z, Bool.and_true] at hdn2
      rw [hdn2, Bool.or_false, Bool.and_true]
      cases y : bt (b1.1 32 s) d with
      | false => rfl
      | true =>
        rw [w3.S s s8, orF_bt] at y
        obtain ⟨x, hx, hx2⟩ := y
        unfold sb at hx2
        by_cases v : b1.1 12 x = nI s
        · rw [if_pos v] at hx2
          have v9 := ip_slot (w3.P.1 x hx) (by omega) v
          have := w8 x hx v9 v
          rw [b_z] at this
          have := this d hd
          rw [b_and, hx2, z] at this
          cases this
        · rw [if_neg v, b_0] at hx2; cases hx2
  have hoth : ∀ s', s' < r → s' ≠ s → b1.1 32 s' ≠ 0 := fun s' h1 h2 => by
    rw [w3.S s' h1, show orF (sb b1 s') n = orF (sb μ s') n from orF_congr fun x hx => by
      unfold sb
      rcases w9 x hx with y | ⟨y, y9⟩
      · rw [y 12 (by decide), bl_fi (fun k hk => y k (by simp at hk ⊢; omega))]
      · rw [if_neg (show ¬ μ.1 12 x = nI s' by rw [y, neq (by omega) (by omega)]; omega)]
        rw [if_neg]
        intro z
        have := ip_slot (w3.P.1 x hx) (by omega) z
        rw [y9] at this
        exact absurd this (by decide), ← hw.S s' h1]
    exact hs0 s' h1
  obtain ⟨-, -, ⟨lg, lg1, lg2⟩, -⟩ := w3.B
  have hB1 : BW (g_pt 0 μ b1) u3 n a r p t Q1 (B + 2 * n) := BW_pt w3
  obtain ⟨μ1, l0, l9⟩ := c_placeAt0 (wh := 1) (s := s) (c := c) hB1 w5 (by omega) (by omega)
  have hpt : ∀ c i, c < 59 → (g_pt 0 μ b1).1 c i = b1.1 c i := fun c i hc => pt0 hc
  have hμr : μ1.1 29 3 = nI r := (l0.1 29 3 (by decide)).trans hB1.A.2.2.1
  have hμw : μ1.1 14 j = nI (jn μ 14 j) := (l0.1 14 j (by decide)).trans (by rw [hpt 14 j (by omega), w11]; exact jw_n J)
  have hset := c_settle (s := s) (c := c) hμr hr (show j < 60 by omega) s8 (by omega) hμw hle.2
  have lg1' : (g_pt 0 μ b1).1 39 1 = nI lg := by rw [hpt 39 1 (by omega)]; exact lg1
  have n39 : (gwI (gwI (gwI μ1 12 j (nI s)) 13 j (nI c)) 32 s (μ1.1 32 s ||| BK c (jn μ 14 j))).1 39 1 = nI lg := (l0.1 39 1 (by decide)).trans lg1'
  have n12 : (gwI (gwI (gwI μ1 12 j (nI s)) 13 j (nI c)) 32 s (μ1.1 32 s ||| BK c (jn μ 14 j))).1 12 j = nI s := by
    rw [gI_r, if_neg (by omega), gI_r, if_neg (by omega), gI_r, if_pos ⟨rfl, rfl⟩]
  have n13 : (gwI (gwI (gwI μ1 12 j (nI s)) 13 j (nI c)) 32 s (μ1.1 32 s ||| BK c (jn μ 14 j))).1 13 j = nI c := by
    rw [gI_r, if_neg (by omega), gI_r, if_pos ⟨rfl, rfl⟩]
  have hput := put_rel (wh := 1) (w := jn μ 14 j) hB1 (fun s' h1 h2 => by rw [hpt 32 s' (by omega)]; exact hoth s' h1 h2) (fun x hx h2 => by rw [hpt 9 x (by omega)] at h2; rw [hpt 10 x (by omega)]; exact w4 x hx h2) w5 s8 (by unfold jn; rw [hpt 14 j (by omega), w11]) x1.2.1 cp (by rw [hpt 32 s (by omega), hpt 0 13 (by omega)]; exact hfree) lg1' lg2 (by omega) l0
  have hplace : mX2_placeAt [.ref 0, .int (nI j), .int (nI (s * 32 + c)), .int 1] (g_pt 0 μ b1) = some (none, lgB (gwI (gwI (gwI μ1 12 j (nI s)) 13 j (nI c)) 32 s (μ1.1 32 s ||| BK c (jn μ 14 j))) lg 1 (nI j) (nI s) (nI c)) := by
    rw [l9, hset, g_cv_some, c_note n39 (by omega) (by omega), g_cv_some, n12, n13]
  have e19 : (if (g_pt 0 μ b1).1 19 j = -1 then (g_pt 0 μ b1).1 0 12 else (g_pt 0 μ b1).1 19 j) = (if b1.1 19 j = -1 then b1.1 0 12 else b1.1 19 j) := by rw [hpt 19 j (by omega), hpt 0 12 (by omega)]
  rw [e19] at hput
  have hisput := m_isPut (s := s) (c := c) (wh := 1) E (show j < 60 by omega) w3.e.h.t (w3.e.1.2.1.2.2.2.2.2.1.trans lg1) (show lg < 2147483648 by omega)
  obtain ⟨μ5, u5, r5, Q5, k1, k2, k3, k4, k5⟩ := went_1 (BR_pt (μ := g_pt 0 μ b1) hput) (by omega)
  refine ⟨1, μ5, u5, ?_, ?_, Rl.mk hI k3 (by omega) (by omega) ((cfr.pt.tr cfr.pt).tr k4) ((((i0.tr g1.im).tr w12).tr ⟨fun c i hc => pf_u.1 c i (by omega) (by omega), pf_u.1 0 27 (by omega) (by omega), fun _ _ _ => rfl⟩).tr k5)⟩
  · rw [x2, g_ci_some, if_neg (nm1 (by omega)), y2, g_ci_some, gin (show j < 60 by omega) (by omega), if_pos rfl, tn (by omega), jw_n J, cbits (by omega) hle.2, g_ci_some, y1, g_ci_some, lf0 rfl rfl ((eX2_putBack _ _ _).trans w1) rfl, g_cv_some, lf0 rfl rfl hplace rfl, g_cv_some, g_ci_some, if_neg (show ¬ (1 : Int32) = 0 by decide), k1, g_ci_some, g01_1, if_pos rfl]
  · rw [x3, g_ci_some, if_neg (show ¬ (1 : Int32) = 0 by decide), at_9 (by omega), g_ci_some, (hq.e.j hj).f9, jw_n J, x5, mbits hle.2, g_ci_some, show rX10_urge_33 (nI j) (BK c (jn μ 14 j)) 0 u2 = _ from w2, eX10_urge_33, w3.e.h.n, w3.A.1, if_pos (nI_le (Nat.le_refl _) (by omega)), w6, w7, hisput, g_cv_some, k2, g_cv_some]
end URGE2
