section MOVE3
variable {b u b' u' μ μ' ν : gMem} {n a r p t B k o : Nat} {Q : List Nat}
theorem ptq (h1 : ∀ c i, 59 ≤ c → ν.1 c i = μ.1 c i) (h2 : ∀ c i, 59 ≤ c → ν.2 c i = μ.2 c i) : g_pt 0 μ ν = ν :=
  Prod.ext (funext fun c => funext fun i => by
    by_cases q : c < 59
    · exact pt0 q
    · rw [(pt9 (by omega)).1, h1 c i (by omega)]) (funext fun c => funext fun i => by
    by_cases q : c < 59
    · exact pt0L q
    · rw [(pt9 (by omega)).2, h2 c i (by omega)])
theorem gI_self {c i : Nat} {x : Int32} (h : μ.1 c i = x) : gwI μ c i x = μ := by
  refine Prod.ext (funext fun c' => funext fun i' => ?_) rfl
  rw [gI_r]
  by_cases q : c' = c ∧ i' = i
  · rw [if_pos q, q.1, q.2, h]
  · rw [if_neg q]
theorem wA_wA {j w : Nat} {x : Int32} : wA (wA u j w x) j w x = wA u j w x := by
  unfold wA
  exact gI_self (by rw [gI_r, if_pos ⟨rfl, rfl⟩])
theorem isMoved_8 {j x : Nat} (hj : j < 60) : mX10_isMoved [.ref 0, .int (nI j), .int (nI x)] (wA u j 8 (nI x + 1)) = mX10_isMoved [.ref 0, .int (nI j), .int (nI x)] u := by
  rw [eX10_isMoved, lay_8 hj, wA_wA, eX10_isMoved, lay_8 hj]
/-- it stands there already: it stops, and is counted -/
theorem mv_bw {j x : Nat} (h : BW b u n a r p t Q B) (hj : j < n) (h2 : b.1 9 j = 2) (h13 : b.1 13 j = nI x) (hx : upX b p j x) : BW (mvB b j x) (mvU u j x (st b j)) n a r p t Q B := by
  have hp := h.A.p32
  have hn := h.A.n60
  have V := mv_pv (x := x) h.v hj h2 hx.1 hx.2.1 hx.2.2
  have e13 : ∀ i, (mvB b j x).1 13 i = b.1 13 i := fun i => by
    rw [mvB_r, if_neg (by omega), if_neg (by omega), if_neg (by omega)]
    by_cases q : i = j
    · rw [if_pos ⟨rfl, q⟩, q, h13]
    · rw [if_neg (fun z => q z.2)]
  have ebl : ∀ i, bl (mvB b j x) i = bl b i := fun i => by unfold bl jn; rw [e13, mvB_c (by omega)]
  refine ⟨V.e, V.A, V.T, V.J, ⟨V.P, fun i k hi hk hik q1 q2 => ?_⟩, fun s hs => ?_, V.U, V.R, V.D, V.Q, V.B⟩
  · rw [ebl, ebl]
    rw [mvB_c (by omega)] at q1
    rw [mvB_c (by omega), mvB_c (by omega)] at q2
    exact h.P.2 i k hi hk hik q1 q2
  · rw [mvB_c (by omega), h.S s hs]
    refine orF_congr fun i hi => ?_
    unfold sb
    rw [ebl, mvB_c (by omega)]
theorem mv_end {m' u3' u3 : gMem} {r' j s x : Nat} (h : BW m' u3 n a r' p t Q B) (hs : ∀ y, y < r' → m'.1 32 y ≠ 0) (hIL : IL m') (hj : j < n) (h2 : m'.1 9 j = 2) (h12 : m'.1 12 j = nI s) (h13 : m'.1 13 j = nI x) (hx : upX m' p j x) (e3 : u3 = wA u3' j 8 (nI x + 1)) (hB : B + 1 ≤ 1000000000) : ∃ μ' u', g_cv (mX5_stop [.ref 178, .int (nI j)] m') (fun u11 => (g_cv ((g_lf 0 mX2_note) [.ref 0, .int 6, .int (nI j)] u11) (fun u12 => some (some (.int 1), u12)))) = some (some (.int 1), μ') ∧ (∀ K : gMem → Option gR, g_cv (mX10_isMoved [.ref 0, .int (nI j), .int (nI x)] u3') (fun u8 => (g_cv (mX10_writes [.ref 0, .int 6, .int (nI j), .int (nI s), .int (nI x)] u8) K)) = K u') ∧ BR μ' u' n a r' p t Q (B + 1) ∧ cfr m' μ' ∧ im u3 u' := by
  have hn := h.A.n60
  have M := mv_bw h hj h2 h13 hx
  obtain ⟨μ3, u4, n1, n2, n3, n4, n5, n6, -⟩ := note_c (wh := 6) M hj hB
  have c1 : mX5_stop [.ref 178, .int (nI j)] m' = some (none, mvB m' j x) := by
    have := c_stop (μ := m') (j := j) (x := x) (by omega)
    rwa [gI_self h13] at this
  have hm := m_isMoved (x := x) h.e hj hn
  have e12 : (mvB m' j x).1 12 j = nI s := by rw [mvB_c (by omega)]; exact h12
  have e13 : (mvB m' j x).1 13 j = nI x := by rw [mvB_r, if_neg (by omega), if_neg (by omega), if_neg (by omega), if_pos ⟨rfl, rfl⟩]
  rw [e12, e13] at n2
  refine ⟨μ3, u4, ?_, fun K => ?_, BR_iff.mpr ⟨n3, fun y hy => ?_, fun i hi => ?_⟩, ?_, mvU_im.tr n5⟩
  · rw [c1, g_cv_some, n1, g_cv_some]
  · rw [← isMoved_8 (by omega), ← e3, hm, g_cv_some, n2, g_cv_some]
  · rw [n6 32 y (by omega) (by decide), mvB_c (by omega)]; exact hs y hy
  · rw [n6 9 i (by omega) (by decide), n6 10 i (by omega) (by decide), mvB_c (by omega), mvB_c (by omega)]
    exact hIL i hi
  · have cm : cfr m' (mvB m' j x) := fun c i hc => ⟨mvB_c (by omega), rfl⟩
    exact cm.tr n4
theorem mv_fin {m u2 : gMem} {r1 j s x : Nat} {σ : Nat → Nat} (h : BW μ u n a r p t Q B) (hIL : IL μ) (hj : j < n) (h2 : μ.1 9 j = 2) (hx : upX μ p j x) (hM : MD μ m u u2 n r1 j σ) (hc : cfr μ m) (hs1 : s ≤ r1) (hr1 : r1 ≤ 8) (hfree : s < r1 → m.1 32 s &&& BK x (jn μ 14 j) = 0) (hroom : s = r1 → r1 < 8) (hB : B + 1 ≤ 1000000000) : ∃ μ' u' r', g_cv ((g_lf 0 mX2_settle) [.ref 0, .int (nI j), .int (nI s), .int (nI x)] m) (fun u10 => (g_cv (mX5_stop [.ref 178, .int (nI j)] u10) (fun u11 => (g_cv ((g_lf 0 mX2_note) [.ref 0, .int 6, .int (nI j)] u11) (fun u12 => some (some (.int 1), u12)))))) = some (some (.int 1), μ') ∧ (∀ K : gMem → Option gR, (if nI s = (u2.1 1 13) then (g_cv (mX10_newSlot [.ref 0] u2) (fun u6 => (g_cv (mX10_lay [.ref 0, .int (nI j), .int 7, .int (nI s + 1)] u6) (fun u7 => (g_cv (mX10_isMoved [.ref 0, .int (nI j), .int (nI x)] u7) (fun u8 => (g_cv (mX10_writes [.ref 0, .int 6, .int (nI j), .int (nI s), .int (nI x)] u8) K))))))) else (g_cv (mX10_lay [.ref 0, .int (nI j), .int 7, .int (nI s + 1)] u2) (fun u2 => (g_cv (mX10_isMoved [.ref 0, .int (nI j), .int (nI x)] u2) (fun u3 => (g_cv (mX10_writes [.ref 0, .int 6, .int (nI j), .int (nI s), .int (nI x)] u3) K)))))) = K u') ∧ BR μ' u' n a r' p t Q (B + 1) ∧ cfr μ μ' ∧ im u u' := by
  have hn := h.A.n60
  have hp := h.A.p32
  obtain ⟨M1, M2, M3, M4, M5, M6, M7, M8, M9, M10, M11, M12, M13, M14⟩ := hM
  have hx2 := hx.2.1
  obtain ⟨wm, w1, w2, w3, w4, w5, w6, w7⟩ := pl_w h hj h2
  have hle := w1.le
  have imu : im u u2 := ⟨fun c i hc => M13 c i (by omega), M13 0 27 (by omega), M14⟩
  have mw : m.1 14 j = nI (jn μ 14 j) := by rw [M1 14 j (by decide)]; exact w2
  have hx32 : x < 32 := by omega
  by_cases q : s = r1
  · -- a new slot
    have hr8 := hroom q
    obtain ⟨v, v1, v2⟩ := leastPass_both (r := r1) (b := m) (u := u2) (fun y hy => M9 y hy) M2 M8 hr1
    have cs := c_settle2 (μ := m) (r := r1) (j := j) (c := x) M2 hr8 v1 (by omega) hx32 mw (by omega)
    have ms := m_newSlot (u := u2) M8 hr8 v2
    have hpt : g_pt 0 m (gwI (gwI (gwI (opB m r1 v) 12 j (nI r1)) 13 j (nI x)) 32 r1 ((opB m r1 v).1 32 r1 ||| BK x (jn μ 14 j))) = gwI (gwI (gwI (opB m r1 v) 12 j (nI r1)) 13 j (nI x)) 32 r1 ((opB m r1 v).1 32 r1 ||| BK x (jn μ 14 j)) := ptq (fun c i hc => by rw [gI_r, if_neg (by omega), gI_r, if_neg (by omega), gI_r, if_neg (by omega), op_c (by simp; omega)]) (fun c i hc => by rw [gI_l, gI_l, gI_l]; unfold opB; rw [gI_l, gI_l, gI_l, gL_r, if_neg (by omega)])
    have cs' := lf0 (μ := m) rfl rfl cs rfl
    rw [hpt] at cs'
    generalize hm' : gwI (gwI (gwI (opB m r1 v) 12 j (nI r1)) 13 j (nI x)) 32 r1 ((opB m r1 v).1 32 r1 ||| BK x (jn μ 14 j)) = m' at cs'
    have K1 : ∀ c i, c ∉ [12, 13, 29, 31, 32] → m'.1 c i = m.1 c i := fun c i hc => by
      simp at hc
      rw [← hm', gI_r, if_neg (by omega), gI_r, if_neg (by omega), gI_r, if_neg (by omega), op_c (by simp; omega)]
    have K12 : ∀ i, m'.1 12 i = if i = j then nI s else m.1 12 i := fun i => by
      rw [← hm', gI_r, if_neg (by omega), gI_r, if_neg (by omega), gI_r, op_c (by decide), q]
      simp
    have K13 : ∀ i, m'.1 13 i = if i = j then nI x else m.1 13 i := fun i => by
      rw [← hm', gI_r, if_neg (by omega), gI_r, gI_r, if_neg (c := 13 = 12 ∧ i = j) (by omega), op_c (by decide)]
      simp
    have K29 : m'.1 29 3 = nI (r1 + 1) := by rw [← hm']; rfl
    have K32 : ∀ y, y < r1 + 1 → m'.1 32 y = (if y < r1 then m.1 32 y else 0) ||| (if y = s then BK x (jn μ 14 j) else 0) := fun y hy => by
      rw [← hm', gI_r]
      by_cases z : y = r1
      · rw [if_pos ⟨rfl, z⟩, op32, if_pos rfl, if_neg (by omega), if_pos (by omega)]
      · rw [if_neg (fun w => z w.2), gI_r, if_neg (by omega), gI_r, if_neg (by omega), op32, if_neg z, if_pos (by omega), if_neg (by omega)]
        exact b_ext (fun d _ => by rw [b_or, b_0, Bool.or_false])
    have hD := md_rel (m := m) (m' := m') (u2 := u2) (u3 := wA (wA (opU u2 r1 v) j 7 (nI s + 1)) j 8 (nI x + 1)) (r1 := r1) (r' := r1 + 1) (s := s) (x := x) h hj h2 hx ⟨M1, M2, M3, M4, M5, M6, M7, M8, M9, M10, M11, M12, M13, M14⟩ (by omega) (by omega) (by omega) (fun y hy => by omega) hfree K1 K12 K13 K29 K32 ?_ ?_ ?_ ?_
    · obtain ⟨hD1, hD2⟩ := hD
      have e9 : ∀ i, m'.1 9 i = μ.1 9 i := fun i => (K1 9 i (by decide)).trans (M1 9 i (by decide))
      have e10 : ∀ i, m'.1 10 i = μ.1 10 i := fun i => (K1 10 i (by decide)).trans (M1 10 i (by decide))
      have j14 : jn m' 14 j = jn μ 14 j := by unfold jn; rw [K1 14 j (by decide), M1 14 j (by decide)]
      obtain ⟨μ', u', f1, f2, f3, f4, f5⟩ := mv_end (s := s) (x := x) (u3' := wA (opU u2 r1 v) j 7 (nI s + 1)) hD1 hD2 (fun i hi => by rw [e9, e10]; exact hIL i hi) hj (by rw [e9]; exact h2) (by rw [K12, if_pos rfl]) (by rw [K13, if_pos rfl]) (by unfold upX; rw [j14, K1 0 13 (by decide), M1 0 13 (by decide)]; exact hx) rfl hB
      refine ⟨μ', u', r1 + 1, ?_, fun K => ?_, f3, ?_, ?_⟩
      · rw [q, cs', g_cv_some]; exact f1
      · rw [if_pos (by rw [M8, q]), ms, g_cv_some, lay_7 (by omega), g_cv_some]; exact f2 K
      · refine (hc.tr ?_).tr f4
        intro c i hc'
        refine ⟨K1 c i (by simp; omega), ?_⟩
        rw [← hm', gI_l, gI_l, gI_l]; unfold opB; rw [gI_l, gI_l, gI_l, gL_r, if_neg (by omega)]
      · refine (imu.tr ?_).tr f5
        exact ⟨fun c i hc => by rw [wA_c (by omega), wA_c (by omega)]; unfold opU; rw [wH_c (by omega), wT_c (by omega), gL_i], by rw [wA_c (by omega), wA_c (by omega)]; unfold opU; rw [wH_c (by omega), wT_c (by omega), gL_i], fun c i hc => by rw [wA_l, wA_l]; unfold opU; rw [wH_l, wT_l, gL_r, if_neg (by omega)]⟩
    · rw [wA_h (by omega), wA_h (by omega)]; rfl
    · intro i i1 i2 i3
      unfold wA
      rw [gI_r, if_neg (by omega), gI_r, if_neg (by omega)]
      exact op_ug (lo := i) (hi := i + 1) hr8 (by omega) (by omega) i (Nat.le_refl _) (by omega)
    · intro i w hi hw
      rw [mA_wA hi hw (by omega) (by omega), mA_wA hi hw (by omega) (by omega)]
      have e : mA (opU u2 r1 v) i w = mA u2 i w := by
        unfold mA
        exact op_ug (lo := 42 + 20 * i + w) (hi := 42 + 20 * i + w + 1) hr8 (by omega) (by omega) _ (Nat.le_refl _) (by omega)
      rw [e]
      by_cases z1 : i = j ∧ w = 8
      · rw [if_pos z1, if_neg (by omega), if_pos z1]
      · rw [if_neg z1, if_neg z1]
    · intro y hy
      have e31 : m'.1 31 y = (opB m r1 v).1 31 y := by rw [← hm', gI_r, if_neg (by omega), gI_r, if_neg (by omega), gI_r, if_neg (by omega)]
      have e30 : m'.2 30 y = (opB m r1 v).2 30 y := by rw [← hm', gI_l, gI_l, gI_l]
      rw [e31, e30, op31, op30, mT_wA (by omega) (by omega) (by omega), mT_wA (by omega) (by omega) (by omega), wA_l, wA_l, show (opU u2 r1 v).2 3 y = if y = r1 then v else u2.2 3 y from by unfold opU; rw [wH_l, wT_l, gL_r]; simp]
      unfold opU
      rw [mT_wH (by omega) (by omega), mT_wT (by omega) (by omega)]
      by_cases z : y = r1
      · simp [z]
      · simp [z]; exact M9 y (by omega)
  · have hsr : s < r1 := by omega
    have cs := c_settle (μ := m) (r := r1) (j := j) (s := s) (c := x) M2 hr1 (by omega) hsr hx32 mw (by omega)
    have hpt : g_pt 0 m (gwI (gwI (gwI m 12 j (nI s)) 13 j (nI x)) 32 s (m.1 32 s ||| BK x (jn μ 14 j))) = gwI (gwI (gwI m 12 j (nI s)) 13 j (nI x)) 32 s (m.1 32 s ||| BK x (jn μ 14 j)) := ptq (fun c i hc => by rw [gI_r, if_neg (by omega), gI_r, if_neg (by omega), gI_r, if_neg (by omega)]) (fun c i hc => rfl)
    have cs' := lf0 (μ := m) rfl rfl cs rfl
    rw [hpt] at cs'
    generalize hm' : gwI (gwI (gwI m 12 j (nI s)) 13 j (nI x)) 32 s (m.1 32 s ||| BK x (jn μ 14 j)) = m' at cs'
    have K1 : ∀ c i, c ∉ [12, 13, 29, 31, 32] → m'.1 c i = m.1 c i := fun c i hc => by
      simp at hc
      rw [← hm', gI_r, if_neg (by omega), gI_r, if_neg (by omega), gI_r, if_neg (by omega)]
    have K12 : ∀ i, m'.1 12 i = if i = j then nI s else m.1 12 i := fun i => by
      rw [← hm', gI_r, if_neg (by omega), gI_r, if_neg (by omega), gI_r]
      simp
    have K13 : ∀ i, m'.1 13 i = if i = j then nI x else m.1 13 i := fun i => by
      rw [← hm', gI_r, if_neg (by omega), gI_r, gI_r, if_neg (c := 13 = 12 ∧ i = j) (by omega)]
      simp
    have K29 : m'.1 29 3 = nI r1 := by rw [← hm']; exact M2
    have K32 : ∀ y, y < r1 → m'.1 32 y = (if y < r1 then m.1 32 y else 0) ||| (if y = s then BK x (jn μ 14 j) else 0) := fun y hy => by
      rw [← hm', gI_r, if_pos hy]
      by_cases z : y = s
      · rw [if_pos ⟨rfl, z⟩, if_pos z, z]
      · rw [if_neg (fun w => z w.2), gI_r, if_neg (by omega), gI_r, if_neg (by omega), if_neg z]
        exact b_ext (fun d _ => by rw [b_or, b_0, Bool.or_false])
    have hD := md_rel (m := m) (m' := m') (u2 := u2) (u3 := wA (wA u2 j 7 (nI s + 1)) j 8 (nI x + 1)) (r1 := r1) (r' := r1) (s := s) (x := x) h hj h2 hx ⟨M1, M2, M3, M4, M5, M6, M7, M8, M9, M10, M11, M12, M13, M14⟩ (by omega) (by omega) (by omega) (fun y hy => by omega) hfree K1 K12 K13 K29 K32 ?_ ?_ ?_ ?_
    · obtain ⟨hD1, hD2⟩ := hD
      have e9 : ∀ i, m'.1 9 i = μ.1 9 i := fun i => (K1 9 i (by decide)).trans (M1 9 i (by decide))
      have e10 : ∀ i, m'.1 10 i = μ.1 10 i := fun i => (K1 10 i (by decide)).trans (M1 10 i (by decide))
      have j14 : jn m' 14 j = jn μ 14 j := by unfold jn; rw [K1 14 j (by decide), M1 14 j (by decide)]
      obtain ⟨μ', u', f1, f2, f3, f4, f5⟩ := mv_end (s := s) (x := x) (u3' := wA u2 j 7 (nI s + 1)) hD1 hD2 (fun i hi => by rw [e9, e10]; exact hIL i hi) hj (by rw [e9]; exact h2) (by rw [K12, if_pos rfl]) (by rw [K13, if_pos rfl]) (by unfold upX; rw [j14, K1 0 13 (by decide), M1 0 13 (by decide)]; exact hx) rfl hB
      refine ⟨μ', u', r1, ?_, fun K => ?_, f3, ?_, ?_⟩
      · rw [cs', g_cv_some]; exact f1
      · rw [if_neg (by rw [M8, neq (by omega) (by omega)]; exact q), lay_7 (by omega), g_cv_some]; exact f2 K
      · refine (hc.tr ?_).tr f4
        intro c i hc'
        exact ⟨K1 c i (by simp; omega), by rw [← hm']; rfl⟩
      · refine (imu.tr ?_).tr f5
        exact ⟨fun c i hc => by rw [wA_c (by omega), wA_c (by omega)], by rw [wA_c (by omega), wA_c (by omega)], fun c i hc => rfl⟩
    · rw [wA_h (by omega), wA_h (by omega)]; exact M8
    · intro i i1 i2 i3
      unfold wA
      rw [gI_r, if_neg (by omega), gI_r, if_neg (by omega)]
    · intro i w hi hw
      rw [mA_wA hi hw (by omega) (by omega), mA_wA hi hw (by omega) (by omega)]
      by_cases z1 : i = j ∧ w = 8
      · rw [if_pos z1, if_neg (by omega), if_pos z1]
      · rw [if_neg z1, if_neg z1]
    · intro y hy
      have e31 : m'.1 31 y = m.1 31 y := by rw [← hm', gI_r, if_neg (by omega), gI_r, if_neg (by omega), gI_r, if_neg (by omega)]
      have e30 : m'.2 30 y = m.2 30 y := by rw [← hm', gI_l, gI_l, gI_l]
      rw [e31, e30, mT_wA (by omega) (by omega) (by omega), mT_wA (by omega) (by omega) (by omega), wA_l, wA_l]
      exact M9 y (by omega)
end MOVE3
