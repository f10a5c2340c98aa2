section MIGRATE
variable {b u b' u' μ μ' ν : gMem} {n a r p t B k o : Nat} {Q : List Nat} {f g : Nat → Nat}
theorem cB_up {f g : Nat → Bool} {i k : Nat} (hi : i < k) (h : ∀ j, j < k → j ≠ i → g j = f j) : cB g k + (if f i then 1 else 0) = cB f k + (if g i then 1 else 0) := by
  cases h1 : f i with
  | true =>
    cases h2 : g i with
    | true => rw [cB_congr (f := g) (g := f) (fun j hj => by
        by_cases q : j = i
        · rw [q, h1, h2]
        · exact h j hj q)]
    | false => have := cB_off hi h1 h2 h; simp; omega
  | false =>
    cases h2 : g i with
    | true => have := cB_off hi h2 h1 (fun j hj q => (h j hj q).symm); simp; omega
    | false => rw [cB_congr (f := g) (g := f) (fun j hj => by
        by_cases q : j = i
        · rw [q, h1, h2]
        · exact h j hj q)]
/-- loads after a job was moved -/
theorem ld_mv {j x d : Nat} (h : PV b u n a r p t Q B) (hj : j < n) (h2 : b.1 9 j = 2) (hx2 : x + jn b 14 j ≤ p) (hd : d < 32) : ld (mvB b j x) n d = fu (fd (ld b n) (jn b 13 j) (jn b 14 j)) x (jn b 14 j) d := by
  have hp := h.A.p32
  have hn := h.A.n60
  have y := pv_yes h hj h2
  have e9 : ∀ i, (mvB b j x).1 9 i = b.1 9 i := fun i => mvB_c (by omega)
  have e13 : (mvB b j x).1 13 j = nI x := by rw [mvB_r, if_neg (by omega), if_neg (by omega), if_neg (by omega), if_pos ⟨rfl, rfl⟩]
  have e14 : ∀ i, jn (mvB b j x) 14 i = jn b 14 i := fun i => by unfold jn; rw [mvB_c (by omega)]
  have k := cB_up (f := fun i => decide (b.1 9 i = 2) && bt (bl b i) d) (g := fun i => decide ((mvB b j x).1 9 i = 2) && bt (bl (mvB b j x) i) d) hj (fun i hi q => by
    show (decide ((mvB b j x).1 9 i = 2) && bt (bl (mvB b j x) i) d) = _
    rw [e9]
    unfold bl
    rw [e14, show jn (mvB b j x) 13 i = jn b 13 i from by unfold jn; rw [mvB_i q (by omega)]])
  have b1 : bt (bl b j) d = decide (jn b 13 j ≤ d ∧ d < jn b 13 j + jn b 14 j) := by unfold bl; exact b_BK (by omega) (by omega) hd
  have b2 : bt (bl (mvB b j x) j) d = decide (x ≤ d ∧ d < x + jn b 14 j) := by
    unfold bl
    rw [e14, show jn (mvB b j x) 13 j = x from by unfold jn; rw [e13, tn (by omega)]]
    exact b_BK (by omega) (by omega) hd
  have k2 : ld (mvB b j x) n d + (if decide (b.1 9 j = 2) && bt (bl b j) d then 1 else 0) = ld b n d + (if decide ((mvB b j x).1 9 j = 2) && bt (bl (mvB b j x) j) d then 1 else 0) := k
  rw [e9, b1, b2, decide_eq_true h2, Bool.true_and, Bool.true_and] at k2
  have hge : jn b 13 j ≤ d ∧ d < jn b 13 j + jn b 14 j → 1 ≤ ld b n d := fun q => cB_ge (Y := [j]) (by simp) (fun z hz => by
    rw [List.mem_singleton] at hz
    subst hz
    exact ⟨hj, by rw [b1, decide_eq_true h2, decide_eq_true q]; rfl⟩)
  unfold fu fd
  by_cases q1 : jn b 13 j ≤ d ∧ d < jn b 13 j + jn b 14 j <;> by_cases q2 : x ≤ d ∧ d < x + jn b 14 j
  · have := hge; simp [q1, q2] at k2 this ⊢; omega
  · have := hge; simp [q1, q2] at k2 this ⊢; omega
  · have := hge; simp [q1, q2] at k2 this ⊢; omega
  · have := hge; simp [q1, q2] at k2 this ⊢; omega
theorem nI_neg {m : Nat} (h : m < 2147483648) : (-(nI m)).toInt = -(m : Int) := by
  rw [Int32.toInt_neg, nI_ti h]
  exact Int.bmod_eq_of_le (by omega) (by omega)
/-- what is gained is more than nought only if the greatest load falls -/
theorem gain_pos {w q p z c : Nat} (hq : q ≤ 9) (hp : p ≤ 32) (hz : z ≤ 9999) (hc : c < 2147483648) (h : nI c < (nI w - nI q) * nI p * nI z) : q < w := by
  refine Classical.byContradiction fun k => ?_
  have e : (nI w - nI q) * nI p * nI z = -(nI ((q - w) * p * z)) := by
    rw [← nml, ← nml, ← nsb (show w ≤ q by omega)]
    grind
  have hm : (q - w) * p * z ≤ 9 * 32 * 9999 := Nat.mul_le_mul (Nat.mul_le_mul (by omega) hp) hz
  rw [e, i_lt, nI_ti hc, nI_neg (by omega)] at h
  omega
theorem BW_cg (h : BW b u n a r p t Q B) (h1 : ∀ c i, c < 53 → b'.1 c i = b.1 c i) (h2 : ∀ i, b'.2 30 i = b.2 30 i) : BW b' u n a r p t Q B := by
  have hb : bs b (b'.1, b.2) := ⟨rfl, fun c i hc => h1 c i hc.1⟩
  obtain ⟨⟨e1, e2, e3, e4, e5, e6⟩, h⟩ := h.bs hb
  refine ⟨⟨e1, e2, e3, fun s hs => ?_, e5, e6⟩, h⟩
  rw [h2]; exact e4 s hs
theorem BW_pt (h : BW ν u n a r p t Q B) : BW (g_pt 0 μ ν) u n a r p t Q B := BW_cg h (fun c i hc => pt0 (by omega)) (fun i => pt0L (by omega))
/-- a note at the end, through the class -/
theorem note_c {wh : Int32} {j : Nat} (h : BW μ u n a r p t Q B) (hj : j < n) (hB : B + 1 ≤ 1000000000) : ∃ μ' u', (g_lf 0 mX2_note) [.ref 0, .int wh, .int (nI j)] μ = some (none, μ') ∧ mX10_writes [.ref 0, .int wh, .int (nI j), .int (μ.1 12 j), .int (μ.1 13 j)] u = some (none, u') ∧ BW μ' u' n a r p t Q (B + 1) ∧ cfr μ μ' ∧ im u u' ∧ (∀ c i, c < 53 → c ∉ [39, 41, 42, 43, 44, 45] → μ'.1 c i = μ.1 c i) ∧ (∀ i, u'.1 12 i = u.1 12 i) := by
  have hn := h.A.n60
  obtain ⟨-, -, ⟨lg, lg1, lg2⟩, -⟩ := h.B
  refine ⟨_, _, lf0 rfl rfl (c_note lg1 (by omega) (by omega)) rfl, m_writes (h.e.1.2.1.2.2.2.2.2.1.trans lg1) (by omega), BW_pt (log_rel h lg1 lg2 hB), cfr.pt, ⟨fun c i hc => lg_c (by omega), lg_c (by omega), fun _ _ _ => rfl⟩, fun c i hc hc2 => ?_, fun i => lg_c (by omega)⟩
  rw [pt0 (by omega), lgB_c hc2]
theorem mig_both {j : Nat} (h0 : BR μ u n a r p t Q B) (hj : j < n) (h2 : μ.1 9 j = 2) (hB : B + 1 ≤ 1000000000) : ∃ (x : Int32) (μ' u' : gMem), mX5_migrateToBest [.ref 178, .int (nI j)] μ = some (some (.int x), μ') ∧ ((x = 0 ∧ pq μ μ' ∧ qs u u' ∧ ∀ K : gMem → Option gR, g_cv (mX10_findsBest [.ref 0, .int (nI j)] u) (fun u3 => (if (u3.1 0 16) = (-1) then some (some (.int 0), u3) else (g_ci (mX10_gain [.ref 0] u3) (fun a4 u4 => (g_ci (mX10_cost [.ref 0, .int (nI j)] u4) (fun a5 u5 => (if a5 < a4 then (g_cv (mX10_isMoved [.ref 0, .int (nI j), .int (u5.1 0 16)] u5) (fun u6 => (g_cv (mX10_packs [.ref 0] u6) (fun u7 => (g_ci (mX10_slotOf [.ref 0, .int (nI j)] u7) (fun a8 u8 => (g_ci (mX10_columnOf [.ref 0, .int (nI j)] u8) (fun a9 u9 => (g_cv (mX10_writes [.ref 0, .int 6, .int (nI j), .int a8, .int a9] u9) K))))))))) else some (some (.int 0), u5)))))))) = some (some (.int 0), u')) ∨ (x = 1 ∧ cfr μ μ' ∧ im u u' ∧ (∃ r', BR μ' u' n a r' p t Q (B + 1)) ∧ ∀ K : gMem → Option gR, g_cv (mX10_findsBest [.ref 0, .int (nI j)] u) (fun u3 => (if (u3.1 0 16) = (-1) then some (some (.int 0), u3) else (g_ci (mX10_gain [.ref 0] u3) (fun a4 u4 => (g_ci (mX10_cost [.ref 0, .int (nI j)] u4) (fun a5 u5 => (if a5 < a4 then (g_cv (mX10_isMoved [.ref 0, .int (nI j), .int (u5.1 0 16)] u5) (fun u6 => (g_cv (mX10_packs [.ref 0] u6) (fun u7 => (g_ci (mX10_slotOf [.ref 0, .int (nI j)] u7) (fun a8 u8 => (g_ci (mX10_columnOf [.ref 0, .int (nI j)] u8) (fun a9 u9 => (g_cv (mX10_writes [.ref 0, .int 6, .int (nI j), .int a8, .int a9] u9) K))))))))) else some (some (.int 0), u5)))))))) = K u')) := by
  obtain ⟨h, hs, hIL⟩ := BR_iff.mp h0
  have hn := h.A.n60
  have hp := h.A.p32
  obtain ⟨μ2, u2, o, b1, b2, b3, b4, b5, b6⟩ := best_both h hj h2
  have hb := h.bs b3.bs
  have hq := h.qs b4
  have hbq := hb.qs b4
  have est : st μ2 j = st μ j := by unfold st; rw [b3.2 1 6 (by omega), b3.2 5 j (by omega)]
  have e5 : μ2.1 5 j = μ.1 5 j := b3.2 5 j (by omega)
  rw [eX5_migrateToBest, b1, g_ci_some, b2]
  simp only [g_cv_some]
  rw [b5]
  cases o with
  | none =>
    rw [show eS none = (-1 : Int32) from rfl, if_pos rfl]
    exact ⟨0, μ2, u2, rfl, Or.inl ⟨rfl, b3, b4, fun K => if_pos rfl⟩⟩
  | some x =>
    obtain ⟨x1, x2, x3⟩ := b6 x rfl
    have xp := x3.1
    obtain ⟨z, z1, z2, z3⟩ := gain_both (v := 0) hq b3 ⟨j, hj, h2⟩ x1 x2
    have hc1 := c_costOf (μ := μ2) (show j < 60 by omega)
    rw [est, e5] at hc1
    have hc2 := m_cost hq.e hj hn
    rw [show eS (some x) = nI x from rfl, if_neg (nm1 (by omega)), z2, g_ci_some, hc1, g_ci_some, z3]
    simp only [g_ci_some]
    rw [hc2]
    simp only [g_ci_some, b5]
    have enm : ¬ nI x = -1 := nm1 (by omega)
    by_cases y : st μ j * μ.1 5 j < (nI (mxF (ld μ n) 0 p) - nI (PK μ n p j x)) * nI p * nI z
    · rw [if_pos y, gin (show j < 60 by omega) (by omega), if_pos rfl, tn (by omega), c_stop (by omega), g_cv_some]
      have j9 : μ2.1 9 j = 2 := by rw [b3.2 9 j (by omega)]; exact h2
      have w14 : jn μ2 14 j = jn μ 14 j := b3.bs.j 14 j rfl
      have w13 : jn μ2 13 j = jn μ 13 j := b3.bs.j 13 j rfl
      have hpv := mv_pv (x := x) hbq.v hj j9 (by rw [w14]; exact x3.2.1) (by rw [w14]; exact x3.2.2.2.1) (by rw [w14, b3.2 0 13 (by omega)]; exact x3.2.2.2.2)
      obtain ⟨s1, s2⟩ := st_n h.T (h.J j hj) hp.2
      have hsz := (h.J j hj).1
      have hcost : st μ j * μ.1 5 j = nI ((jn μ 1 6 * jn μ 5 j + 3) / 4 * jn μ 5 j) := by rw [s1, hsz.1, nml]
      have hcl : (jn μ 1 6 * jn μ 5 j + 3) / 4 * jn μ 5 j ≤ 72 * 32 := Nat.mul_le_mul s2 (by omega)
      have hf : ∀ d, f0 μ n j d ≤ 8 := fun d => by
        have := ld_8 h.A h.P h.S d
        unfold f0 fd
        split <;> omega
      have hPK9 : PK μ n p j x ≤ 9 := mxF_iff.mpr fun d _ => by have := hf (0 + d); unfold fu; split <;> omega
      have hlt : PK μ n p j x < mxF (ld μ n) 0 p := gain_pos (c := (jn μ 1 6 * jn μ 5 j + 3) / 4 * jn μ 5 j) hPK9 hp.2 z1 (by omega) (by rw [← hcost]; exact y)
      have h8 : mxF (ld μ n) 0 p ≤ 8 := mxF_iff.mpr fun d _ => ld_8 h.A h.P h.S _
      have hldE : ld μ2 n = ld μ n := funext fun d => b3.bs.xld n d
      have hld : ∀ c, c < 32 → ld (mvB μ2 j x) n c ≤ 8 := fun c hc => by
        rw [ld_mv hbq.v hj j9 (by rw [w14]; exact x3.2.2.2.1) hc, w14, w13, hldE]
        by_cases q : c < p
        · have := mxF_ge (f := fu (f0 μ n j) x (jn μ 14 j)) (c := 0) q
          rw [Nat.zero_add] at this
          unfold PK at hlt hPK9
          unfold f0 at this hlt hPK9
          omega
        · have e0 := ld_hi h (show p ≤ c by omega) hc
          have hx4 := x3.2.2.2.1
          unfold fu fd
          rw [if_neg (by omega)]
          split <;> omega
      rw [est] at hpv
      obtain ⟨b', u', r', p1, p2, p3, p4, p5, p6⟩ := pack_both hpv hld
      rw [lf0 rfl rfl p1 rfl, g_cv_some]
      have hm := m_isMoved (x := x) hbq.e hj hn
      rw [est] at hm
      obtain ⟨μ3, u3, n1, n2, n3, n4, n5, n6, -⟩ := note_c (wh := 6) (BW_pt (μ := mvB μ2 j x) p3) hj hB
      rw [pt0 (by omega), pt0 (by omega)] at n2
      rw [n1, g_cv_some]
      refine ⟨1, μ3, u3, rfl, Or.inr ⟨rfl, ?_, ?_, ⟨r', BR_iff.mpr ⟨n3, fun s hs' => ?_, fun i hi => ?_⟩⟩, fun K => ?_⟩⟩
      · have cm : cfr μ2 (mvB μ2 j x) := fun c i hc => ⟨mvB_c (by omega), rfl⟩
        exact ((b3.cfr.tr cm).tr cfr.pt).tr n4
      · exact ((b4.im.tr mvU_im).tr p5).tr n5
      · rw [n6 32 s (by omega) (by decide), pt0 (by omega)]; exact p4 s hs'
      · rw [n6 9 i (by omega) (by decide), n6 10 i (by omega) (by decide), pt0 (by omega), pt0 (by omega), p6 9 i (by decide), p6 10 i (by decide), mvB_c (by omega), mvB_c (by omega), b3.2 9 i (by omega), b3.2 10 i (by omega)]
        exact hIL i hi
      · rw [if_neg enm, if_pos y, show eS (some x) = nI x from rfl, hm, g_cv_some, p2, g_cv_some, m_slotOf p3.e hj hn, g_ci_some, m_columnOf p3.e hj hn, g_ci_some, n2, g_cv_some]
    · rw [if_neg y]
      refine ⟨0, μ2, u2, rfl, Or.inl ⟨rfl, b3, b4, fun K => ?_⟩⟩
      rw [if_neg enm, if_neg y]
theorem ok_migrate (a0 : Int32) : okc mX9_migrate mX10_migrate [.int a0] := by
  intro k μ u hk hR
  obtain ⟨⟨n, a, r, p, t, Q, B, h, ht, hB⟩, hI⟩ := hR
  obtain ⟨h0, i0⟩ := told0 h
  obtain ⟨hw, -⟩ := BR_iff.mp h0
  rcases plc_both (x := a0) hw with ⟨c1, c2⟩ | ⟨j, hj, rfl, hj2, c1, c2⟩
  · refine ⟨0, μ, gwI u 0 0 0, ?_, by rw [eX10_migrate, c2], Rl.mk hI h0 (by omega) (by omega) cfr.rf i0⟩
    rw [eX9_migrate, lfq rfl rfl c1 rfl, g_ci_some, if_pos rfl, went_0, g_ci_some, g01_0, if_pos rfl]
  obtain ⟨x, μ', u', m1, m2⟩ := mig_both h0 hj hj2 (by omega)
  rw [eX9_migrate, lfq rfl rfl c1 rfl, g_ci_some, if_neg (by decide), m1, g_ci_some, eX10_migrate, c2]
  rcases m2 with ⟨rfl, m2, m3, m4⟩ | ⟨rfl, m2, m3, ⟨r', m4⟩, m5⟩
  · rw [if_pos rfl, went_0, g_ci_some, g01_0, if_pos rfl]
    exact ⟨0, μ', u', rfl, m4 _, Rl.mk hI (m3.xBR (m2.bs.xBR h0)) (by omega) (by omega) m2.cfr (i0.tr m3.im)⟩
  · obtain ⟨μ2, u2, r2, Q2, k1, k2, k3, k4, k5⟩ := went_1 m4 (by omega)
    rw [if_neg (by decide), k1, g_ci_some, g01_1, if_pos rfl]
    refine ⟨1, μ2, u2, rfl, (m5 _).trans ?_, Rl.mk hI k3 (by omega) (by omega) (m2.tr k4) ((i0.tr m3).tr k5)⟩
    show g_cv (mX10_goesOn [.ref 0] u') _ = _
    rw [k2, g_cv_some]
end MIGRATE
