section RELAY
variable {b u b' u' μ μ' ν : gMem} {n a r p t B k o : Nat} {Q : List Nat} {f g F κ : Nat → Nat}
def lb (x : Int64) (i : Nat) : Bool := x.toBitVec.getLsbD i
theorem l_or (x y : Int64) (i : Nat) : lb (x ||| y) i = (lb x i || lb y i) := by unfold lb; rw [Int64.toBitVec_or, BitVec.getLsbD_or]
theorem l_and (x y : Int64) (i : Nat) : lb (x &&& y) i = (lb x i && lb y i) := by unfold lb; rw [Int64.toBitVec_and, BitVec.getLsbD_and]
theorem l_ext {x y : Int64} (h : ∀ i, i < 64 → lb x i = lb y i) : x = y := Int64.toBitVec_inj.mp (BitVec.eq_of_getLsbD_eq (fun i hi => h i hi))
theorem l_0 (i : Nat) : lb 0 i = false := BitVec.getLsbD_zero
theorem l_1 : ∀ i, i < 64 → lb 1 i = decide (i = 0) := by decide +kernel
theorem l_sh : ∀ j, j < 60 → ∀ i, i < 60 → lb ((1 : Int64) <<< (Int32.toInt64 (nI j) &&& 63)) i = decide (i = j) := by decide +kernel
theorem l_u : ∀ n, n < 60 → (((nI n).toInt64.toUInt64 &&& Int64.toUInt64 63).toBitVec % 64).toNat = n := by decide +kernel
theorem l_gush (n : Nat) (hn : n < 60) (x : Int64) (i : Nat) : lb (g_lushr x (nI n)) i = lb x (n + i) := by
  show (x.toUInt64 >>> ((nI n).toInt64.toUInt64 &&& Int64.toUInt64 63)).toBitVec.getLsbD i = x.toUInt64.toBitVec.getLsbD (n + i)
  rw [UInt64.toBitVec_shiftRight]
  show (x.toUInt64.toBitVec >>> (((nI n).toInt64.toUInt64 &&& Int64.toUInt64 63).toBitVec % 64).toNat).getLsbD i = _
  rw [l_u n hn, BitVec.getLsbD_ushiftRight]
theorem l_one {x : Int64} : (x &&& 1) = (if lb x 0 then 1 else 0) := by
  apply l_ext
  intro i hi
  rw [l_and, l_1 i hi]
  by_cases h : i = 0
  · subst h
    cases lb x 0 <;> simp [l_0, l_1]
  · cases lb x 0 <;> simp [h, l_0, l_1 i hi]
theorem l_test {v : Int64} {j : Nat} (hj : j < 60) : (lg_cmp ((g_lushr v (nI j)) &&& 1) 1 = 0) ↔ lb v j = true := by
  rw [lg_cmp_eq, l_one, l_gush j hj, Nat.add_zero]
  cases lb v j with
  | true => simp
  | false => simp
set_option maxRecDepth 8000 in
theorem csF_n (h : BW b u n a r p t Q B) : ∀ j, j ≤ n → ∃ c, csF b κ j = nI c ∧ c ≤ j * 2304
  | 0, _ => ⟨0, rfl, by omega⟩
  | j + 1, hj => by
    obtain ⟨c, c1, c2⟩ := csF_n h j (by omega)
    have hp := h.A.p32
    have J := h.J j (by omega)
    obtain ⟨s1, s2⟩ := st_n h.T J hp.2
    have hm : (jn b 1 6 * jn b 5 j + 3) / 4 * jn b 5 j ≤ 72 * 32 := Nat.mul_le_mul s2 (by have := J.1.2.2; omega)
    show ∃ c, (if el b κ j then csF b κ j + st b j * b.1 5 j else csF b κ j) = nI c ∧ c ≤ (j + 1) * 2304
    by_cases q : el b κ j = true
    · rw [if_pos q, c1, s1, J.1.1, nml, nad]
      exact ⟨_, rfl, by omega⟩
    · rw [if_neg q, c1]
      exact ⟨c, rfl, by omega⟩
theorem gain_pos2 {w q p z c : Nat} (hq : q ≤ 60) (hp : p ≤ 32) (hz : z ≤ 9999) (hc : c < 2147483648) (h : nI c < (nI w - nI q) * nI p * nI z) : q < w := by
  refine Classical.byContradiction fun k => ?_
  have e : (nI w - nI q) * nI p * nI z = -(nI ((q - w) * p * z)) := by
    rw [← nml, ← nml, ← nsb (show w ≤ q by omega)]
    grind
  have hm : (q - w) * p * z ≤ 60 * 32 * 9999 := Nat.mul_le_mul (Nat.mul_le_mul (by omega) hp) hz
  rw [e, i_lt, nI_ti hc, nI_neg (by omega)] at h
  omega
/-- the movers go to their columns -/
theorem mvs_loop {m0 μ1 u1 : gMem} (h : BW m0 u n a r p t Q B) (hm : pq m0 μ1) (hq : qs u u1) (hl : laid m0 n p F κ) (hk : ∀ x, x < n → m0.1 9 x = 2 → μ1.1 180 x = nI (κ x) ∧ u1.1 11 x = nI (κ x)) : ∀ k j, j + k = n → ∀ (μ u2 : gMem) (v : Int64), PV μ u2 n a r p t Q B → (∀ c i, c ∉ [2, 13, 17, 23] → μ.1 c i = μ1.1 c i) → μ.2 = μ1.2 → (∀ i, j ≤ i → μ.1 13 i = m0.1 13 i) → (∀ i, i < j → m0.1 9 i = 2 → μ.1 13 i = nI (κ i)) → im u1 u2 → (∀ i, u2.1 11 i = u1.1 11 i) → (∀ i, i < j → u2.1 12 i = if el m0 κ i then 1 else 0) → (∀ i, i < 60 → lb v i = (decide (i < j) && el m0 κ i)) → ∃ (μ' u' : gMem) (v' : Int64), rX5_relayAll_21 v (nI j) μ = g_cv ((g_lf 0 mX2_repackAll) [.ref 0] μ') (fun u1 => rX5_relayAll_84 v' 0 u1) ∧ rX10_relay_17 (nI j) u2 = g_cv (mX10_packs [.ref 0] u') (fun u1 => rX10_relay_71 0 u1) ∧ PV μ' u' n a r p t Q B ∧ (∀ c i, c ∉ [2, 13, 17, 23] → μ'.1 c i = μ1.1 c i) ∧ μ'.2 = μ1.2 ∧ (∀ i, i < n → m0.1 9 i = 2 → μ'.1 13 i = nI (κ i)) ∧ im u1 u' ∧ (∀ i, i < n → u'.1 12 i = if el m0 κ i then 1 else 0) ∧ (∀ i, i < 60 → lb v' i = (decide (i < n) && el m0 κ i)) := by
  have hp := h.A.p32
  have hn := h.A.n60
  intro k
  induction k with
  | zero =>
    intro j hj μ u2 v k1 k2 k3 k4 k5 k6 k7 k8 k9
    obtain rfl : j = n := by omega
    exact ⟨μ, u2, v, by rw [eX5_relayAll_21, k1.A.1, if_pos (nI_le (by omega) (by omega))], by rw [eX10_relay_17, k1.e.h.n, k1.A.1, if_pos (nI_le (by omega) (by omega))], k1, k2, k3, k5, k6, k8, k9⟩
  | succ k ih =>
    intro j hj μ u2 v k1 k2 k3 k4 k5 k6 k7 k8 k9
    have hjn : j < n := by omega
    have e9 : μ.1 9 j = m0.1 9 j := by rw [k2 9 j (by decide)]; exact hm.2 9 j (by omega)
    have e14 : ∀ i, μ.1 14 i = m0.1 14 i := fun i => by rw [k2 14 i (by decide)]; exact hm.2 14 i (by omega)
    have e180 : μ.1 180 j = μ1.1 180 j := k2 180 j (by decide)
    have e13 : μ.1 13 j = m0.1 13 j := k4 j (Nat.le_refl _)
    have E1 := eX5_relayAll_21 v (nI j) μ
    rw [k1.A.1, if_neg (nI_ge hjn (by omega)), eX5_isLaidElsewhere, lfq rfl rfl (c_isPlaced k1.A hjn) rfl, g_ci_some, e9, gin (show j < 60 by omega) (by omega), if_pos rfl, if_pos rfl, tn (by omega), nI_1] at E1
    have E2 := eX10_relay_17 (nI j) u2
    rw [k1.e.h.n, k1.A.1, if_neg (nI_ge hjn (by omega)), eX10_isOther, m_isPlaced k1.e hjn hn, g_ci_some, e9, gin (show j < 60 by omega) (by omega), if_pos rfl, tn (by omega), m_columnOf k1.e hjn hn, g_ci_some, nI_1] at E2
    rw [E1, E2]
    clear E1 E2
    have stay : el m0 κ j = false → (m0.1 9 j = 2 → κ j = jn m0 13 j) → ∃ (μ' u' : gMem) (v' : Int64), rX5_relayAll_21 v (nI (j + 1)) μ = g_cv ((g_lf 0 mX2_repackAll) [.ref 0] μ') (fun u1 => rX5_relayAll_84 v' 0 u1) ∧ rX10_relay_17 (nI (j + 1)) (gwI u2 12 j 0) = g_cv (mX10_packs [.ref 0] u') (fun u1 => rX10_relay_71 0 u1) ∧ PV μ' u' n a r p t Q B ∧ (∀ c i, c ∉ [2, 13, 17, 23] → μ'.1 c i = μ1.1 c i) ∧ μ'.2 = μ1.2 ∧ (∀ i, i < n → m0.1 9 i = 2 → μ'.1 13 i = nI (κ i)) ∧ im u1 u' ∧ (∀ i, i < n → u'.1 12 i = if el m0 κ i then 1 else 0) ∧ (∀ i, i < 60 → lb v' i = (decide (i < n) && el m0 κ i)) := fun s1 s2 => by
      have hqs : qs u2 (gwI u2 12 j 0) := qs.w (by omega)
      refine ih (j + 1) (by omega) μ (gwI u2 12 j 0) v (k1.qs hqs) k2 k3 (fun i hi => k4 i (by omega)) (fun i hi h2 => ?_) (k6.tr hqs.im) (fun i => by rw [gI_r, if_neg (by omega)]; exact k7 i) (fun i hi => ?_) (fun i hi => ?_)
      · by_cases z : i = j
        · subst z
          obtain ⟨mm, w1, w2, w3, -⟩ := pl_w h hjn h2
          rw [e13, w3, s2 h2]
        · exact k5 i (by omega) h2
      · rw [gI_r]
        by_cases z : i = j
        · rw [if_pos ⟨rfl, z⟩, z, s1]; rfl
        · rw [if_neg (fun y => z y.2)]; exact k8 i (by omega)
      · rw [k9 i hi]
        by_cases z : i = j
        · subst z; rw [s1]; simp
        · rw [show decide (i < j + 1) = decide (i < j) from by simp; omega]
    by_cases q : m0.1 9 j = 2
    · obtain ⟨mm, w1, w2, w3, w4, w5, w6, w7⟩ := pl_w h hjn q
      have hle := w1.le
      have hup := hl.2.1 j hjn q
      obtain ⟨x1, x2⟩ := hk j hjn q
      rw [show (if m0.1 9 j = 2 then (1 : Int32) else 0) = 1 from if_pos q, if_neg (show ¬ (1 : Int32) = 0 by decide), if_neg (show ¬ (1 : Int32) = 0 by decide), e180, x1, e13, w3, k7 j, x2]
      by_cases q2 : κ j = jn m0 13 j
      · have s1 : el m0 κ j = false := by unfold el; rw [decide_eq_false (show ¬ (κ j ≠ jn m0 13 j) from fun z => z q2), Bool.and_false]
        rw [if_pos (show nI (κ j) = nI (jn m0 13 j) by rw [q2]), g_ci_some, if_pos rfl, if_pos (show nI (κ j) = nI (jn m0 13 j) by rw [q2]), g_ci_some, g01_0, if_pos (by rfl), if_pos (show (gwI u2 12 j 0).1 12 j = 0 by rw [gI_r, if_pos ⟨rfl, rfl⟩])]
        exact stay s1 (fun _ => q2)
      · have s1 : el m0 κ j = true := by unfold el; rw [decide_eq_true q, decide_eq_true q2]; rfl
        have qn : ¬ nI (κ j) = nI (jn m0 13 j) := fun z => q2 (by rwa [neq (by have := hup.2.1; omega) (by omega)] at z)
        have e11 : (gwI u2 12 j 1).1 11 j = nI (κ j) := by rw [gI_r, if_neg (by omega), k7 j, x2]
        have hqs : qs u2 (gwI u2 12 j 1) := qs.w (by omega)
        have hV := k1.qs hqs
        have j14 : jn μ 14 j = jn m0 14 j := by unfold jn; rw [e14 j]
        have e013 : μ.1 0 13 = m0.1 0 13 := by rw [k2 0 13 (by decide)]; exact hm.2 0 13 (by omega)
        have hmv := mv_pv (x := κ j) hV hjn (by rw [e9]; exact q) (by rw [j14]; exact hup.1) (by rw [j14]; exact hup.2.1) (by rw [j14, e013]; exact hup.2.2)
        have him : im u2 (mvU (gwI u2 12 j 1) j (κ j) (st μ j)) := hqs.im.tr mvU_im
        have hmU : ∀ c i, c ≠ 1 → (mvU (gwI u2 12 j 1) j (κ j) (st μ j)).1 c i = (gwI u2 12 j 1).1 c i := fun c i hc => by unfold mvU; rw [wH_c hc, wA_c hc, wA_c hc, wA_c hc]
        rw [if_neg qn, g_ci_some, if_neg (show ¬ (1 : Int32) = 0 by decide), if_pos rfl, if_pos rfl, e180, x1, c_stop (by omega), g_cv_some, if_neg qn, g_ci_some, g01_1, if_pos (by rfl), if_neg (show ¬ (gwI u2 12 j 1).1 12 j = 0 by rw [gI_r, if_pos ⟨rfl, rfl⟩]; decide), e11, m_isMoved hV.e hjn hn, g_cv_some]
        refine ih (j + 1) (by omega) (mvB μ j (κ j)) (mvU (gwI u2 12 j 1) j (κ j) (st μ j)) (v ||| (1 <<< (Int32.toInt64 (nI j) &&& 63))) hmv (fun c i hc => ?_) (by rw [show (mvB μ j (κ j)).2 = μ.2 from rfl]; exact k3) (fun i hi => ?_) (fun i hi h2 => ?_) (k6.tr him) (fun i => by rw [hmU 11 i (by omega), gI_r, if_neg (by omega)]; exact k7 i) (fun i hi => ?_) (fun i hi => ?_)
        · rw [mvB_c (by simp at hc; omega)]; exact k2 c i hc
        · rw [mvB_i (by omega) (by omega)]; exact k4 i (by omega)
        · by_cases z : i = j
          · subst z; rw [mvB_r, if_neg (by omega), if_neg (by omega), if_neg (by omega), if_pos ⟨rfl, rfl⟩]
          · rw [mvB_i z (by omega)]; exact k5 i (by omega) h2
        · rw [hmU 12 i (by omega), gI_r]
          by_cases z : i = j
          · rw [if_pos ⟨rfl, z⟩, z, s1]; rfl
          · rw [if_neg (fun y => z y.2)]; exact k8 i (by omega)
        · rw [l_or, k9 i hi, l_sh j (by omega) i hi]
          by_cases z : i = j
          · subst z; rw [s1]; simp
          · rw [show decide (i < j + 1) = decide (i < j) from by simp; omega, decide_eq_false z, Bool.or_false]
    · have s1 : el m0 κ j = false := by unfold el; rw [decide_eq_false q, Bool.false_and]
      rw [show (if m0.1 9 j = 2 then (1 : Int32) else 0) = 0 from if_neg q, if_pos rfl, g_ci_some, if_pos rfl, if_pos rfl, g_ci_some, g01_0, if_pos (by rfl), if_pos (show (gwI u2 12 j 0).1 12 j = 0 by rw [gI_r, if_pos ⟨rfl, rfl⟩])]
      exact stay s1 (fun z => absurd z q)
/-- those moved are written down -/
theorem nts_loop {m0 : gMem} {v : Int64} (hlb : ∀ i, i < 60 → lb v i = (decide (i < n) && el m0 κ i)) (hn : n ≤ 60) : ∀ k j, j + k = n → ∀ (μ u : gMem) (r B : Nat), BW μ u n a r p t Q B → B + k ≤ 1000000000 → (∀ i, i < n → u.1 12 i = if el m0 κ i then 1 else 0) → ∃ (μ' u' : gMem), rX5_relayAll_84 v (nI j) μ = some (some (.int 1), μ') ∧ rX10_relay_71 (nI j) u = g_cv (mX10_goesOn [.ref 0] u') (fun u1 => some (some (.int 1), u1)) ∧ BW μ' u' n a r p t Q (B + k) ∧ cfr μ μ' ∧ im u u' ∧ (∀ c i, c < 53 → c ∉ [39, 41, 42, 43, 44, 45] → μ'.1 c i = μ.1 c i) := by
  intro k
  induction k with
  | zero =>
    intro j hj μ u r B h hB h12
    obtain rfl : j = n := by omega
    exact ⟨μ, u, by rw [eX5_relayAll_84, h.A.1, if_pos (nI_le (by omega) (by omega))], by rw [eX10_relay_71, h.e.h.n, h.A.1, if_pos (nI_le (by omega) (by omega))], h, cfr.rf, im.rf, fun _ _ _ _ => rfl⟩
  | succ k ih =>
    intro j hj μ u r B h hB h12
    have hjn : j < n := by omega
    have hlj := hlb j (by omega)
    rw [decide_eq_true hjn, Bool.true_and] at hlj
    rw [eX5_relayAll_84, h.A.1, if_neg (nI_ge hjn (by omega)), eX10_relay_71, h.e.h.n, h.A.1, if_neg (nI_ge hjn (by omega)), gin (show j < 60 by omega) (by omega), if_pos rfl, tn (by omega), h12 j hjn, nI_1]
    cases q : el m0 κ j with
    | true =>
      rw [q] at hlj
      obtain ⟨μ3, u3, n1, n2, n3, n4, n5, n6, n7⟩ := note_c (wh := 6) h hjn (by omega)
      obtain ⟨μ4, u4, g1, g2, g3, g4, g5, g6⟩ := ih (j + 1) (by omega) μ3 u3 r (B + 1) n3 (by omega) (fun i hi => by rw [n7]; exact h12 i hi)
      refine ⟨μ4, u4, ?_, ?_, ?_, n4.tr g4, n5.tr g5, fun c i hc hc2 => (g6 c i hc hc2).trans (n6 c i hc hc2)⟩
      · rw [if_pos ((l_test (by omega)).mpr hlj), n1, g_cv_some]; exact g1
      · rw [show (if true = true then (1 : Int32) else 0) = 1 from rfl, if_neg (show ¬ (1 : Int32) = 0 by decide), m_slotOf h.e hjn hn, g_ci_some, m_columnOf h.e hjn hn, g_ci_some, n2, g_cv_some]; exact g2
      · rw [show B + (k + 1) = B + 1 + k by omega]; exact g3
    | false =>
      rw [q] at hlj
      obtain ⟨μ4, u4, g1, g2, g3, g4, g5, g6⟩ := ih (j + 1) (by omega) μ u r B h (by omega) h12
      refine ⟨μ4, u4, ?_, ?_, g3.mono (by omega) (by omega), g4, g5, g6⟩
      · rw [if_neg (fun z => by have := (l_test (by omega)).mp z; rw [hlj] at this; cases this)]; exact g1
      · rw [show (if false = true then (1 : Int32) else 0) = 0 from rfl, if_pos rfl]; exact g2
theorem ok_relay : okc mX9_relay mX10_relay [] := by
  intro k μ u hk hR
  obtain ⟨⟨n, a, r, p, t, Q, B, h, ht, hB⟩, hI⟩ := hR
  obtain ⟨h0, i0⟩ := told0 h
  obtain ⟨hw, hs, hIL⟩ := BR_iff.mp h0
  have hp := hw.A.p32
  have hn := hw.A.n60
  obtain ⟨F, κ, μ1, u1, G, k1, k2, k3, k4, k5, k6, k7, k8, k9, z, hz, hG⟩ := packed_both hw
  have hq := hw.qs k4
  have hc2 := c_layCost hw k3 k1 (fun x hx h2 => (k7 x hx h2).1)
  have E1 : mX5_relayAll [.ref 178] μ = (if csF μ κ n < G then rX5_relayAll_21 0 0 μ1 else some (some (.int 0), μ1)) := by
    rw [eX5_relayAll, k2, g_cv_some, k8, g_ci_some, hc2, g_ci_some]
  have E2 : mX10_packedAll [.ref 0, .int 4] (gwI u 0 0 0) = (if G ≤ csF μ κ n then some (some (.int 0), u1) else some (some (.int 1), u1)) := by
    rw [k9, eX10_packedAll_39, hq.e.h.n, hw.A.1, if_pos (nI_le (Nat.le_refl _) (by omega)), if_neg (show ¬ (4 : Int32) = 0 by decide), if_neg (show ¬ (4 : Int32) = 1 by decide), if_neg (show ¬ (4 : Int32) = 2 by decide), if_neg (show ¬ (4 : Int32) = 3 by decide)]
  rw [eX9_relay, E1, eX10_relay, E2]
  by_cases y : ¬ csF μ κ n < G
  · rw [if_neg y, if_pos (show G ≤ csF μ κ n from by rw [i_lt] at y; rw [i_le]; omega), g_ci_some, went_0, g_ci_some, g01_0, if_pos rfl, g_ci_some, if_pos rfl]
    exact ⟨_, _, _, rfl, rfl, Rl.mk hI (k4.xBR (k3.bs.xBR h0)) (by omega) (by omega) k3.cfr (i0.tr k4.im)⟩
  have y : csF μ κ n < G := Classical.byContradiction y
  rw [if_pos y, if_neg (show ¬ G ≤ csF μ κ n from fun z => by rw [i_le] at z; rw [i_lt] at y; omega), g_ci_some, if_neg (show ¬ (1 : Int32) = 0 by decide)]
  obtain ⟨c, c1, c2⟩ := csF_n (κ := κ) hw n (Nat.le_refl _)
  have hF60 : mxF F 0 p ≤ 60 := mxF_iff.mpr fun d _ => k1.1 _
  have hlt : mxF F 0 p < mxF (ld μ n) 0 p := gain_pos2 (c := c) hF60 hp.2 hz (by omega) (by rw [← c1, ← hG]; exact y)
  have h8 : mxF (ld μ n) 0 p ≤ 8 := mxF_iff.mpr fun d _ => ld_8 hw.A hw.P hw.S _
  have hb := (hw.bs k3.bs).qs k4
  obtain ⟨μ2, u2, v, m1, m2, m3, m4, m5, m6, m7, m8, m9⟩ := mvs_loop hw k3 k4 k1 k7 n 0 (by omega) μ1 u1 0 hb.v (fun _ _ _ => rfl) rfl (fun i _ => k3.2 13 i (by omega)) (fun i hi => by omega) im.rf (fun _ => rfl) (fun i hi => by omega) (fun i hi => by rw [l_0]; simp)
  have e9 : ∀ i, μ2.1 9 i = μ.1 9 i := fun i => by rw [m4 9 i (by decide)]; exact k3.2 9 i (by omega)
  have e14 : ∀ i, jn μ2 14 i = jn μ 14 i := fun i => by unfold jn; rw [m4 14 i (by decide), k3.2 14 i (by omega)]
  have hldF : ∀ d, d < 32 → ld μ2 n d = F d := fun d hd => by
    rw [k1.2.2 d]
    refine cB_congr fun x hx => ?_
    rw [e9]
    by_cases q : μ.1 9 x = 2
    · have hup := k1.2.1 x hx q
      obtain ⟨mm, w1, -⟩ := pl_w hw hx q
      have hle := w1.le
      rw [decide_eq_true q, Bool.true_and, Bool.true_and]
      unfold bl
      rw [e14, show jn μ2 13 x = κ x from by unfold jn; rw [m6 x hx q, tn (by have := hup.2.1; omega)]]
      exact b_BK (by have := hup.2.1; omega) hle.2 hd
    · rw [decide_eq_false q, Bool.false_and, Bool.false_and]
  have hld : ∀ d, d < 32 → ld μ2 n d ≤ 8 := fun d hd => by
    rw [hldF d hd]
    by_cases q : d < p
    · have := mxF_ge (f := F) (c := 0) q
      rw [Nat.zero_add] at this
      omega
    · rw [k1.2.2 d, cB_zero (fun x hx => ?_)]
      · omega
      · by_cases q2 : μ.1 9 x = 2
        · have hup := k1.2.1 x hx q2
          rw [decide_eq_false (show ¬ (κ x ≤ d ∧ d < κ x + jn μ 14 x) from fun z => by have := hup.2.1; omega), Bool.and_false]
        · rw [decide_eq_false q2, Bool.false_and]
  obtain ⟨b', u', r', p1, p2, p3, p4, p5, p6, p7⟩ := pack_bothX m3 hld
  obtain ⟨μ4, u4, n1, n2, n3, n4, n5, n6⟩ := nts_loop m9 hn n 0 (by omega) (g_pt 0 μ2 b') u' r' B (BW_pt p3) (by omega) (fun i hi => by rw [p7]; exact m8 i hi)
  have hBR : BR μ4 u4 n a r' p t Q (B + n) := BR_iff.mpr ⟨n3, fun s hs' => by rw [n6 32 s (by omega) (by decide), pt0 (by omega)]; exact p4 s hs', fun i hi => by
    rw [n6 9 i (by omega) (by decide), n6 10 i (by omega) (by decide), pt0 (by omega), pt0 (by omega), p6 9 i (by decide), p6 10 i (by decide), e9, m4 10 i (by decide), k3.2 10 i (by omega)]
    exact hIL i hi⟩
  obtain ⟨μ5, u5, r5, Q5, g1, g2, g3, g4, g5⟩ := went_1 hBR (by omega)
  have cm : cfr μ1 μ2 := fun c i hc => ⟨m4 c i (by simp; omega), by rw [m5]⟩
  refine ⟨1, μ5, u5, ?_, ?_, Rl.mk hI g3 (by omega) (by omega) ((((k3.cfr.tr cm).tr cfr.pt).tr n4).tr g4) (((((i0.tr k4.im).tr m7).tr p5).tr n5).tr g5)⟩
  · rw [show rX5_relayAll_21 0 0 μ1 = _ from m1, lf0 rfl rfl p1 rfl, g_cv_some, show rX5_relayAll_84 v 0 (g_pt 0 μ2 b') = _ from n1, g_ci_some, g1, g_ci_some, g01_1, if_pos rfl]
  · rw [show rX10_relay_17 0 u1 = _ from m2, p2, g_cv_some, show rX10_relay_71 0 u' = _ from n2, g2, g_cv_some]
end RELAY
