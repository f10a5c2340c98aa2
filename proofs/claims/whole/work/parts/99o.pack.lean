section PACKQ
variable {b u b' u' μ μ' ν : gMem} {n a r p t B k o : Nat} {Q : List Nat} {f g F κ : Nat → Nat}
/-- laid elsewhere -/
def el (b : gMem) (κ : Nat → Nat) (x : Nat) : Bool := decide (b.1 9 x = 2) && decide (κ x ≠ jn b 13 x)
def csF (b : gMem) (κ : Nat → Nat) : Nat → Int32
  | 0 => 0
  | j + 1 => if el b κ j then csF b κ j + st b j * b.1 5 j else csF b κ j
theorem c_else {x : Nat} {m0 : gMem} (h : BW m0 u n a r p t Q B) (hm : pq m0 μ) (hx : x < n) (hl : laid m0 n p F κ) (hk : ∀ x, x < n → m0.1 9 x = 2 → μ.1 180 x = nI (κ x)) : mX5_isLaidElsewhere [.ref 178, .int (nI x)] μ = some (some (.int (if el m0 κ x then 1 else 0)), μ) := by
  have hp := h.A.p32
  have hn := h.A.n60
  have hb := h.bs hm.bs
  rw [eX5_isLaidElsewhere, lfq rfl rfl (c_isPlaced hb.A hx) rfl, g_ci_some, hm.2 9 x (by omega), gin (show x < 60 by omega) (by omega), if_pos rfl, if_pos rfl, tn (by omega), hm.2 13 x (by omega)]
  unfold el
  by_cases q : m0.1 9 x = 2
  · obtain ⟨mm, w1, w2, w3, w4, w5, -⟩ := pl_w h hx q
    have hle := w1.le
    have hup := hl.2.1 x hx q
    rw [show (if m0.1 9 x = 2 then (1 : Int32) else 0) = 1 from if_pos q, if_neg (show ¬ (1 : Int32) = 0 by decide), hk x hx q, w3, decide_eq_true q, Bool.true_and]
    by_cases q2 : κ x = jn m0 13 x
    · rw [if_pos (by rw [q2]), decide_eq_false (fun z => z q2)]; rfl
    · rw [if_neg (show ¬ nI (κ x) = nI (jn m0 13 x) from fun z => q2 (by rwa [neq (by have := hup.2.1; omega) (by omega)] at z)), decide_eq_true q2]; rfl
  · rw [show (if m0.1 9 x = 2 then (1 : Int32) else 0) = 0 from if_neg q, if_pos rfl, decide_eq_false q]; rfl
theorem m_else {x : Nat} {u1 : gMem} (h : BW b u n a r p t Q B) (hq : qs u u1) (hx : x < n) (hl : laid b n p F κ) (hk : ∀ x, x < n → b.1 9 x = 2 → u1.1 11 x = nI (κ x)) : mX10_isOther [.ref 0, .int (nI x)] u1 = some (some (.int (if el b κ x then 1 else 0)), u1) := by
  have hp := h.A.p32
  have hn := h.A.n60
  have hw := h.qs hq
  rw [eX10_isOther, m_isPlaced hw.e hx hn, g_ci_some, gin (show x < 60 by omega) (by omega), if_pos rfl, tn (by omega), m_columnOf hw.e hx hn, g_ci_some]
  unfold el
  by_cases q : b.1 9 x = 2
  · obtain ⟨mm, w1, w2, w3, w4, w5, -⟩ := pl_w h hx q
    have hle := w1.le
    have hup := hl.2.1 x hx q
    rw [show (if b.1 9 x = 2 then (1 : Int32) else 0) = 1 from if_pos q, if_neg (show ¬ (1 : Int32) = 0 by decide), hk x hx q, w3, decide_eq_true q, Bool.true_and]
    by_cases q2 : κ x = jn b 13 x
    · rw [if_pos (by rw [q2]), decide_eq_false (fun z => z q2)]; rfl
    · rw [if_neg (show ¬ nI (κ x) = nI (jn b 13 x) from fun z => q2 (by rwa [neq (by have := hup.2.1; omega) (by omega)] at z)), decide_eq_true q2]; rfl
  · rw [show (if b.1 9 x = 2 then (1 : Int32) else 0) = 0 from if_neg q, if_pos rfl, decide_eq_false q]; rfl
theorem c_laidE {m0 : gMem} (h : BW m0 u n a r p t Q B) (hm : pq m0 μ) (hl : laid m0 n p F κ) (hk : ∀ x, x < n → m0.1 9 x = 2 → μ.1 180 x = nI (κ x)) : mX5_laidElsewhere [.ref 178] μ = some (some (.int (nI (cB (el m0 κ) n))), μ) := by
  have hn := h.A.n60
  have loop : ∀ k j, j + k = n → rX5_laidElsewhere_4 (nI (cB (el m0 κ) j)) (nI j) μ = some (some (.int (nI (cB (el m0 κ) n))), μ) := by
    intro k
    induction k with
    | zero =>
      intro j hj
      obtain rfl : j = n := by omega
      rw [eX5_laidElsewhere_4, hm.2 3 2 (by omega), h.A.1, if_pos (nI_le (by omega) (by omega))]
    | succ k ih =>
      intro j hj
      have ih' := ih (j + 1) (by omega)
      have e : cB (el m0 κ) (j + 1) = cB (el m0 κ) j + (if el m0 κ j then 1 else 0) := rfl
      rw [eX5_laidElsewhere_4, hm.2 3 2 (by omega), h.A.1, if_neg (nI_ge (by omega) (by omega)), c_else h hm (by omega) hl hk, g_ci_some, nI_1]
      cases q : el m0 κ j with
      | true => rw [e, q, if_pos rfl] at ih'; rw [show (if true = true then (1 : Int32) else 0) = 1 from rfl, if_neg (show ¬ (1 : Int32) = 0 by decide), nI_1]; exact ih'
      | false => rw [e, q, if_neg (by decide)] at ih'; rw [show (if false = true then (1 : Int32) else 0) = 0 from rfl, if_pos rfl]; exact ih'
  rw [eX5_laidElsewhere]
  exact loop n 0 (by omega)
theorem c_layCost {m0 : gMem} (h : BW m0 u n a r p t Q B) (hm : pq m0 μ) (hl : laid m0 n p F κ) (hk : ∀ x, x < n → m0.1 9 x = 2 → μ.1 180 x = nI (κ x)) : mX5_layingCost [.ref 178] μ = some (some (.int (csF m0 κ n)), μ) := by
  have hn := h.A.n60
  have loop : ∀ k j, j + k = n → rX5_layingCost_4 (csF m0 κ j) (nI j) μ = some (some (.int (csF m0 κ n)), μ) := by
    intro k
    induction k with
    | zero =>
      intro j hj
      obtain rfl : j = n := by omega
      rw [eX5_layingCost_4, hm.2 3 2 (by omega), h.A.1, if_pos (nI_le (by omega) (by omega))]
    | succ k ih =>
      intro j hj
      have ih' := ih (j + 1) (by omega)
      have e : csF m0 κ (j + 1) = if el m0 κ j then csF m0 κ j + st m0 j * m0.1 5 j else csF m0 κ j := rfl
      have hc := c_costOf (μ := μ) (show j < 60 by omega)
      rw [show st μ j = st m0 j from by unfold st; rw [hm.2 1 6 (by omega), hm.2 5 j (by omega)], hm.2 5 j (by omega)] at hc
      rw [eX5_layingCost_4, hm.2 3 2 (by omega), h.A.1, if_neg (nI_ge (by omega) (by omega)), c_else h hm (by omega) hl hk, g_ci_some, nI_1, hc, g_ci_some]
      cases q : el m0 κ j with
      | true => rw [e, q, if_pos rfl] at ih'; rw [show (if true = true then (1 : Int32) else 0) = 1 from rfl, if_neg (show ¬ (1 : Int32) = 0 by decide)]; exact ih'
      | false => rw [e, q, if_neg (by decide)] at ih'; rw [show (if false = true then (1 : Int32) else 0) = 0 from rfl, if_pos rfl]; exact ih'
  rw [eX5_layingCost]
  exact loop n 0 (by omega)
theorem m_packLoop {u1 : gMem} {v1 G : Int32} (h : BW b u n a r p t Q B) (hq : qs u u1) (hl : laid b n p F κ) (hk : ∀ x, x < n → b.1 9 x = 2 → u1.1 11 x = nI (κ x)) : rX10_packedAll_39 v1 G 0 0 0 u1 = rX10_packedAll_39 v1 G (nI (cB (el b κ) n)) (csF b κ n) (nI n) u1 := by
  have hn := h.A.n60
  have hw := h.qs hq
  have loop : ∀ k j, j + k = n → rX10_packedAll_39 v1 G (nI (cB (el b κ) j)) (csF b κ j) (nI j) u1 = rX10_packedAll_39 v1 G (nI (cB (el b κ) n)) (csF b κ n) (nI n) u1 := by
    intro k
    induction k with
    | zero => intro j hj; rw [show j = n by omega]
    | succ k ih =>
      intro j hj
      have ih' := ih (j + 1) (by omega)
      have e : csF b κ (j + 1) = if el b κ j then csF b κ j + st b j * b.1 5 j else csF b κ j := rfl
      have e2 : cB (el b κ) (j + 1) = cB (el b κ) j + (if el b κ j then 1 else 0) := rfl
      rw [eX10_packedAll_39, hw.e.h.n, h.A.1, if_neg (nI_ge (by omega) (by omega)), m_else h hq (by omega) hl hk, g_ci_some, nI_1, m_cost hw.e (by omega) hn, g_ci_some]
      cases q : el b κ j with
      | true => rw [e, e2, q, if_pos rfl, if_pos rfl] at ih'; rw [show (if true = true then (1 : Int32) else 0) = 1 from rfl, if_neg (show ¬ (1 : Int32) = 0 by decide), nI_1]; exact ih'
      | false => rw [e, e2, q, if_neg (by decide), if_neg (by decide)] at ih'; rw [show (if false = true then (1 : Int32) else 0) = 0 from rfl, if_pos rfl]; exact ih'
  exact loop n 0 (by omega)
/-- what laying all anew brings, both sides -/
theorem packed_both (h : BW μ u n a r p t Q B) : ∃ (F κ : Nat → Nat) (μ' u' : gMem) (G : Int32), laid μ n p F κ ∧ mX5_layAnew [.ref 178] μ = some (none, μ') ∧ pq μ μ' ∧ qs u u' ∧ μ'.1 178 6 = nI (mxF F 0 p) ∧ LU u' p F ∧ (∀ x, x < n → μ.1 9 x = 2 → μ'.1 180 x = nI (κ x) ∧ u'.1 11 x = nI (κ x)) ∧ mX5_gain [.ref 178] μ' = some (some (.int G), μ') ∧ (∀ v1, mX10_packedAll [.ref 0, .int v1] u = rX10_packedAll_39 v1 G (nI (cB (el μ κ) n)) (csF μ κ n) (nI n) u') ∧ (∃ z, z ≤ 9999 ∧ G = (nI (mxF (ld μ n) 0 p) - nI (mxF F 0 p)) * nI p * nI z) := by
  have hp := h.A.p32
  have hn := h.A.n60
  obtain ⟨u1, l1, l2, l3⟩ := m_laysLoads h
  have hq1 := h.qs l2.qs
  obtain ⟨F, κ, μ', u', k1, k2, k3, k4, k5, k6, k7, k8⟩ := lay_both hq1
  have hqq : qs u u' := l2.qs.tr k5
  have hw := h.qs hqq
  have hb := h.bs k4.bs
  have hb2 := hb.qs hqq
  obtain ⟨y, z, y1, y2, y3, y4⟩ := least_both hb2
  have hpk := c_peak hb2
  have hld : mxF (ld μ' n) 0 p = mxF (ld μ n) 0 p := mxF_cg fun d _ => k4.bs.xld n _
  rw [hld] at hpk
  have hG : (nI (mxF (ld μ n) 0 p) - nI (mxF F 0 p)) * nI p * y = (nI (mxF (ld μ n) 0 p) - nI (mxF F 0 p)) * nI p * nI z := by
    by_cases q : ∃ j, j < n ∧ μ'.1 9 j = 2
    · rw [y4 q]
    · have q0 : ∀ j, j < n → ¬ μ.1 9 j = 2 := fun j hj z => q ⟨j, hj, by rw [k4.2 9 j (by omega)]; exact z⟩
      have e1 : mxF (ld μ n) 0 p = 0 := Nat.le_zero.mp (mxF_iff.mpr fun d _ => Nat.le_of_eq (cB_zero fun j hj => by rw [decide_eq_false (q0 j hj), Bool.false_and]))
      have e2 : mxF F 0 p = 0 := Nat.le_zero.mp (mxF_iff.mpr fun d _ => by rw [k1.2.2]; exact Nat.le_of_eq (cB_zero fun j hj => by rw [decide_eq_false (q0 j hj), Bool.false_and]))
      rw [e1, e2]
      grind
  refine ⟨F, κ, μ', u', _, k1, k2, k4, hqq, k6, k7, k8, ?_, fun v1 => ?_, z, y3, rfl⟩
  · rw [eX5_gain, lfq rfl rfl hpk rfl, g_ci_some, lfq rfl rfl (by rw [eX2_p, hb2.A.2.2.2.2.2.1]) rfl, g_ci_some, lfq rfl rfl y1 rfl, g_ci_some, k6, hG]
  · rw [eX10_packedAll, l1, g_cv_some, m_greatest hq1 l3 (fun d _ => by have := ld_60 (b := μ) hn d; omega), g_ci_some, k3, g_cv_some, m_greatest hw k7 (fun d _ => by have := k1.1 d; omega), g_ci_some, m_cols hw.e h.A, g_ci_some, y2, g_ci_some]
    exact m_packLoop h hqq k1 (fun x hx h2 => (k8 x hx h2).2)
theorem ok_pack (a0 : Int32) : okc mX9_pack mX10_pack [.int a0] := okq fun μ u n a r p t Q B h0 _ _ => by
  have h := (BR_iff.mp h0).1
  have hn := h.A.n60
  obtain ⟨F, κ, μ', u', G, k1, k2, k3, k4, k5, k6, k7, k8, k9, -⟩ := packed_both h
  have hw := h.qs k4
  rw [eX9_pack, eX5_packed, k2, g_cv_some, eX10_pack]
  rcases rng (x := a0) (m := 4) (by omega) with q | ⟨w, hww, rfl⟩
  · have nn : ∀ v : Nat, v < 4 → ¬ a0 = nI v := fun v hv z => by
      rcases q with q | ⟨q, q2⟩
      · rw [z] at q; exact nneg (by omega) q
      · rw [z] at q2; exact nI_ge hv (by omega) q2
    rw [if_neg (show ¬ a0 = 0 from nn 0 (by omega)), if_neg (show ¬ a0 = 1 from nn 1 (by omega)), if_neg (show ¬ a0 = 2 from nn 2 (by omega)), if_neg (show ¬ a0 = 3 from nn 3 (by omega)), show mX10_isIn [.ref 0, .int a0, .int 0, .int 3] (gwI u 0 0 0) = _ from isIn_0 (m := 3) (by omega) q, g_ci_some, g_ci_some, if_pos rfl]
    exact ⟨_, μ', _, rfl, rfl, k3.bs, k3.cfr, qs.rf⟩
  rw [show mX10_isIn [.ref 0, .int (nI w), .int 0, .int 3] (gwI u 0 0 0) = _ from isIn_1 (y := 0) (z := 3) (by omega) (by omega) (by omega), g_ci_some, if_neg (show ¬ (1 : Int32) = 0 by decide), k9, eX10_packedAll_39, hw.e.h.n, h.A.1, if_pos (nI_le (Nat.le_refl _) (by omega)), m_greatest hw k6 (fun d _ => by have := k1.1 d; omega), g_ci_some]
  have hc1 := c_laidE h k3 k1 (fun x hx h2 => (k7 x hx h2).1)
  have hc2 := c_layCost h k3 k1 (fun x hx h2 => (k7 x hx h2).1)
  have hc : w = 0 ∨ w = 1 ∨ w = 2 ∨ w = 3 := by omega
  rcases hc with rfl | rfl | rfl | rfl
  · rw [if_pos (show nI 0 = 0 from rfl), if_pos (show nI 0 = 0 from rfl), g_ci_some, g_ci_some, k5]
    exact ⟨_, μ', u', rfl, rfl, k3.bs, k3.cfr, k4⟩
  · rw [if_neg (show ¬ nI 1 = 0 by decide), if_pos (show nI 1 = 1 from rfl), if_neg (show ¬ nI 1 = 0 by decide), if_pos (show nI 1 = 1 from rfl), hc1, g_ci_some, g_ci_some, g_ci_some]
    exact ⟨_, μ', u', rfl, rfl, k3.bs, k3.cfr, k4⟩
  · rw [if_neg (show ¬ nI 2 = 0 by decide), if_neg (show ¬ nI 2 = 1 by decide), if_pos (show nI 2 = 2 from rfl), if_neg (show ¬ nI 2 = 0 by decide), if_neg (show ¬ nI 2 = 1 by decide), if_pos (show nI 2 = 2 from rfl), k8, g_ci_some, g_ci_some, g_ci_some]
    exact ⟨_, μ', u', rfl, rfl, k3.bs, k3.cfr, k4⟩
  · rw [if_neg (show ¬ nI 3 = 0 by decide), if_neg (show ¬ nI 3 = 1 by decide), if_neg (show ¬ nI 3 = 2 by decide), if_pos (show nI 3 = 3 from rfl), if_neg (show ¬ nI 3 = 0 by decide), if_neg (show ¬ nI 3 = 1 by decide), if_neg (show ¬ nI 3 = 2 by decide), if_pos (show nI 3 = 3 from rfl), hc2, g_ci_some, g_ci_some, g_ci_some]
    exact ⟨_, μ', u', rfl, rfl, k3.bs, k3.cfr, k4⟩
end PACKQ
