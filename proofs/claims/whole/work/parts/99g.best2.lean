section BEST2
variable {b u b' u' μ μ' ν : gMem} {n a r p t B k o : Nat} {Q : List Nat} {f g : Nat → Nat}
theorem mod_n {c w : Nat} (hc : c < 2147483648) (hw : 1 ≤ w) (hw2 : w < 2147483648) : nI c - nI c / nI w * nI w = nI (c % w) := by
  have e : c / w * w + c % w = c := by rw [Nat.mul_comm]; exact Nat.div_add_mod c w
  rw [pk_div hc (by omega) hw2, nml, nsb (by omega)]
  congr 1
  omega
theorem m_canMove {j c : Nat} (h : BW b u n a r p t Q B) (hj : j < n) (h2 : b.1 9 j = 2) (hc : c < p) (hm : c % jn b 14 j = 0) : mX10_canMove [.ref 0, .int (nI j), .int (nI c)] u = some (some (.int (if c ≠ jn b 13 j ∧ b.1 0 13 &&& BK c (jn b 14 j) = 0 then 1 else 0)), u) := by
  have hp := h.A.p32
  have hn := h.A.n60
  obtain ⟨m, w1, w2, w3, w4, w5, w6, w7⟩ := pl_w h hj h2
  have hle := w1.le
  rw [eX10_canMove, at_9 (by omega), g_ci_some, (h.e.j hj).f9, w2, if_neg (nneg (by omega)), m_cols h.e h.A, g_ci_some, if_neg (nI_ge hc (by omega)), if_neg (nI_ne0 (by omega) (by omega)), mod_n (by omega) hle.1 (by omega), hm, if_pos (show nI 0 = 0 from rfl), m_columnOf h.e hj hn, g_ci_some, w3, mbits hle.2, g_ci_some, h.e.h.d]
  by_cases q : c = jn b 13 j
  · rw [if_pos (by rw [q]), if_neg (fun z => z.1 q)]
  · rw [if_neg (show ¬ nI c = nI (jn b 13 j) from fun z => q (by rwa [neq (by omega) (by omega)] at z))]
    by_cases q2 : b.1 0 13 &&& BK c (jn b 14 j) = 0
    · rw [if_pos q2, if_pos ⟨q, q2⟩]
    · rw [if_neg q2, if_neg (fun z => q2 z.2)]
/-- a column to which a job can be moved -/
def okX (b : gMem) (p j x : Nat) : Prop := x < p ∧ x % jn b 14 j = 0 ∧ x ≠ jn b 13 j ∧ x + jn b 14 j ≤ p ∧ b.1 0 13 &&& BK x (jn b 14 j) = 0
/-- loads without a job -/
def f0 (b : gMem) (n j : Nat) : Nat → Nat := fd (ld b n) (jn b 13 j) (jn b 14 j)
def PK (b : gMem) (n p j x : Nat) : Nat := mxF (fu (f0 b n j) x (jn b 14 j)) 0 p
theorem best_loop {j : Nat} (h : BW μ u n a r p t Q B) (hj : j < n) (h2 : μ.1 9 j = 2) : ∀ k c, p ≤ c + k → c ≤ p → c % jn μ 14 j = 0 → ∀ (μ1 u1 : gMem) (o : Option Nat) (v3 v4 : Int32), pq μ μ1 → LD μ1 (f0 μ n j) → qs u u1 → LU u1 p (f0 μ n j) → u1.1 0 16 = eS o → (o = none → v3 = 61) → (∀ x, o = some x → v3 = nI (PK μ n p j x) ∧ μ1.1 178 6 = nI (PK μ n p j x) ∧ okX μ p j x) → ∃ (μ2 u2 : gMem) (o2 : Option Nat), rX5_bestColumn_68 (nI (jn μ 13 j)) (nI (jn μ 14 j)) (nI (mxF (f0 μ n j) 0 p)) (eS o) (nI c) μ1 = some (some (.int (eS o2)), μ2) ∧ rX10_findsBest_40 (nI j) (nI (jn μ 14 j)) v3 v4 (nI c) u1 = some (none, u2) ∧ pq μ μ2 ∧ qs u u2 ∧ u2.1 0 16 = eS o2 ∧ (∀ x, o2 = some x → μ2.1 178 6 = nI (PK μ n p j x) ∧ u2.1 0 17 = v4 - nI (PK μ n p j x) ∧ okX μ p j x) := by
  have hp := h.A.p32
  have hn := h.A.n60
  obtain ⟨m, w1, w2, w3, w4, w5, w6, w7⟩ := pl_w h hj h2
  have hle := w1.le
  have hdv := w1.dvd h.A.2.2.2.2.2.2
  have hf : ∀ d, f0 μ n j d ≤ 8 := fun d => by
    have := ld_8 h.A h.P h.S d
    unfold f0 fd
    split <;> omega
  have hfin : ∀ c, p ≤ c → c ≤ p → ∀ (μ1 u1 : gMem) (o : Option Nat) (v3 v4 : Int32), pq μ μ1 → qs u u1 → u1.1 0 16 = eS o → (∀ x, o = some x → v3 = nI (PK μ n p j x) ∧ μ1.1 178 6 = nI (PK μ n p j x) ∧ okX μ p j x) → ∃ (μ2 u2 : gMem) (o2 : Option Nat), rX5_bestColumn_68 (nI (jn μ 13 j)) (nI (jn μ 14 j)) (nI (mxF (f0 μ n j) 0 p)) (eS o) (nI c) μ1 = some (some (.int (eS o2)), μ2) ∧ rX10_findsBest_40 (nI j) (nI (jn μ 14 j)) v3 v4 (nI c) u1 = some (none, u2) ∧ pq μ μ2 ∧ qs u u2 ∧ u2.1 0 16 = eS o2 ∧ (∀ x, o2 = some x → μ2.1 178 6 = nI (PK μ n p j x) ∧ u2.1 0 17 = v4 - nI (PK μ n p j x) ∧ okX μ p j x) := by
    intro c c1 c2 μ1 u1 o v3 v4 k1 k2 k3 k4
    have hb := h.bs k1.bs
    have hq := h.qs k2
    refine ⟨μ1, gwI u1 0 17 (v4 - v3), o, ?_, ?_, k1, k2.tr (qs.w (by omega)), by rw [gI_r, if_neg (by omega)]; exact k3, fun x hx => ?_⟩
    · rw [eX5_bestColumn_68, lfq rfl rfl (by rw [eX2_p, hb.A.2.2.2.2.2.1]) rfl, g_ci_some, if_pos (nI_le c1 (by omega))]
    · rw [eX10_findsBest_40, m_cols hq.e h.A, g_ci_some, if_pos (nI_le c1 (by omega))]
    · obtain ⟨x1, x2, x3⟩ := k4 x hx
      exact ⟨x2, by rw [gI_r, if_pos ⟨rfl, rfl⟩, x1], x3⟩
  intro k
  induction k with
  | zero => intro c c1 c2 c3 μ1 u1 o v3 v4 k1 k2 k3 k4 k5 k6 k7; exact hfin c (by omega) c2 μ1 u1 o v3 v4 k1 k3 k5 k7
  | succ k ih =>
    intro c c1 c2 c3 μ1 u1 o v3 v4 k1 k2 k3 k4 k5 k6 k7
    by_cases q : c = p
    · exact hfin c (by omega) c2 μ1 u1 o v3 v4 k1 k3 k5 k7
    have hc : c < p := by omega
    have hfit := mul_fit hle.1 hdv c3 hc
    have hm : (c + jn μ 14 j) % jn μ 14 j = 0 := by rw [Nat.add_mod_right]; exact c3
    have hb := h.bs k1.bs
    have hq := h.qs k3
    have hcm := m_canMove hq hj h2 hc c3
    have e013 : μ1.1 0 13 = μ.1 0 13 := k1.2 0 13 (by omega)
    rw [eX5_bestColumn_68, lfq rfl rfl (by rw [eX2_p, hb.A.2.2.2.2.2.1]) rfl, g_ci_some, if_neg (nI_ge hc (by omega)), c_isUp (by omega) hle.2, g_ci_some, e013, eX10_findsBest_40, m_cols hq.e h.A, g_ci_some, if_neg (nI_ge hc (by omega)), hcm, g_ci_some, nad]
    by_cases q1 : c = jn μ 13 j
    · rw [if_pos (show nI c = nI (jn μ 13 j) by rw [q1]), show (if c ≠ jn μ 13 j ∧ μ.1 0 13 &&& BK c (jn μ 14 j) = 0 then (1 : Int32) else 0) = 0 from if_neg (fun z => z.1 q1), if_pos rfl]
      exact ih (c + jn μ 14 j) (by omega) hfit hm μ1 u1 o v3 v4 k1 k2 k3 k4 k5 k6 k7
    rw [if_neg (show ¬ nI c = nI (jn μ 13 j) from fun z => q1 (by rwa [neq (by omega) (by omega)] at z))]
    by_cases q2 : μ.1 0 13 &&& BK c (jn μ 14 j) = 0
    · rw [show (if c ≠ jn μ 13 j ∧ μ.1 0 13 &&& BK c (jn μ 14 j) = 0 then (1 : Int32) else 0) = 1 from if_pos ⟨q1, q2⟩, show (if μ.1 0 13 &&& BK c (jn μ 14 j) = 0 then (1 : Int32) else 0) = 1 from if_pos q2, if_neg (show ¬ (1 : Int32) = 0 by decide), if_neg (show ¬ (1 : Int32) = 0 by decide)]
      obtain ⟨u2, l1, l2, l3⟩ := m_up k4 (by omega) hfit
      have hgc := c_great k2 (show c + jn μ 14 j ≤ 32 by omega) (fun d _ => by have := hf d; omega)
      have hPK : PK μ n p j c = max (mxF (f0 μ n j) 0 p) (mxF (f0 μ n j) c (jn μ 14 j) + 1) := mx_fu hle.1 hfit
      have b1 : mxF (f0 μ n j) 0 p ≤ 8 := mxF_iff.mpr fun d _ => hf _
      have b2 : mxF (f0 μ n j) c (jn μ 14 j) ≤ 8 := mxF_iff.mpr fun d _ => hf _
      have b3 : PK μ n p j c ≤ 9 := by rw [hPK]; omega
      have hf2 : ∀ d, fu (f0 μ n j) c (jn μ 14 j) d ≤ 9 := fun d => by have := hf d; unfold fu; split <;> omega
      have hmax : mJ9_max_7cf53 [.int (nI (mxF (f0 μ n j) 0 p)), .int (nI (mxF (f0 μ n j) c (jn μ 14 j)) + 1)] μ1 = some (some (.int (nI (PK μ n p j c))), μ1) := by
        rw [eJ9_max_7cf53, nI_1, hPK]
        by_cases z : mxF (f0 μ n j) 0 p < mxF (f0 μ n j) c (jn μ 14 j) + 1
        · rw [if_pos (nI_lt z (by omega)), Nat.max_eq_right (by omega)]
        · rw [if_neg (nI_nlt (by omega) (by omega)), Nat.max_eq_left (by omega)]
      have hq2 := hq.qs l2.qs
      have hgr : mX10_greatest [.ref 0] u2 = some (some (.int (nI (PK μ n p j c))), u2) := m_greatest hq2 l3 (fun d _ => by have := hf2 d; omega)
      rw [hgc, g_ci_some, hmax, g_ci_some, l1, g_cv_some, hgr, g_ci_some]
      have take : ∀ v5 : Int32, ∃ (μ2 u2' : gMem) (o2 : Option Nat), rX5_bestColumn_68 (nI (jn μ 13 j)) (nI (jn μ 14 j)) (nI (mxF (f0 μ n j) 0 p)) (nI c) (nI (c + jn μ 14 j)) (gwI μ1 178 6 (nI (PK μ n p j c))) = some (some (.int (eS o2)), μ2) ∧ g_ci (mX10_greatest [.ref 0] (gwI u2 0 16 (nI c))) (fun a6 u6 => g_cv (mX10_loadsBy [.ref 0, .int (nI c), .int (nI (jn μ 14 j)), .int (-1)] u6) (fun u7 => rX10_findsBest_40 (nI j) (nI (jn μ 14 j)) a6 v4 (nI (c + jn μ 14 j)) u7)) = some (none, u2') ∧ pq μ μ2 ∧ qs u u2' ∧ u2'.1 0 16 = eS o2 ∧ (∀ x, o2 = some x → μ2.1 178 6 = nI (PK μ n p j x) ∧ u2'.1 0 17 = v4 - nI (PK μ n p j x) ∧ okX μ p j x) := by
        intro _
        have l3' : LU (gwI u2 0 16 (nI c)) p (fu (f0 μ n j) c (jn μ 14 j)) := fun d hd => by rw [gI_r, if_neg (by omega)]; exact l3 d hd
        have hq3 : BW μ (gwI u2 0 16 (nI c)) n a r p t Q B := hq2.qs (qs.w (by omega))
        obtain ⟨u3, m1, m2, m3⟩ := m_dn l3' (by omega) hfit (fun d d1 d2 => by unfold fu; rw [if_pos ⟨d1, d2⟩]; omega)
        rw [fd_fu] at m3
        have hgr2 : mX10_greatest [.ref 0] (gwI u2 0 16 (nI c)) = some (some (.int (nI (PK μ n p j c))), gwI u2 0 16 (nI c)) := m_greatest hq3 l3' (fun d _ => by have := hf2 d; omega)
        rw [hgr2, g_ci_some, m1, g_cv_some]
        refine ih (c + jn μ 14 j) (by omega) hfit hm _ u3 (some c) _ v4 (k1.tr (pq.w (by omega))) (fun d hd => by rw [gI_r, if_neg (by omega)]; exact k2 d hd) (((k3.tr l2.qs).tr (qs.w (by omega))).tr m2.qs) m3 (by rw [m2.2 0 16 (by omega), gI_r, if_pos ⟨rfl, rfl⟩]; rfl) (fun z => by cases z) (fun x hx => ?_)
        obtain rfl : c = x := Option.some.inj hx
        exact ⟨rfl, by rw [gI_r, if_pos ⟨rfl, rfl⟩], hc, c3, q1, hfit, q2⟩
      cases o with
      | none =>
        rw [show eS none = (-1 : Int32) from rfl, if_pos rfl, k6 rfl, if_neg (show ¬ (61 : Int32) ≤ nI (PK μ n p j c) from nI_ge (a := PK μ n p j c) (b := 61) (by omega) (by omega))]
        exact take 0
      | some x =>
        obtain ⟨x1, x2, x3⟩ := k7 x rfl
        have xp := x3.1
        have b4 : PK μ n p j x ≤ 9 := mxF_iff.mpr fun d _ => by have := hf (0 + d); unfold fu; split <;> omega
        rw [show eS (some x) = nI x from rfl, if_neg (nm1 (by omega)), x2, x1]
        by_cases z : PK μ n p j x ≤ PK μ n p j c
        · rw [if_pos (nI_le z (by omega)), if_pos (nI_le z (by omega))]
          obtain ⟨u3, m1, m2, m3⟩ := m_dn l3 (by omega) hfit (fun d d1 d2 => by unfold fu; rw [if_pos ⟨d1, d2⟩]; omega)
          rw [fd_fu] at m3
          rw [m1, g_cv_some]
          exact ih (c + jn μ 14 j) (by omega) hfit hm μ1 u3 (some x) _ v4 k1 k2 ((k3.tr l2.qs).tr m2.qs) m3 (by rw [m2.2 0 16 (by omega), l2.2 0 16 (by omega)]; exact k5) (fun z => by cases z) (fun y hy => by
            obtain rfl : x = y := Option.some.inj hy
            exact ⟨rfl, x2, x3⟩)
        · rw [if_neg (nI_ge (by omega) (by omega)), if_neg (nI_ge (by omega) (by omega))]
          exact take 0
    · rw [show (if c ≠ jn μ 13 j ∧ μ.1 0 13 &&& BK c (jn μ 14 j) = 0 then (1 : Int32) else 0) = 0 from if_neg (fun z => q2 z.2), show (if μ.1 0 13 &&& BK c (jn μ 14 j) = 0 then (1 : Int32) else 0) = 0 from if_neg q2, if_pos rfl, if_pos rfl]
      exact ih (c + jn μ 14 j) (by omega) hfit hm μ1 u1 o v3 v4 k1 k2 k3 k4 k5 k6 k7
theorem best_both {j : Nat} (h : BW μ u n a r p t Q B) (hj : j < n) (h2 : μ.1 9 j = 2) : ∃ (μ2 u2 : gMem) (o2 : Option Nat), mX5_bestColumn [.ref 178, .int (nI j)] μ = some (some (.int (eS o2)), μ2) ∧ mX10_findsBest [.ref 0, .int (nI j)] u = some (none, u2) ∧ pq μ μ2 ∧ qs u u2 ∧ u2.1 0 16 = eS o2 ∧ (∀ x, o2 = some x → μ2.1 178 6 = nI (PK μ n p j x) ∧ u2.1 0 17 = nI (mxF (ld μ n) 0 p) - nI (PK μ n p j x) ∧ okX μ p j x) := by
  have hp := h.A.p32
  have hn := h.A.n60
  obtain ⟨m, w1, w2, w3, w4, w5, w6, w7⟩ := pl_w h hj h2
  have hle := w1.le
  have hf : ∀ d, f0 μ n j d ≤ 8 := fun d => by
    have := ld_8 h.A h.P h.S d
    unfold f0 fd
    split <;> omega
  obtain ⟨μ1, a1, a2, a3⟩ := c_loadsC h
  obtain ⟨μ2, b1, b2, b3⟩ := c_dn a3 (show jn μ 13 j + jn μ 14 j ≤ 32 by omega) w7
  obtain ⟨u1, c1, c2, c3⟩ := m_laysLoads h
  have hq1 := h.qs c2.qs
  have hq2 : BW μ (gwI u1 0 16 (-1)) n a r p t Q B := hq1.qs (qs.w (by omega))
  have c3' : LU (gwI u1 0 16 (-1)) p (ld μ n) := fun d hd => by rw [gI_r, if_neg (by omega)]; exact c3 d hd
  obtain ⟨u2, d1, d2, d3⟩ := m_dn c3' (by omega) w5 w7
  obtain ⟨μ3, u3, o, e1, e2, e3, e4, e5, e6⟩ := best_loop h hj h2 p 0 (by omega) (by omega) (Nat.zero_mod _) μ2 u2 none 61 (nI (mxF (ld μ n) 0 p)) (a2.tr b2).pq b3 ((c2.qs.tr (qs.w (by omega))).tr d2.qs) d3 (by rw [d2.2 0 16 (by omega), gI_r, if_pos ⟨rfl, rfl⟩]; rfl) (fun _ => rfl) (fun x hx => by cases hx)
  refine ⟨μ3, u3, o, ?_, ?_, e3, e4, e5, e6⟩
  · have hb := h.bs (a2.tr b2).pq.bs
    rw [eX5_bestColumn, gin (show j < 60 by omega) (by omega), if_pos rfl, if_pos rfl, tn (by omega), w2, max_e hle.1 (by omega), g_ci_some, a1, g_cv_some, w3, b1, g_cv_some, lfq rfl rfl (by rw [eX2_p, hb.A.2.2.2.2.2.1]) rfl, g_ci_some, show mX5_greatestLoad [.ref 178, .int 0, .int (nI p)] μ2 = some (some (.int (nI (mxF (f0 μ n j) 0 p))), μ2) from c_great (c := 0) b3 (by omega) (fun d _ => by have := hf d; omega), g_ci_some]
    exact e1
  · rw [eX10_findsBest, at_9 (by omega), g_ci_some, (h.e.j hj).f9, w2, c1, g_cv_some, m_greatest hq1 c3 (fun d _ => by have := ld_8 h.A h.P h.S d; omega), g_ci_some, m_columnOf hq2.e hj hn, g_ci_some, w3, d1, g_cv_some]
    exact e2
end BEST2
