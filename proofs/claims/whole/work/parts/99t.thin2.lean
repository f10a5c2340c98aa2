section THIN2
variable {b u b' u' μ μ' ν : gMem} {n a r p t B k o : Nat} {Q : List Nat} {f g : Nat → Nat}
theorem m_T1 (h : BW b u n a r p t Q B) (hf : ∀ d, f d ≤ 100) : ∀ k j, j + k = n → ge1 b n j f → ∀ (u1 : gMem) (v : Nat), qs u u1 → LU u1 p f → v ≤ 101 → ∃ u2, rX10_thinsOne_7 (nI v) (nI j) u1 = some (some (.int (nI (Tz1 b p f j k v))), u2) ∧ lo u1 u2 ∧ LU u2 p f := by
  have hn := h.A.n60
  have hp := h.A.p32
  intro k
  induction k with
  | zero =>
    intro j hj hg u1 v hq hl hv
    have hw := h.qs hq
    obtain rfl : j = n := by omega
    exact ⟨u1, by rw [eX10_thinsOne_7, hw.e.h.n, h.A.1, if_pos (nI_le (by omega) (by omega))]; rfl, lo.rf, hl⟩
  | succ k ih =>
    intro j hj hg u1 v hq hl hv
    have hw := h.qs hq
    have hjn : j < n := by omega
    have hg' : ge1 b n (j + 1) f := fun x h1 h2 => hg x (by omega) h2
    have e : Tz1 b p f j (k + 1) v = Tz1 b p f (j + 1) k (if b.1 9 j = 2 then Lz1 b p f j v else v) := rfl
    rw [eX10_thinsOne_7, hw.e.h.n, h.A.1, if_neg (nI_ge hjn (by omega)), m_isPlaced hw.e hjn hn, g_ci_some, nI_1, e]
    by_cases q : b.1 9 j = 2
    · obtain ⟨m, w1, w2, w3, w4, w5, w6, w7⟩ := pl_w h hjn q
      have hle := w1.le
      have hdv := w1.dvd h.A.2.2.2.2.2.2
      have h1 := hg j (Nat.le_refl _) hjn q
      obtain ⟨u2, a1, a2, a3⟩ := m_dn hl (by omega) w5 h1
      have hF : ∀ d, fz1 b f j d ≤ 100 := fun d => f1_le (hf d)
      have hF2 : ∀ c d, fu (fz1 b f j) c (jn b 14 j) d ≤ 101 := fun c d => fu_le (hF d)
      have hmf : ∀ L, mf (fun c => mxF (fu (fz1 b f j) c (jn b 14 j)) 0 p) L v ≤ 101 := fun L => Nat.le_trans (mf_le _ _) hv
      rw [show (if b.1 9 j = 2 then (1 : Int32) else 0) = 1 from if_pos q, if_neg (show ¬ (1 : Int32) = 0 by decide), at_9 (by omega), g_ci_some, (hw.e.j hjn).f9, w2, m_columnOf hw.e hjn hn, g_ci_some, w3, a1, g_cv_some, if_pos q]
      have fin : ∀ c, p ≤ c → c ≤ p → ∀ u3, lo u1 u3 → LU u3 p (fz1 b f j) → ∃ u4, rX10_thinsOne_53 (nI (mf (fun c => mxF (fu (fz1 b f j) c (jn b 14 j)) 0 p) (cl b p j c) v)) (nI j) (nI (jn b 14 j)) (nI c) u3 = some (some (.int (nI (Tz1 b p f (j + 1) k (Lz1 b p f j v)))), u4) ∧ lo u1 u4 ∧ LU u4 p f := fun c c1 c2 u3 k1 k2 => by
        obtain rfl : c = p := by omega
        have hw3 := hw.qs k1.qs
        obtain ⟨u4, b1, b2, b3⟩ := m_up k2 (by omega) w5
        rw [show fu (fz1 b f j) (jn b 13 j) (jn b 14 j) = f from fu_fd h1] at b3
        obtain ⟨u5, d1, d2, d3⟩ := ih (j + 1) (by omega) hg' u4 (Lz1 b c f j v) ((hq.tr k1.qs).tr b2.qs) b3 (Nat.le_trans (mf_le _ _) hv)
        refine ⟨u5, ?_, (k1.tr b2).tr d2, d3⟩
        rw [eX10_thinsOne_53, m_cols hw3.e h.A, g_ci_some, if_pos (nI_le (by omega) (by omega)), m_columnOf hw3.e hjn hn, g_ci_some, w3, b1, g_cv_some, nI_1]
        exact d1
      have loop : ∀ k' c, p ≤ c + k' → c ≤ p → c % jn b 14 j = 0 → ∀ u3, lo u1 u3 → LU u3 p (fz1 b f j) → ∃ u4, rX10_thinsOne_53 (nI (mf (fun c => mxF (fu (fz1 b f j) c (jn b 14 j)) 0 p) (cl b p j c) v)) (nI j) (nI (jn b 14 j)) (nI c) u3 = some (some (.int (nI (Tz1 b p f (j + 1) k (Lz1 b p f j v)))), u4) ∧ lo u1 u4 ∧ LU u4 p f := by
        intro k'
        induction k' with
        | zero => intro c c1 c2 c3; exact fin c (by omega) c2
        | succ k' ih2 =>
          intro c c1 c2 c3 u3 k1 k2
          by_cases q0 : c = p
          · exact fin c (by omega) c2 u3 k1 k2
          have hc : c < p := by omega
          have hfit := mul_fit hle.1 hdv c3 hc
          have hmod : (c + jn b 14 j) % jn b 14 j = 0 := by rw [Nat.add_mod_right]; exact c3
          have hw3 := hw.qs k1.qs
          have hup : upB b p j c = decide (b.1 0 13 &&& BK c (jn b 14 j) = 0) := by unfold upB; rw [decide_eq_true c3, decide_eq_true hfit]; rfl
          have ih' := ih2 (c + jn b 14 j) (by omega) hfit hmod
          rw [mf_step w1 c3, hup] at ih'
          rw [eX10_thinsOne_53, m_cols hw3.e h.A, g_ci_some, if_neg (nI_ge hc (by omega)), mbits hle.2, g_ci_some, hw3.e.h.d, nad]
          by_cases q2 : b.1 0 13 &&& BK c (jn b 14 j) = 0
          · rw [decide_eq_true q2, if_pos rfl] at ih'
            obtain ⟨u4, b1, b2, b3⟩ := m_up k2 (by omega) hfit
            obtain ⟨u5, d1, d2, d3⟩ := m_dn b3 (by omega) hfit (fun d x1 x2 => by unfold fu; rw [if_pos ⟨x1, x2⟩]; omega)
            rw [fd_fu] at d3
            have hg1 : mX10_greatest [.ref 0] u4 = some (some (.int (nI (mxF (fu (fz1 b f j) c (jn b 14 j)) 0 p))), u4) := m_greatest (hw3.qs b2.qs) b3 (fun d _ => by have := hF2 c d; omega)
            have hg2 : mxF (fu (fz1 b f j) c (jn b 14 j)) 0 p ≤ 101 := mxF_iff.mpr fun d _ => hF2 c _
            have hg3 := hmf (cl b p j c)
            rw [if_pos q2, b1, g_cv_some, hg1, g_ci_some, d1, g_cv_some]
            obtain ⟨u6, e1, e2, e3⟩ := ih' u5 ((k1.tr b2).tr d2) d3
            by_cases y : mf (fun c => mxF (fu (fz1 b f j) c (jn b 14 j)) 0 p) (cl b p j c) v ≤ mxF (fu (fz1 b f j) c (jn b 14 j)) 0 p
            · rw [if_pos (nI_le y (by omega)), ]
              rw [Nat.min_eq_left y] at e1
              exact ⟨u6, e1, e2, e3⟩
            · rw [if_neg (nI_ge (by omega) (by omega)), g_cv_some]
              rw [Nat.min_eq_right (by omega)] at e1
              exact ⟨u6, e1, e2, e3⟩
          · rw [decide_eq_false q2, if_neg (by decide)] at ih'
            rw [if_neg q2]
            exact ih' u3 k1 k2
      exact loop p 0 (by omega) (by omega) (Nat.zero_mod _) u2 a2 a3
    · rw [show (if b.1 9 j = 2 then (1 : Int32) else 0) = 0 from if_neg q, if_pos rfl, if_neg q]
      exact ih (j + 1) (by omega) hg' u1 v hq hl hv
/-- the second of two, the first at a column -/
def Gz (b : gMem) (n p : Nat) (f : Nat → Nat) (j c : Nat) : Nat := Tz1 b p (fu (fz1 b f j) c (jn b 14 j)) (j + 1) (n - (j + 1)) (mxF (fu (fz1 b f j) c (jn b 14 j)) 0 p)
def Lz2 (b : gMem) (n p : Nat) (f : Nat → Nat) (j v : Nat) : Nat := mf (Gz b n p f j) (cl b p j p) v
def Tz2 (b : gMem) (n p : Nat) (f : Nat → Nat) : Nat → Nat → Nat → Nat
  | _, 0, v => v
  | j, k + 1, v => Tz2 b n p f (j + 1) k (if b.1 9 j = 2 then Lz2 b n p f j v else v)
theorem Lz2_e {j v : Nat} (hw : 1 ≤ jn b 14 j) (hown : upX b p j (jn b 13 j)) : min v (mf (Gz b n p f j) (cl b p j p) (LPk b p f j)) = Lz2 b n p f j v := by
  have e : ∀ x, x ≤ min v (mf (Gz b n p f j) (cl b p j p) (LPk b p f j)) ↔ x ≤ Lz2 b n p f j v := fun x => by
    unfold Lz2
    rw [Nat.le_min, mf_iff, mf_iff]
    constructor
    · rintro ⟨h1, -, h3⟩; exact ⟨h1, h3⟩
    · rintro ⟨h1, h3⟩
      exact ⟨h1, (LP_i hw hown).mpr (fun c hc => Nat.le_trans (h3 c hc) (Tz1_le _ _ _)), h3⟩
  exact Nat.le_antisymm ((e _).mp (Nat.le_refl _)) ((e _).mpr (Nat.le_refl _))
/-- loads count each job twice, where two are -/
theorem ge_two {m0 : gMem} {j c : Nat} (h : BW m0 u n a r p t Q B) (hj : j < n) (h2 : m0.1 9 j = 2) : ge1 m0 n (j + 1) (fu (fz1 m0 (ld m0 n) j) c (jn m0 14 j)) := by
  intro x x1 x2 x9 d d1 d2
  have hp := h.A.p32
  obtain ⟨m, w1, w2, w3, w4, w5, w6, w7⟩ := pl_w h hj h2
  obtain ⟨m', v1, v2, v3, v4, v5, v6, v7⟩ := pl_w h x2 x9
  have hle := w1.le
  have hle' := v1.le
  have h0 : 1 ≤ fz1 m0 (ld m0 n) j d := by
    unfold fz1 fd
    by_cases q : jn m0 13 j ≤ d ∧ d < jn m0 13 j + jn m0 14 j
    · rw [if_pos q]
      have : 2 ≤ ld m0 n d := cB_ge (Y := [j, x]) (by simp; omega) (fun y hy => by
        simp only [List.mem_cons, List.not_mem_nil, or_false] at hy
        rcases hy with rfl | rfl
        · refine ⟨hj, ?_⟩
          rw [decide_eq_true h2, Bool.true_and]
          unfold bl
          rw [b_BK (by omega) hle.2 (by omega)]
          exact decide_eq_true q
        · refine ⟨x2, ?_⟩
          rw [decide_eq_true x9, Bool.true_and]
          unfold bl
          rw [b_BK (by omega) hle'.2 (by omega)]
          exact decide_eq_true ⟨d1, d2⟩)
      omega
    · rw [if_neg q]; exact v7 d d1 d2
  unfold fu
  split <;> omega
theorem c_T2 {m0 : gMem} (h : BW m0 u n a r p t Q B) : ∀ k j, j + k = n → ∀ (μ : gMem) (v : Nat), pq m0 μ → LD μ (ld m0 n) → v ≤ 100 → ∃ μ', rX5_thinned_56 2 (nI v) (nI j) μ = some (some (.int (nI (Tz2 m0 n p (ld m0 n) j k v))), μ') ∧ lk μ μ' ∧ LD μ' (ld m0 n) := by
  have hn := h.A.n60
  have hp := h.A.p32
  have hf : ∀ d, ld m0 n d ≤ 60 := fun d => ld_60 hn d
  intro k
  induction k with
  | zero =>
    intro j hj μ v hm hl hv
    obtain rfl : j = n := by omega
    exact ⟨μ, by rw [eX5_thinned_56, hm.2 3 2 (by omega), h.A.1, if_pos (nI_le (by omega) (by omega))]; rfl, lk.rf, hl⟩
  | succ k ih =>
    intro j hj μ v hm hl hv
    have hjn : j < n := by omega
    have hb := h.bs hm.bs
    have e : Tz2 m0 n p (ld m0 n) j (k + 1) v = Tz2 m0 n p (ld m0 n) (j + 1) k (if m0.1 9 j = 2 then Lz2 m0 n p (ld m0 n) j v else v) := rfl
    rw [eX5_thinned_56, hm.2 3 2 (by omega), h.A.1, if_neg (nI_ge hjn (by omega)), lfq rfl rfl (c_isPlaced hb.A hjn) rfl, g_ci_some, hm.2 9 j (by omega), nI_1, e]
    by_cases q : m0.1 9 j = 2
    · obtain ⟨m, w1, w2, w3, w4, w5, w6, w7⟩ := pl_w h hjn q
      have hle := w1.le
      have hdv := w1.dvd h.A.2.2.2.2.2.2
      obtain ⟨μ1, a1, a2, a3⟩ := c_LP h hm hjn q hl (fun d => by have := hf d; omega) w7
      obtain ⟨μ2, b1, b2, b3⟩ := c_dn a3 (show jn m0 13 j + jn m0 14 j ≤ 32 by omega) w7
      have hF : ∀ d, fz1 m0 (ld m0 n) j d ≤ 60 := fun d => f1_le (hf d)
      have hF2 : ∀ c d, fu (fz1 m0 (ld m0 n) j) c (jn m0 14 j) d ≤ 61 := fun c d => fu_le (hF d)
      have hLP : LPk m0 p (ld m0 n) j ≤ 61 := by
        unfold LPk
        have z1 : mxF (fz1 m0 (ld m0 n) j) 0 p ≤ 60 := mxF_iff.mpr fun d _ => f1_le (hf _)
        have z2 : mxF (fz1 m0 (ld m0 n) j) (jn m0 13 j) (jn m0 14 j) ≤ 60 := mxF_iff.mpr fun d _ => f1_le (hf _)
        have z3 := mf_le (g := fun c => mxF (fz1 m0 (ld m0 n) j) c (jn m0 14 j)) (cl m0 p j p) (mxF (fz1 m0 (ld m0 n) j) (jn m0 13 j) (jn m0 14 j))
        omega
      have hmf : ∀ L, mf (Gz m0 n p (ld m0 n) j) L (LPk m0 p (ld m0 n) j) ≤ 61 := fun L => Nat.le_trans (mf_le _ _) hLP
      have hG : ∀ c, Gz m0 n p (ld m0 n) j c ≤ 61 := fun c => Nat.le_trans (Tz1_le _ _ _) (mxF_iff.mpr fun d _ => hF2 c _)
      have fin : ∀ c, p ≤ c → c ≤ p → ∀ μ3, lk μ μ3 → LD μ3 (fz1 m0 (ld m0 n) j) → ∃ μ4, rX5_leastPeakByTwo_47 (nI j) (nI (jn m0 13 j)) (nI (jn m0 14 j)) (nI (mf (Gz m0 n p (ld m0 n) j) (cl m0 p j c) (LPk m0 p (ld m0 n) j))) (nI c) μ3 = some (some (.int (nI (mf (Gz m0 n p (ld m0 n) j) (cl m0 p j p) (LPk m0 p (ld m0 n) j)))), μ4) ∧ lk μ μ4 ∧ LD μ4 (ld m0 n) := fun c c1 c2 μ3 k1 k2 => by
        obtain rfl : c = p := by omega
        have hb3 := h.bs (hm.tr k1.pq).bs
        obtain ⟨μ4, d1, d2, d3⟩ := c_up k2 (show jn m0 13 j + jn m0 14 j ≤ 32 by omega)
        rw [show fu (fz1 m0 (ld m0 n) j) (jn m0 13 j) (jn m0 14 j) = ld m0 n from fu_fd w7] at d3
        refine ⟨μ4, ?_, k1.tr d2, d3⟩
        rw [eX5_leastPeakByTwo_47, lfq rfl rfl (by rw [eX2_p, hb3.A.2.2.2.2.2.1]) rfl, g_ci_some, if_pos (nI_le (by omega) (by omega)), d1, g_cv_some]
      have loop : ∀ k' c, p ≤ c + k' → c ≤ p → c % jn m0 14 j = 0 → ∀ μ3, lk μ μ3 → LD μ3 (fz1 m0 (ld m0 n) j) → ∃ μ4, rX5_leastPeakByTwo_47 (nI j) (nI (jn m0 13 j)) (nI (jn m0 14 j)) (nI (mf (Gz m0 n p (ld m0 n) j) (cl m0 p j c) (LPk m0 p (ld m0 n) j))) (nI c) μ3 = some (some (.int (nI (mf (Gz m0 n p (ld m0 n) j) (cl m0 p j p) (LPk m0 p (ld m0 n) j)))), μ4) ∧ lk μ μ4 ∧ LD μ4 (ld m0 n) := by
        intro k'
        induction k' with
        | zero => intro c c1 c2 c3; exact fin c (by omega) c2
        | succ k' ih2 =>
          intro c c1 c2 c3 μ3 k1 k2
          by_cases q0 : c = p
          · exact fin c (by omega) c2 μ3 k1 k2
          have hc : c < p := by omega
          have hfit := mul_fit hle.1 hdv c3 hc
          have hmod : (c + jn m0 14 j) % jn m0 14 j = 0 := by rw [Nat.add_mod_right]; exact c3
          have hpq := hm.tr k1.pq
          have hb3 := h.bs hpq.bs
          have hup : upB m0 p j c = decide (m0.1 0 13 &&& BK c (jn m0 14 j) = 0) := by unfold upB; rw [decide_eq_true c3, decide_eq_true hfit]; rfl
          have ih' := ih2 (c + jn m0 14 j) (by omega) hfit hmod
          rw [mf_step w1 c3, hup] at ih'
          rw [eX5_leastPeakByTwo_47, lfq rfl rfl (by rw [eX2_p, hb3.A.2.2.2.2.2.1]) rfl, g_ci_some, if_neg (nI_ge hc (by omega)), c_isUp (by omega) hle.2, g_ci_some, hpq.2 0 13 (by omega), nad]
          by_cases q2 : m0.1 0 13 &&& BK c (jn m0 14 j) = 0
          · rw [decide_eq_true q2, if_pos rfl] at ih'
            obtain ⟨μ4, d1, d2, d3⟩ := c_up k2 (show c + jn m0 14 j ≤ 32 by omega)
            have hpq4 := hpq.tr d2.pq
            have hb4 := h.bs hpq4.bs
            obtain ⟨μ5, e1, -, e3, e4⟩ := c_T1 h (fun d => by have := hF2 c d; omega) (n - (j + 1)) (j + 1) (by omega) (ge_two (c := c) h hjn q) μ4 (mxF (fu (fz1 m0 (ld m0 n) j) c (jn m0 14 j)) 0 p) hpq4 d3 (Nat.le_trans (mxF_iff.mpr fun d _ => hF2 c _) (by omega))
            obtain ⟨μ6, f1', f2, f3⟩ := c_dn e4 (show c + jn m0 14 j ≤ 32 by omega) (fun d x1 x2 => by unfold fu; rw [if_pos ⟨x1, x2⟩]; omega)
            rw [fd_fu] at f3
            have hlater : mX5_leastPeakByLater [.ref 178, .int (nI j)] μ4 = some (some (.int (nI (Gz m0 n p (ld m0 n) j c))), μ5) := by
              rw [eX5_leastPeakByLater, lfq rfl rfl (by rw [eX2_p, hb4.A.2.2.2.2.2.1]) rfl, g_ci_some, show mX5_greatestLoad [.ref 178, .int 0, .int (nI p)] μ4 = some (some (.int (nI (mxF (fu (fz1 m0 (ld m0 n) j) c (jn m0 14 j)) 0 p))), μ4) from c_great (c := 0) d3 (by omega) (fun d _ => by have := hF2 c d; omega), g_ci_some, nI_1]
              exact e1
            rw [show (if m0.1 0 13 &&& BK c (jn m0 14 j) = 0 then (1 : Int32) else 0) = 1 from if_pos q2, if_neg (show ¬ (1 : Int32) = 0 by decide), d1, g_cv_some, hlater, g_ci_some, min_n (by have := hmf (cl m0 p j c); omega) (by have := hG c; omega), g_ci_some, f1', g_cv_some]
            exact ih' μ6 (((k1.tr d2).tr e3).tr f2) f3
          · rw [decide_eq_false q2, if_neg (by decide)] at ih'
            rw [show (if m0.1 0 13 &&& BK c (jn m0 14 j) = 0 then (1 : Int32) else 0) = 0 from if_neg q2, if_pos rfl]
            exact ih' μ3 k1 k2
      obtain ⟨μ4, g1, g2, g3⟩ := loop p 0 (by omega) (by omega) (Nat.zero_mod _) μ2 (a2.tr b2) b3
      have hL : min v (mf (Gz m0 n p (ld m0 n) j) (cl m0 p j p) (LPk m0 p (ld m0 n) j)) = Lz2 m0 n p (ld m0 n) j v := Lz2_e hle.1 ⟨w4, w5, w6⟩
      obtain ⟨μ5, d1, d2, d3⟩ := ih (j + 1) (by omega) μ4 (Lz2 m0 n p (ld m0 n) j v) (hm.tr g2.pq) g3 (Nat.le_trans (mf_le _ _) hv)
      have htwo : mX5_leastPeakByTwo [.ref 178, .int (nI j)] μ = some (some (.int (nI (mf (Gz m0 n p (ld m0 n) j) (cl m0 p j p) (LPk m0 p (ld m0 n) j)))), μ4) := by
        rw [eX5_leastPeakByTwo, gin (show j < 60 by omega) (by omega), if_pos rfl, if_pos rfl, tn (by omega), hm.2 14 j (by omega), w2, max_e hle.1 (by omega), g_ci_some, a1, g_ci_some, hm.2 13 j (by omega), w3, b1, g_cv_some]
        exact g1
      refine ⟨μ5, ?_, g2.tr d2, d3⟩
      rw [show (if m0.1 9 j = 2 then (1 : Int32) else 0) = 1 from if_pos q, if_neg (show ¬ (1 : Int32) = 0 by decide), if_neg (show ¬ (2 : Int32) = 1 by decide), htwo, g_ci_some, min_n (by omega) (by have := hmf (cl m0 p j p); omega), g_ci_some, hL, if_pos q]
      exact d1
    · rw [show (if m0.1 9 j = 2 then (1 : Int32) else 0) = 0 from if_neg q, if_pos rfl, if_neg q]
      exact ih (j + 1) (by omega) μ v hm hl hv
theorem m_T2 (h : BW b u n a r p t Q B) : ∀ k j, j + k = n → ∀ (u1 : gMem) (v : Nat), qs u u1 → LU u1 p (ld b n) → v ≤ 100 → ∃ u2, rX10_thinsTwo_7 (nI v) (nI j) u1 = some (some (.int (nI (Tz2 b n p (ld b n) j k v))), u2) ∧ lo u1 u2 ∧ LU u2 p (ld b n) := by
  have hn := h.A.n60
  have hp := h.A.p32
  have hf : ∀ d, ld b n d ≤ 60 := fun d => ld_60 hn d
  intro k
  induction k with
  | zero =>
    intro j hj u1 v hq hl hv
    have hw := h.qs hq
    obtain rfl : j = n := by omega
    exact ⟨u1, by rw [eX10_thinsTwo_7, hw.e.h.n, h.A.1, if_pos (nI_le (by omega) (by omega))]; rfl, lo.rf, hl⟩
  | succ k ih =>
    intro j hj u1 v hq hl hv
    have hw := h.qs hq
    have hjn : j < n := by omega
    have e : Tz2 b n p (ld b n) j (k + 1) v = Tz2 b n p (ld b n) (j + 1) k (if b.1 9 j = 2 then Lz2 b n p (ld b n) j v else v) := rfl
    rw [eX10_thinsTwo_7, hw.e.h.n, h.A.1, if_neg (nI_ge hjn (by omega)), m_isPlaced hw.e hjn hn, g_ci_some, nI_1, e]
    by_cases q : b.1 9 j = 2
    · obtain ⟨m, w1, w2, w3, w4, w5, w6, w7⟩ := pl_w h hjn q
      have hle := w1.le
      have hdv := w1.dvd h.A.2.2.2.2.2.2
      obtain ⟨u2, a1, a2, a3⟩ := m_dn hl (by omega) w5 w7
      have hF : ∀ d, fz1 b (ld b n) j d ≤ 60 := fun d => f1_le (hf d)
      have hF2 : ∀ c d, fu (fz1 b (ld b n) j) c (jn b 14 j) d ≤ 61 := fun c d => fu_le (hF d)
      have hmf : ∀ L, mf (Gz b n p (ld b n) j) L v ≤ 100 := fun L => Nat.le_trans (mf_le _ _) hv
      have hG : ∀ c, Gz b n p (ld b n) j c ≤ 61 := fun c => Nat.le_trans (Tz1_le _ _ _) (mxF_iff.mpr fun d _ => hF2 c _)
      rw [show (if b.1 9 j = 2 then (1 : Int32) else 0) = 1 from if_pos q, if_neg (show ¬ (1 : Int32) = 0 by decide), at_9 (by omega), g_ci_some, (hw.e.j hjn).f9, w2, m_columnOf hw.e hjn hn, g_ci_some, w3, a1, g_cv_some, if_pos q]
      have fin : ∀ c, p ≤ c → c ≤ p → ∀ u3, lo u1 u3 → LU u3 p (fz1 b (ld b n) j) → ∃ u4, rX10_thinsTwo_51 (nI (mf (Gz b n p (ld b n) j) (cl b p j c) v)) (nI j) (nI (jn b 14 j)) (nI c) u3 = some (some (.int (nI (Tz2 b n p (ld b n) (j + 1) k (Lz2 b n p (ld b n) j v)))), u4) ∧ lo u1 u4 ∧ LU u4 p (ld b n) := fun c c1 c2 u3 k1 k2 => by
        obtain rfl : c = p := by omega
        have hw3 := hw.qs k1.qs
        obtain ⟨u4, b1, b2, b3⟩ := m_up k2 (by omega) w5
        rw [show fu (fz1 b (ld b n) j) (jn b 13 j) (jn b 14 j) = ld b n from fu_fd w7] at b3
        obtain ⟨u5, d1, d2, d3⟩ := ih (j + 1) (by omega) u4 (Lz2 b n c (ld b n) j v) ((hq.tr k1.qs).tr b2.qs) b3 (Nat.le_trans (mf_le _ _) hv)
        refine ⟨u5, ?_, (k1.tr b2).tr d2, d3⟩
        rw [eX10_thinsTwo_51, m_cols hw3.e h.A, g_ci_some, if_pos (nI_le (by omega) (by omega)), m_columnOf hw3.e hjn hn, g_ci_some, w3, b1, g_cv_some, nI_1]
        exact d1
      have loop : ∀ k' c, p ≤ c + k' → c ≤ p → c % jn b 14 j = 0 → ∀ u3, lo u1 u3 → LU u3 p (fz1 b (ld b n) j) → ∃ u4, rX10_thinsTwo_51 (nI (mf (Gz b n p (ld b n) j) (cl b p j c) v)) (nI j) (nI (jn b 14 j)) (nI c) u3 = some (some (.int (nI (Tz2 b n p (ld b n) (j + 1) k (Lz2 b n p (ld b n) j v)))), u4) ∧ lo u1 u4 ∧ LU u4 p (ld b n) := by
        intro k'
        induction k' with
        | zero => intro c c1 c2 c3; exact fin c (by omega) c2
        | succ k' ih2 =>
          intro c c1 c2 c3 u3 k1 k2
          by_cases q0 : c = p
          · exact fin c (by omega) c2 u3 k1 k2
          have hc : c < p := by omega
          have hfit := mul_fit hle.1 hdv c3 hc
          have hmod : (c + jn b 14 j) % jn b 14 j = 0 := by rw [Nat.add_mod_right]; exact c3
          have hw3 := hw.qs k1.qs
          have hup : upB b p j c = decide (b.1 0 13 &&& BK c (jn b 14 j) = 0) := by unfold upB; rw [decide_eq_true c3, decide_eq_true hfit]; rfl
          have ih' := ih2 (c + jn b 14 j) (by omega) hfit hmod
          rw [mf_step w1 c3, hup] at ih'
          rw [eX10_thinsTwo_51, m_cols hw3.e h.A, g_ci_some, if_neg (nI_ge hc (by omega)), mbits hle.2, g_ci_some, hw3.e.h.d, nad]
          by_cases q2 : b.1 0 13 &&& BK c (jn b 14 j) = 0
          · rw [decide_eq_true q2, if_pos rfl] at ih'
            obtain ⟨u4, b1, b2, b3⟩ := m_up k2 (by omega) hfit
            have hq4 := (hq.tr k1.qs).tr b2.qs
            obtain ⟨u5, e1, e2, e3⟩ := m_T1 h (fun d => by have := hF2 c d; omega) (n - (j + 1)) (j + 1) (by omega) (ge_two (c := c) h hjn q) u4 (mxF (fu (fz1 b (ld b n) j) c (jn b 14 j)) 0 p) hq4 b3 (Nat.le_trans (mxF_iff.mpr fun d _ => hF2 c _) (by omega))
            obtain ⟨u6, d1, d2, d3⟩ := m_dn e3 (by omega) hfit (fun d x1 x2 => by unfold fu; rw [if_pos ⟨x1, x2⟩]; omega)
            rw [fd_fu] at d3
            have hone : mX10_thinsOne [.ref 0, .int (nI j + 1)] u4 = some (some (.int (nI (Gz b n p (ld b n) j c))), u5) := by
              rw [eX10_thinsOne, m_greatest (h.qs hq4) b3 (fun d _ => by have := hF2 c d; omega), g_ci_some, nI_1]
              exact e1
            have hg3 := hmf (cl b p j c)
            have hg2 := hG c
            rw [if_pos q2, b1, g_cv_some, hone, g_ci_some, d1, g_cv_some]
            obtain ⟨u7, x1, x2, x3⟩ := ih' u6 (((k1.tr b2).tr e2).tr d2) d3
            by_cases y : mf (Gz b n p (ld b n) j) (cl b p j c) v ≤ Gz b n p (ld b n) j c
            · rw [if_pos (nI_le y (by omega))]
              rw [Nat.min_eq_left y] at x1
              exact ⟨u7, x1, x2, x3⟩
            · rw [if_neg (nI_ge (by omega) (by omega)), g_cv_some]
              rw [Nat.min_eq_right (by omega)] at x1
              exact ⟨u7, x1, x2, x3⟩
          · rw [decide_eq_false q2, if_neg (by decide)] at ih'
            rw [if_neg q2]
            exact ih' u3 k1 k2
      exact loop p 0 (by omega) (by omega) (Nat.zero_mod _) u2 a2 a3
    · rw [show (if b.1 9 j = 2 then (1 : Int32) else 0) = 0 from if_neg q, if_pos rfl, if_neg q]
      exact ih (j + 1) (by omega) u1 v hq hl hv
theorem ok_thin (a0 : Int32) : okc mX9_thin mX10_thin [.int a0] := okq fun μ u n a r p t Q B h0 _ _ => by
  have h := (BR_iff.mp h0).1
  have hn := h.A.n60
  have hp := h.A.p32
  rw [eX9_thin, eX5_thinned, eX10_thin]
  rcases rng (x := a0) (m := 3) (by omega) with q | ⟨w, hw, rfl⟩
  · rw [show mX10_isIn [.ref 0, .int a0, .int 0, .int 2] (gwI u 0 0 0) = _ from isIn_0 (m := 2) (by omega) q, g_ci_some, if_pos rfl]
    refine ⟨-1, μ, _, ?_, rfl, bs.rf, cfr.rf, qs.rf⟩
    rcases q with q | ⟨q, q2⟩
    · rw [if_pos q, g_ci_some]
    · rw [if_neg q, if_pos (show (2 : Int32) < a0 from by have q2 : (3 : Int32) ≤ a0 := q2; grind), g_ci_some]
  rw [show mX10_isIn [.ref 0, .int (nI w), .int 0, .int 2] (gwI u 0 0 0) = _ from isIn_1 (y := 0) (z := 2) (by omega) (by omega) (by omega), g_ci_some, if_neg (show ¬ (1 : Int32) = 0 by decide), if_neg (nneg (by omega)), if_neg (show ¬ (2 : Int32) < nI w from nI_nlt (a := 2) (b := w) (by omega) (by omega))]
  obtain ⟨u1, l1, l2, l3⟩ := m_laysLoads h
  have hq := h.qs l2.qs
  have hld : ∀ d, ld μ n d ≤ 60 := fun d => ld_60 hn d
  have hpk : mxF (ld μ n) 0 p ≤ 60 := mxF_iff.mpr fun d _ => hld _
  have hgr := m_greatest hq l3 (fun d _ => by have := hld d; omega)
  obtain ⟨μ1, c1, c2, c3⟩ := c_loadsC h
  have hg0 : ge1 μ n 0 (ld μ n) := fun x _ x2 x9 => by
    obtain ⟨m, v1, v2, v3, v4, v5, v6, v7⟩ := pl_w h x2 x9
    exact v7
  have hc : w = 0 ∨ w = 1 ∨ w = 2 := by omega
  rcases hc with rfl | rfl | rfl
  · rw [if_neg (show ¬ nI 0 = 2 by decide), if_neg (show ¬ nI 0 = 2 by decide), lfq rfl rfl (c_peak h) rfl, g_ci_some, if_pos (show nI 0 = 0 from rfl), g_ci_some, l1, g_cv_some, if_pos (show nI 0 = 0 from rfl), hgr, g_ci_some]
    exact ⟨_, μ, u1, rfl, rfl, bs.rf, cfr.rf, l2.qs⟩
  · obtain ⟨μ2, d1, d2, d3, d4⟩ := c_T1 h (fun d => by have := hld d; omega) n 0 (by omega) hg0 μ1 (mxF (ld μ n) 0 p) c2.pq c3 (by omega)
    obtain ⟨u2, e1, e2, e3⟩ := m_T1 h (fun d => by have := hld d; omega) n 0 (by omega) hg0 u1 (mxF (ld μ n) 0 p) l2.qs l3 (by omega)
    have hpq := c2.pq.tr d3.pq
    rw [if_neg (show ¬ nI 1 = 2 by decide), if_neg (show ¬ nI 1 = 2 by decide), lfq rfl rfl (c_peak h) rfl, g_ci_some, if_neg (show ¬ nI 1 = 0 by decide), c1, g_cv_some, show rX5_thinned_56 (nI 1) (nI (mxF (ld μ n) 0 p)) 0 μ1 = _ from d2, g_ci_some, l1, g_cv_some, if_neg (show ¬ nI 1 = 0 by decide), if_pos (show nI 1 = 1 from rfl), eX10_thinsOne, hgr, g_ci_some, show rX10_thinsOne_7 (nI (mxF (ld μ n) 0 p)) 0 u1 = _ from e1, g_ci_some]
    exact ⟨_, μ2, u2, rfl, rfl, hpq.bs, hpq.cfr, l2.qs.tr e2.qs⟩
  · rw [if_pos (show nI 2 = 2 from rfl), if_pos (show nI 2 = 2 from rfl), lfq rfl rfl (c_inState h.A 2) rfl, g_ci_some, m_manyOf h.e h.A, g_ci_some]
    by_cases y : nI (cB (fun j => decide (μ.1 9 j = 2)) n) ≤ 8
    · obtain ⟨μ2, d1, d3, d4⟩ := c_T2 h n 0 (by omega) μ1 (mxF (ld μ n) 0 p) c2.pq c3 (by omega)
      obtain ⟨u2, e1, e2, e3⟩ := m_T2 h n 0 (by omega) u1 (mxF (ld μ n) 0 p) l2.qs l3 (by omega)
      have hpq := c2.pq.tr d3.pq
      rw [if_pos y, if_pos y, lfq rfl rfl (c_peak h) rfl, g_ci_some, if_neg (show ¬ nI 2 = 0 by decide), c1, g_cv_some, show rX5_thinned_56 (nI 2) (nI (mxF (ld μ n) 0 p)) 0 μ1 = _ from d1, g_ci_some, l1, g_cv_some, if_neg (show ¬ nI 2 = 0 by decide), if_neg (show ¬ nI 2 = 1 by decide), eX10_thinsTwo, hgr, g_ci_some, show rX10_thinsTwo_7 (nI (mxF (ld μ n) 0 p)) 0 u1 = _ from e1, g_ci_some]
      exact ⟨_, μ2, u2, rfl, rfl, hpq.bs, hpq.cfr, l2.qs.tr e2.qs⟩
    · rw [if_neg y, if_neg y, g_ci_some]
      exact ⟨_, μ, _, rfl, rfl, bs.rf, cfr.rf, qs.rf⟩
end THIN2
