/-! urging: the spot with the least loss -/
section URGE
variable {b u b' u' μ μ' ν : gMem} {n a r p t B k o : Nat} {Q : List Nat} {f g F κ : Nat → Nat}
def ulF (b : gMem) (s : Nat) (X : Int32) : Nat → Int32
  | 0 => 0
  | j + 1 => if pbW b (nI s) X j then ulF b s X j + b.1 5 j * (b.1 11 j - b.1 10 j) else ulF b s X j
def uhF (b : gMem) (s : Nat) (X : Int32) (n : Nat) : Int32 := nI (cB (pbW b (nI s) X) n)
theorem pbW_n {s j : Nat} {X : Int32} (hs : s < 8) : pbW b (nI s) X j = (decide (b.1 9 j = 2 ∧ b.1 12 j = nI s) && !decide (bl b j &&& X = 0)) := by
  unfold pbW
  rw [decide_eq_false (show ¬ nI s = -1 from nm1 (by omega)), Bool.false_or]
  by_cases h1 : b.1 9 j = 2 <;> by_cases h2 : b.1 12 j = nI s <;> simp [h1, h2]
/-- one step of the class's two counts -/
theorem c_way {s j : Nat} {X : Int32} (h : BW μ u n a r p t Q B) (hj : j < n) (hs : s < 8) (K0 K1 : gMem → Option gR) : g_ci ((g_lf 0 mX2_stands) [.ref 0, .int (nI j), .int (nI s)] μ) (fun a1 u1 => (if a1 = 0 then K0 u1 else (g_ci ((g_lf 0 mX4_block) [.ref 3, .int (nI j)] u1) (fun a2 u2 => (if (a2 &&& X) = 0 then K0 u2 else K1 u2))))) = if pbW μ (nI s) X j then K1 μ else K0 μ := by
  have hn := h.A.n60
  have hp := h.A.p32
  rw [lfq rfl rfl (c_stands (v1 := nI s) h.A hj) rfl, g_ci_some, pbW_n hs]
  by_cases q : μ.1 9 j = 2 ∧ μ.1 12 j = nI s
  · have q3 := ip_col (h.P.1 j hj) q.1
    have q4 := ip_c32 (by omega) (h.J j hj) (h.P.1 j hj) q.1
    rw [show (if μ.1 9 j = 2 ∧ (nI s = -1 ∨ μ.1 12 j = nI s) then (1 : Int32) else 0) = 1 from if_pos ⟨q.1, Or.inr q.2⟩, if_neg (show ¬ (1 : Int32) = 0 by decide), lfq rfl rfl (c_block (by omega) (h.J j hj) q3 q4) rfl, g_ci_some, decide_eq_true q, Bool.true_and]
    by_cases q2 : bl μ j &&& X = 0
    · rw [if_pos q2, decide_eq_true q2]; rfl
    · rw [if_neg q2, decide_eq_false q2]; rfl
  · rw [show (if μ.1 9 j = 2 ∧ (nI s = -1 ∨ μ.1 12 j = nI s) then (1 : Int32) else 0) = 0 from if_neg (fun z => q ⟨z.1, z.2.resolve_left (nm1 (by omega))⟩), if_pos rfl, decide_eq_false q, Bool.false_and]
    rfl
theorem c_lossAt {s : Nat} {X : Int32} (h : BW μ u n a r p t Q B) (hs : s < 8) : mX5_lossAt [.ref 178, .int (nI s), .int X] μ = some (some (.int (ulF μ s X n)), μ) := by
  have hn := h.A.n60
  have loop : ∀ k j, j + k = n → rX5_lossAt_5 (nI s) X (ulF μ s X j) (nI j) μ = some (some (.int (ulF μ s X n)), μ) := by
    intro k
    induction k with
    | zero => intro j hj; obtain rfl : j = n := by omega
              rw [eX5_lossAt_5, h.A.1, if_pos (nI_le (by omega) (by omega))]
    | succ k ih =>
      intro j hj
      have ih' := ih (j + 1) (by omega)
      have e : ulF μ s X (j + 1) = if pbW μ (nI s) X j then ulF μ s X j + μ.1 5 j * (μ.1 11 j - μ.1 10 j) else ulF μ s X j := rfl
      have hlo : (g_lf 0 mX4_lossOf) [.ref 3, .int (nI j)] μ = some (some (.int (μ.1 5 j * (μ.1 11 j - μ.1 10 j))), μ) := lfq rfl rfl (by rw [eX4_lossOf, gin (show j < 60 by omega) (by omega), if_pos rfl, if_pos rfl, if_pos rfl, tn (by omega)]) rfl
      rw [eX5_lossAt_5, h.A.1, if_neg (nI_ge (by omega) (by omega)), nI_1]
      refine (c_way h (show j < n by omega) hs (fun u2 => rX5_lossAt_5 (nI s) X (ulF μ s X j) (nI (j + 1)) u2) (fun u2 => g_ci ((g_lf 0 mX4_lossOf) [.ref 3, .int (nI j)] u2) (fun a3 u3 => rX5_lossAt_5 (nI s) X (ulF μ s X j + a3) (nI (j + 1)) u3))).trans ?_
      cases q : pbW μ (nI s) X j with
      | true => rw [e, q, if_pos rfl] at ih'; rw [if_pos rfl, hlo, g_ci_some]; exact ih'
      | false => rw [e, q, if_neg (by decide)] at ih'; rw [if_neg (by decide)]; exact ih'
  rw [eX5_lossAt]
  exact loop n 0 (by omega)
theorem c_hitAt {s : Nat} {X : Int32} (h : BW μ u n a r p t Q B) (hs : s < 8) : mX5_hitAt [.ref 178, .int (nI s), .int X] μ = some (some (.int (uhF μ s X n)), μ) := by
  have hn := h.A.n60
  have loop : ∀ k j, j + k = n → rX5_hitAt_5 (nI s) X (uhF μ s X j) (nI j) μ = some (some (.int (uhF μ s X n)), μ) := by
    intro k
    induction k with
    | zero => intro j hj; obtain rfl : j = n := by omega
              rw [eX5_hitAt_5, h.A.1, if_pos (nI_le (by omega) (by omega))]
    | succ k ih =>
      intro j hj
      have ih' := ih (j + 1) (by omega)
      have e : uhF μ s X (j + 1) = if pbW μ (nI s) X j then uhF μ s X j + 1 else uhF μ s X j := by
        show nI (cB (pbW μ (nI s) X) j + (if pbW μ (nI s) X j then 1 else 0)) = _
        cases pbW μ (nI s) X j with
        | true => rw [if_pos rfl, if_pos rfl, ← nI_1]; rfl
        | false => rw [if_neg (by decide), if_neg (by decide)]; rfl
      rw [eX5_hitAt_5, h.A.1, if_neg (nI_ge (by omega) (by omega)), nI_1]
      refine (c_way h (show j < n by omega) hs (fun u2 => rX5_hitAt_5 (nI s) X (uhF μ s X j) (nI (j + 1)) u2) (fun u2 => rX5_hitAt_5 (nI s) X (uhF μ s X j + 1) (nI (j + 1)) u2)).trans ?_
      cases q : pbW μ (nI s) X j with
      | true => rw [e, q, if_pos rfl] at ih'; rw [if_pos rfl]; exact ih'
      | false => rw [e, q, if_neg (by decide)] at ih'; rw [if_neg (by decide)]; exact ih'
  rw [eX5_hitAt]
  exact loop n 0 (by omega)
theorem m_isInWay {s j : Nat} {X : Int32} (h : BW b u n a r p t Q B) (hj : j < n) (hs : s < 8) : mX10_isInWay [.ref 0, .int (nI j), .int (nI s), .int X] u = some (some (.int (if pbW b (nI s) X j then 1 else 0)), u) := by
  have hn := h.A.n60
  rw [eX10_isInWay, m_isAt h.e hj hn, g_ci_some, pbW_n hs]
  by_cases q : b.1 9 j = 2 ∧ b.1 12 j = nI s
  · rw [show (if b.1 9 j = 2 ∧ b.1 12 j = nI s then (1 : Int32) else 0) = 1 from if_pos q, if_neg (show ¬ (1 : Int32) = 0 by decide), m_blockOf h.e hj hn (h.J j hj) (ip_col (h.P.1 j hj) q.1), g_ci_some, decide_eq_true q, Bool.true_and]
    by_cases q2 : bl b j &&& X = 0
    · rw [if_pos q2, decide_eq_true q2]; rfl
    · rw [if_neg q2, decide_eq_false q2]; rfl
  · rw [show (if b.1 9 j = 2 ∧ b.1 12 j = nI s then (1 : Int32) else 0) = 0 from if_neg q, if_pos rfl, decide_eq_false q]; rfl
/-- what the reference found best so far -/
def ugU (u : gMem) (s c : Nat) (h l : Int32) : gMem := gwI (gwI (gwI (gwI u 0 20 (nI s)) 0 21 (nI c)) 0 22 h) 0 23 l
theorem ugU_qs {s c : Nat} {h l : Int32} : qs u (ugU u s c h l) := (((qs.w (by omega)).tr (qs.w (by omega))).tr (qs.w (by omega))).tr (qs.w (by omega))
theorem m_urgesAt {s c w : Nat} {u1 : gMem} (h : BW b u n a r p t Q B) (hq : qs u u1) (hs : s < 8) (hw : w ≤ 32) : mX10_urgesAt [.ref 0, .int (nI s), .int (nI c), .int (nI w)] u1 = (if u1.1 0 20 = -1 then some (none, ugU u1 s c (uhF b s (BK c w) n) (ulF b s (BK c w) n)) else (if u1.1 0 23 < ulF b s (BK c w) n then some (none, u1) else (if ulF b s (BK c w) n = u1.1 0 23 then (if uhF b s (BK c w) n < u1.1 0 22 then some (none, ugU u1 s c (uhF b s (BK c w) n) (ulF b s (BK c w) n)) else some (none, u1)) else some (none, ugU u1 s c (uhF b s (BK c w) n) (ulF b s (BK c w) n))))) := by
  have hn := h.A.n60
  have hv := h.qs hq
  have loop : ∀ k j, j + k = n → rX10_urgesAt_9 (nI s) (nI c) (nI w) (uhF b s (BK c w) j) (ulF b s (BK c w) j) (nI j) u1 = rX10_urgesAt_9 (nI s) (nI c) (nI w) (uhF b s (BK c w) n) (ulF b s (BK c w) n) (nI n) u1 := by
    intro k
    induction k with
    | zero => intro j hj; rw [show j = n by omega]
    | succ k ih =>
      intro j hj
      have ih' := ih (j + 1) (by omega)
      have hjn : j < n := by omega
      have E := hv.e.j hjn
      have e : ulF b s (BK c w) (j + 1) = if pbW b (nI s) (BK c w) j then ulF b s (BK c w) j + b.1 5 j * (b.1 11 j - b.1 10 j) else ulF b s (BK c w) j := rfl
      have e2 : uhF b s (BK c w) (j + 1) = if pbW b (nI s) (BK c w) j then uhF b s (BK c w) j + 1 else uhF b s (BK c w) j := by
        show nI (cB (pbW b (nI s) (BK c w)) j + (if pbW b (nI s) (BK c w) j then 1 else 0)) = _
        cases pbW b (nI s) (BK c w) j with
        | true => rw [if_pos rfl, if_pos rfl, ← nI_1]; rfl
        | false => rw [if_neg (by decide), if_neg (by decide)]; rfl
      rw [eX10_urgesAt_9, hv.e.h.n, h.A.1, if_neg (nI_ge hjn (by omega)), mbits hw, g_ci_some, m_isInWay hv hjn hs, g_ci_some, at_0 (by omega), g_ci_some, at_6 (by omega), g_ci_some, at_5 (by omega), g_ci_some, E.f0, E.f5, E.f6, nI_1]
      cases q : pbW b (nI s) (BK c w) j with
      | true => rw [e, e2, q, if_pos rfl, if_pos rfl] at ih'; rw [show (if true = true then (1 : Int32) else 0) = 1 from rfl, if_neg (show ¬ (1 : Int32) = 0 by decide)]; exact ih'
      | false => rw [e, e2, q, if_neg (by decide), if_neg (by decide)] at ih'; rw [show (if false = true then (1 : Int32) else 0) = 0 from rfl, if_pos rfl]; exact ih'
  rw [eX10_urgesAt, show rX10_urgesAt_9 (nI s) (nI c) (nI w) 0 0 0 u1 = _ from loop n 0 (by omega), eX10_urgesAt_9, hv.e.h.n, h.A.1, if_pos (nI_le (Nat.le_refl _) (by omega))]
  rfl
/-- a spot for an urged job -/
def okU (b : gMem) (r p w s c : Nat) : Prop := s < r ∧ c % w = 0 ∧ c + w ≤ p ∧ b.1 0 13 &&& BK c w = 0
/-- both have found the same -/
def ugI (b u1 : gMem) (n r p w : Nat) (v3 v4 v5 : Int32) : Prop := (v3 = -1 ∧ u1.1 0 20 = -1) ∨ (∃ s c, okU b r p w s c ∧ v3 = nI (s * 32 + c) ∧ u1.1 0 20 = nI s ∧ u1.1 0 21 = nI c ∧ u1.1 0 22 = v5 ∧ u1.1 0 23 = v4 ∧ v4 = ulF b s (BK c w) n ∧ v5 = uhF b s (BK c w) n)
theorem ug_col {w m s : Nat} (h : BW μ u n a r p t Q B) (hW : isW p w m) (hs : s < r) : ∀ k c, p ≤ c + k → c ≤ p → c % w = 0 → ∀ (u1 : gMem) (v3 v4 v5 : Int32), qs u u1 → ugI μ u1 n r p w v3 v4 v5 → ∃ (u2 : gMem) (w3 w4 w5 : Int32), rX5_urgeSpot_43 (nI w) v3 v4 v5 (nI s) (nI c) μ = rX5_urgeSpot_28 (nI w) w3 w4 w5 (nI (s + 1)) μ ∧ rX10_findsUrge_49 (nI w) (nI s) (nI c) u1 = rX10_findsUrge_35 (nI w) (nI (s + 1)) u2 ∧ qs u u2 ∧ ugI μ u2 n r p w w3 w4 w5 := by
  have hp := h.A.p32
  have hr := h.A.2.2.2.2.1
  have hle := hW.le
  have hdv := hW.dvd h.A.2.2.2.2.2.2
  have pp : (g_lf 0 mX2_p) [.ref 0] μ = some (some (.int (nI p)), μ) := lfq rfl rfl (by rw [eX2_p, h.A.2.2.2.2.2.1]) rfl
  intro k
  induction k with
  | zero =>
    intro c c1 c2 c3 u1 v3 v4 v5 k1 k2
    have hv := h.qs k1
    exact ⟨u1, v3, v4, v5, by rw [eX5_urgeSpot_43, pp, g_ci_some, if_pos (nI_le (by omega) (by omega)), nI_1], by rw [eX10_findsUrge_49, m_cols hv.e h.A, g_ci_some, if_pos (nI_le (by omega) (by omega)), nI_1], k1, k2⟩
  | succ k ih =>
    intro c c1 c2 c3 u1 v3 v4 v5 k1 k2
    have hv := h.qs k1
    by_cases q : c = p
    · exact ⟨u1, v3, v4, v5, by rw [eX5_urgeSpot_43, pp, g_ci_some, if_pos (nI_le (by omega) (by omega)), nI_1], by rw [eX10_findsUrge_49, m_cols hv.e h.A, g_ci_some, if_pos (nI_le (by omega) (by omega)), nI_1], k1, k2⟩
    have hc : c < p := by omega
    have hfit := mul_fit hle.1 hdv c3 hc
    have hm : (c + w) % w = 0 := by rw [Nat.add_mod_right]; exact c3
    rw [eX5_urgeSpot_43, pp, g_ci_some, if_neg (nI_ge hc (by omega)), c_isUp (by omega) hle.2, g_ci_some, cbits (by omega) hle.2, g_ci_some, c_lossAt h (by omega), g_ci_some, c_hitAt h (by omega), g_ci_some, eX1_spot, g_ci_some, eX10_findsUrge_49, m_cols hv.e h.A, g_ci_some, if_neg (nI_ge hc (by omega)), mbits hle.2, g_ci_some, hv.e.h.d, nad]
    by_cases q2 : μ.1 0 13 &&& BK c w = 0
    · rw [show (if μ.1 0 13 &&& BK c w = 0 then (1 : Int32) else 0) = 1 from if_pos q2, if_neg (show ¬ (1 : Int32) = 0 by decide), if_pos q2, m_urgesAt h k1 (by omega) hle.2]
      have hok : okU μ r p w s c := ⟨hs, c3, hfit, q2⟩
      have take : ∃ (u2 : gMem) (w3 w4 w5 : Int32), rX5_urgeSpot_43 (nI w) (nI s * 32 + nI c) (ulF μ s (BK c w) n) (uhF μ s (BK c w) n) (nI s) (nI (c + w)) μ = rX5_urgeSpot_28 (nI w) w3 w4 w5 (nI (s + 1)) μ ∧ g_cv (some (none, ugU u1 s c (uhF μ s (BK c w) n) (ulF μ s (BK c w) n))) (fun u3 => rX10_findsUrge_49 (nI w) (nI s) (nI (c + w)) u3) = rX10_findsUrge_35 (nI w) (nI (s + 1)) u2 ∧ qs u u2 ∧ ugI μ u2 n r p w w3 w4 w5 := by
        rw [g_cv_some]
        exact ih (c + w) (by omega) hfit hm _ _ _ _ (k1.tr ugU_qs) (Or.inr ⟨s, c, hok, by rw [show (32 : Int32) = nI 32 from rfl, nml, nad], by simp [ugU, gI_r], by simp [ugU, gI_r], by simp [ugU, gI_r], by simp [ugU, gI_r], rfl, rfl⟩)
      have skip : ∃ (u2 : gMem) (w3 w4 w5 : Int32), rX5_urgeSpot_43 (nI w) v3 v4 v5 (nI s) (nI (c + w)) μ = rX5_urgeSpot_28 (nI w) w3 w4 w5 (nI (s + 1)) μ ∧ g_cv (some (none, u1)) (fun u3 => rX10_findsUrge_49 (nI w) (nI s) (nI (c + w)) u3) = rX10_findsUrge_35 (nI w) (nI (s + 1)) u2 ∧ qs u u2 ∧ ugI μ u2 n r p w w3 w4 w5 := by
        rw [g_cv_some]
        exact ih (c + w) (by omega) hfit hm u1 v3 v4 v5 k1 k2
      rcases k2 with ⟨x1, x2⟩ | ⟨s', c', x1, x2, x3, x4, x5, x6, x7, x8⟩
      · rw [if_pos x1, if_pos x2]
        exact take
      · have s8 := x1.1
        have cp := x1.2.2.1
        rw [if_neg (show ¬ v3 = -1 by rw [x2]; exact nm1 (by omega)), if_neg (show ¬ u1.1 0 20 = -1 by rw [x3]; exact nm1 (by omega)), x6, x5]
        by_cases y1 : ulF μ s (BK c w) n < v4
        · rw [if_pos y1, if_neg (show ¬ v4 < ulF μ s (BK c w) n from fun z => by rw [i_lt] at y1 z; omega), if_neg (show ¬ ulF μ s (BK c w) n = v4 from fun z => by rw [z, i_lt] at y1; omega)]
          exact take
        · rw [if_neg y1]
          by_cases y2 : ulF μ s (BK c w) n = v4
          · rw [if_pos y2, if_neg (show ¬ v4 < ulF μ s (BK c w) n from fun z => by rw [y2, i_lt] at z; omega), if_pos y2]
            by_cases y3 : v5 ≤ uhF μ s (BK c w) n
            · rw [if_pos y3, if_neg (show ¬ uhF μ s (BK c w) n < v5 from fun z => by rw [i_lt] at z; rw [i_le] at y3; omega)]
              exact skip
            · rw [if_neg y3, if_pos (show uhF μ s (BK c w) n < v5 from by rw [i_lt]; rw [i_le] at y3; omega)]
              exact take
          · rw [if_neg y2, if_pos (show v4 < ulF μ s (BK c w) n from by
              rw [i_lt] at y1 ⊢
              rw [i_eq] at y2
              omega)]
            exact skip
    · rw [show (if μ.1 0 13 &&& BK c w = 0 then (1 : Int32) else 0) = 0 from if_neg q2, if_pos rfl, if_neg q2]
      exact ih (c + w) (by omega) hfit hm u1 v3 v4 v5 k1 k2
theorem ug_both {w m j : Nat} (h : BW μ u n a r p t Q B) (hj : j < n) (h1 : μ.1 9 j = 1) (hw : jn μ 14 j = w) (hW : isW p w m) : ∃ (u2 : gMem), qs u u2 ∧ ((mX5_urgeSpot [.ref 178, .int (nI j)] μ = some (some (.int (-1)), μ) ∧ mX10_findsUrge [.ref 0, .int (nI j)] u = some (some (.int 0), u2)) ∨ (∃ s c, okU μ r p w s c ∧ mX5_urgeSpot [.ref 178, .int (nI j)] μ = some (some (.int (nI (s * 32 + c))), μ) ∧ mX10_findsUrge [.ref 0, .int (nI j)] u = some (some (.int 1), u2) ∧ u2.1 0 20 = nI s ∧ u2.1 0 21 = nI c ∧ u2.1 0 22 = uhF μ s (BK c w) n ∧ u2.1 0 23 = ulF μ s (BK c w) n)) := by
  have hp := h.A.p32
  have hr := h.A.2.2.2.2.1
  have hn := h.A.n60
  have hle := hW.le
  have hdv := hW.dvd h.A.2.2.2.2.2.2
  have rows : ∀ k s, s + k = r → ∀ (u1 : gMem) (v3 v4 v5 : Int32), qs u u1 → ugI μ u1 n r p w v3 v4 v5 → ∃ (u2 : gMem) (w3 w4 w5 : Int32), rX5_urgeSpot_28 (nI w) v3 v4 v5 (nI s) μ = some (some (.int w3), μ) ∧ rX10_findsUrge_35 (nI w) (nI s) u1 = (if u2.1 0 20 = -1 then some (some (.int 0), u2) else some (some (.int 1), u2)) ∧ qs u u2 ∧ ugI μ u2 n r p w w3 w4 w5 := by
    intro k
    induction k with
    | zero =>
      intro s hs u1 v3 v4 v5 k1 k2
      have hv := h.qs k1
      obtain rfl : s = r := by omega
      exact ⟨u1, v3, v4, v5, by rw [eX5_urgeSpot_28, h.A.2.2.1, if_pos (nI_le (by omega) (by omega))], by rw [eX10_findsUrge_35, hv.e.h.r, h.A.2.2.1, if_pos (nI_le (by omega) (by omega))], k1, k2⟩
    | succ k ih =>
      intro s hs u1 v3 v4 v5 k1 k2
      have hv := h.qs k1
      obtain ⟨u2, w3, w4, w5, g1, g2, g3, g4⟩ := ug_col h hW (show s < r by omega) p 0 (by omega) (by omega) (Nat.zero_mod _) u1 v3 v4 v5 k1 k2
      rw [eX5_urgeSpot_28, h.A.2.2.1, if_neg (nI_ge (by omega) (by omega)), show rX5_urgeSpot_43 (nI w) v3 v4 v5 (nI s) 0 μ = _ from g1, eX10_findsUrge_35, hv.e.h.r, h.A.2.2.1, if_neg (nI_ge (by omega) (by omega)), show rX10_findsUrge_49 (nI w) (nI s) 0 u1 = _ from g2]
      exact ih (s + 1) (by omega) u2 w3 w4 w5 g3 g4
  obtain ⟨u2, w3, w4, w5, g1, g2, g3, g4⟩ := rows r 0 (by omega) (gwI u 0 20 (-1)) (-1) 0 0 (qs.w (by omega)) (Or.inl ⟨rfl, by rw [gI_r, if_pos ⟨rfl, rfl⟩]⟩)
  have e14 : μ.1 14 j = nI w := by rw [← hw]; exact jw_n (h.J j hj)
  have E1 : mX5_urgeSpot [.ref 178, .int (nI j)] μ = some (some (.int w3), μ) := by
    rw [eX5_urgeSpot, gin (show j < 60 by omega) (by omega), if_pos rfl, tn (by omega), e14, max_e hle.1 (by omega), g_ci_some]
    exact g1
  have E2 : mX10_findsUrge [.ref 0, .int (nI j)] u = (if u2.1 0 20 = -1 then some (some (.int 0), u2) else some (some (.int 1), u2)) := by
    rw [eX10_findsUrge, eX10_isJob, if_neg (nneg (by omega)), h.e.h.n, h.A.1, if_neg (nI_ge hj (by omega)), g_ci_some, if_neg (by decide), at_4 (by omega), g_ci_some, (h.e.j hj).f4, h1, if_pos rfl, at_9 (by omega), g_ci_some, (h.e.j hj).f9, e14]
    exact g2
  refine ⟨u2, g3, ?_⟩
  rcases g4 with ⟨x1, x2⟩ | ⟨s', c', x1, x2, x3, x4, x5, x6, x7, x8⟩
  · exact Or.inl ⟨by rw [E1, x1], by rw [E2, if_pos x2]⟩
  · have s8 := x1.1
    exact Or.inr ⟨s', c', x1, by rw [E1, x2], by rw [E2, if_neg (by rw [x3]; exact nm1 (by omega))], x3, x4, by rw [x5, x8], by rw [x6, x7]⟩
theorem wtg_both {x : Int32} (h : BW b u n a r p t Q B) : (mX4_isWaiting [.ref 3, .int x] b = some (some (.int 0), b) ∧ mX10_findsUrge [.ref 0, .int x] u = some (some (.int 0), u)) ∨ (∃ j, j < n ∧ x = nI j ∧ b.1 9 j = 1 ∧ mX4_isWaiting [.ref 3, .int x] b = some (some (.int 1), b)) := by
  have hn := h.A.n60
  rcases hasI (u := u) (x := x) h.A.1 hn with ⟨g1, g2, g3⟩ | ⟨j, hj, rfl, g1⟩
  · refine Or.inl ⟨by rw [eX4_isWaiting, g1, g_ci_some, if_pos rfl], ?_⟩
    rw [eX10_findsUrge, g2]
    rcases g3 with g3 | g3
    · rw [if_pos g3, g_ci_some, if_pos rfl]
    · by_cases z : x < 0
      · rw [if_pos z, g_ci_some, if_pos rfl]
      · rw [if_neg z, h.e.h.n, h.A.1, if_pos g3, g_ci_some, if_pos rfl]
  · have hj1 : mX10_isJob [.ref 0, .int (nI j)] u = some (some (.int 1), u) := by rw [eX10_isJob, if_neg (nneg (by omega)), h.e.h.n, h.A.1, if_neg (nI_ge hj (by omega))]
    by_cases q : b.1 9 j = 1
    · exact Or.inr ⟨j, hj, rfl, q, by rw [eX4_isWaiting, g1, g_ci_some, if_neg (by decide), gin (show j < 60 by omega) (by omega), if_pos rfl, tn (by omega), if_pos q]⟩
    · exact Or.inl ⟨by rw [eX4_isWaiting, g1, g_ci_some, if_neg (by decide), gin (show j < 60 by omega) (by omega), if_pos rfl, tn (by omega), if_neg q], by rw [eX10_findsUrge, hj1, g_ci_some, if_neg (by decide), at_4 (by omega), g_ci_some, (h.e.j hj).f4, if_neg q]⟩
theorem spot_s {s c : Nat} {ρ : gMem} (hs : s < 8) (hc : c < 32) : mX1_slotOf [.int (nI (s * 32 + c))] ρ = some (some (.int (nI s)), ρ) ∧ mX1_columnOf [.int (nI (s * 32 + c))] ρ = some (some (.int (nI c)), ρ) := by
  rw [eX1_slotOf, eX1_columnOf, show (32 : Int32) = nI 32 from rfl, pk_div (by omega) (by omega) (by omega), nml, nsb (by omega), show (s * 32 + c) / 32 = s by omega, show s * 32 + c - s * 32 = c by omega]
  exact ⟨rfl, rfl⟩
theorem ok_urged (a0 a1 : Int32) : okc mX9_urged mX10_urged [.int a0, .int a1] := okq fun μ u n a r p t Q B h0 _ _ => by
  have h := (BR_iff.mp h0).1
  have hn := h.A.n60
  have hp := h.A.p32
  have hr := h.A.2.2.2.2.1
  rw [eX9_urged, eX10_urged]
  have isin : (mX10_isIn [.ref 0, .int a1, .int 0, .int 3] (gwI u 0 0 0) = some (some (.int 0), gwI u 0 0 0) ∧ ∀ v : Nat, v < 4 → ¬ a1 = nI v) ∨ (∃ w, w < 4 ∧ a1 = nI w ∧ mX10_isIn [.ref 0, .int a1, .int 0, .int 3] (gwI u 0 0 0) = some (some (.int 1), gwI u 0 0 0)) := by
    rcases rng (x := a1) (m := 4) (by omega) with q | ⟨w, hw, rfl⟩
    · exact Or.inl ⟨isIn_0 (m := 3) (by omega) q, fun v hv z => by
        rcases q with q | ⟨q, q2⟩
        · rw [z] at q; exact nneg (by omega) q
        · rw [z] at q2; exact nI_ge hv (by omega) q2⟩
    · exact Or.inr ⟨w, hw, rfl, isIn_1 (y := 0) (z := 3) (by omega) (by omega) (by omega)⟩
  rcases wtg_both (x := a0) h with ⟨c1, c2⟩ | ⟨j, hj, rfl, hj1, c1⟩
  · rw [lfq rfl rfl c1 rfl, g_ci_some, if_pos rfl]
    rcases isin with ⟨q, -⟩ | ⟨w, -, -, q⟩
    · rw [q, g_ci_some, if_pos rfl]
      exact ⟨-1, μ, _, rfl, rfl, bs.rf, cfr.rf, qs.rf⟩
    · rw [q, g_ci_some, if_neg (by decide), c2, g_ci_some, if_pos rfl]
      exact ⟨-1, μ, _, rfl, rfl, bs.rf, cfr.rf, qs.rf⟩
  have J := h.J j hj
  obtain ⟨m, hW⟩ := wd_isW h.A.2.2.2.2.2.2 J.1.2.2
  rw [← jw J] at hW
  have hle := hW.le
  obtain ⟨u2, g1, g2⟩ := ug_both h hj hj1 rfl hW
  rw [lfq rfl rfl c1 rfl, g_ci_some, if_neg (show ¬ (1 : Int32) = 0 by decide), eX5_urgedWhat]
  rcases g2 with ⟨x1, x2⟩ | ⟨s, c, x1, x2, x3, x4, x5, x6, x7⟩
  · rw [x1, g_ci_some, if_pos rfl, g_ci_some]
    rcases isin with ⟨q, -⟩ | ⟨w, -, -, q⟩
    · rw [q, g_ci_some, if_pos rfl]
      exact ⟨-1, μ, _, rfl, rfl, bs.rf, cfr.rf, qs.rf⟩
    · rw [q, g_ci_some, if_neg (by decide), x2, g_ci_some, if_pos rfl]
      exact ⟨-1, μ, _, rfl, rfl, bs.rf, cfr.rf, g1⟩
  have s8 := x1.1
  have cp := x1.2.2.1
  obtain ⟨y1, y2⟩ := spot_s (s := s) (c := c) (ρ := μ) (by omega) (by omega)
  rw [x2, g_ci_some, if_neg (nm1 (by omega)), y1, g_ci_some, y2, g_ci_some, gin (show j < 60 by omega) (by omega), if_pos rfl, tn (by omega), jw_n J, cbits (by omega) hle.2, g_ci_some]
  rcases isin with ⟨q, nn⟩ | ⟨w, hw, rfl, q⟩
  · rw [q, g_ci_some, if_pos rfl, if_neg (show ¬ a1 = 0 from nn 0 (by omega)), if_neg (show ¬ a1 = 1 from nn 1 (by omega)), if_neg (show ¬ a1 = 2 from nn 2 (by omega)), if_neg (show ¬ a1 = 3 from nn 3 (by omega)), g_ci_some]
    exact ⟨-1, μ, _, rfl, rfl, bs.rf, cfr.rf, qs.rf⟩
  rw [q, g_ci_some, if_neg (show ¬ (1 : Int32) = 0 by decide), x3, g_ci_some, if_neg (show ¬ (1 : Int32) = 0 by decide), x4, x5, x6, x7]
  have hc : w = 0 ∨ w = 1 ∨ w = 2 ∨ w = 3 := by omega
  rcases hc with rfl | rfl | rfl | rfl
  · rw [if_pos (show nI 0 = 0 from rfl), if_pos (show nI 0 = 0 from rfl), g_ci_some]
    exact ⟨_, μ, u2, rfl, rfl, bs.rf, cfr.rf, g1⟩
  · rw [if_neg (show ¬ nI 1 = 0 by decide), if_pos (show nI 1 = 1 from rfl), if_neg (show ¬ nI 1 = 0 by decide), if_pos (show nI 1 = 1 from rfl), g_ci_some]
    exact ⟨_, μ, u2, rfl, rfl, bs.rf, cfr.rf, g1⟩
  · rw [if_neg (show ¬ nI 2 = 0 by decide), if_neg (show ¬ nI 2 = 1 by decide), if_pos (show nI 2 = 2 from rfl), if_neg (show ¬ nI 2 = 0 by decide), if_neg (show ¬ nI 2 = 1 by decide), if_pos (show nI 2 = 2 from rfl), c_hitAt h (by omega), g_ci_some, g_ci_some]
    exact ⟨_, μ, u2, rfl, rfl, bs.rf, cfr.rf, g1⟩
  · rw [if_neg (show ¬ nI 3 = 0 by decide), if_neg (show ¬ nI 3 = 1 by decide), if_neg (show ¬ nI 3 = 2 by decide), if_pos (show nI 3 = 3 from rfl), if_neg (show ¬ nI 3 = 0 by decide), if_neg (show ¬ nI 3 = 1 by decide), if_neg (show ¬ nI 3 = 2 by decide), c_lossAt h (by omega), g_ci_some, g_ci_some]
    exact ⟨_, μ, u2, rfl, rfl, bs.rf, cfr.rf, g1⟩
end URGE
