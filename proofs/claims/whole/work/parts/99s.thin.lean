/-! thinning: the least greatest load if one job, or two, had other blocks -/
section THIN
variable {b u b' u' μ μ' ν : gMem} {n a r p t B k o : Nat} {Q : List Nat} {f g : Nat → Nat}
def mf (g : Nat → Nat) (L : List Nat) (v : Nat) : Nat := L.foldl (fun v c => min v (g c)) v
theorem mf_iff {x : Nat} : ∀ (L : List Nat) (v : Nat), x ≤ mf g L v ↔ x ≤ v ∧ ∀ c, c ∈ L → x ≤ g c
  | [], v => by simp [mf]
  | y :: L, v => by
    show x ≤ mf g L (min v (g y)) ↔ _
    rw [mf_iff L, Nat.le_min]
    constructor
    · rintro ⟨⟨h1, h2⟩, h3⟩
      refine ⟨h1, fun c hc => ?_⟩
      rcases List.mem_cons.mp hc with z | z
      · rw [z]; exact h2
      · exact h3 c z
    · rintro ⟨h1, h2⟩
      exact ⟨⟨h1, h2 y List.mem_cons_self⟩, fun c hc => h2 c (List.mem_cons_of_mem _ hc)⟩
theorem mf_le (L : List Nat) (v : Nat) : mf g L v ≤ v := ((mf_iff L v).mp (Nat.le_refl _)).1
theorem mf_app {L : List Nat} {c v : Nat} : mf g (L ++ [c]) v = min (mf g L v) (g c) := by unfold mf; rw [List.foldl_append]; rfl
def upB (b : gMem) (p j x : Nat) : Bool := (decide (x % jn b 14 j = 0) && decide (x + jn b 14 j ≤ p)) && decide (b.1 0 13 &&& BK x (jn b 14 j) = 0)
theorem upB_i {j x : Nat} : upB b p j x = true ↔ upX b p j x := by unfold upB upX; simp only [Bool.and_eq_true, decide_eq_true_eq, and_assoc]
/-- the columns whose blocks are up, below one -/
def cl (b : gMem) (p j c : Nat) : List Nat := (List.range c).filter (upB b p j)
theorem cl_m {j c x : Nat} : x ∈ cl b p j c ↔ x < c ∧ upX b p j x := by unfold cl; rw [List.mem_filter, List.mem_range, upB_i]
theorem cl_skip {j c : Nat} : ∀ m, (∀ x, c ≤ x → x < c + m → upB b p j x = false) → cl b p j (c + m) = cl b p j c
  | 0, _ => rfl
  | m + 1, h => by
    show (List.range (c + m + 1)).filter (upB b p j) = _
    rw [fr_s, if_neg (by rw [h (c + m) (by omega) (by omega)]; decide)]
    exact (List.append_nil _).trans (cl_skip m (fun x h1 h2 => h x h1 (by omega)))
theorem cl_step {j c m : Nat} (hW : isW p (jn b 14 j) m) (c3 : c % jn b 14 j = 0) : cl b p j (c + jn b 14 j) = if upB b p j c then cl b p j c ++ [c] else cl b p j c := by
  have hle := hW.le
  have h1 : cl b p j (c + jn b 14 j) = cl b p j (c + 1) := by
    have := cl_skip (b := b) (p := p) (j := j) (c := c + 1) (jn b 14 j - 1) (fun x x1 x2 => by
      cases z : upB b p j x with
      | false => rfl
      | true =>
        have hx := (upB_i.mp z).1
        obtain ⟨e1, he1⟩ := Nat.dvd_of_mod_eq_zero hx
        obtain ⟨e2, he2⟩ := Nat.dvd_of_mod_eq_zero c3
        have z2 : (x - c) % jn b 14 j = 0 := by
          have : x - c = jn b 14 j * (e1 - e2) := by rw [Nat.mul_sub]; omega
          rw [this]; exact Nat.mul_mod_right _ _
        rw [Nat.mod_eq_of_lt (by omega)] at z2
        omega)
    rw [show c + 1 + (jn b 14 j - 1) = c + jn b 14 j by omega] at this
    exact this
  rw [h1]
  unfold cl
  rw [fr_s]
  by_cases q : upB b p j c = true
  · rw [if_pos q, if_pos q]
  · rw [if_neg q, if_neg q, List.append_nil]
theorem mf_step {j c m v : Nat} (hW : isW p (jn b 14 j) m) (c3 : c % jn b 14 j = 0) : mf g (cl b p j (c + jn b 14 j)) v = if upB b p j c then min (mf g (cl b p j c) v) (g c) else mf g (cl b p j c) v := by
  rw [cl_step hW c3]
  by_cases q : upB b p j c = true
  · rw [if_pos q, if_pos q, mf_app]
  · rw [if_neg q, if_neg q]
/-- loads without one -/
def fz1 (b : gMem) (f : Nat → Nat) (j : Nat) : Nat → Nat := fd f (jn b 13 j) (jn b 14 j)
def LPk (b : gMem) (p : Nat) (f : Nat → Nat) (j : Nat) : Nat := max (mxF (fz1 b f j) 0 p) (mf (fun c => mxF (fz1 b f j) c (jn b 14 j)) (cl b p j p) (mxF (fz1 b f j) (jn b 13 j) (jn b 14 j)) + 1)
def Lz1 (b : gMem) (p : Nat) (f : Nat → Nat) (j v : Nat) : Nat := mf (fun c => mxF (fu (fz1 b f j) c (jn b 14 j)) 0 p) (cl b p j p) v
theorem LP_i {j x : Nat} (hw : 1 ≤ jn b 14 j) (hown : upX b p j (jn b 13 j)) : x ≤ LPk b p f j ↔ ∀ c, c ∈ cl b p j p → x ≤ mxF (fu (fz1 b f j) c (jn b 14 j)) 0 p := by
  have ho : jn b 13 j ∈ cl b p j p := cl_m.mpr ⟨by have := hown.2.1; omega, hown⟩
  have e : ∀ c, c ∈ cl b p j p → mxF (fu (fz1 b f j) c (jn b 14 j)) 0 p = max (mxF (fz1 b f j) 0 p) (mxF (fz1 b f j) c (jn b 14 j) + 1) := fun c hc => mx_fu hw (cl_m.mp hc).2.2.1
  unfold LPk
  by_cases q : x ≤ mxF (fz1 b f j) 0 p
  · exact ⟨fun _ c hc => by rw [e c hc]; omega, fun _ => by omega⟩
  · have h1 : ∀ v, x ≤ max (mxF (fz1 b f j) 0 p) v ↔ x ≤ v := fun v => by omega
    rw [h1]
    have h2 := mf_iff (g := fun c => mxF (fz1 b f j) c (jn b 14 j)) (x := x - 1) (cl b p j p) (mxF (fz1 b f j) (jn b 13 j) (jn b 14 j))
    constructor
    · intro h c hc
      have h3 := (h2.mp (by omega)).2 c hc
      rw [e c hc]
      have h3' : x - 1 ≤ mxF (fz1 b f j) c (jn b 14 j) := h3
      omega
    · intro h
      have h4 : ∀ c, c ∈ cl b p j p → x - 1 ≤ mxF (fz1 b f j) c (jn b 14 j) := fun c hc => by
        have := h c hc
        rw [e c hc] at this
        omega
      have := h2.mpr ⟨h4 _ ho, h4⟩
      omega
theorem LP_L1 {j v : Nat} (hw : 1 ≤ jn b 14 j) (hown : upX b p j (jn b 13 j)) : min v (LPk b p f j) = Lz1 b p f j v := by
  have e : ∀ x, x ≤ min v (LPk b p f j) ↔ x ≤ Lz1 b p f j v := fun x => by
    unfold Lz1
    rw [Nat.le_min, LP_i hw hown, mf_iff]
  exact Nat.le_antisymm ((e _).mp (Nat.le_refl _)) ((e _).mpr (Nat.le_refl _))
/-- from one on, k of them -/
def Tz1 (b : gMem) (p : Nat) (f : Nat → Nat) : Nat → Nat → Nat → Nat
  | _, 0, v => v
  | j, k + 1, v => Tz1 b p f (j + 1) k (if b.1 9 j = 2 then Lz1 b p f j v else v)
theorem Tz1_le : ∀ (k j v : Nat), Tz1 b p f j k v ≤ v
  | 0, _, _ => Nat.le_refl _
  | k + 1, j, v => by
    have := Tz1_le k (j + 1) (if b.1 9 j = 2 then Lz1 b p f j v else v)
    show Tz1 b p f (j + 1) k (if b.1 9 j = 2 then Lz1 b p f j v else v) ≤ v
    have h2 : (if b.1 9 j = 2 then Lz1 b p f j v else v) ≤ v := by
      split
      · exact mf_le _ _
      · exact Nat.le_refl _
    omega
theorem f1_le {j d m : Nat} (h : f d ≤ m) : fz1 b f j d ≤ m := by unfold fz1 fd; split <;> omega
theorem min_n {x y : Nat} {ρ : gMem} (hx : x < 2147483648) (hy : y < 2147483648) : mJ9_min_7cf53 [.int (nI x), .int (nI y)] ρ = some (some (.int (nI (min x y))), ρ) := min_e hx hy
theorem c_LP {j : Nat} {m0 : gMem} (h : BW m0 u n a r p t Q B) (hm : pq m0 μ) (hj : j < n) (h2 : m0.1 9 j = 2) (hl : LD μ f) (hf : ∀ d, f d ≤ 100) (h1 : ∀ d, jn m0 13 j ≤ d → d < jn m0 13 j + jn m0 14 j → 1 ≤ f d) : ∃ μ', mX5_leastPeakBy [.ref 178, .int (nI j)] μ = some (some (.int (nI (LPk m0 p f j))), μ') ∧ lk μ μ' ∧ LD μ' f := by
  have hp := h.A.p32
  have hn := h.A.n60
  obtain ⟨m, w1, w2, w3, w4, w5, w6, w7⟩ := pl_w h hj h2
  have hle := w1.le
  have hdv := w1.dvd h.A.2.2.2.2.2.2
  obtain ⟨μ1, a1, a2, a3⟩ := c_dn hl (show jn m0 13 j + jn m0 14 j ≤ 32 by omega) h1
  have hpq : pq m0 μ1 := hm.tr a2.pq
  have hb := h.bs hpq.bs
  have pp : (g_lf 0 mX2_p) [.ref 0] μ1 = some (some (.int (nI p)), μ1) := lfq rfl rfl (by rw [eX2_p, hb.A.2.2.2.2.2.1]) rfl
  have hF : ∀ d, fz1 m0 f j d ≤ 100 := fun d => f1_le (hf d)
  have hmx : ∀ c w, mxF (fz1 m0 f j) c w ≤ 100 := fun c w => mxF_iff.mpr fun d _ => hF _
  have hmf : ∀ L, mf (fun c => mxF (fz1 m0 f j) c (jn m0 14 j)) L (mxF (fz1 m0 f j) (jn m0 13 j) (jn m0 14 j)) ≤ 100 := fun L => Nat.le_trans (mf_le _ _) (hmx _ _)
  have g0 : mX5_greatestLoad [.ref 178, .int 0, .int (nI p)] μ1 = some (some (.int (nI (mxF (fz1 m0 f j) 0 p))), μ1) := c_great (c := 0) a3 (by omega) (fun d _ => by have := hF d; omega)
  obtain ⟨μ2, b1, b2, b3⟩ := c_up a3 (show jn m0 13 j + jn m0 14 j ≤ 32 by omega)
  rw [fu_fd h1] at b3
  have fin : ∀ c, p ≤ c → c ≤ p → rX5_leastPeakBy_48 (nI (jn m0 13 j)) (nI (jn m0 14 j)) (nI (mf (fun c => mxF (fz1 m0 f j) c (jn m0 14 j)) (cl m0 p j c) (mxF (fz1 m0 f j) (jn m0 13 j) (jn m0 14 j)))) (nI c) μ1 = some (some (.int (nI (LPk m0 p f j))), μ2) := fun c c1 c2 => by
    obtain rfl : c = p := by omega
    have := hmf (cl m0 c j c)
    have := hmx 0 c
    rw [eX5_leastPeakBy_48, pp, g_ci_some, if_pos (nI_le (by omega) (by omega)), pp, g_ci_some, g0, g_ci_some, nI_1, eJ9_max_7cf53]
    unfold LPk
    by_cases z : mxF (fz1 m0 f j) 0 c < mf (fun c => mxF (fz1 m0 f j) c (jn m0 14 j)) (cl m0 c j c) (mxF (fz1 m0 f j) (jn m0 13 j) (jn m0 14 j)) + 1
    · rw [if_pos (nI_lt z (by omega)), g_ci_some, b1, g_cv_some, Nat.max_eq_right (by omega)]
    · rw [if_neg (nI_nlt (by omega) (by omega)), g_ci_some, b1, g_cv_some, Nat.max_eq_left (by omega)]
  have loop : ∀ k c, p ≤ c + k → c ≤ p → c % jn m0 14 j = 0 → rX5_leastPeakBy_48 (nI (jn m0 13 j)) (nI (jn m0 14 j)) (nI (mf (fun c => mxF (fz1 m0 f j) c (jn m0 14 j)) (cl m0 p j c) (mxF (fz1 m0 f j) (jn m0 13 j) (jn m0 14 j)))) (nI c) μ1 = some (some (.int (nI (LPk m0 p f j))), μ2) := by
    intro k
    induction k with
    | zero => intro c c1 c2 c3; exact fin c (by omega) c2
    | succ k ih =>
      intro c c1 c2 c3
      by_cases q : c = p
      · exact fin c (by omega) c2
      have hc : c < p := by omega
      have hfit := mul_fit hle.1 hdv c3 hc
      have hmod : (c + jn m0 14 j) % jn m0 14 j = 0 := by rw [Nat.add_mod_right]; exact c3
      have ih' := ih (c + jn m0 14 j) (by omega) hfit hmod
      have hup : upB m0 p j c = decide (m0.1 0 13 &&& BK c (jn m0 14 j) = 0) := by unfold upB; rw [decide_eq_true c3, decide_eq_true hfit]; rfl
      rw [mf_step w1 c3, hup] at ih'
      rw [eX5_leastPeakBy_48, pp, g_ci_some, if_neg (nI_ge hc (by omega)), c_isUp (by omega) hle.2, g_ci_some, hpq.2 0 13 (by omega), c_great a3 (show c + jn m0 14 j ≤ 32 by omega) (fun d _ => by have := hF d; unfold fz1 at this; omega), g_ci_some, show fd f (jn m0 13 j) (jn m0 14 j) = fz1 m0 f j from rfl, min_n (by have := hmf (cl m0 p j c); omega) (by have := hmx c (jn m0 14 j); omega), g_ci_some, nad]
      by_cases q2 : m0.1 0 13 &&& BK c (jn m0 14 j) = 0
      · rw [show (if m0.1 0 13 &&& BK c (jn m0 14 j) = 0 then (1 : Int32) else 0) = 1 from if_pos q2, if_neg (show ¬ (1 : Int32) = 0 by decide)]
        rw [decide_eq_true q2, if_pos rfl] at ih'
        exact ih'
      · rw [show (if m0.1 0 13 &&& BK c (jn m0 14 j) = 0 then (1 : Int32) else 0) = 0 from if_neg q2, if_pos rfl]
        rw [decide_eq_false q2, if_neg (by decide)] at ih'
        exact ih'
  refine ⟨μ2, ?_, a2.tr b2, b3⟩
  rw [eX5_leastPeakBy, gin (show j < 60 by omega) (by omega), if_pos rfl, if_pos rfl, tn (by omega), hm.2 14 j (by omega), w2, max_e hle.1 (by omega), g_ci_some, hm.2 13 j (by omega), w3, a1, g_cv_some, c_great a3 (show jn m0 13 j + jn m0 14 j ≤ 32 by omega) (fun d _ => by have := hF d; unfold fz1 at this; omega), g_ci_some]
  exact loop p 0 (by omega) (by omega) (Nat.zero_mod _)
/-- all that are placed, from one on, have their loads -/
def ge1 (b : gMem) (n j : Nat) (f : Nat → Nat) : Prop := ∀ x, j ≤ x → x < n → b.1 9 x = 2 → ∀ d, jn b 13 x ≤ d → d < jn b 13 x + jn b 14 x → 1 ≤ f d
theorem c_T1 {m0 : gMem} (h : BW m0 u n a r p t Q B) (hf : ∀ d, f d ≤ 100) : ∀ k j, j + k = n → ge1 m0 n j f → ∀ (μ : gMem) (v : Nat), pq m0 μ → LD μ f → v ≤ 100 → ∃ μ', rX5_leastPeakByLater_17 (nI v) (nI j) μ = some (some (.int (nI (Tz1 m0 p f j k v))), μ') ∧ rX5_thinned_56 1 (nI v) (nI j) μ = some (some (.int (nI (Tz1 m0 p f j k v))), μ') ∧ lk μ μ' ∧ LD μ' f := by
  have hn := h.A.n60
  intro k
  induction k with
  | zero =>
    intro j hj hg μ v hm hl hv
    obtain rfl : j = n := by omega
    exact ⟨μ, by rw [eX5_leastPeakByLater_17, hm.2 3 2 (by omega), h.A.1, if_pos (nI_le (by omega) (by omega))]; rfl, by rw [eX5_thinned_56, hm.2 3 2 (by omega), h.A.1, if_pos (nI_le (by omega) (by omega))]; rfl, lk.rf, hl⟩
  | succ k ih =>
    intro j hj hg μ v hm hl hv
    have hjn : j < n := by omega
    have hb := h.bs hm.bs
    have hg' : ge1 m0 n (j + 1) f := fun x h1 h2 => hg x (by omega) h2
    have e : Tz1 m0 p f j (k + 1) v = Tz1 m0 p f (j + 1) k (if m0.1 9 j = 2 then Lz1 m0 p f j v else v) := rfl
    rw [eX5_leastPeakByLater_17, hm.2 3 2 (by omega), h.A.1, if_neg (nI_ge hjn (by omega)), lfq rfl rfl (c_isPlaced hb.A hjn) rfl, g_ci_some, hm.2 9 j (by omega), nI_1, eX5_thinned_56, hm.2 3 2 (by omega), h.A.1, if_neg (nI_ge hjn (by omega)), lfq rfl rfl (c_isPlaced hb.A hjn) rfl, g_ci_some, hm.2 9 j (by omega), nI_1, e]
    by_cases q : m0.1 9 j = 2
    · obtain ⟨m, w1, w2, w3, w4, w5, w6, w7⟩ := pl_w h hjn q
      obtain ⟨μ1, c1, c2, c3⟩ := c_LP h hm hjn q hl hf (hg j (Nat.le_refl _) hjn q)
      have hLP : LPk m0 p f j ≤ 101 := by
        unfold LPk
        have z1 : mxF (fz1 m0 f j) 0 p ≤ 100 := mxF_iff.mpr fun d _ => f1_le (hf _)
        have z2 : mxF (fz1 m0 f j) (jn m0 13 j) (jn m0 14 j) ≤ 100 := mxF_iff.mpr fun d _ => f1_le (hf _)
        have z3 := mf_le (g := fun c => mxF (fz1 m0 f j) c (jn m0 14 j)) (cl m0 p j p) (mxF (fz1 m0 f j) (jn m0 13 j) (jn m0 14 j))
        omega
      have hL : min v (LPk m0 p f j) = Lz1 m0 p f j v := LP_L1 w1.le.1 ⟨w4, w5, w6⟩
      obtain ⟨μ2, d1, d2, d3, d4⟩ := ih (j + 1) (by omega) hg' μ1 (Lz1 m0 p f j v) (hm.tr c2.pq) c3 (by rw [← hL]; omega)
      refine ⟨μ2, ?_, ?_, c2.tr d3, d4⟩
      · rw [show (if m0.1 9 j = 2 then (1 : Int32) else 0) = 1 from if_pos q, if_neg (show ¬ (1 : Int32) = 0 by decide), c1, g_ci_some, min_n (by omega) (by omega), g_ci_some, hL, if_pos q]; exact d1
      · rw [show (if m0.1 9 j = 2 then (1 : Int32) else 0) = 1 from if_pos q, if_neg (show ¬ (1 : Int32) = 0 by decide), if_pos rfl, c1, g_ci_some, min_n (by omega) (by omega), g_ci_some, hL, if_pos q]; exact d2
    · obtain ⟨μ2, d1, d2, d3, d4⟩ := ih (j + 1) (by omega) hg' μ v hm hl hv
      refine ⟨μ2, ?_, ?_, d3, d4⟩
      · rw [show (if m0.1 9 j = 2 then (1 : Int32) else 0) = 0 from if_neg q, if_pos rfl, if_neg q]; exact d1
      · rw [show (if m0.1 9 j = 2 then (1 : Int32) else 0) = 0 from if_neg q, if_pos rfl, if_neg q]; exact d2
end THIN
