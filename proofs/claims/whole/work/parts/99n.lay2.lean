section LAY2
variable {b u b' u' μ μ' ν : gMem} {n a r p t B k o : Nat} {Q : List Nat} {f g : Nat → Nat}
/-- how many of a list have a column in their new blocks -/
noncomputable def lyN (b : gMem) (p : Nat) (f : Nat → Nat) (L : List Nat) (κ : Nat → Nat) (d : Nat) : Nat := (L.filter (fun x => decide (κ x ≤ d ∧ d < κ x + jn b 14 x))).length
theorem lyF_cnt {d : Nat} : ∀ (L : List Nat) (f : Nat → Nat), L.Nodup → lyF b p f L d = f d + (L.filter (fun x => decide (lyC b p f L x ≤ d ∧ d < lyC b p f L x + jn b 14 x))).length
  | [], f, _ => by simp [lyF]
  | y :: L, f, hnd => by
    have hnd2 := List.nodup_cons.mp hnd
    have ih := lyF_cnt (d := d) L (fu f (TH b p f y) (jn b 14 y)) hnd2.2
    have ey : lyC b p f (y :: L) y = TH b p f y := if_pos rfl
    have ex : ∀ x, x ∈ L → lyC b p f (y :: L) x = lyC b p (fu f (TH b p f y) (jn b 14 y)) L x := fun x hx => if_neg (show ¬ x = y from fun z => hnd2.1 (by rw [← z]; exact hx))
    have ef : L.filter (fun x => decide (lyC b p f (y :: L) x ≤ d ∧ d < lyC b p f (y :: L) x + jn b 14 x)) = L.filter (fun x => decide (lyC b p (fu f (TH b p f y) (jn b 14 y)) L x ≤ d ∧ d < lyC b p (fu f (TH b p f y) (jn b 14 y)) L x + jn b 14 x)) := List.filter_congr (fun x hx => by rw [ex x hx])
    show lyF b p (fu f (TH b p f y) (jn b 14 y)) L d = _
    rw [ih, List.filter_cons, ef, ey]
    by_cases q : TH b p f y ≤ d ∧ d < TH b p f y + jn b 14 y
    · rw [if_pos (decide_eq_true q), List.length_cons, show fu f (TH b p f y) (jn b 14 y) d = f d + 1 from if_pos q]; omega
    · rw [if_neg (by simp [q]), show fu f (TH b p f y) (jn b 14 y) d = f d from if_neg q]
/-- all that are placed, laid anew: their columns -/
def laid (b : gMem) (n p : Nat) (F κ : Nat → Nat) : Prop := (∀ d, F d ≤ 60) ∧ (∀ x, x < n → b.1 9 x = 2 → upX b p x (κ x)) ∧ ∀ d, F d = cB (fun x => decide (b.1 9 x = 2) && decide (κ x ≤ d ∧ d < κ x + jn b 14 x)) n
theorem lay_both (h : BW μ u n a r p t Q B) : ∃ (F κ : Nat → Nat) (μ' u' : gMem), laid μ n p F κ ∧ mX5_layAnew [.ref 178] μ = some (none, μ') ∧ mX10_laysPack [.ref 0] u = some (none, u') ∧ pq μ μ' ∧ qs u u' ∧ μ'.1 178 6 = nI (mxF F 0 p) ∧ LU u' p F ∧ (∀ x, x < n → μ.1 9 x = 2 → μ'.1 180 x = nI (κ x) ∧ u'.1 11 x = nI (κ x)) := by
  have hp := h.A.p32
  have hn := h.A.n60
  obtain ⟨M, μ1, s1, s2, s3, s4, s5, s6⟩ := c_sortByWidth h
  have hnd : M.Nodup := s3.imp (fun h e => by subst e; exact absurd h (Nat.lt_irrefl _))
  -- the class: no loads
  have z1 : ∀ k c, c + k = 32 → ∀ m1, pq μ m1 → ka (Kv μ n) m1 181 M → (∀ d, d < c → m1.1 179 d = nI 0) → ∃ m2, rX5_layAnew_7 (nI M.length) (nI c) m1 = rX5_layAnew_31 (nI M.length) 0 m2 ∧ pq μ m2 ∧ ka (Kv μ n) m2 181 M ∧ LD m2 (fun _ => 0) := by
    intro k
    induction k with
    | zero =>
      intro c hc m1 k1 k2 k3
      obtain rfl : c = 32 := by omega
      exact ⟨m1, by rw [eX5_layAnew_7, if_pos (show (32 : Int32) ≤ nI 32 by decide)], k1, k2, k3⟩
    | succ k ih =>
      intro c hc m1 k1 k2 k3
      rw [eX5_layAnew_7, if_neg (show ¬ (32 : Int32) ≤ nI c from nI_ge (a := c) (b := 32) (by omega) (by omega)), gin (show c < 32 by omega) (by omega), if_pos rfl, tn (by omega), nI_1]
      refine ih (c + 1) (by omega) _ (k1.tr (pq.w (by omega))) (fun i hi => by rw [gI_r, if_neg (by omega)]; exact k2 i hi) (fun d hd => ?_)
      rw [gI_r]
      by_cases q : d = c
      · rw [if_pos ⟨rfl, q⟩]; rfl
      · rw [if_neg (fun z => q z.2)]; exact k3 d (by omega)
  obtain ⟨m2, a1, a2, a3, a4⟩ := z1 32 0 (by omega) μ1 s6 s2 (fun d hd => by omega)
  obtain ⟨m3, b1, b2, b3, b4, b5, b6⟩ := c_layLoop h s5 (fun x hx => plL_m.mp ((s4 x).mp hx)) hnd M.length 0 (by omega) m2 (fun _ => 0) a2 a3 a4 (fun _ => Nat.le_refl _)
  rw [List.drop_zero] at b3 b4 b6
  have hF : ∀ d, lyF μ p (fun _ => 0) M d ≤ 60 := fun d => by have := lyF_le (b := μ) (p := p) M (fun _ => 0) d 0 (Nat.le_refl _); omega
  -- the reference: no loads
  have z2 : ∀ k c, c + k = p → ∀ u1, qs u u1 → (∀ d, d < c → u1.1 10 d = nI 0) → ∃ u2, rX10_laysPack_2 (nI c) u1 = rX10_laysPack_28 (nI p) u2 ∧ qs u u2 ∧ LU u2 p (fun _ => 0) := by
    intro k
    induction k with
    | zero =>
      intro c hc u1 k1 k2
      obtain rfl : c = p := by omega
      have hw := h.qs k1
      exact ⟨u1, by rw [eX10_laysPack_2, m_cols hw.e h.A, g_ci_some, if_pos (nI_le (by omega) (by omega)), m_cols hw.e h.A, g_ci_some], k1, k2⟩
    | succ k ih =>
      intro c hc u1 k1 k2
      have hw := h.qs k1
      rw [eX10_laysPack_2, m_cols hw.e h.A, g_ci_some, if_neg (nI_ge (by omega) (by omega)), gin (show c < 32 by omega) (by omega), if_pos rfl, tn (by omega), nI_1]
      refine ih (c + 1) (by omega) _ (k1.tr (qs.w (by omega))) (fun d hd => ?_)
      rw [gI_r]
      by_cases q : d = c
      · rw [if_pos ⟨rfl, q⟩]; rfl
      · rw [if_neg (fun z => q z.2)]; exact k2 d (by omega)
  obtain ⟨u2, c1, c2, c3⟩ := z2 p 0 (by omega) u qs.rf (fun d hd => by omega)
  obtain ⟨P, hP, hP5⟩ : ∃ P, p = 2 ^ P ∧ P ≤ 5 := by
    rcases h.A.2.2.2.2.2.2 with q | q | q | q
    · exact ⟨2, by omega, by omega⟩
    · exact ⟨3, by omega, by omega⟩
    · exact ⟨4, by omega, by omega⟩
    · exact ⟨5, by omega, by omega⟩
  have hmem : ∀ x, x ∈ wT' μ n (P + 1) ↔ x ∈ plL μ n := fun x => by
    rw [wT_m, plL_m]
    constructor
    · rintro ⟨y1, y2, -⟩; exact ⟨y1, y2⟩
    · rintro ⟨y1, y2⟩
      obtain ⟨mm, w1, -⟩ := pl_w h y1 y2
      refine ⟨y1, y2, mm, ?_, w1.1⟩
      refine Classical.byContradiction fun z => ?_
      have e1 := w1.1
      have e2 := w1.2.2
      have : 2 ^ (P + 1) ≤ 2 ^ mm := Nat.pow_le_pow_right (by omega) (by omega)
      have e3 : 2 ^ (P + 1) = 2 * 2 ^ P := by rw [Nat.pow_succ]; omega
      omega
  have hML : M = wT' μ n (P + 1) := srt_uniq s3 (wT_pw hn (P + 1) (by omega)) (fun x => (s4 x).trans (hmem x).symm)
  obtain ⟨u3, d1, d2, d3, d4, d5⟩ := m_layLoop h P hP5 (by omega) n 0 (by omega) u2 (fun _ => 0) 0 c2 c3 (fun _ => Nat.le_refl _) (by
    have : wG μ P 0 n ++ wT' μ n P = M := hML.symm
    rw [this]; omega)
  have hML2 : wG μ P 0 n ++ wT' μ n P = M := hML.symm
  rw [hML2] at d3 d4
  refine ⟨lyF μ p (fun _ => 0) M, lyC μ p (fun _ => 0) M, gwI m3 178 6 (nI (mxF (lyF μ p (fun _ => 0) M) 0 p)), u3, ⟨hF, fun x hx h2 => b6 x ((s4 x).mpr (plL_m.mpr ⟨hx, h2⟩)), fun d => ?_⟩, ?_, ?_, b2.tr (pq.w (by omega)), d2, by rw [gI_r, if_pos ⟨rfl, rfl⟩], d3, fun x hx h2 => ?_⟩
  · rw [lyF_cnt M _ hnd, Nat.zero_add, cB_flt]
    refine Nat.le_antisymm (nodup_le (hnd.filter _) (fun x hx => ?_)) (nodup_le (List.nodup_range.filter _) (fun x hx => ?_))
    · rw [List.mem_filter] at hx ⊢
      have := plL_m.mp ((s4 x).mp hx.1)
      refine ⟨List.mem_range.mpr this.1, ?_⟩
      show (decide (μ.1 9 x = 2) && _) = true
      rw [decide_eq_true this.2, Bool.true_and]; exact hx.2
    · rw [List.mem_filter] at hx ⊢
      have hx1 := List.mem_range.mp hx.1
      have hx2 : (decide (μ.1 9 x = 2) && decide (lyC μ p (fun _ => 0) M x ≤ d ∧ d < lyC μ p (fun _ => 0) M x + jn μ 14 x)) = true := hx.2
      rw [Bool.and_eq_true] at hx2
      exact ⟨(s4 x).mpr (plL_m.mpr ⟨hx1, of_decide_eq_true hx2.1⟩), hx2.2⟩
  · have hb := h.bs b2.bs
    rw [eX5_layAnew, s1, g_ci_some, show rX5_layAnew_7 (nI M.length) 0 μ1 = _ from a1, show rX5_layAnew_31 (nI M.length) 0 m2 = _ from b1, eX5_layAnew_31, if_pos (nI_le (Nat.le_refl _) (by omega)), lfq rfl rfl (by rw [eX2_p, hb.A.2.2.2.2.2.1]) rfl, g_ci_some, show mX5_greatestLoad [.ref 178, .int 0, .int (nI p)] m3 = some (some (.int (nI (mxF (lyF μ p (fun _ => 0) M) 0 p))), m3) from c_great (c := 0) b3 (by omega) (fun d _ => by have := hF d; omega), g_ci_some]
  · have hpos : 1 ≤ 2 ^ P := Nat.one_le_two_pow
    rw [eX10_laysPack, show rX10_laysPack_2 0 u = _ from c1, eX10_laysPack_28, if_neg (show ¬ nI p ≤ 0 from nI_ge (a := 0) (b := p) (by omega) (by omega)), hP]
    exact d1
  · have hxM : x ∈ M := (s4 x).mpr (plL_m.mpr ⟨hx, h2⟩)
    exact ⟨by rw [gI_r, if_neg (by omega)]; exact b4 x hxM, d4 x hxM⟩
end LAY2
