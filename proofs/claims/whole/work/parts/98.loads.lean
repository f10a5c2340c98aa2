/-! loads of the columns: both sides -/
section LOADS
variable {b u b' u' μ μ' ν : gMem} {n a r p t B k : Nat} {Q : List Nat} {f g : Nat → Nat}
theorem mxF_iff {c m : Nat} : ∀ {k : Nat}, mxF f c k ≤ m ↔ ∀ d, d < k → f (c + d) ≤ m
  | 0 => ⟨fun _ d hd => by omega, fun _ => Nat.zero_le _⟩
  | k + 1 => by
    show (if f (c + k) ≤ mxF f c k then mxF f c k else f (c + k)) ≤ m ↔ _
    have ih := mxF_iff (c := c) (m := m) (k := k)
    constructor
    · intro h d hd
      by_cases q : d = k
      · subst q; split at h <;> omega
      · exact ih.mp (by split at h <;> omega) d (by omega)
    · intro h
      have h1 := ih.mpr (fun d hd => h d (by omega))
      have h2 := h k (by omega)
      split <;> omega
theorem mxF_ge {c d k : Nat} (hd : d < k) : f (c + d) ≤ mxF f c k := mxF_iff.mp (Nat.le_refl _) d hd
theorem mxF_eq {c c' k k' : Nat} (h : ∀ m, (∀ d, d < k → f (c + d) ≤ m) ↔ (∀ d, d < k' → g (c' + d) ≤ m)) : mxF f c k = mxF g c' k' := Nat.le_antisymm (mxF_iff.mpr ((h _).mpr (mxF_iff.mp (Nat.le_refl _)))) (mxF_iff.mpr ((h _).mp (mxF_iff.mp (Nat.le_refl _))))
theorem mxF_cg {c k : Nat} (h : ∀ d, d < k → f (c + d) = g (c + d)) : mxF f c k = mxF g c k := mxF_eq fun m => ⟨fun z d hd => by rw [← h d hd]; exact z d hd, fun z d hd => by rw [h d hd]; exact z d hd⟩
/-- nothing lies beyond the last column -/
theorem ld_hi {c : Nat} (h : BW b u n a r p t Q B) (h1 : p ≤ c) (h2 : c < 32) : ld b n c = 0 := cB_zero fun j hj => by
  by_cases q : b.1 9 j = 2
  · have z := (ip_yes (h.P.1 j hj) q)
    have hw := h.J j hj
    have hp := h.A.p32
    rw [decide_eq_true q, Bool.true_and]
    unfold bl
    rw [b_BK (by have := (wd_pos (jn b 5 j)).1; have := jw hw; have := z.2.2.2.1; omega) (by rw [jw hw]; exact (wd_pos _).2) h2]
    exact decide_eq_false (fun y => by have := z.2.2.2.1; omega)
  · rw [decide_eq_false q, Bool.false_and]
theorem c_peakColumn (h : BW b u n a r p t Q B) : ∃ x, x < p ∧ mX7_peakColumn [.ref 29] b = some (some (.int (nI x)), b) ∧ (∀ i, i < x → ld b n i < ld b n x) ∧ ld b n x = mxF (ld b n) 0 p := by
  have hp := h.A.p32
  have hn := h.A.n60
  have loop : ∀ m c, c + m = 32 → 1 ≤ c → ∀ x, x < c → (∀ i, i < x → ld b n i < ld b n x) → (∀ i, i < c → ld b n i ≤ ld b n x) → ∃ y, y < 32 ∧ rX7_peakColumn_4 (nI x) (nI c) b = some (some (.int (nI y)), b) ∧ (∀ i, i < y → ld b n i < ld b n y) ∧ ∀ i, i < 32 → ld b n i ≤ ld b n y := by
    intro m
    induction m with
    | zero =>
      intro c hc _ x hx h1 h2
      obtain rfl : c = 32 := by omega
      exact ⟨x, hx, by rw [eX7_peakColumn_4, if_pos (show (32 : Int32) ≤ nI 32 by decide)], h1, h2⟩
    | succ m ih =>
      intro c hc hc1 x hx h1 h2
      have l1 := ld_60 (b := b) hn c
      have l2 := ld_60 (b := b) hn x
      rw [eX7_peakColumn_4, if_neg (show ¬ (32 : Int32) ≤ nI c from nI_ge (a := c) (b := 32) (by omega) (by omega)), c_loadOf h.A h.P h.S (by omega), g_ci_some, c_loadOf h.A h.P h.S (by omega), g_ci_some, nI_1]
      by_cases q : ld b n c ≤ ld b n x
      · rw [if_pos (nI_le q (by omega))]
        exact ih (c + 1) (by omega) (by omega) x (by omega) h1 (fun i hi => by
          by_cases z : i = c
          · rw [z]; exact q
          · exact h2 i (by omega))
      · rw [if_neg (nI_ge (by omega) (by omega))]
        exact ih (c + 1) (by omega) (by omega) c (by omega) (fun i hi => by have := h2 i hi; omega) (fun i hi => by
          by_cases z : i = c
          · rw [z]; exact Nat.le_refl _
          · have := h2 i (by omega); omega)
  obtain ⟨y, y1, y2, y3, y4⟩ := loop 31 1 (by omega) (by omega) 0 (by omega) (fun i hi => by omega) (fun i hi => by rw [show i = 0 by omega]; exact Nat.le_refl _)
  have yp : y < p := Classical.byContradiction fun z => by
    have e1 := ld_hi h (show p ≤ y by omega) y1
    have e2 := y3 0 (by omega)
    omega
  refine ⟨y, yp, (eX7_peakColumn b).trans y2, y3, Nat.le_antisymm ?_ (mxF_iff.mpr fun d hd => y4 _ (by omega))⟩
  have := mxF_ge (f := ld b n) (c := 0) yp
  rw [Nat.zero_add] at this
  exact this
theorem c_peak (h : BW b u n a r p t Q B) : mX7_peak [.ref 29] b = some (some (.int (nI (mxF (ld b n) 0 p))), b) := by
  have hp := h.A.p32
  obtain ⟨x, x1, x2, x3, x4⟩ := c_peakColumn h
  rw [eX7_peak, x2, g_ci_some, c_loadOf h.A h.P h.S (by omega), g_ci_some, x4]
/-- the reference's loads -/
def LU (u : gMem) (p : Nat) (f : Nat → Nat) : Prop := ∀ d, d < p → u.1 10 d = nI (f d)
/-- the class's loads -/
def LD (μ : gMem) (f : Nat → Nat) : Prop := ∀ d, d < 32 → μ.1 179 d = nI (f d)
/-- of the reference only the loads are others -/
def lo (u u' : gMem) : Prop := u'.2 = u.2 ∧ ∀ c i, c ≠ 10 → u'.1 c i = u.1 c i
theorem lo.rf : lo u u := ⟨rfl, fun _ _ _ => rfl⟩
theorem lo.tr {v w : gMem} (h : lo u v) (h2 : lo v w) : lo u w := ⟨h2.1.trans h.1, fun c i hc => (h2.2 c i hc).trans (h.2 c i hc)⟩
theorem lo.w {i : Nat} {x : Int32} : lo u (gwI u 10 i x) := ⟨rfl, fun c k hc => by rw [gI_r, if_neg (fun z => hc z.1)]⟩
theorem lo.qs (h : lo u u') : qs u u' := ⟨h.1, fun i => h.2 _ _ (by omega), fun i => h.2 _ _ (by omega), fun i => h.2 _ _ (by omega), h.2 _ _ (by omega)⟩
/-- of the class's memory only the plans' cells are others -/
def pq (μ μ' : gMem) : Prop := μ'.2 = μ.2 ∧ ∀ c i, c < 178 → μ'.1 c i = μ.1 c i
theorem pq.rf : pq μ μ := ⟨rfl, fun _ _ _ => rfl⟩
theorem pq.tr {v w : gMem} (h : pq μ v) (h2 : pq v w) : pq μ w := ⟨h2.1.trans h.1, fun c i hc => (h2.2 c i hc).trans (h.2 c i hc)⟩
theorem pq.w {c i : Nat} {x : Int32} (h : 178 ≤ c) : pq μ (gwI μ c i x) := ⟨rfl, fun d k hd => by rw [gI_r, if_neg (by omega)]⟩
theorem pq.bs (h : pq μ μ') : bs μ μ' := ⟨h.1, fun c i hc => h.2 c i (by omega)⟩
theorem pq.cfr (h : pq μ μ') : cfr μ μ' := fun c i hc => ⟨h.2 c i (by omega), by rw [h.1]⟩
theorem m_laysLoads (h : BW b u n a r p t Q B) : ∃ u', mX10_laysLoads [.ref 0] u = some (none, u') ∧ lo u u' ∧ LU u' p (ld b n) := by
  have hp := h.A.p32
  have key : ∀ k c, c + k = p → ∀ u1, lo u u1 → (∀ d, d < c → u1.1 10 d = nI (ld b n d)) → ∃ u', rX10_laysLoads_2 (nI c) u1 = some (none, u') ∧ lo u u' ∧ LU u' p (ld b n) := by
    intro k
    induction k with
    | zero =>
      intro c hc u1 h1 h2
      obtain rfl : c = p := by omega
      exact ⟨u1, by rw [eX10_laysLoads_2, m_cols (h.qs h1.qs).e h.A, g_ci_some, if_pos (nI_le (by omega) (by omega))], h1, h2⟩
    | succ k ih =>
      intro c hc u1 h1 h2
      rw [eX10_laysLoads_2, m_cols (h.qs h1.qs).e h.A, g_ci_some, if_neg (nI_ge (by omega) (by omega)), m_loadOf (h.qs h1.qs).e h.A h.J h.P (by omega), g_ci_some, gin (show c < 32 by omega) (by omega), if_pos rfl, tn (by omega), nI_1]
      refine ih (c + 1) (by omega) _ (h1.tr lo.w) (fun d hd => ?_)
      rw [gI_r]
      by_cases q : d = c
      · rw [if_pos ⟨rfl, q⟩, q]
      · rw [if_neg (fun z => q z.2)]
        exact h2 d (by omega)
  rw [eX10_laysLoads]
  exact key p 0 (by omega) u lo.rf (fun d hd => by omega)
theorem m_greatest (h : BW b u n a r p t Q B) (hl : LU u p f) (hf : ∀ d, d < p → f d < 2147483648) : mX10_greatest [.ref 0] u = some (some (.int (nI (mxF f 0 p))), u) := by
  have hp := h.A.p32
  have key : ∀ k c, c + k = p → rX10_greatest_4 (nI (mxF f 0 c)) (nI c) u = some (some (.int (nI (mxF f 0 p))), u) := by
    intro k
    induction k with
    | zero =>
      intro c hc
      obtain rfl : c = p := by omega
      rw [eX10_greatest_4, m_cols h.e h.A, g_ci_some, if_pos (nI_le (by omega) (by omega))]
    | succ k ih =>
      intro c hc
      have h1 := hf c (by omega)
      have h2 : mxF f 0 c ≤ 2147483647 := mxF_iff.mpr fun d hd => by have := hf (0 + d) (by omega); omega
      have h3 : mxF f 0 (c + 1) = if f c ≤ mxF f 0 c then mxF f 0 c else f c := by
        show (if f (0 + c) ≤ mxF f 0 c then mxF f 0 c else f (0 + c)) = _
        rw [Nat.zero_add]
      rw [eX10_greatest_4, m_cols h.e h.A, g_ci_some, if_neg (nI_ge (by omega) (by omega)), gin (show c < 32 by omega) (by omega), if_pos rfl, tn (by omega), hl c (by omega), nI_1]
      by_cases q : f c ≤ mxF f 0 c
      · rw [if_pos (nI_le q (by omega))]
        have := ih (c + 1) (by omega)
        rw [h3, if_pos q] at this
        exact this
      · rw [if_neg (nI_ge (by omega) (by omega)), if_pos rfl]
        have := ih (c + 1) (by omega)
        rw [h3, if_neg q] at this
        exact this
  rw [eX10_greatest]
  exact key p 0 (by omega)
theorem m_firstGreatest {x : Nat} (h : BW b u n a r p t Q B) (hl : LU u p (ld b n)) (hx : x < p) (h1 : ∀ i, i < x → ld b n i < ld b n x) (h2 : ld b n x = mxF (ld b n) 0 p) : mX10_firstGreatest [.ref 0] u = some (some (.int (nI x)), u) := by
  have hp := h.A.p32
  have hn := h.A.n60
  have key : ∀ k c, c + k = x → rX10_firstGreatest_2 (nI c) u = some (some (.int (nI x)), u) := by
    intro k
    induction k with
    | zero =>
      intro c hc
      obtain rfl : c = x := by omega
      rw [eX10_firstGreatest_2, gin (show c < 32 by omega) (by omega), if_pos rfl, m_greatest h hl (fun d _ => by have := ld_60 (b := b) hn d; omega), g_ci_some, tn (by omega), hl c hx, h2, if_pos (nI_le (by omega) (by have := ld_60 (b := b) hn c; omega))]
    | succ k ih =>
      intro c hc
      have := h1 c (by omega)
      have := ld_60 (b := b) hn x
      rw [eX10_firstGreatest_2, gin (show c < 32 by omega) (by omega), if_pos rfl, m_greatest h hl (fun d _ => by have := ld_60 (b := b) hn d; omega), g_ci_some, tn (by omega), hl c (by omega), ← h2, if_neg (nI_ge (by omega) (by omega)), nI_1]
      exact ih (c + 1) (by omega)
  rw [eX10_firstGreatest]
  exact key x 0 (by omega)
end LOADS
