/-! loads that are changed for a while -/
section BEST
variable {b u b' u' μ μ' ν : gMem} {n a r p t B k o : Nat} {Q : List Nat} {f g : Nat → Nat}
def fu (f : Nat → Nat) (c w d : Nat) : Nat := if c ≤ d ∧ d < c + w then f d + 1 else f d
def fd (f : Nat → Nat) (c w d : Nat) : Nat := if c ≤ d ∧ d < c + w then f d - 1 else f d
/-- the greatest, if a block is taken one higher -/
theorem mx_fu {c w : Nat} (hw : 1 ≤ w) (hc : c + w ≤ p) : mxF (fu f c w) 0 p = max (mxF f 0 p) (mxF f c w + 1) := by
  have e : ∀ m, (∀ d, d < p → fu f c w (0 + d) ≤ m) ↔ mxF f 0 p ≤ m ∧ mxF f c w + 1 ≤ m := fun m => by
    rw [mxF_iff]
    constructor
    · intro h
      refine ⟨fun d hd => ?_, ?_⟩
      · have := h d hd
        unfold fu at this
        split at this <;> omega
      · have h1 : 1 ≤ m := by
          have := h c (by omega)
          unfold fu at this
          rw [if_pos (by omega)] at this
          omega
        have : mxF f c w ≤ m - 1 := mxF_iff.mpr fun d hd => by
          have := h (c + d) (by omega)
          unfold fu at this
          rw [if_pos (by omega), Nat.zero_add] at this
          omega
        omega
    · rintro ⟨h1, h2⟩ d hd
      have h3 := h1 d hd
      unfold fu
      by_cases q : c ≤ 0 + d ∧ 0 + d < c + w
      · rw [if_pos q]
        have := mxF_ge (f := f) (c := c) (d := d - c) (k := w) (by omega)
        rw [show c + (d - c) = 0 + d by omega] at this
        omega
      · rw [if_neg q]; exact h3
  refine Nat.le_antisymm (mxF_iff.mpr ((e _).mpr ⟨Nat.le_max_left _ _, Nat.le_max_right _ _⟩)) (Nat.max_le.mpr ((e _).mp (mxF_iff.mp (Nat.le_refl _))))
theorem fd_fu {c w : Nat} : fd (fu f c w) c w = f := funext fun d => by
  unfold fd fu; split <;> omega
theorem fu_fd {c w : Nat} (h : ∀ d, c ≤ d → d < c + w → 1 ≤ f d) : fu (fd f c w) c w = f := funext fun d => by
  simp only [fu, fd]
  by_cases q : c ≤ d ∧ d < c + w
  · rw [if_pos q, if_pos q]; have := h d q.1 q.2; omega
  · rw [if_neg q, if_neg q]
/-- of the class only the plans' loads are others -/
def lk (μ μ' : gMem) : Prop := μ'.2 = μ.2 ∧ ∀ c i, c ≠ 179 → μ'.1 c i = μ.1 c i
theorem lk.rf : lk μ μ := ⟨rfl, fun _ _ _ => rfl⟩
theorem lk.tr {v w : gMem} (h : lk μ v) (h2 : lk v w) : lk μ w := ⟨h2.1.trans h.1, fun c i hc => (h2.2 c i hc).trans (h.2 c i hc)⟩
theorem lk.w {i : Nat} {x : Int32} : lk μ (gwI μ 179 i x) := ⟨rfl, fun c k hc => by rw [gI_r, if_neg (fun z => hc z.1)]⟩
theorem lk.pq (h : lk μ μ') : pq μ μ' := ⟨h.1, fun c i hc => h.2 c i (by omega)⟩
theorem c_addL {c w : Nat} {δ : Int32} (hl : LD μ f) (hc : c + w ≤ 32) (hg : ∀ d, nI (g d) = if c ≤ d ∧ d < c + w then nI (f d) + δ else nI (f d)) : ∃ μ', mX5_addLoad [.ref 178, .int (nI c), .int (nI w), .int δ] μ = some (none, μ') ∧ lk μ μ' ∧ LD μ' g := by
  have key : ∀ m x, x + m = w → ∀ μ1, lk μ μ1 → (∀ d, d < 32 → μ1.1 179 d = if c ≤ d ∧ d < c + x then nI (f d) + δ else nI (f d)) → ∃ μ', rX5_addLoad_3 (nI c) (nI w) δ (nI (c + x)) μ1 = some (none, μ') ∧ lk μ μ' ∧ LD μ' g := by
    intro m
    induction m with
    | zero =>
      intro x hx μ1 h1 h2
      obtain rfl : x = w := by omega
      refine ⟨μ1, by rw [eX5_addLoad_3, nad, if_pos (nI_le (Nat.le_refl _) (by omega))], h1, fun d hd => ?_⟩
      rw [h2 d hd, hg d]
    | succ m ih =>
      intro x hx μ1 h1 h2
      rw [eX5_addLoad_3, nad, if_neg (nI_ge (by omega) (by omega)), if_neg (show ¬ (32 : Int32) ≤ nI (c + x) from nI_ge (a := c + x) (b := 32) (by omega) (by omega)), if_neg (nneg (by omega)), gin (show c + x < 32 by omega) (by omega), if_pos rfl, if_pos rfl, tn (by omega), nI_1]
      refine ih (x + 1) (by omega) _ (h1.tr lk.w) (fun d hd => ?_)
      rw [gI_r]
      by_cases q : d = c + x
      · rw [if_pos ⟨rfl, q⟩, h2 _ (by omega), if_neg (by omega), if_pos (by omega), q]
      · rw [if_neg (fun z => q z.2), h2 d hd]
        by_cases q2 : c ≤ d ∧ d < c + x
        · rw [if_pos q2, if_pos (by omega)]
        · rw [if_neg q2, if_neg (by omega)]
  rw [eX5_addLoad]
  exact key w 0 (by omega) μ lk.rf (fun d hd => by rw [if_neg (by omega)]; exact hl d hd)
theorem c_up {c w : Nat} (hl : LD μ f) (hc : c + w ≤ 32) : ∃ μ', mX5_addLoad [.ref 178, .int (nI c), .int (nI w), .int 1] μ = some (none, μ') ∧ lk μ μ' ∧ LD μ' (fu f c w) := c_addL hl hc fun d => by
  unfold fu; split
  · rw [nI_1]
  · rfl
theorem nI_dn {x : Nat} (h : 1 ≤ x) : nI x + (-1) = nI (x - 1) := by
  have := nI_1 (x - 1)
  rw [show x - 1 + 1 = x by omega] at this
  rw [← this]; grind
theorem c_dn {c w : Nat} (hl : LD μ f) (hc : c + w ≤ 32) (h1 : ∀ d, c ≤ d → d < c + w → 1 ≤ f d) : ∃ μ', mX5_addLoad [.ref 178, .int (nI c), .int (nI w), .int (-1)] μ = some (none, μ') ∧ lk μ μ' ∧ LD μ' (fd f c w) := c_addL hl hc fun d => by
  unfold fd
  by_cases q : c ≤ d ∧ d < c + w
  · rw [if_pos q, if_pos q, nI_dn (h1 d q.1 q.2)]
  · rw [if_neg q, if_neg q]
theorem m_addL {c w : Nat} {δ : Int32} (hl : LU u p f) (hp : p ≤ 32) (hc : c + w ≤ p) (hg : ∀ d, nI (g d) = if c ≤ d ∧ d < c + w then nI (f d) + δ else nI (f d)) : ∃ u', mX10_loadsBy [.ref 0, .int (nI c), .int (nI w), .int δ] u = some (none, u') ∧ lo u u' ∧ LU u' p g := by
  have key : ∀ m x, x + m = w → ∀ μ1, lo u μ1 → (∀ d, d < p → μ1.1 10 d = if c ≤ d ∧ d < c + x then nI (f d) + δ else nI (f d)) → ∃ μ', rX10_loadsBy_3 (nI c) (nI w) δ (nI (c + x)) μ1 = some (none, μ') ∧ lo u μ' ∧ LU μ' p g := by
    intro m
    induction m with
    | zero =>
      intro x hx μ1 h1 h2
      obtain rfl : x = w := by omega
      refine ⟨μ1, by rw [eX10_loadsBy_3, nad, if_pos (nI_le (Nat.le_refl _) (by omega))], h1, fun d hd => ?_⟩
      rw [h2 d hd, hg d]
    | succ m ih =>
      intro x hx μ1 h1 h2
      rw [eX10_loadsBy_3, nad, if_neg (nI_ge (by omega) (by omega)), gin (show c + x < 32 by omega) (by omega), if_pos rfl, if_pos rfl, tn (by omega), nI_1]
      refine ih (x + 1) (by omega) _ (h1.tr lo.w) (fun d hd => ?_)
      rw [gI_r]
      by_cases q : d = c + x
      · rw [if_pos ⟨rfl, q⟩, h2 _ (by omega), if_neg (by omega), if_pos (by omega), q]
      · rw [if_neg (fun z => q z.2), h2 d hd]
        by_cases q2 : c ≤ d ∧ d < c + x
        · rw [if_pos q2, if_pos (by omega)]
        · rw [if_neg q2, if_neg (by omega)]
  rw [eX10_loadsBy]
  exact key w 0 (by omega) u lo.rf (fun d hd => by rw [if_neg (by omega)]; exact hl d hd)
theorem m_up {c w : Nat} (hl : LU u p f) (hp : p ≤ 32) (hc : c + w ≤ p) : ∃ u', mX10_loadsBy [.ref 0, .int (nI c), .int (nI w), .int 1] u = some (none, u') ∧ lo u u' ∧ LU u' p (fu f c w) := m_addL hl hp hc fun d => by
  unfold fu; split
  · rw [nI_1]
  · rfl
theorem m_dn {c w : Nat} (hl : LU u p f) (hp : p ≤ 32) (hc : c + w ≤ p) (h1 : ∀ d, c ≤ d → d < c + w → 1 ≤ f d) : ∃ u', mX10_loadsBy [.ref 0, .int (nI c), .int (nI w), .int (-1)] u = some (none, u') ∧ lo u u' ∧ LU u' p (fd f c w) := m_addL hl hp hc fun d => by
  unfold fd
  by_cases q : c ≤ d ∧ d < c + w
  · rw [if_pos q, if_pos q, nI_dn (h1 d q.1 q.2)]
  · rw [if_neg q, if_neg q]
theorem c_great {c w : Nat} (hl : LD μ f) (hc : c + w ≤ 32) (hf : ∀ d, d < 32 → f d < 2147483648) : mX5_greatestLoad [.ref 178, .int (nI c), .int (nI w)] μ = some (some (.int (nI (mxF f c w))), μ) := by
  have key : ∀ m x, x + m = w → rX5_greatestLoad_5 (nI c) (nI w) (nI (mxF f c x)) (nI (c + x)) μ = some (some (.int (nI (mxF f c w))), μ) := by
    intro m
    induction m with
    | zero =>
      intro x hx
      obtain rfl : x = w := by omega
      rw [eX5_greatestLoad_5, nad, if_pos (nI_le (Nat.le_refl _) (by omega))]
    | succ m ih =>
      intro x hx
      have h1 := hf (c + x) (by omega)
      have h2 : mxF f c x ≤ 2147483647 := mxF_iff.mpr fun d hd => by have := hf (c + d) (by omega); omega
      rw [eX5_greatestLoad_5, nad, if_neg (nI_ge (by omega) (by omega)), if_neg (show ¬ (32 : Int32) ≤ nI (c + x) from nI_ge (a := c + x) (b := 32) (by omega) (by omega)), if_neg (nneg (by omega)), gin (show c + x < 32 by omega) (by omega), if_pos rfl, tn (by omega), hl _ (by omega), eJ9_max_7cf53, nI_1]
      have ih' := ih (x + 1) (by omega)
      have e : mxF f c (x + 1) = if f (c + x) ≤ mxF f c x then mxF f c x else f (c + x) := rfl
      by_cases q : f (c + x) ≤ mxF f c x
      · rw [if_neg (nI_nlt q (by omega)), g_ci_some]
        rw [e, if_pos q] at ih'
        exact ih'
      · rw [if_pos (nI_lt (by omega) (by omega)), g_ci_some]
        rw [e, if_neg q] at ih'
        exact ih'
  rw [eX5_greatestLoad]
  exact key w 0 (by omega)
theorem c_loadsC (h : BW μ u n a r p t Q B) : ∃ μ', mX7_loadsIntoC [.ref 29, .ref 179] μ = some (none, μ') ∧ lk μ μ' ∧ LD μ' (ld μ n) := by
  have key : ∀ k c, c + k = 32 → ∀ b1, lk μ b1 → (∀ d, d < c → b1.1 179 d = nI (ld μ n d)) → ∃ b', rX7_loadsIntoC_2 (nI c) b1 = some (none, b') ∧ lk μ b' ∧ LD b' (ld μ n) := by
    intro k
    induction k with
    | zero =>
      intro c hc b1 h1 h2
      rw [show c = 32 by omega] at *
      exact ⟨b1, by rw [eX7_loadsIntoC_2, if_pos (by decide)], h1, h2⟩
    | succ k ih =>
      intro c hc b1 h1 h2
      have hw := h.bs h1.pq.bs
      rw [eX7_loadsIntoC_2, if_neg (show ¬ (32 : Int32) ≤ nI c from nI_ge (a := c) (b := 32) (by omega) (by omega)), lfq rfl rfl (c_loadOf hw.A hw.P hw.S (by omega)) rfl, g_ci_some, gin (show c < 32 by omega) (by omega), if_pos rfl, tn (by omega), nI_1]
      refine ih (c + 1) (by omega) _ (h1.tr lk.w) (fun d hd => ?_)
      rw [gI_r]
      by_cases q : d = c
      · rw [if_pos ⟨rfl, q⟩, h1.pq.bs.xld, q]
      · rw [if_neg (fun z => q z.2)]
        exact h2 d (by omega)
  rw [eX7_loadsIntoC]
  exact key 32 0 (by omega) μ lk.rf (fun d hd => by omega)
theorem c_isUp {c w : Nat} (hc : c < 32) (hw : w ≤ 32) : mX5_isUp [.ref 178, .int (nI c), .int (nI w)] μ = some (some (.int (if μ.1 0 13 &&& BK c w = 0 then 1 else 0)), μ) := by
  rw [eX5_isUp, cbits hc hw, g_ci_some, show BK c w &&& μ.1 0 13 = μ.1 0 13 &&& BK c w from b_ext (fun i _ => by rw [b_and, b_and, Bool.and_comm])]
  split <;> rfl
/-- a placed job's block, and its load -/
theorem pl_w {j : Nat} (h : BW b u n a r p t Q B) (hj : j < n) (h2 : b.1 9 j = 2) : ∃ m, isW p (jn b 14 j) m ∧ b.1 14 j = nI (jn b 14 j) ∧ b.1 13 j = nI (jn b 13 j) ∧ jn b 13 j % jn b 14 j = 0 ∧ jn b 13 j + jn b 14 j ≤ p ∧ b.1 0 13 &&& BK (jn b 13 j) (jn b 14 j) = 0 ∧ ∀ d, jn b 13 j ≤ d → d < jn b 13 j + jn b 14 j → 1 ≤ ld b n d := by
  have hp := h.A.p32
  have y := ip_yes (h.P.1 j hj) h2
  have J := h.J j hj
  obtain ⟨m, hm⟩ := wd_isW h.A.2.2.2.2.2.2 J.1.2.2
  rw [← jw J] at hm
  refine ⟨m, hm, jw_n J, y.2.1, y.2.2.1, y.2.2.2.1, y.2.2.2.2, fun d h1 h3 => ?_⟩
  have hle := hm.le
  refine cB_ge (Y := [j]) (by simp) (fun z hz => ?_)
  rw [List.mem_singleton] at hz
  subst hz
  refine ⟨hj, ?_⟩
  rw [decide_eq_true h2, Bool.true_and]
  unfold bl
  rw [b_BK (by omega) hle.2 (by omega)]
  exact decide_eq_true ⟨h1, h3⟩
end BEST
