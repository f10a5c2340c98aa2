/-! two slots become one -/
section UNITE
variable {b u b' u' : gMem} {n a r p t B : Nat} {Q : List Nat}
theorem orF_or {f g : Nat → Int32} : ∀ k, orF f k ||| orF g k = orF (fun i => f i ||| g i) k
  | 0 => b_ext (fun d _ => by rw [b_or]; simp [orF])
  | k + 1 => by
    have := orF_or (f := f) (g := g) k
    rw [orF_succ, orF_succ, orF_succ, ← this]
    exact b_ext (fun d _ => by
      rw [b_or, b_or, b_or, b_or, b_or, b_or]
      cases bt (orF f k) d <;> cases bt (orF g k) d <;> cases bt (f k) d <;> cases bt (g k) d <;> rfl)
def mnP (x y : Int64) : Int64 := if 0 < lg_cmp x y then y else x
theorem mnP_r {x y : Int64} : (if 0 ≤ lg_cmp y x then x else y) = mnP x y := by
  unfold mnP
  by_cases q : 0 < lg_cmp x y
  · rw [if_pos q, if_neg (fun z => by rw [lg_cmp_gt] at q; rw [lg_cmp_ge] at z; grind)]
  · rw [if_neg q, if_pos (by rw [lg_cmp_gt] at q; rw [lg_cmp_ge]; grind)]
/-- what uniting does to a board's slots -/
def unB (μ b' : gMem) (n r x y : Nat) : Prop := (∀ c i, c ∉ [12, 29, 31, 32] → b'.1 c i = μ.1 c i) ∧ b'.1 29 3 = nI (r - 1) ∧ (∀ z, z < r - 1 → b'.1 32 z = if z = x then μ.1 32 x ||| μ.1 32 y else μ.1 32 (up y z)) ∧ (∀ z, z < r - 1 → b'.1 31 z = if z = x then μ.1 31 x + μ.1 31 y else μ.1 31 (up y z)) ∧ (∀ z, z < r - 1 → b'.2 30 z = if z = x then mnP (μ.2 30 x) (μ.2 30 y) else μ.2 30 (up y z)) ∧ (∀ j, j < n → b'.1 12 j = if ¬ (if μ.1 12 j = nI y then nI x else μ.1 12 j) ≤ nI y then (if μ.1 12 j = nI y then nI x else μ.1 12 j) - 1 else (if μ.1 12 j = nI y then nI x else μ.1 12 j))
theorem c_unite0 {x y : Nat} {μ : gMem} (hr : μ.1 29 3 = nI r) (hr8 : r ≤ 8) (hxy : x < y) (hy : y < r) (hn : μ.1 3 2 = nI n) (hn2 : n ≤ 60) : ∃ b', g_cv (mX7_unite [.ref 29, .int (nI x), .int (nI y)] μ) (fun u2 => rX2_unite_39 (nI x) (nI y) 0 u2) = some (none, b') ∧ unB μ b' n r x y := by
  have key : ∀ k j, j + k = n → ∀ ν : gMem, ν.1 3 2 = nI n → ∃ ν' : gMem, rX2_unite_39 (nI x) (nI y) (nI j) ν = g_cv (mX2_dropSlot [.ref 0, .int (nI y)] ν') (fun u1 => some (none, u1)) ∧ ν'.2 = ν.2 ∧ (∀ c i, c ≠ 12 → ν'.1 c i = ν.1 c i) ∧ (∀ i, ν'.1 12 i = if j ≤ i ∧ i < n ∧ ν.1 12 i = nI y then nI x else ν.1 12 i) := by
    intro k
    induction k with
    | zero =>
      intro j hj ν hν
      refine ⟨ν, ?_, rfl, fun _ _ _ => rfl, fun i => by rw [if_neg (by omega)]⟩
      rw [eX2_unite_39, hν, if_pos (nI_le (by omega) (by omega))]
    | succ k ih =>
      intro j hj ν hν
      rw [eX2_unite_39, hν, if_neg (nI_ge (by omega) (by omega)), gin (show j < 60 by omega) (by omega), if_pos rfl, tn (show j < 2147483648 by omega), nI_1, if_pos rfl]
      by_cases q : ν.1 12 j = nI y
      · rw [if_pos q]
        obtain ⟨ν', g1, g2, g3, g4⟩ := ih (j + 1) (by omega) (gwI ν 12 j (nI x)) (by rw [gI_r, if_neg (by omega)]; exact hν)
        refine ⟨ν', g1, g2, fun c i hc => (g3 c i hc).trans (by rw [gI_r, if_neg (fun z => hc z.1)]), fun i => ?_⟩
        by_cases z : i = j
        · rw [g4, if_neg (by omega), gI_r, if_pos ⟨rfl, z⟩, if_pos ⟨by omega, by omega, by rw [z]; exact q⟩]
        · have e : (gwI ν 12 j (nI x)).1 12 i = ν.1 12 i := by rw [gI_r, if_neg (fun w => z w.2)]
          rw [g4, e]
          by_cases w : j + 1 ≤ i ∧ i < n ∧ ν.1 12 i = nI y
          · rw [if_pos w, if_pos ⟨by omega, w.2⟩]
          · rw [if_neg w, if_neg (fun v => w ⟨by omega, v.2⟩)]
      · rw [if_neg q]
        obtain ⟨ν', g1, g2, g3, g4⟩ := ih (j + 1) (by omega) ν hν
        refine ⟨ν', g1, g2, g3, fun i => ?_⟩
        rw [g4]
        by_cases w : j + 1 ≤ i ∧ i < n ∧ ν.1 12 i = nI y
        · rw [if_pos w, if_pos ⟨by omega, w.2⟩]
        · rw [if_neg w, if_neg (fun v => w ⟨by
            rcases (show i = j ∨ j + 1 ≤ i by omega) with z | z
            · rw [z] at v; exact absurd v.2.2 q
            · exact z, v.2⟩)]
  obtain ⟨ν, k1, k2, k3, k4⟩ := key n 0 (by omega) (gwI (gwL (gwI μ 32 x (μ.1 32 x ||| μ.1 32 y)) 30 x (mnP (μ.2 30 x) (μ.2 30 y))) 31 x (μ.1 31 x + μ.1 31 y)) hn
  obtain ⟨b', d1, d2, d3, d4, d5, d6⟩ := c_dropS (b := ν) (s := y) ((k3 29 3 (by omega)).trans hr) hr8 hy ((k3 3 2 (by omega)).trans hn) hn2
  have hupx : ∀ z, z < r - 1 → (up y z = x ↔ z = x) := fun z hz => by unfold up; split <;> omega
  refine ⟨b', ?_, fun c i hc => ?_, d3, fun z hz => ?_, fun z hz => ?_, fun z hz => ?_, fun j hj => ?_⟩
  · have em : mX7_unite [.ref 29, .int (nI x), .int (nI y)] μ = some (none, gwI (gwL (gwI μ 32 x (μ.1 32 x ||| μ.1 32 y)) 30 x (mnP (μ.2 30 x) (μ.2 30 y))) 31 x (μ.1 31 x + μ.1 31 y)) := by
      rw [eX7_unite, gin (show x < 8 by omega) (by omega), gin (show y < 8 by omega) (by omega), if_pos rfl, if_pos rfl, if_pos rfl, if_pos rfl, if_pos rfl, tn (show x < 2147483648 by omega), tn (show y < 2147483648 by omega), gI_l, eJ9_min_f86c9]
      have e : (if 0 < lg_cmp (μ.2 30 x) (μ.2 30 y) then some (some (Value.long (μ.2 30 y)), gwI μ 32 x (μ.1 32 x ||| μ.1 32 y)) else some (some (.long (μ.2 30 x)), gwI μ 32 x (μ.1 32 x ||| μ.1 32 y))) = some (some (.long (mnP (μ.2 30 x) (μ.2 30 y))), gwI μ 32 x (μ.1 32 x ||| μ.1 32 y)) := by
        unfold mnP; split <;> rfl
      rw [e]
      show (if true = true then _ else none) = _
      rw [if_pos rfl, if_pos rfl, if_pos rfl, if_pos rfl]
      rfl
    rw [em, g_cv_some, show rX2_unite_39 (nI x) (nI y) 0 _ = _ from k1, d1, g_cv_some]
  · simp only [List.mem_cons, not_or, List.not_mem_nil] at hc
    rw [d2 c i (by simp; omega), k3 c i (by omega), gI_r, if_neg (by omega), gL_i, gI_r, if_neg (by omega)]
  · rw [d4 32 z (by omega) hz, k3 32 _ (by omega), gI_r, if_neg (by omega), gL_i, gI_r]
    by_cases w : z = x
    · rw [if_pos ⟨rfl, (hupx z hz).mpr w⟩, if_pos w]
    · rw [if_neg (fun v => w ((hupx z hz).mp v.2)), if_neg w]
  · rw [d4 31 z (by omega) hz, k3 31 _ (by omega), gI_r]
    by_cases w : z = x
    · rw [if_pos ⟨rfl, (hupx z hz).mpr w⟩, if_pos w]
    · rw [if_neg (fun v => w ((hupx z hz).mp v.2)), if_neg w, gL_i, gI_r, if_neg (by omega)]
  · rw [d5 z hz, k2, gI_l, gL_r]
    by_cases w : z = x
    · rw [if_pos ⟨rfl, (hupx z hz).mpr w⟩, if_pos w]
    · rw [if_neg (fun v => w ((hupx z hz).mp v.2)), if_neg w, gI_l]
  · have e : ν.1 12 j = if μ.1 12 j = nI y then nI x else μ.1 12 j := by
      rw [k4]
      have e2 : (gwI (gwL (gwI μ 32 x (μ.1 32 x ||| μ.1 32 y)) 30 x (mnP (μ.2 30 x) (μ.2 30 y))) 31 x (μ.1 31 x + μ.1 31 y)).1 12 j = μ.1 12 j := rfl
      rw [e2]
      by_cases w : μ.1 12 j = nI y
      · rw [if_pos ⟨by omega, hj, w⟩, if_pos w]
      · rw [if_neg (fun v => w v.2.2), if_neg w]
    rw [d6, e]
    by_cases w : ¬ (if μ.1 12 j = nI y then nI x else μ.1 12 j) ≤ nI y
    · rw [if_pos ⟨hj, w⟩, if_pos w]
    · rw [if_neg (fun v => w v.2), if_neg w]
def unU (u u' : gMem) (n r x y : Nat) : Prop := (∀ c i, c ≠ 1 → u'.1 c i = u.1 c i) ∧ (∀ i, (i < 42 ∨ 1242 ≤ i) → (i < 1482 ∨ 1490 ≤ i) → i ≠ 13 → u'.1 1 i = u.1 1 i) ∧ u'.1 1 13 = nI (r - 1) ∧ (∀ z, z < r - 1 → mT u' z = if z = x then mT u x + mT u y else mT u (up y z)) ∧ (∀ z, z < r - 1 → u'.2 3 z = if z = x then mnP (u.2 3 x) (u.2 3 y) else u.2 3 (up y z)) ∧ (∀ c i, c ≠ 3 → u'.2 c i = u.2 c i) ∧ (∀ j w, j < 60 → w < 20 → w ≠ 7 → mA u' j w = mA u j w) ∧ (∀ j, j < n → mA u' j 7 = if mA u j 4 = 2 ∧ ¬ (if mA u j 4 = 2 ∧ mA u j 7 - 1 = nI y then nI x else mA u j 7 - 1) ≤ nI y then (if mA u j 4 = 2 ∧ mA u j 7 - 1 = nI y then nI x else mA u j 7 - 1) else (if mA u j 4 = 2 ∧ mA u j 7 - 1 = nI y then nI x + 1 else mA u j 7))
theorem m_unite0 {x y : Nat} (hr : u.1 1 13 = nI r) (hr8 : r ≤ 8) (hxy : x < y) (hy : y < r) (hn : u.1 1 11 = nI n) (hn2 : n ≤ 60) : ∃ u', unU u u' n r x y ∧ rX10_unifiesOne_49 (nI x) (nI y) 0 u = g_cv (mX10_writes [.ref 0, .int 7, .int (-1), .int (nI x), .int (nI y)] u') (fun u2 => (g_cv (mX10_more [.ref 0, .int 25, .int 1] u2) (fun u3 => some (some (.int 1), u3)))) := by
  have key : ∀ k j, j + k = n → ∀ ν : gMem, ν.1 1 11 = nI n → ∃ ν' : gMem, rX10_unifiesOne_49 (nI x) (nI y) (nI j) ν = rX10_unifiesOne_49 (nI x) (nI y) (nI n) ν' ∧ ν'.2 = ν.2 ∧ (∀ c i, c ≠ 1 → ν'.1 c i = ν.1 c i) ∧ (∀ i, (i < 42 ∨ 1242 ≤ i) → ν'.1 1 i = ν.1 1 i) ∧ (∀ i w, i < 60 → w < 20 → mA ν' i w = if w = 7 ∧ j ≤ i ∧ i < n ∧ mA ν i 4 = 2 ∧ mA ν i 7 - 1 = nI y then nI x + 1 else mA ν i w) := by
    intro k
    induction k with
    | zero =>
      intro j hj ν hν
      rw [show j = n by omega]
      exact ⟨ν, rfl, rfl, fun _ _ _ => rfl, fun _ _ => rfl, fun i w _ _ => by rw [if_neg (by omega)]⟩
    | succ k ih =>
      intro j hj ν hν
      rw [eX10_unifiesOne_49, hν, if_neg (nI_ge (by omega) (by omega)), eX10_isAt, m_isPl (by omega), g_ci_some, nI_1]
      have skip : ¬ (mA ν j 4 = 2 ∧ mA ν j 7 - 1 = nI y) → ∃ ν' : gMem, rX10_unifiesOne_49 (nI x) (nI y) (nI (j + 1)) ν = rX10_unifiesOne_49 (nI x) (nI y) (nI n) ν' ∧ ν'.2 = ν.2 ∧ (∀ c i, c ≠ 1 → ν'.1 c i = ν.1 c i) ∧ (∀ i, (i < 42 ∨ 1242 ≤ i) → ν'.1 1 i = ν.1 1 i) ∧ (∀ i w, i < 60 → w < 20 → mA ν' i w = if w = 7 ∧ j ≤ i ∧ i < n ∧ mA ν i 4 = 2 ∧ mA ν i 7 - 1 = nI y then nI x + 1 else mA ν i w) := fun q => by
        obtain ⟨ν', g1, g2, g3, g4, g5⟩ := ih (j + 1) (by omega) ν hν
        refine ⟨ν', g1, g2, g3, g4, fun i w hi hw => ?_⟩
        rw [g5 i w hi hw]
        by_cases v : w = 7 ∧ j + 1 ≤ i ∧ i < n ∧ mA ν i 4 = 2 ∧ mA ν i 7 - 1 = nI y
        · rw [if_pos v, if_pos ⟨v.1, by omega, v.2.2⟩]
        · rw [if_neg v, if_neg (fun s => v ⟨s.1, by
            rcases (show i = j ∨ j + 1 ≤ i by omega) with z | z
            · rw [z] at s; exact absurd s.2.2.2 q
            · exact z, s.2.2⟩)]
      by_cases q : mA ν j 4 = 2
      · rw [if_pos q, if_neg (by decide), m_slO (by omega), g_ci_some]
        by_cases q2 : mA ν j 7 - 1 = nI y
        · rw [if_pos q2, g_ci_some, if_neg (by decide), lay_7 (by omega), g_cv_some]
          obtain ⟨ν', g1, g2, g3, g4, g5⟩ := ih (j + 1) (by omega) (wA ν j 7 (nI x + 1)) (by rw [wA_h (by omega)]; exact hν)
          refine ⟨ν', g1, g2, fun c i hc => (g3 c i hc).trans (wA_c hc), fun i hi => (g4 i hi).trans (by unfold wA; rw [gI_r, if_neg (by omega)]), fun i w hi hw => ?_⟩
          by_cases z : i = j
          · subst z
            rw [g5 i w hi hw, if_neg (by omega), mA_wA hi hw (by omega) (by omega)]
            by_cases v : w = 7
            · rw [if_pos ⟨rfl, v⟩, if_pos ⟨v, by omega, by omega, q, q2⟩]
            · rw [if_neg (fun s => v s.2), if_neg (fun s => v s.1)]
          · have e : ∀ w, w < 20 → mA (wA ν j 7 (nI x + 1)) i w = mA ν i w := fun w hw => by rw [mA_wA hi hw (by omega) (by omega), if_neg (fun s => z s.1)]
            rw [g5 i w hi hw, e 4 (by omega), e 7 (by omega), e w hw]
            by_cases v : w = 7 ∧ j + 1 ≤ i ∧ i < n ∧ mA ν i 4 = 2 ∧ mA ν i 7 - 1 = nI y
            · rw [if_pos v, if_pos ⟨v.1, by omega, v.2.2⟩]
            · rw [if_neg v, if_neg (fun s => v ⟨s.1, by omega, s.2.2⟩)]
        · rw [if_neg q2, g_ci_some, if_pos rfl]; exact skip (fun z => q2 z.2)
      · rw [if_neg q, if_pos rfl, g_ci_some, if_pos rfl]; exact skip (fun z => q z.1)
  obtain ⟨ν, k1, k2, k3, k4, k5⟩ := key n 0 (by omega) u hn
  have hT : ∀ z, z < 8 → mT ν z = mT u z := fun z hz => k4 _ (by omega)
  obtain ⟨u', d1, d2, d3, d4, d5, d6, d7⟩ := m_dropS (u := wT (gwL ν 3 x (mnP (u.2 3 x) (u.2 3 y))) x (mT u x + mT u y)) (s := y) (n := n) (r := r) (by unfold wT; rw [gI_r, if_neg (by omega), gL_i, k4 13 (by omega)]; exact hr) hr8 hy (by unfold wT; rw [gI_r, if_neg (by omega), gL_i, k4 11 (by omega)]; exact hn) hn2
  have hupx : ∀ z, z < r - 1 → (up y z = x ↔ z = x) := fun z hz => by unfold up; split <;> omega
  have hupl : ∀ z, z < r - 1 → up y z < r := fun z hz => by unfold up; split <;> omega
  have hA : ∀ i w, i < 60 → w < 20 → mA (wT (gwL ν 3 x (mnP (u.2 3 x) (u.2 3 y))) x (mT u x + mT u y)) i w = mA ν i w := fun i w hi hw => by rw [mA_wT hi hw (by omega), mA_L]
  refine ⟨u', ⟨fun c i hc => ?_, fun i h1 h2 h3 => ?_, d4, fun z hz => ?_, fun z hz => ?_, fun c i hc => ?_, fun j w hj hw h7 => ?_, fun j hj => ?_⟩, ?_⟩
  · rw [d2 c i hc, wT_c hc, gL_i]; exact k3 c i hc
  · rw [d3 i h1 h2 h3]; unfold wT; rw [gI_r, if_neg (by omega), gL_i]; exact k4 i h1
  · rw [(d5 z hz).1, mT_wT (by have := hupl z hz; omega) (by omega), mT_L, hT _ (by have := hupl z hz; omega)]
    by_cases w : z = x
    · rw [if_pos ((hupx z hz).mpr w), if_pos w]
    · rw [if_neg (fun v => w ((hupx z hz).mp v)), if_neg w]
  · rw [(d5 z hz).2, wT_l, gL_r, k2]
    by_cases w : z = x
    · rw [if_pos ⟨rfl, (hupx z hz).mpr w⟩, if_pos w]
    · rw [if_neg (fun v => w ((hupx z hz).mp v.2)), if_neg w]
  · rw [d6 c i hc, wT_l, gL_r, if_neg (fun z => hc z.1), k2]
  · rw [d7 j w hj hw, if_neg (fun z => h7 z.1), hA j w hj hw, k5 j w hj hw, if_neg (fun z => h7 z.1)]
  · have e4 : mA ν j 4 = mA u j 4 := by rw [k5 j 4 (by omega) (by omega), if_neg (by omega)]
    have e7 : mA ν j 7 = if mA u j 4 = 2 ∧ mA u j 7 - 1 = nI y then nI x + 1 else mA u j 7 := by
      rw [k5 j 7 (by omega) (by omega)]
      by_cases v : mA u j 4 = 2 ∧ mA u j 7 - 1 = nI y
      · rw [if_pos ⟨rfl, by omega, hj, v⟩, if_pos v]
      · rw [if_neg (fun s => v s.2.2.2), if_neg v]
    have e7' : mA ν j 7 - 1 = if mA u j 4 = 2 ∧ mA u j 7 - 1 = nI y then nI x else mA u j 7 - 1 := by
      rw [e7]; split
      · exact i_sn _
      · rfl
    rw [d7 j 7 (by omega) (by omega), hA j 4 (by omega) (by omega), hA j 7 (by omega) (by omega), e4, e7']
    by_cases v : mA u j 4 = 2 ∧ ¬ (if mA u j 4 = 2 ∧ mA u j 7 - 1 = nI y then nI x else mA u j 7 - 1) ≤ nI y
    · rw [if_pos ⟨rfl, hj, v⟩, if_pos v]
    · rw [if_neg (fun s => v s.2.2), if_neg v]; exact e7
  · rw [show rX10_unifiesOne_49 (nI x) (nI y) 0 u = _ from k1, eX10_unifiesOne_49, k4 11 (by omega), hn, if_pos (nI_le (Nat.le_refl _) (by omega)), gin (show y < 9 by omega) (by omega), gin (show x < 9 by omega) (by omega), if_pos rfl, if_pos rfl, if_pos rfl, if_pos rfl, tn (show x < 2147483648 by omega), tn (show y < 2147483648 by omega), show (1482 : Int32) + nI x = nI (1482 + x) from nad 1482 x, show (1482 : Int32) + nI y = nI (1482 + y) from nad 1482 y, gin (show 1482 + x < 2030 by omega) (by omega), gin (show 1482 + y < 2030 by omega) (by omega), if_pos rfl, if_pos rfl, if_pos rfl, tn (show 1482 + x < 2147483648 by omega), tn (show 1482 + y < 2147483648 by omega), gL_i, gL_i, k2]
    have ex : ν.1 1 (1482 + x) = mT u x := hT x (by omega)
    have ey : ν.1 1 (1482 + y) = mT u y := hT y (by omega)
    rw [ex, ey, if_pos rfl, if_pos rfl]
    have em := mnP_r (x := u.2 3 x) (y := u.2 3 y)
    by_cases q : 0 ≤ lg_cmp (u.2 3 y) (u.2 3 x)
    · rw [if_pos q] at em
      rw [if_pos q]
      rw [← em] at d1
      rw [show mX10_dropsSlot [.ref 0, .int (nI y)] (gwI (gwL ν 3 x (u.2 3 x)) 1 (1482 + x) (mT u x + mT u y)) = _ from d1, g_cv_some]
    · rw [if_neg q] at em
      rw [if_neg q]
      rw [← em] at d1
      rw [if_pos rfl, if_pos rfl, if_pos rfl, show mX10_dropsSlot [.ref 0, .int (nI y)] (gwI (gwL ν 3 x (u.2 3 y)) 1 (1482 + x) (mT u x + mT u y)) = _ from d1, g_cv_some]
end UNITE
