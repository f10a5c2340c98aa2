/-! a slot that goes -/
section DROP
variable {b u b' u' : gMem} {n a r p t B : Nat} {Q : List Nat}
theorem sub1 (x : Int32) : x + (-1) = x - 1 := by grind
theorem nI_s1 {k : Nat} (h : 1 ≤ k) : nI k - 1 = nI (k - 1) := nsb (a := k) (b := 1) h
def up (s x : Nat) : Nat := if x < s then x else x + 1
/-- a slot's rows moved up, to a place -/
def shB (b μ : gMem) (s e : Nat) : Prop := (∀ x, μ.2 30 x = if s ≤ x ∧ x < e then b.2 30 (x + 1) else b.2 30 x) ∧ (∀ c x, c = 31 ∨ c = 32 → μ.1 c x = if s ≤ x ∧ x < e then b.1 c (x + 1) else b.1 c x) ∧ (∀ c x, c ≠ 31 → c ≠ 32 → μ.1 c x = b.1 c x) ∧ ∀ c x, c ≠ 30 → μ.2 c x = b.2 c x
def drB (b b' : gMem) (n r s : Nat) : Prop := (∀ c i, c ∉ [12, 29, 31, 32] → b'.1 c i = b.1 c i) ∧ b'.1 29 3 = nI (r - 1) ∧ (∀ c x, (c = 31 ∨ c = 32) → x < r - 1 → b'.1 c x = b.1 c (up s x)) ∧ (∀ x, x < r - 1 → b'.2 30 x = b.2 30 (up s x)) ∧ (∀ j, b'.1 12 j = if j < n ∧ ¬ b.1 12 j ≤ nI s then b.1 12 j - 1 else b.1 12 j)
theorem c_drop {s : Nat} (hr : b.1 29 3 = nI r) (hr8 : r ≤ 8) : ∀ k v, v + k = r → s + 1 ≤ v → ∀ μ, shB b μ s (v - 1) → ∃ μ', rX7_drop_4 (nI v) μ = some (none, gwI μ' 29 3 (nI (r - 1))) ∧ shB b μ' s (r - 1) := by
  intro k
  induction k with
  | zero =>
    intro v hv hs μ h
    have : v = r := by omega
    subst this
    refine ⟨μ, ?_, h⟩
    rw [eX7_drop_4, h.2.2.1 29 3 (by omega) (by omega), hr, if_pos (nI_le (Nat.le_refl _) (by omega)), nI_s1 (by omega)]
  | succ k ih =>
    intro v hv hs μ h
    have e1 : μ.1 29 3 = nI r := (h.2.2.1 29 3 (by omega) (by omega)).trans hr
    rw [eX7_drop_4, e1, if_neg (nI_ge (by omega) (by omega)), nI_s1 (by omega), gin (show v < 8 by omega) (by omega), gin (show v - 1 < 8 by omega) (by omega), if_pos rfl, if_pos rfl, if_pos rfl, if_pos rfl, if_pos rfl, if_pos rfl, tn (show v < 2147483648 by omega), tn (show v - 1 < 2147483648 by omega), nI_1]
    have a30 : μ.2 30 v = b.2 30 v := by rw [h.1, if_neg (by omega)]
    have a31 : (gwL μ 30 (v - 1) (μ.2 30 v)).1 31 v = b.1 31 v := by rw [gL_i, h.2.1 31 v (by omega), if_neg (by omega)]
    have a32 : (gwI (gwL μ 30 (v - 1) (μ.2 30 v)) 31 (v - 1) ((gwL μ 30 (v - 1) (μ.2 30 v)).1 31 v)).1 32 v = b.1 32 v := by
      rw [gI_r, if_neg (by omega), gL_i, h.2.1 32 v (by omega), if_neg (by omega)]
    rw [a32, a31, a30]
    refine ih (v + 1) (by omega) (by omega) _ ⟨fun x => ?_, fun c x hc => ?_, fun c x h1 h2 => ?_, fun c x hc => ?_⟩
    · rw [gI_l, gI_l, gL_r]
      by_cases q : x = v - 1
      · rw [if_pos ⟨rfl, q⟩, if_pos (by omega), q, show v - 1 + 1 = v by omega]
      · rw [if_neg (fun z => q z.2), h.1]
        by_cases z : s ≤ x ∧ x < v - 1
        · rw [if_pos z, if_pos (by omega)]
        · rw [if_neg z, if_neg (by omega)]
    · by_cases q : x = v - 1
      · rw [if_pos (by omega)]
        rcases hc with hc | hc <;> subst hc
        · rw [gI_r, if_neg (by omega), gI_r, if_pos ⟨rfl, q⟩, q, show v - 1 + 1 = v by omega]
        · rw [gI_r, if_pos ⟨rfl, q⟩, q, show v - 1 + 1 = v by omega]
      · rw [gI_r, if_neg (by omega), gI_r, if_neg (by omega), gL_i, h.2.1 c x hc]
        by_cases z : s ≤ x ∧ x < v - 1
        · rw [if_pos z, if_pos (by omega)]
        · rw [if_neg z, if_neg (by omega)]
    · rw [gI_r, if_neg (by omega), gI_r, if_neg (by omega), gL_i]; exact h.2.2.1 c x h1 h2
    · rw [gI_l, gI_l, gL_r, if_neg (by omega)]; exact h.2.2.2 c x hc
theorem c_dropS {s : Nat} (hr : b.1 29 3 = nI r) (hr8 : r ≤ 8) (hs : s < r) (hn : b.1 3 2 = nI n) (hn2 : n ≤ 60) : ∃ b', mX2_dropSlot [.ref 0, .int (nI s)] b = some (none, b') ∧ drB b b' n r s := by
  obtain ⟨μ, g1, g2⟩ := c_drop (s := s) hr hr8 (r - (s + 1)) (s + 1) (by omega) (Nat.le_refl _) b ⟨fun x => by rw [if_neg (by omega)], fun c x _ => by rw [if_neg (by omega)], fun _ _ _ _ => rfl, fun _ _ _ => rfl⟩
  have key : ∀ k j, j + k = n → ∀ ν : gMem, (∀ c i, c ≠ 12 → ν.1 c i = (gwI μ 29 3 (nI (r - 1))).1 c i) → ν.2 = μ.2 → (∀ i, ν.1 12 i = if i < j ∧ ¬ b.1 12 i ≤ nI s then b.1 12 i - 1 else b.1 12 i) → ∃ ν', rX2_dropSlot_21 (nI s) (nI j) ν = some (none, ν') ∧ (∀ c i, c ≠ 12 → ν'.1 c i = (gwI μ 29 3 (nI (r - 1))).1 c i) ∧ ν'.2 = μ.2 ∧ (∀ i, ν'.1 12 i = if i < n ∧ ¬ b.1 12 i ≤ nI s then b.1 12 i - 1 else b.1 12 i) := by
    intro k
    induction k with
    | zero =>
      intro j hj ν h1 h2 h3
      have : j = n := by omega
      subst this
      refine ⟨ν, ?_, h1, h2, h3⟩
      have e32 : ν.1 3 2 = nI j := (h1 3 2 (by omega)).trans ((g2.2.2.1 3 2 (by omega) (by omega)).trans hn)
      rw [eX2_dropSlot_21, e32, if_pos (nI_le (Nat.le_refl _) (by omega))]
    | succ k ih =>
      intro j hj ν h1 h2 h3
      have e12 : ν.1 12 j = b.1 12 j := by rw [h3, if_neg (by omega)]
      have e32 : ν.1 3 2 = nI n := (h1 3 2 (by omega)).trans ((g2.2.2.1 3 2 (by omega) (by omega)).trans hn)
      rw [eX2_dropSlot_21, e32, if_neg (nI_ge (by omega) (by omega)), gin (show j < 60 by omega) (by omega), if_pos rfl, tn (show j < 2147483648 by omega), e12, nI_1, if_pos rfl, if_pos rfl]
      by_cases q : b.1 12 j ≤ nI s
      · rw [if_pos q]
        refine ih (j + 1) (by omega) ν h1 h2 (fun i => ?_)
        rw [h3]
        by_cases z : i = j
        · subst z; rw [if_neg (by omega), if_neg (fun y => y.2 q)]
        · by_cases y : i < j ∧ ¬ b.1 12 i ≤ nI s
          · rw [if_pos y, if_pos ⟨by omega, y.2⟩]
          · rw [if_neg y, if_neg (fun w => y ⟨by omega, w.2⟩)]
      · rw [if_neg q]
        refine ih (j + 1) (by omega) _ (fun c i hc => by rw [gI_r, if_neg (fun z => hc z.1)]; exact h1 c i hc) h2 (fun i => ?_)
        rw [gI_r]
        by_cases z : i = j
        · subst z; rw [if_pos ⟨rfl, rfl⟩, if_pos ⟨by omega, q⟩]
        · rw [if_neg (fun y => z y.2), h3]
          by_cases y : i < j ∧ ¬ b.1 12 i ≤ nI s
          · rw [if_pos y, if_pos ⟨by omega, y.2⟩]
          · rw [if_neg y, if_neg (fun w => y ⟨by omega, w.2⟩)]
  obtain ⟨ν, k1, k2, k3, k4⟩ := key n 0 (by omega) (gwI μ 29 3 (nI (r - 1))) (fun _ _ _ => rfl) rfl (fun i => by rw [gI_r, if_neg (by omega), g2.2.2.1 12 i (by omega) (by omega), if_neg (by omega)])
  refine ⟨ν, ?_, fun c i hc => ?_, ?_, fun c x hc hx => ?_, fun x hx => ?_, k4⟩
  · rw [eX2_dropSlot, eX7_drop, nI_1, g1, g_cv_some]; exact k1
  · simp only [List.mem_cons, not_or, List.not_mem_nil] at hc
    rw [k2 c i (by omega), gI_r, if_neg (by omega), g2.2.2.1 c i (by omega) (by omega)]
  · rw [k2 29 3 (by omega), gI_r, if_pos ⟨rfl, rfl⟩]
  · rw [k2 c x (by omega), gI_r, if_neg (by omega), g2.2.1 c x hc]
    unfold up
    by_cases z : x < s
    · rw [if_neg (by omega), if_pos z]
    · rw [if_pos (by omega), if_neg z]
  · rw [k3, g2.1]
    unfold up
    by_cases z : x < s
    · rw [if_neg (by omega), if_pos z]
    · rw [if_pos (by omega), if_neg z]
theorem m_isPl {j : Nat} (hj : j < 60) : mX10_isPlaced [.ref 0, .int (nI j)] u = some (some (.int (if mA u j 4 = 2 then 1 else 0)), u) := by
  rw [eX10_isPlaced, at_4 hj, g_ci_some]; split <;> rfl
theorem m_slO {j : Nat} (hj : j < 60) : mX10_slotOf [.ref 0, .int (nI j)] u = some (some (.int (mA u j 7 - 1)), u) := by
  rw [eX10_slotOf, at_7 hj, g_ci_some]
theorem m_coO {j : Nat} (hj : j < 60) : mX10_columnOf [.ref 0, .int (nI j)] u = some (some (.int (mA u j 8 - 1)), u) := by
  rw [eX10_columnOf, at_8 hj, g_ci_some]
def shU (u μ : gMem) (s e : Nat) : Prop := (∀ x, μ.2 3 x = if s ≤ x ∧ x < e then u.2 3 (x + 1) else u.2 3 x) ∧ (∀ x, x < 8 → mT μ x = if s ≤ x ∧ x < e then mT u (x + 1) else mT u x) ∧ (∀ c x, c ≠ 1 → μ.1 c x = u.1 c x) ∧ (∀ i, (i < 1482 ∨ 1490 ≤ i) → μ.1 1 i = u.1 1 i) ∧ ∀ c x, c ≠ 3 → μ.2 c x = u.2 c x
def drU (u u' : gMem) (n r s : Nat) : Prop := (∀ c i, c ≠ 1 → u'.1 c i = u.1 c i) ∧ (∀ i, (i < 42 ∨ 1242 ≤ i) → (i < 1482 ∨ 1490 ≤ i) → i ≠ 13 → u'.1 1 i = u.1 1 i) ∧ u'.1 1 13 = nI (r - 1) ∧ (∀ x, x < r - 1 → mT u' x = mT u (up s x) ∧ u'.2 3 x = u.2 3 (up s x)) ∧ (∀ c i, c ≠ 3 → u'.2 c i = u.2 c i) ∧ (∀ j w, j < 60 → w < 20 → mA u' j w = if w = 7 ∧ j < n ∧ mA u j 4 = 2 ∧ ¬ (mA u j 7 - 1 ≤ nI s) then mA u j 7 - 1 else mA u j w)
theorem m_drop {s : Nat} (hr : u.1 1 13 = nI r) (hr8 : r ≤ 8) (h1r : 1 ≤ r) : ∀ k v, v + k = r - 1 → s ≤ v → ∀ μ, shU u μ s v → ∃ μ', rX10_dropsSlot_2 (nI s) (nI v) μ = rX10_dropsSlot_66 (nI s) 0 (wH μ' 13 (nI (r - 1))) ∧ shU u μ' s (r - 1) := by
  intro k
  induction k with
  | zero =>
    intro v hv hs μ h
    have hv2 : v = r - 1 := by omega
    subst hv2
    refine ⟨μ, ?_, h⟩
    have e1 : μ.1 1 13 = nI r := (h.2.2.2.1 13 (by omega)).trans hr
    rw [eX10_dropsSlot_2, e1, nI_s1 h1r, if_pos (nI_le (Nat.le_refl _) (by omega)), more_13, g_cv_some, e1, sub1, nI_s1 h1r]
  | succ k ih =>
    intro v hv hs μ h
    have e1 : μ.1 1 13 = nI r := (h.2.2.2.1 13 (by omega)).trans hr
    rw [eX10_dropsSlot_2, e1, nI_s1 h1r, if_neg (nI_ge (by omega) (by omega)), nI_1, show (1482 : Int32) = nI 1482 from rfl, nad, nI_1, gin (show v + 1 < 9 by omega) (by omega), gin (show v < 9 by omega) (by omega), gin (show 1482 + v + 1 < 2030 by omega) (by omega), gin (show 1482 + v < 2030 by omega) (by omega), if_pos rfl, if_pos rfl, if_pos rfl, if_pos rfl, tn (show v < 2147483648 by omega), tn (show v + 1 < 2147483648 by omega), tn (show 1482 + v < 2147483648 by omega), tn (show 1482 + v + 1 < 2147483648 by omega)]
    have a30 : μ.2 3 (v + 1) = u.2 3 (v + 1) := by rw [h.1, if_neg (by omega)]
    have a31 : (gwL μ 3 v (μ.2 3 (v + 1))).1 1 (1482 + v + 1) = mT u (v + 1) := by
      rw [gL_i]; have := h.2.1 (v + 1) (by omega); rw [if_neg (by omega)] at this; exact this
    rw [a31, a30]
    refine ih (v + 1) (by omega) (by omega) (wT (gwL μ 3 v (u.2 3 (v + 1))) v (mT u (v + 1))) ⟨fun x => ?_, fun x hx => ?_, fun c x hc => ?_, fun i hi => ?_, fun c x hc => ?_⟩
    · rw [wT_l, gL_r]
      by_cases q : x = v
      · rw [if_pos ⟨rfl, q⟩, if_pos (by omega), q]
      · rw [if_neg (fun z => q z.2), h.1]
        by_cases z : s ≤ x ∧ x < v
        · rw [if_pos z, if_pos (by omega)]
        · rw [if_neg z, if_neg (by omega)]
    · rw [mT_wT hx (by omega), mT_L]
      by_cases q : x = v
      · rw [if_pos q, if_pos (by omega), q]
      · rw [if_neg q, h.2.1 x hx]
        by_cases z : s ≤ x ∧ x < v
        · rw [if_pos z, if_pos (by omega)]
        · rw [if_neg z, if_neg (by omega)]
    · rw [wT_c hc, gL_i]; exact h.2.2.1 c x hc
    · unfold wT; rw [gI_r, if_neg (by omega), gL_i]; exact h.2.2.2.1 i hi
    · rw [wT_l, gL_r, if_neg (fun z => hc z.1)]; exact h.2.2.2.2 c x hc
theorem m_dropS {s : Nat} (hr : u.1 1 13 = nI r) (hr8 : r ≤ 8) (hs : s < r) (hn : u.1 1 11 = nI n) (hn2 : n ≤ 60) : ∃ u', mX10_dropsSlot [.ref 0, .int (nI s)] u = some (none, u') ∧ drU u u' n r s := by
  obtain ⟨μ, g1, g2⟩ := m_drop (s := s) hr hr8 (by omega) (r - 1 - s) s (by omega) (Nat.le_refl _) u ⟨fun x => by rw [if_neg (by omega)], fun x _ => by rw [if_neg (by omega)], fun _ _ _ => rfl, fun _ _ => rfl, fun _ _ _ => rfl⟩
  have hA : ∀ j w, j < 60 → w < 20 → mA (wH μ 13 (nI (r - 1))) j w = mA u j w := fun j w hj hw => by
    rw [mA_wH hj hw (by omega)]; exact g2.2.2.2.1 _ (by omega)
  have key : ∀ k j, j + k = n → ∀ ν : gMem, (∀ c i, c ≠ 1 → ν.1 c i = u.1 c i) → ν.2 = μ.2 → (∀ i, (i < 42 ∨ 1242 ≤ i) → ν.1 1 i = (wH μ 13 (nI (r - 1))).1 1 i) → (∀ i w, i < 60 → w < 20 → mA ν i w = if w = 7 ∧ i < j ∧ mA u i 4 = 2 ∧ ¬ (mA u i 7 - 1 ≤ nI s) then mA u i 7 - 1 else mA u i w) → ∃ ν', rX10_dropsSlot_66 (nI s) (nI j) ν = some (none, ν') ∧ (∀ c i, c ≠ 1 → ν'.1 c i = u.1 c i) ∧ ν'.2 = μ.2 ∧ (∀ i, (i < 42 ∨ 1242 ≤ i) → ν'.1 1 i = (wH μ 13 (nI (r - 1))).1 1 i) ∧ (∀ i w, i < 60 → w < 20 → mA ν' i w = if w = 7 ∧ i < n ∧ mA u i 4 = 2 ∧ ¬ (mA u i 7 - 1 ≤ nI s) then mA u i 7 - 1 else mA u i w) := by
    intro k
    induction k with
    | zero =>
      intro j hj ν h1 h2 h3 h4
      have : j = n := by omega
      subst this
      refine ⟨ν, ?_, h1, h2, h3, h4⟩
      have e11 : ν.1 1 11 = nI j := (h3 11 (by omega)).trans ((g2.2.2.2.1 11 (by omega)).trans hn)
      rw [eX10_dropsSlot_66, e11, if_pos (nI_le (Nat.le_refl _) (by omega))]
    | succ k ih =>
      intro j hj ν h1 h2 h3 h4
      have e4 : mA ν j 4 = mA u j 4 := by rw [h4 j 4 (by omega) (by omega), if_neg (by omega)]
      have e7 : mA ν j 7 = mA u j 7 := by rw [h4 j 7 (by omega) (by omega), if_neg (by omega)]
      have e11 : ν.1 1 11 = nI n := (h3 11 (by omega)).trans ((g2.2.2.2.1 11 (by omega)).trans hn)
      rw [eX10_dropsSlot_66, e11, if_neg (nI_ge (by omega) (by omega)), m_isPl (by omega), g_ci_some, e4, nI_1]
      have skip : ¬ (mA u j 4 = 2 ∧ ¬ (mA u j 7 - 1 ≤ nI s)) → ∀ i w, i < 60 → w < 20 → mA ν i w = if w = 7 ∧ i < j + 1 ∧ mA u i 4 = 2 ∧ ¬ (mA u i 7 - 1 ≤ nI s) then mA u i 7 - 1 else mA u i w := by
        intro hq i w hi hw
        rw [h4 i w hi hw]
        by_cases z : i = j
        · subst z; rw [if_neg (by omega), if_neg (fun y => hq y.2.2)]
        · by_cases y : w = 7 ∧ i < j ∧ mA u i 4 = 2 ∧ ¬ (mA u i 7 - 1 ≤ nI s)
          · rw [if_pos y, if_pos ⟨y.1, by omega, y.2.2⟩]
          · rw [if_neg y, if_neg (fun x => y ⟨x.1, by omega, x.2.2⟩)]
      by_cases q : mA u j 4 = 2
      · rw [if_pos q, if_neg (by decide), m_slO (by omega), g_ci_some, e7]
        by_cases q2 : mA u j 7 - 1 ≤ nI s
        · rw [if_pos q2]; exact ih (j + 1) (by omega) ν h1 h2 h3 (skip (fun y => y.2 q2))
        · rw [if_neg q2, eX10_moreOf, at_7 (by omega), g_ci_some, lay_7 (by omega), g_cv_some, g_cv_some, e7, sub1]
          refine ih (j + 1) (by omega) _ (fun c i hc => by rw [wA_c hc]; exact h1 c i hc) h2 (fun i hi => by unfold wA; rw [gI_r, if_neg (by omega)]; exact h3 i hi) (fun i w hi hw => ?_)
          rw [mA_wA hi hw (by omega) (by omega)]
          by_cases z : i = j ∧ w = 7
          · rw [if_pos z, z.1, z.2, if_pos ⟨rfl, by omega, q, q2⟩]
          · rw [if_neg z, h4 i w hi hw]
            by_cases y : w = 7 ∧ i < j ∧ mA u i 4 = 2 ∧ ¬ (mA u i 7 - 1 ≤ nI s)
            · rw [if_pos y, if_pos ⟨y.1, by omega, y.2.2⟩]
            · rw [if_neg y, if_neg (fun x => y ⟨x.1, by omega, x.2.2⟩)]
      · rw [if_neg q, if_pos rfl]; exact ih (j + 1) (by omega) ν h1 h2 h3 (skip (fun y => q y.1))
  obtain ⟨ν, k1, k2, k3, k4, k5⟩ := key n 0 (by omega) (wH μ 13 (nI (r - 1))) (fun c i hc => by rw [wH_c hc]; exact g2.2.2.1 c i hc) rfl (fun _ _ => rfl) (fun i w hi hw => by rw [hA i w hi hw, if_neg (by omega)])
  refine ⟨ν, ?_, k2, fun i h1 h2 h3 => ?_, ?_, fun x hx => ⟨?_, ?_⟩, fun c i hc => ?_, k5⟩
  · rw [eX10_dropsSlot, g1]; exact k1
  · rw [k4 i h1, wH_h, if_neg h3]; exact g2.2.2.2.1 i h2
  · rw [k4 13 (by omega), wH_h, if_pos rfl]
  · have e : mT ν x = mT (wH μ 13 (nI (r - 1))) x := k4 _ (by omega)
    rw [e, mT_wH (by omega) (by omega), g2.2.1 x (by omega)]
    unfold up
    by_cases z : x < s
    · rw [if_neg (by omega), if_pos z]
    · rw [if_pos (by omega), if_neg z]
  · rw [k3, g2.1]
    unfold up
    by_cases z : x < s
    · rw [if_neg (by omega), if_pos z]
    · rw [if_pos (by omega), if_neg z]
  · rw [k3]; exact g2.2.2.2.2 c i hc
theorem drU.im {s : Nat} (h : drU u u' n r s) : im u u' := ⟨fun c i hc => h.1 c i (by omega), h.1 0 27 (by omega), h.2.2.2.2.1⟩
end DROP
