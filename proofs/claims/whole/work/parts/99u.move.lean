/-! moving to a column of one's own choice -/
section MOVE
variable {b u b' u' μ μ' ν : gMem} {n a r p t B k o : Nat} {Q : List Nat}
theorem de_none : ∀ k, k ≤ 8 → (∀ y, y < k → b.1 32 y ≠ 0) → rX2_dropEmpty_10 (nI k - 1) b = some (none, b)
  | 0, _, _ => by rw [show nI 0 - 1 = (-1 : Int32) from rfl, eX2_dropEmpty_10, if_pos (by decide)]
  | k + 1, hk, h => by
    have ih := de_none k (by omega) (fun y hy => h y (by omega))
    rw [show nI (k + 1) - 1 = nI k from nI_s1 (k := k + 1) (by omega), eX2_dropEmpty_10, if_neg (nneg (by omega)), gin (show k < 8 by omega) (by omega), if_pos rfl, tn (by omega), if_neg (h k (by omega)), sub1]
    exact ih
theorem de_top {w : Nat} : ∀ d k, k = w + 1 + d → k ≤ 8 → (∀ y, w < y → y < k → b.1 32 y ≠ 0) → rX2_dropEmpty_10 (nI k - 1) b = rX2_dropEmpty_10 (nI w) b
  | 0, k, hk, h8, _ => by rw [hk, Nat.add_zero, show nI (w + 1) - 1 = nI w from nI_s1 (k := w + 1) (by omega)]
  | d + 1, k, hk, h8, h => by
    have ih := de_top d (k - 1) (by omega) (by omega) (fun y h1 h2 => h y h1 (by omega))
    rw [show nI k - 1 = nI (k - 1) from nI_s1 (by omega), eX2_dropEmpty_10, if_neg (nneg (by omega)), gin (show k - 1 < 8 by omega) (by omega), if_pos rfl, tn (by omega), if_neg (h (k - 1) (by omega) (by omega)), sub1]
    exact ih
theorem c_dropE {w : Nat} (hr : b.1 29 3 = nI r) (hr8 : r ≤ 8) (hn : b.1 3 2 = nI n) (hn2 : n ≤ 60) (hw : w < r) (h0 : ∀ y, y < r → y ≠ w → b.1 32 y ≠ 0) : (b.1 32 w ≠ 0 ∧ mX2_dropEmpty [.ref 0] b = some (none, b)) ∨ (b.1 32 w = 0 ∧ ∃ b', mX2_dropEmpty [.ref 0] b = some (none, b') ∧ drB b b' n r w) := by
  by_cases q : b.1 32 w = 0
  · obtain ⟨b', g1, g2⟩ := c_dropS (s := w) hr hr8 hw hn hn2
    refine Or.inr ⟨q, b', ?_, g2⟩
    rw [eX2_dropEmpty, hr, de_top (w := w) (r - (w + 1)) r (by omega) hr8 (fun y h1 h2 => h0 y h2 (by omega)), eX2_dropEmpty_10, if_neg (nneg (by omega)), gin (show w < 8 by omega) (by omega), if_pos rfl, tn (by omega), if_pos q, g1, g_cv_some, sub1]
    refine de_none w (by omega) (fun y hy => ?_)
    rw [g2.2.2.1 32 y (by omega) (by omega), show up w y = y from if_pos hy]
    exact h0 y (by omega) (by omega)
  · refine Or.inl ⟨q, ?_⟩
    rw [eX2_dropEmpty, hr]
    refine de_none r hr8 (fun y hy => ?_)
    by_cases z : y = w
    · rw [z]; exact q
    · exact h0 y hy z
theorem c_fc {X : Int32} (hr : b.1 29 3 = nI r) (hr8 : r ≤ 8) : ∃ s, s ≤ r ∧ mX7_firstClear [.ref 29, .int X] b = some (some (.int (nI s)), b) ∧ (∀ y, y < s → ¬ b.1 32 y &&& X = 0) ∧ (s < r → b.1 32 s &&& X = 0) := by
  have loop : ∀ k s, s + k = r → (∀ y, y < s → ¬ b.1 32 y &&& X = 0) → ∃ s', s' ≤ r ∧ rX7_firstClear_2 X (nI s) b = some (some (.int (nI s')), b) ∧ (∀ y, y < s' → ¬ b.1 32 y &&& X = 0) ∧ (s' < r → b.1 32 s' &&& X = 0) := by
    intro k
    induction k with
    | zero =>
      intro s hs h
      obtain rfl : s = r := by omega
      exact ⟨s, Nat.le_refl _, by rw [eX7_firstClear_2, hr, if_pos (nI_le (Nat.le_refl _) (by omega))], h, fun z => by omega⟩
    | succ k ih =>
      intro s hs h
      rw [eX7_firstClear_2, hr, if_neg (nI_ge (by omega) (by omega)), gin (show s < 8 by omega) (by omega), if_pos rfl, tn (by omega), nI_1]
      by_cases q : b.1 32 s &&& X = 0
      · rw [if_pos q]
        exact ⟨s, by omega, rfl, h, fun _ => q⟩
      · rw [if_neg q]
        refine ih (s + 1) (by omega) (fun y hy => ?_)
        by_cases z : y = s
        · rw [z]; exact q
        · exact h y (by omega)
  obtain ⟨s, s1, s2, s3, s4⟩ := loop r 0 (by omega) (fun y hy => by omega)
  exact ⟨s, s1, (eX7_firstClear _ _).trans s2, s3, s4⟩
/-- one job is out of its slot, which goes if it was there alone -/
def MD (μ m u u2 : gMem) (n r1 j : Nat) (σ : Nat → Nat) : Prop :=
  (∀ c i, c ∉ [12, 13, 29, 31, 32] → m.1 c i = μ.1 c i) ∧ m.1 29 3 = nI r1 ∧ (∀ i, i < n → i ≠ j → μ.1 9 i = 2 → m.1 12 i = nI (σ i) ∧ σ i < r1) ∧ (∀ i, i < n → i ≠ j → μ.1 9 i ≠ 2 → m.1 12 i = μ.1 12 i) ∧ (∀ i, i ≠ j → m.1 13 i = μ.1 13 i) ∧ (∀ i k, i < n → k < n → i ≠ j → k ≠ j → μ.1 9 i = 2 → μ.1 9 k = 2 → σ i = σ k → μ.1 12 i = μ.1 12 k) ∧ (∀ y, y < r1 → m.1 32 y = orF (fun i => if (μ.1 9 i = 2 ∧ i ≠ j) ∧ σ i = y then bl μ i else 0) n ∧ m.1 32 y ≠ 0) ∧ u2.1 1 13 = nI r1 ∧ (∀ y, y < r1 → mT u2 y = m.1 31 y ∧ u2.2 3 y = m.2 30 y) ∧ (∀ i w, i < 60 → w < 20 → w ≠ 7 → mA u2 i w = mA u i w) ∧ (∀ i, i < n → i ≠ j → mA u2 i 7 = m.1 12 i + 1) ∧ (∀ i, (i < 42 ∨ 1242 ≤ i) → (i < 1482 ∨ 1490 ≤ i) → i ≠ 13 → u2.1 1 i = u.1 1 i) ∧ (∀ c i, c ≠ 1 → u2.1 c i = u.1 c i) ∧ (∀ c i, c ≠ 3 → u2.2 c i = u.2 c i)
/-- it is laid into a slot again -/
theorem md_rel {m m' u2 u3 : gMem} {r1 r' j s x : Nat} {σ : Nat → Nat} (h : BW μ u n a r p t Q B) (hj : j < n) (h2 : μ.1 9 j = 2) (hx : upX μ p j x) (hM : MD μ m u u2 n r1 j σ) (hr' : r' ≤ 8) (hsr : s < r') (hr1 : r1 ≤ r') (hnew : ∀ y, y < r' → y < r1 ∨ y = s) (hfree : s < r1 → m.1 32 s &&& BK x (jn μ 14 j) = 0)
    (K1 : ∀ c i, c ∉ [12, 13, 29, 31, 32] → m'.1 c i = m.1 c i) (K12 : ∀ i, m'.1 12 i = if i = j then nI s else m.1 12 i) (K13 : ∀ i, m'.1 13 i = if i = j then nI x else m.1 13 i) (K29 : m'.1 29 3 = nI r') (K32 : ∀ y, y < r' → m'.1 32 y = (if y < r1 then m.1 32 y else 0) ||| (if y = s then BK x (jn μ 14 j) else 0))
    (V13 : u3.1 1 13 = nI r') (V1 : ∀ i, (i < 42 ∨ 1242 ≤ i) → (i < 1482 ∨ 1490 ≤ i) → i ≠ 13 → u3.1 1 i = u2.1 1 i) (VA : ∀ i w, i < 60 → w < 20 → mA u3 i w = if i = j ∧ w = 7 then nI s + 1 else if i = j ∧ w = 8 then nI x + 1 else mA u2 i w) (VT : ∀ y, y < r' → mT u3 y = m'.1 31 y ∧ u3.2 3 y = m'.2 30 y) : BW m' u3 n a r' p t Q B ∧ ∀ y, y < r' → m'.1 32 y ≠ 0 := by
  have hn := h.A.n60
  have hp := h.A.p32
  obtain ⟨M1, M2, M3, M4, M5, M6, M7, M8, M9, M10, M11, M12, M13, M14⟩ := hM
  have hcl : ∀ i, i < n → i ≠ j → μ.1 9 i = 2 → σ i = s → bl μ i &&& BK x (jn μ 14 j) = 0 := fun i hi hij hi2 hσ => by
    have hs1 : s < r1 := by have := (M3 i hi hij hi2).2; omega
    have hf := hfree hs1
    rw [b_z] at hf ⊢
    intro d hd
    have := hf d hd
    rw [b_and] at this ⊢
    cases z : bt (bl μ i) d with
    | false => rfl
    | true =>
      have hb : bt (m.1 32 s) d = true := by
        rw [(M7 s hs1).1, orF_bt]
        refine ⟨i, hi, ?_⟩
        show bt (if (μ.1 9 i = 2 ∧ i ≠ j) ∧ σ i = s then bl μ i else 0) d = true
        rw [if_pos ⟨⟨hi2, hij⟩, hσ⟩]; exact z
      rw [hb] at this
      exact this
  refine ⟨?_, fun y hy => ?_⟩
  · refine slots_rel (b := μ) (u := u) (σ := fun i => if i = j then s else σ i) (κ := fun i => if i = j then x else jn μ 13 i) h hr' (fun c i hc => (K1 c i hc).trans (M1 c i hc)) ?_ ?_ ?_ ?_ ?_ K29 V13 (fun i i1 i2 i3 => (V1 i i1 i2 i3).trans (M12 i i1 i2 i3)) ?_ ?_ ?_ VT
    · intro i hi hi2
      show m'.1 12 i = nI (if i = j then s else σ i) ∧ (if i = j then s else σ i) < r'
      rw [K12]
      by_cases q : i = j
      · rw [if_pos q, if_pos q]; exact ⟨rfl, hsr⟩
      · rw [if_neg q, if_neg q]; have := M3 i hi q hi2; exact ⟨this.1, by omega⟩
    · intro i hi hi2
      show m'.1 13 i = nI (if i = j then x else jn μ 13 i) ∧ (if i = j then x else jn μ 13 i) % jn μ 14 i = 0 ∧ (if i = j then x else jn μ 13 i) + jn μ 14 i ≤ p ∧ μ.1 0 13 &&& BK (if i = j then x else jn μ 13 i) (jn μ 14 i) = 0
      rw [K13]
      by_cases q : i = j
      · rw [if_pos q, if_pos q, q]; exact ⟨rfl, hx.1, hx.2.1, hx.2.2⟩
      · rw [if_neg q, if_neg q, M5 i q]
        obtain ⟨-, y3, y4, y5, y6⟩ := ip_yes (h.P.1 i hi) hi2
        exact ⟨y3, y4, y5, y6⟩
    · intro i hi hi2
      have q : i ≠ j := fun z => hi2 (by rw [z]; exact h2)
      rw [K12, K13, if_neg q, if_neg q]
      exact ⟨M4 i hi q hi2, M5 i q⟩
    · intro i k hi hk hik hi2 hk2 hσ
      have hσ' : (if i = j then s else σ i) = (if k = j then s else σ k) := hσ
      show BK (if i = j then x else jn μ 13 i) (jn μ 14 i) &&& BK (if k = j then x else jn μ 13 k) (jn μ 14 k) = 0
      by_cases q : i = j
      · have q2 : k ≠ j := fun z => hik (by rw [q, z])
        rw [if_pos q, if_neg q2] at hσ'
        rw [if_pos q, if_neg q2, q]
        have := hcl k hk q2 hk2 hσ'.symm
        rw [show BK x (jn μ 14 j) &&& BK (jn μ 13 k) (jn μ 14 k) = bl μ k &&& BK x (jn μ 14 j) from b_ext (fun d _ => by rw [b_and, b_and, Bool.and_comm]; rfl)]
        exact this
      · rw [if_neg q] at hσ' ⊢
        by_cases q2 : k = j
        · rw [if_pos q2] at hσ' ⊢
          rw [q2]
          exact hcl i hi q hi2 hσ'
        · rw [if_neg q2] at hσ' ⊢
          exact h.P.2 i k hi hk hik hi2 (M6 i k hi hk q q2 hi2 hk2 hσ')
    · intro y hy
      rw [K32 y hy]
      refine b_ext (fun d hd => Bool.eq_iff_iff.mpr ?_)
      rw [b_or, Bool.or_eq_true, orF_bt]
      constructor
      · rintro (z | z)
        · by_cases q : y < r1
          · rw [if_pos q, (M7 y q).1, orF_bt] at z
            obtain ⟨i, hi, hz⟩ := z
            have hz' : bt (if (μ.1 9 i = 2 ∧ i ≠ j) ∧ σ i = y then bl μ i else 0) d = true := hz
            by_cases q2 : (μ.1 9 i = 2 ∧ i ≠ j) ∧ σ i = y
            · rw [if_pos q2] at hz'
              refine ⟨i, hi, ?_⟩
              show bt (if μ.1 9 i = 2 ∧ (if i = j then s else σ i) = y then BK (if i = j then x else jn μ 13 i) (jn μ 14 i) else 0) d = true
              rw [if_neg q2.1.2, if_neg q2.1.2, if_pos ⟨q2.1.1, q2.2⟩]; exact hz'
            · rw [if_neg q2, b_0] at hz'; cases hz'
          · rw [if_neg q, b_0] at z; cases z
        · by_cases q : y = s
          · rw [if_pos q] at z
            refine ⟨j, hj, ?_⟩
            show bt (if μ.1 9 j = 2 ∧ (if j = j then s else σ j) = y then BK (if j = j then x else jn μ 13 j) (jn μ 14 j) else 0) d = true
            rw [if_pos rfl, if_pos rfl, if_pos ⟨h2, q.symm⟩]; exact z
          · rw [if_neg q, b_0] at z; cases z
      · rintro ⟨i, hi, hz⟩
        have hz' : bt (if μ.1 9 i = 2 ∧ (if i = j then s else σ i) = y then BK (if i = j then x else jn μ 13 i) (jn μ 14 i) else 0) d = true := hz
        by_cases q : i = j
        · rw [if_pos q, if_pos q] at hz'
          by_cases q2 : μ.1 9 i = 2 ∧ s = y
          · rw [if_pos q2, q] at hz'
            rw [if_pos q2.2.symm]
            exact Or.inr hz'
          · rw [if_neg q2, b_0] at hz'; cases hz'
        · rw [if_neg q, if_neg q] at hz'
          by_cases q2 : μ.1 9 i = 2 ∧ σ i = y
          · rw [if_pos q2] at hz'
            have hy1 : y < r1 := by have := (M3 i hi q q2.1).2; omega
            refine Or.inl ?_
            rw [if_pos hy1, (M7 y hy1).1, orF_bt]
            refine ⟨i, hi, ?_⟩
            show bt (if (μ.1 9 i = 2 ∧ i ≠ j) ∧ σ i = y then bl μ i else 0) d = true
            rw [if_pos ⟨⟨q2.1, q⟩, q2.2⟩]; exact hz'
          · rw [if_neg q2, b_0] at hz'; cases hz'
    · intro i w hi hw h7 h8
      rw [VA i w hi hw, if_neg (by omega), if_neg (by omega)]
      exact M10 i w hi hw h7
    · intro i hi
      rw [VA i 7 (by omega) (by omega), K12]
      by_cases q : i = j
      · rw [if_pos ⟨q, rfl⟩, if_pos q]
      · rw [if_neg (fun z => q z.1), if_neg (by omega), if_neg q]; exact M11 i hi q
    · intro i hi
      rw [VA i 8 (by omega) (by omega), if_neg (by omega), K13]
      by_cases q : i = j
      · rw [if_pos ⟨q, rfl⟩, if_pos q]
      · rw [if_neg (fun z => q z.1), if_neg q, M5 i q, M10 i 8 (by omega) (by omega) (by omega)]
        exact (h.e.j hi).f8
  · rw [K32 y hy]
    rcases hnew y hy with q | q
    · rw [if_pos q]
      intro z
      refine (M7 y q).2 ?_
      rw [b_z] at z ⊢
      intro d hd
      have := z d hd
      rw [b_or] at this
      cases w : bt (m.1 32 y) d with
      | false => rfl
      | true => rw [w] at this; cases this
    · rw [if_pos q]
      have hw := jw (h.J j hj)
      have hwp := wd_pos (jn μ 5 j)
      exact or_ne (BK_ne (by have := hx.2.1; omega) (by omega))
end MOVE
