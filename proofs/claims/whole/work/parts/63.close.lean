/-! slots that are empty go -/
section CLOSE
variable {b u b' u' : gMem} {n a r p t B : Nat} {Q : List Nat}
theorem m1_le {s : Nat} (h : s < 2147483648) : (-1 : Int32) ≤ nI s := by
  rw [i_le, nI_ti h]
  have : (-1 : Int32).toInt = -1 := by decide
  omega
theorem drop_rel {s : Nat} (h : BW b u n a r p t Q B) (hs : s < r) (hno : ∀ j, j < n → b.1 12 j ≠ nI s) (hb : drB b b' n r s) (hu : drU u u' n r s) : BW b' u' n a (r - 1) p t Q B := by
  have hn := h.A.n60
  have hr := h.A.2.2.2.2.1
  obtain ⟨d1, d2, d3, d4, d5⟩ := hb
  obtain ⟨v1, v2, v3, v4, v5, v6⟩ := hu
  have hx : ∀ i, i < n → b.1 9 i = 2 → jn b 12 i ≠ s := fun i hi h2 z => by
    have := (ip_yes (h.P.1 i hi) h2).1.1
    rw [z] at this; exact hno i hi this
  have hc12 : ∀ i, i < n → b.1 9 i = 2 → b'.1 12 i = nI (if jn b 12 i < s then jn b 12 i else jn b 12 i - 1) := fun i hi h2 => by
    obtain ⟨y1, y2⟩ := (ip_yes (h.P.1 i hi) h2).1
    have := hx i hi h2
    rw [d5, y1]
    by_cases z : jn b 12 i < s
    · rw [if_neg (fun y => y.2 (nI_le (by omega) (by omega))), if_pos z]
    · rw [if_pos ⟨hi, nI_ge (by omega) (by omega)⟩, if_neg z, nI_s1 (by omega)]
  have h13 : ∀ i, b'.1 13 i = b.1 13 i := fun i => d1 13 i (by decide)
  have hup : ∀ x, x < r - 1 → up s x < r := fun x hx => by unfold up; split <;> omega
  refine slots_rel (σ := fun i => if jn b 12 i < s then jn b 12 i else jn b 12 i - 1) (κ := fun i => jn b 13 i) h (by omega) (fun c i hc => d1 c i (by simp at hc ⊢; omega)) ?_ ?_ ?_ ?_ ?_ d2 v3 v2 ?_ ?_ ?_ ?_
  · intro i hi h2
    refine ⟨hc12 i hi h2, ?_⟩
    have := (ip_yes (h.P.1 i hi) h2).1.2
    have := hx i hi h2
    show (if jn b 12 i < s then jn b 12 i else jn b 12 i - 1) < r - 1
    split <;> omega
  · intro i hi h2
    obtain ⟨-, y3, y4, y5, y6⟩ := ip_yes (h.P.1 i hi) h2
    exact ⟨(h13 i).trans y3, y4, y5, y6⟩
  · intro i hi h2
    refine ⟨?_, h13 i⟩
    rw [d5, (ip_no (h.P.1 i hi) h2).1, if_neg (fun y => y.2 (m1_le (by omega)))]
  · intro i j hi hj hij h2 h2' hσ
    have e1 := (ip_yes (h.P.1 i hi) h2).1
    have e2 := (ip_yes (h.P.1 j hj) h2').1
    have x1 := hx i hi h2
    have x2 := hx j hj h2'
    have : jn b 12 i = jn b 12 j := by
      have hσ' : (if jn b 12 i < s then jn b 12 i else jn b 12 i - 1) = (if jn b 12 j < s then jn b 12 j else jn b 12 j - 1) := hσ
      split at hσ' <;> split at hσ' <;> omega
    exact h.P.2 i j hi hj hij h2 (by rw [e1.1, e2.1, this])
  · intro x hxr
    rw [d3 32 x (by omega) hxr, h.S _ (hup x hxr)]
    refine orF_congr (fun i hi => ?_)
    unfold sb
    by_cases z : b.1 9 i = 2
    · obtain ⟨y1, y2⟩ := (ip_yes (h.P.1 i hi) z).1
      have x1 := hx i hi z
      have hupx := hup x hxr
      have hiff : b.1 12 i = nI (up s x) ↔ (if jn b 12 i < s then jn b 12 i else jn b 12 i - 1) = x := by
        rw [y1, neq (by omega) (by omega)]
        unfold up
        split <;> split <;> omega
      by_cases w : b.1 12 i = nI (up s x)
      · rw [if_pos w, if_pos ⟨z, hiff.mp w⟩]; rfl
      · rw [if_neg w, if_neg (fun y => w (hiff.mpr y.2))]
    · rw [if_neg (fun y => z (ip_slot (s := up s x) (h.P.1 i hi) (by have := hup x hxr; omega) y)), if_neg (fun y => z y.1)]
  · intro i w hi hw h7 h8
    rw [v6 i w hi hw, if_neg (fun z => h7 z.1)]
  · intro i hi
    have e4 := (h.e.j hi).f4
    have e7 := (h.e.j hi).f7
    rw [v6 i 7 (by omega) (by omega), e4, e7, i_sn, d5]
    by_cases z : b.1 9 i = 2
    · by_cases w : b.1 12 i ≤ nI s
      · rw [if_neg (fun y => y.2.2.2 w), if_neg (fun y => y.2 w)]
      · rw [if_pos ⟨rfl, hi, z, w⟩, if_pos ⟨hi, w⟩, i_ns]
    · rw [if_neg (fun y => z y.2.2.1), (ip_no (h.P.1 i hi) z).1, if_neg (fun y => y.2 (m1_le (by omega)))]
  · intro i hi
    rw [v6 i 8 (by omega) (by omega), if_neg (by omega), h13]; exact (h.e.j hi).f8
  · intro x hxr
    have := h.e.2.2.2.1 _ (hup x hxr)
    rw [(v4 x hxr).1, (v4 x hxr).2, d3 31 x (by omega) hxr, d4 x hxr]
    exact this
theorem orF_0 {f : Nat → Int32} {k j : Nat} (h : orF f k = 0) (hj : j < k) : f j = 0 := by
  rw [b_z] at *
  intro d hd
  cases q : bt (f j) d with
  | false => rfl
  | true => have := (orF_bt f d k).mpr ⟨j, hj, q⟩; rw [h d hd] at this; exact absurd this (by decide)
theorem orF_z {f : Nat → Int32} {k : Nat} (h : ∀ j, j < k → f j = 0) : orF f k = 0 := by
  rw [b_z]
  intro d hd
  cases q : bt (orF f k) d with
  | false => rfl
  | true =>
    obtain ⟨j, hj, hb⟩ := (orF_bt f d k).mp q
    rw [h j hj, b_0] at hb; exact absurd hb (by decide)
theorem cB_0 {f : Nat → Bool} : ∀ k, cB f k = 0 → ∀ i, i < k → f i = false := by
  intro k
  induction k with
  | zero => intro _ i hi; omega
  | succ k ih =>
    intro h i hi
    have h2 : cB f k + (if f k then 1 else 0) = 0 := h
    by_cases q : i = k
    · subst q
      cases z : f i with
      | false => rfl
      | true => rw [z] at h2; simp at h2
    · exact ih (by omega) i (by omega)
theorem bl_ne {j : Nat} (h : BW b u n a r p t Q B) (hj : j < n) (h2 : b.1 9 j = 2) : bl b j ≠ 0 := by
  have hp := h.A.p32
  obtain ⟨-, y3, y4, y5, y6⟩ := ip_yes (h.P.1 j hj) h2
  have hw := jw (h.J j hj)
  have := wd_pos (jn b 5 j)
  exact BK_ne (by omega) (by omega)
theorem emp_iff {s : Nat} (h : BW b u n a r p t Q B) (hs : s < r) : b.1 32 s = 0 ↔ ∀ j, j < n → b.1 12 j ≠ nI s := by
  have hr := h.A.2.2.2.2.1
  rw [h.S s hs]
  constructor
  · intro hz j hj h12
    have := orF_0 hz hj
    unfold sb at this
    rw [if_pos h12] at this
    exact bl_ne h hj (ip_slot (h.P.1 j hj) (by omega) h12) this
  · intro hz
    exact orF_z (fun j hj => by unfold sb; rw [if_neg (hz j hj)])
theorem cnt_iff {s : Nat} (hn : n ≤ 60) : nI (cB (fun j => decide (b.1 12 j = nI s)) n) = 0 ↔ ∀ j, j < n → b.1 12 j ≠ nI s := by
  have hc := cB_le (fun j => decide (b.1 12 j = nI s)) n
  rw [nz (by omega)]
  constructor
  · intro h j hj
    exact of_decide_eq_false (cB_0 _ h j hj)
  · intro h
    exact cB_zero (fun j hj => decide_eq_false (h j hj))
/-- all but slots is as it was -/
def sl (b b' : gMem) : Prop := ∀ c i, c ∉ [12, 29, 31, 32] → b'.1 c i = b.1 c i
theorem sl.rf : sl b b := fun _ _ _ => rfl
theorem sl.tr {b1 b2 : gMem} (h : sl b b1) (h2 : sl b1 b2) : sl b b2 := fun c i hc => (h2 c i hc).trans (h c i hc)
theorem cl_loop : ∀ k (b u : gMem) (r : Nat), k ≤ r → BW b u n a r p t Q B → (∀ y, k ≤ y → y < r → b.1 32 y ≠ 0) → ∃ b' u' r', rX2_dropEmpty_10 (nI k - 1) b = some (none, b') ∧ rX10_closes_10 (nI k - 1) u = some (none, u') ∧ BW b' u' n a r' p t Q B ∧ (∀ y, y < r' → b'.1 32 y ≠ 0) ∧ im u u' ∧ sl b b' := by
  intro k
  induction k with
  | zero =>
    intro b u r _ h h0
    refine ⟨b, u, r, ?_, ?_, h, fun y hy => h0 y (by omega) hy, im.rf, sl.rf⟩
    · rw [eX2_dropEmpty_10, if_pos (by decide)]
    · rw [eX10_closes_10, if_pos (by decide)]
  | succ k ih =>
    intro b u r hk h h0
    have hn := h.A.n60
    have hr := h.A.2.2.2.2.1
    rw [nI_s1 (by omega), show k + 1 - 1 = k by omega, eX2_dropEmpty_10, if_neg (nneg (by omega)), gin (show k < 8 by omega) (by omega), if_pos rfl, tn (show k < 2147483648 by omega), eX10_closes_10, if_neg (nneg (by omega)), m_jobsIn h.e h.A h.P (by omega), g_ci_some]
    by_cases q : b.1 32 k = 0
    · have hno := (emp_iff h (show k < r by omega)).mp q
      obtain ⟨b1, c1, c2⟩ := c_dropS (s := k) h.A.2.2.1 hr (by omega) h.A.1 hn
      obtain ⟨u1, m1, m2⟩ := m_dropS (s := k) (h.e.h.r.trans h.A.2.2.1) hr (by omega) (h.e.h.n.trans h.A.1) hn
      obtain ⟨b', u', r', g1, g2, g3, g4, g5, g6⟩ := ih b1 u1 (r - 1) (by omega) (drop_rel h (by omega) hno c2 m2) (fun y h1 h2 => by
        rw [c2.2.2.1 32 y (by omega) h2]
        unfold up
        rw [if_neg (by omega)]
        exact h0 (y + 1) (by omega) (by omega))
      refine ⟨b', u', r', ?_, ?_, g3, g4, m2.im.tr g5, sl.tr c2.1 g6⟩
      · rw [if_pos q, c1, g_cv_some, sub1]; exact g1
      · rw [if_pos ((cnt_iff hn).mpr hno), m1, g_cv_some, sub1]; exact g2
    · obtain ⟨b', u', r', g1, g2, g3, g4, g5, g6⟩ := ih b u r (by omega) h (fun y h1 h2 => by
        by_cases z : y = k
        · rw [z]; exact q
        · exact h0 y (by omega) h2)
      refine ⟨b', u', r', ?_, ?_, g3, g4, g5, g6⟩
      · rw [if_neg q, sub1]; exact g1
      · rw [if_neg (fun z => q ((emp_iff h (show k < r by omega)).mpr ((cnt_iff hn).mp z))), sub1]; exact g2
theorem close_both (h : BW b u n a r p t Q B) : ∃ b' u' r', mX2_dropEmpty [.ref 0] b = some (none, b') ∧ mX10_closes [.ref 0] u = some (none, u') ∧ BW b' u' n a r' p t Q B ∧ (∀ y, y < r' → b'.1 32 y ≠ 0) ∧ im u u' ∧ sl b b' := by
  obtain ⟨b', u', r', g1, g2, g3⟩ := cl_loop r b u r (Nat.le_refl _) h (fun y h1 h2 => absurd h1 (by omega))
  exact ⟨b', u', r', by rw [eX2_dropEmpty, h.A.2.2.1]; exact g1, by rw [eX10_closes, h.e.h.r, h.A.2.2.1]; exact g2, g3⟩
end CLOSE
