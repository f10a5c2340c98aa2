section LAYM
variable {b u b' u' μ μ' ν : gMem} {n a r p t B k o : Nat} {Q : List Nat} {f g : Nat → Nat}
theorem m_thinnest {j : Nat} {u1 : gMem} (h : BW b u n a r p t Q B) (hq : qs u u1) (hj : j < n) (h2 : b.1 9 j = 2) (hl : LU u1 p f) (hf : ∀ d, d < 32 → f d < 2147483648) : ∃ c, isT b p f j c ∧ mX10_thinnest [.ref 0, .int (nI j), .int (nI (jn b 14 j))] u1 = some (some (.int (nI c)), u1) := by
  have hp := h.A.p32
  have hn := h.A.n60
  have hw := h.qs hq
  obtain ⟨m, w1, w2, w3, w4, w5, w6, w7⟩ := pl_w h hj h2
  have hle := w1.le
  have hdv := w1.dvd h.A.2.2.2.2.2.2
  have hmx : ∀ c x, c + x ≤ 32 → mxF f c x < 2147483648 := fun c x hc => by
    have : mxF f c x ≤ 2147483647 := mxF_iff.mpr fun d hd => by have := hf (c + d) (by omega); omega
    omega
  -- the greatest in a block
  have inner : ∀ c, c + jn b 14 j ≤ p → ∀ m x, x + m = jn b 14 j → ∀ v3 v4, rX10_thinnest_45 (nI j) (nI (jn b 14 j)) v3 v4 (nI c) (nI (mxF f c x)) (nI (c + x)) u1 = rX10_thinnest_45 (nI j) (nI (jn b 14 j)) v3 v4 (nI c) (nI (mxF f c (jn b 14 j))) (nI (c + jn b 14 j)) u1 := by
    intro c hc m
    induction m with
    | zero => intro x hx v3 v4; rw [show x = jn b 14 j by omega]
    | succ m ih =>
      intro x hx v3 v4
      have h1 := hf (c + x) (by omega)
      have h2 := hmx c x (by omega)
      have e : mxF f c (x + 1) = if f (c + x) ≤ mxF f c x then mxF f c x else f (c + x) := rfl
      have ih' := ih (x + 1) (by omega) v3 v4
      rw [eX10_thinnest_45, nad, if_neg (nI_ge (by omega) (by omega)), gin (show c + x < 32 by omega) (by omega), if_pos rfl, if_pos rfl, tn (by omega), hl _ (by omega), nI_1]
      by_cases q : f (c + x) ≤ mxF f c x
      · rw [if_pos (nI_le q h2)]
        rw [e, if_pos q] at ih'
        exact ih'
      · rw [if_neg (nI_ge (by omega) h1)]
        rw [e, if_neg q] at ih'
        exact ih'
  have loop : ∀ k c, p ≤ c + k → c ≤ p → c % jn b 14 j = 0 → ∀ (o : Option Nat) (v4 : Int32), (o = none → ∀ y, upX b p j y → ¬ y < c) → (∀ x, o = some x → upX b p j x ∧ x < c ∧ v4 = nI (mxF f x (jn b 14 j)) ∧ (∀ y, upX b p j y → y < c → mxF f x (jn b 14 j) ≤ mxF f y (jn b 14 j)) ∧ (x ≠ jn b 13 j → (jn b 13 j < c → mxF f x (jn b 14 j) < mxF f (jn b 13 j) (jn b 14 j)) ∧ ∀ y, upX b p j y → y < x → mxF f x (jn b 14 j) < mxF f y (jn b 14 j))) → ∃ z, isT b p f j z ∧ rX10_thinnest_8 (nI j) (nI (jn b 14 j)) (eS o) v4 (nI c) u1 = some (some (.int (nI z)), u1) := by
    have fin : ∀ c, p ≤ c → c ≤ p → ∀ (o : Option Nat) (v4 : Int32), (o = none → ∀ y, upX b p j y → ¬ y < c) → (∀ x, o = some x → upX b p j x ∧ x < c ∧ v4 = nI (mxF f x (jn b 14 j)) ∧ (∀ y, upX b p j y → y < c → mxF f x (jn b 14 j) ≤ mxF f y (jn b 14 j)) ∧ (x ≠ jn b 13 j → (jn b 13 j < c → mxF f x (jn b 14 j) < mxF f (jn b 13 j) (jn b 14 j)) ∧ ∀ y, upX b p j y → y < x → mxF f x (jn b 14 j) < mxF f y (jn b 14 j))) → ∃ z, isT b p f j z ∧ rX10_thinnest_8 (nI j) (nI (jn b 14 j)) (eS o) v4 (nI c) u1 = some (some (.int (nI z)), u1) := by
      intro c c1 c2 o v4 k1 k2
      cases o with
      | none => exact absurd (show jn b 13 j < c by omega) (k1 rfl _ ⟨w4, w5, w6⟩)
      | some x =>
        obtain ⟨x1, x2, x3, x4, x5⟩ := k2 x rfl
        refine ⟨x, ⟨x1, fun y hy => x4 y hy (by have := hy.2.1; omega), fun z => ⟨(x5 z).1 (by omega), (x5 z).2⟩⟩, ?_⟩
        rw [eX10_thinnest_8, m_cols hw.e h.A, g_ci_some, if_pos (nI_le c1 (by omega))]; rfl
    intro k
    induction k with
    | zero => intro c c1 c2 c3 o v4 k1 k2; exact fin c (by omega) c2 o v4 k1 k2
    | succ k ih =>
      intro c c1 c2 c3 o v4 k1 k2
      by_cases q : c = p
      · exact fin c (by omega) c2 o v4 k1 k2
      have hc : c < p := by omega
      have hfit := mul_fit hle.1 hdv c3 hc
      have hmod : (c + jn b 14 j) % jn b 14 j = 0 := by rw [Nat.add_mod_right]; exact c3
      have hgap : ∀ y, y % jn b 14 j = 0 → y < c + jn b 14 j → y < c ∨ y = c := fun y hy hlt => by
        by_cases z : y < c
        · exact Or.inl z
        · refine Or.inr ?_
          obtain ⟨e1, he1⟩ := Nat.dvd_of_mod_eq_zero hy
          obtain ⟨e2, he2⟩ := Nat.dvd_of_mod_eq_zero c3
          have z2 : (y - c) % jn b 14 j = 0 := by
            have : y - c = jn b 14 j * (e1 - e2) := by rw [Nat.mul_sub]; omega
            rw [this]; exact Nat.mul_mod_right _ _
          rw [Nat.mod_eq_of_lt (by omega)] at z2
          omega
      rw [eX10_thinnest_8, m_cols hw.e h.A, g_ci_some, if_neg (nI_ge hc (by omega)), mbits hle.2, g_ci_some, hw.e.h.d, nad]
      by_cases q2 : b.1 0 13 &&& BK c (jn b 14 j) = 0
      · rw [if_pos q2, show rX10_thinnest_45 (nI j) (nI (jn b 14 j)) (eS o) v4 (nI c) 0 (nI c) u1 = _ from inner c hfit (jn b 14 j) 0 (by omega) (eS o) v4, eX10_thinnest_45, nad, if_pos (nI_le (Nat.le_refl _) (by omega))]
        have hup : upX b p j c := ⟨c3, hfit, q2⟩
        have cl := hmx c (jn b 14 j) (by omega)
        cases o with
        | none =>
          rw [show eS none = (-1 : Int32) from rfl, if_pos rfl]
          refine ih (c + jn b 14 j) (by omega) hfit hmod (some c) _ (fun z => by cases z) (fun x hx => ?_)
          obtain rfl : c = x := Option.some.inj hx
          refine ⟨hup, by omega, rfl, fun y hy hlt => ?_, fun z => ⟨fun hlt => ?_, fun y hy hlt => absurd hlt (k1 rfl y hy)⟩⟩
          · rcases hgap y hy.1 hlt with w | w
            · exact absurd w (k1 rfl y hy)
            · rw [w]; exact Nat.le_refl _
          · rcases hgap _ w4 hlt with w | w
            · exact absurd w (k1 rfl _ ⟨w4, w5, w6⟩)
            · exact absurd w.symm z
        | some x =>
          obtain ⟨x1, x2, x3, x4, x5⟩ := k2 x rfl
          have xl := hmx x (jn b 14 j) (by have := x1.2.1; omega)
          rw [show eS (some x) = nI x from rfl, if_neg (nm1 (by omega)), x3, m_columnOf hw.e hj hn, g_ci_some, w3]
          have skip : mxF f x (jn b 14 j) ≤ mxF f c (jn b 14 j) → (c = jn b 13 j → mxF f x (jn b 14 j) < mxF f c (jn b 14 j)) → ∃ z, isT b p f j z ∧ rX10_thinnest_8 (nI j) (nI (jn b 14 j)) (nI x) (nI (mxF f x (jn b 14 j))) (nI (c + jn b 14 j)) u1 = some (some (.int (nI z)), u1) := fun s1 s2 => by
            refine ih (c + jn b 14 j) (by omega) hfit hmod (some x) _ (fun z => by cases z) (fun y hy => ?_)
            obtain rfl : x = y := Option.some.inj hy
            refine ⟨x1, by omega, rfl, fun y hy hlt => ?_, fun z => ⟨fun hlt => ?_, (x5 z).2⟩⟩
            · rcases hgap y hy.1 hlt with w | w
              · exact x4 y hy w
              · rw [w]; exact s1
            · rcases hgap _ w4 hlt with w | w
              · exact (x5 z).1 w
              · rw [w]; exact s2 w.symm
          have take : mxF f c (jn b 14 j) ≤ mxF f x (jn b 14 j) → (c ≠ jn b 13 j → mxF f c (jn b 14 j) < mxF f x (jn b 14 j)) → ∃ z, isT b p f j z ∧ rX10_thinnest_8 (nI j) (nI (jn b 14 j)) (nI c) (nI (mxF f c (jn b 14 j))) (nI (c + jn b 14 j)) u1 = some (some (.int (nI z)), u1) := fun s1 s2 => by
            refine ih (c + jn b 14 j) (by omega) hfit hmod (some c) _ (fun z => by cases z) (fun y hy => ?_)
            obtain rfl : c = y := Option.some.inj hy
            refine ⟨hup, by omega, rfl, fun y hy hlt => ?_, fun z => ⟨fun hlt => ?_, fun y hy hlt => ?_⟩⟩
            · rcases hgap y hy.1 hlt with w | w
              · have := x4 y hy w; omega
              · rw [w]; exact Nat.le_refl _
            · rcases hgap _ w4 hlt with w | w
              · have := x4 _ ⟨w4, w5, w6⟩ w; have := s2 z; omega
              · exact absurd w.symm z
            · have := x4 y hy hlt; have := s2 z; omega
          by_cases q3 : mxF f x (jn b 14 j) < mxF f c (jn b 14 j)
          · rw [if_pos (nI_lt q3 cl)]
            exact skip (by omega) (fun _ => q3)
          · rw [if_neg (nI_nlt (by omega) (by omega))]
            by_cases q4 : mxF f c (jn b 14 j) = mxF f x (jn b 14 j)
            · rw [if_pos (by rw [q4])]
              by_cases q5 : c = jn b 13 j
              · rw [if_pos (by rw [q5])]
                exact take (by omega) (fun z => absurd q5 z)
              · rw [if_neg (show ¬ nI c = nI (jn b 13 j) from fun z => q5 (by rwa [neq (by omega) (by omega)] at z))]
                exact skip (by omega) (fun z => absurd z q5)
            · rw [if_neg (show ¬ nI (mxF f c (jn b 14 j)) = nI (mxF f x (jn b 14 j)) from fun z => q4 (by rwa [neq cl xl] at z))]
              exact take (by omega) (fun _ => by omega)
      · rw [if_neg q2]
        refine ih (c + jn b 14 j) (by omega) hfit hmod o v4 (fun z y hy hlt => ?_) (fun x hx => ?_)
        · rcases hgap y hy.1 hlt with w | w
          · exact k1 z y hy w
          · rw [w] at hy; exact q2 hy.2.2
        · obtain ⟨x1, x2, x3, x4, x5⟩ := k2 x hx
          refine ⟨x1, by omega, x3, fun y hy hlt => ?_, fun z => ⟨fun hlt => ?_, (x5 z).2⟩⟩
          · rcases hgap y hy.1 hlt with w | w
            · exact x4 y hy w
            · rw [w] at hy; exact absurd hy.2.2 q2
          · rcases hgap _ w4 hlt with w | w
            · exact (x5 z).1 w
            · rw [w] at w6; exact absurd w6 q2
  obtain ⟨z, z1, z2⟩ := loop p 0 (by omega) (by omega) (Nat.zero_mod _) none 0 (fun _ y _ => by omega) (fun x hx => by cases hx)
  exact ⟨z, z1, (eX10_thinnest _ _ _).trans z2⟩
end LAYM
