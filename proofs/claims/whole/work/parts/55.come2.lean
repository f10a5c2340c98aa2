theorem orF_succ (f : Nat → Int32) (k : Nat) : orF f (k + 1) = orF f k ||| f k := rfl
section COME
variable {b u b' u' : gMem} {n a r p t B : Nat} {Q : List Nat}
theorem come_rel {sz wk us : Nat} {af st : Int32} {Q' : List Nat} (h : BW b u n a r p t Q B) (h9 : B + 1 ≤ 1000000000) (hna : n + a < 60) (hsz : 1 ≤ sz ∧ sz ≤ p) (hwk : 1 ≤ wk ∧ wk ≤ 9999) (hus : us < 6) (haf : af = -1 ∨ ∃ f, af = nI f ∧ f < n) (hst : (st = 1 ∧ Q' = Q ++ [n]) ∨ (st = 0 ∧ Q' = Q ∧ ∃ f, af = nI f ∧ f < n))
    (H1 : ∀ c i, (c < 5 ∨ 23 < c) → c ≠ 3 → c ≠ 24 → b'.1 c i = b.1 c i) (H0 : b'.2 = b.2) (H2 : ∀ c i, 5 ≤ c → c ≤ 23 → i ≠ n → b'.1 c i = b.1 c i) (H32 : b'.1 3 2 = nI (n + 1))
    (H3 : b'.1 5 n = nI sz ∧ b'.1 6 n = nI wk ∧ b'.1 7 n = nI us ∧ b'.1 8 n = af ∧ b'.1 9 n = st ∧ b'.1 10 n = nI wk ∧ b'.1 11 n = nI wk ∧ b'.1 12 n = -1 ∧ b'.1 13 n = -1 ∧ b'.1 14 n = nI (wd sz) ∧ b'.1 15 n = 0 ∧ b'.1 16 n = 0 ∧ b'.1 17 n = 0 ∧ b'.1 18 n = b.1 0 12 ∧ b'.1 19 n = -1 ∧ b'.1 20 n = -1 ∧ b'.1 21 n = 0 ∧ b'.1 22 n = 0 ∧ b'.1 23 n = 0)
    (H33 : b'.1 3 3 = nI Q'.length) (H24 : arr b' 24 Q')
    (U1 : ∀ i, (i < 42 + 20 * n ∨ 42 + 20 * n + 20 ≤ i) → i ≠ 11 → i ≠ 17 → u'.1 1 i = u.1 1 i) (U0 : u'.2 = u.2) (U11 : u'.1 1 11 = nI (n + 1)) (U17 : u'.1 1 17 = if st = 1 then u.1 1 17 + 1 else u.1 1 17)
    (U2 : mA u' n 0 = nI sz ∧ mA u' n 1 = nI wk ∧ mA u' n 2 = nI us ∧ mA u' n 3 = af + 1 ∧ mA u' n 4 = st ∧ mA u' n 5 = nI wk ∧ mA u' n 6 = nI wk ∧ mA u' n 7 = 0 ∧ mA u' n 8 = 0 ∧ mA u' n 9 = nI (wd sz) ∧ mA u' n 10 = 0 ∧ mA u' n 11 = 0 ∧ mA u' n 12 = 0 ∧ mA u' n 13 = u.1 1 10 ∧ mA u' n 14 = 0 ∧ mA u' n 15 = 0 ∧ mA u' n 16 = 0 ∧ mA u' n 17 = 0 ∧ mA u' n 18 = 0) (U19 : st = 1 → mA u' n 19 = u.1 1 17) : BW b' u' (n + 1) a r p t Q' (B + 1) := by
  have hr := h.A.2.2.2.2.1
  have hp := h.A.p32
  obtain ⟨x5, x6, x7, x8, x9, x10, x11, x12, x13, x14, x15, x16, x17, x18, x19, x20, x21, x22, x23⟩ := H3
  obtain ⟨y0, y1, y2, y3, y4, y5, y6, y7, y8, y9, y10, y11, y12, y13, y14, y15, y16, y17, y18⟩ := U2
  have hd : b'.1 0 13 = b.1 0 13 := H1 0 13 (by omega) (by omega) (by omega)
  have hag : ∀ S : List Nat, (∀ c ∈ S, (c < 5 ∨ 23 < c) ∧ c ≠ 3 ∧ c ≠ 24) → ag S b b' := fun S hS c hc i => H1 c i (hS c hc).1 (hS c hc).2.1 (hS c hc).2.2
  have hug : ∀ lo hi, (hi ≤ 42 + 20 * n ∨ 42 + 20 * n + 20 ≤ lo) → (17 < lo ∨ hi ≤ 11) → ug lo hi u u' := fun lo hi h1 h2 i h3 h4 => U1 i (by omega) (by omega) (by omega)
  have hmA : ∀ i w, i < n → w < 20 → mA u' i w = mA u i w := fun i w hi hw => U1 _ (by omega) (by omega) (by omega)
  have hblf : ∀ i, i ≠ n → bl b' i = bl b i := fun i hi => bl_fi (fun k hk => H2 k i (by simp at hk; omega) (by simp at hk; omega) hi)
  have hst2 : st ≠ 2 := by rcases hst with q | q <;> rw [q.1] <;> decide
  refine ⟨⟨?_, ?_, ?_, ?_, ?_, ?_⟩, ?_, ?_, ?_, ?_, ?_, ?_, ?_, ?_, ?_, ?_⟩
  · refine h.e.1.fr (hag _ (by decide)) (fun i hi => U1 i (by omega) (by omega) (by omega)) ?_
    obtain ⟨g1, g2, g3, g4, g5, g6, g7⟩ := h.e.1.2.1
    rw [U11, H32, hd]
    rw [U1 10 (by omega) (by omega) (by omega), U1 12 (by omega) (by omega) (by omega), U1 13 (by omega) (by omega) (by omega), U1 14 (by omega) (by omega) (by omega), U1 15 (by omega) (by omega) (by omega), U1 16 (by omega) (by omega) (by omega), H1 0 12 (by omega) (by omega) (by omega), H1 33 1 (by omega) (by omega) (by omega), H1 29 3 (by omega) (by omega) (by omega), H1 39 1 (by omega) (by omega) (by omega), H1 46 1 (by omega) (by omega) (by omega)]
    exact ⟨g1, rfl, g3, g4, g5, g6, g7⟩
  · intro i hi
    by_cases q : i = n
    · subst q
      have hz : (-1 : Int32) + 1 = 0 := by decide
      unfold EJ1
      rw [y0, y1, y2, y3, y4, y5, y6, y7, y8, y9, y10, y11, y12, y13, y14, y15, y16, y17, y18, x5, x6, x7, x8, x9, x10, x11, x12, x13, x14, x15, x16, x17, x18, x19, x20, x21, x22, x23, h.e.h.t, hz]
      simp
    · have := h.e.2.1 i (by omega)
      unfold EJ1 at *
      simp (disch := omega) only [hmA, H2]
      exact this
  · exact h.e.2.2.1.fr (by omega) (hag _ (by decide)) (hug _ _ (by omega) (by omega))
  · exact h.e.2.2.2.1.fr hr (hag _ (by decide)) (hug _ _ (by omega) (by omega)) (fun _ _ => by rw [H0]) (fun _ _ => by rw [U0])
  · exact h.e.2.2.2.2.1.fr (hag _ (by decide)) (hug _ _ (by omega) (by omega))
  · exact h.e.2.2.2.2.2.fr (hag _ (by decide)) (hug _ _ (by omega) (by omega))
  · obtain ⟨a1, a2, a3, a4, a5, a6, a7⟩ := h.A
    exact ⟨H32, by rw [H1 33 1 (by omega) (by omega) (by omega)]; exact a2, by rw [H1 29 3 (by omega) (by omega) (by omega)]; exact a3, by omega, a5, by rw [H1 1 0 (by omega) (by omega) (by omega)]; exact a6, a7⟩
  · exact h.T.fr (hag _ (by decide))
  · intro i hi
    by_cases q : i = n
    · subst q
      unfold IJ1 jn
      rw [x5, x7, x8, x9, x10, x11, x14, x17, x19, x20, tn (by omega), tn (by omega), tn (by omega)]
      refine ⟨⟨rfl, hsz⟩, ⟨rfl, hus⟩, ?_, ?_, ⟨rfl, rfl, Nat.le_refl _, hwk.2, fun _ => hwk.1, fun _ => rfl⟩, rfl, ⟨rfl, show 0 < 1000 by omega⟩, Or.inl rfl⟩
      · rcases haf with q | ⟨f, q1, q2⟩
        · exact Or.inl q
        · rw [q1, tn (by omega)]; exact Or.inr ⟨rfl, q2⟩
      · rcases hst with q | ⟨q, -, f, q1, q2⟩
        · rw [q.1]; exact ⟨rfl, show 1 < 5 by omega, fun z => absurd z (show ¬ 1 = 0 by omega)⟩
        · rw [q, q1, tn (by omega)]; exact ⟨rfl, show 0 < 5 by omega, fun _ => ⟨rfl, q2⟩⟩
    · exact (h.J i (by omega)).fi (fun k hk => H2 k i (by simp at hk; omega) (by simp at hk; omega) q)
  · refine ⟨fun i hi => ?_, fun i k hi hk hik h9 h12 => ?_⟩
    · by_cases q : i = n
      · subst q; exact Or.inr ⟨by rw [x9]; exact hst2, x12, x13⟩
      · exact (h.P.1 i (by omega)).fi (fun k hk => H2 k i (by simp at hk; omega) (by simp at hk; omega) q) hd
    · have hin : i ≠ n := fun z => by rw [z, x9] at h9; exact hst2 h9
      rw [H2 9 i (by omega) (by omega) hin] at h9
      rw [H2 12 i (by omega) (by omega) hin] at h12
      by_cases q : k = n
      · subst q
        rw [x12] at h12
        rcases h.P.1 i (by omega) with z | z
        · have := z.2.1.1; rw [h12] at this; exact absurd this.symm (nm1 (by have := z.2.1.2; omega))
        · exact absurd h9 z.1
      · rw [H2 12 k (by omega) (by omega) q] at h12
        rw [hblf i hin, hblf k q]
        exact h.P.2 i k (by omega) (by omega) hik h9 h12
  · intro s hs
    rw [H1 32 s (by omega) (by omega) (by omega), h.S s hs]
    have e1 : sb b' s n = 0 := by unfold sb; rw [x12, if_neg (fun z => nm1 (show s < 2147483648 by omega) z.symm)]
    have e2 : orF (sb b' s) n = orF (sb b s) n := orF_congr (fun k hk => by
      unfold sb
      rw [H2 12 k (by omega) (by omega) (by omega), hblf k (by omega)])
    rw [orF_succ, e1, e2]
    exact b_ext (fun d _ => by rw [b_or, b_0, Bool.or_false])
  · exact h.U.fr (hag _ (by decide))
  · exact h.R.fr (hag _ (by decide))
  · exact h.D.fr hd
  · obtain ⟨q1, q2, q3, q4, q5, ⟨cm, q6, q7, q8⟩, q9⟩ := h.Q
    have hm : ∀ x, x ∈ Q → x < n := fun x hx => ((q5 x).mp hx).1
    have hj : ∀ x, x ∈ Q → jn u' 1 (42 + 20 * x + 19) = jn u 1 (42 + 20 * x + 19) := fun x hx => congrArg Int32.toNatClampNeg (hmA x 19 (hm x hx) (by omega))
    have hB := h.B.2.2.2.2
    have hlen : Q.length ≤ n := by
      have := nodup_le (M := List.range n) q4 (fun x hx => List.mem_range.mpr (hm x hx))
      simpa using this
    rcases hst with ⟨s1, s2⟩ | ⟨s1, s2, -⟩
    · subst s2
      have e19 : mA u' n 19 = nI cm := (U19 s1).trans q6
      have ej : jn u' 1 (42 + 20 * n + 19) = cm := by
        show (mA u' n 19).toNatClampNeg = cm
        rw [e19, tn (by omega)]
      refine ⟨H33, by simp; omega, H24, ?_, fun x => ?_, ⟨cm + 1, by rw [U17, if_pos s1, q6, nI_1], by omega, fun x hx => ?_⟩, ?_⟩
      · rw [List.nodup_append]
        exact ⟨q4, by simp, fun x hx y hy z => by simp at hy; have := hm x hx; omega⟩
      · rw [List.mem_append, q5, List.mem_singleton]
        by_cases q : x = n
        · subst q; rw [x9, s1]; simp
        · constructor
          · rintro (z | z)
            · exact ⟨by omega, by rw [H2 9 x (by omega) (by omega) q]; exact z.2⟩
            · exact absurd z q
          · rintro ⟨z1, z2⟩
            rw [H2 9 x (by omega) (by omega) q] at z2
            exact Or.inl ⟨by omega, z2⟩
      · rw [List.mem_append, List.mem_singleton] at hx
        rcases hx with hx | hx
        · have := q8 x hx
          rw [hmA x 19 (hm x hx) (by omega), hj x hx]
          exact ⟨this.1, by omega⟩
        · subst hx; rw [ej]; exact ⟨e19, by omega⟩
      · rw [List.pairwise_append]
        refine ⟨q9.imp_of_mem (fun {x y} hx hy hxy => by rw [hj x hx, hj y hy]; exact hxy), by simp, fun x hx y hy => ?_⟩
        rw [List.mem_singleton] at hy
        subst hy
        rw [ej, hj x hx]
        exact (q8 x hx).2
    · subst s2
      have hs1 : st ≠ 1 := by rw [s1]; decide
      refine ⟨H33, q2, H24, q4, fun x => ?_, ⟨cm, by rw [U17, if_neg hs1]; exact q6, by omega, fun x hx => ?_⟩, q9.imp_of_mem (fun {x y} hx hy hxy => by rw [hj x hx, hj y hy]; exact hxy)⟩
      · rw [q5]
        by_cases q : x = n
        · subst q; rw [x9, s1]; simp
        · rw [H2 9 x (by omega) (by omega) q]
          exact ⟨fun z => ⟨by omega, z.2⟩, fun z => ⟨by omega, z.2⟩⟩
      · rw [hmA x 19 (hm x hx) (by omega), hj x hx]; exact q8 x hx
  · obtain ⟨b1, b2, ⟨x, b3, b4⟩, ⟨y, b5, b6⟩, b7⟩ := h.B
    exact ⟨by rw [H1 0 12 (by omega) (by omega) (by omega)]; exact b1, b2, ⟨x, by rw [H1 39 1 (by omega) (by omega) (by omega)]; exact b3, by omega⟩, ⟨y, by rw [H1 46 1 (by omega) (by omega) (by omega)]; exact b5, by omega⟩, h9⟩
end COME
