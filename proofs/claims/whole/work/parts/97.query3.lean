section ASK3
variable {b u b' u' μ μ' ν : gMem} {n a r p t B k : Nat} {Q : List Nat}
theorem ofUser_both {v d : Nat} {lo hi : Int32} (h : BW b u n a r p t Q B) (hd : (d = 0 ∧ lo = 0 ∧ hi = 2) ∨ (d = 1 ∧ lo = 3 ∧ hi = 3)) : ∃ x, mX4_ofUser [.ref 3, .int (nI v), .int lo, .int hi] b = some (some (.int x), b) ∧ mX10_jobsOf [.ref 0, .int (nI v), .int (nI d)] u = some (some (.int x), u) := by
  have hn := h.A.n60
  have loop : ∀ m j, j + m = n → ∀ acc, ∃ x, rX4_ofUser_6 (nI v) lo hi acc (nI j) b = some (some (.int x), b) ∧ rX10_jobsOf_5 (nI v) (nI d) acc (nI j) u = some (some (.int x), u) := by
    intro m
    induction m with
    | zero => intro j hj acc; exact ⟨acc, by rw [eX4_ofUser_6, h.A.1, if_pos (nI_le (by omega) (by omega))], by rw [eX10_jobsOf_5, h.e.h.n, h.A.1, if_pos (nI_le (by omega) (by omega))]⟩
    | succ m ih =>
      intro j hj acc
      have hjn : j < n := by omega
      have E := h.e.j hjn
      obtain ⟨i4, i5, -⟩ := (h.J j hjn).2.2.2.1
      have E1 := eX4_ofUser_6 (nI v) lo hi acc (nI j) b
      rw [h.A.1, if_neg (nI_ge hjn (by omega)), gin (show j < 60 by omega) (by omega), if_pos rfl, if_pos rfl, if_pos rfl, tn (by omega), nI_1, i4] at E1
      have E2 := eX10_jobsOf_5 (nI v) (nI d) acc (nI j) u
      rw [h.e.h.n, h.A.1, if_neg (nI_ge hjn (by omega)), at_2 (by omega), g_ci_some, E.f2, at_4 (by omega), g_ci_some, g_ci_some, E.f4, nI_1, i4] at E2
      rw [E1, E2]
      clear E1 E2
      by_cases q : b.1 7 j = nI v
      · rw [if_pos q, if_pos q]
        have hc : jn b 9 j = 0 ∨ jn b 9 j = 1 ∨ jn b 9 j = 2 ∨ jn b 9 j = 3 ∨ jn b 9 j = 4 := by omega
        rcases hd with ⟨rfl, rfl, rfl⟩ | ⟨rfl, rfl, rfl⟩
        · rw [if_pos (show nI 0 = 0 from rfl)]
          rcases hc with hc | hc | hc | hc | hc <;> rw [hc]
          · exact ih (j + 1) (by omega) _
          · exact ih (j + 1) (by omega) _
          · exact ih (j + 1) (by omega) _
          · exact ih (j + 1) (by omega) _
          · exact ih (j + 1) (by omega) _
        · rw [if_neg (show ¬ nI 1 = 0 by decide)]
          rcases hc with hc | hc | hc | hc | hc <;> rw [hc]
          · exact ih (j + 1) (by omega) _
          · exact ih (j + 1) (by omega) _
          · exact ih (j + 1) (by omega) _
          · exact ih (j + 1) (by omega) _
          · exact ih (j + 1) (by omega) _
      · rw [if_neg q, if_neg q]
        exact ih (j + 1) (by omega) _
  obtain ⟨x, x1, x2⟩ := loop n 0 (by omega) 0
  exact ⟨x, (eX4_ofUser _ _ _ _).trans x1, (eX10_jobsOf _ _ _).trans x2⟩
theorem waited_both {v : Nat} (h : BW b u n a r p t Q B) : ∃ x, mX4_waitedOf [.ref 3, .int (nI v)] b = some (some (.int x), b) ∧ mX10_waitedOf [.ref 0, .int (nI v)] u = some (some (.int x), u) := by
  have hn := h.A.n60
  have ht := h.B.2.1
  have loop : ∀ m j, j + m = n → ∀ acc, ∃ x, rX4_waitedOf_4 (nI v) acc (nI j) b = some (some (.int x), b) ∧ rX10_waitedOf_4 (nI v) acc (nI j) u = some (some (.int x), u) := by
    intro m
    induction m with
    | zero => intro j hj acc; exact ⟨acc, by rw [eX4_waitedOf_4, h.A.1, if_pos (nI_le (by omega) (by omega))], by rw [eX10_waitedOf_4, h.e.h.n, h.A.1, if_pos (nI_le (by omega) (by omega))]⟩
    | succ m ih =>
      intro j hj acc
      have hjn : j < n := by omega
      have E := h.e.j hjn
      have hf := (h.J j hjn).2.2.2.2.2.2.2
      have E1 := eX4_waitedOf_4 (nI v) acc (nI j) b
      rw [h.A.1, if_neg (nI_ge hjn (by omega)), gin (show j < 60 by omega) (by omega), if_pos rfl, if_pos rfl, if_pos rfl, if_pos rfl, tn (by omega), nI_1] at E1
      have E2 := eX10_waitedOf_4 (nI v) acc (nI j) u
      rw [h.e.h.n, h.A.1, if_neg (nI_ge hjn (by omega)), at_2 (by omega), g_ci_some, E.f2, at_14 (by omega), g_ci_some, at_14 (by omega), g_ci_some, at_13 (by omega), g_ci_some, E.f13, E.f14, nI_1] at E2
      rw [E1, E2]
      clear E1 E2
      by_cases q : b.1 7 j = nI v
      · rw [if_pos q, if_pos q]
        rcases hf with hf | ⟨hf, hf2⟩
        · rw [if_pos hf, hf, if_pos (by decide)]
          exact ih (j + 1) (by omega) _
        · rw [hf, if_neg (nm1 (by omega)), nI_1, if_neg (show ¬ nI (jn b 19 j + 1) ≤ 0 from nI_ge (a := 0) (b := jn b 19 j + 1) (by omega) (by omega)), show acc + nI (jn b 19 j + 1) - 1 - b.1 18 j = acc + (nI (jn b 19 j) - b.1 18 j) from by rw [← nI_1]; grind]
          exact ih (j + 1) (by omega) _
      · rw [if_neg q, if_neg q]
        exact ih (j + 1) (by omega) _
  obtain ⟨x, x1, x2⟩ := loop n 0 (by omega) 0
  exact ⟨x, (eX4_waitedOf _ _).trans x1, (eX10_waitedOf _ _).trans x2⟩
theorem owed_both {v : Nat} (h : BW b u n a r p t Q B) (ht : t ≤ 51200) (hv : v < 6) : ∃ x, mX8_owed [.ref 25, .int (nI v)] b = some (some (.int x), b) ∧ g_ci (mX10_usedOfAll [.ref 0] u) (fun a3 u3 => (g_ci (mX10_shareOf [.ref 0, .int (nI v)] u3) (fun a4 u4 => (g_ci (mX10_shares [.ref 0] u4) (fun a5 u5 => (if a5 = 0 then none else (if g_in (36 + nI v) 2030 = true then some (some (Value.int (((a3 * a4) / a5) - (u5.1 1 (Int32.toNatClampNeg (36 + nI v))))), u5) else none))))))) = some (some (.int x), u) := by
  have hU := h.U
  have hs : ∀ k, k ≤ 6 → sF (fun v => jn b 26 v) k ≤ 9 * k := by
    intro k
    induction k with
    | zero => intro _; exact Nat.le_refl _
    | succ k ih =>
      intro hk
      have := ih (by omega)
      have := (hU.1 k (by omega)).2.2
      show sF (fun v => jn b 26 v) k + jn b 26 k ≤ _
      omega
  have e6 : sF (fun v => jn b 27 v) 6 = jn b 27 0 + jn b 27 1 + jn b 27 2 + jn b 27 3 + jn b 27 4 + jn b 27 5 := by show 0 + jn b 27 0 + jn b 27 1 + jn b 27 2 + jn b 27 3 + jn b 27 4 + jn b 27 5 = _; omega
  have hmono : ∀ k m, sF (fun v => jn b 27 v) k ≤ sF (fun v => jn b 27 v) (k + m) := by
    intro k m
    induction m with
    | zero => exact Nat.le_refl _
    | succ m ih => show _ ≤ sF (fun v => jn b 27 v) (k + m) + _; omega
  have hall : sF (fun v => jn b 27 v) 6 ≤ 98304000 := by have := hU.2.2; omega
  have hk27 : ∀ k, k < 6 → jn b 27 k ≤ 98304000 := fun k hk => by
    have := hmono (k + 1) (6 - (k + 1))
    rw [show k + 1 + (6 - (k + 1)) = 6 by omega] at this
    have e : sF (fun v => jn b 27 v) (k + 1) = sF (fun v => jn b 27 v) k + jn b 27 k := rfl
    omega
  have hone : 1 ≤ sF (fun v => jn b 26 v) 6 := by
    have := (hU.1 5 (by omega)).2.1
    show 1 ≤ sF (fun v => jn b 26 v) 5 + jn b 26 5
    omega
  have c1 : ∀ m k, k + m = 6 → rX8_owed_8 (nI v) (lN (sF (fun v => jn b 27 v) k)) (lN (sF (fun v => jn b 26 v) k)) (nI k) b = some (some (.int (nI (sF (fun v => jn b 27 v) 6 * jn b 26 v / sF (fun v => jn b 26 v) 6) - nI (jn b 27 v))), b) := by
    intro m
    induction m with
    | zero =>
      intro k hk
      obtain rfl : k = 6 := by omega
      have hs6 := hs 6 (by omega)
      have w9 := (hU.1 v hv).2.2
      have hm : sF (fun v => jn b 27 v) 6 * jn b 26 v ≤ 98304000 * 9 := Nat.mul_le_mul hall w9
      rw [eX8_owed_8, if_pos (show (6 : Int32) ≤ nI 6 by decide), if_neg (show ¬ lg_cmp (lN (sF (fun v => jn b 26 v) 6)) 0 ≤ 0 from fun z => by
        rw [lg_cmp_le, show (0 : Int64) = lN 0 from rfl, lN_le (by omega) (by omega)] at z; omega), gin hv (by omega), if_pos rfl, if_neg (show ¬ lN (sF (fun v => jn b 26 v) 6) = 0 from fun z => by
        rw [show (0 : Int64) = lN 0 from rfl, lN_eq (by omega) (by omega)] at z; omega), if_pos rfl, tn (by omega), (hU.1 v hv).1, hU.2.1 v hv, nI_l (by omega), nI_l (by have := hk27 v hv; omega), lN_mul, pk_lDiv (by omega) (by omega) (by omega), Int64.toInt32_sub, lN_i, lN_i]
    | succ m ih =>
      intro k hk
      have k26 := (hU.1 k (by omega)).2.2
      have k27 := hk27 k (by omega)
      rw [eX8_owed_8, if_neg (show ¬ (6 : Int32) ≤ nI k from nI_ge (a := k) (b := 6) (by omega) (by omega)), gin (show k < 6 by omega) (by omega), if_pos rfl, if_pos rfl, tn (by omega), (hU.1 k (by omega)).1, hU.2.1 k (by omega), nI_l (by omega), nI_l (by omega), lN_add, lN_add, nI_1]
      exact ih (k + 1) (by omega)
  have m1 : ∀ m k, k + m = 6 → rX10_usedOfAll_4 (nI (sF (fun v => jn b 27 v) k)) (nI k) u = some (some (.int (nI (sF (fun v => jn b 27 v) 6))), u) := by
    intro m
    induction m with
    | zero =>
      intro k hk
      obtain rfl : k = 6 := by omega
      rw [eX10_usedOfAll_4, if_pos (show (6 : Int32) ≤ nI 6 by decide)]
    | succ m ih =>
      intro k hk
      rw [eX10_usedOfAll_4, if_neg (show ¬ (6 : Int32) ≤ nI k from nI_ge (a := k) (b := 6) (by omega) (by omega)), show (36 : Int32) + nI k = nI (36 + k) from nad 36 k, gin (show 36 + k < 2030 by omega) (by omega), if_pos rfl, tn (by omega), h.e.1.2.2.2.2 k (by omega), hU.2.1 k (by omega), nad, nI_1]
      exact ih (k + 1) (by omega)
  have m2 : ∀ m k, k + m = 6 → rX10_shares_4 (nI (sF (fun v => jn b 26 v) k)) (nI k) u = some (some (.int (nI (sF (fun v => jn b 26 v) 6))), u) := by
    intro m
    induction m with
    | zero =>
      intro k hk
      obtain rfl : k = 6 := by omega
      rw [eX10_shares_4, if_pos (show (6 : Int32) ≤ nI 6 by decide)]
    | succ m ih =>
      intro k hk
      rw [eX10_shares_4, if_neg (show ¬ (6 : Int32) ≤ nI k from nI_ge (a := k) (b := 6) (by omega) (by omega)), m_shareOf h.e (by omega), g_ci_some, (hU.1 k (by omega)).1, nad, nI_1]
      exact ih (k + 1) (by omega)
  refine ⟨_, (eX8_owed _ _).trans (c1 6 0 (by omega)), ?_⟩
  have hs6 := hs 6 (by omega)
  have w9 := (hU.1 v hv).2.2
  have hm : sF (fun v => jn b 27 v) 6 * jn b 26 v ≤ 98304000 * 9 := Nat.mul_le_mul hall w9
  rw [show mX10_usedOfAll [.ref 0] u = _ from (eX10_usedOfAll u).trans (m1 6 0 (by omega)), g_ci_some, m_shareOf h.e hv, g_ci_some, show mX10_shares [.ref 0] u = _ from (eX10_shares u).trans (m2 6 0 (by omega)), g_ci_some, if_neg (nI_ne0 (by omega) (by omega)), show (36 : Int32) + nI v = nI (36 + v) from nad 36 v, gin (show 36 + v < 2030 by omega) (by omega), if_pos rfl, tn (by omega), h.e.1.2.2.2.2 v hv, (hU.1 v hv).1, hU.2.1 v hv, nml, pk_div (by omega) (by omega) (by omega)]
theorem ok_user (a0 a1 : Int32) : okc mX9_user mX10_user [.int a0, .int a1] := okq0 fun μ u n a r p t Q B h ht _ => by
  rcases rng (x := a0) (m := 6) (by omega) with q | ⟨v, hv, rfl⟩
  · refine ⟨-100000000, ?_, ?_⟩
    · rw [eX9_user]
      rcases q with q | ⟨q, q2⟩
      · rw [if_pos q]
      · rw [if_neg q, if_neg (fun z => by have q2 : (6 : Int32) ≤ a0 := q2; grind)]
    · rw [eX10_user, eX10_isUser]
      rcases q with q | ⟨q, q2⟩
      · rw [if_pos q, g_ci_some, if_pos rfl]
      · rw [if_neg q, if_pos (show (6 : Int32) ≤ a0 from q2), g_ci_some, if_pos rfl]
  have E1 := eX9_user (nI v) a1 μ
  rw [if_neg (nneg (by omega)), if_pos (show nI v < (6 : Int32) from nI_lt (a := v) (b := 6) (by omega) (by omega)), gin hv (by omega), if_pos rfl, if_pos rfl, tn (by omega)] at E1
  have E2 := eX10_user (nI v) a1 u
  rw [eX10_isUser, if_neg (nneg (by omega)), if_neg (show ¬ (6 : Int32) ≤ nI v from nI_ge (a := v) (b := 6) (by omega) (by omega)), g_ci_some, if_neg (show ¬ (1 : Int32) = 0 by decide)] at E2
  rw [E1, E2]
  clear E1 E2
  rcases rng (x := a1) (m := 6) (by omega) with q | ⟨w, hw, rfl⟩
  · refine ⟨-100000000, ?_, ?_⟩
    · have nn : ∀ v : Nat, v < 6 → ¬ a1 = nI v := fun v hv z => by
        rcases q with q | ⟨q, q2⟩
        · rw [z] at q; exact nneg (by omega) q
        · rw [z] at q2; exact nI_ge hv (by omega) q2
      rw [if_neg (show ¬ a1 = 0 from nn 0 (by omega)), if_neg (show ¬ a1 = 1 from nn 1 (by omega)), if_neg (show ¬ a1 = 2 from nn 2 (by omega)), if_neg (show ¬ a1 = 3 from nn 3 (by omega)), if_neg (show ¬ a1 = 4 from nn 4 (by omega)), if_neg (show ¬ a1 = 5 from nn 5 (by omega))]
    · rw [show mX10_isIn [.ref 0, .int a1, .int 0, .int 5] (gwI u 0 0 0) = _ from isIn_0 (m := 5) (by omega) q, g_ci_some, if_pos rfl]
  rw [show mX10_isIn [.ref 0, .int (nI w), .int 0, .int 5] (gwI u 0 0 0) = _ from isIn_1 (y := 0) (z := 5) (by omega) (by omega) (by omega), g_ci_some, if_neg (show ¬ (1 : Int32) = 0 by decide)]
  have hc : w = 0 ∨ w = 1 ∨ w = 2 ∨ w = 3 ∨ w = 4 ∨ w = 5 := by omega
  rcases hc with rfl | rfl | rfl | rfl | rfl | rfl
  · rw [if_pos (show nI 0 = 0 from rfl), if_pos (show nI 0 = 0 from rfl), m_shareOf h.e hv, g_ci_some]
    exact ⟨_, rfl, rfl⟩
  · rw [if_neg (show ¬ nI 1 = 0 by decide), if_pos (show nI 1 = 1 from rfl), if_neg (show ¬ nI 1 = 0 by decide), if_pos (show nI 1 = 1 from rfl), show (36 : Int32) + nI v = nI (36 + v) from nad 36 v, gin (show 36 + v < 2030 by omega) (by omega), if_pos rfl, tn (by omega), h.e.1.2.2.2.2 v hv]
    exact ⟨_, rfl, rfl⟩
  · obtain ⟨x, x1, x2⟩ := ofUser_both (v := v) (d := 0) h (Or.inl ⟨rfl, rfl, rfl⟩)
    rw [if_neg (show ¬ nI 2 = 0 by decide), if_neg (show ¬ nI 2 = 1 by decide), if_pos (show nI 2 = 2 from rfl), if_neg (show ¬ nI 2 = 0 by decide), if_neg (show ¬ nI 2 = 1 by decide), if_neg (show ¬ (4 : Int32) ≤ nI 2 by decide), if_neg (show ¬ nI 2 = 3 by decide), show (g_lf 0 mX4_ofUser) [.ref 3, .int (nI v), .int 0, .int 2] μ = _ from lfq rfl rfl x1 rfl, g_ci_some, show mX10_jobsOf [.ref 0, .int (nI v), .int 0] (gwI u 0 0 0) = _ from x2, g_ci_some]
    exact ⟨_, rfl, rfl⟩
  · obtain ⟨x, x1, x2⟩ := ofUser_both (v := v) (d := 1) h (Or.inr ⟨rfl, rfl, rfl⟩)
    rw [if_neg (show ¬ nI 3 = 0 by decide), if_neg (show ¬ nI 3 = 1 by decide), if_neg (show ¬ nI 3 = 2 by decide), if_pos (show nI 3 = 3 from rfl), if_neg (show ¬ nI 3 = 0 by decide), if_neg (show ¬ nI 3 = 1 by decide), if_neg (show ¬ (4 : Int32) ≤ nI 3 by decide), if_pos (show nI 3 = 3 from rfl), show (g_lf 0 mX4_ofUser) [.ref 3, .int (nI v), .int 3, .int 3] μ = _ from lfq rfl rfl x1 rfl, g_ci_some, show mX10_jobsOf [.ref 0, .int (nI v), .int 1] (gwI u 0 0 0) = _ from x2, g_ci_some]
    exact ⟨_, rfl, rfl⟩
  · obtain ⟨x, x1, x2⟩ := waited_both (v := v) h
    rw [if_neg (show ¬ nI 4 = 0 by decide), if_neg (show ¬ nI 4 = 1 by decide), if_neg (show ¬ nI 4 = 2 by decide), if_neg (show ¬ nI 4 = 3 by decide), if_pos (show nI 4 = 4 from rfl), if_neg (show ¬ nI 4 = 0 by decide), if_neg (show ¬ nI 4 = 1 by decide), if_pos (show (4 : Int32) ≤ nI 4 by decide), if_pos (show nI 4 = 4 from rfl), lfq rfl rfl x1 rfl, g_ci_some, x2, g_ci_some]
    exact ⟨_, rfl, rfl⟩
  · obtain ⟨x, x1, x2⟩ := owed_both (v := v) h ht hv
    rw [if_neg (show ¬ nI 5 = 0 by decide), if_neg (show ¬ nI 5 = 1 by decide), if_neg (show ¬ nI 5 = 2 by decide), if_neg (show ¬ nI 5 = 3 by decide), if_neg (show ¬ nI 5 = 4 by decide), if_pos (show nI 5 = 5 from rfl), if_neg (show ¬ nI 5 = 0 by decide), if_neg (show ¬ nI 5 = 1 by decide), if_pos (show (4 : Int32) ≤ nI 5 by decide), if_neg (show ¬ nI 5 = 4 by decide), lfq rfl rfl x1 rfl, g_ci_some]
    exact ⟨x, rfl, x2⟩
end ASK3
