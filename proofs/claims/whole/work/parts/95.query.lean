/-! calls that ask -/
section ASK
variable {b u b' u' μ μ' ν : gMem} {n a r p t B k : Nat} {Q : List Nat}
theorem qs.im (h : qs u u') : im u u' := ⟨fun c i hc => by
  rcases hc with rfl | rfl
  · exact h.2.2.2.1 i
  · exact h.2.2.1 i, h.2.2.2.2, fun c i _ => by rw [h.1]⟩
theorem bs.pt (h : bs μ ν) : bs μ (g_pt 0 μ ν) := ⟨funext fun c => funext fun i => by
    show (if 0 ≤ c ∧ c < 0 + 59 then ν.2 (c - 0) i else μ.2 c i) = μ.2 c i
    rw [h.1]; split <;> rfl, fun c i hc => by rw [pt0 (by omega)]; exact h.2 c i hc⟩
theorem okq {f g : gF} {as : List Value} (H : ∀ (μ u : gMem) (n a r p t : Nat) (Q : List Nat) (B : Nat), BR μ (gwI u 0 0 0) n a r p t Q B → t ≤ 51200 → B ≤ 51200000 → ∃ x μ' u', f (.ref 177 :: as) μ = some (some (.int x), μ') ∧ g (.ref 0 :: as) u = some (some (.int x), u') ∧ bs μ μ' ∧ cfr μ μ' ∧ qs (gwI u 0 0 0) u') : okc f g as := by
  intro k μ u hk hR
  obtain ⟨⟨n, a, r, p, t, Q, B, h, ht, hB⟩, hI⟩ := hR
  obtain ⟨h0, i0⟩ := told0 h
  obtain ⟨x, μ', u', h1, h2, h3, h4, h5⟩ := H μ u n a r p t Q B h0 (by omega) (by omega)
  exact ⟨x, μ', u', h1, h2, Rl.mk hI (h5.xBR (h3.xBR h0)) (by omega) (by omega) h4 (i0.tr h5.im)⟩
/-- nothing changes at all -/
theorem okq0 {f g : gF} {as : List Value} (H : ∀ (μ u : gMem) (n a r p t : Nat) (Q : List Nat) (B : Nat), BW μ (gwI u 0 0 0) n a r p t Q B → t ≤ 51200 → B ≤ 51200000 → ∃ x, f (.ref 177 :: as) μ = some (some (.int x), μ) ∧ g (.ref 0 :: as) u = some (some (.int x), gwI u 0 0 0)) : okc f g as :=
  okq fun μ u n a r p t Q B h h1 h2 => by
    obtain ⟨x, e1, e2⟩ := H μ u n a r p t Q B (BR_iff.mp h).1 h1 h2
    exact ⟨x, μ, _, e1, e2, bs.rf, cfr.rf, qs.rf⟩
theorem isIn_1 {x y z : Nat} (h1 : y ≤ x) (h2 : x ≤ z) (hz : z < 2147483648) : mX10_isIn [.ref 0, .int (nI x), .int (nI y), .int (nI z)] u = some (some (.int 1), u) := by
  rw [eX10_isIn, if_neg (nI_nlt (by omega) (by omega)), if_neg (nI_nlt (by omega) (by omega))]
/-- a number from a nought up to less than m, or not -/
theorem rng {x : Int32} {m : Nat} (hm : m < 2147483648) : (x < 0 ∨ (¬ x < 0 ∧ nI m ≤ x)) ∨ ∃ w, w < m ∧ x = nI w := by
  by_cases q : x < 0
  · exact Or.inl (Or.inl q)
  · obtain ⟨w, hw, rfl⟩ := nat_of q
    by_cases q2 : w < m
    · exact Or.inr ⟨w, q2, rfl⟩
    · exact Or.inl (Or.inr ⟨q, nI_le (by omega) hw⟩)
theorem isIn_0 {x : Int32} {m : Nat} (hm : m + 1 < 2147483648) (h : x < 0 ∨ (¬ x < 0 ∧ nI (m + 1) ≤ x)) : mX10_isIn [.ref 0, .int x, .int 0, .int (nI m)] u = some (some (.int 0), u) := by
  rw [eX10_isIn]
  rcases h with h | ⟨h, h2⟩
  · rw [if_pos h]
  · obtain ⟨w, hw, rfl⟩ := nat_of h
    rw [nle (by omega) hw] at h2
    rw [if_neg h, if_pos (nI_lt (by omega) (by omega))]
theorem ok_count (a0 : Int32) : okc mX9_count mX10_count [.int a0] := okq0 fun μ u n a r p t Q B h _ _ => by
  rcases rng (x := a0) (m := 11) (by omega) with q | ⟨w, hw, rfl⟩
  · refine ⟨-1, ?_, ?_⟩
    · rw [eX9_count]
      rcases q with q | ⟨q, q2⟩
      · rw [if_pos q]
      · rw [if_neg q, if_pos (show (11 : Int32) ≤ a0 from q2)]
    · rw [eX10_count, show mX10_isIn [.ref 0, .int a0, .int 0, .int 10] (gwI u 0 0 0) = _ from isIn_0 (m := 10) (by omega) q, g_ci_some, if_pos rfl]
  · refine ⟨μ.1 2 w, ?_, ?_⟩
    · rw [eX9_count, if_neg (nneg (by omega)), if_neg (show ¬ (11 : Int32) ≤ nI w from nI_ge (a := w) (b := 11) hw (by omega)), gin hw (by omega), if_pos rfl, tn (by omega)]
    · rw [eX10_count, show mX10_isIn [.ref 0, .int (nI w), .int 0, .int 10] (gwI u 0 0 0) = _ from isIn_1 (y := 0) (z := 10) (by omega) (by omega) (by omega), g_ci_some, if_neg (by decide), show (18 : Int32) + nI w = nI (18 + w) from nad 18 w, gin (show 18 + w < 2030 by omega) (by omega), if_pos rfl, tn (by omega), h.e.1.2.2.1 w hw]
theorem ok_of (a0 a1 : Int32) : okc mX9_of mX10_of [.int a0, .int a1] := okq0 fun μ u n a r p t Q B h _ _ => by
  have hn := h.A.n60
  rcases hasI (u := gwI u 0 0 0) (x := a0) h.A.1 hn with ⟨g1, g2, g3⟩ | ⟨j, hj, rfl, g1⟩
  · refine ⟨-1, ?_, ?_⟩
    · rw [eX9_of, lfq rfl rfl g1 rfl, g_ci_some, if_pos rfl]
    · rw [eX10_of, g2]
      rcases g3 with g3 | g3
      · rw [if_pos g3, g_ci_some, if_pos rfl]
      · by_cases z : a0 < 0
        · rw [if_pos z, g_ci_some, if_pos rfl]
        · rw [if_neg z, h.e.h.n, h.A.1, if_pos g3, g_ci_some, if_pos rfl]
  · have hj1 : mX10_isJob [.ref 0, .int (nI j)] (gwI u 0 0 0) = some (some (.int 1), gwI u 0 0 0) := by rw [eX10_isJob, if_neg (nneg (by omega)), h.e.h.n, h.A.1, if_neg (nI_ge hj (by omega))]
    rcases rng (x := a1) (m := 19) (by omega) with q | ⟨w, hw, rfl⟩
    · refine ⟨-1, ?_, ?_⟩
      · rw [eX9_of, lfq rfl rfl g1 rfl, g_ci_some, if_neg (by decide)]
        rcases q with q | ⟨q, q2⟩
        · rw [if_pos q]
        · rw [if_neg q, if_neg (fun z => by have q2 : (19 : Int32) ≤ a1 := q2; grind)]
      · rw [eX10_of, hj1, g_ci_some, if_neg (by decide), show mX10_isIn [.ref 0, .int a1, .int 0, .int 18] (gwI u 0 0 0) = _ from isIn_0 (m := 18) (by omega) q, g_ci_some, if_pos rfl]
    · have hl : ∀ w, w < 19 → gLen LC 0 (4 + 1 + w) = 60 := by decide
      refine ⟨μ.1 (5 + w) j, ?_, ?_⟩
      · rw [eX9_of, lfq rfl rfl g1 rfl, g_ci_some, if_neg (by decide), if_neg (nneg (by omega)), if_pos (show nI w < (19 : Int32) from nI_lt (a := w) (b := 19) hw (by omega)), gin hw (by omega), if_pos rfl, tn (by omega), hl w hw, gin (show j < 60 by omega) (by omega), if_pos rfl, tn (by omega)]
      · rw [eX10_of, hj1, g_ci_some, if_neg (by decide), show mX10_isIn [.ref 0, .int (nI w), .int 0, .int 18] (gwI u 0 0 0) = _ from isIn_1 (y := 0) (z := 18) (by omega) (by omega) (by omega), g_ci_some, if_neg (by decide), at_n (by omega) (by omega), g_ci_some]
        have E := h.e.j hj
        have e3 : (nI w = 3) = (w = 3) := neq (a := w) (b := 3) (by omega) (by omega)
        have e7 : (nI w = 7) = (w = 7) := neq (a := w) (b := 7) (by omega) (by omega)
        have e8 : (nI w = 8) = (w = 8) := neq (a := w) (b := 8) (by omega) (by omega)
        have e14 : (nI w = 14) = (w = 14) := neq (a := w) (b := 14) (by omega) (by omega)
        have e15 : (nI w = 15) = (w = 15) := neq (a := w) (b := 15) (by omega) (by omega)
        simp only [e3, e7, e8, e14, e15]
        have hc : w = 0 ∨ w = 1 ∨ w = 2 ∨ w = 3 ∨ w = 4 ∨ w = 5 ∨ w = 6 ∨ w = 7 ∨ w = 8 ∨ w = 9 ∨ w = 10 ∨ w = 11 ∨ w = 12 ∨ w = 13 ∨ w = 14 ∨ w = 15 ∨ w = 16 ∨ w = 17 ∨ w = 18 := by omega
        rcases hc with rfl | rfl | rfl | rfl | rfl | rfl | rfl | rfl | rfl | rfl | rfl | rfl | rfl | rfl | rfl | rfl | rfl | rfl | rfl <;> simp only [E.f0, E.f1, E.f2, E.f3, E.f4, E.f5, E.f6, E.f7, E.f8, E.f9, E.f10, E.f11, E.f12, E.f13, E.f14, E.f15, E.f16, E.f17, E.f18, i_sn] <;> rfl
theorem ok_load (a0 : Int32) : okc mX9_load mX10_load [.int a0] := okq0 fun μ u n a r p t Q B h _ _ => by
  have hp := h.A.p32
  rcases col_both (x := a0) h with ⟨c1, c2⟩ | ⟨c, hc, rfl, c1, c2⟩
  · exact ⟨-1, by rw [eX9_load, lfq rfl rfl c1 rfl, g_ci_some, if_pos rfl], by rw [eX10_load, c2, g_ci_some, if_pos rfl]⟩
  · exact ⟨nI (ld μ n c), by rw [eX9_load, lfq rfl rfl c1 rfl, g_ci_some, if_neg (by decide), lfq rfl rfl (c_loadOf h.A h.P h.S (by omega)) rfl, g_ci_some], by rw [eX10_load, c2, g_ci_some, if_neg (by decide), m_loadOf h.e h.A h.J h.P (by omega), g_ci_some]⟩
/-- a slot, on both sides -/
theorem slot_both {x : Int32} (h : BW b u n a r p t Q B) : (mX7_has [.ref 29, .int x] b = some (some (.int 0), b) ∧ mX10_isSlot [.ref 0, .int x] u = some (some (.int 0), u)) ∨ (∃ s, s < r ∧ x = nI s ∧ mX7_has [.ref 29, .int x] b = some (some (.int 1), b) ∧ mX10_isSlot [.ref 0, .int x] u = some (some (.int 1), u)) := by
  have hr := h.A.2.2.2.2.1
  rw [eX7_has, eX10_isSlot, h.e.h.r, h.A.2.2.1]
  rcases rng (x := x) (m := r) (by omega) with q | ⟨s, hs, rfl⟩
  · rcases q with q | ⟨q, q2⟩
    · exact Or.inl ⟨if_pos q, if_pos q⟩
    · exact Or.inl ⟨by rw [if_neg q, if_pos q2], by rw [if_neg q, if_pos q2]⟩
  · exact Or.inr ⟨s, hs, rfl, by rw [if_neg (nneg (by omega)), if_neg (nI_ge hs (by omega))], by rw [if_neg (nneg (by omega)), if_neg (nI_ge hs (by omega))]⟩
theorem ok_cell (a0 a1 : Int32) : okc mX9_cell mX10_cell [.int a0, .int a1] := okq0 fun μ u n a r p t Q B h _ _ => by
  have hn := h.A.n60
  have hp := h.A.p32
  have hr := h.A.2.2.2.2.1
  rcases slot_both (x := a0) h with ⟨c1, c2⟩ | ⟨s, hs, rfl, c1, c2⟩
  · exact ⟨-2, by rw [eX9_cell, lfq rfl rfl c1 rfl, g_ci_some, if_pos rfl], by rw [eX10_cell, c2, g_ci_some, if_pos rfl]⟩
  rcases col_both (x := a1) h with ⟨d1, d2⟩ | ⟨c, hc, rfl, d1, d2⟩
  · exact ⟨-3, by rw [eX9_cell, lfq rfl rfl c1 rfl, g_ci_some, if_neg (by decide), lfq rfl rfl d1 rfl, g_ci_some, if_pos rfl], by rw [eX10_cell, c2, g_ci_some, if_neg (by decide), d2, g_ci_some, if_pos rfl]⟩
  have loop : ∀ m j, j + m = n → ∃ x, rX4_inBlock_2 (nI s) (nI c) (nI j) μ = some (some (.int x), μ) ∧ rX10_cell_29 (nI s) (nI c) (nI j) (gwI u 0 0 0) = some (some (.int x), gwI u 0 0 0) := by
    intro m
    induction m with
    | zero =>
      intro j hj
      exact ⟨-1, by rw [eX4_inBlock_2, h.A.1, if_pos (nI_le (by omega) (by omega))], by rw [eX10_cell_29, h.e.h.n, h.A.1, if_pos (nI_le (by omega) (by omega))]⟩
    | succ m ih =>
      intro j hj
      have hjn : j < n := by omega
      obtain ⟨x, x1, x2⟩ := ih (j + 1) (by omega)
      rw [eX4_inBlock_2, h.A.1, if_neg (nI_ge hjn (by omega)), gin (show j < 60 by omega) (by omega), if_pos rfl, tn (by omega), eX10_cell_29, h.e.h.n, h.A.1, if_neg (nI_ge hjn (by omega)), m_isAt h.e hjn hn, g_ci_some, nI_1]
      by_cases q : μ.1 12 j = nI s
      · have q2 := ip_slot (h.P.1 j hjn) (by omega) q
        have q3 := ip_col (h.P.1 j hjn) q2
        have q4 := ip_c32 (by omega) (h.J j hjn) (h.P.1 j hjn) q2
        rw [if_pos q, c_block (by omega) (h.J j hjn) q3 q4, g_ci_some, u_bit (by omega), show (if μ.1 9 j = 2 ∧ μ.1 12 j = nI s then (1 : Int32) else 0) = 1 from if_pos ⟨q2, q⟩, if_neg (show ¬ (1 : Int32) = 0 by decide), m_blockOf h.e hjn hn (h.J j hjn) q3, g_ci_some, s_bit (by omega)]
        cases bt (bl μ j) c with
        | true => exact ⟨nI j, rfl, rfl⟩
        | false => exact ⟨x, x1, x2⟩
      · rw [if_neg q, show (if μ.1 9 j = 2 ∧ μ.1 12 j = nI s then (1 : Int32) else 0) = 0 from if_neg (fun z => q z.2), if_pos rfl]
        exact ⟨x, x1, x2⟩
  obtain ⟨x, x1, x2⟩ := loop n 0 (by omega)
  refine ⟨x, ?_, ?_⟩
  · rw [eX9_cell, lfq rfl rfl c1 rfl, g_ci_some, if_neg (by decide), lfq rfl rfl d1 rfl, g_ci_some, if_neg (by decide), lfq rfl rfl ((eX4_inBlock _ _ _).trans x1) rfl, g_ci_some]
  · rw [eX10_cell, c2, g_ci_some, if_neg (by decide), d2, g_ci_some, if_neg (by decide)]; exact x2
theorem ring_at {x i : Nat} {ρ : gMem} (hx : x < 2147483648) (hi : i < 60) (hix : i < x) : mX10_ringAt [.ref 0, .int (nI i), .int (nI x)] ρ = some (some (.int (nI ((x - 1 - i) % 60))), ρ) := by
  rw [eX10_ringAt, if_neg (nneg (by omega)), if_neg (show ¬ (60 : Int32) ≤ nI i from nI_ge (a := i) (b := 60) hi (by omega)), if_neg (nI_ge hix (by omega)), show nI x - 1 = nI (x - 1) from nsb (b := 1) (by omega), nsb (by omega), rm60 (by omega)]
theorem ring_no {x : Nat} {v : Int32} {ρ : gMem} (hx : x < 2147483648) (h : v < 0 ∨ (¬ v < 0 ∧ nI (min x 60) ≤ v)) : mX10_ringAt [.ref 0, .int v, .int (nI x)] ρ = some (some (.int (-1)), ρ) := by
  rw [eX10_ringAt]
  rcases h with h | ⟨h, h2⟩
  · rw [if_pos h]
  · obtain ⟨w, hw, rfl⟩ := nat_of h
    rw [nle (by omega) hw] at h2
    rw [if_neg h]
    by_cases q : 60 ≤ w
    · rw [if_pos (show (60 : Int32) ≤ nI w from nI_le (a := 60) (b := w) q hw)]
    · rw [if_neg (show ¬ (60 : Int32) ≤ nI w from nI_ge (a := w) (b := 60) (by omega) (by omega)), if_pos (nI_le (by omega) (by omega))]
theorem ok_log (a0 a1 : Int32) : okc mX9_log mX10_log [.int a0, .int a1] := okq0 fun μ u n a r p t Q B h _ hB => by
  obtain ⟨-, -, ⟨x, ex, hxB⟩, -⟩ := h.B
  have eu : (gwI u 0 0 0).1 1 15 = nI x := h.e.1.2.1.2.2.2.2.2.1.trans ex
  have hm : mJ9_min_7cf53 [.int (nI x), .int 60] μ = some (some (.int (nI (min x 60))), μ) := min_e (x := x) (y := 60) (by omega) (by omega)
  rw [eX10_log, eu]
  suffices H : ∃ y, mX6_valueAt [.ref 39, .int a0, .int a1, .int 5] μ = some (some (.int y), μ) ∧ g_ci (mX10_ringAt [.ref 0, .int a0, .int (nI x)] (gwI u 0 0 0)) (fun a3 u1 => (if a3 = (-1) then some (some (.int (-1)), u1) else (g_ci (mX10_isIn [.ref 0, .int a1, .int 0, .int 4] u1) (fun a2 u2 => (if a2 = 0 then some (some (.int (-1)), u2) else (if g_in ((1490 + (5 * a3)) + a1) 2030 = true then some (some (.int (u2.1 1 (Int32.toNatClampNeg ((1490 + (5 * a3)) + a1)))), u2) else none)))))) = some (some (.int y), gwI u 0 0 0) by
    obtain ⟨y, y1, y2⟩ := H
    exact ⟨y, by rw [eX9_log, lfq rfl rfl y1 rfl, g_ci_some], y2⟩
  rw [eX6_valueAt_39, ex, hm, g_ci_some]
  rcases rng (x := a0) (m := min x 60) (by omega) with q | ⟨i, hi, rfl⟩
  · refine ⟨-1, ?_, by rw [ring_no (by omega) q, g_ci_some, if_pos rfl]⟩
    rcases q with q | ⟨q, q2⟩
    · rw [if_pos q]
    · rw [if_neg q, if_neg (fun z => by grind)]
  rw [if_neg (nneg (by omega)), if_pos (nI_lt hi (by omega)), ring_at (by omega) (by omega) (by omega), g_ci_some, if_neg (nm1 (by omega)), show mJ9_min_7cf53 [.int 5, .int 5] μ = some (some (.int 5), μ) from min_e (x := 5) (y := 5) (by omega) (by omega), g_ci_some]
  rcases rng (x := a1) (m := 5) (by omega) with q | ⟨w, hw, rfl⟩
  · refine ⟨-1, ?_, ?_⟩
    · rcases q with q | ⟨q, q2⟩
      · rw [if_pos q]
      · rw [if_neg q, if_neg (fun z => by have q2 : (5 : Int32) ≤ a1 := q2; grind)]
    · rw [show mX10_isIn [.ref 0, .int a1, .int 0, .int 4] (gwI u 0 0 0) = _ from isIn_0 (m := 4) (by omega) q, g_ci_some, if_pos rfl]
  have hl : ∀ w, w < 5 → gLen LB 0 (40 + 1 + w) = 60 := by decide
  have hk : (x - 1 - i) % 60 < 60 := Nat.mod_lt _ (by omega)
  rw [if_neg (nneg (by omega)), if_pos (show nI w < (5 : Int32) from nI_lt (a := w) (b := 5) hw (by omega)), gin hw (by omega), if_pos rfl, ex, show nI x - 1 = nI (x - 1) from nsb (b := 1) (by omega), nsb (by omega), c_mod60 (by omega), g_ci_some, tn (show w < 2147483648 by omega), hl w hw, gin hk (by omega), if_pos rfl, tn (by omega)]
  rw [show mX10_isIn [.ref 0, .int (nI w), .int 0, .int 4] (gwI u 0 0 0) = _ from isIn_1 (y := 0) (z := 4) (by omega) (by omega) (by omega), g_ci_some, if_neg (by decide), show (1490 : Int32) + 5 * nI ((x - 1 - i) % 60) + nI w = nI (1490 + 5 * ((x - 1 - i) % 60) + w) from by rw [show (1490 : Int32) = nI 1490 from rfl, show (5 : Int32) = nI 5 from rfl, nml, nad, nad], gin (show 1490 + 5 * ((x - 1 - i) % 60) + w < 2030 by omega) (by omega), if_pos rfl, tn (by omega)]
  have E := h.e.2.2.2.2.1 _ hk
  refine ⟨_, rfl, ?_⟩
  have hc : w = 0 ∨ w = 1 ∨ w = 2 ∨ w = 3 ∨ w = 4 := by omega
  rcases hc with rfl | rfl | rfl | rfl | rfl
  · rw [show (gwI u 0 0 0).1 1 (1490 + 5 * ((x - 1 - i) % 60) + 0) = _ from E.1]
  · rw [show (gwI u 0 0 0).1 1 (1490 + 5 * ((x - 1 - i) % 60) + 1) = _ from E.2.1]
  · rw [show (gwI u 0 0 0).1 1 (1490 + 5 * ((x - 1 - i) % 60) + 2) = _ from E.2.2.1]
  · rw [show (gwI u 0 0 0).1 1 (1490 + 5 * ((x - 1 - i) % 60) + 3) = _ from E.2.2.2.1]
  · rw [show (gwI u 0 0 0).1 1 (1490 + 5 * ((x - 1 - i) % 60) + 4) = _ from E.2.2.2.2]
theorem ok_went (a0 a1 : Int32) : okc mX9_went mX10_went [.int a0, .int a1] := okq0 fun μ u n a r p t Q B h _ hB => by
  obtain ⟨-, -, -, ⟨x, ex, hxB⟩, -⟩ := h.B
  have eu : (gwI u 0 0 0).1 1 16 = nI x := h.e.1.2.1.2.2.2.2.2.2.trans ex
  have hm : mJ9_min_7cf53 [.int (nI x), .int 60] μ = some (some (.int (nI (min x 60))), μ) := min_e (x := x) (y := 60) (by omega) (by omega)
  rw [eX10_went, eu]
  suffices H : ∃ y, mX6_valueAt [.ref 46, .int a0, .int a1, .int 4] μ = some (some (.int y), μ) ∧ g_ci (mX10_ringAt [.ref 0, .int a0, .int (nI x)] (gwI u 0 0 0)) (fun a3 u1 => (if a3 = (-1) then some (some (.int (-1)), u1) else (g_ci (mX10_isIn [.ref 0, .int a1, .int 0, .int 3] u1) (fun a2 u2 => (if a2 = 0 then some (some (.int (-1)), u2) else (if g_in ((1790 + (4 * a3)) + a1) 2030 = true then some (some (.int (u2.1 1 (Int32.toNatClampNeg ((1790 + (4 * a3)) + a1)))), u2) else none)))))) = some (some (.int y), gwI u 0 0 0) by
    obtain ⟨y, y1, y2⟩ := H
    exact ⟨y, by rw [eX9_went, lfq rfl rfl y1 rfl, g_ci_some], y2⟩
  rw [eX6_valueAt_46, ex, hm, g_ci_some]
  rcases rng (x := a0) (m := min x 60) (by omega) with q | ⟨i, hi, rfl⟩
  · refine ⟨-1, ?_, by rw [ring_no (by omega) q, g_ci_some, if_pos rfl]⟩
    rcases q with q | ⟨q, q2⟩
    · rw [if_pos q]
    · rw [if_neg q, if_neg (fun z => by grind)]
  rw [if_neg (nneg (by omega)), if_pos (nI_lt hi (by omega)), ring_at (by omega) (by omega) (by omega), g_ci_some, if_neg (nm1 (by omega)), show mJ9_min_7cf53 [.int 4, .int 5] μ = some (some (.int 4), μ) from min_e (x := 4) (y := 5) (by omega) (by omega), g_ci_some]
  rcases rng (x := a1) (m := 4) (by omega) with q | ⟨w, hw, rfl⟩
  · refine ⟨-1, ?_, ?_⟩
    · rcases q with q | ⟨q, q2⟩
      · rw [if_pos q]
      · rw [if_neg q, if_neg (fun z => by have q2 : (4 : Int32) ≤ a1 := q2; grind)]
    · rw [show mX10_isIn [.ref 0, .int a1, .int 0, .int 3] (gwI u 0 0 0) = _ from isIn_0 (m := 3) (by omega) q, g_ci_some, if_pos rfl]
  have hl : ∀ w, w < 4 → gLen LB 0 (47 + 1 + w) = 60 := by decide
  have hk : (x - 1 - i) % 60 < 60 := Nat.mod_lt _ (by omega)
  rw [if_neg (nneg (by omega)), if_pos (show nI w < (4 : Int32) from nI_lt (a := w) (b := 4) hw (by omega)), gin (show w < 5 by omega) (by omega), if_pos rfl, ex, show nI x - 1 = nI (x - 1) from nsb (b := 1) (by omega), nsb (by omega), c_mod60 (by omega), g_ci_some, tn (show w < 2147483648 by omega), hl w hw, gin hk (by omega), if_pos rfl, tn (by omega)]
  rw [show mX10_isIn [.ref 0, .int (nI w), .int 0, .int 3] (gwI u 0 0 0) = _ from isIn_1 (y := 0) (z := 3) (by omega) (by omega) (by omega), g_ci_some, if_neg (by decide), show (1790 : Int32) + 4 * nI ((x - 1 - i) % 60) + nI w = nI (1790 + 4 * ((x - 1 - i) % 60) + w) from by rw [show (1790 : Int32) = nI 1790 from rfl, show (4 : Int32) = nI 4 from rfl, nml, nad, nad], gin (show 1790 + 4 * ((x - 1 - i) % 60) + w < 2030 by omega) (by omega), if_pos rfl, tn (by omega)]
  have E := h.e.2.2.2.2.2 _ hk
  refine ⟨_, rfl, ?_⟩
  have hc : w = 0 ∨ w = 1 ∨ w = 2 ∨ w = 3 := by omega
  rcases hc with rfl | rfl | rfl | rfl
  · rw [show (gwI u 0 0 0).1 1 (1790 + 4 * ((x - 1 - i) % 60) + 0) = _ from E.1]
  · rw [show (gwI u 0 0 0).1 1 (1790 + 4 * ((x - 1 - i) % 60) + 1) = _ from E.2.1]
  · rw [show (gwI u 0 0 0).1 1 (1790 + 4 * ((x - 1 - i) % 60) + 2) = _ from E.2.2.1]
  · rw [show (gwI u 0 0 0).1 1 (1790 + 4 * ((x - 1 - i) % 60) + 3) = _ from E.2.2.2]
end ASK
