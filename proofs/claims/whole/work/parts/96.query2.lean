section ASK2
variable {b u b' u' μ μ' ν : gMem} {n a r p t B k : Nat} {Q : List Nat}
theorem ok_queue (a0 : Int32) : okc mX9_queue mX10_queue [.int a0] := okq fun μ u n a r p t Q B h0 _ _ => by
  have h := (BR_iff.mp h0).1
  obtain ⟨L, b', c1, c2, c3, c4, c5, c6⟩ := c_lineUp h
  obtain ⟨M, u', d1, d2, d3, d4, d5, d6⟩ := m_laysQueue h
  obtain rfl := c5.uniq d5
  have hb : bs μ b' := ⟨c2, fun c i hc => c3 c i (by omega) (by omega)⟩
  rw [eX9_queue, lf0 rfl rfl c1 rfl, g_ci_some, eX10_queue, d1, g_cv_some, d3]
  rcases rng (x := a0) (m := L.length) (by omega) with q | ⟨i, hi, rfl⟩
  · refine ⟨-1, _, u', ?_, ?_, hb.pt, cfr.pt, d2.qs⟩
    · rcases q with q | ⟨q, q2⟩
      · rw [if_pos q]
      · rw [if_neg q, if_pos q2]
    · rcases q with q | ⟨q, q2⟩
      · rw [if_pos q]
      · rw [if_neg q, if_pos q2]
  · rw [if_neg (nneg (by omega)), if_neg (nI_ge hi (by omega)), gin (show i < 60 by omega) (by omega), if_pos rfl, if_neg (nneg (by omega)), if_neg (nI_ge hi (by omega)), if_pos rfl, tn (by omega), pt0 (by omega), c4 i hi, d4 i hi]
    exact ⟨_, _, u', rfl, rfl, hb.pt, cfr.pt, d2.qs⟩
theorem ok_lends (a0 a1 : Int32) : okc mX9_lends mX10_lends [.int a0, .int a1] := okq fun μ u n a r p t Q B h0 _ _ => by
  have h := (BR_iff.mp h0).1
  have hn := h.A.n60
  rcases slot_both (x := a0) h with ⟨c1, c2⟩ | ⟨s, hs, rfl, c1, c2⟩
  · exact ⟨-1, μ, _, by rw [eX9_lends, lfq rfl rfl c1 rfl, g_ci_some, if_pos rfl], by rw [eX10_lends, c2, g_ci_some, if_pos rfl], bs.rf, cfr.rf, qs.rf⟩
  obtain ⟨G, b', hG, e1, e2, e3, e4, e5, e6⟩ := c_choose (s := s) (le := 1) h
  obtain ⟨N, u', f1, f2, f3, f4, f5⟩ := m_laysLenders (s := s) h
  rcases hG with ⟨q, -⟩ | ⟨-, M, hM, rfl⟩
  · exact absurd q (by decide)
  obtain rfl := hM.uniq f1
  have hl : (owL μ s n).length + (gr μ (oC μ (owL μ s n)) M).1.length ≤ 60 := by
    have z1 := owL_rdL (b := μ) (s := s) n
    have z2 := (gr_sub (b := μ) (c := oC μ (owL μ s n)) (O := M)).1.length_le
    have z3 : M.length ≤ (rdL μ s n).length := nodup_le (hM.1.imp (fun h e => by subst e; exact absurd h (Nat.lt_irrefl _))) (fun x hx => (hM.2 x).mp hx)
    omega
  have E1 := eX9_lends (nI s) a1 μ
  rw [lfq rfl rfl c1 rfl, g_ci_some, if_neg (by decide), lf0 rfl rfl e1 rfl, g_cv_some, pt0 (by omega), e4] at E1
  have E2 := eX10_lends (nI s) a1 u
  rw [c2, g_ci_some, if_neg (by decide), f2, g_cv_some, f4] at E2
  rw [E1, E2]
  by_cases q : a1 = -1
  · rw [if_pos q, if_pos q]
    exact ⟨_, _, u', rfl, rfl, e2.pt, cfr.pt, f3.qs⟩
  rw [if_neg q, if_neg q]
  suffices H : ∃ y, mX3_lentAt [.ref 53, .int a1] (g_pt 0 μ b') = some (some (.int y), g_pt 0 μ b') ∧ (if a1 < 0 then some (some (Value.int (-1)), u') else (if nI (gr μ (oC μ (owL μ s n)) M).1.length ≤ a1 then some (some (.int (-1)), u') else (if g_in a1 60 = true then some (some (.int (u'.1 13 (Int32.toNatClampNeg a1))), u') else none))) = some (some (.int y), u') by
    obtain ⟨y, y1, y2⟩ := H
    exact ⟨y, _, u', by rw [lfq rfl rfl y1 rfl, g_ci_some], y2, e2.pt, cfr.pt, f3.qs⟩
  rw [eX3_lentAt, pt0 (by omega), e4, pt0 (by omega), e3]
  rcases rng (x := a1) (m := (gr μ (oC μ (owL μ s n)) M).1.length) (by omega) with q | ⟨i, hi, rfl⟩
  · refine ⟨-1, ?_, ?_⟩
    · rcases q with q | ⟨q, q2⟩
      · rw [if_pos q]
      · rw [if_neg q, if_pos q2]
    · rcases q with q | ⟨q, q2⟩
      · rw [if_pos q]
      · rw [if_neg q, if_pos q2]
  · rw [if_neg (nneg (by omega)), if_neg (nI_ge hi (by omega)), nad, gin (show (owL μ s n).length + i < 60 by omega) (by omega), if_pos rfl, if_neg (nneg (by omega)), if_neg (nI_ge hi (by omega)), gin (show i < 60 by omega) (by omega), if_pos rfl, tn (by omega), tn (by omega), pt0 (by omega), f5 i hi, e6 _ (by rw [List.length_append]; omega), List.getElem_append_right (by omega)]
    refine ⟨_, rfl, ?_⟩
    simp only [Nat.add_sub_cancel_left]
theorem cB_skip {f : Nat → Bool} {c m : Nat} (h : ∀ i, c ≤ i → i < c + m → f i = false) : cB f (c + m) = cB f c := by
  rw [cB_add, cB_zero (fun i hi => h (c + i) (by omega) (by omega))]; rfl
theorem ok_where (a0 a1 : Int32) : okc mX9_where mX10_where [.int a0, .int a1] := okq fun μ u n a r p t Q B h0 _ _ => by
  have h := (BR_iff.mp h0).1
  have hp := h.A.p32
  have no : ∀ e1 : mX9_where [.ref 177, .int a0, .int a1] μ = some (some (.int (-1)), μ), ∀ e2 : mX10_where [.ref 0, .int a0, .int a1] u = some (some (.int (-1)), gwI u 0 0 0), ∃ x μ' u', mX9_where [.ref 177, .int a0, .int a1] μ = some (some (.int x), μ') ∧ mX10_where [.ref 0, .int a0, .int a1] u = some (some (.int x), u') ∧ bs μ μ' ∧ cfr μ μ' ∧ qs (gwI u 0 0 0) u' := fun e1 e2 => ⟨-1, μ, _, e1, e2, bs.rf, cfr.rf, qs.rf⟩
  have pp : (g_lf 0 mX2_p) [.ref 0] μ = some (some (.int (nI p)), μ) := lfq rfl rfl (by rw [eX2_p, h.A.2.2.2.2.2.1]) rfl
  by_cases q1 : a0 < 1
  · exact no (by rw [eX9_where, if_pos q1]) (by rw [eX10_where, m_cols h.e h.A, g_ci_some, eX10_isIn, if_pos q1, g_ci_some, if_pos rfl])
  obtain ⟨sz, hsz, rfl⟩ := nat_of (x := a0) (fun z => q1 (by grind))
  have s1 : ¬ sz < 1 := fun z => q1 (nI_lt (a := sz) (b := 1) z (by omega))
  by_cases q2 : p < sz
  · exact no (by rw [eX9_where, if_neg q1, pp, g_ci_some, if_pos (nI_lt q2 hsz)]) (by rw [eX10_where, m_cols h.e h.A, g_ci_some, eX10_isIn, if_neg q1, if_pos (nI_lt q2 hsz), g_ci_some, if_pos rfl])
  have q3 : ¬ nI p < nI sz := nI_nlt (by omega) (by omega)
  rcases rng (x := a1) (m := 2) (by omega) with q | ⟨w, hw, rfl⟩
  · refine no ?_ ?_
    · rw [eX9_where, if_neg q1, pp, g_ci_some, if_neg q3]
      rcases q with q | ⟨q, q2⟩
      · rw [if_pos q]
      · rw [if_neg q, if_neg (fun z => by have q2 : (2 : Int32) ≤ a1 := q2; grind)]
    · rw [eX10_where, m_cols h.e h.A, g_ci_some, eX10_isIn, if_neg q1, if_neg q3, g_ci_some, if_neg (by decide), show mX10_isIn [.ref 0, .int a1, .int 0, .int 1] (gwI u 0 0 0) = _ from isIn_0 (m := 1) (by omega) q, g_ci_some, if_pos rfl]
  obtain ⟨m, hW⟩ := wd_isW h.A.2.2.2.2.2.2 (show sz ≤ p by omega)
  obtain ⟨o, b', e1, e2, e3⟩ := c_spotFor h.A h.T h.P h.S hW
  obtain ⟨o', u', f1, f2, f3, f4⟩ := m_finds h.e h.A h.T h.J h.P h.S hW
  obtain rfl := e1.uniq f1
  have E1 := eX9_where (nI sz) (nI w) μ
  rw [if_neg q1, pp, g_ci_some, if_neg q3, if_neg (nneg (by omega)), if_pos (show nI w ≤ (1 : Int32) from nI_le (a := w) (b := 1) (by omega) (by omega)), c_widthOf (by omega), g_ci_some, lf0 rfl rfl e3 rfl, g_ci_some] at E1
  have E2 := eX10_where (nI sz) (nI w) u
  rw [m_cols h.e h.A, g_ci_some, eX10_isIn, if_neg q1, if_neg q3, g_ci_some, if_neg (by decide), show mX10_isIn [.ref 0, .int (nI w), .int 0, .int 1] (gwI u 0 0 0) = _ from isIn_1 (y := 0) (z := 1) (by omega) (by omega) (by omega), g_ci_some, if_neg (by decide), m_widthOf (by omega), g_ci_some, f3, g_ci_some] at E2
  rw [E1, E2]
  clear E1 E2
  cases o with
  | none => exact ⟨-1, _, u', rfl, rfl, e2.bs.pt, cfr.pt, f2.qs⟩
  | some i =>
    obtain ⟨f5, f6, f7⟩ := f4 i rfl
    rw [show eS (some i) = nI i from rfl, if_neg (nm1 (by omega)), if_neg (show ¬ (if (some i).isSome = true then (1 : Int32) else 0) = 0 by simp), f5, f6, eX1_slotOf, eX1_columnOf, g_ci_some, g_ci_some, show nI i / 32 = nI (i / 32) from pk_div (d := 32) (by omega) (by omega) (by omega), show nI (i / 32) * 32 = nI (i / 32 * 32) from nml _ 32, nsb (by omega), show i - i / 32 * 32 = i % 32 by omega]
    by_cases z : nI w = 0
    · rw [if_pos z, if_pos z]
      exact ⟨_, _, u', rfl, rfl, e2.bs.pt, cfr.pt, f2.qs⟩
    · rw [if_neg z, if_neg z]
      exact ⟨_, _, u', rfl, rfl, e2.bs.pt, cfr.pt, f2.qs⟩
theorem ok_slot (a0 a1 : Int32) : okc mX9_slot mX10_slot [.int a0, .int a1] := okq0 fun μ u n a r p t Q B h _ _ => by
  have hr := h.A.2.2.2.2.1
  rcases slot_both (x := a0) h with ⟨c1, c2⟩ | ⟨s, hs, rfl, c1, c2⟩
  · exact ⟨-1, by rw [eX9_slot, lfq rfl rfl c1 rfl, g_ci_some, if_pos rfl], by rw [eX10_slot, c2, g_ci_some, if_pos rfl]⟩
  have E1 := eX9_slot (nI s) a1 μ
  rw [lfq rfl rfl c1 rfl, g_ci_some, if_neg (by decide)] at E1
  have E2 := eX10_slot (nI s) a1 u
  rw [c2, g_ci_some, if_neg (by decide)] at E2
  rw [E1, E2]
  clear E1 E2
  rcases rng (x := a1) (m := 6) (by omega) with q | ⟨w, hw, rfl⟩
  · refine ⟨-1, ?_, ?_⟩
    · have nn : ∀ v : Nat, v < 6 → ¬ a1 = nI v := fun v hv z => by
        rcases q with q | ⟨q, q2⟩
        · rw [z] at q; exact nneg (by omega) q
        · rw [z] at q2; exact nI_ge hv (by omega) q2
      rw [if_neg (show ¬ a1 = 0 from nn 0 (by omega)), if_neg (show ¬ a1 = 1 from nn 1 (by omega)), if_neg (show ¬ a1 = 2 from nn 2 (by omega)), if_neg (show ¬ a1 = 3 from nn 3 (by omega)), if_neg (show ¬ a1 = 4 from nn 4 (by omega)), if_neg (show ¬ a1 = 5 from nn 5 (by omega))]
    · rw [show mX10_isIn [.ref 0, .int a1, .int 0, .int 5] (gwI u 0 0 0) = _ from isIn_0 (m := 5) (by omega) q, g_ci_some, if_pos rfl]
  rw [show mX10_isIn [.ref 0, .int (nI w), .int 0, .int 5] (gwI u 0 0 0) = _ from isIn_1 (y := 0) (z := 5) (by omega) (by omega) (by omega), g_ci_some, if_neg (show ¬ (1 : Int32) = 0 by decide)]
  have hc : w = 0 ∨ w = 1 ∨ w = 2 ∨ w = 3 ∨ w = 4 ∨ w = 5 := by omega
  have eT := h.e.2.2.2.1 s hs
  rcases hc with rfl | rfl | rfl | rfl | rfl | rfl
  · rw [if_pos (show nI 0 = 0 from rfl), if_pos (show nI 0 = 0 from rfl), lfq rfl rfl (c_inSlot h.A (nI s)) rfl, g_ci_some, m_jobsIn h.e h.A h.P (by omega), g_ci_some]
    exact ⟨_, rfl, rfl⟩
  · rw [if_neg (show ¬ nI 1 = 0 by decide), if_pos (show nI 1 = 1 from rfl), if_neg (show ¬ nI 1 = 0 by decide), if_pos (show nI 1 = 1 from rfl), lfq rfl rfl (c_weightOf h) rfl, g_ci_some, m_weightOf (by omega) h, g_ci_some]
    exact ⟨_, rfl, rfl⟩
  · obtain ⟨v, v1, v2⟩ := leastPass_both h.e.2.2.2.1 h.A.2.2.1 (h.e.h.r.trans h.A.2.2.1) hr
    rw [if_neg (show ¬ nI 2 = 0 by decide), if_neg (show ¬ nI 2 = 1 by decide), if_pos (show nI 2 = 2 from rfl), if_neg (show ¬ nI 2 = 0 by decide), if_neg (show ¬ nI 2 = 1 by decide), if_pos (show nI 2 = 2 from rfl), gin (show s < 8 by omega) (by omega), if_pos rfl, gin (show s < 9 by omega) (by omega), if_pos rfl, lfq rfl rfl v1 rfl, g_cl_some, v2, g_cl_some, tn (by omega), eT.2]
    exact ⟨_, rfl, rfl⟩
  · rw [if_neg (show ¬ nI 3 = 0 by decide), if_neg (show ¬ nI 3 = 1 by decide), if_neg (show ¬ nI 3 = 2 by decide), if_pos (show nI 3 = 3 from rfl), if_neg (show ¬ nI 3 = 0 by decide), if_neg (show ¬ nI 3 = 1 by decide), if_neg (show ¬ nI 3 = 2 by decide), if_pos (show nI 3 = 3 from rfl), gin (show s < 8 by omega) (by omega), if_pos rfl, show (1482 : Int32) + nI s = nI (1482 + s) from nad 1482 s, gin (show 1482 + s < 2030 by omega) (by omega), if_pos rfl, tn (by omega), tn (by omega)]
    exact ⟨_, rfl, by rw [show (gwI u 0 0 0).1 1 (1482 + s) = _ from eT.1]⟩
  · rw [if_neg (show ¬ nI 4 = 0 by decide), if_neg (show ¬ nI 4 = 1 by decide), if_neg (show ¬ nI 4 = 2 by decide), if_neg (show ¬ nI 4 = 3 by decide), if_pos (show nI 4 = 4 from rfl), if_neg (show ¬ nI 4 = 0 by decide), if_neg (show ¬ nI 4 = 1 by decide), if_neg (show ¬ nI 4 = 2 by decide), if_neg (show ¬ nI 4 = 3 by decide), if_pos (show nI 4 = 4 from rfl), gin (show s < 8 by omega) (by omega), if_pos rfl, tn (by omega), bitCount_e, g_ci_some, m_blocksIn0 h.e h.A h.J h.P (by omega), g_ci_some, ones_e, g_ci_some, h.S s hs]
    exact ⟨_, rfl, rfl⟩
  · rw [if_neg (show ¬ nI 5 = 0 by decide), if_neg (show ¬ nI 5 = 1 by decide), if_neg (show ¬ nI 5 = 2 by decide), if_neg (show ¬ nI 5 = 3 by decide), if_neg (show ¬ nI 5 = 4 by decide), if_pos (show nI 5 = 5 from rfl), if_neg (show ¬ nI 5 = 0 by decide), if_neg (show ¬ nI 5 = 1 by decide), if_neg (show ¬ nI 5 = 2 by decide), if_neg (show ¬ nI 5 = 3 by decide), if_neg (show ¬ nI 5 = 4 by decide), lfq rfl rfl (c_cellsIn h.A h.J h.P (by omega)) rfl, g_ci_some, bitCount_e, g_ci_some, m_cellsIn h.e h.A h.J h.P (by omega), g_ci_some, ones_e, g_ci_some]
    exact ⟨_, rfl, rfl⟩
/-- the first of those that are, below a bound -/
def fst1 (G : Nat → Bool) (c : Nat) (x : Int32) : Prop := (cB G c = 0 ∧ x = -1 ∧ ∀ i, i < c → G i = false) ∨ (∃ i, i < c ∧ G i = true ∧ (∀ j, j < i → G j = false) ∧ x = nI i ∧ 1 ≤ cB G c)
theorem free_loop {s w m v : Nat} (h : BW b u n a r p t Q B) (hs : s < r) (hW : isW p w m) : ∀ k c, p ≤ c + k → c ≤ p → c % w = 0 → ∀ x, fst1 (GC p w (b.1 32 s ||| b.1 0 13)) c x → ∃ y, fst1 (GC p w (b.1 32 s ||| b.1 0 13)) p y ∧ rX10_free_56 (nI s) (nI w) (nI v) (nI (cB (GC p w (b.1 32 s ||| b.1 0 13)) c)) x (nI c) u = (if nI v = 0 then some (some (.int (nI (cB (GC p w (b.1 32 s ||| b.1 0 13)) p))), u) else some (some (.int y), u)) := by
  have hp := h.A.p32
  have hr := h.A.2.2.2.2.1
  have hle := hW.le
  have hdv := hW.dvd h.A.2.2.2.2.2.2
  have hbz : bz b r s = b.1 32 s := if_pos hs
  intro k
  induction k with
  | zero =>
    intro c h1 h2 h3 x hx
    obtain rfl : c = p := by omega
    exact ⟨x, hx, by rw [eX10_free_56, m_cols h.e h.A, g_ci_some, if_pos (nI_le (by omega) (by omega))]⟩
  | succ k ih =>
    intro c h1 h2 h3 x hx
    by_cases q : c = p
    · subst q
      exact ⟨x, hx, by rw [eX10_free_56, m_cols h.e h.A, g_ci_some, if_pos (nI_le (by omega) (by omega))]⟩
    · have hc : c < p := by omega
      have hfit := mul_fit hle.1 hdv h3 hc
      have hskip : ∀ i, c + 1 ≤ i → i < c + 1 + (w - 1) → GC p w (b.1 32 s ||| b.1 0 13) i = false := fun i i1 i2 => by
        cases z : GC p w (b.1 32 s ||| b.1 0 13) i with
        | false => rfl
        | true =>
          have z1 := (GC_iff.mp z).1
          have := Nat.div_add_mod i w
          have := Nat.div_add_mod c w
          have z2 : (i - c) % w = 0 := by
            obtain ⟨x, hx⟩ := Nat.dvd_of_mod_eq_zero z1
            obtain ⟨y, hy⟩ := Nat.dvd_of_mod_eq_zero h3
            rw [hx, hy, ← Nat.mul_sub]; exact Nat.mul_mod_right _ _
          rw [Nat.mod_eq_of_lt (by omega)] at z2
          omega
      have ecw : c + w = c + 1 + (w - 1) := by omega
      have hcB : cB (GC p w (b.1 32 s ||| b.1 0 13)) (c + w) = cB (GC p w (b.1 32 s ||| b.1 0 13)) c + (if GC p w (b.1 32 s ||| b.1 0 13) c then 1 else 0) := by
        rw [ecw, cB_skip hskip]; rfl
      rw [eX10_free_56, m_cols h.e h.A, g_ci_some, if_neg (nI_ge hc (by omega)), m_isFree h.e h.A h.J h.P h.S (by omega) hle.2, g_ci_some, hbz, nad]
      have hG : GC p w (b.1 32 s ||| b.1 0 13) c = decide ((b.1 32 s ||| b.1 0 13) &&& BK c w = 0) := by
        unfold GC; rw [decide_eq_true h3, decide_eq_true hc]; rfl
      have hm : (c + w) % w = 0 := by rw [Nat.add_mod_right]; exact h3
      by_cases z : (b.1 32 s ||| b.1 0 13) &&& BK c w = 0
      · rw [decide_eq_true z] at hG
        rw [hG, if_pos rfl] at hcB
        rw [show (if (b.1 32 s ||| b.1 0 13) &&& BK c w = 0 then (1 : Int32) else 0) = 1 from if_pos z, if_neg (show ¬ (1 : Int32) = 0 by decide), nI_1, ← hcB]
        have hcle := cB_le (GC p w (b.1 32 s ||| b.1 0 13)) c
        rcases hx with ⟨x1, x2, x3⟩ | ⟨i, i1, i2, i3, i4, i5⟩
        · rw [if_pos (show nI (cB (GC p w (b.1 32 s ||| b.1 0 13)) c) = 0 from by rw [x1]; rfl)]
          exact ih (c + w) (by omega) hfit hm (nI c) (Or.inr ⟨c, by omega, hG, x3, rfl, by omega⟩)
        · rw [if_neg (show ¬ nI (cB (GC p w (b.1 32 s ||| b.1 0 13)) c) = 0 from by rw [nz (by omega)]; omega)]
          exact ih (c + w) (by omega) hfit hm x (Or.inr ⟨i, by omega, i2, i3, i4, by omega⟩)
      · rw [decide_eq_false z] at hG
        rw [hG, if_neg (by decide), Nat.add_zero] at hcB
        rw [show (if (b.1 32 s ||| b.1 0 13) &&& BK c w = 0 then (1 : Int32) else 0) = 0 from if_neg z, if_pos rfl, ← hcB]
        refine ih (c + w) (by omega) hfit hm x ?_
        rcases hx with ⟨x1, x2, x3⟩ | ⟨i, i1, i2, i3, i4, i5⟩
        · refine Or.inl ⟨by omega, x2, fun i hi => ?_⟩
          by_cases y1 : i < c
          · exact x3 i y1
          · by_cases y2 : i = c
            · subst y2; exact hG
            · exact hskip i (by omega) (by omega)
        · exact Or.inr ⟨i, by omega, i2, i3, i4, by omega⟩
theorem ok_free (a0 a1 a2 : Int32) : okc mX9_free mX10_free [.int a0, .int a1, .int a2] := okq0 fun μ u n a r p t Q B h _ _ => by
  have hp := h.A.p32
  have hr := h.A.2.2.2.2.1
  have pp : (g_lf 0 mX2_p) [.ref 0] μ = some (some (.int (nI p)), μ) := lfq rfl rfl (by rw [eX2_p, h.A.2.2.2.2.2.1]) rfl
  rcases slot_both (x := a0) h with ⟨c1, c2⟩ | ⟨s, hs, rfl, c1, c2⟩
  · refine ⟨-1, ?_, by rw [eX10_free, c2, g_ci_some, if_pos rfl]⟩
    rw [eX9_free, lfq rfl rfl c1 rfl, pp]
    simp only [g_ci_some]
    rw [lfq rfl rfl c1 rfl]
    simp only [g_ci_some, if_pos]
    by_cases q1 : a1 < 1
    · rw [if_pos q1]
    · rw [if_neg q1]
      by_cases q2 : nI p < a1
      · rw [if_pos q2]
      · rw [if_neg q2]
        obtain ⟨w, hw, rfl⟩ := nat_of (x := a1) (fun z => q1 (by grind))
        rw [nlt (by omega) hw] at q2
        rw [c_widthOf (by omega), g_ci_some, lfq rfl rfl c1 rfl]
        simp only [g_ci_some, if_pos]
        split <;> rfl
  have hc1 := lfq (μ := μ) rfl rfl c1 rfl
  by_cases q1 : a1 < 1
  · refine ⟨-1, by rw [eX9_free, if_pos q1, hc1, g_ci_some, if_neg (by decide), if_pos rfl], ?_⟩
    rw [eX10_free, c2, g_ci_some, if_neg (by decide), m_cols h.e h.A, g_ci_some, eX10_isIn, if_pos q1, g_ci_some, if_pos rfl]
  by_cases q2 : nI p < a1
  · refine ⟨-1, by rw [eX9_free, if_neg q1, pp, g_ci_some, if_pos q2, hc1, g_ci_some, if_neg (by decide), if_pos rfl], ?_⟩
    rw [eX10_free, c2, g_ci_some, if_neg (by decide), m_cols h.e h.A, g_ci_some, eX10_isIn, if_neg q1, if_pos q2, g_ci_some, if_pos rfl]
  obtain ⟨w, hw, rfl⟩ := nat_of (x := a1) (fun z => q1 (by grind))
  have q3 := q2
  rw [nlt (by omega) hw] at q3
  by_cases q4 : ¬ nI (wd w) = nI w
  · refine ⟨-1, by rw [eX9_free, if_neg q1, pp, g_ci_some, if_neg q2, c_widthOf (by omega), g_ci_some, if_neg q4, hc1, g_ci_some, if_neg (by decide), if_pos rfl], ?_⟩
    rw [eX10_free, c2, g_ci_some, if_neg (by decide), m_cols h.e h.A, g_ci_some, eX10_isIn, if_neg q1, if_neg q2, g_ci_some, if_neg (by decide), m_widthOf (by omega), g_ci_some, if_neg q4]
  have q4 : nI (wd w) = nI w := Classical.byContradiction q4
  have E1 := eX9_free (nI s) (nI w) a2 μ
  rw [if_neg q1, pp, g_ci_some, if_neg q2, c_widthOf (by omega), g_ci_some, if_pos q4, hc1, g_ci_some, if_neg (show ¬ (1 : Int32) = 0 by decide), if_neg (show ¬ (1 : Int32) = 0 by decide)] at E1
  have E2 := eX10_free (nI s) (nI w) a2 u
  rw [c2, g_ci_some, if_neg (show ¬ (1 : Int32) = 0 by decide), m_cols h.e h.A, g_ci_some, eX10_isIn, if_neg q1, if_neg q2, g_ci_some, if_neg (show ¬ (1 : Int32) = 0 by decide), m_widthOf (by omega), g_ci_some, if_pos q4] at E2
  rw [E1, E2]
  clear E1 E2
  rcases rng (x := a2) (m := 2) (by omega) with q | ⟨v, hv, rfl⟩
  · refine ⟨-1, ?_, by rw [show mX10_isIn [.ref 0, .int a2, .int 0, .int 1] (gwI u 0 0 0) = _ from isIn_0 (m := 1) (by omega) q, g_ci_some, if_pos rfl]⟩
    rcases q with q | ⟨q, q5⟩
    · rw [if_pos q]
    · rw [if_neg q, if_neg (fun z => by have q5 : (2 : Int32) ≤ a2 := q5; grind)]
  rw [show mX10_isIn [.ref 0, .int (nI v), .int 0, .int 1] (gwI u 0 0 0) = _ from isIn_1 (y := 0) (z := 1) (by omega) (by omega) (by omega), g_ci_some, if_neg (show ¬ (1 : Int32) = 0 by decide), if_neg (nneg (by omega)), if_pos (show nI v ≤ (1 : Int32) from nI_le (a := v) (b := 1) (by omega) (by omega)), lfq rfl rfl (c_freeIn h.A hs) rfl, g_ci_some]
  rw [neq (by have := wd_pos w; omega) (by omega)] at q4
  obtain ⟨m, hW⟩ := wd_isW h.A.2.2.2.2.2.2 (show w ≤ p by omega)
  rw [q4] at hW
  rw [show mX1_starts [.int (ups μ p &&& (μ.1 32 s ^^^ (-1))), .int (nI w)] μ = some (some (.int (stp (ups μ p &&& (μ.1 32 s ^^^ (-1))) m)), μ) from by rw [hW.1]; exact starts_e hW.2.1, g_ci_some, bitCount_e, g_ci_some]
  have hG := fun c (hc : c < 32) => stG (b := μ) h.A.2.2.2.2.2.2 hW (μ.1 32 s) hc
  have hGp : ∀ i, p ≤ i → GC p w (μ.1 32 s ||| μ.1 0 13) i = false := fun i hi => by
    cases z : GC p w (μ.1 32 s ||| μ.1 0 13) i with
    | false => rfl
    | true => have := (GC_iff.mp z).2.1; omega
  have hpc : pcn (stp (ups μ p &&& (μ.1 32 s ^^^ (-1))) m) = cB (GC p w (μ.1 32 s ||| μ.1 0 13)) p := by
    unfold pcn
    have e := cB_skip (f := GC p w (μ.1 32 s ||| μ.1 0 13)) (c := p) (m := 32 - p) (fun i i1 _ => hGp i i1)
    rw [show p + (32 - p) = 32 by omega] at e
    rw [cB_congr (fun i hi => hG i hi), e]
  obtain ⟨y, y1, y2⟩ := free_loop (v := v) h hs hW p 0 (by omega) (by omega) (Nat.zero_mod _) (-1) (Or.inl ⟨rfl, rfl, fun i hi => by omega⟩)
  rw [show rX10_free_56 (nI s) (nI w) (nI v) 0 (-1) 0 (gwI u 0 0 0) = _ from y2, hpc]
  by_cases z : nI v = 0
  · rw [if_pos z, if_pos z]; exact ⟨_, rfl, rfl⟩
  · rw [if_neg z, if_neg z]
    refine ⟨y, ?_, rfl⟩
    rcases y1 with ⟨x1, x2, x3⟩ | ⟨i, i1, i2, i3, i4, i5⟩
    · have e0 : stp (ups μ p &&& (μ.1 32 s ^^^ (-1))) m = 0 := b_ext (fun i hi => by
        rw [hG i hi, b_0]
        by_cases w1 : i < p
        · exact x3 i w1
        · exact hGp i (by omega))
      rw [e0, lowest_0, g_ci_some, x2]
    · rw [lowest_e (i := i) (by omega) (by rw [hG i (by omega)]; exact i2) (fun j hj => by rw [hG j (by omega)]; exact i3 j hj), g_ci_some, i4]
end ASK2
