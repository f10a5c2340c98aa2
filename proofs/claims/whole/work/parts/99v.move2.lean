section MOVE2
variable {b u b' u' μ μ' ν : gMem} {n a r p t B k o : Nat} {Q : List Nat}
/-- a job is out of its slot -/
def OT (μ m : gMem) (r j : Nat) : Prop := (∀ c i, c ∉ [12, 13, 32] → m.1 c i = μ.1 c i) ∧ (∀ i, m.1 12 i = if i = j then -1 else μ.1 12 i) ∧ (∀ i, m.1 13 i = if i = j then -1 else μ.1 13 i) ∧ (∀ s, s < r → m.1 32 s = if μ.1 12 j = nI s then μ.1 32 s &&& (bl μ j ^^^ (-1)) else μ.1 32 s) ∧ (∀ i, m.2 30 i = μ.2 30 i)
theorem ot_sb {m : gMem} {j y i : Nat} (h : BW μ u n a r p t Q B) (hm : OT μ m r j) (hi : i < n) (hy : y < 8) : sb m y i = if (μ.1 9 i = 2 ∧ i ≠ j) ∧ jn μ 12 i = y then bl μ i else 0 := by
  unfold sb
  rw [hm.2.1 i]
  by_cases q : i = j
  · rw [if_pos q, if_neg (show ¬ (-1 : Int32) = nI y from fun z => nm1 (show y < 2147483648 by omega) z.symm), if_neg (fun z => z.1.2 q)]
  · rw [if_neg q]
    have hbl : bl m i = bl μ i := by
      unfold bl jn
      rw [hm.2.2.1 i, if_neg q, hm.1 14 i (by decide)]
    by_cases q2 : μ.1 12 i = nI y
    · have q3 := ip_slot (h.P.1 i hi) (by omega) q2
      rw [if_pos q2, hbl, if_pos ⟨⟨q3, q⟩, by unfold jn; rw [q2, tn (by omega)]⟩]
    · rw [if_neg q2]
      by_cases q3 : μ.1 9 i = 2
      · rw [if_neg (fun z => q2 (by have := (ip_yes (h.P.1 i hi) q3).1.1; rw [this, z.2]))]
      · rw [if_neg (fun z => q3 z.1.1)]
theorem ot_S {m : gMem} {j : Nat} (h : BW μ u n a r p t Q B) (hj : j < n) (hm : OT μ m r j) : IS m n r := out_IS h hj hm.2.1 hm.2.2.1 (fun i => hm.1 14 i (by decide)) hm.2.2.2.1
/-- alone: nothing else lies in the slot -/
theorem alone_iff {m : gMem} {j : Nat} (h : BW μ u n a r p t Q B) (hj : j < n) (h2 : μ.1 9 j = 2) (hm : OT μ m r j) : m.1 32 (jn μ 12 j) = 0 ↔ nI (cB (fun i => decide (μ.1 12 i = nI (jn μ 12 j))) n) = 1 := by
  have hn := h.A.n60
  have hr := h.A.2.2.2.2.1
  obtain ⟨y1, y2⟩ := (ip_yes (h.P.1 j hj) h2).1
  have hoff := cB_off (f := fun i => decide (μ.1 12 i = nI (jn μ 12 j))) (g := fun i => decide (μ.1 12 i = nI (jn μ 12 j)) && decide (i ≠ j)) hj (decide_eq_true y1) (by show (decide (μ.1 12 j = nI (jn μ 12 j)) && decide (j ≠ j)) = false; rw [decide_eq_false (show ¬ (j ≠ j) from fun z => z rfl), Bool.and_false]) (fun i _ q => by show (decide (μ.1 12 i = nI (jn μ 12 j)) && decide (i ≠ j)) = _; rw [decide_eq_true q, Bool.and_true])
  have hle := cB_le (fun i => decide (μ.1 12 i = nI (jn μ 12 j)) && decide (i ≠ j)) n
  rw [hoff, show (1 : Int32) = nI 1 from rfl, neq (by omega) (by omega)]
  have hS := ot_S h hj hm (jn μ 12 j) y2
  rw [hS]
  constructor
  · intro z
    have : cB (fun i => decide (μ.1 12 i = nI (jn μ 12 j)) && decide (i ≠ j)) n = 0 := cB_zero fun i hi => by
      cases q : (decide (μ.1 12 i = nI (jn μ 12 j)) && decide (i ≠ j)) with
      | false => rfl
      | true =>
        rw [Bool.and_eq_true] at q
        have q1 := of_decide_eq_true q.1
        have q2 := of_decide_eq_true q.2
        have q3 := ip_slot (h.P.1 i hi) (by omega) q1
        have := orF_0 z hi
        rw [ot_sb h hm hi (by omega), if_pos ⟨⟨q3, q2⟩, by unfold jn; rw [q1]; unfold jn; rw [tn (by have := y2; unfold jn at this; omega)]⟩] at this
        exact absurd this (bl_ne h hi q3)
    omega
  · intro z
    refine orF_z (fun i hi => ?_)
    rw [ot_sb h hm hi (by omega)]
    refine if_neg (fun q => ?_)
    have := cB_0 n (show cB (fun i => decide (μ.1 12 i = nI (jn μ 12 j)) && decide (i ≠ j)) n = 0 by omega) i hi
    have this' : (decide (μ.1 12 i = nI (jn μ 12 j)) && decide (i ≠ j)) = false := this
    rw [decide_eq_true (show μ.1 12 i = nI (jn μ 12 j) from by rw [(ip_yes (h.P.1 i hi) q.1.1).1.1, q.2]), decide_eq_true q.1.2] at this'
    cases this'
theorem md_stay {m : gMem} {j : Nat} (h : BW μ u n a r p t Q B) (hs0 : ∀ s, s < r → μ.1 32 s ≠ 0) (hj : j < n) (h2 : μ.1 9 j = 2) (hm : OT μ m r j) (hal : m.1 32 (jn μ 12 j) ≠ 0) : MD μ m u (wA u j 7 0) n r j (fun i => jn μ 12 i) := by
  have hn := h.A.n60
  have hr := h.A.2.2.2.2.1
  obtain ⟨y1, y2⟩ := (ip_yes (h.P.1 j hj) h2).1
  refine ⟨fun c i hc => hm.1 c i (by simp at hc ⊢; omega), by rw [hm.1 29 3 (by decide)]; exact h.A.2.2.1, fun i hi q q2 => ?_, fun i hi q q2 => by rw [hm.2.1, if_neg q], fun i q => by rw [hm.2.2.1, if_neg q], fun i k hi hk _ _ q q' e => ?_, fun y hy => ⟨?_, ?_⟩, ?_, fun y hy => ?_, fun i w hi hw h7 => ?_, fun i hi q => ?_, fun i i1 i2 i3 => ?_, fun c i hc => wA_c hc, fun _ _ _ => rfl⟩
  · rw [hm.2.1, if_neg q]; exact (ip_yes (h.P.1 i hi) q2).1
  · have e' : jn μ 12 i = jn μ 12 k := e
    rw [(ip_yes (h.P.1 i hi) q).1.1, (ip_yes (h.P.1 k hk) q').1.1, e']
  · rw [ot_S h hj hm y hy]
    exact orF_congr fun i hi => ot_sb h hm hi (by omega)
  · by_cases z : y = jn μ 12 j
    · rw [z]; exact hal
    · rw [hm.2.2.2.1 y hy, if_neg (show ¬ μ.1 12 j = nI y by rw [y1, neq (by omega) (by omega)]; omega)]; exact hs0 y hy
  · rw [wA_h (by omega)]; exact h.e.h.r.trans h.A.2.2.1
  · have := h.e.2.2.2.1 y hy
    refine ⟨?_, by rw [wA_l, hm.2.2.2.2]; exact this.2⟩
    rw [hm.1 31 y (by decide), ← this.1]
    unfold mT wA
    rw [gI_r, if_neg (by omega)]
  · rw [mA_wA hi hw (by omega) (by omega), if_neg (by omega)]
  · rw [mA_wA (by omega) (by omega) (by omega) (by omega), if_neg (by omega), hm.2.1, if_neg q]; exact (h.e.j hi).f7
  · unfold wA; rw [gI_r, if_neg (by omega)]
theorem md_gone {m m2 u2 : gMem} {j : Nat} (h : BW μ u n a r p t Q B) (hs0 : ∀ s, s < r → μ.1 32 s ≠ 0) (hj : j < n) (h2 : μ.1 9 j = 2) (hm : OT μ m r j) (hal : m.1 32 (jn μ 12 j) = 0) (hb : drB m m2 n r (jn μ 12 j)) (hu : drU (wA u j 7 0) u2 n r (jn μ 12 j)) : MD μ m2 u u2 n (r - 1) j (fun i => if jn μ 12 i < jn μ 12 j then jn μ 12 i else jn μ 12 i - 1) := by
  have hn := h.A.n60
  have hr := h.A.2.2.2.2.1
  obtain ⟨y1, y2⟩ := (ip_yes (h.P.1 j hj) h2).1
  obtain ⟨d1, d2, d3, d4, d5⟩ := hb
  obtain ⟨v1, v2, v3, v4, v5, v6⟩ := hu
  have hS := ot_S h hj hm
  -- nobody else is there
  have hne : ∀ i, i < n → i ≠ j → μ.1 9 i = 2 → jn μ 12 i ≠ jn μ 12 j := fun i hi q q2 e => by
    have hz := hS (jn μ 12 j) y2
    rw [hal] at hz
    have := orF_0 hz.symm hi
    rw [ot_sb h hm hi (by omega), if_pos ⟨⟨q2, q⟩, e⟩] at this
    exact bl_ne h hi q2 this
  have h12 : ∀ i, i < n → i ≠ j → μ.1 9 i = 2 → m2.1 12 i = nI (if jn μ 12 i < jn μ 12 j then jn μ 12 i else jn μ 12 i - 1) := fun i hi q q2 => by
    obtain ⟨z1, z2⟩ := (ip_yes (h.P.1 i hi) q2).1
    have := hne i hi q q2
    rw [d5, hm.2.1, if_neg q, z1]
    by_cases z : jn μ 12 i < jn μ 12 j
    · rw [if_neg (fun y => y.2 (nI_le (by omega) (by omega))), if_pos z]
    · rw [if_pos ⟨hi, nI_ge (by omega) (by omega)⟩, if_neg z, nI_s1 (by omega)]
  have hup : ∀ x, x < r - 1 → up (jn μ 12 j) x < r ∧ up (jn μ 12 j) x ≠ jn μ 12 j := fun x hx => by unfold up; split <;> omega
  refine ⟨fun c i hc => (d1 c i (by simp at hc ⊢; omega)).trans (hm.1 c i (by simp at hc ⊢; omega)), d2, fun i hi q q2 => ⟨h12 i hi q q2, ?_⟩, fun i hi q q2 => ?_, fun i q => by rw [d1 13 i (by decide), hm.2.2.1, if_neg q], fun i k hi hk q q' q2 q2' e => ?_, fun y hy => ⟨?_, ?_⟩, v3, fun y hy => ?_, fun i w hi hw h7 => ?_, fun i hi q => ?_, fun i i1 i2 i3 => ?_, fun c i hc => (v1 c i hc).trans (wA_c hc), fun c i hc => v5 c i hc⟩
  · have := (ip_yes (h.P.1 i hi) q2).1.2
    have := hne i hi q q2
    show (if jn μ 12 i < jn μ 12 j then jn μ 12 i else jn μ 12 i - 1) < r - 1
    split <;> omega
  · rw [d5, hm.2.1, if_neg q, (ip_no (h.P.1 i hi) q2).1, if_neg (fun y => y.2 (m1_le (by omega)))]
  · have e' : (if jn μ 12 i < jn μ 12 j then jn μ 12 i else jn μ 12 i - 1) = (if jn μ 12 k < jn μ 12 j then jn μ 12 k else jn μ 12 k - 1) := e
    have x1 := hne i hi q q2
    have x2 := hne k hk q' q2'
    rw [(ip_yes (h.P.1 i hi) q2).1.1, (ip_yes (h.P.1 k hk) q2').1.1, neq (by have := (ip_yes (h.P.1 i hi) q2).1.2; omega) (by have := (ip_yes (h.P.1 k hk) q2').1.2; omega)]
    split at e' <;> split at e' <;> omega
  · rw [d3 32 y (by omega) hy, hS _ (hup y hy).1]
    refine orF_congr fun i hi => ?_
    rw [ot_sb h hm hi (by have := (hup y hy).1; omega)]
    by_cases q : μ.1 9 i = 2 ∧ i ≠ j
    · have x1 := hne i hi q.2 q.1
      have hiff : jn μ 12 i = up (jn μ 12 j) y ↔ (if jn μ 12 i < jn μ 12 j then jn μ 12 i else jn μ 12 i - 1) = y := by
        unfold up; split <;> split <;> omega
      by_cases z : jn μ 12 i = up (jn μ 12 j) y
      · rw [if_pos ⟨q, z⟩, if_pos ⟨q, hiff.mp z⟩]
      · rw [if_neg (fun w => z w.2), if_neg (fun w => z (hiff.mpr w.2))]
    · rw [if_neg (fun w => q w.1), if_neg (fun w => q w.1)]
  · obtain ⟨z1, z2⟩ := hup y hy
    rw [d3 32 y (by omega) hy, hm.2.2.2.1 _ z1, if_neg (show ¬ μ.1 12 j = nI (up (jn μ 12 j) y) by rw [y1, neq (by omega) (by omega)]; omega)]
    exact hs0 _ z1
  · obtain ⟨z1, z2⟩ := hup y hy
    have := h.e.2.2.2.1 _ z1
    obtain ⟨w1, w2⟩ := v4 y hy
    rw [w1, w2, d3 31 y (by omega) hy, d4 y hy, hm.1 31 _ (by decide), hm.2.2.2.2, wA_l, ← this.1, ← this.2]
    refine ⟨?_, rfl⟩
    unfold mT wA
    rw [gI_r, if_neg (by omega)]
  · rw [v6 i w hi hw, if_neg (fun z => h7 z.1), mA_wA hi hw (by omega) (by omega), if_neg (by omega)]
  · have E := h.e.j hi
    have a4 : mA (wA u j 7 0) i 4 = μ.1 9 i := by rw [mA_wA (by omega) (by omega) (by omega) (by omega), if_neg (by omega)]; exact E.f4
    have a7 : mA (wA u j 7 0) i 7 = μ.1 12 i + 1 := by rw [mA_wA (by omega) (by omega) (by omega) (by omega), if_neg (by omega)]; exact E.f7
    rw [v6 i 7 (by omega) (by omega), a4, a7, i_sn, d5, hm.2.1, if_neg q]
    by_cases z : μ.1 9 i = 2
    · by_cases w : μ.1 12 i ≤ nI (jn μ 12 j)
      · rw [if_neg (fun y => y.2.2.2 w), if_neg (fun y => y.2 w)]
      · rw [if_pos ⟨rfl, hi, z, w⟩, if_pos ⟨hi, w⟩, i_ns]
    · rw [if_neg (fun y => z y.2.2.1), (ip_no (h.P.1 i hi) z).1, if_neg (fun y => y.2 (m1_le (by omega)))]
  · rw [v2 i i1 i2 i3]; unfold wA; rw [gI_r, if_neg (by omega)]
/-- room for it, on both sides -/
theorem c_room {m : gMem} {j : Nat} {X : Int32} (h : BW μ u n a r p t Q B) (hj : j < n) (h2 : μ.1 9 j = 2) (hm : OT μ m r j) (h0 : ∀ y, y < r → y ≠ jn μ 12 j → m.1 32 y ≠ 0) : ∃ to, to ≤ r ∧ (∀ y, y < to → ¬ (m.1 32 y ≠ 0 ∧ m.1 32 y &&& X = 0)) ∧ (to < r → m.1 32 to ≠ 0 ∧ m.1 32 to &&& X = 0) ∧ mX5_hasRoom [.ref 178, .int (nI j), .int X] μ = some (some (.int (if to < r ∨ r - (if m.1 32 (jn μ 12 j) = 0 then 1 else 0) < jn μ 1 1 then 1 else 0)), μ) := by
  have hn := h.A.n60
  have hp := h.A.p32
  have hr := h.A.2.2.2.2.1
  have hT := h.T.1
  obtain ⟨y1, y2⟩ := (ip_yes (h.P.1 j hj) h2).1
  have q3 := ip_col (h.P.1 j hj) h2
  have q4 := ip_c32 (by omega) (h.J j hj) (h.P.1 j hj) h2
  have loop : ∀ k s, s + k = r → (∀ y, y < s → ¬ (m.1 32 y ≠ 0 ∧ m.1 32 y &&& X = 0)) → ∃ to, to ≤ r ∧ (∀ y, y < to → ¬ (m.1 32 y ≠ 0 ∧ m.1 32 y &&& X = 0)) ∧ (to < r → m.1 32 to ≠ 0 ∧ m.1 32 to &&& X = 0) ∧ rX5_hasRoom_5 (nI j) X (nI (s - (if m.1 32 (jn μ 12 j) = 0 ∧ jn μ 12 j < s then 1 else 0))) (nI s) μ = some (some (.int (if to < r ∨ r - (if m.1 32 (jn μ 12 j) = 0 then 1 else 0) < jn μ 1 1 then 1 else 0)), μ) := by
    intro k
    induction k with
    | zero =>
      intro s hs hno
      obtain rfl : s = r := by omega
      refine ⟨s, Nat.le_refl _, hno, fun z => by omega, ?_⟩
      rw [eX5_hasRoom_5, h.A.2.2.1, if_pos (nI_le (Nat.le_refl _) (by omega)), hT.1]
      have e : (s - (if m.1 32 (jn μ 12 j) = 0 ∧ jn μ 12 j < s then 1 else 0)) = s - (if m.1 32 (jn μ 12 j) = 0 then 1 else 0) := by
        by_cases z : m.1 32 (jn μ 12 j) = 0
        · rw [if_pos ⟨z, y2⟩, if_pos z]
        · rw [if_neg (fun w => z w.1), if_neg z]
      rw [e]
      by_cases z : jn μ 1 1 ≤ s - (if m.1 32 (jn μ 12 j) = 0 then 1 else 0)
      · rw [if_pos (nI_le z (by omega)), if_neg (show ¬ (s < s ∨ s - (if m.1 32 (jn μ 12 j) = 0 then 1 else 0) < jn μ 1 1) by omega)]
      · rw [if_neg (nI_ge (by omega) (by omega)), if_pos (show (s < s ∨ s - (if m.1 32 (jn μ 12 j) = 0 then 1 else 0) < jn μ 1 1) by omega)]
    | succ k ih =>
      intro s hs hno
      have hsr : s < r := by omega
      have e32 := hm.2.2.2.1 s hsr
      have E : rX5_hasRoom_5 (nI j) X (nI (s - (if m.1 32 (jn μ 12 j) = 0 ∧ jn μ 12 j < s then 1 else 0))) (nI s) μ = (if m.1 32 s = 0 then rX5_hasRoom_5 (nI j) X (nI (s - (if m.1 32 (jn μ 12 j) = 0 ∧ jn μ 12 j < s then 1 else 0))) (nI (s + 1)) μ else (if m.1 32 s &&& X = 0 then some (some (.int 1), μ) else rX5_hasRoom_5 (nI j) X (nI (s - (if m.1 32 (jn μ 12 j) = 0 ∧ jn μ 12 j < s then 1 else 0) + 1)) (nI (s + 1)) μ)) := by
        rw [eX5_hasRoom_5, h.A.2.2.1, if_neg (nI_ge hsr (by omega)), gin (show s < 8 by omega) (by omega), if_pos rfl, gin (show j < 60 by omega) (by omega), if_pos rfl, tn (by omega), tn (by omega), lfq rfl rfl (c_block (by omega) (h.J j hj) q3 q4) rfl, g_ci_some, nI_1, nI_1, e32]
        by_cases z : nI s = μ.1 12 j
        · rw [if_pos z, if_pos z.symm]
        · rw [if_neg z, if_neg (show ¬ μ.1 12 j = nI s from fun w => z w.symm)]
      rw [E]
      by_cases z0 : m.1 32 s = 0
      · have zs : s = jn μ 12 j := Classical.byContradiction fun w => h0 s hsr w z0
        rw [if_pos z0]
        obtain ⟨to, t1, t2, t3, t4⟩ := ih (s + 1) (by omega) (fun y hy w => by
          by_cases v : y = s
          · rw [v] at w; exact w.1 z0
          · exact hno y (by omega) w)
        refine ⟨to, t1, t2, t3, ?_⟩
        rw [if_pos ⟨by rw [← zs]; exact z0, by omega⟩] at t4
        rw [if_neg (by omega)]
        exact t4
      · rw [if_neg z0]
        by_cases z1 : m.1 32 s &&& X = 0
        · rw [if_pos z1]
          exact ⟨s, by omega, hno, fun _ => ⟨z0, z1⟩, by rw [if_pos (Or.inl hsr)]⟩
        · rw [if_neg z1]
          obtain ⟨to, t1, t2, t3, t4⟩ := ih (s + 1) (by omega) (fun y hy w => by
            by_cases v : y = s
            · rw [v] at w; exact z1 w.2
            · exact hno y (by omega) w)
          refine ⟨to, t1, t2, t3, ?_⟩
          rw [show s - (if m.1 32 (jn μ 12 j) = 0 ∧ jn μ 12 j < s then 1 else 0) + 1 = s + 1 - (if m.1 32 (jn μ 12 j) = 0 ∧ jn μ 12 j < s + 1 then 1 else 0) from by
            by_cases v : m.1 32 (jn μ 12 j) = 0
            · have vs : s ≠ jn μ 12 j := fun w => z0 (by rw [w]; exact v)
              by_cases w : jn μ 12 j < s
              · rw [if_pos ⟨v, w⟩, if_pos ⟨v, by omega⟩]; omega
              · rw [if_neg (fun x => w x.2), if_neg (fun x => by have := x.2; omega)]; omega
            · rw [if_neg (fun x => v x.1), if_neg (fun x => v x.1)]; omega]
          exact t4
  obtain ⟨to, t1, t2, t3, t4⟩ := loop r 0 (by omega) (fun y hy => by omega)
  refine ⟨to, t1, t2, t3, ?_⟩
  rw [eX5_hasRoom]
  rw [if_neg (by omega)] at t4
  exact t4
theorem m_room {m : gMem} {j to : Nat} {X x : Int32} (h : BW μ u n a r p t Q B) (hj : j < n) (h2 : μ.1 9 j = 2) (hm : OT μ m r j) (h0 : ∀ y, y < r → y ≠ jn μ 12 j → m.1 32 y ≠ 0) (t1 : to ≤ r) (t2 : ∀ y, y < to → ¬ (m.1 32 y ≠ 0 ∧ m.1 32 y &&& X = 0)) (t3 : to < r → m.1 32 to ≠ 0 ∧ m.1 32 to &&& X = 0) : rX10_move_72 (nI j) x X (nI (jn μ 12 j)) (if m.1 32 (jn μ 12 j) = 0 then 1 else 0) 0 u = (if to < r ∨ r - (if m.1 32 (jn μ 12 j) = 0 then 1 else 0) < jn μ 1 1 then rX10_move_157 (nI j) x (nI (jn μ 12 j)) (if m.1 32 (jn μ 12 j) = 0 then 1 else 0) (nI to) u else some (some (.int 0), u)) := by
  have hn := h.A.n60
  have hp := h.A.p32
  have hr := h.A.2.2.2.2.1
  have hT := h.T.1
  obtain ⟨y1, y2⟩ := (ip_yes (h.P.1 j hj) h2).1
  have hu13 : u.1 1 13 = nI r := h.e.h.r.trans h.A.2.2.1
  have hset : mX10_settingOf [.ref 0, .int 1] u = some (some (.int (nI (jn μ 1 1))), u) := by rw [set_1, h.e.1.1.2.1, hT.1]
  have hbI : ∀ s, s < r → mX10_blocksIn [.ref 0, .int (nI s), .int (nI j)] u = some (some (.int (m.1 32 s)), u) := fun s hs => by
    rw [m_blocksIn h.e h.A h.J h.P, ot_S h hj hm s hs]
    rw [show orF (bI μ (nI s) (nI j)) n = orF (sb m s) n from orF_congr fun i hi => by
      rw [ot_sb h hm hi (by omega)]
      unfold bI
      by_cases q : (μ.1 9 i = 2 ∧ i ≠ j) ∧ jn μ 12 i = s
      · rw [if_pos q, if_pos ⟨fun z => q.1.2 (by rwa [neq (by omega) (by omega)] at z), q.1.1, by rw [(ip_yes (h.P.1 i hi) q.1.1).1.1, q.2]⟩]
      · rw [if_neg q, if_neg (fun z => q ⟨⟨z.2.1, fun w => z.1 (by rw [w])⟩, by
          have := (ip_yes (h.P.1 i hi) z.2.1).1
          have z3 := z.2.2
          rw [this.1, neq (by omega) (by omega)] at z3
          exact z3⟩)]]
  have loop : ∀ k s, s + k = to → rX10_move_72 (nI j) x X (nI (jn μ 12 j)) (if m.1 32 (jn μ 12 j) = 0 then 1 else 0) (nI s) u = (if to < r ∨ r - (if m.1 32 (jn μ 12 j) = 0 then 1 else 0) < jn μ 1 1 then rX10_move_157 (nI j) x (nI (jn μ 12 j)) (if m.1 32 (jn μ 12 j) = 0 then 1 else 0) (nI to) u else some (some (.int 0), u)) := by
    intro k
    induction k with
    | zero =>
      intro s hs
      obtain rfl : s = to := by omega
      rw [eX10_move_72, hu13]
      by_cases q : s < r
      · obtain ⟨z0, z1⟩ := t3 q
        rw [if_neg (nI_ge q (by omega)), hbI s q, g_ci_some, if_pos (Or.inl q), if_pos z1, hu13, if_neg (show ¬ nI s = nI r by rw [neq (by omega) (by omega)]; omega)]
        by_cases v : m.1 32 (jn μ 12 j) = 0
        · rw [if_pos v, if_neg (show ¬ (1 : Int32) = 0 by decide), if_neg (show ¬ nI s = nI (jn μ 12 j) by rw [neq (by omega) (by omega)]; exact fun w => z0 (by rw [w]; exact v))]
        · rw [if_neg v, if_pos rfl]
      · obtain rfl : s = r := by omega
        rw [if_pos (nI_le (Nat.le_refl _) (by omega)), if_pos rfl, hset, g_ci_some, g_ci_some]
        by_cases v : m.1 32 (jn μ 12 j) = 0
        · rw [if_pos v, if_neg (show ¬ (1 : Int32) = 0 by decide), nI_s1 (by omega), if_pos v]
          by_cases w : s - 1 < jn μ 1 1
          · rw [if_pos (nI_lt w (by omega)), if_pos (Or.inr w)]
          · rw [if_neg (nI_nlt (by omega) (by omega)), if_neg (by omega)]
        · rw [if_neg v, if_pos rfl, show nI s - 0 = nI s from by grind, if_neg v]
          by_cases w : s < jn μ 1 1
          · rw [if_pos (nI_lt w (by omega)), if_pos (Or.inr (by omega))]
          · rw [if_neg (nI_nlt (by omega) (by omega)), if_neg (by omega)]
    | succ k ih =>
      intro s hs
      have hsr : s < r := by omega
      have hno := t2 s (by omega)
      have ih' := ih (s + 1) (by omega)
      rw [eX10_move_72, hu13, if_neg (nI_ge hsr (by omega)), hbI s hsr, g_ci_some, nI_1]
      by_cases v : m.1 32 (jn μ 12 j) = 0
      · rw [if_pos v] at ih' ⊢
        rw [if_neg (show ¬ (1 : Int32) = 0 by decide)]
        by_cases w : s = jn μ 12 j
        · rw [if_pos (by rw [w])]; exact ih'
        · have z0 := h0 s hsr w
          rw [if_neg (show ¬ nI s = nI (jn μ 12 j) by rw [neq (by omega) (by omega)]; exact w), if_neg (fun z => hno ⟨z0, z⟩)]; exact ih'
      · have z0 : m.1 32 s ≠ 0 := by
          by_cases w : s = jn μ 12 j
          · rw [w]; exact v
          · exact h0 s hsr w
        rw [if_neg v] at ih' ⊢
        rw [if_pos rfl, if_neg (fun z => hno ⟨z0, z⟩)]; exact ih'
  exact loop to 0 (by omega)
end MOVE2
