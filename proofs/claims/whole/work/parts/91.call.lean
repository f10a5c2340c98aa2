/-! calls: the class's memory and the reference's -/
section CALL
variable {b u b' u' μ μ' ν : gMem} {n a r p t B k : Nat} {Q : List Nat}
theorem BR_cg (h : BR b u n a r p t Q B) (h1 : ∀ c i, c < 53 → b'.1 c i = b.1 c i) (h2 : ∀ i, b'.2 30 i = b.2 30 i) : BR b' u n a r p t Q B := by
  have hb : bs b (b'.1, b.2) := ⟨rfl, fun c i hc => h1 c i hc.1⟩
  obtain ⟨⟨e1, e2, e3, e4, e5, e6⟩, h⟩ := hb.xBR h
  refine ⟨⟨e1, e2, e3, fun s hs => ?_, e5, e6⟩, h⟩
  rw [h2]; exact e4 s hs
theorem vw0 : g_vw 0 μ = μ := Prod.ext (funext fun c => funext fun i => by show μ.1 (0 + c) i = μ.1 c i; rw [Nat.zero_add]) (funext fun c => funext fun i => by show μ.2 (0 + c) i = μ.2 c i; rw [Nat.zero_add])
theorem lf0 {m : gF} {as : List Value} {v : Option Value} (has : as.all (g_ib 0) = true) (hmp : as.map (g_sb 0) = as) (hm : m as μ = some (v, ν)) (hr : g_nr v = true) : g_lf 0 m as μ = some (v, g_pt 0 μ ν) := by
  unfold g_lf
  rw [has, hmp, vw0, hm]
  show (match g_nr v with | true => some (v, g_pt 0 μ ν) | false => none) = _
  rw [hr]
theorem pt0 {c i : Nat} (h : c < 59) : (g_pt 0 μ ν).1 c i = ν.1 c i := by
  show (if 0 ≤ c ∧ c < 0 + 59 then ν.1 (c - 0) i else μ.1 c i) = _
  rw [if_pos ⟨Nat.zero_le _, by omega⟩]; rfl
theorem pt0L {c i : Nat} (h : c < 59) : (g_pt 0 μ ν).2 c i = ν.2 c i := by
  show (if 0 ≤ c ∧ c < 0 + 59 then ν.2 (c - 0) i else μ.2 c i) = _
  rw [if_pos ⟨Nat.zero_le _, by omega⟩]; rfl
theorem pt9 {c i : Nat} (h : 59 ≤ c) : (g_pt 0 μ ν).1 c i = μ.1 c i ∧ (g_pt 0 μ ν).2 c i = μ.2 c i := ⟨if_neg (by omega), if_neg (by omega)⟩
theorem BR_pt (h : BR ν u n a r p t Q B) : BR (g_pt 0 μ ν) u n a r p t Q B := BR_cg h (fun c i hc => pt0 (by omega)) (fun i => pt0L (by omega))
/-- the image and what says that it was taken are as they were -/
def cfr (μ μ' : gMem) : Prop := ∀ c i, (59 ≤ c ∧ c < 118) ∨ c = 177 → μ'.1 c i = μ.1 c i ∧ μ'.2 c i = μ.2 c i
theorem cfr.rf : cfr μ μ := fun _ _ _ => ⟨rfl, rfl⟩
theorem cfr.tr {μ1 μ2 : gMem} (h : cfr μ μ1) (h2 : cfr μ1 μ2) : cfr μ μ2 := fun c i hc => ⟨(h2 c i hc).1.trans (h c i hc).1, (h2 c i hc).2.trans (h c i hc).2⟩
theorem cfr.pt : cfr μ (g_pt 0 μ ν) := fun c i hc => pt9 (by omega)
theorem cfr.w {c i : Nat} {x : Int32} (hc : ¬ ((59 ≤ c ∧ c < 118) ∨ c = 177)) : cfr μ (gwI μ c i x) := fun d k hd => ⟨by rw [gI_r, if_neg (fun (z : d = c ∧ k = i) => hc (z.1 ▸ hd))], rfl⟩
def imU (u : gMem) : gMem := (fun c i => if c = 1 then u.1 15 i else 0, fun c i => if c = 3 then u.2 16 i else 0)
def IMr (T Bd : Nat) (μ u : gMem) : Prop := μ.1 177 4 = u.1 0 27 ∧ (μ.1 177 4 = 0 ∨ (μ.1 177 4 = 1 ∧ ∃ (n a r p t : Nat) (Q : List Nat) (B : Nat), BR (g_vw 59 μ) (imU u) n a r p t Q B ∧ t ≤ T ∧ B ≤ Bd))
theorem IMr.fr {T Bd T' Bd' : Nat} (h : IMr T Bd μ u) (hT : T ≤ T') (hB : Bd ≤ Bd') (hc : cfr μ μ') (hi : im u u') : IMr T' Bd' μ' u' := by
  obtain ⟨h1, h2⟩ := h
  have e4 : μ'.1 177 4 = μ.1 177 4 := (hc 177 4 (by omega)).1
  have ei : imU u' = imU u := by
    unfold imU
    refine Prod.ext (funext fun c => funext fun i => ?_) (funext fun c => funext fun i => ?_)
    · show (if c = 1 then u'.1 15 i else 0) = (if c = 1 then u.1 15 i else 0)
      rw [hi.1 15 i (by omega)]
    · show (if c = 3 then u'.2 16 i else 0) = (if c = 3 then u.2 16 i else 0)
      rw [hi.2.2 16 i (by omega)]
  refine ⟨by rw [e4, hi.2.1]; exact h1, ?_⟩
  rw [e4]
  rcases h2 with h2 | ⟨h2, n, a, r, p, t, Q, B, h3, h4, h5⟩
  · exact Or.inl h2
  · refine Or.inr ⟨h2, n, a, r, p, t, Q, B, ?_, by omega, by omega⟩
    rw [ei]
    exact BR_cg h3 (fun c i hc' => (hc (59 + c) i (by omega)).1) (fun i => (hc 89 i (by omega)).2)
/-- the relation that every call keeps -/
def Rl (k : Nat) (μ u : gMem) : Prop := (∃ (n a r p t : Nat) (Q : List Nat) (B : Nat), BR μ u n a r p t Q B ∧ t ≤ 100 * k ∧ B ≤ 100000 * k) ∧ IMr (100 * k) (100000 * k) μ u
/-- a pair of calls answers alike, and keeps the relation -/
def okc (f g : gF) (as : List Value) : Prop := ∀ k μ ν, k < 512 → Rl k μ ν → ∃ x μ' ν', f (.ref 177 :: as) μ = some (some (.int x), μ') ∧ g (.ref 0 :: as) ν = some (some (.int x), ν') ∧ Rl (k + 1) μ' ν'
theorem Rl.mk (hI : IMr (100 * k) (100000 * k) μ u) (h : BR μ' u' n a r p t Q B) (ht : t ≤ 100 * k + 100) (hB : B ≤ 100000 * k + 100000) (hc : cfr μ μ') (hi : im u u') : Rl (k + 1) μ' u' := ⟨⟨n, a, r, p, t, Q, B, h, by omega, by omega⟩, hI.fr (by omega) (by omega) hc hi⟩
theorem told0 (h : BR b u n a r p t Q B) : BR b (gwI u 0 0 0) n a r p t Q B ∧ im u (gwI u 0 0 0) := by
  have hq : qs u (gwI u 0 0 0) := ⟨rfl, fun i => by rw [gI_r, if_neg (by omega)], fun i => by rw [gI_r, if_neg (by omega)], fun i => by rw [gI_r, if_neg (by omega)], by rw [gI_r, if_neg (by omega)]⟩
  exact ⟨hq.xBR h, fun c i hc => by rw [gI_r, if_neg (by omega)], by rw [gI_r, if_neg (by omega)], fun _ _ _ => rfl⟩
theorem go_c (h : BR μ u n a r p t Q B) (h9 : B + 130 ≤ 1000000000) : ∃ (μ' u' : gMem) (r' : Nat) (Q' : List Nat), (g_lf 0 mX2_goOn) [.ref 0] μ = some (none, μ') ∧ mX10_goesOn [.ref 0] u = some (none, u') ∧ BR μ' u' n a r' p t Q' (B + 130) ∧ cfr μ μ' ∧ im u u' := by
  obtain ⟨b', u', r', Q', g1, g2, g3, g4, g5⟩ := go_both h h9
  exact ⟨_, u', r', Q', lf0 rfl rfl g1 rfl, g2, BR_pt g3, cfr.pt, g4⟩
theorem went_1 (h : BR μ u n a r p t Q B) (h9 : B + 130 ≤ 1000000000) : ∃ (μ' u' : gMem) (r' : Nat) (Q' : List Nat), mX9_wentOn [.ref 177, .int 1] μ = some (some (.int 1), μ') ∧ mX10_goesOn [.ref 0] u = some (none, u') ∧ BR μ' u' n a r' p t Q' (B + 130) ∧ cfr μ μ' ∧ im u u' := by
  obtain ⟨μ', u', r', Q', g1, g2, g3⟩ := go_c h h9
  refine ⟨μ', u', r', Q', ?_, g2, g3⟩
  rw [eX9_wentOn, if_neg (by decide), g1, g_cv_some]; rfl
theorem went_0 : mX9_wentOn [.ref 177, .int 0] μ = some (some (.int 0), μ) := by rw [eX9_wentOn, if_pos rfl]; rfl
theorem g01_1 : g_01 (1 : Int32) = true := rfl
theorem g01_0 : g_01 (0 : Int32) = true := rfl
/-- a number that is not below nought -/
theorem nat_of {x : Int32} (h : ¬ x < 0) : ∃ j, j < 2147483648 ∧ x = nI j := by
  obtain ⟨j, hj, e⟩ := nI_of h
  exact ⟨j, hj, e⟩
theorem hasI {x : Int32} (h : b.1 3 2 = nI n) (hn : n ≤ 60) : (mX4_has [.ref 3, .int x] b = some (some (.int 0), b) ∧ mX10_isJob [.ref 0, .int x] u = (if x < 0 then some (some (.int 0), u) else (if (u.1 1 11) ≤ x then some (some (.int 0), u) else some (some (.int 1), u))) ∧ (x < 0 ∨ nI n ≤ x)) ∨ (∃ j, j < n ∧ x = nI j ∧ mX4_has [.ref 3, .int x] b = some (some (.int 1), b)) := by
  by_cases h0 : x < 0
  · exact Or.inl ⟨by rw [eX4_has, if_pos h0], eX10_isJob x u, Or.inl h0⟩
  · obtain ⟨j, hj, e⟩ := nat_of h0
    by_cases hjn : j < n
    · exact Or.inr ⟨j, hjn, e, by rw [eX4_has, if_neg h0, h, e, if_neg (nI_ge hjn (by omega))]⟩
    · have hle : nI n ≤ x := by rw [e]; exact nI_le (by omega) hj
      exact Or.inl ⟨by rw [eX4_has, if_neg h0, h, if_pos hle], eX10_isJob x u, Or.inr hle⟩
theorem ok_unify : okc mX9_unify mX10_unify [] := by
  intro k μ u hk hR
  obtain ⟨⟨n, a, r, p, t, Q, B, h, ht, hB⟩, hI⟩ := hR
  obtain ⟨h0, i0⟩ := told0 h
  obtain ⟨b', u', r', g, g1, g2, g3, g4, g5⟩ := unify_both h0 (by omega)
  obtain ⟨μ2, u2, r2, Q2, k1, k2, k3, k4, k5⟩ := go_c (BR_pt (μ := μ) g3) (by omega)
  refine ⟨nI g, μ2, u2, ?_, ?_, Rl.mk hI k3 (by omega) (by omega) (cfr.pt.tr k4) ((i0.tr g4).tr k5)⟩
  · rw [eX9_unify, lf0 rfl rfl g1 rfl, g_ci_some, k1, g_cv_some]
  · rw [eX10_unify, g2, g_ci_some, k2, g_cv_some]
theorem ok_repack : okc mX9_repack mX10_repack [] := by
  intro k μ u hk hR
  obtain ⟨⟨n, a, r, p, t, Q, B, h, ht, hB⟩, hI⟩ := hR
  obtain ⟨h0, i0⟩ := told0 h
  obtain ⟨hw, hs, hIL⟩ := BR_iff.mp h0
  obtain ⟨b', u', r', g1, g2, g3, g4, g5, g6⟩ := pack_both hw.v (pv_ld hw)
  have hBR : BR b' u' n a r' p t Q B := BR_iff.mpr ⟨g3, g4, fun j hj => by rw [g6 9 j (by decide), g6 10 j (by decide)]; exact hIL j hj⟩
  obtain ⟨μ2, u2, r2, Q2, k1, k2, k3, k4, k5⟩ := go_c (BR_pt (μ := μ) hBR) (by omega)
  refine ⟨nI r', μ2, u2, ?_, ?_, Rl.mk hI k3 (by omega) (by omega) (cfr.pt.tr k4) ((i0.tr g5).tr k5)⟩
  · rw [eX9_repack, lf0 rfl rfl g1 rfl, g_cv_some, k1, g_cv_some, pt0 (by omega), g3.A.2.2.1]
  · rw [eX10_repack, g2, g_cv_some, k2, g_cv_some, g3.e.h.r, g3.A.2.2.1]
set_option maxRecDepth 8000 in
theorem ok_quantum (a0 : Int32) : okc mX9_quantum mX10_quantum [.int a0] := by
  intro k μ u hk hR
  obtain ⟨⟨n, a, r, p, t, Q, B, h, ht, hB⟩, hI⟩ := hR
  obtain ⟨h0, i0⟩ := told0 h
  by_cases q1 : a0 < 1
  · refine ⟨-1, μ, gwI u 0 0 0, ?_, ?_, Rl.mk hI h0 (by omega) (by omega) cfr.rf i0⟩
    · rw [eX9_quantum, if_pos q1]
    · rw [eX10_quantum, eX10_isIn, if_pos q1, g_ci_some, if_pos rfl]
  by_cases q2 : a0 ≤ 100
  · obtain ⟨N, hN, e⟩ := nat_of (x := a0) (fun z => q1 (by grind))
    have hN1 : N ≤ 100 := by
      have h3 : nI N ≤ nI 100 := by rw [← e]; exact q2
      rwa [nle hN (by omega)] at h3
    subst e
    have loop : ∀ m j, j + m = N → ∀ (μ u : gMem) (n a r t : Nat) (Q : List Nat) (B : Nat) (acc : Int32), BR μ u n a r p t Q B → t + m ≤ 60000 → B + 700 * m ≤ 1000000000 → ∃ (x : Int32) (μ' u' : gMem) (n' a' r' : Nat) (Q' : List Nat), rX9_quantum_17 (nI N) acc (nI j) μ = some (some (.int x), μ') ∧ rX10_quanta_4 (nI N) acc (nI j) u = some (some (.int x), u') ∧ BR μ' u' n' a' r' p (t + m) Q' (B + 700 * m) ∧ cfr μ μ' ∧ im u u' := by
      intro m
      induction m with
      | zero =>
        intro j hj μ u n a r t Q B acc h ht hB
        refine ⟨acc, μ, u, n, a, r, Q, ?_, ?_, h, cfr.rf, im.rf⟩
        · rw [eX9_quantum_17, if_pos (nI_le (by omega) (by omega))]
        · rw [eX10_quanta_4, if_pos (nI_le (by omega) (by omega))]
      | succ m ih =>
        intro j hj μ u n a r t Q B acc h ht hB
        have t1 : t + 1 ≤ 60000 := by omega
        have t2 : B + 700 ≤ 1000000000 := by omega
        obtain ⟨b1, u1, n1, a1, r1, Q1, d, g1, g2, g3, g4, -⟩ := one_both (B := B) (t := t) h t1 t2
        obtain ⟨x, μ2, u2, n2, a2, r2, Q2, w1, w2, w3, w4, w5⟩ := ih (j + 1) (by omega) (g_pt 0 μ b1) u1 n1 a1 r1 (t + 1) Q1 (B + 700) (acc + nI d) (BR_pt g3) (by omega) (by omega)
        refine ⟨x, μ2, u2, n2, a2, r2, Q2, ?_, ?_, ?_, cfr.pt.tr w4, g4.tr w5⟩
        · rw [eX9_quantum_17, if_neg (nI_ge (by omega) (by omega)), lf0 rfl rfl g1 rfl, g_ci_some, nI_1]; exact w1
        · rw [g2 N acc j (by omega) hN]; exact w2
        · rw [show t + (m + 1) = t + 1 + m by omega, show B + 700 * (m + 1) = B + 700 + 700 * m by omega]; exact w3
    obtain ⟨x, μ2, u2, n2, a2, r2, Q2, w1, w2, w3, w4, w5⟩ := loop N 0 (by omega) μ (gwI u 0 0 0) n a r t Q B 0 h0 (by omega) (by omega)
    refine ⟨x, μ2, u2, ?_, ?_, Rl.mk hI w3 (by omega) (by omega) w4 (i0.tr w5)⟩
    · rw [eX9_quantum, if_neg q1, if_pos q2]; exact w1
    · rw [eX10_quantum, eX10_isIn, if_neg q1, if_neg (fun z => by grind), g_ci_some, if_neg (by decide), eX10_quanta, show rX10_quanta_4 (nI N) 0 0 (gwI u 0 0 0) = _ from w2, g_ci_some]
  · refine ⟨-1, μ, gwI u 0 0 0, ?_, ?_, Rl.mk hI h0 (by omega) (by omega) cfr.rf i0⟩
    · rw [eX9_quantum, if_neg q1, if_neg q2]
    · rw [eX10_quantum, eX10_isIn, if_neg q1, if_pos (by grind), g_ci_some, if_pos rfl]
theorem ok_kill (a0 : Int32) : okc mX9_kill mX10_kill [.int a0] := by
  intro k μ u hk hR
  obtain ⟨⟨n, a, r, p, t, Q, B, h, ht, hB⟩, hI⟩ := hR
  obtain ⟨h0, i0⟩ := told0 h
  obtain ⟨hw, -⟩ := BR_iff.mp h0
  have hn := hw.A.n60
  rcases hasI (u := gwI u 0 0 0) (x := a0) hw.A.1 hn with ⟨g1, g2, g3⟩ | ⟨j, hj, e, g1⟩
  · refine ⟨-1, g_pt 0 μ μ, gwI u 0 0 0, ?_, ?_, Rl.mk hI (BR_pt h0) (by omega) (by omega) cfr.pt i0⟩
    · rw [eX9_kill, lf0 rfl rfl g1 rfl, g_ci_some, if_pos rfl]
    · rw [eX10_kill, g2]
      rcases g3 with g3 | g3
      · rw [if_pos g3, g_ci_some, if_pos rfl]
      · by_cases z : a0 < 0
        · rw [if_pos z, g_ci_some, if_pos rfl]
        · rw [if_neg z, hw.e.h.n, hw.A.1, if_pos g3, g_ci_some, if_pos rfl]
  · subst e
    have hj1 : mX10_isJob [.ref 0, .int (nI j)] (gwI u 0 0 0) = some (some (.int 1), gwI u 0 0 0) := by rw [eX10_isJob, if_neg (nneg (by omega)), hw.e.h.n, hw.A.1, if_neg (nI_ge hj (by omega))]
    have e9 : (g_pt 0 μ μ).1 9 j = μ.1 9 j := pt0 (by omega)
    by_cases q : μ.1 9 j < 3
    · obtain ⟨b', u', r', Q', d, w1, w2, w3, w4⟩ := kill_both (BR_pt (μ := g_pt 0 μ μ) (BR_pt (μ := μ) h0)) hj (by omega)
      obtain ⟨μ2, u2, r2, Q2, k1, k2, k3, k4, k5⟩ := go_c (BR_pt (μ := g_pt 0 (g_pt 0 μ μ) (g_pt 0 μ μ)) w3) (by omega)
      refine ⟨nI d, μ2, u2, ?_, ?_, Rl.mk hI k3 (by omega) (by omega) (((cfr.pt.tr cfr.pt).tr cfr.pt).tr k4) ((i0.tr w4).tr k5)⟩
      · rw [eX9_kill, lf0 rfl rfl g1 rfl, g_ci_some, if_neg (by decide), lf0 (ν := g_pt 0 μ μ) rfl rfl (c_state (by omega)) rfl, g_ci_some, e9, if_pos q, lf0 rfl rfl w1 rfl, g_ci_some, k1, g_cv_some]
      · rw [eX10_kill, hj1, g_ci_some, if_neg (by decide), at_4 (by omega), g_ci_some, (hw.e.j hj).f4, if_pos q]
        refine (w2 (fun a3 u4 => g_cv (mX10_goesOn [.ref 0] u4) (fun u5 => some (some (.int a3), u5)))).trans ?_
        show g_cv (mX10_goesOn [.ref 0] u') _ = _
        rw [k2, g_cv_some]
    · refine ⟨-1, g_pt 0 (g_pt 0 μ μ) (g_pt 0 μ μ), gwI u 0 0 0, ?_, ?_, Rl.mk hI (BR_pt (BR_pt h0)) (by omega) (by omega) (cfr.pt.tr cfr.pt) i0⟩
      · rw [eX9_kill, lf0 rfl rfl g1 rfl, g_ci_some, if_neg (by decide), lf0 (ν := g_pt 0 μ μ) rfl rfl (c_state (by omega)) rfl, g_ci_some, e9, if_neg q]
      · rw [eX10_kill, hj1, g_ci_some, if_neg (by decide), at_4 (by omega), g_ci_some, (hw.e.j hj).f4, if_neg q]
end CALL
