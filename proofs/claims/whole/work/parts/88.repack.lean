section REPACK
variable {b u b' u' : gMem} {n a r p t B : Nat} {Q : List Nat}
theorem mk_pv {r' B' : Nat} {Q' : List Nat} (h : PV b u n a r p t Q B) (hBB : B ≤ B') (h9 : B' ≤ 1000000000) (H1 : ∀ c i, c ∈ [0, 1, 26, 27, 33, 35, 36, 37, 38, 39, 41, 42, 43, 44, 45, 46, 48, 49, 50, 51] → b'.1 c i = b.1 c i) (H32 : b'.1 3 2 = b.1 3 2) (U1 : ∀ i, (i < 13 ∨ i = 14 ∨ i = 15 ∨ i = 16 ∨ (29 ≤ i ∧ i < 42) ∨ (1242 ≤ i ∧ i < 1482) ∨ (1490 ≤ i ∧ i < 2030)) → u'.1 1 i = u.1 1 i) (Ut : ∀ k, k < 11 → u'.1 1 (18 + k) = b'.1 2 k) (U13 : u'.1 1 13 = nI r') (H29 : b'.1 29 3 = nI r') (hr' : r' ≤ 8) (eJ : EJ b' u' n) (eT : ET b' u' r') (iJ : IJ b' n p t) (iP : IP b' n r' p) (iS : IS b' n r') (iQ : IQ b' u' n Q' B') : BW b' u' n a r' p t Q' B' := by
  have hag : ∀ S : List Nat, (∀ c ∈ S, c ∈ [0, 1, 26, 27, 33, 35, 36, 37, 38, 39, 41, 42, 43, 44, 45, 46, 48, 49, 50, 51]) → ag S b b' := fun S hS c h1 i => H1 c i (hS c h1)
  refine ⟨⟨⟨?_, ?_, Ut, ?_, ?_⟩, eJ, ?_, eT, ?_, ?_⟩, ?_, ?_, iJ, iP, iS, ?_, ?_, ?_, iQ, ?_⟩
  · have := h.e.1.1
    simp (disch := omega) only [U1]
    simp (disch := decide) only [H1]
    exact this
  · obtain ⟨g1, g2, g3, g4, g5, g6, g7⟩ := h.e.1.2.1
    rw [U13, H29, H32, U1 10 (by omega), U1 11 (by omega), U1 12 (by omega), U1 14 (by omega), U1 15 (by omega), U1 16 (by omega), H1 0 12 (by decide), H1 33 1 (by decide), H1 0 13 (by decide), H1 39 1 (by decide), H1 46 1 (by decide)]
    exact ⟨g1, g2, g3, rfl, g5, g6, g7⟩
  · intro v hv; rw [U1 _ (by omega), H1 26 v (by decide)]; exact h.e.1.2.2.2.1 v hv
  · intro v hv; rw [U1 _ (by omega), H1 27 v (by decide)]; exact h.e.1.2.2.2.2 v hv
  · exact h.e.2.2.1.fr (by have := h.A.2.2.2.1; omega) (hag _ (by decide)) (fun i h1 h2 => U1 i (by omega))
  · exact h.e.2.2.2.2.1.fr (hag _ (by decide)) (fun i h1 h2 => U1 i (by omega))
  · exact h.e.2.2.2.2.2.fr (hag _ (by decide)) (fun i h1 h2 => U1 i (by omega))
  · obtain ⟨a1, a2, a3, a4, a5, a6, a7⟩ := h.A
    exact ⟨H32.trans a1, (H1 33 1 (by decide)).trans a2, H29, a4, hr', (H1 1 0 (by decide)).trans a6, a7⟩
  · exact h.T.fr (hag _ (by decide))
  · exact h.U.fr (hag _ (by decide))
  · exact h.R.fr (hag _ (by decide))
  · exact h.D.fr (H1 _ _ (by decide))
  · obtain ⟨b1, b2, ⟨x, b3, b4⟩, ⟨y, b5, b6⟩, b7⟩ := h.B
    exact ⟨by rw [H1 0 12 (by decide)]; exact b1, b2, ⟨x, by rw [H1 39 1 (by decide)]; exact b3, by omega⟩, ⟨y, by rw [H1 46 1 (by decide)]; exact b5, by omega⟩, h9⟩
/-- new slots (and columns) for those placed -/
theorem slots_pv {r' : Nat} {σ κ : Nat → Nat} (h : PV b u n a r p t Q B) (hr' : r' ≤ 8)
    (H1 : ∀ c i, c ∉ [12, 13, 29, 31, 32] → b'.1 c i = b.1 c i) (H12 : ∀ i, i < n → b.1 9 i = 2 → b'.1 12 i = nI (σ i) ∧ σ i < r') (H13 : ∀ i, i < n → b.1 9 i = 2 → b'.1 13 i = nI (κ i) ∧ κ i % jn b 14 i = 0 ∧ κ i + jn b 14 i ≤ p ∧ b.1 0 13 &&& BK (κ i) (jn b 14 i) = 0) (Hn : ∀ i, i < n → b.1 9 i ≠ 2 → b'.1 12 i = b.1 12 i ∧ b'.1 13 i = b.1 13 i)
    (hdis : ∀ i j, i < n → j < n → i ≠ j → b.1 9 i = 2 → b.1 9 j = 2 → σ i = σ j → BK (κ i) (jn b 14 i) &&& BK (κ j) (jn b 14 j) = 0)
    (H32 : ∀ x, x < r' → b'.1 32 x = orF (fun i => if b.1 9 i = 2 ∧ σ i = x then BK (κ i) (jn b 14 i) else 0) n) (H29 : b'.1 29 3 = nI r') (U13 : u'.1 1 13 = nI r')
    (U1 : ∀ i, (i < 42 ∨ 1242 ≤ i) → (i < 1482 ∨ 1490 ≤ i) → i ≠ 13 → u'.1 1 i = u.1 1 i) (UA : ∀ i w, i < 60 → w < 20 → w ≠ 7 → w ≠ 8 → mA u' i w = mA u i w)
    (U7 : ∀ i, i < n → mA u' i 7 = b'.1 12 i + 1) (U8 : ∀ i, i < n → mA u' i 8 = b'.1 13 i + 1) (eT : ET b' u' r') : BW b' u' n a r' p t Q B := by
  have hn := h.A.n60
  have hp := h.A.p32
  have hag : ∀ S : List Nat, (∀ c ∈ S, c ∉ [12, 13, 29, 31, 32]) → ag S b b' := fun S hS c h1 i => H1 c i (hS c h1)
  have h14 : ∀ i, jn b' 14 i = jn b 14 i := fun i => by unfold jn; rw [H1 14 i (by decide)]
  have hκ : ∀ i, i < n → b.1 9 i = 2 → jn b' 13 i = κ i := fun i hi h2 => by
    obtain ⟨k1, -, k3, -⟩ := H13 i hi h2
    unfold jn; rw [k1, tn (by omega)]
  have hbl : ∀ i, i < n → b.1 9 i = 2 → bl b' i = BK (κ i) (jn b 14 i) := fun i hi h2 => by unfold bl; rw [hκ i hi h2, h14]
  have h129 : ∀ i, i < n → ∀ s, s < 2147483648 → b'.1 12 i = nI s → b.1 9 i = 2 := fun i hi s hs h12 => by
    by_cases z : b.1 9 i = 2
    · exact z
    · have h1 := (Hn i hi z).1
      rcases h.P i hi with y | y
      · exact absurd y.1 z
      · rw [h12, y.2.1] at h1; exact absurd h1 (nm1 hs)
  refine mk_pv h (Nat.le_refl _) h.B.2.2.2.2 (fun c i hc => H1 c i (by simp at hc ⊢; omega)) (H1 3 2 (by decide)) (fun i hi => U1 i (by omega) (by omega) (by omega)) (fun k hk => by rw [U1 _ (by omega) (by omega) (by omega), H1 2 k (by decide)]; exact h.e.1.2.2.1 k hk) U13 H29 hr' ?_ eT (h.J.fr (hag _ (by decide))) ⟨?_, ?_⟩ ?_ (h.Q.fr hn (hag _ (by decide)) (H1 3 3 (by decide)) (U1 17 (by omega) (by omega) (by omega)) ?_)
  · intro i hi
    obtain ⟨e0, e1, e2, e3, e4, e5, e6, e7, e8, e9, e10, e11, e12, e13, e14, e15, e16, e17, e18⟩ := h.e.2.1 i hi
    unfold EJ1
    rw [U7 i hi, U8 i hi]
    simp (disch := first | decide | omega) only [UA, H1]
    exact ⟨e0, e1, e2, e3, e4, e5, e6, trivial, trivial, e9, e10, e11, e12, e13, e14, e15, e16, e17, e18⟩
  · intro i hi
    by_cases z : b.1 9 i = 2
    · obtain ⟨k1, k2⟩ := H12 i hi z
      obtain ⟨m1, m2, m3, m4⟩ := H13 i hi z
      refine Or.inl ⟨by rw [H1 9 i (by decide)]; exact z, ?_, ?_, ?_, ?_, ?_⟩
      · unfold jn; rw [k1, tn (by omega)]; exact ⟨rfl, k2⟩
      · rw [hκ i hi z]; exact m1
      · rw [hκ i hi z, h14]; exact m2
      · rw [hκ i hi z, h14]; exact m3
      · rw [hbl i hi z, H1 0 13 (by decide)]; exact m4
    · obtain ⟨k1, k2⟩ := Hn i hi z
      rcases h.P i hi with y | y
      · exact absurd y.1 z
      · exact Or.inr ⟨by rw [H1 9 i (by decide)]; exact z, by rw [k1]; exact y.2.1, by rw [k2]; exact y.2.2⟩
  · intro i j hi hj hij h2 h12
    rw [H1 9 i (by decide)] at h2
    obtain ⟨k1, k2⟩ := H12 i hi h2
    rw [k1] at h12
    have hj2 := h129 j hj (σ i) (by omega) h12.symm
    obtain ⟨k3, k4⟩ := H12 j hj hj2
    rw [k3, neq (by omega) (by omega)] at h12
    rw [hbl i hi h2, hbl j hj hj2]
    exact hdis i j hi hj hij h2 hj2 h12
  · intro x hx
    rw [H32 x hx]
    refine orF_congr (fun i hi => ?_)
    unfold sb
    by_cases z : b.1 9 i = 2
    · obtain ⟨k1, k2⟩ := H12 i hi z
      rw [k1, hbl i hi z]
      by_cases y : σ i = x
      · rw [if_pos ⟨z, y⟩, if_pos (by rw [y])]
      · rw [if_neg (fun w => y w.2), if_neg (by rw [neq (by omega) (by omega)]; exact y)]
    · rw [if_neg (fun w => z w.1), if_neg (fun w => z (h129 i hi x (by omega) w))]
  · intro j hj
    exact UA j 19 hj (by omega) (by omega) (by omega)
theorem pv_yes {j : Nat} (h : PV b u n a r p t Q B) (hj : j < n) (h2 : b.1 9 j = 2) : (b.1 12 j = nI (jn b 12 j) ∧ jn b 12 j < 8) ∧ (b.1 13 j = nI (jn b 13 j) ∧ jn b 13 j < 32) ∧ (b.1 14 j = nI (jn b 14 j) ∧ 1 ≤ jn b 14 j ∧ jn b 14 j ≤ 32) := by
  have hp := h.A.p32
  have hr := h.A.2.2.2.2.1
  obtain ⟨⟨y1, y2⟩, y3, y4, y5, y6⟩ := ip_yes (h.P j hj) h2
  have hw := jw (h.J j hj)
  have := wd_pos (jn b 5 j)
  exact ⟨⟨y1, by omega⟩, ⟨y3, by omega⟩, jw_n (h.J j hj), by omega, by omega⟩
theorem Ky_lt {j : Nat} (h : PV b u n a r p t Q B) (hj : j < n) (h2 : b.1 9 j = 2) : Ky b j < 1000000 := by
  have hn := h.A.n60
  obtain ⟨⟨-, y2⟩, ⟨-, y4⟩, -, y6, y7⟩ := pv_yes h hj h2
  unfold Ky
  omega
/-- a key that is good for every number -/
def Kz (b : gMem) (n j : Nat) : Nat := if j < n ∧ b.1 9 j = 2 then Ky b j else 999936 + j
theorem Kz_y {j : Nat} (hj : j < n) (h2 : b.1 9 j = 2) : Kz b n j = Ky b j := if_pos ⟨hj, h2⟩
theorem Ky_small {j : Nat} (h : PV b u n a r p t Q B) (hj : j < n) (h2 : b.1 9 j = 2) : Ky b j < 600000 := by
  have hn := h.A.n60
  obtain ⟨⟨-, y2⟩, ⟨-, y4⟩, -, y6, y7⟩ := pv_yes h hj h2
  unfold Ky
  omega
theorem Kz_lt (h : PV b u n a r p t Q B) : ∀ j, j < 60 → Kz b n j < 1000000 := fun j hj => by
  unfold Kz
  split
  · rename_i q; exact Ky_lt h q.1 q.2
  · omega
theorem Kz_inj (h : PV b u n a r p t Q B) : ∀ i j, i < 60 → j < 60 → Kz b n i = Kz b n j → i = j := fun i j hi hj e => by
  unfold Kz at e
  split at e <;> split at e
  · rename_i q1 q2; unfold Ky at e; omega
  · rename_i q1 q2; have := Ky_small h q1.1 q1.2; omega
  · rename_i q1 q2; have := Ky_small h q2.1 q2.2; omega
  · omega
theorem c_sortForRepack (h : PV b u n a r p t Q B) : ∃ (M : List Nat) (b' : gMem), mX2_sortForRepack [.ref 0] b = some (some (.int (nI M.length)), b') ∧ ka (Kz b n) b' 57 M ∧ M.Pairwise (fun x y => Kz b n x < Kz b n y) ∧ (∀ x, x ∈ M ↔ x ∈ plL b n) ∧ M.length ≤ 60 ∧ b'.2 = b.2 ∧ (∀ c e, c ≠ 57 → b'.1 c e = b.1 c e) := by
  have hn := h.A.n60
  have hp := h.A.p32
  have fill : ∀ k j, j + k = n → ∀ μ : gMem, μ.2 = b.2 → (∀ c e, c ≠ 57 → μ.1 c e = b.1 c e) → ka (Kz b n) μ 57 (plL b j) → ∃ μ' : gMem, rX2_sortForRepack_4 (nI (plL b j).length) (nI j) μ = rX2_sortForRepack_4 (nI (plL b n).length) (nI n) μ' ∧ μ'.2 = b.2 ∧ (∀ c e, c ≠ 57 → μ'.1 c e = b.1 c e) ∧ ka (Kz b n) μ' 57 (plL b n) := by
    intro k
    induction k with
    | zero => intro j hj μ h1 h2 h3; rw [show j = n by omega] at *; exact ⟨μ, rfl, h1, h2, h3⟩
    | succ k ih =>
      intro j hj μ h1 h2 h3
      have hjn : j < n := by omega
      have hb : bs b μ := ⟨h1, fun c i hc => h2 c i (by omega)⟩
      have hle := plL_le (b := b) (n := j)
      rw [eX2_sortForRepack_4, h2 3 2 (by omega), h.A.1, if_neg (nI_ge (by omega) (by omega)), c_isPlaced (hb.xIA h.A) hjn, g_ci_some, h2 9 j (by omega), nI_1]
      by_cases q : b.1 9 j = 2
      · have es : plL b (j + 1) = plL b j ++ [j] := by unfold plL; rw [fr_s, if_pos (decide_eq_true q)]
        obtain ⟨⟨y1, y2⟩, ⟨y3, y4⟩, y5, y6, y7⟩ := pv_yes h hjn q
        have ek : (((32 - nI (jn b 14 j)) * 8 * 32 + (nI (jn b 12 j) * 32 + nI (jn b 13 j))) * 64 + nI j : Int32) = nI (Kz b n j) := by
          rw [Kz_y hjn q, show (32 : Int32) = nI 32 from rfl, show (8 : Int32) = nI 8 from rfl, show (64 : Int32) = nI 64 from rfl, nsb y7, nml, nml, nml, nad, nad, nml, nad]
          congr 1
          unfold Ky
          omega
        rw [if_pos q, if_neg (by decide), gin (show j < 60 by omega) (by omega), if_pos rfl, if_pos rfl, if_pos rfl, tn (show j < 2147483648 by omega), eX1_spot, g_ci_some, gin (show (plL b j).length < 60 by omega) (by omega), if_pos rfl, tn (show (plL b j).length < 2147483648 by omega), h2 12 j (by omega), h2 13 j (by omega), h2 14 j (by omega), y1, y3, y5, ek, nI_1]
        have := ih (j + 1) (by omega) (gwI μ 57 (plL b j).length (nI (Kz b n j))) h1 (fun c e hc => by rw [gI_r, if_neg (fun z => hc z.1)]; exact h2 c e hc) (by rw [es]; exact ka_app h3)
        rw [es, List.length_append] at this
        exact this
      · have es : plL b (j + 1) = plL b j := by unfold plL; rw [fr_s, if_neg (by simp [q])]; simp
        rw [if_neg q, if_pos rfl]
        have := ih (j + 1) (by omega) μ h1 h2 (by rw [es]; exact h3)
        rw [es] at this
        exact this
  obtain ⟨μ, g1, g2, g3, g4⟩ := fill n 0 (by omega) b rfl (fun _ _ _ => rfl) (fun i hi => absurd hi (by simp [plL]))
  have hle := plL_le (b := b) (n := n)
  have e0 : mX2_sortForRepack [.ref 0] b = g_cv (mX2_sortKeys [.ref 57, .int (nI (plL b n).length)] μ) (fun u1 => some (some (.int (nI (plL b n).length)), u1)) := by
    rw [eX2_sortForRepack, show rX2_sortForRepack_4 0 0 b = _ from g1, eX2_sortForRepack_4, g3 3 2 (by omega), h.A.1, if_pos (nI_le (Nat.le_refl _) (by omega))]
  cases hP : plL b n with
  | nil =>
    refine ⟨[], μ, ?_, fun i hi => absurd hi (by simp), List.Pairwise.nil, fun x => Iff.rfl, by simp, g2, g3⟩
    rw [e0, hP, eX2_sortKeys, eX2_sortKeys_2, if_pos (by decide), g_cv_some]
  | cons x R =>
    have hSR : ([x] ++ R) = plL b n := by rw [hP]; rfl
    obtain ⟨M, μ2, m1, m2, m3, m4, m5, m6, m7⟩ := c_sort (K := Kz b n) (N := (plL b n).length) (Kz_lt h) (Kz_inj h) (by omega) ((plL b n).length - 1) 1 (by rw [hP]; simp; omega) (Or.inl (by omega)) [x] R μ rfl (by rw [hSR]) (fun y hy => by rw [hSR] at hy; have := (plL_m.mp hy).1; omega) (by rw [hSR]; exact plL_nd) (by rw [hSR]; exact g4) (by simp)
    refine ⟨M, μ2, ?_, m2, m3, fun y => by rw [m4, hSR, hP], by omega, m6.trans g2, fun c e hc => (m7 c e hc).trans (g3 c e hc)⟩
    rw [e0, eX2_sortKeys, show rX2_sortKeys_2 (nI (plL b n).length) 1 μ = _ from m1, g_cv_some, m5]
theorem m_packsAhead {x y : Nat} (h : PV b u n a r p t Q B) (hx : x < n) (hy : y < n) (hx2 : b.1 9 x = 2) (hy2 : b.1 9 y = 2) : mX10_packsAhead [.ref 0, .int (nI x), .int (nI y)] u = some (some (.int (if Ky b x < Ky b y then 1 else 0)), u) := by
  have hn := h.A.n60
  obtain ⟨⟨a1, a2⟩, ⟨a3, a4⟩, a5, a6, a7⟩ := pv_yes h hx hx2
  obtain ⟨⟨c1, c2⟩, ⟨c3, c4⟩, c5, c6, c7⟩ := pv_yes h hy hy2
  rw [eX10_packsAhead, at_9 (by omega), g_ci_some, at_9 (by omega), g_ci_some, (h.e.j hx).f9, (h.e.j hy).f9, a5, c5]
  by_cases q : jn b 14 x = jn b 14 y
  · rw [if_pos (congrArg nI q), m_slotOf h.e hx hn, g_ci_some, m_slotOf h.e hy hn, g_ci_some, a1, c1]
    by_cases q2 : jn b 12 x = jn b 12 y
    · rw [if_pos (congrArg nI q2), m_columnOf h.e hx hn, g_ci_some, m_columnOf h.e hy hn, g_ci_some, a3, c3]
      by_cases q3 : jn b 13 x = jn b 13 y
      · rw [if_pos (congrArg nI q3)]
        by_cases q4 : y ≤ x
        · rw [if_pos (nI_le q4 (by omega)), if_neg (by unfold Ky; omega)]
        · rw [if_neg (nI_ge (by omega) (by omega)), if_pos (by unfold Ky; omega)]
      · rw [if_neg (by rw [neq (by omega) (by omega)]; exact q3), m_columnOf h.e hx hn, g_ci_some, m_columnOf h.e hy hn, g_ci_some, a3, c3]
        by_cases q4 : jn b 13 y ≤ jn b 13 x
        · rw [if_pos (nI_le q4 (by omega)), if_neg (by unfold Ky; omega)]
        · rw [if_neg (nI_ge (by omega) (by omega)), if_pos (by unfold Ky; omega)]
    · rw [if_neg (by rw [neq (by omega) (by omega)]; exact q2), m_slotOf h.e hx hn, g_ci_some, m_slotOf h.e hy hn, g_ci_some, a1, c1]
      by_cases q4 : jn b 12 y ≤ jn b 12 x
      · rw [if_pos (nI_le q4 (by omega)), if_neg (by unfold Ky; omega)]
      · rw [if_neg (nI_ge (by omega) (by omega)), if_pos (by unfold Ky; omega)]
  · rw [if_neg (by rw [neq (by omega) (by omega)]; exact q), at_9 (by omega), g_ci_some, at_9 (by omega), g_ci_some, (h.e.j hx).f9, (h.e.j hy).f9, a5, c5]
    by_cases q4 : jn b 14 x ≤ jn b 14 y
    · rw [if_pos (nI_le q4 (by omega)), if_neg (by unfold Ky; omega)]
    · rw [if_neg (nI_ge (by omega) (by omega)), if_pos (by unfold Ky; omega)]
/-- the same but for what packing notes -/
def kz (u u' : gMem) : Prop := u'.2 = u.2 ∧ ∀ c i, c ≠ 7 → c ≠ 8 → c ≠ 9 → u'.1 c i = u.1 c i
theorem kz.rf : kz u u := ⟨rfl, fun _ _ _ _ _ => rfl⟩
theorem kz.w {c i : Nat} {x : Int32} (h : kz u u') (hc : c = 7 ∨ c = 8 ∨ c = 9) : kz u (gwI u' c i x) := ⟨h.1, fun d k h1 h2 h3 => by rw [gI_r, if_neg (by omega)]; exact h.2 d k h1 h2 h3⟩
theorem kz.qs (h : kz u u') : qs u u' := ⟨h.1, fun i => h.2 1 i (by omega) (by omega) (by omega), fun i => h.2 15 i (by omega) (by omega) (by omega), fun i => h.2 2 i (by omega) (by omega) (by omega), h.2 0 27 (by omega) (by omega) (by omega)⟩
theorem kz.im (h : kz u u') : im u u' := ⟨fun c i hc => h.2 c i (by omega) (by omega) (by omega), h.2 0 27 (by omega) (by omega) (by omega), fun c i _ => by rw [h.1]⟩
theorem m_next {ν : gMem} {M : List Nat} {i : Nat} (h : PV b u n a r p t Q B) (hz : kz u ν) (hM : M.Pairwise (fun x y => Kz b n x < Kz b n y)) (hm : ∀ x, x ∈ M ↔ x ∈ plL b n) (h7 : ∀ j, j < n → ν.1 7 j = if j ∈ M.take i then 1 else 0) (hi : i ≤ M.length) : mX10_nextToPack [.ref 0] ν = some (some (.int (hdI (M.drop i))), ν) := by
  have hn := h.A.n60
  have hν := h.qs hz.qs
  have cand : ∀ j, j < n → (b.1 9 j = 2 ∧ ν.1 7 j = 0 ↔ j ∈ M.drop i) := fun j hj => by
    have hnd : M.Nodup := hM.imp (fun {x y} hxy z => by subst z; omega)
    have hsp : j ∈ M ↔ j ∈ M.take i ∨ j ∈ M.drop i := by rw [← List.mem_append, List.take_append_drop]
    have hdj : j ∈ M.take i → j ∉ M.drop i := fun h1 h2 => by
      have := hnd
      rw [← List.take_append_drop i M, List.nodup_append] at this
      exact this.2.2 j h1 j h2 rfl
    rw [h7 j hj]
    constructor
    · rintro ⟨z1, z2⟩
      have hjM := (hm j).mpr (plL_m.mpr ⟨hj, z1⟩)
      rcases hsp.mp hjM with y | y
      · rw [if_pos y] at z2; exact absurd z2 (by decide)
      · exact y
    · intro z
      have hjM := hsp.mpr (Or.inr z)
      refine ⟨(plL_m.mp ((hm j).mp hjM)).2, ?_⟩
      rw [if_neg (fun y => hdj y z)]
  have key : ∀ k j, j + k = n → ∀ v : Option Nat, (∀ x, v = some x → x < j ∧ x ∈ M.drop i ∧ ∀ y, y < j → y ∈ M.drop i → Kz b n x ≤ Kz b n y) → (v = none → ∀ y, y < j → y ∉ M.drop i) → rX10_nextToPack_4 (v.elim (-1) nI) (nI j) ν = some (some (.int (hdI (M.drop i))), ν) := by
    intro k
    induction k with
    | zero =>
      intro j hj v h1 h2
      have : j = n := by omega
      subst this
      rw [eX10_nextToPack_4, hν.e.h.n, h.A.1, if_pos (nI_le (Nat.le_refl _) (by omega))]
      have hall : ∀ y, y ∈ M.drop i → y < j := fun y hy => (plL_m.mp ((hm y).mp (List.mem_of_mem_drop hy))).1
      cases v with
      | none =>
        have : M.drop i = [] := List.eq_nil_iff_forall_not_mem.mpr (fun y hy => h2 rfl y (hall y hy) hy)
        rw [this]; rfl
      | some x =>
        obtain ⟨x1, x2, x3⟩ := h1 x rfl
        cases hd : M.drop i with
        | nil => rw [hd] at x2; exact absurd x2 (by simp)
        | cons z Z =>
          have hzm : z ∈ M.drop i := by rw [hd]; simp
          have hle := x3 z (hall z hzm) hzm
          have hpd := hM.drop (i := i)
          rw [hd] at hpd x2
          obtain ⟨p1, -⟩ := List.pairwise_cons.mp hpd
          rw [List.mem_cons] at x2
          rcases x2 with x2 | x2
          · subst x2; rfl
          · have := p1 x x2; omega
    | succ k ih =>
      intro j hj v h1 h2
      have hjn : j < n := by omega
      rw [eX10_nextToPack_4, hν.e.h.n, h.A.1, if_neg (nI_ge (by omega) (by omega)), m_isPlaced hν.e hjn hn, g_ci_some, nI_1]
      have skip : j ∉ M.drop i → rX10_nextToPack_4 (v.elim (-1) nI) (nI (j + 1)) ν = some (some (.int (hdI (M.drop i))), ν) := fun q => by
        refine ih (j + 1) (by omega) v (fun x hx => ?_) (fun hv y hy hym => ?_)
        · obtain ⟨x1, x2, x3⟩ := h1 x hx
          refine ⟨by omega, x2, fun y hy hym => ?_⟩
          by_cases z : y = j
          · rw [z] at hym; exact absurd hym q
          · exact x3 y (by omega) hym
        · by_cases z : y = j
          · rw [z] at hym; exact q hym
          · exact h2 hv y (by omega) hym
      by_cases q : b.1 9 j = 2
      · rw [if_pos q, if_neg (by decide), gin (show j < 60 by omega) (by omega), if_pos rfl, tn (show j < 2147483648 by omega)]
        by_cases q2 : ν.1 7 j = 0
        · have hjm := (cand j hjn).mp ⟨q, q2⟩
          rw [if_pos q2]
          cases v with
          | none =>
            show (if (-1 : Int32) = -1 then _ else _) = _
            rw [if_pos rfl]
            exact ih (j + 1) (by omega) (some j) (fun x hx => by
              injection hx with hx
              subst hx
              refine ⟨by omega, hjm, fun y hy hym => ?_⟩
              by_cases z : y = j
              · rw [z]; exact Nat.le_refl _
              · exact absurd hym (h2 rfl y (by omega))) (fun hv => absurd hv (by simp))
          | some x =>
            obtain ⟨x1, x2, x3⟩ := h1 x rfl
            have hx2 := (cand x (by omega)).mpr x2
            show (if nI x = -1 then _ else g_ci (mX10_packsAhead [.ref 0, .int (nI j), .int (nI x)] ν) _) = _
            rw [if_neg (nm1 (by omega)), m_packsAhead hν hjn (by omega) q hx2.1, g_ci_some, ← Kz_y hjn q, ← Kz_y (show x < n by omega) hx2.1]
            by_cases q3 : Kz b n j < Kz b n x
            · rw [if_pos q3, if_neg (by decide)]
              exact ih (j + 1) (by omega) (some j) (fun y hy => by
                injection hy with hy
                subst hy
                refine ⟨by omega, hjm, fun y hy hym => ?_⟩
                by_cases z : y = j
                · rw [z]; exact Nat.le_refl _
                · have := x3 y (by omega) hym; omega) (fun hv => absurd hv (by simp))
            · rw [if_neg q3, if_pos rfl]
              exact ih (j + 1) (by omega) (some x) (fun y hy => by
                injection hy with hy
                subst hy
                refine ⟨by omega, x2, fun y hy hym => ?_⟩
                by_cases z : y = j
                · rw [z]; omega
                · exact x3 y (by omega) hym) (fun hv => absurd hv (by simp))
        · rw [if_neg q2]
          exact skip (fun z => q2 ((cand j hjn).mpr z).2)
      · rw [if_neg q, if_pos rfl]
        exact skip (fun z => q ((cand j hjn).mpr z).1)
  rw [eX10_nextToPack]
  exact key n 0 (by omega) none (fun x hx => absurd hx (by simp)) (fun _ y hy => by omega)
end REPACK
