/-! the relation after a change of the layout, or of a job's state -/
section LAYR
variable {b u b' u' : gMem} {n a r p t B : Nat} {Q : List Nat}
theorem mk_rel {r' B' : Nat} {Q' : List Nat} (h : BW b u n a r p t Q B) (hBB : B ≤ B') (h9 : B' ≤ 1000000000) (H1 : ∀ c i, c ∈ [0, 1, 26, 27, 33, 35, 36, 37, 38, 39, 41, 42, 43, 44, 45, 46, 48, 49, 50, 51] → b'.1 c i = b.1 c i) (H32 : b'.1 3 2 = b.1 3 2) (U1 : ∀ i, (i < 13 ∨ i = 14 ∨ i = 15 ∨ i = 16 ∨ (29 ≤ i ∧ i < 42) ∨ (1242 ≤ i ∧ i < 1482) ∨ (1490 ≤ i ∧ i < 2030)) → u'.1 1 i = u.1 1 i) (Ut : ∀ k, k < 11 → u'.1 1 (18 + k) = b'.1 2 k) (U13 : u'.1 1 13 = nI r') (H29 : b'.1 29 3 = nI r') (hr' : r' ≤ 8) (eJ : EJ b' u' n) (eT : ET b' u' r') (iJ : IJ b' n p t) (iP : IP b' n r' p) (iS : IS b' n r') (iQ : IQ b' u' n Q' B') : BW b' u' n a r' p t Q' B' := by
  have hag : ∀ S : List Nat, (∀ c ∈ S, c ∈ [0, 1, 26, 27, 33, 35, 36, 37, 38, 39, 41, 42, 43, 44, 45, 46, 48, 49, 50, 51]) → ag S b b' := fun S hS c h1 i => H1 c i (hS c h1)
  have hm := h.mono hBB h9
  refine ⟨⟨⟨?_, ?_, Ut, ?_, ?_⟩, eJ, ?_, eT, ?_, ?_⟩, ?_, ?_, iJ, iP, iS, ?_, ?_, ?_, iQ, ?_⟩
  · have := h.e.1.1
    simp (disch := omega) only [U1]
    simp (disch := decide) only [H1]
    exact this
  · obtain ⟨g1, g2, g3, g4, g5, g6, g7⟩ := h.e.1.2.1
    rw [U13, H29, H32, U1 10 (by omega), U1 11 (by omega), U1 12 (by omega), U1 14 (by omega), U1 15 (by omega), U1 16 (by omega), H1 0 12 (by decide), H1 33 1 (by decide), H1 0 13 (by decide), H1 39 1 (by decide), H1 46 1 (by decide)]
    exact ⟨g1, g2, g3, rfl, g5, g6, g7⟩
  · intro v hv; rw [U1 _ (by omega), H1 26 v (by decide)]; exact h.e.1.2.2.2.1 v hv
  · intro v hv; rw [U1 _ (by omega), H1 27 v (by decide)]; exact h.e.1.2.2.2.2 v hv
  · exact h.e.2.2.1.fr (by have := h.A.2.2.2.1; omega) (hag _ (by decide)) (fun i h1 h2 => U1 i (by omega))
  · exact h.e.2.2.2.2.1.fr (hag _ (by decide)) (fun i h1 h2 => U1 i (by omega))
  · exact h.e.2.2.2.2.2.fr (hag _ (by decide)) (fun i h1 h2 => U1 i (by omega))
  · obtain ⟨a1, a2, a3, a4, a5, a6, a7⟩ := h.A
    exact ⟨H32.trans a1, (H1 33 1 (by decide)).trans a2, H29, a4, hr', (H1 1 0 (by decide)).trans a6, a7⟩
  · exact h.T.fr (hag _ (by decide))
  · exact h.U.fr (hag _ (by decide))
  · exact h.R.fr (hag _ (by decide))
  · exact h.D.fr (H1 _ _ (by decide))
  · exact hm.B.fr (H1 _ _ (by decide)) (H1 _ _ (by decide)) (H1 _ _ (by decide))
/-- new slots (and columns) for those placed -/
theorem slots_rel {r' : Nat} {σ κ : Nat → Nat} (h : BW b u n a r p t Q B) (hr' : r' ≤ 8)
    (H1 : ∀ c i, c ∉ [12, 13, 29, 31, 32] → b'.1 c i = b.1 c i) (H12 : ∀ i, i < n → b.1 9 i = 2 → b'.1 12 i = nI (σ i) ∧ σ i < r') (H13 : ∀ i, i < n → b.1 9 i = 2 → b'.1 13 i = nI (κ i) ∧ κ i % jn b 14 i = 0 ∧ κ i + jn b 14 i ≤ p ∧ b.1 0 13 &&& BK (κ i) (jn b 14 i) = 0) (Hn : ∀ i, i < n → b.1 9 i ≠ 2 → b'.1 12 i = b.1 12 i ∧ b'.1 13 i = b.1 13 i)
    (hdis : ∀ i j, i < n → j < n → i ≠ j → b.1 9 i = 2 → b.1 9 j = 2 → σ i = σ j → BK (κ i) (jn b 14 i) &&& BK (κ j) (jn b 14 j) = 0)
    (H32 : ∀ x, x < r' → b'.1 32 x = orF (fun i => if b.1 9 i = 2 ∧ σ i = x then BK (κ i) (jn b 14 i) else 0) n) (H29 : b'.1 29 3 = nI r') (U13 : u'.1 1 13 = nI r')
    (U1 : ∀ i, (i < 42 ∨ 1242 ≤ i) → (i < 1482 ∨ 1490 ≤ i) → i ≠ 13 → u'.1 1 i = u.1 1 i) (UA : ∀ i w, i < 60 → w < 20 → w ≠ 7 → w ≠ 8 → mA u' i w = mA u i w)
    (U7 : ∀ i, i < n → mA u' i 7 = b'.1 12 i + 1) (U8 : ∀ i, i < n → mA u' i 8 = b'.1 13 i + 1) (eT : ET b' u' r') : BW b' u' n a r' p t Q B := by
  have hn := h.A.n60
  have hp := h.A.p32
  have hag : ∀ S : List Nat, (∀ c ∈ S, c ∉ [12, 13, 29, 31, 32]) → ag S b b' := fun S hS c h1 i => H1 c i (hS c h1)
  have h14 : ∀ i, jn b' 14 i = jn b 14 i := fun i => by unfold jn; rw [H1 14 i (by decide)]
  have hκ : ∀ i, i < n → b.1 9 i = 2 → jn b' 13 i = κ i := fun i hi h2 => by
    obtain ⟨k1, -, k3, -⟩ := H13 i hi h2
    unfold jn; rw [k1, tn (by omega)]
  have hbl : ∀ i, i < n → b.1 9 i = 2 → bl b' i = BK (κ i) (jn b 14 i) := fun i hi h2 => by unfold bl; rw [hκ i hi h2, h14]
  have h129 : ∀ i, i < n → ∀ s, s < 2147483648 → b'.1 12 i = nI s → b.1 9 i = 2 := fun i hi s hs h12 => by
    by_cases z : b.1 9 i = 2
    · exact z
    · have h1 := (Hn i hi z).1
      rcases h.P.1 i hi with y | y
      · exact absurd y.1 z
      · rw [h12, y.2.1] at h1; exact absurd h1 (nm1 hs)
  refine mk_rel h (Nat.le_refl _) h.B.2.2.2.2 (fun c i hc => H1 c i (by simp at hc ⊢; omega)) (H1 3 2 (by decide)) (fun i hi => U1 i (by omega) (by omega) (by omega)) (fun k hk => by rw [U1 _ (by omega) (by omega) (by omega), H1 2 k (by decide)]; exact h.e.1.2.2.1 k hk) U13 H29 hr' ?_ eT (h.J.fr (hag _ (by decide))) ⟨?_, ?_⟩ ?_ (h.Q.fr hn (hag _ (by decide)) (H1 3 3 (by decide)) (U1 17 (by omega) (by omega) (by omega)) ?_)
  · intro i hi
    obtain ⟨e0, e1, e2, e3, e4, e5, e6, e7, e8, e9, e10, e11, e12, e13, e14, e15, e16, e17, e18⟩ := h.e.2.1 i hi
    unfold EJ1
    rw [U7 i hi, U8 i hi]
    simp (disch := first | decide | omega) only [UA, H1]
    exact ⟨e0, e1, e2, e3, e4, e5, e6, trivial, trivial, e9, e10, e11, e12, e13, e14, e15, e16, e17, e18⟩
  · intro i hi
    by_cases z : b.1 9 i = 2
    · obtain ⟨k1, k2⟩ := H12 i hi z
      obtain ⟨m1, m2, m3, m4⟩ := H13 i hi z
      refine Or.inl ⟨by rw [H1 9 i (by decide)]; exact z, ?_, ?_, ?_, ?_, ?_⟩
      · unfold jn; rw [k1, tn (by omega)]; exact ⟨rfl, k2⟩
      · rw [hκ i hi z]; exact m1
      · rw [hκ i hi z, h14]; exact m2
      · rw [hκ i hi z, h14]; exact m3
      · rw [hbl i hi z, H1 0 13 (by decide)]; exact m4
    · obtain ⟨k1, k2⟩ := Hn i hi z
      rcases h.P.1 i hi with y | y
      · exact absurd y.1 z
      · exact Or.inr ⟨by rw [H1 9 i (by decide)]; exact z, by rw [k1]; exact y.2.1, by rw [k2]; exact y.2.2⟩
  · intro i j hi hj hij h2 h12
    rw [H1 9 i (by decide)] at h2
    obtain ⟨k1, k2⟩ := H12 i hi h2
    rw [k1] at h12
    have hj2 := h129 j hj (σ i) (by omega) h12.symm
    obtain ⟨k3, k4⟩ := H12 j hj hj2
    rw [k3, neq (by omega) (by omega)] at h12
    rw [hbl i hi h2, hbl j hj hj2]
    exact hdis i j hi hj hij h2 hj2 h12
  · intro x hx
    rw [H32 x hx]
    refine orF_congr (fun i hi => ?_)
    unfold sb
    by_cases z : b.1 9 i = 2
    · obtain ⟨k1, k2⟩ := H12 i hi z
      rw [k1, hbl i hi z]
      by_cases y : σ i = x
      · rw [if_pos ⟨z, y⟩, if_pos (by rw [y])]
      · rw [if_neg (fun w => y w.2), if_neg (by rw [neq (by omega) (by omega)]; exact y)]
    · rw [if_neg (fun w => z w.1), if_neg (fun w => z (h129 i hi x (by omega) w))]
  · intro j hj
    exact UA j 19 hj (by omega) (by omega) (by omega)
theorem orF_del {f g : Nat → Int32} {X : Int32} {j n : Nat} (hj : j < n) (hg : ∀ i, i < n → i ≠ j → g i = f i ∧ f i &&& X = 0) (h0 : g j = 0) (h1 : f j = X) : orF g n = orF f n &&& (X ^^^ (-1)) := by
  refine b_ext (fun d hd => Bool.eq_iff_iff.mpr ?_)
  rw [b_and, Bool.and_eq_true, orF_bt, orF_bt, b_not _ hd]
  constructor
  · rintro ⟨i, hi, hb⟩
    by_cases q : i = j
    · subst q; rw [h0, b_0] at hb; exact absurd hb (by decide)
    · obtain ⟨k1, k2⟩ := hg i hi q
      rw [k1] at hb
      refine ⟨⟨i, hi, hb⟩, ?_⟩
      have := b_z.mp k2 d hd
      rw [b_and, hb] at this
      simpa using this
  · rintro ⟨⟨i, hi, hb⟩, hx⟩
    by_cases q : i = j
    · subst q; rw [h1] at hb; rw [hb] at hx; exact absurd hx (by decide)
    · exact ⟨i, hi, by rw [(hg i hi q).1]; exact hb⟩
theorem ip_no {j : Nat} (h : IP1 b r p j) (h2 : b.1 9 j ≠ 2) : b.1 12 j = -1 ∧ b.1 13 j = -1 := by
  rcases h with q | q
  · exact absurd q.1 h2
  · exact q.2
theorem ip_yes {j : Nat} (h : IP1 b r p j) (h2 : b.1 9 j = 2) : (b.1 12 j = nI (jn b 12 j) ∧ jn b 12 j < r) ∧ b.1 13 j = nI (jn b 13 j) ∧ jn b 13 j % jn b 14 j = 0 ∧ jn b 13 j + jn b 14 j ≤ p ∧ b.1 0 13 &&& bl b j = 0 := by
  rcases h with q | q
  · exact q.2
  · exact absurd h2 q.1
/-- a job that is out of the matrix: its slot's columns are free again -/
theorem out_IS {j : Nat} (h : BW b u n a r p t Q B) (hj : j < n) (H12 : ∀ i, b'.1 12 i = if i = j then -1 else b.1 12 i) (H13 : ∀ i, b'.1 13 i = if i = j then -1 else b.1 13 i) (H14 : ∀ i, b'.1 14 i = b.1 14 i) (H32 : ∀ s, s < r → b'.1 32 s = if b.1 12 j = nI s then b.1 32 s &&& (bl b j ^^^ (-1)) else b.1 32 s) : IS b' n r := by
  intro s hs
  have hr := h.A.2.2.2.2.1
  have hne : ∀ i, i ≠ j → sb b' s i = sb b s i := fun i hi => by
    unfold sb
    rw [H12, if_neg hi, bl_fi (b := b) (b' := b') (fun k hk => by
      simp only [List.mem_cons, List.not_mem_nil, or_false] at hk
      rcases hk with z | z
      · subst z; rw [H13, if_neg hi]
      · subst z; exact H14 i)]
  have h0 : sb b' s j = 0 := by unfold sb; rw [H12, if_pos rfl, if_neg (fun z => nm1 (by omega) z.symm)]
  rw [H32 s hs]
  by_cases q : b.1 12 j = nI s
  · rw [if_pos q, h.S s hs]
    refine (orF_del hj (fun i hi hij => ⟨hne i hij, ?_⟩) h0 (by unfold sb; rw [if_pos q])).symm
    unfold sb
    by_cases z : b.1 12 i = nI s
    · rw [if_pos z]
      have h2 : b.1 9 i = 2 := ip_slot (h.P.1 i hi) (by omega) z
      exact h.P.2 i j hi hj hij h2 (z.trans q.symm)
    · rw [if_neg z]; exact b_z.mpr (fun d _ => by rw [b_and, b_0]; rfl)
  · rw [if_neg q, h.S s hs]
    refine (orF_congr (fun i hi => ?_)).symm
    by_cases z : i = j
    · subst z; rw [h0]; unfold sb; rw [if_neg q]
    · exact hne i z
theorem end_rel {j : Nat} {st : Int32} (h : BW b u n a r p t Q B) (hj : j < n) (hst : st = 3 ∨ st = 4) (H1 : ∀ c i, c ∉ [3, 24, 9, 12, 13, 20, 32] → b'.1 c i = b.1 c i) (H2 : b'.2 = b.2) (H3 : b'.1 3 2 = b.1 3 2) (H4 : b'.1 3 3 = nI (Q.filter (fun x => decide (x ≠ j))).length) (H5 : arr b' 24 (Q.filter (fun x => decide (x ≠ j)))) (H6 : ∀ i, b'.1 9 i = if i = j then st else b.1 9 i) (H7 : ∀ i, b'.1 12 i = if i = j then -1 else b.1 12 i) (H8 : ∀ i, b'.1 13 i = if i = j then -1 else b.1 13 i) (H20 : ∀ i, b'.1 20 i = if i = j then b.1 0 12 else b.1 20 i) (H9 : ∀ s, s < r → b'.1 32 s = if b.1 12 j = nI s then b.1 32 s &&& (bl b j ^^^ (-1)) else b.1 32 s) :
    BW b' (wA (wA (wA (wA u j 4 st) j 7 0) j 8 0) j 15 (b.1 0 12 + 1)) n a r p t (Q.filter (fun x => decide (x ≠ j))) B := by
  have hn := h.A.n60
  have hr := h.A.2.2.2.2.1
  have hag : ∀ S : List Nat, (∀ c ∈ S, c ∉ [3, 24, 9, 12, 13, 20, 32]) → ag S b b' := fun S hS c h1 i => H1 c i (hS c h1)
  have hst2 : st ≠ 2 := by rcases hst with q | q <;> rw [q] <;> decide
  have hne : ∀ i, i ≠ j → ∀ k, k ≠ 3 → k ≠ 24 → k ≠ 32 → b'.1 k i = b.1 k i := by
    intro i hi k k1 k2 k3
    by_cases q : k ∈ [3, 24, 9, 12, 13, 20, 32]
    · simp only [List.mem_cons, List.not_mem_nil] at q
      rcases q with q | q | q | q | q | q | q | q
      · omega
      · omega
      · subst q; rw [H6, if_neg hi]
      · subst q; rw [H7, if_neg hi]
      · subst q; rw [H8, if_neg hi]
      · subst q; rw [H20, if_neg hi]
      · omega
      · exact absurd q (by simp)
    · exact H1 k i q
  have hbl : ∀ i, i ≠ j → bl b' i = bl b i := fun i hi => bl_fi (fun k hk => hne i hi k (by simp at hk; omega) (by simp at hk; omega) (by simp at hk; omega))
  have hU : ∀ i, (i < 42 ∨ 1242 ≤ i) → (wA (wA (wA (wA u j 4 st) j 7 0) j 8 0) j 15 (b.1 0 12 + 1)).1 1 i = u.1 1 i := fun i hi => by
    unfold wA; rw [gI_r, if_neg (by omega), gI_r, if_neg (by omega), gI_r, if_neg (by omega), gI_r, if_neg (by omega)]
  refine mk_rel h (Nat.le_refl _) h.B.2.2.2.2 (fun c i hc => H1 c i (by simp at hc ⊢; omega)) H3 (fun i hi => hU i (by omega)) (fun k hk => by rw [hU _ (by omega), H1 2 k (by decide)]; exact h.e.1.2.2.1 k hk) (by rw [hU _ (by omega)]; exact h.e.h.r.trans h.A.2.2.1) (by rw [H1 29 3 (by decide)]; exact h.A.2.2.1) hr ?_ ?_ ?_ ⟨?_, ?_⟩ (out_IS h hj H7 H8 (fun i => H1 14 i (by decide)) H9) ?_
  · intro i hi
    obtain ⟨e0, e1, e2, e3, e4, e5, e6, e7, e8, e9, e10, e11, e12, e13, e14, e15, e16, e17, e18⟩ := h.e.2.1 i hi
    have hz : (-1 : Int32) + 1 = 0 := by decide
    unfold EJ1
    simp (disch := omega) only [mA_wA]
    simp (disch := decide) only [H1, H6, H7, H8, H20]
    by_cases q : i = j
    · subst q; simp [e0, e1, e2, e3, e5, e6, e9, e10, e11, e12, e13, e14, e16, e17, e18, hz]
    · simp [q, e0, e1, e2, e3, e4, e5, e6, e7, e8, e9, e10, e11, e12, e13, e14, e15, e16, e17, e18]
  · exact h.e.2.2.2.1.fr hr (hag _ (by decide)) (fun i h1 h2 => hU i (by omega)) (fun s _ => by rw [H2]) (fun _ _ => rfl)
  · intro i hi
    by_cases q : i = j
    · subst q
      obtain ⟨j1, j2, j3, j4, j5, j6, j7, j8⟩ := h.J i hi
      unfold IJ1 jn at *
      simp (disch := decide) only [H1, H6, H20, if_pos]
      refine ⟨j1, j2, j3, ?_, ⟨j5.1, j5.2.1, j5.2.2.1, j5.2.2.2.1, ?_, ?_⟩, j6, j7, j8⟩
      · rcases hst with z | z <;> subst z <;> exact ⟨by decide, by decide, fun y => absurd y (by decide)⟩
      · rcases hst with z | z <;> subst z <;> exact fun y => absurd y (by decide)
      · rcases hst with z | z <;> subst z <;> exact fun y => absurd y (by decide)
    · exact (h.J i hi).fi (fun k hk => hne i q k (by simp at hk; omega) (by simp at hk; omega) (by simp at hk; omega))
  · intro i hi
    by_cases q : i = j
    · subst q; exact Or.inr ⟨by rw [H6, if_pos rfl]; exact hst2, by rw [H7, if_pos rfl], by rw [H8, if_pos rfl]⟩
    · exact (h.P.1 i hi).fi (fun k hk => hne i q k (by simp at hk; omega) (by simp at hk; omega) (by simp at hk; omega)) (H1 0 13 (by decide))
  · intro i k hi hk hik h9 h12
    have hij : i ≠ j := fun z => by rw [z, H6, if_pos rfl] at h9; exact hst2 h9
    rw [H6, if_neg hij] at h9
    rw [H7, if_neg hij] at h12
    have hkj : k ≠ j := fun z => by
      rw [z, H7, if_pos rfl] at h12
      obtain ⟨y, -⟩ := ip_yes (h.P.1 i hi) h9
      rw [y.1] at h12
      exact nm1 (by omega) h12
    rw [H7, if_neg hkj] at h12
    rw [hbl i hij, hbl k hkj]
    exact h.P.2 i k hi hk hik h9 h12
  · obtain ⟨q1, q2, q3, q4, q5, ⟨cm, q6, q7, q8⟩, q9⟩ := h.Q
    have h19 : ∀ i, i < 60 → mA (wA (wA (wA (wA u j 4 st) j 7 0) j 8 0) j 15 (b.1 0 12 + 1)) i 19 = mA u i 19 := by
      intro i hi
      simp (disch := omega) only [mA_wA]
      simp
    have hj19 : ∀ i, i < 60 → jn (wA (wA (wA (wA u j 4 st) j 7 0) j 8 0) j 15 (b.1 0 12 + 1)) 1 (42 + 20 * i + 19) = jn u 1 (42 + 20 * i + 19) := fun i hi => congrArg Int32.toNatClampNeg (h19 i hi)
    have hm60 : ∀ x, x ∈ Q → x < 60 := fun x hx => by have := ((q5 x).mp hx).1; omega
    refine ⟨H4, Nat.le_trans (List.length_filter_le _ _) q2, H5, q4.filter _, fun x => ?_, ⟨cm, by rw [hU 17 (by omega)]; exact q6, q7, fun x hx => ?_⟩, ?_⟩
    · rw [List.mem_filter, q5, H6]
      by_cases qx : x = j
      · subst qx
        rw [if_pos rfl]
        constructor
        · intro z; simp at z
        · intro z; rcases hst with y | y <;> rw [y] at z <;> exact absurd z.2 (by decide)
      · simp [qx]
    · have hx := (List.mem_filter.mp hx).1
      rw [hj19 x (hm60 x hx), h19 x (hm60 x hx)]
      exact q8 x hx
    · refine (q9.filter _).imp_of_mem (fun {x y} hx hy hxy => ?_)
      rw [hj19 x (hm60 x (List.mem_filter.mp hx).1), hj19 y (hm60 y (List.mem_filter.mp hy).1)]
      exact hxy
end LAYR
