section PACK2
variable {b u b' u' : gMem} {n a r p t B : Nat} {Q : List Nat}
/-- the reference's slots as they are laid -/
def rS (u ν : gMem) (n : Nat) (L : List Int32) (A : Nat → Nat) (P : List Nat) : Prop := kz u ν ∧ (∀ f (h : f < L.length), ν.1 8 f = L[f]) ∧ (∀ j, j ∈ P → ν.1 9 j = nI (A j)) ∧ (∀ j, j < n → ν.1 7 j = if j ∈ P then 1 else 0)
theorem fF_uniq {L : List Int32} {X : Int32} {f g : Nat} (h : fF L X f) (h2 : fF L X g) : f = g := by
  obtain ⟨f1, f2, f3⟩ := h
  obtain ⟨g1, g2, g3⟩ := h2
  rcases (show f < g ∨ f = g ∨ g < f by omega) with z | z | z
  · exact absurd (f3 (by omega)) (g2 f (by omega) z)
  · exact z
  · exact absurd (g3 (by omega)) (f2 g (by omega) z)
theorem m_pack1 {ν : gMem} {L : List Int32} {A : Nat → Nat} {M : List Nat} {i f : Nat} {v1 : Int64} (hV : PV b u n a r p t Q B) (hs : rS u ν n L A (M.take i)) (hL : L.length ≤ 8) (hi : i < M.length) (hM : M.Pairwise (fun x y => Kz b n x < Kz b n y)) (hm : ∀ x, x ∈ M ↔ x ∈ plL b n) (hf : fF L (bl b M[i]) f) : ∃ ν', rX10_packs_42 v1 (nI L.length) (nI M[i]) ν = rX10_packs_42 v1 (nI (pkL L (bl b M[i]) f).length) (hdI (M.drop (i + 1))) ν' ∧ rS u ν' n (pkL L (bl b M[i]) f) (pkA A M[i] f) (M.take (i + 1)) := by
  have hn := hV.A.n60
  obtain ⟨hx, hx2⟩ := plL_m.mp ((hm _).mp (List.getElem_mem hi))
  obtain ⟨hz, s8, s9, s7⟩ := hs
  have hts := List.take_succ_eq_append_getElem hi
  have hblk : ∀ ν : gMem, kz u ν → mX10_blockOf [.ref 0, .int (nI M[i])] ν = some (some (.int (bl b M[i])), ν) := fun ν hk => m_blockOf (hV.qs hk.qs).e hx hn (hV.J _ hx) (ip_col (hV.P _ hx) hx2)
  have hnd : M.Nodup := hM.imp (fun {x y} hxy z => by subst z; omega)
  have hxP : M[i] ∉ M.take i := fun z => by
    have h1 := hnd
    rw [← List.take_append_drop i M, List.nodup_append] at h1
    exact h1.2.2 _ z _ (drop_get hi) rfl
  -- what is noted when a place is found
  have fin : ∀ (ν0 : gMem) (Y : Int32), kz u ν0 → (∀ g (h : g < L.length), g ≠ f → ν0.1 8 g = L[g]) → (∀ j, j ∈ M.take i → ν0.1 9 j = nI (A j)) → (∀ j, j < n → ν0.1 7 j = if j ∈ M.take i then 1 else 0) → Y = (if h : f < L.length then L[f] ||| bl b M[i] else bl b M[i]) → rS u (gwI (gwI (gwI ν0 8 f Y) 9 M[i] (nI f)) 7 M[i] 1) n (pkL L (bl b M[i]) f) (pkA A M[i] f) (M.take (i + 1)) := by
    intro ν0 Y k0 k8 k9 k7 kY
    refine ⟨((k0.w (by omega)).w (by omega)).w (by omega), fun g hg => ?_, fun j hj => ?_, fun j hj => ?_⟩
    · rw [pkL_get hf.1 hg, gI_r, if_neg (by omega), gI_r, if_neg (by omega), gI_r]
      by_cases z : g = f
      · rw [if_pos ⟨rfl, z⟩, if_pos z]; exact kY
      · have hgL : g < L.length := by
          rw [pkL_len] at hg
          have := hf.1
          split at hg <;> omega
        rw [if_neg (fun y => z y.2), if_neg z, dif_pos hgL]; exact k8 g hgL z
    · rw [gI_r, if_neg (by omega), gI_r]
      unfold pkA
      by_cases z : j = M[i]
      · rw [if_pos ⟨rfl, z⟩, if_pos z]
      · rw [if_neg (fun y => z y.2), if_neg z, gI_r, if_neg (by omega)]
        rw [hts, List.mem_append, List.mem_singleton] at hj
        rcases hj with hj | hj
        · exact k9 j hj
        · exact absurd hj z
    · rw [gI_r]
      by_cases z : j = M[i]
      · rw [if_pos ⟨rfl, z⟩, if_pos (by rw [hts, z]; exact List.mem_append.mpr (Or.inr (List.mem_singleton.mpr rfl)))]
      · rw [if_neg (fun y => z y.2), gI_r, if_neg (by omega), gI_r, if_neg (by omega), k7 j hj]
        have : (j ∈ M.take (i + 1)) ↔ j ∈ M.take i := by rw [hts, List.mem_append, List.mem_singleton]; simp [z]
        by_cases w : j ∈ M.take i
        · rw [if_pos w, if_pos (this.mpr w)]
        · rw [if_neg w, if_neg (fun y => w (this.mp y))]
  have g01 : g_01 1 = true := rfl
  have step : ∀ k s, s + k = f → (rX10_packs_51 v1 (nI L.length) (nI M[i]) (nI s) ν = rX10_packs_51 v1 (nI L.length) (nI M[i]) (nI f) ν) := by
    intro k
    induction k with
    | zero => intro s hs; rw [show s = f by omega]
    | succ k ih =>
      intro s hs
      have hsL : s < L.length := by have := hf.1; omega
      rw [eX10_packs_51, if_neg (nI_ge (by omega) (by omega)), gin (show s < 61 by omega) (by omega), if_pos rfl, hblk ν hz, g_ci_some, tn (show s < 2147483648 by omega), s8 s hsL, if_neg (hf.2.1 s hsL (by omega)), nI_1]
      exact ih (s + 1) (by omega)
  rw [eX10_packs_42, if_neg (nm1 (by omega)), show rX10_packs_51 v1 (nI L.length) (nI M[i]) 0 ν = _ from step f 0 (by omega)]
  by_cases hfl : f < L.length
  · have hr := fin ν (L[f] ||| bl b M[i]) hz (fun g hg _ => s8 g hg) s9 s7 (by rw [dif_pos hfl])
    refine ⟨_, ?_, hr⟩
    have hnx := m_next (i := i + 1) hV hr.1 hM hm hr.2.2.2 (by omega)
    rw [eX10_packs_51, if_neg (nI_ge (by omega) (by omega)), gin (show f < 61 by omega) (by omega), if_pos rfl, hblk ν hz, g_ci_some, tn (show f < 2147483648 by omega), s8 f hfl, if_pos (hf.2.2 hfl), if_neg (by rw [neq (by omega) (by omega)]; omega), if_pos rfl, hblk ν hz, g_ci_some, if_pos rfl, gin (show M[i] < 60 by omega) (by omega), if_pos rfl, g01, if_pos (by rfl), tn (show M[i] < 2147483648 by omega), hnx, g_ci_some, pkL_len, if_pos hfl]
  · have hfe : f = L.length := by have := hf.1; omega
    have hr := fin (gwI ν 8 f 0) (0 ||| bl b M[i]) (hz.w (by omega)) (fun g hg hgf => by rw [gI_r, if_neg (fun z => hgf z.2)]; exact s8 g hg) (fun j hj => by rw [gI_r, if_neg (by omega)]; exact s9 j hj) (fun j hj => by rw [gI_r, if_neg (by omega)]; exact s7 j hj) (by rw [dif_neg hfl, or0])
    refine ⟨_, ?_, hr⟩
    have hnx := m_next (i := i + 1) hV hr.1 hM hm hr.2.2.2 (by omega)
    have e8 : (gwI ν 8 f 0).1 8 f = 0 := by rw [gI_r, if_pos ⟨rfl, rfl⟩]
    rw [eX10_packs_51, if_pos (nI_le (by omega) (by omega)), if_pos (congrArg nI hfe), gin (show f < 61 by omega) (by omega), if_pos rfl, if_pos rfl, tn (show f < 2147483648 by omega), hblk _ (hz.w (by omega)), g_ci_some, if_pos rfl, gin (show M[i] < 60 by omega) (by omega), if_pos rfl, g01, if_pos (by rfl), tn (show M[i] < 2147483648 by omega), e8, hnx, g_ci_some, pkL_len, if_neg hfl, nI_1]
theorem pack_loop {b1 : gMem} {v1 : Int64} {M : List Nat} (hV : PV b u n a r p t Q B) (hb : bs b b1) (hka : ka (Kz b n) b1 57 M) (hM60 : M.length ≤ 60) (hM : M.Pairwise (fun x y => Kz b n x < Kz b n y)) (hm : ∀ x, x ∈ M ↔ x ∈ plL b n) (hld : ∀ c, c < 32 → ld b n c ≤ 8) : ∀ k i, i + k = M.length → ∀ (μ ν : gMem) (L : List Int32) (A : Nat → Nat), cS b1 μ L A (M.take i) → rS u ν n L A (M.take i) → pI b (M.take i) L A → L.length ≤ 8 → (∀ f (h : f < L.length), L[f] ≠ 0) → ∃ (μ' ν' : gMem) (L' : List Int32) (A' : Nat → Nat), rX2_repackAll_24 v1 (nI M.length) (nI i) μ = g_cv (mX7_passAllAt [.ref 29, .long v1] μ') (fun u1 => some (none, u1)) ∧ rX10_packs_42 v1 (nI L.length) (hdI (M.drop i)) ν = rX10_packs_151 v1 (nI L'.length) 0 ν' ∧ cS b1 μ' L' A' M ∧ rS u ν' n L' A' M ∧ pI b M L' A' ∧ L'.length ≤ 8 ∧ (∀ f (h : f < L'.length), L'[f] ≠ 0) := by
  have hn := hV.A.n60
  have hV1 := hV.bs hb
  have hnd : M.Nodup := hM.imp (fun {x y} hxy z => by subst z; omega)
  have hblb : ∀ j, bl b1 j = bl b j := fun j => by rw [hb.xbl]
  intro k
  induction k with
  | zero =>
    intro i hi μ ν L A hc hr hp hL hz0
    have : i = M.length := by omega
    subst this
    rw [List.take_length] at *
    refine ⟨μ, ν, L, A, ?_, ?_, hc, hr, hp, hL, hz0⟩
    · rw [eX2_repackAll_24, if_pos (nI_le (Nat.le_refl _) (by omega))]
    · rw [List.drop_length]
      show rX10_packs_42 v1 (nI L.length) (-1) ν = _
      rw [eX10_packs_42, if_pos rfl]
  | succ k ih =>
    intro i hi μ ν L A hc hr hp hL hz0
    have hiM : i < M.length := by omega
    obtain ⟨hx, hx2⟩ := plL_m.mp ((hm _).mp (List.getElem_mem hiM))
    have hxP : M[i] ∉ M.take i := fun z => by
      have h1 := hnd
      rw [← List.take_append_drop i M, List.nodup_append] at h1
      exact h1.2.2 _ z _ (drop_get hiM) rfl
    have hkm : Kz b n M[i] % 64 = M[i] := by rw [Kz_y hx hx2]; unfold Ky; omega
    have hP : ∀ y ∈ M.take i, y < n ∧ b.1 9 y = 2 ∧ Kz b n y < Kz b n M[i] := fun y hy => by
      obtain ⟨y1, y2⟩ := plL_m.mp ((hm _).mp (List.mem_of_mem_take hy))
      obtain ⟨e, he, hye⟩ := List.mem_iff_getElem.mp hy
      rw [List.getElem_take] at hye
      have he2 : e < i := by simp at he; omega
      have := List.pairwise_iff_getElem.mp hM e i (by omega) hiM he2
      rw [hye] at this
      exact ⟨y1, y2, this⟩
    obtain ⟨f, μ1, f1, f2, f3⟩ := c_pack1 (b := b) (v1 := v1) (M := M) (i := i) hV1 hc hL hiM hM60 hka hx ((hb.c 9 _ rfl).trans hx2) hkm (Kz_lt hV _ (by omega)) (fun hno => pI_room hV hp hxP hx hx2 hP hld (fun g hg => by rw [← hblb]; exact hno g hg))
    rw [hblb] at f1 f3
    obtain ⟨ν1, m1, m2⟩ := m_pack1 (v1 := v1) hV hr hL hiM hM hm f1
    have hp1 := pI_step hp hxP f1
    have hts := List.take_succ_eq_append_getElem hiM
    rw [← hts] at f3 hp1
    have hL1 : (pkL L (bl b M[i]) f).length ≤ 8 := by
      rw [pkL_len]
      by_cases q : f < L.length
      · rw [if_pos q]; exact hL
      · rw [if_neg q]
        have := pI_room hV hp hxP hx hx2 hP hld (fun g hg => f1.2.1 g hg (by omega))
        omega
    have hne : bl b M[i] ≠ 0 := by
      obtain ⟨-, ⟨-, y4⟩, -, y6, y7⟩ := pv_yes hV hx hx2
      exact BK_ne y4 ⟨y6, y7⟩
    obtain ⟨μ', ν', L', A', g1, g2, g3⟩ := ih (i + 1) (by omega) μ1 ν1 _ _ f3 m2 hp1 hL1 (fun g hg => by
      rw [pkL_get f1.1 hg]
      by_cases z : g = f
      · rw [if_pos z]
        by_cases q : f < L.length
        · rw [dif_pos q]; exact or_ne hne
        · rw [dif_neg q]; exact hne
      · have hgL : g < L.length := by
          rw [pkL_len] at hg
          have := f1.1
          split at hg <;> omega
        rw [if_neg z, dif_pos hgL]; exact hz0 g hgL)
    refine ⟨μ', ν', L', A', by rw [f2]; exact g1, ?_, g3⟩
    rw [show hdI (M.drop i) = nI M[i] from by rw [List.drop_eq_getElem_cons hiM]; rfl, m1]
    exact g2
theorem pv_ld (h : BW b u n a r p t Q B) : ∀ c, c < 32 → ld b n c ≤ 8 := fun c _ => ld_8 h.A h.P h.S c
theorem pack_bothX (h : PV b u n a r p t Q B) (hld : ∀ c, c < 32 → ld b n c ≤ 8) : ∃ (b' u' : gMem) (r' : Nat), mX2_repackAll [.ref 0] b = some (none, b') ∧ mX10_packs [.ref 0] u = some (none, u') ∧ BW b' u' n a r' p t Q B ∧ (∀ s, s < r' → b'.1 32 s ≠ 0) ∧ im u u' ∧ (∀ c i, c ∉ [12, 29, 31, 32, 57] → b'.1 c i = b.1 c i) ∧ (∀ i, u'.1 12 i = u.1 12 i) := by
  have hn := h.A.n60
  have hr := h.A.2.2.2.2.1
  obtain ⟨v, l1, l2⟩ := leastPass_both h.e.2.2.2.1 h.A.2.2.1 (h.e.h.r.trans h.A.2.2.1) hr
  obtain ⟨M, b1, s1, s2, s3, s4, s5, s6, s7⟩ := c_sortForRepack h
  have hb1 : bs b b1 := ⟨s6, fun c i hc => s7 c i (by omega)⟩
  have hV1 := h.bs hb1
  -- nobody is packed yet
  have clr : ∀ k j, j + k = n → ∀ ν : gMem, kz u ν → (∀ i, i < j → ν.1 7 i = 0) → ∃ ν', rX10_packs_10 v 0 (nI j) ν = g_ci (mX10_nextToPack [.ref 0] ν') (fun a1 u1 => rX10_packs_42 v 0 a1 u1) ∧ kz u ν' ∧ (∀ i, i < n → ν'.1 7 i = 0) := by
    intro k
    induction k with
    | zero =>
      intro j hj ν hz h7
      have : j = n := by omega
      subst this
      exact ⟨ν, by rw [eX10_packs_10, (h.qs hz.qs).e.h.n, h.A.1, if_pos (nI_le (Nat.le_refl _) (by omega))], hz, h7⟩
    | succ k ih =>
      intro j hj ν hz h7
      rw [eX10_packs_10, (h.qs hz.qs).e.h.n, h.A.1, if_neg (nI_ge (by omega) (by omega)), gin (show j < 60 by omega) (by omega), show g_01 0 = true from rfl, if_pos (by rfl), tn (show j < 2147483648 by omega), nI_1]
      exact ih (j + 1) (by omega) _ (hz.w (by omega)) (fun i hi => by
        rw [gI_r]
        by_cases z : i = j
        · rw [if_pos ⟨rfl, z⟩]
        · rw [if_neg (fun y => z y.2)]; exact h7 i (by omega))
  obtain ⟨ν0, c1, c2, c3⟩ := clr n 0 (by omega) u kz.rf (fun i hi => by omega)
  have hnx := m_next (i := 0) h c2 s3 s4 (fun j hj => by rw [c3 j hj]; simp) (by omega)
  obtain ⟨μ, ν, L, A, g1, g2, g3, g4, g5, g6, g7⟩ := pack_loop (v1 := v) h hb1 s2 s5 s3 s4 hld M.length 0 (by omega) (gwI b1 29 3 0) ν0 [] (fun _ => 0) ⟨rfl, fun f hf => absurd hf (by simp), fun j => by simp; rfl, fun c i hc => by rw [gI_r, if_neg (by simp at hc; omega)]⟩ ⟨c2, fun f hf => absurd hf (by simp), fun j hj => absurd hj (by simp), fun j hj => by rw [c3 j hj]; simp⟩ ⟨fun y hy => absurd hy (by simp), fun f hf => absurd hf (by simp), fun y hy => absurd hy (by simp)⟩ (by simp) (fun f hf => absurd hf (by simp))
  obtain ⟨k29, ks, k12, ko⟩ := g3
  obtain ⟨n0, n8, n9, n7⟩ := g4
  -- passes
  have pas : ∀ k s, s + k = L.length → ∀ μ1 : gMem, (∀ c i, μ1.1 c i = μ.1 c i) → (∀ x, x < s → μ1.2 30 x = v) → ∃ μ2 : gMem, rX7_passAllAt_2 v (nI s) μ1 = some (none, μ2) ∧ (∀ c i, μ2.1 c i = μ.1 c i) ∧ (∀ x, x < L.length → μ2.2 30 x = v) := by
    intro k
    induction k with
    | zero =>
      intro s hs μ1 h1 h2
      rw [show s = L.length by omega] at *
      exact ⟨μ1, by rw [eX7_passAllAt_2, h1 29 3, k29, if_pos (nI_le (Nat.le_refl _) (by omega))], h1, h2⟩
    | succ k ih =>
      intro s hs μ1 h1 h2
      rw [eX7_passAllAt_2, h1 29 3, k29, if_neg (nI_ge (by omega) (by omega)), gin (show s < 8 by omega) (by omega), if_pos rfl, tn (show s < 2147483648 by omega), nI_1]
      exact ih (s + 1) (by omega) _ (fun c i => by rw [gL_i]; exact h1 c i) (fun x hx => by
        rw [gL_r]
        by_cases z : x = s
        · rw [if_pos ⟨rfl, z⟩]
        · rw [if_neg (fun y => z y.2)]; exact h2 x (by omega))
  obtain ⟨μ', p1, p2, p3⟩ := pas L.length 0 (by omega) μ (fun _ _ => rfl) (fun x hx => by omega)
  -- the reference's jobs
  have hV' := h.qs n0.qs
  have job : ∀ k j, j + k = n → ∀ ν1 : gMem, ν1.2 = ν.2 → (∀ c i, c ≠ 1 → ν1.1 c i = ν.1 c i) → (∀ i, (i < 42 ∨ 1242 ≤ i) → ν1.1 1 i = ν.1 1 i) → (∀ i w, i < 60 → w < 20 → mA ν1 i w = if w = 7 ∧ i < j ∧ b.1 9 i = 2 then nI (A i) + 1 else mA ν i w) → ∃ ν2 : gMem, rX10_packs_151 v (nI L.length) (nI j) ν1 = rX10_packs_206 v (nI L.length) 0 (gwI ν2 1 13 (nI L.length)) ∧ ν2.2 = ν.2 ∧ (∀ c i, c ≠ 1 → ν2.1 c i = ν.1 c i) ∧ (∀ i, (i < 42 ∨ 1242 ≤ i) → ν2.1 1 i = ν.1 1 i) ∧ (∀ i w, i < 60 → w < 20 → mA ν2 i w = if w = 7 ∧ i < n ∧ b.1 9 i = 2 then nI (A i) + 1 else mA ν i w) := by
    intro k
    induction k with
    | zero =>
      intro j hj ν1 h1 h2 h3 h4
      have : j = n := by omega
      subst this
      exact ⟨ν1, by rw [eX10_packs_151, h3 11 (by omega), hV'.e.h.n, h.A.1, if_pos (nI_le (Nat.le_refl _) (by omega))], h1, h2, h3, h4⟩
    | succ k ih =>
      intro j hj ν1 h1 h2 h3 h4
      have hjn : j < n := by omega
      have e4 : mA ν1 j 4 = b.1 9 j := by rw [h4 j 4 (by omega) (by omega), if_neg (by omega)]; exact (hV'.e.j hjn).f4
      rw [eX10_packs_151, h3 11 (by omega), hV'.e.h.n, h.A.1, if_neg (nI_ge (by omega) (by omega)), m_isPl (by omega), g_ci_some, e4, nI_1]
      by_cases q : b.1 9 j = 2
      · have e9 : ν1.1 9 j = nI (A j) := (h2 9 j (by omega)).trans (n9 j ((s4 j).mpr (plL_m.mpr ⟨hjn, q⟩)))
        rw [if_pos q, if_neg (by decide), gin (show j < 60 by omega) (by omega), if_pos rfl, tn (show j < 2147483648 by omega), e9, lay_7 (by omega), g_cv_some]
        refine ih (j + 1) (by omega) _ h1 (fun c i hc => (wA_c hc).trans (h2 c i hc)) (fun i hi => by unfold wA; rw [gI_r, if_neg (by omega)]; exact h3 i hi) (fun i w hi hw => ?_)
        rw [mA_wA hi hw (by omega) (by omega)]
        by_cases z : i = j ∧ w = 7
        · rw [if_pos z, if_pos ⟨z.2, by omega, by rw [z.1]; exact q⟩, z.1]
        · rw [if_neg z, h4 i w hi hw]
          by_cases y : w = 7 ∧ i < j ∧ b.1 9 i = 2
          · rw [if_pos y, if_pos ⟨y.1, by omega, y.2.2⟩]
          · rw [if_neg y, if_neg (fun x => y ⟨x.1, by omega, x.2.2⟩)]
      · rw [if_neg q, if_pos rfl]
        refine ih (j + 1) (by omega) ν1 h1 h2 h3 (fun i w hi hw => ?_)
        rw [h4 i w hi hw]
        by_cases y : w = 7 ∧ i < j ∧ b.1 9 i = 2
        · rw [if_pos y, if_pos ⟨y.1, by omega, y.2.2⟩]
        · rw [if_neg y, if_neg (fun x => y ⟨x.1, by
            rcases (show i = j ∨ i < j by omega) with z | z
            · rw [z] at x; exact absurd x.2.2 q
            · exact z, x.2.2⟩)]
  obtain ⟨ν2, j1, j2, j3, j4, j5⟩ := job n 0 (by omega) ν rfl (fun _ _ _ => rfl) (fun _ _ => rfl) (fun i w _ _ => by rw [if_neg (by omega)])
  have trn : ∀ k s, s + k = L.length → ∀ ν3 : gMem, (∀ c i, c ≠ 1 → ν3.1 c i = ν.1 c i) → (∀ i, (i < 1482 ∨ 1490 ≤ i) → ν3.1 1 i = (gwI ν2 1 13 (nI L.length)).1 1 i) → (∀ x, x < s → mT ν3 x = 0 ∧ ν3.2 3 x = v) → (∀ c i, c ≠ 3 → ν3.2 c i = ν.2 c i) → ∃ ν4 : gMem, rX10_packs_206 v (nI L.length) (nI s) ν3 = some (none, ν4) ∧ (∀ c i, c ≠ 1 → ν4.1 c i = ν.1 c i) ∧ (∀ i, (i < 1482 ∨ 1490 ≤ i) → ν4.1 1 i = (gwI ν2 1 13 (nI L.length)).1 1 i) ∧ (∀ x, x < L.length → mT ν4 x = 0 ∧ ν4.2 3 x = v) ∧ (∀ c i, c ≠ 3 → ν4.2 c i = ν.2 c i) := by
    intro k
    induction k with
    | zero =>
      intro s hs ν3 h1 h2 h3 h4
      rw [show s = L.length by omega] at *
      exact ⟨ν3, by rw [eX10_packs_206, if_pos (nI_le (Nat.le_refl _) (by omega))], h1, h2, h3, h4⟩
    | succ k ih =>
      intro s hs ν3 h1 h2 h3 h4
      rw [eX10_packs_206, if_neg (nI_ge (by omega) (by omega)), gin (show s < 9 by omega) (by omega), if_pos rfl, show (1482 : Int32) + nI s = nI (1482 + s) from nad 1482 s, gin (show 1482 + s < 2030 by omega) (by omega), if_pos rfl, tn (show s < 2147483648 by omega), tn (show 1482 + s < 2147483648 by omega), nI_1]
      refine ih (s + 1) (by omega) (wT (gwL ν3 3 s v) s 0) (fun c i hc => by rw [wT_c hc, gL_i]; exact h1 c i hc) (fun i hi => by unfold wT; rw [gI_r, if_neg (by omega), gL_i]; exact h2 i hi) (fun x hx => ?_) (fun c i hc => by rw [wT_l, gL_r, if_neg (fun z => hc z.1)]; exact h4 c i hc)
      rw [mT_wT (by omega) (by omega), mT_L, wT_l, gL_r]
      by_cases z : x = s
      · rw [if_pos z, if_pos ⟨rfl, z⟩]; exact ⟨rfl, rfl⟩
      · rw [if_neg z, if_neg (fun y => z y.2)]; exact h3 x (by omega)
  obtain ⟨ν4, t1, t2, t3, t4, t5⟩ := trn L.length 0 (by omega) (gwI ν2 1 13 (nI L.length)) (fun c i hc => by rw [gI_r, if_neg (fun z => hc z.1)]; exact j3 c i hc) (fun _ _ => rfl) (fun x hx => by omega) (fun c i hc => by rw [gI_l, j2])
  have hA4 : ∀ i w, i < 60 → w < 20 → mA ν4 i w = if w = 7 ∧ i < n ∧ b.1 9 i = 2 then nI (A i) + 1 else mA ν i w := fun i w hi hw => by
    have : mA ν4 i w = mA ν2 i w := (t3 _ (by omega)).trans (by rw [gI_r, if_neg (by omega)]; rfl)
    rw [this, j5 i w hi hw]
  have hb9 : ∀ i, b1.1 9 i = b.1 9 i := fun i => s7 9 i (by omega)
  have hblb : ∀ j, bl b1 j = bl b j := fun j => by rw [hb1.xbl]
  have h12' : ∀ i, i < n → b.1 9 i = 2 → μ'.1 12 i = nI (A i) := fun i hi h2 => by rw [p2, k12, if_pos ((s4 i).mpr (plL_m.mpr ⟨hi, h2⟩))]
  have h12n : ∀ i, b.1 9 i ≠ 2 → μ'.1 12 i = b1.1 12 i := fun i h2 => by rw [p2, k12, if_neg (fun z => h2 (plL_m.mp ((s4 i).mp z)).2)]
  have ho' : ∀ c i, c ∉ [12, 29, 31, 32] → μ'.1 c i = b1.1 c i := fun c i hc => (p2 c i).trans (ko c i hc)
  have hrel : BW μ' ν4 n a L.length p t Q B := by
    refine slots_pv (b := b1) (u := ν) (σ := A) (κ := fun i => jn b1 13 i) (hV1.qs n0.qs) g6 (fun c i hc => ho' c i (fun z => hc (by simp at z ⊢; omega))) ?_ ?_ ?_ ?_ ?_ ((p2 29 3).trans k29) ?_ ?_ ?_ ?_ ?_ ?_
    · intro i hi h2
      rw [hb9] at h2
      exact ⟨h12' i hi h2, g5.1 i ((s4 i).mpr (plL_m.mpr ⟨hi, h2⟩))⟩
    · intro i hi h2
      obtain ⟨-, y3, y4, y5, y6⟩ := ip_yes (hV1.P i hi) h2
      exact ⟨(ho' 13 i (by decide)).trans y3, y4, y5, y6⟩
    · intro i hi h2
      rw [hb9] at h2
      exact ⟨h12n i h2, ho' 13 i (by decide)⟩
    · intro i j hi hj hij h2 h2' hσ
      rw [hb9] at h2 h2'
      show bl b1 i &&& bl b1 j = 0
      rw [hblb, hblb]
      exact g5.2.2 i ((s4 i).mpr (plL_m.mpr ⟨hi, h2⟩)) j ((s4 j).mpr (plL_m.mpr ⟨hj, h2'⟩)) hij hσ
    · intro x hx
      rw [p2, (ks x hx).1]
      refine b_ext (fun d hd => Bool.eq_iff_iff.mpr ?_)
      rw [g5.2.1 x hx d hd, orF_bt]
      constructor
      · rintro ⟨y, y1, y2, y3⟩
        obtain ⟨z1, z2⟩ := plL_m.mp ((s4 y).mp y1)
        refine ⟨y, z1, ?_⟩
        show bt (if b1.1 9 y = 2 ∧ A y = x then bl b1 y else 0) d = true
        rw [if_pos ⟨(hb9 y).trans z2, y2⟩, hblb]; exact y3
      · rintro ⟨y, y1, y2⟩
        have y2' : bt (if b1.1 9 y = 2 ∧ A y = x then bl b1 y else 0) d = true := y2
        by_cases z : b1.1 9 y = 2 ∧ A y = x
        · rw [if_pos z, hblb] at y2'
          exact ⟨y, (s4 y).mpr (plL_m.mpr ⟨y1, (hb9 y).symm.trans z.1⟩), z.2, y2'⟩
        · rw [if_neg z, b_0] at y2'; cases y2'
    · rw [t3 13 (by omega), gI_r, if_pos ⟨rfl, rfl⟩]
    · intro i h1 h2 h3
      rw [t3 i (by omega), gI_r, if_neg (by omega)]; exact j4 i h1
    · intro i w hi hw h7 h8
      rw [hA4 i w hi hw, if_neg (fun z => h7 z.1)]
    · intro i hi
      rw [hA4 i 7 (by omega) (by omega)]
      by_cases q : b.1 9 i = 2
      · rw [if_pos ⟨rfl, hi, q⟩, h12' i hi q]
      · rw [if_neg (fun z => q z.2.2), h12n i q, (hV'.e.j hi).f7, s7 12 i (by omega)]
    · intro i hi
      rw [hA4 i 8 (by omega) (by omega), if_neg (by omega), ho' 13 i (by decide), (hV'.e.j hi).f8, s7 13 i (by omega)]
    · intro x hx
      obtain ⟨q1, q2⟩ := t4 x hx
      rw [q1, q2, p2, (ks x hx).2, p3 x hx]; exact ⟨rfl, rfl⟩
  refine ⟨μ', ν4, L.length, ?_, ?_, hrel, fun s hs => ?_, ?_, fun c i hc => ?_, fun i => (t2 12 i (by omega)).trans (n0.2 12 i (by omega) (by omega) (by omega))⟩
  · rw [eX2_repackAll, l1]
    show g_ci (mX2_sortForRepack [.ref 0] b) _ = _
    rw [s1, g_ci_some, show rX2_repackAll_24 v (nI M.length) 0 (gwI b1 29 3 0) = _ from g1, eX7_passAllAt, show rX7_passAllAt_2 v 0 μ = _ from p1, g_cv_some]
  · rw [eX10_packs, l2]
    show rX10_packs_10 v 0 0 u = _
    rw [show rX10_packs_10 v 0 0 u = _ from c1, hnx, g_ci_some, show rX10_packs_42 v 0 (hdI (M.drop 0)) ν0 = _ from g2, show rX10_packs_151 v (nI L.length) 0 ν = _ from j1]
    exact t1
  · rw [p2, (ks s hs).1]; exact g7 s hs
  · refine n0.im.tr ⟨fun c i hc => t2 c i (by omega), t2 0 27 (by omega), t5⟩
  · simp only [List.mem_cons, not_or, List.not_mem_nil] at hc
    rw [ho' c i (by simp; omega), s7 c i (by omega)]
theorem pack_both (h : PV b u n a r p t Q B) (hld : ∀ c, c < 32 → ld b n c ≤ 8) : ∃ (b' u' : gMem) (r' : Nat), mX2_repackAll [.ref 0] b = some (none, b') ∧ mX10_packs [.ref 0] u = some (none, u') ∧ BW b' u' n a r' p t Q B ∧ (∀ s, s < r' → b'.1 32 s ≠ 0) ∧ im u u' ∧ (∀ c i, c ∉ [12, 29, 31, 32, 57] → b'.1 c i = b.1 c i) := by
  obtain ⟨b', u', r', g1, g2, g3, g4, g5, g6, -⟩ := pack_bothX h hld
  exact ⟨b', u', r', g1, g2, g3, g4, g5, g6⟩
end PACK2
