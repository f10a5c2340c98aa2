/-! arrivals -/
section ARR
variable {b u b' u' : gMem} {n a r p t B : Nat} {Q : List Nat}
theorem arr_rel {a' : Nat} (h : BW b u n a r p t Q B) (H1 : ∀ c i, ¬ (c = 33 ∨ (35 ≤ c ∧ c ≤ 38)) → b'.1 c i = b.1 c i) (H2 : b'.2 = b.2) (H3 : b'.1 33 1 = nI a') (U1 : ∀ i, i ≠ 12 → (i < 1242 ∨ 1482 ≤ i) → u'.1 1 i = u.1 1 i) (U2 : u'.2 = u.2) (U3 : u'.1 1 12 = nI a') (hna : n + a' ≤ 60) (hE : ER b' u' a') (hI : IR b' a' p) : BW b' u' n a' r p t Q B := by
  have hn := h.A.n60
  have hr := h.A.2.2.2.2.1
  have hag : ∀ S : List Nat, (∀ c ∈ S, ¬ (c = 33 ∨ (35 ≤ c ∧ c ≤ 38))) → ag S b b' := fun S hS c h1 i => H1 c i (hS c h1)
  have hug : ∀ lo hi, (hi ≤ 1242 ∨ 1482 ≤ lo) → (12 < lo ∨ hi ≤ 12) → ug lo hi u u' := fun lo hi h1 h2 i h3 h4 => U1 i (by omega) (by omega)
  refine ⟨⟨?_, ?_, hE, ?_, ?_, ?_⟩, ?_, ?_, ?_, ?_, ?_, ?_, hI, ?_, ?_, ?_⟩
  · refine h.e.1.fr (hag _ (by decide)) (fun i hi => U1 i (by omega) (by omega)) ?_
    obtain ⟨g1, g2, g3, g4, g5, g6, g7⟩ := h.e.1.2.1
    rw [U3, H3, U1 10 (by omega) (by omega), U1 11 (by omega) (by omega), U1 13 (by omega) (by omega), U1 14 (by omega) (by omega), U1 15 (by omega) (by omega), U1 16 (by omega) (by omega), H1 0 12 (by omega), H1 3 2 (by omega), H1 29 3 (by omega), H1 0 13 (by omega), H1 39 1 (by omega), H1 46 1 (by omega)]
    exact ⟨g1, g2, rfl, g4, g5, g6, g7⟩
  · exact h.e.2.1.fr hn (hag _ (by decide)) (hug _ _ (by omega) (by omega))
  · exact h.e.2.2.2.1.fr hr (hag _ (by decide)) (hug _ _ (by omega) (by omega)) (fun _ _ => by rw [H2]) (fun _ _ => by rw [U2])
  · exact h.e.2.2.2.2.1.fr (hag _ (by decide)) (hug _ _ (by omega) (by omega))
  · exact h.e.2.2.2.2.2.fr (hag _ (by decide)) (hug _ _ (by omega) (by omega))
  · obtain ⟨a1, a2, a3, a4, a5, a6, a7⟩ := h.A
    exact ⟨(H1 3 2 (by omega)).trans a1, H3, (H1 29 3 (by omega)).trans a3, hna, a5, (H1 1 0 (by omega)).trans a6, a7⟩
  · exact h.T.fr (hag _ (by decide))
  · exact h.J.fr (hag _ (by decide))
  · exact h.P.fr (hag _ (by decide)) (H1 _ _ (by omega))
  · exact h.S.fr (hag _ (by decide))
  · exact h.U.fr (hag _ (by decide))
  · exact h.D.fr (H1 _ _ (by omega))
  · exact h.Q.fr hn (hag _ (by decide)) (H1 _ _ (by omega)) (U1 _ (by omega) (by omega)) (fun i hi => U1 _ (by omega) (by omega))
  · exact h.B.fr (H1 _ _ (by omega)) (H1 _ _ (by omega)) (H1 _ _ (by omega))
/-- the reference's arrivals, laid out as the class's -/
def aw (u : gMem) : gMem := (fun c e => if c = 33 then u.1 1 12 else u.1 1 (1242 + 4 * e + (c - 35)), u.2)
theorem aw33 {i : Nat} : (aw u).1 33 i = u.1 1 12 := rfl
theorem aw_f {f e : Nat} : (aw u).1 (35 + f) e = mR u e f := by
  unfold aw mR
  show (if 35 + f = 33 then _ else _) = _
  rw [if_neg (by omega), show 35 + f - 35 = f by omega]
theorem len_arr : ∀ k, k < 4 → gLen LB 0 (34 + 1 + k) = 60 := by decide +kernel
def cpB (k i : Nat) : Nat → Nat → gMem → gMem
  | 0, _, μ => μ
  | m + 1, f, μ => cpB k i m (f + 1) (gwI μ (34 + 1 + f) k (μ.1 (34 + 1 + f) i))
theorem cpB_l {k i : Nat} : ∀ m f μ, (cpB k i m f μ).2 = μ.2
  | 0, _, _ => rfl
  | m + 1, f, μ => cpB_l m (f + 1) _
theorem cpB_r {k i : Nat} : ∀ m f (μ : gMem) c e, (cpB k i m f μ).1 c e = if 35 + f ≤ c ∧ c < 35 + f + m ∧ e = k then μ.1 c i else μ.1 c e
  | 0, f, μ, c, e => by rw [if_neg (by omega)]; rfl
  | m + 1, f, μ, c, e => by
    show (cpB k i m (f + 1) (gwI μ (34 + 1 + f) k (μ.1 (34 + 1 + f) i))).1 c e = _
    rw [cpB_r m (f + 1)]
    by_cases q : c = 35 + f
    · subst q
      rw [if_neg (by omega), gI_r]
      by_cases z : e = k
      · rw [if_pos ⟨by omega, z⟩, if_pos ⟨by omega, by omega, z⟩, show 34 + 1 + f = 35 + f by omega]
      · rw [if_neg (fun y => z y.2), if_neg (fun y => z y.2.2)]
    · have hc : ∀ e, (gwI μ (34 + 1 + f) k (μ.1 (34 + 1 + f) i)).1 c e = μ.1 c e := fun e => by rw [gI_r, if_neg (by omega)]
      rw [hc, hc]
      by_cases z : 35 + (f + 1) ≤ c ∧ c < 35 + (f + 1) + m ∧ e = k
      · rw [if_pos z, if_pos ⟨by omega, by omega, z.2.2⟩]
      · rw [if_neg z, if_neg (by omega)]
theorem c_copy {k i : Nat} {v1 : Int32} (hk : k < 60) (hi : i < 60) : ∀ m f, f + m = 4 → ∀ μ, rX0_dropDue_24 v1 (nI k) (nI i) (nI f) μ = rX0_dropDue_4 v1 (nI (k + 1)) (nI (i + 1)) (cpB k i m f μ)
  | 0, f, h, μ => by
    rw [show f = 4 by omega, eX0_dropDue_24, if_pos (by decide), nI_1, nI_1]; rfl
  | m + 1, f, h, μ => by
    rw [eX0_dropDue_24, if_neg (show ¬ (4 : Int32) ≤ nI f from nI_ge (a := f) (b := 4) (by omega) (by omega)), gin (show f < 4 by omega) (by omega), if_pos rfl, if_pos rfl, tn (show f < 2147483648 by omega), len_arr f (by omega), gin hi (by omega), gin hk (by omega), if_pos rfl, if_pos rfl, tn (show i < 2147483648 by omega), tn (show k < 2147483648 by omega), nI_1, c_copy hk hi m (f + 1) (by omega)]
    rfl
/-- who is not due yet -/
def nd (b : gMem) (i : Nat) : Bool := decide (b.1 0 12 < b.1 35 i)
def NL (b : gMem) (i : Nat) : List Nat := (List.range i).filter (nd b)
theorem NL_s {i : Nat} : NL b (i + 1) = NL b i ++ (if nd b i then [i] else []) := by
  unfold NL
  rw [List.range_succ, List.filter_append]
  congr 1
  by_cases q : nd b i = true <;> simp [q]
theorem NL_le {i : Nat} : (NL b i).length ≤ i := by
  have := List.length_filter_le (nd b) (List.range i)
  rw [List.length_range] at this
  exact this
theorem NL_m {i : Nat} : ∀ x ∈ NL b i, x < i := fun x hx => List.mem_range.mp (List.mem_filter.mp hx).1
theorem app_get {L : List Nat} {x e : Nat} (h : e < (L ++ [x]).length) : (L ++ [x])[e] = if h2 : e < L.length then L[e] else x := by
  by_cases q : e < L.length
  · rw [dif_pos q, List.getElem_append_left q]
  · rw [dif_neg q]
    have : e = L.length := by simp at h; omega
    subst this; simp
/-- arrivals laid close up to a place -/
def dL (b μ : gMem) (L : List Nat) (i a : Nat) : Prop := (∀ f, f < 4 → ∀ e (h : e < L.length), μ.1 (35 + f) e = b.1 (35 + f) L[e]) ∧ ∀ f, f < 4 → ∀ e, i ≤ e → e < a → μ.1 (35 + f) e = b.1 (35 + f) e
theorem c_dropDue {w : gMem} (h12 : w.1 0 12 = b.1 0 12) (ha : a ≤ 60) : ∀ k i, i + k = a → ∀ μ : gMem, μ.2 = w.2 → (∀ c e, ¬ (c = 33 ∨ (35 ≤ c ∧ c ≤ 38)) → μ.1 c e = w.1 c e) → μ.1 33 1 = nI a → dL b μ (NL b i) i a → ∃ μ', rX0_dropDue_4 (b.1 0 12) (nI (NL b i).length) (nI i) μ = some (none, μ') ∧ μ'.2 = w.2 ∧ (∀ c e, ¬ (c = 33 ∨ (35 ≤ c ∧ c ≤ 38)) → μ'.1 c e = w.1 c e) ∧ μ'.1 33 1 = nI (NL b a).length ∧ ∀ f, f < 4 → ∀ e (h : e < (NL b a).length), μ'.1 (35 + f) e = b.1 (35 + f) (NL b a)[e] := by
  intro k
  induction k with
  | zero =>
    intro i hi μ h2 h1 h3 hd
    have : i = a := by omega
    subst this
    refine ⟨gwI μ 33 1 (nI (NL b i).length), by rw [eX0_dropDue_4, h3, if_pos (nI_le (Nat.le_refl _) (by omega))], h2, fun c e hc => by rw [gI_r, if_neg (by omega)]; exact h1 c e hc, rfl, fun f hf e he => by rw [gI_r, if_neg (by omega)]; exact hd.1 f hf e he⟩
  | succ k ih =>
    intro i hi μ h2 h1 h3 hd
    have hle := NL_le (b := b) (i := i)
    rw [eX0_dropDue_4, h3, if_neg (nI_ge (by omega) (by omega)), eX0_isDue, gin (show i < 60 by omega) (by omega), if_pos rfl, tn (show i < 2147483648 by omega), show μ.1 35 i = b.1 35 i from hd.2 0 (by omega) i (Nat.le_refl _) (by omega)]
    by_cases q : b.1 0 12 < b.1 35 i
    · have hnd : nd b i = true := decide_eq_true q
      have hs : NL b (i + 1) = NL b i ++ [i] := by rw [NL_s, if_pos hnd]
      rw [if_pos q, g_ci_some, if_pos rfl, show rX0_dropDue_24 (b.1 0 12) (nI (NL b i).length) (nI i) 0 μ = rX0_dropDue_24 (b.1 0 12) (nI (NL b i).length) (nI i) (nI 0) μ from rfl, c_copy (by omega) (by omega) 4 0 (by omega)]
      have := ih (i + 1) (by omega) (cpB (NL b i).length i 4 0 μ) ((cpB_l _ _ _).trans h2) (fun c e hc => by rw [cpB_r, if_neg (by omega)]; exact h1 c e hc) (by rw [cpB_r, if_neg (by omega)]; exact h3) ⟨fun f hf e he => by
        rw [cpB_r]
        have he2 := he
        rw [hs, List.length_append] at he2
        simp at he2
        by_cases z : e = (NL b i).length
        · rw [if_pos ⟨by omega, by omega, z⟩, hd.2 f hf i (Nat.le_refl _) (by omega)]
          congr 1
          simp only [hs]
          rw [app_get, dif_neg (by omega)]
        · rw [if_neg (fun y => z y.2.2), hd.1 f hf e (by omega)]
          congr 1
          simp only [hs]
          rw [app_get, dif_pos (by omega)], fun f hf e h1 h2 => by rw [cpB_r, if_neg (by omega)]; exact hd.2 f hf e (by omega) h2⟩
      rw [hs, List.length_append] at this
      exact this
    · have hnd : ¬ nd b i = true := fun z => q (of_decide_eq_true z)
      have hs : NL b (i + 1) = NL b i := by rw [NL_s, if_neg hnd, List.append_nil]
      rw [if_neg q, g_ci_some, if_neg (by decide), nI_1]
      have := ih (i + 1) (by omega) μ h2 h1 h3 (by rw [hs]; exact ⟨hd.1, fun f hf e h1 h2 => hd.2 f hf e (by omega) h2⟩)
      rw [hs] at this
      exact this
def cpU (k i : Nat) : Nat → Nat → gMem → gMem
  | 0, _, μ => μ
  | m + 1, f, μ => cpU k i m (f + 1) (wR μ k f (mR μ i f))
theorem cpU_l {k i : Nat} : ∀ m f μ, (cpU k i m f μ).2 = μ.2
  | 0, _, _ => rfl
  | m + 1, f, μ => cpU_l m (f + 1) _
theorem cpU_c {k i : Nat} : ∀ m f (μ : gMem) c e, c ≠ 1 → (cpU k i m f μ).1 c e = μ.1 c e
  | 0, _, _, _, _, _ => rfl
  | m + 1, f, μ, c, e, h => (cpU_c m (f + 1) _ c e h).trans (wR_c h)
theorem cpU_o {k i : Nat} (hk : k < 60) : ∀ m f, f + m ≤ 4 → ∀ (μ : gMem) e, (e < 1242 ∨ 1482 ≤ e) → (cpU k i m f μ).1 1 e = μ.1 1 e
  | 0, _, _, _, _, _ => rfl
  | m + 1, f, hf, μ, e, h => (cpU_o hk m (f + 1) (by omega) _ e h).trans (by unfold wR; rw [gI_r, if_neg (by omega)])
theorem cpU_r {k i : Nat} (hk : k < 60) (hi : i < 60) : ∀ m f, f + m ≤ 4 → ∀ (μ : gMem) e g, e < 60 → g < 4 → mR (cpU k i m f μ) e g = if f ≤ g ∧ g < f + m ∧ e = k then mR μ i g else mR μ e g
  | 0, f, hf, μ, e, g, he, hg => by rw [if_neg (by omega)]; rfl
  | m + 1, f, hf, μ, e, g, he, hg => by
    show mR (cpU k i m (f + 1) (wR μ k f (mR μ i f))) e g = _
    rw [cpU_r hk hi m (f + 1) (by omega) _ e g he hg]
    by_cases q : g = f
    · subst q
      rw [if_neg (by omega), mR_wR he hg hk (by omega)]
      by_cases z : e = k
      · rw [if_pos ⟨z, rfl⟩, if_pos ⟨by omega, by omega, z⟩]
      · rw [if_neg (fun y => z y.1), if_neg (fun y => z y.2.2)]
    · have hc : ∀ e, e < 60 → mR (wR μ k f (mR μ i f)) e g = mR μ e g := fun e he => by rw [mR_wR he hg hk (by omega), if_neg (fun y => q y.2)]
      rw [hc i hi, hc e he]
      by_cases z : f + 1 ≤ g ∧ g < f + 1 + m ∧ e = k
      · rw [if_pos z, if_pos ⟨by omega, by omega, z.2.2⟩]
      · rw [if_neg z, if_neg (by omega)]
theorem ar_ix (i : Nat) : (1242 + 4 * nI i : Int32) = nI (1242 + 4 * i) := by
  rw [show (1242 : Int32) = nI 1242 from rfl, show (4 : Int32) = nI 4 from rfl, nml, nad]
theorem m_copy {k i : Nat} {v2 : Int32} (hk : k < 60) (hi : i < 60) : ∀ m f, f + m = 4 → ∀ μ, rX10_arrives_87 (nI k) v2 (nI i) (nI (1242 + 4 * i)) (nI f) μ = rX10_arrives_12 (nI (k + 1)) v2 (nI (i + 1)) (cpU k i m f μ)
  | 0, f, h, μ => by
    rw [show f = 4 by omega, eX10_arrives_87, if_pos (by decide), nI_1, nI_1]; rfl
  | m + 1, f, h, μ => by
    rw [eX10_arrives_87, if_neg (show ¬ (4 : Int32) ≤ nI f from nI_ge (a := f) (b := 4) (by omega) (by omega)), eX10_arrivalAt, g_ci_some, ar_ix, nad, nad, gin (by omega) (by omega), gin (by omega) (by omega), if_pos rfl, if_pos rfl, tn (by omega), tn (by omega), nI_1]
    exact m_copy hk hi m (f + 1) (by omega) _
end ARR
