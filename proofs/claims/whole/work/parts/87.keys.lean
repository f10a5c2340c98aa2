/-! laying anew: keys and their order -/
/-- the relation, but for what lies in one slot -/
def PV (b u : gMem) (n a r p t : Nat) (Q : List Nat) (B : Nat) : Prop := EE b u n a r ∧ IA b n a r p ∧ IT b ∧ IJ b n p t ∧ (∀ j, j < n → IP1 b r p j) ∧ IU b t ∧ IR b a p ∧ ID b p ∧ IQ b u n Q B ∧ IB b t B
theorem PV.e {b u : gMem} {n a r p t B : Nat} {Q : List Nat} (h : PV b u n a r p t Q B) : EE b u n a r := h.1
theorem PV.A {b u : gMem} {n a r p t B : Nat} {Q : List Nat} (h : PV b u n a r p t Q B) : IA b n a r p := h.2.1
theorem PV.T {b u : gMem} {n a r p t B : Nat} {Q : List Nat} (h : PV b u n a r p t Q B) : IT b := h.2.2.1
theorem PV.J {b u : gMem} {n a r p t B : Nat} {Q : List Nat} (h : PV b u n a r p t Q B) : IJ b n p t := h.2.2.2.1
theorem PV.P {b u : gMem} {n a r p t B : Nat} {Q : List Nat} (h : PV b u n a r p t Q B) : ∀ j, j < n → IP1 b r p j := h.2.2.2.2.1
theorem PV.U {b u : gMem} {n a r p t B : Nat} {Q : List Nat} (h : PV b u n a r p t Q B) : IU b t := h.2.2.2.2.2.1
theorem PV.R {b u : gMem} {n a r p t B : Nat} {Q : List Nat} (h : PV b u n a r p t Q B) : IR b a p := h.2.2.2.2.2.2.1
theorem PV.D {b u : gMem} {n a r p t B : Nat} {Q : List Nat} (h : PV b u n a r p t Q B) : ID b p := h.2.2.2.2.2.2.2.1
theorem PV.Q {b u : gMem} {n a r p t B : Nat} {Q : List Nat} (h : PV b u n a r p t Q B) : IQ b u n Q B := h.2.2.2.2.2.2.2.2.1
theorem PV.B {b u : gMem} {n a r p t B : Nat} {Q : List Nat} (h : PV b u n a r p t Q B) : IB b t B := h.2.2.2.2.2.2.2.2.2
section KEYS
variable {b u b' u' : gMem} {n a r p t B : Nat} {Q : List Nat}
theorem BW.v (h : BW b u n a r p t Q B) : PV b u n a r p t Q B := ⟨h.e, h.A, h.T, h.J, h.P.1, h.U, h.R, h.D, h.Q, h.B⟩
theorem PV.qs (h : PV b u n a r p t Q B) (hq : qs u u') : PV b u' n a r p t Q B := ⟨h.e.q hq, h.A, h.T, h.J, h.P, h.U, h.R, h.D, hq.xIQ h.Q, h.B⟩
theorem bs.xIP1 {j : Nat} (h : bs b b') (hA : IP1 b r p j) : IP1 b' r p j := by
  unfold IP1 at *; simp (disch := decide) only [h.c, h.j, h.xbl]; exact hA
theorem PV.bs (h : PV b u n a r p t Q B) (hb : bs b b') : PV b' u n a r p t Q B := ⟨hb.xEE h.e, hb.xIA h.A, hb.xIT h.T, hb.xIJ h.J, fun j hj => hb.xIP1 (h.P j hj), hb.xIU h.U, hb.xIR h.R, hb.xID h.D, hb.xIQ h.Q, hb.xIB h.B⟩
def Ky (b : gMem) (j : Nat) : Nat := ((32 - jn b 14 j) * 256 + (jn b 12 j * 32 + jn b 13 j)) * 64 + j
def plL (b : gMem) (n : Nat) : List Nat := (List.range n).filter (fun j => decide (b.1 9 j = 2))
theorem plL_m {j : Nat} : j ∈ plL b n ↔ j < n ∧ b.1 9 j = 2 := by unfold plL; rw [List.mem_filter, List.mem_range]; simp
theorem plL_nd : (plL b n).Nodup := List.Pairwise.filter _ List.nodup_range
theorem plL_le : (plL b n).length ≤ n := by
  have := List.length_filter_le (fun j => decide (b.1 9 j = 2)) (List.range n)
  rw [List.length_range] at this
  exact this
/-- keys in an array -/
def ka (K : Nat → Nat) (μ : gMem) (C : Nat) (L : List Nat) : Prop := ∀ i (h : i < L.length), μ.1 C i = nI (K L[i])
theorem ka_app {K : Nat → Nat} {μ : gMem} {C x : Nat} {L : List Nat} (h : ka K μ C L) : ka K (gwI μ C L.length (nI (K x))) C (L ++ [x]) := by
  intro i hi
  rw [gI_r]
  by_cases q : i = L.length
  · rw [if_pos ⟨rfl, q⟩]; subst q; simp
  · rw [if_neg (fun z => q z.2)]
    have hl : i < L.length := by simp at hi; omega
    rw [List.getElem_append_left hl]; exact h i hl
theorem ins_ka {K : Nat → Nat} {C : Nat} {S R : List Nat} {x k : Nat} {μ : gMem} (hk : k ≤ S.length) (h1 : ∀ d (h : d < S.length), d < k → μ.1 C d = nI (K S[d])) (h2 : ∀ d (h : d < S.length), k ≤ d → μ.1 C (d + 1) = nI (K S[d])) (h3 : ∀ d (h : d < R.length), μ.1 C (S.length + 1 + d) = nI (K R[d])) : ka K (gwI μ C k (nI (K x))) C ((S.take k ++ x :: S.drop k) ++ R) := by
  have hl : (S.take k).length = k := by simp; omega
  have hl2 : (S.take k ++ x :: S.drop k).length = S.length + 1 := by simp; omega
  intro i hi
  rw [gI_r]
  by_cases q0 : i < S.length + 1
  · rw [List.getElem_append_left (by omega)]
    by_cases q : i = k
    · rw [if_pos ⟨rfl, q⟩, List.getElem_append_right (by omega)]
      congr 2
      simp [hl, q]
    · rw [if_neg (fun z => q z.2)]
      by_cases q2 : i < k
      · rw [List.getElem_append_left (by omega), List.getElem_take]
        exact h1 i (by omega) q2
      · rw [List.getElem_append_right (by omega)]
        have := h2 (i - 1) (by omega) (by omega)
        rw [show i - 1 + 1 = i by omega] at this
        rw [this]
        congr 2
        have e : i - (S.take k).length = (i - 1 - k) + 1 := by omega
        simp only [e, List.getElem_cons_succ, List.getElem_drop]
        congr 1
        omega
  · rw [if_neg (by omega), List.getElem_append_right (by omega)]
    have hi2 : i - (S.length + 1) < R.length := by simp at hi; omega
    have := h3 (i - (S.length + 1)) hi2
    rw [show S.length + 1 + (i - (S.length + 1)) = i by omega] at this
    rw [this]
    congr 2
    simp only [hl2]
/-- the sort of keys, as an insertion -/
theorem c_sort {K : Nat → Nat} {N : Nat} (hK : ∀ j, j < 60 → K j < 1000000) (hinj : ∀ i j, i < 60 → j < 60 → K i = K j → i = j) (hN : N ≤ 60) : ∀ m i, i + m = N → 1 ≤ i ∨ N = 0 → ∀ (S R : List Nat) (μ : gMem), S.length = i → (S ++ R).length = N → (∀ x ∈ S ++ R, x < 60) → (S ++ R).Nodup → ka K μ 57 (S ++ R) → S.Pairwise (fun x y => K x < K y) → ∃ (M : List Nat) (μ' : gMem), rX2_sortKeys_2 (nI N) (nI i) μ = some (none, μ') ∧ ka K μ' 57 M ∧ M.Pairwise (fun x y => K x < K y) ∧ (∀ x, x ∈ M ↔ x ∈ S ++ R) ∧ M.length = N ∧ μ'.2 = μ.2 ∧ (∀ c e, c ≠ 57 → μ'.1 c e = μ.1 c e) := by
  intro m
  induction m with
  | zero =>
    intro i hi h1 S R μ hS hSR h60 hnd ha hpw
    have : R = [] := List.length_eq_zero_iff.mp (by simp at hSR; omega)
    subst this
    rw [List.append_nil] at *
    exact ⟨S, μ, by rw [eX2_sortKeys_2, if_pos (nI_le (by omega) (by omega))], ha, hpw, fun x => Iff.rfl, hSR, rfl, fun _ _ _ => rfl⟩
  | succ m ih =>
    intro i hi h1 S R μ hS hSR h60 hnd ha hpw
    cases R with
    | nil => simp at hSR; omega
    | cons x R =>
      have hx60 : x < 60 := h60 x (by simp)
      have hxS : x ∉ S := fun z => by
        rw [List.nodup_append] at hnd
        exact hnd.2.2 x z x (by simp) rfl
      have inner : ∀ k (μ : gMem), k ≤ S.length → (∀ d (h : d < S.length), d < k → μ.1 57 d = nI (K S[d])) → (∀ d (h : d < S.length), k ≤ d → μ.1 57 (d + 1) = nI (K S[d])) → (∀ d (h : d < S.length), k ≤ d → K x < K S[d]) → ∃ (k' : Nat) (μ' : gMem), k' ≤ S.length ∧ rX2_sortKeys_20 (nI N) (nI i) (nI (K x)) (nI k) μ = rX2_sortKeys_2 (nI N) (nI (i + 1)) (gwI μ' 57 k' (nI (K x))) ∧ (∀ d (h : d < S.length), d < k' → μ'.1 57 d = nI (K S[d])) ∧ (∀ d (h : d < S.length), k' ≤ d → μ'.1 57 (d + 1) = nI (K S[d])) ∧ (∀ d (h : d < S.length), k' ≤ d → K x < K S[d]) ∧ (∀ d (h : d < S.length), d < k' → K S[d] < K x) ∧ μ'.2 = μ.2 ∧ (∀ c e, c ≠ 57 → μ'.1 c e = μ.1 c e) ∧ (∀ e, S.length < e → μ'.1 57 e = μ.1 57 e) := by
        intro k
        induction k with
        | zero =>
          intro μ hk h1 h2 h3
          refine ⟨0, μ, by omega, ?_, h1, h2, h3, fun d _ hd => by omega, rfl, fun _ _ _ => rfl, fun _ _ => rfl⟩
          rw [eX2_sortKeys_20, if_pos (by decide), gin (show 0 < 60 by omega) (by omega), if_pos rfl, tn (by omega), nI_1]
        | succ k ih2 =>
          intro μ hk h1 h2 h3
          have hSk : S[k] < 60 := h60 _ (by simp [List.getElem_mem])
          have kb1 := hK x hx60
          have kb2 := hK S[k] hSk
          have hne : K S[k] ≠ K x := fun z => hxS ((hinj _ _ hSk hx60 z) ▸ List.getElem_mem (by omega))
          rw [eX2_sortKeys_20, if_neg (show ¬ nI (k + 1) ≤ 0 from nI_ge (a := 0) (b := k + 1) (by omega) (by omega)), nI_s1 (by omega), show k + 1 - 1 = k by omega, gin (show k < 60 by omega) (by omega), gin (show k + 1 < 60 by simp at hSR; omega) (by omega), if_pos rfl, if_pos rfl, if_pos rfl, if_pos rfl, tn (show k < 2147483648 by omega), tn (show k + 1 < 2147483648 by omega), h1 k (by omega) (by omega), sub1, nI_s1 (by omega), show k + 1 - 1 = k by omega]
          by_cases q : K S[k] ≤ K x
          · rw [if_pos (nI_le q (by omega))]
            refine ⟨k + 1, μ, hk, ?_, h1, h2, h3, fun d hd hdk => ?_, rfl, fun _ _ _ => rfl, fun _ _ => rfl⟩
            · rw [nI_1]
            · by_cases z : d = k
              · subst z; omega
              · have := List.pairwise_iff_getElem.mp hpw d k hd (by omega) (by omega)
                omega
          · rw [if_neg (nI_ge (by omega) (by omega))]
            obtain ⟨k', μ', g0, g1, g2, g3, g4, g5, g6, g7, g8⟩ := ih2 (gwI μ 57 (k + 1) (nI (K S[k]))) (by omega) (fun d hd hdk => by rw [gI_r, if_neg (by omega)]; exact h1 d hd (by omega)) (fun d hd hdk => by
              rw [gI_r]
              by_cases z : d = k
              · subst z; rw [if_pos ⟨rfl, rfl⟩]
              · rw [if_neg (by omega)]; exact h2 d hd (by omega)) (fun d hd hdk => by
              by_cases z : d = k
              · subst z; omega
              · exact h3 d hd (by omega))
            exact ⟨k', μ', g0, g1, g2, g3, g4, g5, g6, fun c e hc => (g7 c e hc).trans (by rw [gI_r, if_neg (fun z => hc z.1)]), fun e he => (g8 e he).trans (by rw [gI_r, if_neg (by omega)])⟩
      have hix : (S ++ x :: R)[i]'(by simp; omega) = x := by
        have : i = S.length := hS.symm
        subst this
        simp
      obtain ⟨k, μ1, k0, k1, k2, k3, k4, k5, k6, k7, k8⟩ := inner S.length μ (Nat.le_refl _) (fun d hd _ => by
        have := ha d (by simp; omega)
        rw [List.getElem_append_left hd] at this
        exact this) (fun d hd hdk => by omega) (fun d hd hdk => by omega)
      have hperm : ∀ y, y ∈ (S.take k ++ x :: S.drop k) ++ R ↔ y ∈ S ++ x :: R := fun y => by
        rw [List.mem_append, ins_mem, List.mem_append, List.mem_cons]
        constructor
        · rintro ((z | z) | z)
          · exact Or.inl z
          · exact Or.inr (Or.inl z)
          · exact Or.inr (Or.inr z)
        · rintro (z | z | z)
          · exact Or.inl (Or.inl z)
          · exact Or.inl (Or.inr z)
          · exact Or.inr z
      have hpw2 := ins_pw hpw k5 k4
      have hnd2 : ((S.take k ++ x :: S.drop k) ++ R).Nodup := by
        rw [List.nodup_append]
        refine ⟨hpw2.imp (fun {x y} hxy z => by subst z; omega), ?_, fun y hy z hz => ?_⟩
        · rw [List.nodup_append] at hnd
          exact (List.nodup_cons.mp hnd.2.1).2
        · rw [List.nodup_append] at hnd
          rw [ins_mem] at hy
          rcases hy with hy | hy
          · exact hnd.2.2 y hy z (by simp [hz])
          · intro e
            subst e
            subst hy
            exact (List.nodup_cons.mp hnd.2.1).1 hz
      obtain ⟨M, μ2, m1, m2, m3, m4, m5, m6, m7⟩ := ih (i + 1) (by omega) (Or.inl (by omega)) (S.take k ++ x :: S.drop k) R (gwI μ1 57 k (nI (K x))) (by simp; omega) (by simp at hSR ⊢; omega) (fun y hy => h60 y ((hperm y).mp hy)) hnd2 (ins_ka k0 k2 k3 (fun d hd => by
        rw [k8 _ (by omega)]
        have := ha (S.length + 1 + d) (by simp; omega)
        rw [this]
        congr 2
        rw [List.getElem_append_right (by omega)]
        simp only [show S.length + 1 + d - S.length = d + 1 by omega, List.getElem_cons_succ])) hpw2
      refine ⟨M, μ2, ?_, m2, m3, fun y => (m4 y).trans (hperm y), m5, m6.trans (by rw [gI_l]; exact k6), fun c e hc => (m7 c e hc).trans (by rw [gI_r, if_neg (fun z => hc z.1)]; exact k7 c e hc)⟩
      have hai := ha i (by simp; omega)
      rw [hix] at hai
      rw [eX2_sortKeys_2, if_neg (nI_ge (by omega) (by omega)), if_neg (show ¬ (60 : Int32) ≤ nI i from nI_ge (a := i) (b := 60) (by omega) (by omega)), gin (show i < 60 by omega) (by omega), if_pos rfl, tn (show i < 2147483648 by omega), hai]
      rw [hS] at k1
      rw [k1]
      exact m1
end KEYS
