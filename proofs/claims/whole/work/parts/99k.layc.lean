/-! laying anew: the order, and the column for one -/
section LAYC
variable {b u b' u' μ μ' ν : gMem} {n a r p t B k o : Nat} {Q : List Nat} {f g : Nat → Nat}
theorem c_sortC {K : Nat → Nat} {N : Nat} (hK : ∀ j, j < 60 → K j < 1000000) (hinj : ∀ i j, i < 60 → j < 60 → K i = K j → i = j) (hN : N ≤ 60) : ∀ m i, i + m = N → 1 ≤ i ∨ N = 0 → ∀ (S R : List Nat) (μ : gMem), S.length = i → (S ++ R).length = N → (∀ x ∈ S ++ R, x < 60) → (S ++ R).Nodup → ka K μ 181 (S ++ R) → S.Pairwise (fun x y => K x < K y) → ∃ (M : List Nat) (μ' : gMem), rX2_sortKeysC_2 (nI N) (nI i) μ = some (none, μ') ∧ ka K μ' 181 M ∧ M.Pairwise (fun x y => K x < K y) ∧ (∀ x, x ∈ M ↔ x ∈ S ++ R) ∧ M.length = N ∧ μ'.2 = μ.2 ∧ (∀ c e, c ≠ 181 → μ'.1 c e = μ.1 c e) := by
  intro m
  induction m with
  | zero =>
    intro i hi h1 S R μ hS hSR h60 hnd ha hpw
    have : R = [] := List.length_eq_zero_iff.mp (by simp at hSR; omega)
    subst this
    rw [List.append_nil] at *
    exact ⟨S, μ, by rw [eX2_sortKeysC_2, if_pos (nI_le (by omega) (by omega))], ha, hpw, fun x => Iff.rfl, hSR, rfl, fun _ _ _ => rfl⟩
  | succ m ih =>
    intro i hi h1 S R μ hS hSR h60 hnd ha hpw
    cases R with
    | nil => simp at hSR; omega
    | cons x R =>
      have hx60 : x < 60 := h60 x (by simp)
      have hxS : x ∉ S := fun z => by
        rw [List.nodup_append] at hnd
        exact hnd.2.2 x z x (by simp) rfl
      have inner : ∀ k (μ : gMem), k ≤ S.length → (∀ d (h : d < S.length), d < k → μ.1 181 d = nI (K S[d])) → (∀ d (h : d < S.length), k ≤ d → μ.1 181 (d + 1) = nI (K S[d])) → (∀ d (h : d < S.length), k ≤ d → K x < K S[d]) → ∃ (k' : Nat) (μ' : gMem), k' ≤ S.length ∧ rX2_sortKeysC_20 (nI N) (nI i) (nI (K x)) (nI k) μ = rX2_sortKeysC_2 (nI N) (nI (i + 1)) (gwI μ' 181 k' (nI (K x))) ∧ (∀ d (h : d < S.length), d < k' → μ'.1 181 d = nI (K S[d])) ∧ (∀ d (h : d < S.length), k' ≤ d → μ'.1 181 (d + 1) = nI (K S[d])) ∧ (∀ d (h : d < S.length), k' ≤ d → K x < K S[d]) ∧ (∀ d (h : d < S.length), d < k' → K S[d] < K x) ∧ μ'.2 = μ.2 ∧ (∀ c e, c ≠ 181 → μ'.1 c e = μ.1 c e) ∧ (∀ e, S.length < e → μ'.1 181 e = μ.1 181 e) := by
        intro k
        induction k with
        | zero =>
          intro μ hk h1 h2 h3
          refine ⟨0, μ, by omega, ?_, h1, h2, h3, fun d _ hd => by omega, rfl, fun _ _ _ => rfl, fun _ _ => rfl⟩
          rw [eX2_sortKeysC_20, if_pos (by decide), gin (show 0 < 60 by omega) (by omega), if_pos rfl, tn (by omega), nI_1]
        | succ k ih2 =>
          intro μ hk h1 h2 h3
          have hSk : S[k] < 60 := h60 _ (by simp [List.getElem_mem])
          have kb1 := hK x hx60
          have kb2 := hK S[k] hSk
          have hne : K S[k] ≠ K x := fun z => hxS ((hinj _ _ hSk hx60 z) ▸ List.getElem_mem (by omega))
          rw [eX2_sortKeysC_20, if_neg (show ¬ nI (k + 1) ≤ 0 from nI_ge (a := 0) (b := k + 1) (by omega) (by omega)), nI_s1 (by omega), show k + 1 - 1 = k by omega, gin (show k < 60 by omega) (by omega), gin (show k + 1 < 60 by simp at hSR; omega) (by omega), if_pos rfl, if_pos rfl, if_pos rfl, if_pos rfl, tn (show k < 2147483648 by omega), tn (show k + 1 < 2147483648 by omega), h1 k (by omega) (by omega), sub1, nI_s1 (by omega), show k + 1 - 1 = k by omega]
          by_cases q : K S[k] ≤ K x
          · rw [if_pos (nI_le q (by omega))]
            refine ⟨k + 1, μ, hk, ?_, h1, h2, h3, fun d hd hdk => ?_, rfl, fun _ _ _ => rfl, fun _ _ => rfl⟩
            · rw [nI_1]
            · by_cases z : d = k
              · subst z; omega
              · have := List.pairwise_iff_getElem.mp hpw d k hd (by omega) (by omega)
                omega
          · rw [if_neg (nI_ge (by omega) (by omega))]
            obtain ⟨k', μ', g0, g1, g2, g3, g4, g5, g6, g7, g8⟩ := ih2 (gwI μ 181 (k + 1) (nI (K S[k]))) (by omega) (fun d hd hdk => by rw [gI_r, if_neg (by omega)]; exact h1 d hd (by omega)) (fun d hd hdk => by
              rw [gI_r]
              by_cases z : d = k
              · subst z; rw [if_pos ⟨rfl, rfl⟩]
              · rw [if_neg (by omega)]; exact h2 d hd (by omega)) (fun d hd hdk => by
              by_cases z : d = k
              · subst z; omega
              · exact h3 d hd (by omega))
            exact ⟨k', μ', g0, g1, g2, g3, g4, g5, g6, fun c e hc => (g7 c e hc).trans (by rw [gI_r, if_neg (fun z => hc z.1)]), fun e he => (g8 e he).trans (by rw [gI_r, if_neg (by omega)])⟩
      have hix : (S ++ x :: R)[i]'(by simp; omega) = x := by
        have : i = S.length := hS.symm
        subst this
        simp
      obtain ⟨k, μ1, k0, k1, k2, k3, k4, k5, k6, k7, k8⟩ := inner S.length μ (Nat.le_refl _) (fun d hd _ => by
        have := ha d (by simp; omega)
        rw [List.getElem_append_left hd] at this
        exact this) (fun d hd hdk => by omega) (fun d hd hdk => by omega)
      have hperm : ∀ y, y ∈ (S.take k ++ x :: S.drop k) ++ R ↔ y ∈ S ++ x :: R := fun y => by
        rw [List.mem_append, ins_mem, List.mem_append, List.mem_cons]
        constructor
        · rintro ((z | z) | z)
          · exact Or.inl z
          · exact Or.inr (Or.inl z)
          · exact Or.inr (Or.inr z)
        · rintro (z | z | z)
          · exact Or.inl (Or.inl z)
          · exact Or.inl (Or.inr z)
          · exact Or.inr z
      have hpw2 := ins_pw hpw k5 k4
      have hnd2 : ((S.take k ++ x :: S.drop k) ++ R).Nodup := by
        rw [List.nodup_append]
        refine ⟨hpw2.imp (fun {x y} hxy z => by subst z; omega), ?_, fun y hy z hz => ?_⟩
        · rw [List.nodup_append] at hnd
          exact (List.nodup_cons.mp hnd.2.1).2
        · rw [List.nodup_append] at hnd
          rw [ins_mem] at hy
          rcases hy with hy | hy
          · exact hnd.2.2 y hy z (by simp [hz])
          · intro e
            subst e
            subst hy
            exact (List.nodup_cons.mp hnd.2.1).1 hz
      obtain ⟨M, μ2, m1, m2, m3, m4, m5, m6, m7⟩ := ih (i + 1) (by omega) (Or.inl (by omega)) (S.take k ++ x :: S.drop k) R (gwI μ1 181 k (nI (K x))) (by simp; omega) (by simp at hSR ⊢; omega) (fun y hy => h60 y ((hperm y).mp hy)) hnd2 (ins_ka k0 k2 k3 (fun d hd => by
        rw [k8 _ (by omega)]
        have := ha (S.length + 1 + d) (by simp; omega)
        rw [this]
        congr 2
        rw [List.getElem_append_right (by omega)]
        simp only [show S.length + 1 + d - S.length = d + 1 by omega, List.getElem_cons_succ])) hpw2
      refine ⟨M, μ2, ?_, m2, m3, fun y => (m4 y).trans (hperm y), m5, m6.trans (by rw [gI_l]; exact k6), fun c e hc => (m7 c e hc).trans (by rw [gI_r, if_neg (fun z => hc z.1)]; exact k7 c e hc)⟩
      have hai := ha i (by simp; omega)
      rw [hix] at hai
      rw [eX2_sortKeysC_2, if_neg (nI_ge (by omega) (by omega)), if_neg (show ¬ (60 : Int32) ≤ nI i from nI_ge (a := i) (b := 60) (by omega) (by omega)), gin (show i < 60 by omega) (by omega), if_pos rfl, tn (show i < 2147483648 by omega), hai]
      rw [hS] at k1
      rw [k1]
      exact m1
/-- the key by which laying anew goes -/
def Kv (b : gMem) (n j : Nat) : Nat := if j < n ∧ b.1 9 j = 2 then (32 - jn b 14 j) * 64 + j else 100000 + j
theorem Kv_lt : ∀ j, j < 60 → Kv b n j < 1000000 := fun j hj => by unfold Kv; split <;> omega
theorem Kv_inj : ∀ i j, i < 60 → j < 60 → Kv b n i = Kv b n j → i = j := fun i j hi hj e => by
  unfold Kv at e; split at e <;> split at e <;> omega
theorem c_sortByWidth (h : BW μ u n a r p t Q B) : ∃ (M : List Nat) (μ' : gMem), mX5_sortByWidth [.ref 178] μ = some (some (.int (nI M.length)), μ') ∧ ka (Kv μ n) μ' 181 M ∧ M.Pairwise (fun x y => Kv μ n x < Kv μ n y) ∧ (∀ x, x ∈ M ↔ x ∈ plL μ n) ∧ M.length ≤ 60 ∧ pq μ μ' := by
  have hn := h.A.n60
  have hp := h.A.p32
  have fill : ∀ k j, j + k = n → ∀ m1 : gMem, m1.2 = μ.2 → (∀ c e, c ≠ 181 → m1.1 c e = μ.1 c e) → ka (Kv μ n) m1 181 (plL μ j) → ∃ μ' : gMem, rX5_sortByWidth_4 (nI (plL μ j).length) (nI j) m1 = rX5_sortByWidth_4 (nI (plL μ n).length) (nI n) μ' ∧ μ'.2 = μ.2 ∧ (∀ c e, c ≠ 181 → μ'.1 c e = μ.1 c e) ∧ ka (Kv μ n) μ' 181 (plL μ n) := by
    intro k
    induction k with
    | zero => intro j hj m1 h1 h2 h3; rw [show j = n by omega] at *; exact ⟨m1, rfl, h1, h2, h3⟩
    | succ k ih =>
      intro j hj m1 h1 h2 h3
      have hjn : j < n := by omega
      have hb : bs μ m1 := ⟨h1, fun c i hc => h2 c i (by omega)⟩
      have hle := plL_le (b := μ) (n := j)
      rw [eX5_sortByWidth_4, h2 3 2 (by omega), h.A.1, if_neg (nI_ge (by omega) (by omega)), lfq rfl rfl (c_isPlaced (hb.xIA h.A) hjn) rfl, g_ci_some, h2 9 j (by omega), nI_1]
      by_cases q : μ.1 9 j = 2
      · have es : plL μ (j + 1) = plL μ j ++ [j] := by unfold plL; rw [fr_s, if_pos (decide_eq_true q)]
        obtain ⟨-, -, y5, y6, y7⟩ := pv_yes h.v hjn q
        have ek : ((32 - nI (jn μ 14 j)) * 64 + nI j : Int32) = nI (Kv μ n j) := by
          unfold Kv
          rw [if_pos ⟨hjn, q⟩, show (32 : Int32) = nI 32 from rfl, show (64 : Int32) = nI 64 from rfl, nsb y7, nml, nad]
        rw [if_pos q, if_neg (by decide), gin (show j < 60 by omega) (by omega), if_pos rfl, tn (show j < 2147483648 by omega), gin (show (plL μ j).length < 60 by omega) (by omega), if_pos rfl, tn (show (plL μ j).length < 2147483648 by omega), h2 14 j (by omega), y5, ek, nI_1]
        have := ih (j + 1) (by omega) (gwI m1 181 (plL μ j).length (nI (Kv μ n j))) h1 (fun c e hc => by rw [gI_r, if_neg (fun z => hc z.1)]; exact h2 c e hc) (by rw [es]; exact ka_app h3)
        rw [es, List.length_append] at this
        exact this
      · have es : plL μ (j + 1) = plL μ j := by unfold plL; rw [fr_s, if_neg (by simp [q])]; simp
        rw [if_neg q, if_pos rfl]
        have := ih (j + 1) (by omega) m1 h1 h2 (by rw [es]; exact h3)
        rw [es] at this
        exact this
  obtain ⟨m1, g1, g2, g3, g4⟩ := fill n 0 (by omega) μ rfl (fun _ _ _ => rfl) (fun i hi => absurd hi (by simp [plL]))
  have hle := plL_le (b := μ) (n := n)
  have e0 : mX5_sortByWidth [.ref 178] μ = g_cv (mX2_sortKeysC [.ref 181, .int (nI (plL μ n).length)] m1) (fun u1 => some (some (.int (nI (plL μ n).length)), u1)) := by
    rw [eX5_sortByWidth, show rX5_sortByWidth_4 0 0 μ = _ from g1, eX5_sortByWidth_4, g3 3 2 (by omega), h.A.1, if_pos (nI_le (Nat.le_refl _) (by omega))]
  cases hP : plL μ n with
  | nil =>
    refine ⟨[], m1, ?_, fun i hi => absurd hi (by simp), List.Pairwise.nil, fun x => Iff.rfl, by simp, g2, fun c i hc => g3 c i (by omega)⟩
    rw [e0, hP, eX2_sortKeysC, eX2_sortKeysC_2, if_pos (by decide), g_cv_some]
  | cons x R =>
    have hSR : ([x] ++ R) = plL μ n := by rw [hP]; rfl
    obtain ⟨M, μ2, m1', m2, m3, m4, m5, m6, m7⟩ := c_sortC (K := Kv μ n) (N := (plL μ n).length) Kv_lt Kv_inj (by omega) ((plL μ n).length - 1) 1 (by rw [hP]; simp; omega) (Or.inl (by omega)) [x] R m1 rfl (by rw [hSR]) (fun y hy => by rw [hSR] at hy; have := (plL_m.mp hy).1; omega) (by rw [hSR]; exact plL_nd) (by rw [hSR]; exact g4) (by simp)
    refine ⟨M, μ2, ?_, m2, m3, fun y => by rw [m4, hSR, hP], by omega, m6.trans g2, fun c i hc => (m7 c i (by omega)).trans (g3 c i (by omega))⟩
    rw [e0, eX2_sortKeysC, show rX2_sortKeysC_2 (nI (plL μ n).length) 1 m1 = _ from m1', g_cv_some, m5]
/-- a column whose block is up -/
def upX (b : gMem) (p j x : Nat) : Prop := x % jn b 14 j = 0 ∧ x + jn b 14 j ≤ p ∧ b.1 0 13 &&& BK x (jn b 14 j) = 0
/-- the thinnest block for a job: its own if none is thinner, else the first -/
def isT (b : gMem) (p : Nat) (f : Nat → Nat) (j c : Nat) : Prop := upX b p j c ∧ (∀ x, upX b p j x → mxF f c (jn b 14 j) ≤ mxF f x (jn b 14 j)) ∧ (c ≠ jn b 13 j → mxF f c (jn b 14 j) < mxF f (jn b 13 j) (jn b 14 j) ∧ ∀ x, upX b p j x → x < c → mxF f c (jn b 14 j) < mxF f x (jn b 14 j))
theorem isT.uniq {j c d : Nat} (h : isT b p f j c) (h2 : isT b p f j d) : c = d := by
  have k1 := h.2.1 d h2.1
  have k2 := h2.2.1 c h.1
  refine Classical.byContradiction fun q => ?_
  by_cases q1 : c = jn b 13 j
  · have := (h2.2.2 (fun z => q (by rw [q1, z]))).1
    rw [← q1] at this; omega
  · by_cases q2 : d = jn b 13 j
    · have := (h.2.2 q1).1
      rw [← q2] at this; omega
    · rcases Nat.lt_or_gt_of_ne q with q3 | q3
      · have := (h2.2.2 q2).2 c h.1 q3; omega
      · have := (h.2.2 q1).2 d h2.1 q3; omega
noncomputable def TH (b : gMem) (p : Nat) (f : Nat → Nat) (j : Nat) : Nat := Classical.epsilon (fun c => isT b p f j c)
theorem TH_e {j c : Nat} (h : isT b p f j c) : TH b p f j = c := (Classical.epsilon_spec (p := fun c => isT b p f j c) ⟨c, h⟩).uniq h
theorem c_layColumn {j : Nat} {m0 : gMem} (h : BW m0 u n a r p t Q B) (hm : pq m0 μ) (hj : j < n) (h2 : m0.1 9 j = 2) (hl : LD μ f) (hf : ∀ d, d < 32 → f d < 2147483648) : ∃ c, isT m0 p f j c ∧ mX5_layColumn [.ref 178, .int (nI j)] μ = some (some (.int (nI c)), μ) := by
  have hp := h.A.p32
  have hn := h.A.n60
  have hb := h.bs hm.bs
  obtain ⟨m, w1, w2, w3, w4, w5, w6, w7⟩ := pl_w h hj h2
  have hle := w1.le
  have hdv := w1.dvd h.A.2.2.2.2.2.2
  have hmx : ∀ c, c + jn m0 14 j ≤ 32 → mxF f c (jn m0 14 j) < 2147483648 := fun c hc => by
    have : mxF f c (jn m0 14 j) ≤ 2147483647 := mxF_iff.mpr fun d hd => by have := hf (c + d) (by omega); omega
    omega
  have loop : ∀ k c, p ≤ c + k → c ≤ p → c % jn m0 14 j = 0 → ∀ x, upX m0 p j x → (∀ y, upX m0 p j y → y < c → mxF f x (jn m0 14 j) ≤ mxF f y (jn m0 14 j)) → mxF f x (jn m0 14 j) ≤ mxF f (jn m0 13 j) (jn m0 14 j) → (x ≠ jn m0 13 j → mxF f x (jn m0 14 j) < mxF f (jn m0 13 j) (jn m0 14 j) ∧ ∀ y, upX m0 p j y → y < x → mxF f x (jn m0 14 j) < mxF f y (jn m0 14 j)) → ∃ z, isT m0 p f j z ∧ rX5_layColumn_41 (nI (jn m0 14 j)) (nI x) (nI (mxF f x (jn m0 14 j))) (nI c) μ = some (some (.int (nI z)), μ) := by
    have fin : ∀ c, p ≤ c → c ≤ p → ∀ x, upX m0 p j x → (∀ y, upX m0 p j y → y < c → mxF f x (jn m0 14 j) ≤ mxF f y (jn m0 14 j)) → (x ≠ jn m0 13 j → mxF f x (jn m0 14 j) < mxF f (jn m0 13 j) (jn m0 14 j) ∧ ∀ y, upX m0 p j y → y < x → mxF f x (jn m0 14 j) < mxF f y (jn m0 14 j)) → ∃ z, isT m0 p f j z ∧ rX5_layColumn_41 (nI (jn m0 14 j)) (nI x) (nI (mxF f x (jn m0 14 j))) (nI c) μ = some (some (.int (nI z)), μ) := fun c c1 c2 x x1 x2 x3 => ⟨x, ⟨x1, fun y hy => x2 y hy (by have := hy.2.1; omega), x3⟩, by rw [eX5_layColumn_41, lfq rfl rfl (by rw [eX2_p, hb.A.2.2.2.2.2.1]) rfl, g_ci_some, if_pos (nI_le c1 (by omega))]⟩
    intro k
    induction k with
    | zero => intro c c1 c2 c3 x x1 x2 x3 x4; exact fin c (by omega) c2 x x1 x2 x4
    | succ k ih =>
      intro c c1 c2 c3 x x1 x2 x3 x4
      by_cases q : c = p
      · exact fin c (by omega) c2 x x1 x2 x4
      have hc : c < p := by omega
      have hfit := mul_fit hle.1 hdv c3 hc
      have hmod : (c + jn m0 14 j) % jn m0 14 j = 0 := by rw [Nat.add_mod_right]; exact c3
      have hgap : ∀ y, upX m0 p j y → y < c + jn m0 14 j → y < c ∨ y = c := fun y hy hlt => by
        by_cases z : y < c
        · exact Or.inl z
        · refine Or.inr ?_
          obtain ⟨e1, he1⟩ := Nat.dvd_of_mod_eq_zero hy.1
          obtain ⟨e2, he2⟩ := Nat.dvd_of_mod_eq_zero c3
          have z2 : (y - c) % jn m0 14 j = 0 := by
            have : y - c = jn m0 14 j * (e1 - e2) := by rw [Nat.mul_sub]; omega
            rw [this]; exact Nat.mul_mod_right _ _
          rw [Nat.mod_eq_of_lt (by omega)] at z2
          omega
      rw [eX5_layColumn_41, lfq rfl rfl (by rw [eX2_p, hb.A.2.2.2.2.2.1]) rfl, g_ci_some, if_neg (nI_ge hc (by omega)), c_isUp (by omega) hle.2, g_ci_some, hm.2 0 13 (by omega), c_great hl (by omega) hf, g_ci_some, nad]
      by_cases q2 : m0.1 0 13 &&& BK c (jn m0 14 j) = 0
      · rw [show (if m0.1 0 13 &&& BK c (jn m0 14 j) = 0 then (1 : Int32) else 0) = 1 from if_pos q2, if_neg (show ¬ (1 : Int32) = 0 by decide)]
        have xl := hmx x (by have := x1.2.1; omega)
        have cl := hmx c (by omega)
        by_cases q3 : mxF f x (jn m0 14 j) ≤ mxF f c (jn m0 14 j)
        · rw [if_pos (nI_le q3 cl)]
          refine ih (c + jn m0 14 j) (by omega) hfit hmod x x1 (fun y hy hlt => ?_) x3 x4
          rcases hgap y hy hlt with z | z
          · exact x2 y hy z
          · rw [z]; exact q3
        · rw [if_neg (nI_ge (by omega) xl), c_great hl (by omega) hf, g_ci_some]
          refine ih (c + jn m0 14 j) (by omega) hfit hmod c ⟨c3, hfit, q2⟩ (fun y hy hlt => ?_) (by omega) (fun _ => ⟨by omega, fun y hy hlt => by have := x2 y hy hlt; omega⟩)
          rcases hgap y hy hlt with z | z
          · have := x2 y hy z; omega
          · rw [z]; exact Nat.le_refl _
      · rw [show (if m0.1 0 13 &&& BK c (jn m0 14 j) = 0 then (1 : Int32) else 0) = 0 from if_neg q2, if_pos rfl]
        refine ih (c + jn m0 14 j) (by omega) hfit hmod x x1 (fun y hy hlt => ?_) x3 x4
        rcases hgap y hy hlt with z | z
        · exact x2 y hy z
        · rw [z] at hy; exact absurd hy.2.2 q2
  obtain ⟨z, z1, z2⟩ := loop p 0 (by omega) (by omega) (Nat.zero_mod _) (jn m0 13 j) ⟨w4, w5, w6⟩ (fun y hy hlt => by omega) (Nat.le_refl _) (fun z => absurd rfl z)
  refine ⟨z, z1, ?_⟩
  rw [eX5_layColumn, gin (show j < 60 by omega) (by omega), if_pos rfl, tn (by omega), hm.2 14 j (by omega), w2, max_e hle.1 (by omega), g_ci_some, if_pos rfl, hm.2 13 j (by omega), w3, c_great hl (by omega) hf, g_ci_some]
  exact z2
end LAYC
