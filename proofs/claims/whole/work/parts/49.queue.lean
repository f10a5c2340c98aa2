/-! the queue laid out on both sides -/
section QUEUE
variable {b u : gMem} {n a r p t B : Nat} {Q : List Nat}
theorem cmp_mul {w x y z : Nat} (hw : w < 2147483648) (hx : x < 2147483648) (hy : y < 2147483648) (hz : z < 2147483648) : (0 ≤ lg_cmp (Int32.toInt64 (nI w) * Int32.toInt64 (nI x)) (Int32.toInt64 (nI y) * Int32.toInt64 (nI z))) ↔ ¬ w * x < y * z := by
  have h1 : w * x < 2147483648 * 2147483648 := Nat.mul_lt_mul'' hw hx
  have h2 : y * z < 2147483648 * 2147483648 := Nat.mul_lt_mul'' hy hz
  rw [lg_cmp_ge, nI_l (by omega), nI_l (by omega), nI_l (by omega), nI_l (by omega), lN_mul, lN_mul, pk_lLE (by omega) (by omega)]
  omega
theorem c_rankAll (hU : IU b t) (ht : t ≤ 60000) : ∃ b', mX8_rankAll [.ref 25] b = some (none, b') ∧ b'.2 = b.2 ∧ (∀ c i, c ≠ 28 → b'.1 c i = b.1 c i) ∧ ∀ v, v < 6 → b'.1 28 v = nI (rk b v) := by
  have hud := fun (v : Nat) (hv : v < 6) => ud_le hU ht hv
  have hsh := fun (v : Nat) (hv : v < 6) => (hU.1 v hv).2.2
  have inner : ∀ k v, v + k = 6 → ∀ x, x < 6 → ∀ μ : gMem, (∀ c i, c ≠ 28 → μ.1 c i = b.1 c i) → μ.1 28 x = nI (cB (fun v => decide (jn b 27 v * jn b 26 x < jn b 27 x * jn b 26 v)) v) → ∃ μ', rX8_rankAll_17 (nI x) (nI v) μ = rX8_rankAll_2 (nI (x + 1)) μ' ∧ μ'.2 = μ.2 ∧ (∀ c i, ¬ (c = 28 ∧ i = x) → μ'.1 c i = μ.1 c i) ∧ μ'.1 28 x = nI (rk b x) := by
    intro k
    induction k with
    | zero =>
      intro v hv x hx μ hμ h28
      rw [show v = 6 by omega] at *
      exact ⟨μ, by rw [eX8_rankAll_17, if_pos (by decide), nI_1], rfl, fun _ _ _ => rfl, h28⟩
    | succ k ih =>
      intro v hv x hx μ hμ h28
      have c1 := hud v (by omega)
      have c2 := hud x hx
      have c3 := hsh v (by omega)
      have c4 := hsh x hx
      have hcm := cmp_mul (w := jn b 27 v) (x := jn b 26 x) (y := jn b 27 x) (z := jn b 26 v) (by omega) (by omega) (by omega) (by omega)
      rw [eX8_rankAll_17, if_neg (show ¬ (6 : Int32) ≤ nI v from nI_ge (a := v) (b := 6) (by omega) (by omega)), gin (by omega) (by omega), if_pos rfl, if_pos rfl, gin hx (by omega), if_pos rfl, if_pos rfl, if_pos rfl, if_pos rfl, tn (by omega), tn (by omega), hμ 27 v (by omega), hμ 26 x (by omega), hμ 27 x (by omega), hμ 26 v (by omega), hU.2.1 v (by omega), hU.2.1 x hx, (hU.1 v (by omega)).1, (hU.1 x hx).1, h28, nI_1, nI_1]
      by_cases q : jn b 27 v * jn b 26 x < jn b 27 x * jn b 26 v
      · rw [if_neg (fun z => hcm.mp z q)]
        obtain ⟨μ', g1, g2, g3, g4⟩ := ih (v + 1) (by omega) x hx (gwI μ 28 x (nI (cB (fun v => decide (jn b 27 v * jn b 26 x < jn b 27 x * jn b 26 v)) v + 1))) (fun c i hc => by rw [gI_r, if_neg (fun z => hc z.1)]; exact hμ c i hc) (by
          rw [gI_r, if_pos ⟨rfl, rfl⟩]
          show _ = nI (cB _ v + (if decide (jn b 27 v * jn b 26 x < jn b 27 x * jn b 26 v) = true then 1 else 0))
          rw [decide_eq_true q]; rfl)
        exact ⟨μ', g1, g2, fun c i hc => (g3 c i hc).trans (by rw [gI_r, if_neg hc]), g4⟩
      · rw [if_pos (hcm.mpr q)]
        refine ih (v + 1) (by omega) x hx μ hμ ?_
        rw [h28]
        show _ = nI (cB _ v + (if decide (jn b 27 v * jn b 26 x < jn b 27 x * jn b 26 v) = true then 1 else 0))
        rw [decide_eq_false q]; rfl
  have outer : ∀ k x, x + k = 6 → ∀ μ : gMem, μ.2 = b.2 → (∀ c i, c ≠ 28 → μ.1 c i = b.1 c i) → (∀ v, v < x → μ.1 28 v = nI (rk b v)) → ∃ b', rX8_rankAll_2 (nI x) μ = some (none, b') ∧ b'.2 = b.2 ∧ (∀ c i, c ≠ 28 → b'.1 c i = b.1 c i) ∧ ∀ v, v < 6 → b'.1 28 v = nI (rk b v) := by
    intro k
    induction k with
    | zero =>
      intro x hx μ h1 h2 h3
      rw [show x = 6 by omega] at *
      exact ⟨μ, by rw [eX8_rankAll_2, if_pos (by decide)], h1, h2, h3⟩
    | succ k ih =>
      intro x hx μ h1 h2 h3
      rw [eX8_rankAll_2, if_neg (show ¬ (6 : Int32) ≤ nI x from nI_ge (a := x) (b := 6) (by omega) (by omega)), gin (by omega) (by omega), if_pos rfl, tn (by omega)]
      obtain ⟨μ', g1, g2, g3, g4⟩ := inner 6 0 (by omega) x (by omega) (gwI μ 28 x 0) (fun c i hc => by rw [gI_r, if_neg (fun z => hc z.1)]; exact h2 c i hc) (by rw [gI_r, if_pos ⟨rfl, rfl⟩]; rfl)
      rw [show rX8_rankAll_17 (nI x) 0 (gwI μ 28 x 0) = _ from g1]
      refine ih (x + 1) (by omega) μ' (g2.trans h1) (fun c i hc => (g3 c i (fun z => hc z.1)).trans (by rw [gI_r, if_neg (fun z => hc z.1)]; exact h2 c i hc)) (fun v hv => ?_)
      by_cases q : v = x
      · rw [q]; exact g4
      · rw [g3 28 v (fun z => q z.2), gI_r, if_neg (fun z => q z.2)]; exact h3 v (by omega)
  rw [eX8_rankAll]
  exact outer 6 0 (by omega) b rfl (fun _ _ _ => rfl) (fun v hv => by omega)
/-- in order, and of those waiting -/
def ord (b u : gMem) (Q L : List Nat) : Prop := L.Pairwise (fun x y => kq b u x < kq b u y) ∧ ∀ x, x ∈ L ↔ x ∈ Q
theorem ord.uniq {L M : List Nat} (h1 : ord b u Q L) (h2 : ord b u Q M) : L = M := srt_uniq h1.1 h2.1 (fun x => (h1.2 x).trans (h2.2 x).symm)
theorem nodup_le {L M : List Nat} (h : L.Nodup) (hs : ∀ x ∈ L, x ∈ M) : L.length ≤ M.length := by
  induction L generalizing M with
  | nil => simp
  | cons x L ih =>
    obtain ⟨h1, h2⟩ := List.nodup_cons.mp h
    have hx := hs x (by simp)
    have := ih (M := M.erase x) h2 (fun y hy => (List.mem_erase_of_ne (fun (z : y = x) => h1 (z ▸ hy))).mpr (hs y (by simp [hy])))
    rw [List.length_erase_of_mem hx] at this
    have : 0 < M.length := List.length_pos_of_mem hx
    simp
    omega
theorem ord.len {L : List Nat} (hQ : Q.length ≤ 60) (h : L.Pairwise (fun x y => kq b u x < kq b u y)) (hs : ∀ x ∈ L, x ∈ Q) : L.length ≤ 60 := by
  refine Nat.le_trans (nodup_le (h.imp (fun {x y} hxy z => by subst z; omega)) hs) hQ
theorem arr_app {μ : gMem} {c x : Nat} {L : List Nat} (h : arr μ c L) : arr (gwI μ c L.length (nI x)) c (L ++ [x]) := by
  intro i hi
  rw [gI_r]
  by_cases q : i = L.length
  · rw [if_pos ⟨rfl, q⟩]; subst q; simp
  · rw [if_neg (fun z => q z.2)]
    have hl : i < L.length := by simp at hi; omega
    rw [List.getElem_append_left hl]; exact h i hl
theorem pw_app {K : Nat → Nat} {L : List Nat} {x : Nat} (h : L.Pairwise (fun x y => K x < K y)) (hx : ∀ y ∈ L, K y < K x) : (L ++ [x]).Pairwise (fun x y => K x < K y) := by
  rw [List.pairwise_append]
  exact ⟨h, by simp, fun y hy z hz => by simp at hz; subst hz; exact hx y hy⟩
theorem c_lineUp (h : BW b u n a r p t Q B) : ∃ L b', mX2_lineUp [.ref 0] b = some (some (.int (nI L.length)), b') ∧ b'.2 = b.2 ∧ (∀ c i, c ≠ 28 → c ≠ 56 → b'.1 c i = b.1 c i) ∧ arr b' 56 L ∧ ord b u Q L ∧ L.length ≤ 60 := by
  have hT := h.T.2.2.1
  have hn := h.A.n60
  obtain ⟨q1, q2, q3, q4, q5, ⟨cm, q6, q7, q8⟩, q9⟩ := h.Q
  have hB := h.B.2.2.2.2
  by_cases ho : jn b 1 3 = 1
  · have kx : ∀ x, kq b u x = rk b (jn b 7 x) * 2000000000 + pl u x := fun x => by unfold kq; rw [if_pos ho]
    have hpl : ∀ x ∈ Q, pl u x < 1000000000 := fun x hx => by have : pl u x < cm := (q8 x hx).2; omega
    obtain ⟨b1, g1, g2, g3, g4⟩ := c_rankAll h.U h.B.2.1
    have inner : ∀ k i, i + k = Q.length → ∀ d, d < 6 → ∀ O μ, μ.2 = b.2 → (∀ c i, c ≠ 28 → c ≠ 56 → μ.1 c i = b.1 c i) → (∀ v, v < 6 → μ.1 28 v = nI (rk b v)) → arr μ 56 O → O.Pairwise (fun x y => kq b u x < kq b u y) → (∀ x, x ∈ O ↔ x ∈ Q ∧ (rk b (jn b 7 x) < d ∨ (rk b (jn b 7 x) = d ∧ x ∈ Q.take i))) → ∃ O' μ', rX2_lineUp_59 (nI O.length) (nI d) (nI i) μ = rX2_lineUp_51 (nI O'.length) (nI (d + 1)) μ' ∧ μ'.2 = b.2 ∧ (∀ c i, c ≠ 28 → c ≠ 56 → μ'.1 c i = b.1 c i) ∧ (∀ v, v < 6 → μ'.1 28 v = nI (rk b v)) ∧ arr μ' 56 O' ∧ O'.Pairwise (fun x y => kq b u x < kq b u y) ∧ (∀ x, x ∈ O' ↔ x ∈ Q ∧ rk b (jn b 7 x) < d + 1) := by
      intro k
      induction k with
      | zero =>
        intro i hi d hd O μ m1 m2 m3 m4 m5 m6
        rw [show i = Q.length by omega] at *
        refine ⟨O, μ, by rw [eX2_lineUp_59, m2 3 3 (by omega) (by omega), q1, if_pos (nI_le (Nat.le_refl _) (by omega)), nI_1], m1, m2, m3, m4, m5, fun x => ?_⟩
        rw [m6, List.take_length]
        constructor
        · rintro ⟨z1, z2⟩; exact ⟨z1, by omega⟩
        · rintro ⟨z1, z2⟩
          refine ⟨z1, ?_⟩
          rcases (show rk b (jn b 7 x) < d ∨ rk b (jn b 7 x) = d by omega) with z | z
          · exact Or.inl z
          · exact Or.inr ⟨z, z1⟩
      | succ k ih =>
        intro i hi d hd O μ m1 m2 m3 m4 m5 m6
        have hiQ : i < Q.length := by omega
        have hmem : Q[i] ∈ Q := List.getElem_mem hiQ
        have hlt := (Q_mem h hmem).1
        have hus := (h.J Q[i] hlt).2.1
        have hOl : O.length ≤ 60 := ord.len q2 m5 (fun x hx => ((m6 x).mp hx).1)
        have hr6 : rk b (jn b 7 Q[i]) ≤ 6 := cB_le _ 6
        have htk : ∀ x, x ∈ Q.take (i + 1) ↔ x ∈ Q.take i ∨ x = Q[i] := fun x => by
          rw [List.take_succ_eq_append_getElem hiQ, List.mem_append, List.mem_singleton]
        have hni : Q[i] ∉ Q.take i := by
          intro z
          obtain ⟨e, he, hz⟩ := List.mem_iff_getElem.mp z
          rw [List.getElem_take] at hz
          have he2 : e < i := by simp at he; omega
          have := (List.nodup_iff_pairwise_ne.mp q4)
          exact (List.pairwise_iff_getElem.mp this e i (by omega) hiQ he2) hz
        rw [eX2_lineUp_59, m2 3 3 (by omega) (by omega), q1, if_neg (nI_ge (by omega) (by omega)), gin (by omega) (by omega), if_pos rfl, if_pos rfl, tn (by omega), m2 24 i (by omega) (by omega), q3 i hiQ, gin (by omega) (by omega), if_pos rfl, tn (by omega), m2 7 _ (by omega) (by omega), hus.1, gin hus.2 (by omega), if_pos rfl, tn (by omega), m3 _ hus.2, nI_1]
        by_cases q : rk b (jn b 7 Q[i]) = d
        · rw [if_pos (congrArg nI q)]
          have hlen : O.length < 60 := by
            have hpw : (O ++ [Q[i]]).Pairwise (fun x y => kq b u x < kq b u y) := pw_app m5 (fun y hy => by
              obtain ⟨z1, z2⟩ := (m6 y).mp hy
              rw [kx, kx]
              have := hpl y z1
              rcases z2 with z2 | z2
              · omega
              · obtain ⟨e, he, hz⟩ := List.mem_iff_getElem.mp z2.2
                rw [List.getElem_take] at hz
                have he2 : e < i := by simp at he; omega
                have h9 := List.pairwise_iff_getElem.mp q9 e i (by omega) hiQ he2
                rw [hz] at h9
                have h9 : pl u y < pl u Q[i] := h9
                omega)
            have := ord.len (b := b) (u := u) q2 hpw (fun x hx => by
              rw [List.mem_append] at hx
              rcases hx with hx | hx
              · exact ((m6 x).mp hx).1
              · simp at hx; rw [hx]; exact hmem)
            simp at this
            omega
          rw [gin (by omega) (by omega), if_pos rfl, tn (by omega), nI_1]
          have := ih (i + 1) (by omega) d hd (O ++ [Q[i]]) (gwI μ 56 O.length (nI Q[i])) m1 (fun c i h1 h2 => by rw [gI_r, if_neg (fun z => h2 z.1)]; exact m2 c i h1 h2) (fun v hv => by rw [gI_r, if_neg (by omega)]; exact m3 v hv) (arr_app m4) (pw_app m5 (fun y hy => by
              obtain ⟨z1, z2⟩ := (m6 y).mp hy
              rw [kx, kx]
              have := hpl y z1
              rcases z2 with z2 | z2
              · omega
              · obtain ⟨e, he, hz⟩ := List.mem_iff_getElem.mp z2.2
                rw [List.getElem_take] at hz
                have he2 : e < i := by simp at he; omega
                have h9 := List.pairwise_iff_getElem.mp q9 e i (by omega) hiQ he2
                rw [hz] at h9
                have h9 : pl u y < pl u Q[i] := h9
                omega)) (fun x => by
              rw [List.mem_append, m6, htk]
              constructor
              · rintro (⟨z1, z2⟩ | z)
                · exact ⟨z1, z2.imp id (fun y => ⟨y.1, Or.inl y.2⟩)⟩
                · simp at z; subst z; exact ⟨hmem, Or.inr ⟨q, Or.inr rfl⟩⟩
              · rintro ⟨z1, z2 | ⟨z2, z3 | z3⟩⟩
                · exact Or.inl ⟨z1, Or.inl z2⟩
                · exact Or.inl ⟨z1, Or.inr ⟨z2, z3⟩⟩
                · exact Or.inr (by simp [z3]))
          rw [List.length_append] at this
          exact this
        · rw [if_neg (fun z => q (by rwa [neq (by omega) (by omega)] at z)), nI_1]
          refine ih (i + 1) (by omega) d hd O μ m1 m2 m3 m4 m5 (fun x => ?_)
          rw [m6, htk]
          constructor
          · rintro ⟨z1, z2⟩; exact ⟨z1, z2.imp id (fun y => ⟨y.1, Or.inl y.2⟩)⟩
          · rintro ⟨z1, z2 | ⟨z2, z3 | z3⟩⟩
            · exact ⟨z1, Or.inl z2⟩
            · exact ⟨z1, Or.inr ⟨z2, z3⟩⟩
            · rw [z3] at z2; exact absurd z2 q
    have hr6 : ∀ x ∈ Q, rk b (jn b 7 x) < 6 := by
      intro x hx
      have hus := (h.J x (Q_mem h hx).1).2.1.2
      have h1 := cB_strict (f := fun v => decide (jn b 27 v * jn b 26 (jn b 7 x) < jn b 27 (jn b 7 x) * jn b 26 v)) (g := fun _ => true) (d := jn b 7 x) (k := 6) hus (decide_eq_false (by omega)) rfl (fun _ _ _ => rfl)
      exact Nat.lt_of_lt_of_le h1 (cB_le _ 6)
    have outer : ∀ k d, d + k = 6 → ∀ O μ, μ.2 = b.2 → (∀ c i, c ≠ 28 → c ≠ 56 → μ.1 c i = b.1 c i) → (∀ v, v < 6 → μ.1 28 v = nI (rk b v)) → arr μ 56 O → O.Pairwise (fun x y => kq b u x < kq b u y) → (∀ x, x ∈ O ↔ x ∈ Q ∧ rk b (jn b 7 x) < d) → ∃ L b', rX2_lineUp_51 (nI O.length) (nI d) μ = some (some (.int (nI L.length)), b') ∧ b'.2 = b.2 ∧ (∀ c i, c ≠ 28 → c ≠ 56 → b'.1 c i = b.1 c i) ∧ arr b' 56 L ∧ ord b u Q L ∧ L.length ≤ 60 := by
      intro k
      induction k with
      | zero =>
        intro d hd O μ m1 m2 m3 m4 m5 m6
        rw [show d = 6 by omega] at *
        exact ⟨O, μ, by rw [eX2_lineUp_51, if_pos (by decide)], m1, m2, m4, ⟨m5, fun x => (m6 x).trans ⟨fun z => z.1, fun z => ⟨z, hr6 x z⟩⟩⟩, ord.len q2 m5 (fun x hx => ((m6 x).mp hx).1)⟩
      | succ k ih =>
        intro d hd O μ m1 m2 m3 m4 m5 m6
        obtain ⟨O', μ', w1, w2, w3, w4, w5, w6, w7⟩ := inner Q.length 0 (by omega) d (by omega) O μ m1 m2 m3 m4 m5 (fun x => (m6 x).trans ⟨fun z => ⟨z.1, Or.inl z.2⟩, fun z => ⟨z.1, z.2.elim id (fun y => absurd y.2 (by simp))⟩⟩)
        rw [eX2_lineUp_51, if_neg (show ¬ (6 : Int32) ≤ nI d from nI_ge (a := d) (b := 6) (by omega) (by omega)), show rX2_lineUp_59 (nI O.length) (nI d) 0 μ = _ from w1]
        exact ih (d + 1) (by omega) O' μ' w2 w3 w4 w5 w6 w7
    rw [eX2_lineUp, if_neg (by rw [hT.1, ho]; decide), g1, g_cv_some]
    exact outer 6 0 (by omega) [] b1 g2 (fun c i h1 _ => g3 c i h1) g4 (fun i hi => absurd hi (by simp)) List.Pairwise.nil (fun x => by simp)
  · have ho0 : jn b 1 3 = 0 := by have := hT.2; omega
    have hk : ∀ x, kq b u x = pl u x := fun x => by unfold kq; rw [if_neg ho]; omega
    refine ⟨Q, gcI b 24 56 Q.length, ?_, rfl, fun c i h1 h2 => by rw [gcI_r, if_neg (fun z => h2 z.1)], fun i hi => by rw [gcI_r, if_pos ⟨rfl, hi⟩]; exact q3 i hi, ⟨?_, fun x => Iff.rfl⟩, q2⟩
    · rw [eX2_lineUp, if_pos (by rw [hT.1, ho0]; rfl), q1, tn (by omega), if_pos ⟨rfl, rfl, nneg (by omega), q2, q2, by omega, by omega⟩, gcI_r, if_neg (by omega), q1]
    · refine q9.imp (fun {x y} hxy => ?_)
      rw [hk, hk]; exact hxy
end QUEUE
