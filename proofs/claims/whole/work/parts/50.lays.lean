section LAYS
variable {b u : gMem} {n a r p t B : Nat} {Q : List Nat}
/-- the same but for the queue laid out -/
def qz (u u' : gMem) : Prop := u'.2 = u.2 ∧ ∀ c i, c ≠ 5 → ¬ (c = 0 ∧ i = 10) → u'.1 c i = u.1 c i
theorem qz.rf : qz u u := ⟨rfl, fun _ _ _ _ => rfl⟩
theorem qz.w5 {u' : gMem} {i : Nat} {x : Int32} (h : qz u u') : qz u (gwI u' 5 i x) := ⟨h.1, fun c k h1 h2 => by rw [gI_r, if_neg (fun z => h1 z.1)]; exact h.2 c k h1 h2⟩
theorem qz.w0 {u' : gMem} {x : Int32} (h : qz u u') : qz u (gwI u' 0 10 x) := ⟨h.1, fun c k h1 h2 => by rw [gI_r, if_neg h2]; exact h.2 c k h1 h2⟩
theorem qz.qs {u' : gMem} (h : qz u u') : qs u u' := ⟨h.1, fun i => h.2 1 i (by omega) (by omega), fun i => h.2 15 i (by omega) (by omega), fun i => h.2 2 i (by omega) (by omega), h.2 0 27 (by omega) (by omega)⟩
theorem qz.key {u' : gMem} (h : qz u u') (x : Nat) : kq b u' x = kq b u x := by
  unfold kq pl jn; rw [h.2 1 _ (by omega) (by omega)]
theorem pl_inj (h : BW b u n a r p t Q B) {x y : Nat} (hx : x ∈ Q) (hy : y ∈ Q) (hxy : x ≠ y) : kq b u x ≠ kq b u y := by
  obtain ⟨q1, q2, q3, q4, q5, ⟨cm, q6, q7, q8⟩, q9⟩ := h.Q
  have hB := h.B.2.2.2.2
  have lx : pl u x < cm := (q8 x hx).2
  have ly : pl u y < cm := (q8 y hy).2
  have hne : pl u x ≠ pl u y := by
    obtain ⟨i, hi, e1⟩ := List.mem_iff_getElem.mp hx
    obtain ⟨k, hk, e2⟩ := List.mem_iff_getElem.mp hy
    have h9 := List.pairwise_iff_getElem.mp q9
    rcases (show i < k ∨ i = k ∨ k < i by omega) with z | z | z
    · have := h9 i k hi hk z
      rw [e1, e2] at this
      have : pl u x < pl u y := this
      omega
    · subst z; exact absurd (e1.symm.trans e2) hxy
    · have := h9 k i hk hi z
      rw [e1, e2] at this
      have : pl u y < pl u x := this
      omega
  unfold kq
  omega
theorem ins_fin {O : List Nat} {j k : Nat} {μ : gMem} (hk : k ≤ O.length) (h1 : ∀ d (h : d < O.length), d < k → μ.1 5 d = nI O[d]) (h2 : ∀ d (h : d < O.length), k ≤ d → μ.1 5 (d + 1) = nI O[d]) : arr (gwI μ 5 k (nI j)) 5 (O.take k ++ j :: O.drop k) := by
  have hl : (O.take k).length = k := by simp; omega
  intro i hi
  have hi2 : i < O.length + 1 := by simp at hi; omega
  rw [gI_r]
  by_cases q : i = k
  · rw [if_pos ⟨rfl, q⟩, List.getElem_append_right (by omega)]
    congr 1
    simp [hl, q]
  · rw [if_neg (fun z => q z.2)]
    by_cases q2 : i < k
    · rw [List.getElem_append_left (by omega), List.getElem_take]
      exact h1 i (by omega) q2
    · rw [List.getElem_append_right (by omega)]
      have := h2 (i - 1) (by omega) (by omega)
      rw [show i - 1 + 1 = i by omega] at this
      rw [this]
      congr 1
      have e : i - (O.take k).length = (i - 1 - k) + 1 := by omega
      simp only [e, List.getElem_cons_succ, List.getElem_drop]
      congr 1
      omega
theorem ins_pw {K : Nat → Nat} {O : List Nat} {j k : Nat} (hp : O.Pairwise (fun x y => K x < K y)) (h1 : ∀ d (h : d < O.length), d < k → K O[d] < K j) (h2 : ∀ d (h : d < O.length), k ≤ d → K j < K O[d]) : (O.take k ++ j :: O.drop k).Pairwise (fun x y => K x < K y) := by
  have hsp : (O.take k ++ O.drop k).Pairwise (fun x y => K x < K y) := by rw [List.take_append_drop]; exact hp
  obtain ⟨p1, p2, p3⟩ := List.pairwise_append.mp hsp
  have t1 : ∀ x ∈ O.take k, K x < K j := by
    intro x hx
    obtain ⟨d, hd, e⟩ := List.mem_iff_getElem.mp hx
    rw [List.getElem_take] at e
    rw [← e]
    exact h1 d _ (by simp at hd; omega)
  have t2 : ∀ x ∈ O.drop k, K j < K x := by
    intro x hx
    obtain ⟨d, hd, e⟩ := List.mem_iff_getElem.mp hx
    rw [List.getElem_drop] at e
    rw [← e]
    exact h2 (k + d) _ (by omega)
  rw [List.pairwise_append]
  refine ⟨p1, List.pairwise_cons.mpr ⟨t2, p2⟩, fun x hx y hy => ?_⟩
  rw [List.mem_cons] at hy
  rcases hy with hy | hy
  · rw [hy]; exact t1 x hx
  · exact p3 x hx y hy
theorem m_laysQueue (h : BW b u n a r p t Q B) : ∃ L u', mX10_laysQueue [.ref 0] u = some (none, u') ∧ qz u u' ∧ u'.1 0 10 = nI L.length ∧ arr u' 5 L ∧ ord b u Q L ∧ L.length ≤ 60 := by
  have hn := h.A.n60
  have q2 := h.Q.2.1
  have q5 := h.Q.2.2.2.2.1
  have inner : ∀ (k j : Nat) (O : List Nat) (μ : gMem), k ≤ O.length → j ∈ Q → j ∉ O → (∀ x ∈ O, x ∈ Q) → O.Pairwise (fun x y => kq b u x < kq b u y) → O.length < 60 → qz u μ → μ.1 0 10 = nI O.length → (∀ d (h : d < O.length), d < k → μ.1 5 d = nI O[d]) → (∀ d (h : d < O.length), k ≤ d → μ.1 5 (d + 1) = nI O[d]) → (∀ d (h : d < O.length), k ≤ d → kq b u j < kq b u O[d]) → ∃ O' μ', rX10_laysQueue_36 (nI j) (nI k) μ = rX10_laysQueue_7 (nI (j + 1)) μ' ∧ qz u μ' ∧ μ'.1 0 10 = nI O'.length ∧ arr μ' 5 O' ∧ O'.Pairwise (fun x y => kq b u x < kq b u y) ∧ (∀ x, x ∈ O' ↔ x ∈ O ∨ x = j) := by
    intro k
    induction k with
    | zero =>
      intro j O μ hk hj hjO hO hpw hl hz h10 h1 h2 h3
      refine ⟨O.take 0 ++ j :: O.drop 0, gwI (gwI μ 5 0 (nI j)) 0 10 (nI (O.length + 1)), ?_, hz.w5.w0, by rw [gI_r, if_pos ⟨rfl, rfl⟩]; simp, ?_, ins_pw hpw (fun d _ hd => by omega) h3, fun x => by simp; exact Or.comm⟩
      · rw [eX10_laysQueue_36, if_pos (by decide), gin (by omega) (by omega), if_pos rfl, tn (by omega), show (gwI μ 5 0 (nI j)).1 0 10 = nI O.length from h10, nI_1, nI_1]
      · intro i hi
        rw [gI_r, if_neg (by omega)]
        exact ins_fin (by omega) h1 h2 i hi
    | succ k ih =>
      intro j O μ hk hj hjO hO hpw hl hz h10 h1 h2 h3
      have hOk : O[k] ∈ Q := hO _ (List.getElem_mem (by omega))
      have hOn := (Q_mem h hOk).1
      have hne : j ≠ O[k] := fun z => hjO (z ▸ List.getElem_mem (by omega))
      have hke := pl_inj h hj hOk hne
      rw [eX10_laysQueue_36, if_neg (show ¬ nI (k + 1) ≤ 0 from nI_ge (a := 0) (b := k + 1) (by omega) (by omega)), show nI (k + 1) - 1 = nI k from by rw [show (1 : Int32) = nI 1 from rfl, nsb (by omega)]; rfl, gin (by omega) (by omega), if_pos rfl, tn (by omega), h1 k (by omega) (by omega), m_isAhead (h.qs hz.qs) hj hOk, g_ci_some, hz.key, hz.key, gin (by omega) (by omega), if_pos rfl, if_pos rfl, if_pos rfl, tn (by omega)]
      by_cases q : kq b u j < kq b u O[k]
      · rw [if_pos q, if_neg (by decide), h1 k (by omega) (by omega)]
        refine ih j O (gwI μ 5 (k + 1) (nI O[k])) (by omega) hj hjO hO hpw hl hz.w5 (by rw [gI_r, if_neg (by omega)]; exact h10) (fun d hd hdk => by rw [gI_r, if_neg (by omega)]; exact h1 d hd (by omega)) (fun d hd hdk => ?_) (fun d hd hdk => ?_)
        · rw [gI_r]
          by_cases z : d = k
          · subst z; rw [if_pos ⟨rfl, rfl⟩]
          · rw [if_neg (by omega)]; exact h2 d hd (by omega)
        · by_cases z : d = k
          · subst z; exact q
          · exact h3 d hd (by omega)
      · rw [if_neg q, if_pos rfl]
        have hlo : ∀ d (hd : d < O.length), d < k + 1 → kq b u O[d] < kq b u j := by
          intro d hd hdk
          by_cases z : d = k
          · subst z; omega
          · have := List.pairwise_iff_getElem.mp hpw d k hd (by omega) (by omega)
            omega
        refine ⟨O.take (k + 1) ++ j :: O.drop (k + 1), gwI (gwI μ 5 (k + 1) (nI j)) 0 10 (nI (O.length + 1)), ?_, hz.w5.w0, by rw [gI_r, if_pos ⟨rfl, rfl⟩]; congr 1; simp; omega, ?_, ins_pw hpw hlo h3, fun x => ?_⟩
        · rw [show (gwI μ 5 (k + 1) (nI j)).1 0 10 = nI O.length from h10, nI_1, nI_1]
        · intro i hi
          rw [gI_r, if_neg (by omega)]
          exact ins_fin hk h1 h2 i hi
        · rw [List.mem_append, List.mem_cons]
          have : x ∈ O ↔ x ∈ O.take (k + 1) ∨ x ∈ O.drop (k + 1) := by rw [← List.mem_append, List.take_append_drop]
          rw [this]
          constructor
          · rintro (z | z | z)
            · exact Or.inl (Or.inl z)
            · exact Or.inr z
            · exact Or.inl (Or.inr z)
          · rintro ((z | z) | z)
            · exact Or.inl z
            · exact Or.inr (Or.inr z)
            · exact Or.inr (Or.inl z)
  have outer : ∀ k j, j + k = n → ∀ (O : List Nat) (μ : gMem), qz u μ → μ.1 0 10 = nI O.length → arr μ 5 O → O.Pairwise (fun x y => kq b u x < kq b u y) → (∀ x, x ∈ O ↔ x < j ∧ x ∈ Q) → ∃ L u', rX10_laysQueue_7 (nI j) μ = some (none, u') ∧ qz u u' ∧ u'.1 0 10 = nI L.length ∧ arr u' 5 L ∧ ord b u Q L ∧ L.length ≤ 60 := by
    intro k
    induction k with
    | zero =>
      intro j hj O μ hz h10 ha hpw hm
      rw [show j = n by omega] at *
      refine ⟨O, μ, ?_, hz, h10, ha, ⟨hpw, fun x => (hm x).trans ⟨fun z => z.2, fun z => ⟨((q5 x).mp z).1, z⟩⟩⟩, ord.len q2 hpw (fun x hx => ((hm x).mp hx).2)⟩
      rw [eX10_laysQueue_7, (h.e.q hz.qs).h.n, h.A.1, if_pos (nI_le (Nat.le_refl _) (by omega))]
    | succ k ih =>
      intro j hj O μ hz h10 ha hpw hm
      rw [eX10_laysQueue_7, (h.e.q hz.qs).h.n, h.A.1, if_neg (nI_ge (by omega) (by omega)), at_4 (by omega), g_ci_some, ((h.e.q hz.qs).j (show j < n by omega)).f4]
      by_cases q : b.1 9 j = 1
      · have hjQ : j ∈ Q := (q5 j).mpr ⟨by omega, q⟩
        have hjO : j ∉ O := fun z => by have := ((hm j).mp z).1; omega
        have hnd : (j :: O).Nodup := List.nodup_cons.mpr ⟨hjO, hpw.imp (fun {x y} hxy z => by subst z; omega)⟩
        have hlen := nodup_le hnd (M := Q) (fun x hx => by
          rw [List.mem_cons] at hx
          rcases hx with hx | hx
          · rw [hx]; exact hjQ
          · exact ((hm x).mp hx).2)
        simp at hlen
        obtain ⟨O', μ', w1, w2, w3, w4, w5, w6⟩ := inner O.length j O μ (Nat.le_refl _) hjQ hjO (fun x hx => ((hm x).mp hx).2) hpw (by omega) hz h10 (fun d hd _ => ha d hd) (fun d hd hdk => by omega) (fun d hd hdk => by omega)
        rw [if_pos q, h10, w1]
        refine ih (j + 1) (by omega) O' μ' w2 w3 w4 w5 (fun x => (w6 x).trans ?_)
        rw [hm]
        constructor
        · rintro (z | z)
          · exact ⟨by omega, z.2⟩
          · subst z; exact ⟨by omega, hjQ⟩
        · rintro ⟨z1, z2⟩
          rcases (show x < j ∨ x = j by omega) with z | z
          · exact Or.inl ⟨z, z2⟩
          · exact Or.inr z
      · rw [if_neg q, nI_1]
        refine ih (j + 1) (by omega) O μ hz h10 ha hpw (fun x => (hm x).trans ⟨fun z => ⟨by omega, z.2⟩, fun z => ⟨?_, z.2⟩⟩)
        have : x ≠ j := fun y => q (by rw [← y]; exact ((q5 x).mp z.2).2)
        omega
  rw [eX10_laysQueue]
  exact outer n 0 (by omega) [] (gwI u 0 10 0) qz.rf.w0 (by rw [gI_r, if_pos ⟨rfl, rfl⟩]; rfl) (fun i hi => absurd hi (by simp)) List.Pairwise.nil (fun x => by simp)
end LAYS
