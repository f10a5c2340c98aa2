section UNIFY
variable {b u b' u' : gMem} {n a r p t B : Nat} {Q : List Nat}
theorem unite_rel {x y : Nat} (h : BW b u n a r p t Q B) (hxy : x < y) (hy : y < r) (hz : b.1 32 x &&& b.1 32 y = 0) (hb : unB b b' n r x y) (hu : unU u u' n r x y) : BW b' u' n a (r - 1) p t Q B := by
  have hn := h.A.n60
  have hr := h.A.2.2.2.2.1
  obtain ⟨d1, d2, d3, d4, d5, d6⟩ := hb
  obtain ⟨v1, v2, v3, v4, v5, v6, v7, v8⟩ := hu
  have h13 : ∀ i, b'.1 13 i = b.1 13 i := fun i => d1 13 i (by decide)
  have hup : ∀ z, z < r - 1 → up y z < r := fun z hx => by unfold up; split <;> omega
  have hc12 : ∀ i, i < n → b.1 9 i = 2 → b'.1 12 i = nI (if jn b 12 i = y then x else if jn b 12 i < y then jn b 12 i else jn b 12 i - 1) := fun i hi h2 => by
    obtain ⟨y1, y2⟩ := (ip_yes (h.P.1 i hi) h2).1
    rw [d6 i hi, y1]
    by_cases q : jn b 12 i = y
    · rw [if_pos (congrArg nI q), if_neg (fun z => z (nI_le (by omega) (by omega))), if_pos q]
    · rw [if_neg (c := nI (jn b 12 i) = nI y) (by rw [neq (by omega) (by omega)]; exact q), if_neg (c := jn b 12 i = y) q]
      by_cases z : jn b 12 i < y
      · rw [if_neg (fun w => w (nI_le (by omega) (by omega))), if_pos z]
      · rw [if_pos (nI_ge (by omega) (by omega)), if_neg z, nI_s1 (by omega)]
  refine slots_rel (σ := fun i => if jn b 12 i = y then x else if jn b 12 i < y then jn b 12 i else jn b 12 i - 1) (κ := fun i => jn b 13 i) h (by omega) (fun c i hc => d1 c i (by simp at hc ⊢; omega)) ?_ ?_ ?_ ?_ ?_ d2 v3 v2 ?_ ?_ ?_ ?_
  · intro i hi h2
    refine ⟨hc12 i hi h2, ?_⟩
    have := (ip_yes (h.P.1 i hi) h2).1.2
    show (if jn b 12 i = y then x else if jn b 12 i < y then jn b 12 i else jn b 12 i - 1) < r - 1
    split
    · omega
    · split <;> omega
  · intro i hi h2
    obtain ⟨-, y3, y4, y5, y6⟩ := ip_yes (h.P.1 i hi) h2
    exact ⟨(h13 i).trans y3, y4, y5, y6⟩
  · intro i hi h2
    refine ⟨?_, h13 i⟩
    have e := (ip_no (h.P.1 i hi) h2).1
    rw [d6 i hi, e, if_neg (c := (-1 : Int32) = nI y) (fun z => nm1 (show y < 2147483648 by omega) z.symm), if_neg (fun w => w (m1_le (by omega)))]
  · intro i j hi hj hij h2 h2' hσ
    have e1 := (ip_yes (h.P.1 i hi) h2).1
    have e2 := (ip_yes (h.P.1 j hj) h2').1
    have hσ' : (if jn b 12 i = y then x else if jn b 12 i < y then jn b 12 i else jn b 12 i - 1) = (if jn b 12 j = y then x else if jn b 12 j < y then jn b 12 j else jn b 12 j - 1) := hσ
    have hsub : ∀ k s, k < n → s < r → b.1 12 k = nI s → ∀ d, d < 32 → bt (bl b k) d = true → bt (b.1 32 s) d = true := fun k s hk hs h12 d hd hb => by
      rw [h.S s hs]
      exact (orF_bt _ d n).mpr ⟨k, hk, by unfold sb; rw [if_pos h12]; exact hb⟩
    have cross : ∀ i j, i < n → j < n → b.1 12 i = nI x → b.1 12 j = nI y → bl b i &&& bl b j = 0 := fun i j hi hj h1 h2 => by
      rw [b_z]
      intro d hd
      rw [b_and]
      cases q1 : bt (bl b i) d with
      | false => rfl
      | true =>
        cases q2 : bt (bl b j) d with
        | false => rfl
        | true =>
          have := b_z.mp hz d hd
          rw [b_and, hsub i x hi (by omega) h1 d hd q1, hsub j y hj (by omega) h2 d hd q2] at this
          exact absurd this (by decide)
    by_cases same : jn b 12 i = jn b 12 j
    · exact h.P.2 i j hi hj hij h2 (by rw [e1.1, e2.1, same])
    · by_cases q1 : jn b 12 i = y
      · have hj12 : jn b 12 j = x := by
          rw [if_pos q1, if_neg (fun z => same (by omega))] at hσ'
          split at hσ' <;> omega
        show bl b i &&& bl b j = 0
        rw [and_cm]
        exact cross j i hj hi (by rw [e2.1, hj12]) (by rw [e1.1, q1])
      · by_cases q2 : jn b 12 j = y
        · have hi12 : jn b 12 i = x := by
            rw [if_neg q1, if_pos q2] at hσ'
            split at hσ' <;> omega
          exact cross i j hi hj (by rw [e1.1, hi12]) (by rw [e2.1, q2])
        · rw [if_neg q1, if_neg q2] at hσ'
          exfalso
          split at hσ' <;> split at hσ' <;> omega
  · intro z hzr
    have hu := hup z hzr
    rw [d3 z hzr]
    have hplc : ∀ i, i < n → ∀ s, s < 2147483648 → b.1 12 i = nI s → b.1 9 i = 2 := fun i hi s hs h12 => ip_slot (h.P.1 i hi) hs h12
    by_cases w : z = x
    · rw [if_pos w, h.S x (by omega), h.S y hy, orF_or]
      refine orF_congr (fun i hi => ?_)
      show sb b x i ||| sb b y i = _
      unfold sb
      by_cases q : b.1 9 i = 2
      · obtain ⟨y1, y2⟩ := (ip_yes (h.P.1 i hi) q).1
        by_cases qx : b.1 12 i = nI x
        · have ex : jn b 12 i = x := by rw [y1, neq (by omega) (by omega)] at qx; exact qx
          rw [if_pos qx, if_neg (fun s => by rw [qx, neq (by omega) (by omega)] at s; omega), or_zero, if_pos ⟨q, by rw [w, if_neg (by omega), if_pos (by omega)]; exact ex⟩]; rfl
        · by_cases qy : b.1 12 i = nI y
          · have ey : jn b 12 i = y := by rw [y1, neq (by omega) (by omega)] at qy; exact qy
            rw [if_neg qx, if_pos qy, or0, if_pos ⟨q, by rw [w, if_pos ey]⟩]; rfl
          · have nx : jn b 12 i ≠ x := fun s => qx (by rw [y1, s])
            have ny : jn b 12 i ≠ y := fun s => qy (by rw [y1, s])
            rw [if_neg qx, if_neg qy, if_neg (fun s => by
              have := s.2
              rw [w, if_neg ny] at this
              split at this <;> omega)]
            exact or0 0
      · rw [if_neg (fun s => q (hplc i hi x (by omega) s)), if_neg (fun s => q (hplc i hi y (by omega) s)), if_neg (fun s => q s.1)]
        exact or0 0
    · rw [if_neg w, h.S _ hu]
      refine orF_congr (fun i hi => ?_)
      unfold sb
      by_cases q : b.1 9 i = 2
      · obtain ⟨y1, y2⟩ := (ip_yes (h.P.1 i hi) q).1
        have hiff : b.1 12 i = nI (up y z) ↔ (if jn b 12 i = y then x else if jn b 12 i < y then jn b 12 i else jn b 12 i - 1) = z := by
          rw [y1, neq (by omega) (by omega)]
          unfold up
          split <;> split <;> (try split) <;> omega
        by_cases v : b.1 12 i = nI (up y z)
        · rw [if_pos v, if_pos ⟨q, hiff.mp v⟩]; rfl
        · rw [if_neg v, if_neg (fun s => v (hiff.mpr s.2))]
      · rw [if_neg (fun s => q (hplc i hi _ (by omega) s)), if_neg (fun s => q s.1)]
  · intro i w hi hw h7 h8
    exact v7 i w hi hw h7
  · intro i hi
    have e4 := (h.e.j hi).f4
    have e7 := (h.e.j hi).f7
    rw [v8 i hi, e4, e7, i_sn, d6 i hi]
    have hle : nI x ≤ nI y := nI_le (by omega) (by omega)
    by_cases z : b.1 9 i = 2
    · by_cases w : b.1 12 i = nI y
      · simp only [z, w, and_self, if_true, hle, not_true, and_false, if_false]
      · by_cases v : b.1 12 i ≤ nI y
        · simp only [z, w, and_false, if_false, v, not_true]
        · simp only [z, w, and_false, if_false, v, not_false_eq_true, and_self, if_true, i_ns]
    · have e := (ip_no (h.P.1 i hi) z).1
      have hm : ¬ (-1 : Int32) = nI y := fun s => nm1 (show y < 2147483648 by omega) s.symm
      have hm2 : (-1 : Int32) ≤ nI y := m1_le (by omega)
      simp only [z, false_and, if_false, e, hm, hm2, not_true]
  · intro i hi
    rw [v7 i 8 (by omega) (by omega) (by omega), h13]; exact (h.e.j hi).f8
  · intro z hzr
    have hT := h.e.2.2.2.1
    rw [v4 z hzr, v5 z hzr, d4 z hzr, d5 z hzr]
    by_cases w : z = x
    · rw [if_pos w, if_pos w, if_pos w, if_pos w, (hT x (by omega)).1, (hT x (by omega)).2, (hT y hy).1, (hT y hy).2]; exact ⟨rfl, rfl⟩
    · rw [if_neg w, if_neg w, if_neg w, if_neg w]; exact hT _ (hup z hzr)
theorem lgU_eq {X i : Nat} {wh j s c : Int32} (h10 : u'.1 1 10 = u.1 1 10) (hi : u'.1 1 i = u.1 1 i) : (lgU u' X wh j s c).1 1 i = (lgU u X wh j s c).1 1 i := by
  unfold lgU wH wL
  simp only [gI_r, h10, hi]
theorem unU_lg {X x y : Nat} {wh j s c : Int32} (h : unU u u' n r x y) (hn : n ≤ 60) (hr : r ≤ 8) (hxy : x < y) (hy : y < r) : unU (lgU u X wh j s c) (lgU u' X wh j s c) n r x y := by
  obtain ⟨v1, v2, v3, v4, v5, v6, v7, v8⟩ := h
  have h10 : u'.1 1 10 = u.1 1 10 := v2 10 (by omega) (by omega) (by omega)
  have hA : ∀ (u : gMem) i w, i < 60 → w < 20 → mA (lgU u X wh j s c) i w = mA u i w := fun u i w hi hw => lg_at (by omega) (by omega)
  have hT : ∀ (u : gMem) z, z < 8 → mT (lgU u X wh j s c) z = mT u z := fun u z hz => lg_at (by omega) (by omega)
  have hup : ∀ z, z < r - 1 → up y z < 8 := fun z hx => by unfold up; split <;> omega
  refine ⟨fun c i hc => ?_, fun i h1 h2 h3 => lgU_eq h10 (v2 i h1 h2 h3), ?_, fun z hz => ?_, v5, v6, fun i w hi hw h7 => ?_, fun i hi => ?_⟩
  · rw [lg_c hc, lg_c hc]; exact v1 c i hc
  · rw [lg_at (by omega) (by omega)]; exact v3
  · rw [hT u' z (by omega), hT u _ (hup z hz), v4 z hz]
    by_cases w : z = x
    · rw [if_pos w, if_pos w, hT u x (by omega), hT u y (by omega)]
    · rw [if_neg w, if_neg w]
  · rw [hA u' i w hi hw, hA u i w hi hw]; exact v7 i w hi hw h7
  · rw [hA u' i 7 (by omega) (by omega), hA u i 4 (by omega) (by omega), hA u i 7 (by omega) (by omega)]; exact v8 i hi
end UNIFY
