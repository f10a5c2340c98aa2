section THINK
variable {b u b' u' μ μ' ν : gMem} {n a r p t B k o : Nat} {Q : List Nat}
theorem gcI_s {s d : Nat} (h : s ≠ d) : gwI (gcI u s d k) d k ((gcI u s d k).1 s k) = gcI u s d (k + 1) := by
  refine Prod.ext (funext fun c => funext fun i => ?_) rfl
  have e : (gcI u s d k).1 s k = u.1 s k := by rw [gcI_r, if_neg (fun z => h z.1)]
  rw [gI_r, e, gcI_r, gcI_r]
  by_cases q : c = d ∧ i = k
  · rw [if_pos q, if_pos ⟨q.1, by omega⟩, q.2]
  · rw [if_neg q]
    by_cases q2 : c = d ∧ i < k
    · rw [if_pos q2, if_pos ⟨q2.1, by omega⟩]
    · rw [if_neg q2, if_neg (by omega)]
theorem gcL_s {s d : Nat} (h : s ≠ d) : gwL (gcL u s d k) d k ((gcL u s d k).2 s k) = gcL u s d (k + 1) := by
  refine Prod.ext rfl (funext fun c => funext fun i => ?_)
  have e : (gcL u s d k).2 s k = u.2 s k := by rw [gcL_r, if_neg (fun z => h z.1)]
  rw [gL_r, e, gcL_r, gcL_r]
  by_cases q : c = d ∧ i = k
  · rw [if_pos q, if_pos ⟨q.1, by omega⟩, q.2]
  · rw [if_neg q]
    by_cases q2 : c = d ∧ i < k
    · rw [if_pos q2, if_pos ⟨q2.1, by omega⟩]
    · rw [if_neg q2, if_neg (by omega)]
theorem gcI_0 {s d : Nat} : gcI u s d 0 = u := Prod.ext (funext fun c => funext fun i => by rw [gcI_r, if_neg (by omega)]) rfl
theorem gcL_0 {s d : Nat} : gcL u s d 0 = u := Prod.ext rfl (funext fun c => funext fun i => by rw [gcL_r, if_neg (by omega)])
theorem cpyI {ρ : Type} {s d N : Nat} (hsd : s ≠ d) (R : Int32 → gMem → ρ) (hs : ∀ k v, k < N → R (nI k) v = R (nI (k + 1)) (gwI v d k (v.1 s k))) (u : gMem) : R 0 u = R (nI N) (gcI u s d N) := by
  have key : ∀ m k, k + m = N → R (nI k) (gcI u s d k) = R (nI N) (gcI u s d N) := by
    intro m
    induction m with
    | zero => intro k hk; rw [show k = N by omega]
    | succ m ih => intro k hk; rw [hs k _ (by omega), gcI_s hsd]; exact ih (k + 1) (by omega)
  have := key N 0 (by omega)
  rw [gcI_0] at this
  exact this
theorem cpyL {ρ : Type} {s d N : Nat} (hsd : s ≠ d) (R : Int32 → gMem → ρ) (hs : ∀ k v, k < N → R (nI k) v = R (nI (k + 1)) (gwL v d k (v.2 s k))) (u : gMem) : R 0 u = R (nI N) (gcL u s d N) := by
  have key : ∀ m k, k + m = N → R (nI k) (gcL u s d k) = R (nI N) (gcL u s d N) := by
    intro m
    induction m with
    | zero => intro k hk; rw [show k = N by omega]
    | succ m ih => intro k hk; rw [hs k _ (by omega), gcL_s hsd]; exact ih (k + 1) (by omega)
  have := key N 0 (by omega)
  rw [gcL_0] at this
  exact this
theorem m_thinks (u : gMem) : mX10_thinks [.ref 0] u = some (none, gcL (gcI u 1 2 2030) 3 4 9) := by
  rw [eX10_thinks, cpyI (s := 1) (d := 2) (N := 2030) (by omega) rX10_thinks_2 (fun k v hk => by rw [eX10_thinks_2, if_neg (show ¬ (2030 : Int32) ≤ nI k from nI_ge (a := k) (b := 2030) hk (by omega)), gin hk (by omega), if_pos rfl, if_pos rfl, tn (by omega), nI_1]), eX10_thinks_2, if_pos (show (2030 : Int32) ≤ nI 2030 by decide), cpyL (s := 3) (d := 4) (N := 9) (by omega) rX10_thinks_29 (fun k v hk => by rw [eX10_thinks_29, if_neg (show ¬ (9 : Int32) ≤ nI k from nI_ge (a := k) (b := 9) hk (by omega)), gin hk (by omega), if_pos rfl, if_pos rfl, tn (by omega), nI_1]), eX10_thinks_29, if_pos (show (9 : Int32) ≤ nI 9 by decide)]
theorem m_forgets (u : gMem) : mX10_forgets [.ref 0] u = some (none, gcL (gcI u 2 1 2030) 4 3 9) := by
  rw [eX10_forgets, cpyI (s := 2) (d := 1) (N := 2030) (by omega) rX10_forgets_2 (fun k v hk => by rw [eX10_forgets_2, if_neg (show ¬ (2030 : Int32) ≤ nI k from nI_ge (a := k) (b := 2030) hk (by omega)), gin hk (by omega), if_pos rfl, if_pos rfl, tn (by omega), nI_1]), eX10_forgets_2, if_pos (show (2030 : Int32) ≤ nI 2030 by decide), cpyL (s := 4) (d := 3) (N := 9) (by omega) rX10_forgets_29 (fun k v hk => by rw [eX10_forgets_29, if_neg (show ¬ (9 : Int32) ≤ nI k from nI_ge (a := k) (b := 9) hk (by omega)), gin hk (by omega), if_pos rfl, if_pos rfl, tn (by omega), nI_1]), eX10_forgets_29, if_pos (show (9 : Int32) ≤ nI 9 by decide)]
theorem m_image1 (u : gMem) : rX10_image_25 1 0 u = some (some (.int 1), gcL (gcI u 1 15 2030) 3 16 9) := by
  rw [cpyI (s := 1) (d := 15) (N := 2030) (by omega) (rX10_image_25 1) (fun k v hk => by rw [eX10_image_25, if_neg (show ¬ (2030 : Int32) ≤ nI k from nI_ge (a := k) (b := 2030) hk (by omega)), if_neg (by decide), gin hk (by omega), if_pos rfl, if_pos rfl, tn (by omega), nI_1]), eX10_image_25, if_pos (show (2030 : Int32) ≤ nI 2030 by decide), cpyL (s := 3) (d := 16) (N := 9) (by omega) (rX10_image_71 1) (fun k v hk => by rw [eX10_image_71, if_neg (show ¬ (9 : Int32) ≤ nI k from nI_ge (a := k) (b := 9) hk (by omega)), if_neg (by decide), gin hk (by omega), if_pos rfl, if_pos rfl, tn (by omega), nI_1]), eX10_image_71, if_pos (show (9 : Int32) ≤ nI 9 by decide)]
theorem m_image0 (u : gMem) : rX10_image_25 0 0 u = some (some (.int 1), gcL (gcI u 15 1 2030) 16 3 9) := by
  rw [cpyI (s := 15) (d := 1) (N := 2030) (by omega) (rX10_image_25 0) (fun k v hk => by rw [eX10_image_25, if_neg (show ¬ (2030 : Int32) ≤ nI k from nI_ge (a := k) (b := 2030) hk (by omega)), if_pos rfl, gin hk (by omega), if_pos rfl, if_pos rfl, tn (by omega), nI_1]), eX10_image_25, if_pos (show (2030 : Int32) ≤ nI 2030 by decide), cpyL (s := 16) (d := 3) (N := 9) (by omega) (rX10_image_71 0) (fun k v hk => by rw [eX10_image_71, if_neg (show ¬ (9 : Int32) ≤ nI k from nI_ge (a := k) (b := 9) hk (by omega)), if_pos rfl, gin hk (by omega), if_pos rfl, if_pos rfl, tn (by omega), nI_1]), eX10_image_71, if_pos (show (9 : Int32) ≤ nI 9 by decide)]
theorem cyB.rf : cyB b b := ⟨fun _ _ _ => rfl, fun _ _ => rfl⟩
theorem cpi_lt {c i : Nat} (h : cpi c i) : c < 53 := by rcases h with h | h | h | h | h | h | h | h | h | h | h | h | h | h <;> omega
theorem IMr.fr2 {T Bd T' Bd' : Nat} (h : IMr T Bd μ u) (hT : T ≤ T') (hB : Bd ≤ Bd') (hc : cfr μ μ') (h15 : ∀ i, u'.1 15 i = u.1 15 i) (h27 : u'.1 0 27 = u.1 0 27) (h16 : ∀ i, u'.2 16 i = u.2 16 i) : IMr T' Bd' μ' u' := by
  obtain ⟨h1, h2⟩ := h
  have e4 : μ'.1 177 4 = μ.1 177 4 := (hc 177 4 (by omega)).1
  have ei : imU u' = imU u := by
    unfold imU
    refine Prod.ext (funext fun c => funext fun i => ?_) (funext fun c => funext fun i => ?_)
    · show (if c = 1 then u'.1 15 i else 0) = (if c = 1 then u.1 15 i else 0)
      rw [h15 i]
    · show (if c = 3 then u'.2 16 i else 0) = (if c = 3 then u.2 16 i else 0)
      rw [h16 i]
  refine ⟨by rw [e4, h27]; exact h1, ?_⟩
  rw [e4]
  rcases h2 with h2 | ⟨h2, n, a, r, p, t, Q, B, h3, h4, h5⟩
  · exact Or.inl h2
  · refine Or.inr ⟨h2, n, a, r, p, t, Q, B, ?_, by omega, by omega⟩
    rw [ei]
    exact BR_cg h3 (fun c i hc' => (hc (59 + c) i (by omega)).1) (fun i => (hc 89 i (by omega)).2)
theorem ok_image (a0 : Int32) (ha : a0 = 0 ∨ a0 = 1) : okc mX9_image mX10_image [.int a0] := by
  intro k μ u hk hR
  obtain ⟨⟨n, a, r, p, t, Q, B, h, ht, hB⟩, hI⟩ := hR
  rcases ha with rfl | rfl
  · obtain ⟨i1, i2⟩ := hI
    rcases i2 with i2 | ⟨i2, n2, a2, r2, p2, t2, Q2, B2, g1, g2, g3⟩
    · refine ⟨0, μ, gwI u 0 0 0, ?_, ?_, ?_⟩
      · rw [eX9_image, if_pos rfl, if_pos i2, i2, g01_0, if_pos rfl]
      · rw [eX10_image, if_pos rfl, if_pos (show (gwI u 0 0 0).1 0 27 = 0 from by rw [gI_r, if_neg (by omega), ← i1]; exact i2)]
      · exact Rl.mk ⟨i1, Or.inl i2⟩ (told0 h).1 (by omega) (by omega) cfr.rf (told0 h).2
    · obtain ⟨μ', c1, c2⟩ := copy_0 μ
      have e177 : μ'.1 177 4 = μ.1 177 4 := (c2.1 177 4 (by omega)).1
      refine ⟨1, μ', gcL (gcI (gwI (gwI u 0 0 0) 0 27 1) 15 1 2030) 16 3 9, ?_, ?_, ⟨n2, a2, r2, p2, t2, Q2, B2, ?_, by omega, by omega⟩, ?_⟩
      · rw [eX9_image, if_pos rfl, if_neg (by rw [i2]; decide), c1, g_cv_some, e177, i2, g01_1, if_pos rfl]
      · rw [eX10_image, if_pos rfl, if_neg (show ¬ (gwI u 0 0 0).1 0 27 = 0 from by rw [gI_r, if_neg (by omega), ← i1, i2]; decide), m_image0]
      · refine BR_cp g1 ⟨fun c i hc => ?_, fun i hi => ?_⟩ ⟨fun i hi => ?_, fun s hs => ?_⟩
        · have := c2.2.1 c i (by have := cpi_lt hc; omega) hc
          rw [Nat.zero_add] at this
          exact this
        · exact c2.2.2 trivial i hi
        · rw [gcL_i, gcI_r, if_pos ⟨rfl, hi⟩]; rfl
        · rw [gcL_r, if_pos ⟨rfl, by omega⟩]; rfl
      · have hI : IMr (100 * k) (100000 * k) μ u := ⟨i1, Or.inr ⟨i2, n2, a2, r2, p2, t2, Q2, B2, g1, g2, g3⟩⟩
        refine hI.fr2 (by omega) (by omega) (fun c i hc => c2.1 c i (by omega)) (fun i => ?_) ?_ (fun i => ?_)
        · rw [gcL_i, gcI_r, if_neg (by omega), gI_r, if_neg (by omega), gI_r, if_neg (by omega)]
        · rw [gcL_i, gcI_r, if_neg (by omega), gI_r, if_pos ⟨rfl, rfl⟩, ← i1, i2]
        · rw [gcL_r, if_neg (by omega)]; rfl
  · obtain ⟨μ', c1, c2⟩ := copy_59 μ
    refine ⟨1, gwI μ' 177 4 1, gcL (gcI (gwI (gwI u 0 0 0) 0 27 1) 1 15 2030) 3 16 9, ?_, ?_, ⟨n, a, r, p, t, Q, B, ?_, by omega, by omega⟩, ?_, Or.inr ⟨?_, n, a, r, p, t, Q, B, ?_, by omega, by omega⟩⟩
    · rw [eX9_image, if_neg (by decide), c1, g_cv_some]
    · rw [eX10_image, if_neg (by decide), m_image1]
    · refine BR_cp h ⟨fun c i hc => ?_, fun i hi => ?_⟩ ⟨fun i hi => ?_, fun s hs => ?_⟩
      · rw [gI_r, if_neg (by have := cpi_lt hc; omega)]; exact (c2.1 c i (by have := cpi_lt hc; omega)).1
      · exact (c2.1 30 i (by omega)).2
      · rw [gcL_i, gcI_r, if_neg (by omega), gI_r, if_neg (by omega), gI_r, if_neg (by omega)]
      · rw [gcL_r, if_neg (by omega)]; rfl
    · rw [gI_r, if_pos ⟨rfl, rfl⟩, gcL_i, gcI_r, if_neg (by omega), gI_r, if_pos ⟨rfl, rfl⟩]
    · rw [gI_r, if_pos ⟨rfl, rfl⟩]
    · refine BR_cp h ⟨fun c i hc => ?_, fun i hi => ?_⟩ ⟨fun i hi => ?_, fun s hs => ?_⟩
      · show (gwI μ' 177 4 1).1 (59 + c) i = _
        rw [gI_r, if_neg (by have := cpi_lt hc; omega)]
        have := c2.2.1 c i (by have := cpi_lt hc; omega) hc
        rw [Nat.zero_add] at this
        exact this
      · exact c2.2.2 trivial i hi
      · show (gcL (gcI (gwI (gwI u 0 0 0) 0 27 1) 1 15 2030) 3 16 9).1 15 i = _
        rw [gcL_i, gcI_r, if_pos ⟨rfl, hi⟩, gI_r, if_neg (by omega), gI_r, if_neg (by omega)]
      · show (gcL (gcI (gwI (gwI u 0 0 0) 0 27 1) 1 15 2030) 3 16 9).2 16 s = _
        rw [gcL_r, if_pos ⟨rfl, by omega⟩]; rfl
end THINK
