section COPY2
variable {b u b' u' μ μ' ν : gMem} {n a r p t B k : Nat} {Q : List Nat}
def cyB (b b' : gMem) : Prop := (∀ c i, cpi c i → b'.1 c i = b.1 c i) ∧ ∀ i, i < 8 → b'.2 30 i = b.2 30 i
def cyU (u u' : gMem) : Prop := (∀ i, i < 2030 → u'.1 1 i = u.1 1 i) ∧ ∀ s, s < 8 → u'.2 3 s = u.2 3 s
theorem BR_cp (h : BR b u n a r p t Q B) (hb : cyB b b') (hu : cyU u u') : BR b' u' n a r p t Q B := by
  obtain ⟨⟨⟨e1, e2, e3, e4, e5⟩, ej, er, et, el, ev⟩, hA, hT, hJ, hP, hS, hS0, hU, hR, hD, hQ, hB⟩ := h
  have hn := hA.n60
  have hna := hA.2.2.2.1
  have hr := hA.2.2.2.2.1
  have u1 := hu.1
  have f0 : b'.1 0 12 = b.1 0 12 := hb.1 _ _ (Or.inl ⟨rfl, Or.inl rfl⟩)
  have f01 : b'.1 0 13 = b.1 0 13 := hb.1 _ _ (Or.inl ⟨rfl, Or.inr rfl⟩)
  have f1 : ∀ i, i < 10 → b'.1 1 i = b.1 1 i := fun i hi => hb.1 _ _ (by unfold cpi; omega)
  have f2 : ∀ i, i < 11 → b'.1 2 i = b.1 2 i := fun i hi => hb.1 _ _ (by unfold cpi; omega)
  have f3 : b'.1 3 2 = b.1 3 2 := hb.1 _ _ (by unfold cpi; omega)
  have f31 : b'.1 3 3 = b.1 3 3 := hb.1 _ _ (by unfold cpi; omega)
  have f5 : ∀ c i, 5 ≤ c ∧ c ≤ 24 ∧ i < 60 → b'.1 c i = b.1 c i := fun c i hi => hb.1 _ _ (by unfold cpi; exact Or.inr (Or.inr (Or.inr (Or.inr (Or.inl hi)))))
  have f26 : ∀ i, i < 6 → b'.1 26 i = b.1 26 i := fun i hi => hb.1 _ _ (by unfold cpi; omega)
  have f27 : ∀ i, i < 6 → b'.1 27 i = b.1 27 i := fun i hi => hb.1 _ _ (by unfold cpi; omega)
  have f29 : b'.1 29 3 = b.1 29 3 := hb.1 _ _ (by unfold cpi; omega)
  have f36 : ∀ i, i < 8 → b'.1 31 i = b.1 31 i := fun i hi => hb.1 _ _ (by unfold cpi; omega)
  have f32 : ∀ i, i < 8 → b'.1 32 i = b.1 32 i := fun i hi => hb.1 _ _ (by unfold cpi; omega)
  have f33 : b'.1 33 1 = b.1 33 1 := hb.1 _ _ (by unfold cpi; omega)
  have f35 : ∀ c i, 35 ≤ c ∧ c ≤ 38 ∧ i < 60 → b'.1 c i = b.1 c i := fun c i hi => hb.1 _ _ (by unfold cpi; exact Or.inr (Or.inr (Or.inr (Or.inr (Or.inr (Or.inr (Or.inr (Or.inr (Or.inr (Or.inl hi))))))))))
  have f39 : b'.1 39 1 = b.1 39 1 := hb.1 _ _ (by unfold cpi; omega)
  have f41 : ∀ c i, 41 ≤ c ∧ c ≤ 45 ∧ i < 60 → b'.1 c i = b.1 c i := fun c i hi => hb.1 _ _ (by unfold cpi; exact Or.inr (Or.inr (Or.inr (Or.inr (Or.inr (Or.inr (Or.inr (Or.inr (Or.inr (Or.inr (Or.inr (Or.inl hi))))))))))))
  have f46 : b'.1 46 1 = b.1 46 1 := hb.1 _ _ (by unfold cpi; omega)
  have f48 : ∀ c i, 48 ≤ c ∧ c ≤ 51 ∧ i < 60 → b'.1 c i = b.1 c i := fun c i hi => hb.1 _ _ (by unfold cpi; exact Or.inr (Or.inr (Or.inr (Or.inr (Or.inr (Or.inr (Or.inr (Or.inr (Or.inr (Or.inr (Or.inr (Or.inr (Or.inr hi)))))))))))))
  have hbl : ∀ j, j < 60 → bl b' j = bl b j := fun j hj => by unfold bl jn; rw [f5 13 j (by omega), f5 14 j (by omega)]
  refine ⟨⟨⟨?_, ?_, ?_, ?_, ?_⟩, ?_, ?_, ?_, ?_, ?_⟩, ?_, ?_, ?_, ?_, ?_, ?_, ?_, ?_, ?_, ?_, ?_⟩
  · simp (disch := omega) only [u1, f1]; exact e1
  · simp (disch := omega) only [u1, f0, f3, f33, f29, f01, f39, f46]; exact e2
  · intro k hk; rw [u1 _ (by omega), f2 k hk]; exact e3 k hk
  · intro k hk; rw [u1 _ (by omega), f26 k hk]; exact e4 k hk
  · intro k hk; rw [u1 _ (by omega), f27 k hk]; exact e5 k hk
  · intro j hj; have := ej j hj; unfold EJ1 mA at *; simp (disch := omega) only [u1, f5]; exact this
  · intro j hj; have := er j hj; unfold mR at *; simp (disch := omega) only [u1, f35]; exact this
  · intro s hs; have := et s hs; unfold mT at *; rw [u1 _ (by omega), f36 s (by omega), hu.2 s (by omega), hb.2 s (by omega)]; exact this
  · intro k hk; have := el k hk; unfold mL at *; simp (disch := omega) only [u1, f41]; exact this
  · intro k hk; have := ev k hk; unfold mV at *; simp (disch := omega) only [u1, f48]; exact this
  · unfold IA at *; rw [f3, f33, f29, f1 0 (by omega)]; exact hA
  · unfold IT jn at *; simp (disch := omega) only [f1]; exact hT
  · intro j hj; have := hJ j hj; unfold IJ1 jn at *; simp (disch := omega) only [f5]; exact this
  · refine ⟨fun j hj => ?_, fun i j hi hj h1 h2 h3 => ?_⟩
    · have := hP.1 j hj; unfold IP1 at *; unfold jn at *; rw [hbl j (by omega), f01]; simp (disch := omega) only [f5]; exact this
    · rw [hbl i (by omega), hbl j (by omega)]
      rw [f5 9 i (by omega)] at h2
      rw [f5 12 i (by omega), f5 12 j (by omega)] at h3
      exact hP.2 i j hi hj h1 h2 h3
  · intro s hs
    rw [f32 s (by omega), hS s hs]
    exact orF_congr fun j hj => by unfold sb; rw [f5 12 j (by omega), hbl j (by omega)]
  · refine ⟨fun s hs => by rw [f32 s (by omega)]; exact hS0.1 s hs, fun j hj h2 => ?_⟩
    rw [f5 9 j (by omega)] at h2
    rw [f5 10 j (by omega)]
    exact hS0.2 j hj h2
  · unfold IU jn at *
    refine ⟨fun v hv => ?_, fun v hv => ?_, ?_⟩
    · rw [f26 v hv]; exact hU.1 v hv
    · rw [f27 v hv]; exact hU.2.1 v hv
    · simp (disch := omega) only [f27]; exact hU.2.2
  · intro i hi; have := hR i hi; unfold jn at *; simp (disch := omega) only [f35]; exact this
  · intro c hc h2; rw [f01] at h2; exact hD c hc h2
  · obtain ⟨q1, q2, q3, q4, q5, ⟨cm, c1, c2, c3⟩, q7⟩ := hQ
    have hq60 : ∀ j, j ∈ Q → j < 60 := fun j hj => by have := ((q5 j).mp hj).1; omega
    have hmA : ∀ j, j ∈ Q → mA u' j 19 = mA u j 19 := fun j hj => by have := hq60 j hj; unfold mA; exact u1 _ (by omega)
    have hjn : ∀ j, j ∈ Q → jn u' 1 (42 + 20 * j + 19) = jn u 1 (42 + 20 * j + 19) := fun j hj => by have := hq60 j hj; unfold jn; rw [u1 _ (by omega)]
    refine ⟨by rw [f31]; exact q1, q2, fun i hi => by rw [f5 24 i (by omega)]; exact q3 i hi, q4, fun j => ?_, ⟨cm, by rw [u1 _ (by omega)]; exact c1, c2, fun j hj => by rw [hmA j hj, hjn j hj]; exact c3 j hj⟩, ?_⟩
    · rw [q5 j]
      constructor
      · rintro ⟨z1, z2⟩; exact ⟨z1, by rw [f5 9 j (by omega)]; exact z2⟩
      · rintro ⟨z1, z2⟩; exact ⟨z1, by rw [f5 9 j (by omega)] at z2; exact z2⟩
    · refine List.Pairwise.imp_of_mem (fun {x y} hx hy z => ?_) q7
      rw [hjn x hx, hjn y hy]; exact z
  · unfold IB at *; rw [f0, f39, f46]; exact hB
end COPY2
