/-! copies of a board -/
section COPY
variable {X Y c0 len i0 : Nat} {S : Nat → Nat → Prop} {T : Prop} {m0 m : gMem}
/-- m is m0, but places S (and T: the passes) of the board at X are those of the board at Y -/
def CF (X Y : Nat) (S : Nat → Nat → Prop) (T : Prop) (m0 m : gMem) : Prop := (∀ c i, ¬ (X ≤ c ∧ c < X + 59) → m.1 c i = m0.1 c i ∧ m.2 c i = m0.2 c i) ∧ (∀ c i, c < 59 → S c i → m.1 (X + c) i = m0.1 (Y + c) i) ∧ (T → ∀ i, i < 8 → m.2 (X + 30) i = m0.2 (Y + 30) i)
theorem CF.rf : CF X Y (fun _ _ => False) False m0 m0 := ⟨fun _ _ _ => ⟨rfl, rfl⟩, fun _ _ _ z => z.elim, fun z => z.elim⟩
theorem CF.cI (h : CF X Y S T m0 m) (hxy : X + 59 ≤ Y ∨ Y + 59 ≤ X) (h0 : c0 < 59) : CF X Y (fun c i => S c i ∨ (c = c0 ∧ i < len)) T m0 (gcI m (Y + c0) (X + c0) len) := by
  refine ⟨fun c i hc => ⟨?_, (h.1 c i hc).2⟩, fun c i hc hs => ?_, h.2.2⟩
  · rw [gcI_r, if_neg (by omega)]; exact (h.1 c i hc).1
  · rw [gcI_r]
    by_cases q : c = c0 ∧ i < len
    · rw [if_pos ⟨by omega, q.2⟩, (h.1 (Y + c0) i (by omega)).1, q.1]
    · rw [if_neg (by omega)]
      rcases hs with hs | hs
      · exact h.2.1 c i hc hs
      · exact absurd hs q
theorem CF.w (h : CF X Y S T m0 m) (hxy : X + 59 ≤ Y ∨ Y + 59 ≤ X) (h0 : c0 < 59) : CF X Y (fun c i => S c i ∨ (c = c0 ∧ i = i0)) T m0 (gwI m (X + c0) i0 (m.1 (Y + c0) i0)) := by
  refine ⟨fun c i hc => ⟨?_, (h.1 c i hc).2⟩, fun c i hc hs => ?_, h.2.2⟩
  · rw [gI_r, if_neg (by omega)]; exact (h.1 c i hc).1
  · rw [gI_r]
    by_cases q : c = c0 ∧ i = i0
    · rw [if_pos ⟨by omega, q.2⟩, (h.1 (Y + c0) i0 (by omega)).1, q.1, q.2]
    · rw [if_neg (by omega)]
      rcases hs with hs | hs
      · exact h.2.1 c i hc hs
      · exact absurd hs q
theorem CF.cL (h : CF X Y S T m0 m) (hxy : X + 59 ≤ Y ∨ Y + 59 ≤ X) : CF X Y S True m0 (gcL m (Y + 30) (X + 30) 8) := by
  refine ⟨fun c i hc => ⟨(h.1 c i hc).1, ?_⟩, h.2.1, fun _ i hi => ?_⟩
  · rw [gcL_r, if_neg (by omega)]; exact (h.1 c i hc).2
  · rw [gcL_r, if_pos ⟨rfl, hi⟩]; exact (h.1 (Y + 30) i (by omega)).2
theorem CF.s {S' : Nat → Nat → Prop} (h : CF X Y S T m0 m) (hs : ∀ c i, S' c i → S c i) : CF X Y S' T m0 m := ⟨h.1, fun c i hc z => h.2.1 c i hc (hs c i z), h.2.2⟩
/-- the places of a board that count -/
def cpi (c i : Nat) : Prop := (c = 0 ∧ (i = 12 ∨ i = 13)) ∨ (c = 1 ∧ i < 10) ∨ (c = 2 ∧ i < 11) ∨ (c = 3 ∧ (i = 2 ∨ i = 3)) ∨ (5 ≤ c ∧ c ≤ 24 ∧ i < 60) ∨ ((c = 26 ∨ c = 27) ∧ i < 6) ∨ (c = 29 ∧ i = 3) ∨ ((c = 31 ∨ c = 32) ∧ i < 8) ∨ (c = 33 ∧ i = 1) ∨ (35 ≤ c ∧ c ≤ 38 ∧ i < 60) ∨ (c = 39 ∧ i = 1) ∨ (41 ≤ c ∧ c ≤ 45 ∧ i < 60) ∨ (c = 46 ∧ i = 1) ∨ (48 ≤ c ∧ c ≤ 51 ∧ i < 60)
theorem lX4_59 (S : Nat → Nat → Prop) : ∀ k j, j + k = 19 → ∀ m, CF 59 0 (fun c i => S c i ∨ (4 + 1 ≤ c ∧ c < 4 + 1 + j ∧ i < 60)) T m0 m → ∃ m', rX4_copyFrom_59_2 (nI j) m = rX4_copyFrom_59_2 (nI 19) m' ∧ CF 59 0 (fun c i => S c i ∨ (4 + 1 ≤ c ∧ c < 4 + 1 + 19 ∧ i < 60)) T m0 m' := by
  intro k
  induction k with
  | zero => intro j hj m h; obtain rfl : j = 19 := by omega
            exact ⟨m, rfl, h⟩
  | succ k ih =>
    intro j hj m h
    have l1 : ∀ w, w < 19 → gLen LC 0 (0 + 4 + 1 + w) = 60 := by decide
    have l2 : ∀ w, w < 19 → gLen LC 0 (59 + 4 + 1 + w) = 60 := by decide
    rw [eX4_copyFrom_59_2, if_neg (show ¬ (19 : Int32) ≤ nI j from nI_ge (a := j) (b := 19) (by omega) (by omega)), gin (show j < 19 by omega) (by omega), if_pos rfl, if_pos rfl, tn (by omega), show gLen LC 0 (4 + 1 + j) = 60 from l1 j (by omega), show gLen LC 0 (63 + 1 + j) = 60 from l2 j (by omega), if_pos (by decide), nI_1]
    have h2 := h.cI (c0 := 4 + 1 + j) (len := 60) (by omega) (by omega)
    rw [show 0 + (4 + 1 + j) = 4 + 1 + j by omega, show 59 + (4 + 1 + j) = 63 + 1 + j by omega] at h2
    exact ih (j + 1) (by omega) _ (h2.s (fun c i z => by
      rcases z with z | z
      · exact Or.inl (Or.inl z)
      · by_cases q : c = 4 + 1 + j
        · exact Or.inr ⟨q, z.2.2⟩
        · exact Or.inl (Or.inr ⟨z.1, by omega, z.2.2⟩)))
theorem lX0_59 (S : Nat → Nat → Prop) : ∀ k j, j + k = 4 → ∀ m, CF 59 0 (fun c i => S c i ∨ (34 + 1 ≤ c ∧ c < 34 + 1 + j ∧ i < 60)) T m0 m → ∃ m', rX0_copyFrom_59_2 (nI j) m = rX0_copyFrom_59_2 (nI 4) m' ∧ CF 59 0 (fun c i => S c i ∨ (34 + 1 ≤ c ∧ c < 34 + 1 + 4 ∧ i < 60)) T m0 m' := by
  intro k
  induction k with
  | zero => intro j hj m h; obtain rfl : j = 4 := by omega
            exact ⟨m, rfl, h⟩
  | succ k ih =>
    intro j hj m h
    have l1 : ∀ w, w < 4 → gLen LC 0 (0 + 34 + 1 + w) = 60 := by decide
    have l2 : ∀ w, w < 4 → gLen LC 0 (59 + 34 + 1 + w) = 60 := by decide
    rw [eX0_copyFrom_59_2, if_neg (show ¬ (4 : Int32) ≤ nI j from nI_ge (a := j) (b := 4) (by omega) (by omega)), gin (show j < 4 by omega) (by omega), if_pos rfl, if_pos rfl, tn (by omega), show gLen LC 0 (34 + 1 + j) = 60 from l1 j (by omega), show gLen LC 0 (93 + 1 + j) = 60 from l2 j (by omega), if_pos (by decide), nI_1]
    have h2 := h.cI (c0 := 34 + 1 + j) (len := 60) (by omega) (by omega)
    rw [show 0 + (34 + 1 + j) = 34 + 1 + j by omega, show 59 + (34 + 1 + j) = 93 + 1 + j by omega] at h2
    exact ih (j + 1) (by omega) _ (h2.s (fun c i z => by
      rcases z with z | z
      · exact Or.inl (Or.inl z)
      · by_cases q : c = 34 + 1 + j
        · exact Or.inr ⟨q, z.2.2⟩
        · exact Or.inl (Or.inr ⟨z.1, by omega, z.2.2⟩)))
theorem lX6_98 (S : Nat → Nat → Prop) : ∀ k j, j + k = 5 → ∀ m, CF 59 0 (fun c i => S c i ∨ (40 + 1 ≤ c ∧ c < 40 + 1 + j ∧ i < 60)) T m0 m → ∃ m', rX6_copyFrom_98_2 (nI j) m = rX6_copyFrom_98_2 (nI 5) m' ∧ CF 59 0 (fun c i => S c i ∨ (40 + 1 ≤ c ∧ c < 40 + 1 + 5 ∧ i < 60)) T m0 m' := by
  intro k
  induction k with
  | zero => intro j hj m h; obtain rfl : j = 5 := by omega
            exact ⟨m, rfl, h⟩
  | succ k ih =>
    intro j hj m h
    have l1 : ∀ w, w < 5 → gLen LC 0 (0 + 40 + 1 + w) = 60 := by decide
    have l2 : ∀ w, w < 5 → gLen LC 0 (59 + 40 + 1 + w) = 60 := by decide
    rw [eX6_copyFrom_98_2, if_neg (show ¬ (5 : Int32) ≤ nI j from nI_ge (a := j) (b := 5) (by omega) (by omega)), gin (show j < 5 by omega) (by omega), if_pos rfl, if_pos rfl, tn (by omega), show gLen LC 0 (40 + 1 + j) = 60 from l1 j (by omega), show gLen LC 0 (99 + 1 + j) = 60 from l2 j (by omega), if_pos (by decide), nI_1]
    have h2 := h.cI (c0 := 40 + 1 + j) (len := 60) (by omega) (by omega)
    rw [show 0 + (40 + 1 + j) = 40 + 1 + j by omega, show 59 + (40 + 1 + j) = 99 + 1 + j by omega] at h2
    exact ih (j + 1) (by omega) _ (h2.s (fun c i z => by
      rcases z with z | z
      · exact Or.inl (Or.inl z)
      · by_cases q : c = 40 + 1 + j
        · exact Or.inr ⟨q, z.2.2⟩
        · exact Or.inl (Or.inr ⟨z.1, by omega, z.2.2⟩)))
theorem lX6_105 (S : Nat → Nat → Prop) : ∀ k j, j + k = 5 → ∀ m, CF 59 0 (fun c i => S c i ∨ (47 + 1 ≤ c ∧ c < 47 + 1 + j ∧ i < 60)) T m0 m → ∃ m', rX6_copyFrom_105_2 (nI j) m = rX6_copyFrom_105_2 (nI 5) m' ∧ CF 59 0 (fun c i => S c i ∨ (47 + 1 ≤ c ∧ c < 47 + 1 + 5 ∧ i < 60)) T m0 m' := by
  intro k
  induction k with
  | zero => intro j hj m h; obtain rfl : j = 5 := by omega
            exact ⟨m, rfl, h⟩
  | succ k ih =>
    intro j hj m h
    have l1 : ∀ w, w < 5 → gLen LC 0 (0 + 47 + 1 + w) = 60 := by decide
    have l2 : ∀ w, w < 5 → gLen LC 0 (59 + 47 + 1 + w) = 60 := by decide
    rw [eX6_copyFrom_105_2, if_neg (show ¬ (5 : Int32) ≤ nI j from nI_ge (a := j) (b := 5) (by omega) (by omega)), gin (show j < 5 by omega) (by omega), if_pos rfl, if_pos rfl, tn (by omega), show gLen LC 0 (47 + 1 + j) = 60 from l1 j (by omega), show gLen LC 0 (106 + 1 + j) = 60 from l2 j (by omega), if_pos (by decide), nI_1]
    have h2 := h.cI (c0 := 47 + 1 + j) (len := 60) (by omega) (by omega)
    rw [show 0 + (47 + 1 + j) = 47 + 1 + j by omega, show 59 + (47 + 1 + j) = 106 + 1 + j by omega] at h2
    exact ih (j + 1) (by omega) _ (h2.s (fun c i z => by
      rcases z with z | z
      · exact Or.inl (Or.inl z)
      · by_cases q : c = 47 + 1 + j
        · exact Or.inr ⟨q, z.2.2⟩
        · exact Or.inl (Or.inr ⟨z.1, by omega, z.2.2⟩)))
theorem copy_59 (μ : gMem) : ∃ μ', mX2_copyFrom [.ref 59, .ref 0] μ = some (none, μ') ∧ CF 59 0 cpi True μ μ' := by
  have f1 : CF 59 0 _ False μ (gcI μ 1 60 10) := CF.cI (c0 := 1) (len := 10) CF.rf (by omega) (by omega)
  have f2 : CF 59 0 _ False μ (gcI (gcI μ 1 60 10) 2 61 11) := CF.cI (c0 := 2) (len := 11) f1 (by omega) (by omega)
  obtain ⟨m1, e1, g1⟩ := lX4_59 _ 19 0 (by omega) _ (f2.s (S' := fun c i => _ ∨ (4 + 1 ≤ c ∧ c < 4 + 1 + 0 ∧ i < 60)) (fun c i z => z.elim id (fun w => by omega)))
  have f3 : CF 59 0 _ False μ (gcI m1 24 83 60) := CF.cI (c0 := 24) (len := 60) g1 (by omega) (by omega)
  have f4 : CF 59 0 _ False μ (gwI (gcI m1 24 83 60) 62 2 ((gcI m1 24 83 60).1 3 2)) := CF.w (c0 := 3) (i0 := 2) f3 (by omega) (by omega)
  have f5 : CF 59 0 _ False μ (gwI (gwI (gcI m1 24 83 60) 62 2 ((gcI m1 24 83 60).1 3 2)) 62 3 ((gwI (gcI m1 24 83 60) 62 2 ((gcI m1 24 83 60).1 3 2)).1 3 3)) := CF.w (c0 := 3) (i0 := 3) f4 (by omega) (by omega)
  generalize hm2 : gwI (gwI (gcI m1 24 83 60) 62 2 ((gcI m1 24 83 60).1 3 2)) 62 3 ((gwI (gcI m1 24 83 60) 62 2 ((gcI m1 24 83 60).1 3 2)).1 3 3) = m2 at f5
  have f6 : CF 59 0 _ False μ (gcI m2 26 85 6) := CF.cI (c0 := 26) (len := 6) f5 (by omega) (by omega)
  have f7 : CF 59 0 _ False μ (gcI (gcI m2 26 85 6) 27 86 6) := CF.cI (c0 := 27) (len := 6) f6 (by omega) (by omega)
  generalize hm3 : gcI (gcI m2 26 85 6) 27 86 6 = m3 at f7
  have f8 : CF 59 0 _ True μ (gcL m3 30 89 8) := CF.cL f7 (by omega)
  have f9 : CF 59 0 _ True μ (gcI (gcL m3 30 89 8) 31 90 8) := CF.cI (c0 := 31) (len := 8) f8 (by omega) (by omega)
  have f10 : CF 59 0 _ True μ (gcI (gcI (gcL m3 30 89 8) 31 90 8) 32 91 8) := CF.cI (c0 := 32) (len := 8) f9 (by omega) (by omega)
  have f11 : CF 59 0 _ True μ (gwI (gcI (gcI (gcL m3 30 89 8) 31 90 8) 32 91 8) 88 3 ((gcI (gcI (gcL m3 30 89 8) 31 90 8) 32 91 8).1 29 3)) := CF.w (c0 := 29) (i0 := 3) f10 (by omega) (by omega)
  generalize hm4 : gwI (gcI (gcI (gcL m3 30 89 8) 31 90 8) 32 91 8) 88 3 ((gcI (gcI (gcL m3 30 89 8) 31 90 8) 32 91 8).1 29 3) = m4 at f11
  obtain ⟨m5, e5, g5⟩ := lX0_59 _ 4 0 (by omega) _ (f11.s (S' := fun c i => _ ∨ (34 + 1 ≤ c ∧ c < 34 + 1 + 0 ∧ i < 60)) (fun c i z => z.elim id (fun w => by omega)))
  have f12 : CF 59 0 _ True μ (gwI m5 92 1 (m5.1 33 1)) := CF.w (c0 := 33) (i0 := 1) g5 (by omega) (by omega)
  obtain ⟨m6, e6, g6⟩ := lX6_98 _ 5 0 (by omega) _ (f12.s (S' := fun c i => _ ∨ (40 + 1 ≤ c ∧ c < 40 + 1 + 0 ∧ i < 60)) (fun c i z => z.elim id (fun w => by omega)))
  have f13 : CF 59 0 _ True μ (gwI m6 98 1 (m6.1 39 1)) := CF.w (c0 := 39) (i0 := 1) g6 (by omega) (by omega)
  obtain ⟨m7, e7, g7⟩ := lX6_105 _ 5 0 (by omega) _ (f13.s (S' := fun c i => _ ∨ (47 + 1 ≤ c ∧ c < 47 + 1 + 0 ∧ i < 60)) (fun c i z => z.elim id (fun w => by omega)))
  have f14 : CF 59 0 _ True μ (gwI m7 105 1 (m7.1 46 1)) := CF.w (c0 := 46) (i0 := 1) g7 (by omega) (by omega)
  generalize hm8 : gwI m7 105 1 (m7.1 46 1) = m8 at f14
  have f15 : CF 59 0 _ True μ (gwI m8 59 12 (m8.1 0 12)) := CF.w (c0 := 0) (i0 := 12) f14 (by omega) (by omega)
  have f16 : CF 59 0 _ True μ (gwI (gwI m8 59 12 (m8.1 0 12)) 59 13 ((gwI m8 59 12 (m8.1 0 12)).1 0 13)) := CF.w (c0 := 0) (i0 := 13) f15 (by omega) (by omega)
  refine ⟨_, ?_, f16.s (fun c i z => ?_)⟩
  · have k1 : mX4_copyFrom [.ref 62, .ref 3] (gcI (gcI μ 1 60 10) 2 61 11) = some (none, m2) := by
      rw [eX4_copyFrom_59, show rX4_copyFrom_59_2 0 (gcI (gcI μ 1 60 10) 2 61 11) = _ from e1, eX4_copyFrom_59_2, if_pos (show (19 : Int32) ≤ nI 19 by decide), if_pos (by decide), hm2]
    have k2 : mX8_copyFrom [.ref 84, .ref 25] m2 = some (none, m3) := by
      rw [eX8_copyFrom_59, if_pos (by decide), if_pos (by decide), hm3]
    have k3 : mX7_copyFrom [.ref 88, .ref 29] m3 = some (none, m4) := by
      rw [eX7_copyFrom_59, if_pos (by decide), if_pos (by decide), if_pos (by decide), hm4]
    have k4 : mX0_copyFrom [.ref 92, .ref 33] m4 = some (none, gwI m5 92 1 (m5.1 33 1)) := by
      rw [eX0_copyFrom_59, show rX0_copyFrom_59_2 0 m4 = _ from e5, eX0_copyFrom_59_2, if_pos (show (4 : Int32) ≤ nI 4 by decide)]
    have k5 : mX6_copyFrom [.ref 98, .ref 39] (gwI m5 92 1 (m5.1 33 1)) = some (none, gwI m6 98 1 (m6.1 39 1)) := by
      rw [eX6_copyFrom_98, show rX6_copyFrom_98_2 0 (gwI m5 92 1 (m5.1 33 1)) = _ from e6, eX6_copyFrom_98_2, if_pos (show (5 : Int32) ≤ nI 5 by decide)]
    have k6 : mX6_copyFrom [.ref 105, .ref 46] (gwI m6 98 1 (m6.1 39 1)) = some (none, m8) := by
      rw [eX6_copyFrom_105, show rX6_copyFrom_105_2 0 (gwI m6 98 1 (m6.1 39 1)) = _ from e7, eX6_copyFrom_105_2, if_pos (show (5 : Int32) ≤ nI 5 by decide), hm8]
    rw [eX2_copyFrom_59, if_pos (by decide), if_pos (by decide), k1, g_cv_some, k2, g_cv_some, k3, g_cv_some, k4, g_cv_some, k5, g_cv_some, k6, g_cv_some]
  · rcases z with ⟨rfl, rfl | rfl⟩ | ⟨rfl, z⟩ | ⟨rfl, z⟩ | ⟨rfl, rfl | rfl⟩ | ⟨z1, z2, z⟩ | ⟨rfl | rfl, z⟩ | ⟨rfl, rfl⟩ | ⟨rfl | rfl, z⟩ | ⟨rfl, rfl⟩ | ⟨z1, z2, z⟩ | ⟨rfl, rfl⟩ | ⟨z1, z2, z⟩ | ⟨rfl, rfl⟩ | ⟨z1, z2, z⟩
    · exact Or.inl (Or.inr ⟨rfl, rfl⟩)
    · exact Or.inr ⟨rfl, rfl⟩
    · exact Or.inl (Or.inl (Or.inl (Or.inl (Or.inl (Or.inl (Or.inl (Or.inl (Or.inl (Or.inl (Or.inl (Or.inl (Or.inl (Or.inl (Or.inl (Or.inl (Or.inl (Or.inl (Or.inr ⟨rfl, z⟩))))))))))))))))))
    · exact Or.inl (Or.inl (Or.inl (Or.inl (Or.inl (Or.inl (Or.inl (Or.inl (Or.inl (Or.inl (Or.inl (Or.inl (Or.inl (Or.inl (Or.inl (Or.inl (Or.inl (Or.inr ⟨rfl, z⟩)))))))))))))))))
    · exact Or.inl (Or.inl (Or.inl (Or.inl (Or.inl (Or.inl (Or.inl (Or.inl (Or.inl (Or.inl (Or.inl (Or.inl (Or.inl (Or.inl (Or.inr ⟨rfl, rfl⟩))))))))))))))
    · exact Or.inl (Or.inl (Or.inl (Or.inl (Or.inl (Or.inl (Or.inl (Or.inl (Or.inl (Or.inl (Or.inl (Or.inl (Or.inl (Or.inr ⟨rfl, rfl⟩)))))))))))))
    · by_cases q : c = 24
      · exact Or.inl (Or.inl (Or.inl (Or.inl (Or.inl (Or.inl (Or.inl (Or.inl (Or.inl (Or.inl (Or.inl (Or.inl (Or.inl (Or.inl (Or.inl (Or.inr ⟨q, z⟩)))))))))))))))
      · exact Or.inl (Or.inl (Or.inl (Or.inl (Or.inl (Or.inl (Or.inl (Or.inl (Or.inl (Or.inl (Or.inl (Or.inl (Or.inl (Or.inl (Or.inl (Or.inl (Or.inr ⟨by omega, by omega, z⟩))))))))))))))))
    · exact Or.inl (Or.inl (Or.inl (Or.inl (Or.inl (Or.inl (Or.inl (Or.inl (Or.inl (Or.inl (Or.inl (Or.inl (Or.inr ⟨rfl, z⟩))))))))))))
    · exact Or.inl (Or.inl (Or.inl (Or.inl (Or.inl (Or.inl (Or.inl (Or.inl (Or.inl (Or.inl (Or.inl (Or.inr ⟨rfl, z⟩)))))))))))
    · exact Or.inl (Or.inl (Or.inl (Or.inl (Or.inl (Or.inl (Or.inl (Or.inl (Or.inr ⟨rfl, rfl⟩))))))))
    · exact Or.inl (Or.inl (Or.inl (Or.inl (Or.inl (Or.inl (Or.inl (Or.inl (Or.inl (Or.inl (Or.inr ⟨rfl, z⟩))))))))))
    · exact Or.inl (Or.inl (Or.inl (Or.inl (Or.inl (Or.inl (Or.inl (Or.inl (Or.inl (Or.inr ⟨rfl, z⟩)))))))))
    · exact Or.inl (Or.inl (Or.inl (Or.inl (Or.inl (Or.inl (Or.inr ⟨rfl, rfl⟩))))))
    · exact Or.inl (Or.inl (Or.inl (Or.inl (Or.inl (Or.inl (Or.inl (Or.inr ⟨by omega, by omega, z⟩)))))))
    · exact Or.inl (Or.inl (Or.inl (Or.inl (Or.inr ⟨rfl, rfl⟩))))
    · exact Or.inl (Or.inl (Or.inl (Or.inl (Or.inl (Or.inr ⟨by omega, by omega, z⟩)))))
    · exact Or.inl (Or.inl (Or.inr ⟨rfl, rfl⟩))
    · exact Or.inl (Or.inl (Or.inl (Or.inr ⟨by omega, by omega, z⟩)))
theorem lX4_118 (S : Nat → Nat → Prop) : ∀ k j, j + k = 19 → ∀ m, CF 118 0 (fun c i => S c i ∨ (4 + 1 ≤ c ∧ c < 4 + 1 + j ∧ i < 60)) T m0 m → ∃ m', rX4_copyFrom_118_2 (nI j) m = rX4_copyFrom_118_2 (nI 19) m' ∧ CF 118 0 (fun c i => S c i ∨ (4 + 1 ≤ c ∧ c < 4 + 1 + 19 ∧ i < 60)) T m0 m' := by
  intro k
  induction k with
  | zero => intro j hj m h; obtain rfl : j = 19 := by omega
            exact ⟨m, rfl, h⟩
  | succ k ih =>
    intro j hj m h
    have l1 : ∀ w, w < 19 → gLen LC 0 (0 + 4 + 1 + w) = 60 := by decide
    have l2 : ∀ w, w < 19 → gLen LC 0 (118 + 4 + 1 + w) = 60 := by decide
    rw [eX4_copyFrom_118_2, if_neg (show ¬ (19 : Int32) ≤ nI j from nI_ge (a := j) (b := 19) (by omega) (by omega)), gin (show j < 19 by omega) (by omega), if_pos rfl, if_pos rfl, tn (by omega), show gLen LC 0 (4 + 1 + j) = 60 from l1 j (by omega), show gLen LC 0 (122 + 1 + j) = 60 from l2 j (by omega), if_pos (by decide), nI_1]
    have h2 := h.cI (c0 := 4 + 1 + j) (len := 60) (by omega) (by omega)
    rw [show 0 + (4 + 1 + j) = 4 + 1 + j by omega, show 118 + (4 + 1 + j) = 122 + 1 + j by omega] at h2
    exact ih (j + 1) (by omega) _ (h2.s (fun c i z => by
      rcases z with z | z
      · exact Or.inl (Or.inl z)
      · by_cases q : c = 4 + 1 + j
        · exact Or.inr ⟨q, z.2.2⟩
        · exact Or.inl (Or.inr ⟨z.1, by omega, z.2.2⟩)))
theorem lX0_118 (S : Nat → Nat → Prop) : ∀ k j, j + k = 4 → ∀ m, CF 118 0 (fun c i => S c i ∨ (34 + 1 ≤ c ∧ c < 34 + 1 + j ∧ i < 60)) T m0 m → ∃ m', rX0_copyFrom_118_2 (nI j) m = rX0_copyFrom_118_2 (nI 4) m' ∧ CF 118 0 (fun c i => S c i ∨ (34 + 1 ≤ c ∧ c < 34 + 1 + 4 ∧ i < 60)) T m0 m' := by
  intro k
  induction k with
  | zero => intro j hj m h; obtain rfl : j = 4 := by omega
            exact ⟨m, rfl, h⟩
  | succ k ih =>
    intro j hj m h
    have l1 : ∀ w, w < 4 → gLen LC 0 (0 + 34 + 1 + w) = 60 := by decide
    have l2 : ∀ w, w < 4 → gLen LC 0 (118 + 34 + 1 + w) = 60 := by decide
    rw [eX0_copyFrom_118_2, if_neg (show ¬ (4 : Int32) ≤ nI j from nI_ge (a := j) (b := 4) (by omega) (by omega)), gin (show j < 4 by omega) (by omega), if_pos rfl, if_pos rfl, tn (by omega), show gLen LC 0 (34 + 1 + j) = 60 from l1 j (by omega), show gLen LC 0 (152 + 1 + j) = 60 from l2 j (by omega), if_pos (by decide), nI_1]
    have h2 := h.cI (c0 := 34 + 1 + j) (len := 60) (by omega) (by omega)
    rw [show 0 + (34 + 1 + j) = 34 + 1 + j by omega, show 118 + (34 + 1 + j) = 152 + 1 + j by omega] at h2
    exact ih (j + 1) (by omega) _ (h2.s (fun c i z => by
      rcases z with z | z
      · exact Or.inl (Or.inl z)
      · by_cases q : c = 34 + 1 + j
        · exact Or.inr ⟨q, z.2.2⟩
        · exact Or.inl (Or.inr ⟨z.1, by omega, z.2.2⟩)))
theorem lX6_157 (S : Nat → Nat → Prop) : ∀ k j, j + k = 5 → ∀ m, CF 118 0 (fun c i => S c i ∨ (40 + 1 ≤ c ∧ c < 40 + 1 + j ∧ i < 60)) T m0 m → ∃ m', rX6_copyFrom_157_2 (nI j) m = rX6_copyFrom_157_2 (nI 5) m' ∧ CF 118 0 (fun c i => S c i ∨ (40 + 1 ≤ c ∧ c < 40 + 1 + 5 ∧ i < 60)) T m0 m' := by
  intro k
  induction k with
  | zero => intro j hj m h; obtain rfl : j = 5 := by omega
            exact ⟨m, rfl, h⟩
  | succ k ih =>
    intro j hj m h
    have l1 : ∀ w, w < 5 → gLen LC 0 (0 + 40 + 1 + w) = 60 := by decide
    have l2 : ∀ w, w < 5 → gLen LC 0 (118 + 40 + 1 + w) = 60 := by decide
    rw [eX6_copyFrom_157_2, if_neg (show ¬ (5 : Int32) ≤ nI j from nI_ge (a := j) (b := 5) (by omega) (by omega)), gin (show j < 5 by omega) (by omega), if_pos rfl, if_pos rfl, tn (by omega), show gLen LC 0 (40 + 1 + j) = 60 from l1 j (by omega), show gLen LC 0 (158 + 1 + j) = 60 from l2 j (by omega), if_pos (by decide), nI_1]
    have h2 := h.cI (c0 := 40 + 1 + j) (len := 60) (by omega) (by omega)
    rw [show 0 + (40 + 1 + j) = 40 + 1 + j by omega, show 118 + (40 + 1 + j) = 158 + 1 + j by omega] at h2
    exact ih (j + 1) (by omega) _ (h2.s (fun c i z => by
      rcases z with z | z
      · exact Or.inl (Or.inl z)
      · by_cases q : c = 40 + 1 + j
        · exact Or.inr ⟨q, z.2.2⟩
        · exact Or.inl (Or.inr ⟨z.1, by omega, z.2.2⟩)))
theorem lX6_164 (S : Nat → Nat → Prop) : ∀ k j, j + k = 5 → ∀ m, CF 118 0 (fun c i => S c i ∨ (47 + 1 ≤ c ∧ c < 47 + 1 + j ∧ i < 60)) T m0 m → ∃ m', rX6_copyFrom_164_2 (nI j) m = rX6_copyFrom_164_2 (nI 5) m' ∧ CF 118 0 (fun c i => S c i ∨ (47 + 1 ≤ c ∧ c < 47 + 1 + 5 ∧ i < 60)) T m0 m' := by
  intro k
  induction k with
  | zero => intro j hj m h; obtain rfl : j = 5 := by omega
            exact ⟨m, rfl, h⟩
  | succ k ih =>
    intro j hj m h
    have l1 : ∀ w, w < 5 → gLen LC 0 (0 + 47 + 1 + w) = 60 := by decide
    have l2 : ∀ w, w < 5 → gLen LC 0 (118 + 47 + 1 + w) = 60 := by decide
    rw [eX6_copyFrom_164_2, if_neg (show ¬ (5 : Int32) ≤ nI j from nI_ge (a := j) (b := 5) (by omega) (by omega)), gin (show j < 5 by omega) (by omega), if_pos rfl, if_pos rfl, tn (by omega), show gLen LC 0 (47 + 1 + j) = 60 from l1 j (by omega), show gLen LC 0 (165 + 1 + j) = 60 from l2 j (by omega), if_pos (by decide), nI_1]
    have h2 := h.cI (c0 := 47 + 1 + j) (len := 60) (by omega) (by omega)
    rw [show 0 + (47 + 1 + j) = 47 + 1 + j by omega, show 118 + (47 + 1 + j) = 165 + 1 + j by omega] at h2
    exact ih (j + 1) (by omega) _ (h2.s (fun c i z => by
      rcases z with z | z
      · exact Or.inl (Or.inl z)
      · by_cases q : c = 47 + 1 + j
        · exact Or.inr ⟨q, z.2.2⟩
        · exact Or.inl (Or.inr ⟨z.1, by omega, z.2.2⟩)))
theorem copy_118 (μ : gMem) : ∃ μ', mX2_copyFrom [.ref 118, .ref 0] μ = some (none, μ') ∧ CF 118 0 cpi True μ μ' := by
  have f1 : CF 118 0 _ False μ (gcI μ 1 119 10) := CF.cI (c0 := 1) (len := 10) CF.rf (by omega) (by omega)
  have f2 : CF 118 0 _ False μ (gcI (gcI μ 1 119 10) 2 120 11) := CF.cI (c0 := 2) (len := 11) f1 (by omega) (by omega)
  obtain ⟨m1, e1, g1⟩ := lX4_118 _ 19 0 (by omega) _ (f2.s (S' := fun c i => _ ∨ (4 + 1 ≤ c ∧ c < 4 + 1 + 0 ∧ i < 60)) (fun c i z => z.elim id (fun w => by omega)))
  have f3 : CF 118 0 _ False μ (gcI m1 24 142 60) := CF.cI (c0 := 24) (len := 60) g1 (by omega) (by omega)
  have f4 : CF 118 0 _ False μ (gwI (gcI m1 24 142 60) 121 2 ((gcI m1 24 142 60).1 3 2)) := CF.w (c0 := 3) (i0 := 2) f3 (by omega) (by omega)
  have f5 : CF 118 0 _ False μ (gwI (gwI (gcI m1 24 142 60) 121 2 ((gcI m1 24 142 60).1 3 2)) 121 3 ((gwI (gcI m1 24 142 60) 121 2 ((gcI m1 24 142 60).1 3 2)).1 3 3)) := CF.w (c0 := 3) (i0 := 3) f4 (by omega) (by omega)
  generalize hm2 : gwI (gwI (gcI m1 24 142 60) 121 2 ((gcI m1 24 142 60).1 3 2)) 121 3 ((gwI (gcI m1 24 142 60) 121 2 ((gcI m1 24 142 60).1 3 2)).1 3 3) = m2 at f5
  have f6 : CF 118 0 _ False μ (gcI m2 26 144 6) := CF.cI (c0 := 26) (len := 6) f5 (by omega) (by omega)
  have f7 : CF 118 0 _ False μ (gcI (gcI m2 26 144 6) 27 145 6) := CF.cI (c0 := 27) (len := 6) f6 (by omega) (by omega)
  generalize hm3 : gcI (gcI m2 26 144 6) 27 145 6 = m3 at f7
  have f8 : CF 118 0 _ True μ (gcL m3 30 148 8) := CF.cL f7 (by omega)
  have f9 : CF 118 0 _ True μ (gcI (gcL m3 30 148 8) 31 149 8) := CF.cI (c0 := 31) (len := 8) f8 (by omega) (by omega)
  have f10 : CF 118 0 _ True μ (gcI (gcI (gcL m3 30 148 8) 31 149 8) 32 150 8) := CF.cI (c0 := 32) (len := 8) f9 (by omega) (by omega)
  have f11 : CF 118 0 _ True μ (gwI (gcI (gcI (gcL m3 30 148 8) 31 149 8) 32 150 8) 147 3 ((gcI (gcI (gcL m3 30 148 8) 31 149 8) 32 150 8).1 29 3)) := CF.w (c0 := 29) (i0 := 3) f10 (by omega) (by omega)
  generalize hm4 : gwI (gcI (gcI (gcL m3 30 148 8) 31 149 8) 32 150 8) 147 3 ((gcI (gcI (gcL m3 30 148 8) 31 149 8) 32 150 8).1 29 3) = m4 at f11
  obtain ⟨m5, e5, g5⟩ := lX0_118 _ 4 0 (by omega) _ (f11.s (S' := fun c i => _ ∨ (34 + 1 ≤ c ∧ c < 34 + 1 + 0 ∧ i < 60)) (fun c i z => z.elim id (fun w => by omega)))
  have f12 : CF 118 0 _ True μ (gwI m5 151 1 (m5.1 33 1)) := CF.w (c0 := 33) (i0 := 1) g5 (by omega) (by omega)
  obtain ⟨m6, e6, g6⟩ := lX6_157 _ 5 0 (by omega) _ (f12.s (S' := fun c i => _ ∨ (40 + 1 ≤ c ∧ c < 40 + 1 + 0 ∧ i < 60)) (fun c i z => z.elim id (fun w => by omega)))
  have f13 : CF 118 0 _ True μ (gwI m6 157 1 (m6.1 39 1)) := CF.w (c0 := 39) (i0 := 1) g6 (by omega) (by omega)
  obtain ⟨m7, e7, g7⟩ := lX6_164 _ 5 0 (by omega) _ (f13.s (S' := fun c i => _ ∨ (47 + 1 ≤ c ∧ c < 47 + 1 + 0 ∧ i < 60)) (fun c i z => z.elim id (fun w => by omega)))
  have f14 : CF 118 0 _ True μ (gwI m7 164 1 (m7.1 46 1)) := CF.w (c0 := 46) (i0 := 1) g7 (by omega) (by omega)
  generalize hm8 : gwI m7 164 1 (m7.1 46 1) = m8 at f14
  have f15 : CF 118 0 _ True μ (gwI m8 118 12 (m8.1 0 12)) := CF.w (c0 := 0) (i0 := 12) f14 (by omega) (by omega)
  have f16 : CF 118 0 _ True μ (gwI (gwI m8 118 12 (m8.1 0 12)) 118 13 ((gwI m8 118 12 (m8.1 0 12)).1 0 13)) := CF.w (c0 := 0) (i0 := 13) f15 (by omega) (by omega)
  refine ⟨_, ?_, f16.s (fun c i z => ?_)⟩
  · have k1 : mX4_copyFrom [.ref 121, .ref 3] (gcI (gcI μ 1 119 10) 2 120 11) = some (none, m2) := by
      rw [eX4_copyFrom_118, show rX4_copyFrom_118_2 0 (gcI (gcI μ 1 119 10) 2 120 11) = _ from e1, eX4_copyFrom_118_2, if_pos (show (19 : Int32) ≤ nI 19 by decide), if_pos (by decide), hm2]
    have k2 : mX8_copyFrom [.ref 143, .ref 25] m2 = some (none, m3) := by
      rw [eX8_copyFrom_118, if_pos (by decide), if_pos (by decide), hm3]
    have k3 : mX7_copyFrom [.ref 147, .ref 29] m3 = some (none, m4) := by
      rw [eX7_copyFrom_118, if_pos (by decide), if_pos (by decide), if_pos (by decide), hm4]
    have k4 : mX0_copyFrom [.ref 151, .ref 33] m4 = some (none, gwI m5 151 1 (m5.1 33 1)) := by
      rw [eX0_copyFrom_118, show rX0_copyFrom_118_2 0 m4 = _ from e5, eX0_copyFrom_118_2, if_pos (show (4 : Int32) ≤ nI 4 by decide)]
    have k5 : mX6_copyFrom [.ref 157, .ref 39] (gwI m5 151 1 (m5.1 33 1)) = some (none, gwI m6 157 1 (m6.1 39 1)) := by
      rw [eX6_copyFrom_157, show rX6_copyFrom_157_2 0 (gwI m5 151 1 (m5.1 33 1)) = _ from e6, eX6_copyFrom_157_2, if_pos (show (5 : Int32) ≤ nI 5 by decide)]
    have k6 : mX6_copyFrom [.ref 164, .ref 46] (gwI m6 157 1 (m6.1 39 1)) = some (none, m8) := by
      rw [eX6_copyFrom_164, show rX6_copyFrom_164_2 0 (gwI m6 157 1 (m6.1 39 1)) = _ from e7, eX6_copyFrom_164_2, if_pos (show (5 : Int32) ≤ nI 5 by decide), hm8]
    rw [eX2_copyFrom_118, if_pos (by decide), if_pos (by decide), k1, g_cv_some, k2, g_cv_some, k3, g_cv_some, k4, g_cv_some, k5, g_cv_some, k6, g_cv_some]
  · rcases z with ⟨rfl, rfl | rfl⟩ | ⟨rfl, z⟩ | ⟨rfl, z⟩ | ⟨rfl, rfl | rfl⟩ | ⟨z1, z2, z⟩ | ⟨rfl | rfl, z⟩ | ⟨rfl, rfl⟩ | ⟨rfl | rfl, z⟩ | ⟨rfl, rfl⟩ | ⟨z1, z2, z⟩ | ⟨rfl, rfl⟩ | ⟨z1, z2, z⟩ | ⟨rfl, rfl⟩ | ⟨z1, z2, z⟩
    · exact Or.inl (Or.inr ⟨rfl, rfl⟩)
    · exact Or.inr ⟨rfl, rfl⟩
    · exact Or.inl (Or.inl (Or.inl (Or.inl (Or.inl (Or.inl (Or.inl (Or.inl (Or.inl (Or.inl (Or.inl (Or.inl (Or.inl (Or.inl (Or.inl (Or.inl (Or.inl (Or.inl (Or.inr ⟨rfl, z⟩))))))))))))))))))
    · exact Or.inl (Or.inl (Or.inl (Or.inl (Or.inl (Or.inl (Or.inl (Or.inl (Or.inl (Or.inl (Or.inl (Or.inl (Or.inl (Or.inl (Or.inl (Or.inl (Or.inl (Or.inr ⟨rfl, z⟩)))))))))))))))))
    · exact Or.inl (Or.inl (Or.inl (Or.inl (Or.inl (Or.inl (Or.inl (Or.inl (Or.inl (Or.inl (Or.inl (Or.inl (Or.inl (Or.inl (Or.inr ⟨rfl, rfl⟩))))))))))))))
    · exact Or.inl (Or.inl (Or.inl (Or.inl (Or.inl (Or.inl (Or.inl (Or.inl (Or.inl (Or.inl (Or.inl (Or.inl (Or.inl (Or.inr ⟨rfl, rfl⟩)))))))))))))
    · by_cases q : c = 24
      · exact Or.inl (Or.inl (Or.inl (Or.inl (Or.inl (Or.inl (Or.inl (Or.inl (Or.inl (Or.inl (Or.inl (Or.inl (Or.inl (Or.inl (Or.inl (Or.inr ⟨q, z⟩)))))))))))))))
      · exact Or.inl (Or.inl (Or.inl (Or.inl (Or.inl (Or.inl (Or.inl (Or.inl (Or.inl (Or.inl (Or.inl (Or.inl (Or.inl (Or.inl (Or.inl (Or.inl (Or.inr ⟨by omega, by omega, z⟩))))))))))))))))
    · exact Or.inl (Or.inl (Or.inl (Or.inl (Or.inl (Or.inl (Or.inl (Or.inl (Or.inl (Or.inl (Or.inl (Or.inl (Or.inr ⟨rfl, z⟩))))))))))))
    · exact Or.inl (Or.inl (Or.inl (Or.inl (Or.inl (Or.inl (Or.inl (Or.inl (Or.inl (Or.inl (Or.inl (Or.inr ⟨rfl, z⟩)))))))))))
    · exact Or.inl (Or.inl (Or.inl (Or.inl (Or.inl (Or.inl (Or.inl (Or.inl (Or.inr ⟨rfl, rfl⟩))))))))
    · exact Or.inl (Or.inl (Or.inl (Or.inl (Or.inl (Or.inl (Or.inl (Or.inl (Or.inl (Or.inl (Or.inr ⟨rfl, z⟩))))))))))
    · exact Or.inl (Or.inl (Or.inl (Or.inl (Or.inl (Or.inl (Or.inl (Or.inl (Or.inl (Or.inr ⟨rfl, z⟩)))))))))
    · exact Or.inl (Or.inl (Or.inl (Or.inl (Or.inl (Or.inl (Or.inr ⟨rfl, rfl⟩))))))
    · exact Or.inl (Or.inl (Or.inl (Or.inl (Or.inl (Or.inl (Or.inl (Or.inr ⟨by omega, by omega, z⟩)))))))
    · exact Or.inl (Or.inl (Or.inl (Or.inl (Or.inr ⟨rfl, rfl⟩))))
    · exact Or.inl (Or.inl (Or.inl (Or.inl (Or.inl (Or.inr ⟨by omega, by omega, z⟩)))))
    · exact Or.inl (Or.inl (Or.inr ⟨rfl, rfl⟩))
    · exact Or.inl (Or.inl (Or.inl (Or.inr ⟨by omega, by omega, z⟩)))
theorem lX4_0 (S : Nat → Nat → Prop) : ∀ k j, j + k = 19 → ∀ m, CF 0 59 (fun c i => S c i ∨ (4 + 1 ≤ c ∧ c < 4 + 1 + j ∧ i < 60)) T m0 m → ∃ m', rX4_copyFrom_0_2 (nI j) m = rX4_copyFrom_0_2 (nI 19) m' ∧ CF 0 59 (fun c i => S c i ∨ (4 + 1 ≤ c ∧ c < 4 + 1 + 19 ∧ i < 60)) T m0 m' := by
  intro k
  induction k with
  | zero => intro j hj m h; obtain rfl : j = 19 := by omega
            exact ⟨m, rfl, h⟩
  | succ k ih =>
    intro j hj m h
    have l1 : ∀ w, w < 19 → gLen LC 0 (59 + 4 + 1 + w) = 60 := by decide
    have l2 : ∀ w, w < 19 → gLen LC 0 (0 + 4 + 1 + w) = 60 := by decide
    rw [eX4_copyFrom_0_2, if_neg (show ¬ (19 : Int32) ≤ nI j from nI_ge (a := j) (b := 19) (by omega) (by omega)), gin (show j < 19 by omega) (by omega), if_pos rfl, if_pos rfl, tn (by omega), show gLen LC 0 (63 + 1 + j) = 60 from l1 j (by omega), show gLen LC 0 (4 + 1 + j) = 60 from l2 j (by omega), if_pos (by decide), nI_1]
    have h2 := h.cI (c0 := 4 + 1 + j) (len := 60) (by omega) (by omega)
    rw [show 59 + (4 + 1 + j) = 63 + 1 + j by omega, show 0 + (4 + 1 + j) = 4 + 1 + j by omega] at h2
    exact ih (j + 1) (by omega) _ (h2.s (fun c i z => by
      rcases z with z | z
      · exact Or.inl (Or.inl z)
      · by_cases q : c = 4 + 1 + j
        · exact Or.inr ⟨q, z.2.2⟩
        · exact Or.inl (Or.inr ⟨z.1, by omega, z.2.2⟩)))
theorem lX0_0 (S : Nat → Nat → Prop) : ∀ k j, j + k = 4 → ∀ m, CF 0 59 (fun c i => S c i ∨ (34 + 1 ≤ c ∧ c < 34 + 1 + j ∧ i < 60)) T m0 m → ∃ m', rX0_copyFrom_0_2 (nI j) m = rX0_copyFrom_0_2 (nI 4) m' ∧ CF 0 59 (fun c i => S c i ∨ (34 + 1 ≤ c ∧ c < 34 + 1 + 4 ∧ i < 60)) T m0 m' := by
  intro k
  induction k with
  | zero => intro j hj m h; obtain rfl : j = 4 := by omega
            exact ⟨m, rfl, h⟩
  | succ k ih =>
    intro j hj m h
    have l1 : ∀ w, w < 4 → gLen LC 0 (59 + 34 + 1 + w) = 60 := by decide
    have l2 : ∀ w, w < 4 → gLen LC 0 (0 + 34 + 1 + w) = 60 := by decide
    rw [eX0_copyFrom_0_2, if_neg (show ¬ (4 : Int32) ≤ nI j from nI_ge (a := j) (b := 4) (by omega) (by omega)), gin (show j < 4 by omega) (by omega), if_pos rfl, if_pos rfl, tn (by omega), show gLen LC 0 (93 + 1 + j) = 60 from l1 j (by omega), show gLen LC 0 (34 + 1 + j) = 60 from l2 j (by omega), if_pos (by decide), nI_1]
    have h2 := h.cI (c0 := 34 + 1 + j) (len := 60) (by omega) (by omega)
    rw [show 59 + (34 + 1 + j) = 93 + 1 + j by omega, show 0 + (34 + 1 + j) = 34 + 1 + j by omega] at h2
    exact ih (j + 1) (by omega) _ (h2.s (fun c i z => by
      rcases z with z | z
      · exact Or.inl (Or.inl z)
      · by_cases q : c = 34 + 1 + j
        · exact Or.inr ⟨q, z.2.2⟩
        · exact Or.inl (Or.inr ⟨z.1, by omega, z.2.2⟩)))
theorem lX6_39 (S : Nat → Nat → Prop) : ∀ k j, j + k = 5 → ∀ m, CF 0 59 (fun c i => S c i ∨ (40 + 1 ≤ c ∧ c < 40 + 1 + j ∧ i < 60)) T m0 m → ∃ m', rX6_copyFrom_39_2 (nI j) m = rX6_copyFrom_39_2 (nI 5) m' ∧ CF 0 59 (fun c i => S c i ∨ (40 + 1 ≤ c ∧ c < 40 + 1 + 5 ∧ i < 60)) T m0 m' := by
  intro k
  induction k with
  | zero => intro j hj m h; obtain rfl : j = 5 := by omega
            exact ⟨m, rfl, h⟩
  | succ k ih =>
    intro j hj m h
    have l1 : ∀ w, w < 5 → gLen LC 0 (59 + 40 + 1 + w) = 60 := by decide
    have l2 : ∀ w, w < 5 → gLen LC 0 (0 + 40 + 1 + w) = 60 := by decide
    rw [eX6_copyFrom_39_2, if_neg (show ¬ (5 : Int32) ≤ nI j from nI_ge (a := j) (b := 5) (by omega) (by omega)), gin (show j < 5 by omega) (by omega), if_pos rfl, if_pos rfl, tn (by omega), show gLen LC 0 (99 + 1 + j) = 60 from l1 j (by omega), show gLen LC 0 (40 + 1 + j) = 60 from l2 j (by omega), if_pos (by decide), nI_1]
    have h2 := h.cI (c0 := 40 + 1 + j) (len := 60) (by omega) (by omega)
    rw [show 59 + (40 + 1 + j) = 99 + 1 + j by omega, show 0 + (40 + 1 + j) = 40 + 1 + j by omega] at h2
    exact ih (j + 1) (by omega) _ (h2.s (fun c i z => by
      rcases z with z | z
      · exact Or.inl (Or.inl z)
      · by_cases q : c = 40 + 1 + j
        · exact Or.inr ⟨q, z.2.2⟩
        · exact Or.inl (Or.inr ⟨z.1, by omega, z.2.2⟩)))
theorem lX6_46 (S : Nat → Nat → Prop) : ∀ k j, j + k = 5 → ∀ m, CF 0 59 (fun c i => S c i ∨ (47 + 1 ≤ c ∧ c < 47 + 1 + j ∧ i < 60)) T m0 m → ∃ m', rX6_copyFrom_46_2 (nI j) m = rX6_copyFrom_46_2 (nI 5) m' ∧ CF 0 59 (fun c i => S c i ∨ (47 + 1 ≤ c ∧ c < 47 + 1 + 5 ∧ i < 60)) T m0 m' := by
  intro k
  induction k with
  | zero => intro j hj m h; obtain rfl : j = 5 := by omega
            exact ⟨m, rfl, h⟩
  | succ k ih =>
    intro j hj m h
    have l1 : ∀ w, w < 5 → gLen LC 0 (59 + 47 + 1 + w) = 60 := by decide
    have l2 : ∀ w, w < 5 → gLen LC 0 (0 + 47 + 1 + w) = 60 := by decide
    rw [eX6_copyFrom_46_2, if_neg (show ¬ (5 : Int32) ≤ nI j from nI_ge (a := j) (b := 5) (by omega) (by omega)), gin (show j < 5 by omega) (by omega), if_pos rfl, if_pos rfl, tn (by omega), show gLen LC 0 (106 + 1 + j) = 60 from l1 j (by omega), show gLen LC 0 (47 + 1 + j) = 60 from l2 j (by omega), if_pos (by decide), nI_1]
    have h2 := h.cI (c0 := 47 + 1 + j) (len := 60) (by omega) (by omega)
    rw [show 59 + (47 + 1 + j) = 106 + 1 + j by omega, show 0 + (47 + 1 + j) = 47 + 1 + j by omega] at h2
    exact ih (j + 1) (by omega) _ (h2.s (fun c i z => by
      rcases z with z | z
      · exact Or.inl (Or.inl z)
      · by_cases q : c = 47 + 1 + j
        · exact Or.inr ⟨q, z.2.2⟩
        · exact Or.inl (Or.inr ⟨z.1, by omega, z.2.2⟩)))
theorem copy_0 (μ : gMem) : ∃ μ', mX2_copyFrom [.ref 0, .ref 59] μ = some (none, μ') ∧ CF 0 59 cpi True μ μ' := by
  have f1 : CF 0 59 _ False μ (gcI μ 60 1 10) := CF.cI (c0 := 1) (len := 10) CF.rf (by omega) (by omega)
  have f2 : CF 0 59 _ False μ (gcI (gcI μ 60 1 10) 61 2 11) := CF.cI (c0 := 2) (len := 11) f1 (by omega) (by omega)
  obtain ⟨m1, e1, g1⟩ := lX4_0 _ 19 0 (by omega) _ (f2.s (S' := fun c i => _ ∨ (4 + 1 ≤ c ∧ c < 4 + 1 + 0 ∧ i < 60)) (fun c i z => z.elim id (fun w => by omega)))
  have f3 : CF 0 59 _ False μ (gcI m1 83 24 60) := CF.cI (c0 := 24) (len := 60) g1 (by omega) (by omega)
  have f4 : CF 0 59 _ False μ (gwI (gcI m1 83 24 60) 3 2 ((gcI m1 83 24 60).1 62 2)) := CF.w (c0 := 3) (i0 := 2) f3 (by omega) (by omega)
  have f5 : CF 0 59 _ False μ (gwI (gwI (gcI m1 83 24 60) 3 2 ((gcI m1 83 24 60).1 62 2)) 3 3 ((gwI (gcI m1 83 24 60) 3 2 ((gcI m1 83 24 60).1 62 2)).1 62 3)) := CF.w (c0 := 3) (i0 := 3) f4 (by omega) (by omega)
  generalize hm2 : gwI (gwI (gcI m1 83 24 60) 3 2 ((gcI m1 83 24 60).1 62 2)) 3 3 ((gwI (gcI m1 83 24 60) 3 2 ((gcI m1 83 24 60).1 62 2)).1 62 3) = m2 at f5
  have f6 : CF 0 59 _ False μ (gcI m2 85 26 6) := CF.cI (c0 := 26) (len := 6) f5 (by omega) (by omega)
  have f7 : CF 0 59 _ False μ (gcI (gcI m2 85 26 6) 86 27 6) := CF.cI (c0 := 27) (len := 6) f6 (by omega) (by omega)
  generalize hm3 : gcI (gcI m2 85 26 6) 86 27 6 = m3 at f7
  have f8 : CF 0 59 _ True μ (gcL m3 89 30 8) := CF.cL f7 (by omega)
  have f9 : CF 0 59 _ True μ (gcI (gcL m3 89 30 8) 90 31 8) := CF.cI (c0 := 31) (len := 8) f8 (by omega) (by omega)
  have f10 : CF 0 59 _ True μ (gcI (gcI (gcL m3 89 30 8) 90 31 8) 91 32 8) := CF.cI (c0 := 32) (len := 8) f9 (by omega) (by omega)
  have f11 : CF 0 59 _ True μ (gwI (gcI (gcI (gcL m3 89 30 8) 90 31 8) 91 32 8) 29 3 ((gcI (gcI (gcL m3 89 30 8) 90 31 8) 91 32 8).1 88 3)) := CF.w (c0 := 29) (i0 := 3) f10 (by omega) (by omega)
  generalize hm4 : gwI (gcI (gcI (gcL m3 89 30 8) 90 31 8) 91 32 8) 29 3 ((gcI (gcI (gcL m3 89 30 8) 90 31 8) 91 32 8).1 88 3) = m4 at f11
  obtain ⟨m5, e5, g5⟩ := lX0_0 _ 4 0 (by omega) _ (f11.s (S' := fun c i => _ ∨ (34 + 1 ≤ c ∧ c < 34 + 1 + 0 ∧ i < 60)) (fun c i z => z.elim id (fun w => by omega)))
  have f12 : CF 0 59 _ True μ (gwI m5 33 1 (m5.1 92 1)) := CF.w (c0 := 33) (i0 := 1) g5 (by omega) (by omega)
  obtain ⟨m6, e6, g6⟩ := lX6_39 _ 5 0 (by omega) _ (f12.s (S' := fun c i => _ ∨ (40 + 1 ≤ c ∧ c < 40 + 1 + 0 ∧ i < 60)) (fun c i z => z.elim id (fun w => by omega)))
  have f13 : CF 0 59 _ True μ (gwI m6 39 1 (m6.1 98 1)) := CF.w (c0 := 39) (i0 := 1) g6 (by omega) (by omega)
  obtain ⟨m7, e7, g7⟩ := lX6_46 _ 5 0 (by omega) _ (f13.s (S' := fun c i => _ ∨ (47 + 1 ≤ c ∧ c < 47 + 1 + 0 ∧ i < 60)) (fun c i z => z.elim id (fun w => by omega)))
  have f14 : CF 0 59 _ True μ (gwI m7 46 1 (m7.1 105 1)) := CF.w (c0 := 46) (i0 := 1) g7 (by omega) (by omega)
  generalize hm8 : gwI m7 46 1 (m7.1 105 1) = m8 at f14
  have f15 : CF 0 59 _ True μ (gwI m8 0 12 (m8.1 59 12)) := CF.w (c0 := 0) (i0 := 12) f14 (by omega) (by omega)
  have f16 : CF 0 59 _ True μ (gwI (gwI m8 0 12 (m8.1 59 12)) 0 13 ((gwI m8 0 12 (m8.1 59 12)).1 59 13)) := CF.w (c0 := 0) (i0 := 13) f15 (by omega) (by omega)
  refine ⟨_, ?_, f16.s (fun c i z => ?_)⟩
  · have k1 : mX4_copyFrom [.ref 3, .ref 62] (gcI (gcI μ 60 1 10) 61 2 11) = some (none, m2) := by
      rw [eX4_copyFrom_0, show rX4_copyFrom_0_2 0 (gcI (gcI μ 60 1 10) 61 2 11) = _ from e1, eX4_copyFrom_0_2, if_pos (show (19 : Int32) ≤ nI 19 by decide), if_pos (by decide), hm2]
    have k2 : mX8_copyFrom [.ref 25, .ref 84] m2 = some (none, m3) := by
      rw [eX8_copyFrom_0, if_pos (by decide), if_pos (by decide), hm3]
    have k3 : mX7_copyFrom [.ref 29, .ref 88] m3 = some (none, m4) := by
      rw [eX7_copyFrom_0, if_pos (by decide), if_pos (by decide), if_pos (by decide), hm4]
    have k4 : mX0_copyFrom [.ref 33, .ref 92] m4 = some (none, gwI m5 33 1 (m5.1 92 1)) := by
      rw [eX0_copyFrom_0, show rX0_copyFrom_0_2 0 m4 = _ from e5, eX0_copyFrom_0_2, if_pos (show (4 : Int32) ≤ nI 4 by decide)]
    have k5 : mX6_copyFrom [.ref 39, .ref 98] (gwI m5 33 1 (m5.1 92 1)) = some (none, gwI m6 39 1 (m6.1 98 1)) := by
      rw [eX6_copyFrom_39, show rX6_copyFrom_39_2 0 (gwI m5 33 1 (m5.1 92 1)) = _ from e6, eX6_copyFrom_39_2, if_pos (show (5 : Int32) ≤ nI 5 by decide)]
    have k6 : mX6_copyFrom [.ref 46, .ref 105] (gwI m6 39 1 (m6.1 98 1)) = some (none, m8) := by
      rw [eX6_copyFrom_46, show rX6_copyFrom_46_2 0 (gwI m6 39 1 (m6.1 98 1)) = _ from e7, eX6_copyFrom_46_2, if_pos (show (5 : Int32) ≤ nI 5 by decide), hm8]
    rw [eX2_copyFrom_0, if_pos (by decide), if_pos (by decide), k1, g_cv_some, k2, g_cv_some, k3, g_cv_some, k4, g_cv_some, k5, g_cv_some, k6, g_cv_some]
  · rcases z with ⟨rfl, rfl | rfl⟩ | ⟨rfl, z⟩ | ⟨rfl, z⟩ | ⟨rfl, rfl | rfl⟩ | ⟨z1, z2, z⟩ | ⟨rfl | rfl, z⟩ | ⟨rfl, rfl⟩ | ⟨rfl | rfl, z⟩ | ⟨rfl, rfl⟩ | ⟨z1, z2, z⟩ | ⟨rfl, rfl⟩ | ⟨z1, z2, z⟩ | ⟨rfl, rfl⟩ | ⟨z1, z2, z⟩
    · exact Or.inl (Or.inr ⟨rfl, rfl⟩)
    · exact Or.inr ⟨rfl, rfl⟩
    · exact Or.inl (Or.inl (Or.inl (Or.inl (Or.inl (Or.inl (Or.inl (Or.inl (Or.inl (Or.inl (Or.inl (Or.inl (Or.inl (Or.inl (Or.inl (Or.inl (Or.inl (Or.inl (Or.inr ⟨rfl, z⟩))))))))))))))))))
    · exact Or.inl (Or.inl (Or.inl (Or.inl (Or.inl (Or.inl (Or.inl (Or.inl (Or.inl (Or.inl (Or.inl (Or.inl (Or.inl (Or.inl (Or.inl (Or.inl (Or.inl (Or.inr ⟨rfl, z⟩)))))))))))))))))
    · exact Or.inl (Or.inl (Or.inl (Or.inl (Or.inl (Or.inl (Or.inl (Or.inl (Or.inl (Or.inl (Or.inl (Or.inl (Or.inl (Or.inl (Or.inr ⟨rfl, rfl⟩))))))))))))))
    · exact Or.inl (Or.inl (Or.inl (Or.inl (Or.inl (Or.inl (Or.inl (Or.inl (Or.inl (Or.inl (Or.inl (Or.inl (Or.inl (Or.inr ⟨rfl, rfl⟩)))))))))))))
    · by_cases q : c = 24
      · exact Or.inl (Or.inl (Or.inl (Or.inl (Or.inl (Or.inl (Or.inl (Or.inl (Or.inl (Or.inl (Or.inl (Or.inl (Or.inl (Or.inl (Or.inl (Or.inr ⟨q, z⟩)))))))))))))))
      · exact Or.inl (Or.inl (Or.inl (Or.inl (Or.inl (Or.inl (Or.inl (Or.inl (Or.inl (Or.inl (Or.inl (Or.inl (Or.inl (Or.inl (Or.inl (Or.inl (Or.inr ⟨by omega, by omega, z⟩))))))))))))))))
    · exact Or.inl (Or.inl (Or.inl (Or.inl (Or.inl (Or.inl (Or.inl (Or.inl (Or.inl (Or.inl (Or.inl (Or.inl (Or.inr ⟨rfl, z⟩))))))))))))
    · exact Or.inl (Or.inl (Or.inl (Or.inl (Or.inl (Or.inl (Or.inl (Or.inl (Or.inl (Or.inl (Or.inl (Or.inr ⟨rfl, z⟩)))))))))))
    · exact Or.inl (Or.inl (Or.inl (Or.inl (Or.inl (Or.inl (Or.inl (Or.inl (Or.inr ⟨rfl, rfl⟩))))))))
    · exact Or.inl (Or.inl (Or.inl (Or.inl (Or.inl (Or.inl (Or.inl (Or.inl (Or.inl (Or.inl (Or.inr ⟨rfl, z⟩))))))))))
    · exact Or.inl (Or.inl (Or.inl (Or.inl (Or.inl (Or.inl (Or.inl (Or.inl (Or.inl (Or.inr ⟨rfl, z⟩)))))))))
    · exact Or.inl (Or.inl (Or.inl (Or.inl (Or.inl (Or.inl (Or.inr ⟨rfl, rfl⟩))))))
    · exact Or.inl (Or.inl (Or.inl (Or.inl (Or.inl (Or.inl (Or.inl (Or.inr ⟨by omega, by omega, z⟩)))))))
    · exact Or.inl (Or.inl (Or.inl (Or.inl (Or.inr ⟨rfl, rfl⟩))))
    · exact Or.inl (Or.inl (Or.inl (Or.inl (Or.inl (Or.inr ⟨by omega, by omega, z⟩)))))
    · exact Or.inl (Or.inl (Or.inr ⟨rfl, rfl⟩))
    · exact Or.inl (Or.inl (Or.inl (Or.inr ⟨by omega, by omega, z⟩)))
end COPY
