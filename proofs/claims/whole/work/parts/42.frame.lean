/-! what a change leaves as it was -/
def ag (S : List Nat) (b b' : gMem) : Prop := ∀ c, c ∈ S → ∀ i, b'.1 c i = b.1 c i
theorem ag.rf {S : List Nat} {b : gMem} : ag S b b := fun _ _ _ => rfl
theorem ag.tr {S : List Nat} {b c d : gMem} (h : ag S b c) (h2 : ag S c d) : ag S b d := fun x hx i => (h2 x hx i).trans (h x hx i)
theorem ag.w {S : List Nat} {b b' : gMem} {c i : Nat} {x : Int32} (h : ag S b b') (hc : c ∉ S) : ag S b (gwI b' c i x) := fun d hd k => by
  rw [gI_r, if_neg (fun (q : d = c ∧ k = i) => hc (q.1 ▸ hd))]; exact h d hd k
theorem ag.wl {S : List Nat} {b b' : gMem} {c i : Nat} {x : Int64} (h : ag S b b') : ag S b (gwL b' c i x) := fun d hd k => h d hd k
theorem ag.c {S : List Nat} {b b' : gMem} (h : ag S b b') (c i : Nat) (hc : c ∈ S) : b'.1 c i = b.1 c i := h c hc i
theorem ag.j {S : List Nat} {b b' : gMem} (h : ag S b b') (c i : Nat) (hc : c ∈ S) : jn b' c i = jn b c i := by unfold jn; rw [h c hc i]
def ug (lo hi : Nat) (u u' : gMem) : Prop := ∀ i, lo ≤ i → i < hi → u'.1 1 i = u.1 1 i
theorem ug.rf {lo hi : Nat} {u : gMem} : ug lo hi u u := fun _ _ _ => rfl
theorem ug.tr {lo hi : Nat} {u v w : gMem} (h : ug lo hi u v) (h2 : ug lo hi v w) : ug lo hi u w := fun i a b => (h2 i a b).trans (h i a b)
theorem ug.w {lo hi : Nat} {u v : gMem} {k : Nat} {x : Int32} (h : ug lo hi u v) (hk : k < lo ∨ hi ≤ k) : ug lo hi u (gwI v 1 k x) := fun i h1 h2 => by
  rw [gI_r, if_neg (by omega)]; exact h i h1 h2
theorem ug.o {lo hi : Nat} {u v : gMem} {c k : Nat} {x : Int32} (h : ug lo hi u v) (hc : c ≠ 1) : ug lo hi u (gwI v c k x) := fun i h1 h2 => by
  rw [gI_r, if_neg (fun q => hc q.1.symm)]; exact h i h1 h2
theorem ug.wl {lo hi : Nat} {u v : gMem} {c k : Nat} {x : Int64} (h : ug lo hi u v) : ug lo hi u (gwL v c k x) := fun i h1 h2 => h i h1 h2
section FRAME
variable {b b' u u' : gMem} {n a r p t B : Nat} {Q : List Nat}
theorem EJ.fr (e : EJ b u n) (hn : n ≤ 60) (h : ag [5, 6, 7, 8, 9, 10, 11, 12, 13, 14, 15, 16, 17, 18, 19, 20, 21, 22, 23] b b') (hu : ug 42 1242 u u') : EJ b' u' n := by
  intro j hj
  have h1 : ∀ w, w < 20 → mA u' j w = mA u j w := fun w hw => hu _ (by omega) (by omega)
  have := e j hj
  unfold EJ1 at *
  simp (disch := decide) only [h1, h.c]
  exact this
theorem ER.fr (e : ER b u a) (ha : a ≤ 60) (h : ag [35, 36, 37, 38] b b') (hu : ug 1242 1482 u u') : ER b' u' a := by
  intro j hj
  have h1 : ∀ w, w < 4 → mR u' j w = mR u j w := fun w hw => hu _ (by omega) (by omega)
  have := e j hj
  simp (disch := decide) only [h1, h.c]
  exact this
theorem ET.fr (e : ET b u r) (hr : r ≤ 8) (h : ag [31] b b') (hu : ug 1482 1490 u u') (hb : ∀ s, s < r → b'.2 30 s = b.2 30 s) (hp : ∀ s, s < r → u'.2 3 s = u.2 3 s) : ET b' u' r := by
  intro s hs
  have h1 : mT u' s = mT u s := hu _ (by omega) (by omega)
  have := e s hs
  rw [h1, hb s hs, hp s hs, h.c 31 s (by decide)]
  exact this
theorem EL.fr (e : EL b u) (h : ag [41, 42, 43, 44, 45] b b') (hu : ug 1490 1790 u u') : EL b' u' := by
  intro j hj
  have h1 : ∀ w, w < 5 → mL u' j w = mL u j w := fun w hw => hu _ (by omega) (by omega)
  have := e j hj
  simp (disch := decide) only [h1, h.c]
  exact this
theorem EV.fr (e : EV b u) (h : ag [48, 49, 50, 51] b b') (hu : ug 1790 2030 u u') : EV b' u' := by
  intro j hj
  have h1 : ∀ w, w < 4 → mV u' j w = mV u j w := fun w hw => hu _ (by omega) (by omega)
  have := e j hj
  simp (disch := decide) only [h1, h.c]
  exact this
theorem EH.fr (e : EH b u) (h : ag [1, 2, 26, 27] b b') (hu : ∀ i, i < 10 ∨ (18 ≤ i ∧ i < 42) → u'.1 1 i = u.1 1 i) (h7 : u'.1 1 10 = b'.1 0 12 ∧ u'.1 1 11 = b'.1 3 2 ∧ u'.1 1 12 = b'.1 33 1 ∧ u'.1 1 13 = b'.1 29 3 ∧ u'.1 1 14 = b'.1 0 13 ∧ u'.1 1 15 = b'.1 39 1 ∧ u'.1 1 16 = b'.1 46 1) : EH b' u' := by
  obtain ⟨e1, e2, e3, e4, e5⟩ := e
  refine ⟨?_, h7, fun k hk => ?_, fun v hv => ?_, fun v hv => ?_⟩
  · rw [hu 0 (by omega), hu 1 (by omega), hu 2 (by omega), hu 3 (by omega), hu 4 (by omega), hu 5 (by omega), hu 6 (by omega), hu 7 (by omega), hu 8 (by omega), hu 9 (by omega)]
    simp (disch := decide) only [h.c]
    exact e1
  · rw [hu _ (by omega), h.c 2 k (by decide)]; exact e3 k hk
  · rw [hu _ (by omega), h.c 26 v (by decide)]; exact e4 v hv
  · rw [hu _ (by omega), h.c 27 v (by decide)]; exact e5 v hv
theorem IA.fr (hA : IA b n a r p) (h1 : b'.1 3 2 = b.1 3 2) (h2 : b'.1 33 1 = b.1 33 1) (h3 : b'.1 29 3 = b.1 29 3) (h4 : b'.1 1 0 = b.1 1 0) : IA b' n a r p := by
  unfold IA at *; rw [h1, h2, h3, h4]; exact hA
theorem IT.fr (hT : IT b) (h : ag [1] b b') : IT b' := by
  unfold IT at *; simp (disch := decide) only [h.c, h.j]; exact hT
theorem IJ1.fr {j : Nat} (hJ : IJ1 b p t j) (h : ag [5, 7, 8, 9, 10, 11, 14, 17, 19, 20] b b') : IJ1 b' p t j := by
  unfold IJ1 at *; simp (disch := decide) only [h.c, h.j]; exact hJ
theorem IJ.fr (hJ : IJ b n p t) (h : ag [5, 7, 8, 9, 10, 11, 14, 17, 19, 20] b b') : IJ b' n p t := fun j hj => (hJ j hj).fr h
theorem bl_fr (h : ag [13, 14] b b') : bl b' = bl b := by funext j; unfold bl; rw [h.j 13 j (by decide), h.j 14 j (by decide)]
theorem IP.fr (hP : IP b n r p) (h : ag [9, 12, 13, 14] b b') (hd : b'.1 0 13 = b.1 0 13) : IP b' n r p := by
  have hb : bl b' = bl b := bl_fr (fun c hc i => h c (by simp at hc ⊢; omega) i)
  unfold IP IP1 at *; simp (disch := decide) only [h.c, h.j, hb, hd]; exact hP
theorem sb_fr (h : ag [12, 13, 14] b b') (s : Nat) : sb b' s = sb b s := by
  have hb : bl b' = bl b := bl_fr (fun c hc i => h c (by simp at hc ⊢; omega) i)
  funext j; unfold sb; rw [h.c 12 j (by decide), hb]
theorem IS.fr (hS : IS b n r) (h : ag [32, 12, 13, 14] b b') : IS b' n r := by
  intro s hs; rw [h.c 32 s (by decide), sb_fr (fun c hc i => h c (by simp at hc ⊢; omega) i)]; exact hS s hs
theorem IL.fr (hS : IL b) (h : ag [9, 10] b b') : IL b' := fun j hj => by rw [h.c 9 j (by decide), h.c 10 j (by decide)]; exact hS j hj
theorem IS0.fr (hS : IS0 b r) (h : ag [32, 9, 10] b b') : IS0 b' r := ⟨fun s hs => by rw [h.c 32 s (by decide)]; exact hS.1 s hs, hS.2.fr (fun c hc i => h c (by simp at hc ⊢; omega) i)⟩
theorem IU.fr (hU : IU b t) (h : ag [26, 27] b b') : IU b' t := by
  unfold IU at *; simp (disch := decide) only [h.c, h.j]; exact hU
theorem IR.fr (hR : IR b a p) (h : ag [36, 37, 38] b b') : IR b' a p := by
  intro i hi; have := hR i hi; simp (disch := decide) only [h.c, h.j]; exact this
theorem ID.fr (hD : ID b p) (h : b'.1 0 13 = b.1 0 13) : ID b' p := by
  unfold ID at *; rw [h]; exact hD
theorem IQ.fr (hQ : IQ b u n Q B) (hn : n ≤ 60) (h : ag [24, 9] b b') (h3 : b'.1 3 3 = b.1 3 3) (h17 : u'.1 1 17 = u.1 1 17) (h19 : ∀ j, j < 60 → mA u' j 19 = mA u j 19) : IQ b' u' n Q B := by
  have hmem : ∀ j, j ∈ Q → j < 60 := fun j hj => by have := ((hQ.2.2.2.2.1 j).mp hj).1; omega
  have hj : ∀ j, j ∈ Q → jn u' 1 (42 + 20 * j + 19) = jn u 1 (42 + 20 * j + 19) := fun j hj => by unfold jn; rw [show u'.1 1 (42 + 20 * j + 19) = _ from h19 j (hmem j hj)]; rfl
  obtain ⟨q1, q2, q3, q4, q5, ⟨cm, q6, q7, q8⟩, q9⟩ := hQ
  refine ⟨by rw [h3]; exact q1, q2, fun i hi => by rw [h.c 24 i (by decide)]; exact q3 i hi, q4, fun j => by rw [h.c 9 j (by decide)]; exact q5 j, ⟨cm, by rw [h17]; exact q6, q7, fun j hq => ?_⟩, ?_⟩
  · rw [hj j hq, h19 j (hmem j hq)]; exact q8 j hq
  · refine q9.imp_of_mem (fun {x y} hx hy hxy => ?_)
    rw [hj x hx, hj y hy]; exact hxy
theorem IB.fr (hB : IB b t B) (h1 : b'.1 0 12 = b.1 0 12) (h2 : b'.1 39 1 = b.1 39 1) (h3 : b'.1 46 1 = b.1 46 1) : IB b' t B := by
  unfold IB at *; rw [h1, h2, h3]; exact hB
end FRAME
