/-! placing on both sides -/
/-- what an array begins with -/
def arr (μ : gMem) (c : Nat) (L : List Nat) : Prop := ∀ i (h : i < L.length), μ.1 c i = nI L[i]
/-- the same but for the line -/
def lnS (b b' : gMem) : Prop := b'.2 = b.2 ∧ ∀ c i, c ≠ 24 → ¬ (c = 3 ∧ i = 3) → b'.1 c i = b.1 c i
theorem fl_step {Q : List Nat} {j i : Nat} (h : i < Q.length) : (Q.take (i + 1)).filter (fun x => decide (x ≠ j)) = (Q.take i).filter (fun x => decide (x ≠ j)) ++ (if Q[i] = j then [] else [Q[i]]) := by
  rw [List.take_succ_eq_append_getElem h, List.filter_append]
  congr 1
  by_cases q : Q[i] = j
  · simp [q]
  · simp [q]
theorem c_fromLine {b : gMem} {Q : List Nat} {j : Nat} (h3 : b.1 3 3 = nI Q.length) (h60 : Q.length ≤ 60) (ha : arr b 24 Q) (hj : j < 60) (hQ : ∀ x ∈ Q, x < 60) : ∃ b', mX4_fromLine [.ref 3, .int (nI j)] b = some (none, b') ∧ lnS b b' ∧ b'.1 3 3 = nI (Q.filter (fun x => decide (x ≠ j))).length ∧ arr b' 24 (Q.filter (fun x => decide (x ≠ j))) := by
  have key : ∀ k i, i + k = Q.length → ∀ μ, lnS b μ → μ.1 3 3 = nI Q.length → arr μ 24 ((Q.take i).filter (fun x => decide (x ≠ j))) → (∀ d (h : d < Q.length), i ≤ d → μ.1 24 d = nI Q[d]) → ∃ b', rX4_fromLine_4 (nI j) (nI ((Q.take i).filter (fun x => decide (x ≠ j))).length) (nI i) μ = some (none, b') ∧ lnS b b' ∧ b'.1 3 3 = nI (Q.filter (fun x => decide (x ≠ j))).length ∧ arr b' 24 (Q.filter (fun x => decide (x ≠ j))) := by
    intro k
    induction k with
    | zero =>
      intro i hi μ hs hm ha hd
      rw [show i = Q.length by omega, List.take_length] at *
      refine ⟨gwI μ 3 3 (nI (Q.filter (fun x => decide (x ≠ j))).length), by rw [eX4_fromLine_4, hm, if_pos (nI_le (Nat.le_refl _) (by omega))], ⟨hs.1, fun c i h1 h2 => by rw [gI_r, if_neg h2]; exact hs.2 c i h1 h2⟩, rfl, fun i h => ?_⟩
      rw [gI_r, if_neg (by omega)]; exact ha i h
    | succ k ih =>
      intro i hi μ hs hm ha hd
      have hl : ((Q.take i).filter (fun x => decide (x ≠ j))).length ≤ i := Nat.le_trans (List.length_filter_le _ _) (List.length_take_le i Q)
      have hq := hQ Q[i] (List.getElem_mem (by omega))
      have hst := fl_step (Q := Q) (j := j) (i := i) (by omega)
      rw [eX4_fromLine_4, hm, if_neg (nI_ge (by omega) (by omega)), gin (by omega) (by omega), if_pos rfl, if_pos rfl, tn (by omega), hd i (by omega) (Nat.le_refl _), nI_1]
      by_cases q : Q[i] = j
      · rw [if_pos (congrArg nI q)]
        have := ih (i + 1) (by omega) μ hs hm (by rw [hst, if_pos q, List.append_nil]; exact ha) (fun d h h2 => hd d h (by omega))
        rw [hst, if_pos q, List.append_nil] at this
        exact this
      · rw [if_neg (fun z => q (by rwa [neq (by omega) (by omega)] at z)), gin (by omega) (by omega), if_pos rfl, tn (by omega), nI_1]
        have := ih (i + 1) (by omega) (gwI μ 24 ((Q.take i).filter (fun x => decide (x ≠ j))).length (nI Q[i])) ⟨hs.1, fun c d h1 h2 => by rw [gI_r, if_neg (fun z => h1 z.1)]; exact hs.2 c d h1 h2⟩ (by rw [gI_r, if_neg (by omega)]; exact hm) (by
          rw [hst, if_neg q]
          intro d hd2
          rw [gI_r]
          by_cases q2 : d = ((Q.take i).filter (fun x => decide (x ≠ j))).length
          · rw [if_pos ⟨rfl, q2⟩]; subst q2; simp
          · rw [if_neg (fun z => q2 z.2)]
            have hlt : d < ((Q.take i).filter (fun x => decide (x ≠ j))).length := by simp at hd2 q2 ⊢; omega
            rw [List.getElem_append_left hlt]
            exact ha d hlt) (fun d h h2 => by rw [gI_r, if_neg (by omega)]; exact hd d h (by omega))
        rw [hst, if_neg q] at this
        rw [List.length_append] at this
        exact this
  rw [eX4_fromLine]
  exact key Q.length 0 (by omega) b ⟨rfl, fun _ _ _ _ => rfl⟩ h3 (fun i h => absurd h (by simp)) (fun d h _ => ha d h)
theorem orF_upd {f g : Nat → Int32} {X : Int32} {j n : Nat} (hj : j < n) (hg : ∀ i, i ≠ j → g i = f i) (h : g j = f j ||| X) : orF g n = orF f n ||| X := by
  refine b_ext (fun d hd => Bool.eq_iff_iff.mpr ?_)
  rw [b_or, Bool.or_eq_true, orF_bt, orF_bt]
  constructor
  · rintro ⟨i, hi, hb⟩
    by_cases q : i = j
    · subst q
      rw [h, b_or, Bool.or_eq_true] at hb
      rcases hb with hb | hb
      · exact Or.inl ⟨i, hi, hb⟩
      · exact Or.inr hb
    · rw [hg i q] at hb
      exact Or.inl ⟨i, hi, hb⟩
  · rintro (⟨i, hi, hb⟩ | hb)
    · by_cases q : i = j
      · subst q
        exact ⟨i, hi, by rw [h, b_or, hb]; rfl⟩
      · exact ⟨i, hi, by rw [hg i q]; exact hb⟩
    · exact ⟨j, hj, by rw [h, b_or, hb, Bool.or_true]⟩
theorem gwI_id {u : gMem} {c i : Nat} {x : Int32} (h : u.1 c i = x) : gwI u c i x = u := by
  refine Prod.ext (funext fun c' => funext fun i' => ?_) rfl
  show (gwI u c i x).1 c' i' = u.1 c' i'
  rw [gI_r]
  by_cases q : c' = c ∧ i' = i
  · rw [if_pos q, q.1, q.2, h]
  · rw [if_neg q]
