section PLACE
variable {b u b' : gMem} {n a r p t B : Nat} {Q : List Nat}
theorem agOf {S L : List Nat} (H : ∀ c i, c ∉ L → b'.1 c i = b.1 c i) (h : ∀ c ∈ S, c ∉ L) : ag S b b' := fun c hc i => H c i (h c hc)
theorem IJ1.fi {j : Nat} (hJ : IJ1 b p t j) (h : ∀ k, k ∈ [5, 7, 8, 9, 10, 11, 14, 17, 19, 20] → b'.1 k j = b.1 k j) : IJ1 b' p t j := by
  have hj : ∀ k, k ∈ [5, 7, 8, 9, 10, 11, 14, 17, 19, 20] → jn b' k j = jn b k j := fun k hk => by unfold jn; rw [h k hk]
  unfold IJ1 at *; simp (disch := decide) only [h, hj]; exact hJ
theorem bl_fi {j : Nat} (h : ∀ k, k ∈ [13, 14] → b'.1 k j = b.1 k j) : bl b' j = bl b j := by
  unfold bl jn; rw [h 13 (by decide), h 14 (by decide)]
theorem IP1.fi {j : Nat} (hP : IP1 b r p j) (h : ∀ k, k ∈ [9, 12, 13, 14] → b'.1 k j = b.1 k j) (hd : b'.1 0 13 = b.1 0 13) : IP1 b' r p j := by
  have hj : ∀ k, k ∈ [9, 12, 13, 14] → jn b' k j = jn b k j := fun k hk => by unfold jn; rw [h k hk]
  have hb : bl b' j = bl b j := bl_fi (fun k hk => h k (by simp at hk ⊢; omega))
  unfold IP1 at *; simp (disch := decide) only [h, hj, hb, hd]; exact hP
theorem orF_sub {f : Nat → Int32} {n j : Nat} {X : Int32} (hj : j < n) (h : orF f n &&& X = 0) : f j &&& X = 0 := by
  rw [b_z] at *
  intro d hd
  have := h d hd
  rw [b_and] at *
  cases h1 : bt (f j) d with
  | false => rfl
  | true => rw [(orF_bt f d n).mpr ⟨j, hj, h1⟩] at this; exact this
theorem or_z {x y z : Int32} (h : (x ||| y) &&& z = 0) : x &&& z = 0 ∧ y &&& z = 0 := by
  constructor <;> (rw [b_z] at *; intro d hd; have := h d hd; rw [b_and, b_or] at this; rw [b_and]; revert this; cases bt x d <;> cases bt y d <;> simp)
theorem and_cm (x y : Int32) : x &&& y = y &&& x := b_ext (fun d _ => by rw [b_and, b_and, Bool.and_comm])
theorem Q_mem (h : BW b u n a r p t Q B) {j : Nat} (hj : j ∈ Q) : j < n ∧ b.1 9 j = 1 := (h.Q.2.2.2.2.1 j).mp hj
theorem place_rel {j s c w : Nat} {f : Int32} (h : BW b u n a r p t Q B) (hj : j ∈ Q) (hs : s < r) (hw : jn b 14 j = w) (hcw : c % w = 0) (hcp : c + w ≤ p) (hfree : (b.1 32 s ||| b.1 0 13) &&& BK c w = 0)
    (H1 : ∀ c' i, c' ∉ [3, 24, 9, 19, 12, 13, 32] → b'.1 c' i = b.1 c' i) (H2 : b'.2 = b.2) (H3 : b'.1 3 2 = b.1 3 2) (H4 : b'.1 3 3 = nI (Q.filter (fun x => decide (x ≠ j))).length) (H5 : arr b' 24 (Q.filter (fun x => decide (x ≠ j))))
    (H6 : ∀ i, b'.1 9 i = if i = j then 2 else b.1 9 i) (H7 : ∀ i, b'.1 12 i = if i = j then nI s else b.1 12 i) (H8 : ∀ i, b'.1 13 i = if i = j then nI c else b.1 13 i) (H9 : ∀ i, b'.1 32 i = if i = s then b.1 32 s ||| BK c w else b.1 32 i) (H10 : ∀ i, b'.1 19 i = if i = j then f else b.1 19 i) (Hf : f = if b.1 19 j = -1 then b.1 0 12 else b.1 19 j) :
    BW b' (wA (wA (wA (wA u j 4 2) j 7 (nI s + 1)) j 8 (nI c + 1)) j 14 (f + 1)) n a r p t (Q.filter (fun x => decide (x ≠ j))) B := by
  have hn := h.A.n60
  have ha : a ≤ 60 := by have := h.A.2.2.2.1; omega
  have hr := h.A.2.2.2.2.1
  have hp := h.A.p32
  obtain ⟨hjn, hj9⟩ := Q_mem h hj
  have hJ := h.J j hjn
  have hPj : b.1 12 j = -1 ∧ b.1 13 j = -1 := by
    rcases h.P.1 j hjn with q | q
    · rw [hj9] at q; exact absurd q.1 (by decide)
    · exact q.2
  have hwp := (wd_pos (jn b 5 j))
  have hwd : w = wd (jn b 5 j) := by rw [← hw, jw hJ]
  have hag : ag [5, 6, 7, 8, 10, 11, 14, 15, 16, 17, 18, 20, 21, 22, 23] b b' := agOf H1 (by decide)
  have hd : b'.1 0 13 = b.1 0 13 := H1 0 13 (by decide)
  have hne : ∀ i, i ≠ j → ∀ k, k < 24 ∧ 5 ≤ k → b'.1 k i = b.1 k i := by
    intro i hi k hk
    by_cases q : k ∈ [3, 24, 9, 19, 12, 13, 32]
    · simp only [List.mem_cons, List.not_mem_nil] at q
      rcases q with q | q | q | q | q | q | q | q
      · omega
      · omega
      · subst q; rw [H6, if_neg hi]
      · subst q; rw [H10, if_neg hi]
      · subst q; rw [H7, if_neg hi]
      · subst q; rw [H8, if_neg hi]
      · omega
      · exact absurd q (by simp)
    · exact H1 k i q
  have hblj : bl b' j = BK c w := by
    unfold bl jn; rw [H8, if_pos rfl, tn (by omega), hag.c 14 j (by decide)]
    show BK c (jn b 14 j) = _
    rw [hw]
  have hbl : ∀ i, i ≠ j → bl b' i = bl b i := fun i hi => bl_fi (fun k hk => hne i hi k (by simp at hk; omega))
  have hz := or_z hfree
  refine ⟨⟨?_, ?_, ?_, ?_, ?_, ?_⟩, ?_, ?_, ?_, ?_, ?_, ?_, ?_, ?_, ?_, ?_⟩
  · refine h.e.1.fr (agOf H1 (by decide)) (fun i hi => by rw [wA_h (by omega), wA_h (by omega), wA_h (by omega), wA_h (by omega)]) ?_
    obtain ⟨g1, g2, g3, g4, g5, g6, g7⟩ := h.e.1.2.1
    rw [H3, hd, H1 0 12 (by decide), H1 33 1 (by decide), H1 29 3 (by decide), H1 39 1 (by decide), H1 46 1 (by decide)]
    refine ⟨?_, ?_, ?_, ?_, ?_, ?_, ?_⟩ <;> rw [wA_h (by omega), wA_h (by omega), wA_h (by omega), wA_h (by omega)] <;> assumption
  · intro i hi
    obtain ⟨e0, e1, e2, e3, e4, e5, e6, e7, e8, e9, e10, e11, e12, e13, e14, e15, e16, e17, e18⟩ := h.e.2.1 i hi
    unfold EJ1
    simp (disch := omega) only [mA_wA]
    simp (disch := decide) only [hag.c, H6, H7, H8, H10]
    by_cases q : i = j
    · subst q; simp [e0, e1, e2, e3, e5, e6, e9, e10, e11, e12, e13, e15, e16, e17, e18]
    · simp [q, e0, e1, e2, e3, e4, e5, e6, e7, e8, e9, e10, e11, e12, e13, e14, e15, e16, e17, e18]
  · exact h.e.2.2.1.fr ha (agOf H1 (by decide)) ((((ug.rf.w (by omega)).w (by omega)).w (by omega)).w (by omega))
  · exact h.e.2.2.2.1.fr hr (agOf H1 (by decide)) ((((ug.rf.w (by omega)).w (by omega)).w (by omega)).w (by omega)) (fun s _ => by rw [H2]) (fun _ _ => rfl)
  · exact h.e.2.2.2.2.1.fr (agOf H1 (by decide)) ((((ug.rf.w (by omega)).w (by omega)).w (by omega)).w (by omega))
  · exact h.e.2.2.2.2.2.fr (agOf H1 (by decide)) ((((ug.rf.w (by omega)).w (by omega)).w (by omega)).w (by omega))
  · exact h.A.fr H3 (H1 33 1 (by decide)) (H1 29 3 (by decide)) (H1 1 0 (by decide))
  · exact h.T.fr (agOf H1 (by decide))
  · intro i hi
    by_cases q : i = j
    · subst q
      obtain ⟨j1, j2, j3, j4, j5, j6, j7, j8⟩ := hJ
      unfold IJ1 jn at *
      simp (disch := decide) only [hag.c, H6, H10, if_pos]
      refine ⟨j1, j2, j3, ⟨by decide, by decide, fun z => absurd z (by decide)⟩, ⟨j5.1, j5.2.1, j5.2.2.1, j5.2.2.2.1, fun z => absurd z (by decide), fun _ => j5.2.2.2.2.2 (by rw [hj9]; decide)⟩, j6, j7, ?_⟩
      rw [Hf]
      obtain ⟨tm, ht, ht1⟩ := h.B.1
      have ht2 := h.B.2.1
      split
      · rw [ht, tn (by omega)]; exact Or.inr ⟨rfl, ht1⟩
      · exact j8
    · exact (h.J i hi).fi (fun k hk => hne i q k (by simp at hk; omega))
  · refine ⟨fun i hi => ?_, fun i k hi hk hik h9 h12 => ?_⟩
    · by_cases q : i = j
      · subst q
        refine Or.inl ⟨by rw [H6, if_pos rfl], ?_, ?_, ?_, ?_, ?_⟩
        · unfold jn; rw [H7, if_pos rfl, tn (by omega)]; exact ⟨rfl, hs⟩
        · unfold jn; rw [H8, if_pos rfl, tn (by omega)]
        · unfold jn; rw [H8, if_pos rfl, tn (by omega), hag.c 14 i (by decide)]; show c % jn b 14 i = 0; rw [hw]; exact hcw
        · unfold jn; rw [H8, if_pos rfl, tn (by omega), hag.c 14 i (by decide)]; show c + jn b 14 i ≤ p; rw [hw]; exact hcp
        · rw [hd, hblj]; exact hz.2
      · exact (h.P.1 i hi).fi (fun k hk => hne i q k (by simp at hk; omega)) hd
    · have hsub : ∀ x, x < n → x ≠ j → b.1 12 x = nI s → bl b x &&& BK c w = 0 := by
        intro x hx hxj hxs
        have h1 := hz.1
        rw [h.S s hs] at h1
        have h2 := orF_sub hx h1
        unfold sb at h2
        rw [if_pos hxs] at h2
        exact h2
      by_cases qi : i = j
      · subst qi
        rw [hblj, hbl k (fun z => hik z.symm), and_cm]
        rw [H7, if_pos rfl, H7, if_neg (fun z => hik z.symm)] at h12
        exact hsub k hk (fun z => hik z.symm) h12.symm
      · by_cases qk : k = j
        · subst qk
          rw [hblj, hbl i qi]
          rw [H7, if_neg qi, H7, if_pos rfl] at h12
          exact hsub i hi qi h12
        · rw [hbl i qi, hbl k qk]
          rw [H7, if_neg qi, H7, if_neg qk] at h12
          rw [H6, if_neg qi] at h9
          exact h.P.2 i k hi hk hik h9 h12
  · intro x hx
    have hsb : ∀ i, i ≠ j → sb b' x i = sb b x i := fun i hi => by unfold sb; rw [H7, if_neg hi, hbl i hi]
    have hsj : sb b x j = 0 := by unfold sb; rw [hPj.1, if_neg (fun z => nm1 (by omega) z.symm)]
    rw [H9]
    by_cases q : x = s
    · subst q
      rw [if_pos rfl, h.S x hs]
      refine (orF_upd hjn hsb ?_).symm
      rw [hsj, or0]; unfold sb; rw [H7, if_pos rfl, if_pos rfl, hblj]
    · rw [if_neg q, h.S x hx]
      refine Eq.trans (b := orF (sb b x) n ||| 0) (b_ext (fun d _ => by rw [b_or, b_0, Bool.or_false])) (orF_upd (X := 0) hjn hsb ?_).symm
      rw [hsj, or0]; unfold sb; rw [H7, if_pos rfl, if_neg (fun z => q (by rw [neq (by omega) (by omega)] at z; exact z.symm))]
  · exact h.U.fr (agOf H1 (by decide))
  · exact h.R.fr (agOf H1 (by decide))
  · exact h.D.fr hd
  · obtain ⟨q1, q2, q3, q4, q5, ⟨cm, q6, q7, q8⟩, q9⟩ := h.Q
    have h19 : ∀ i, i < 60 → mA (wA (wA (wA (wA u j 4 2) j 7 (nI s + 1)) j 8 (nI c + 1)) j 14 (f + 1)) i 19 = mA u i 19 := by
      intro i hi
      simp (disch := omega) only [mA_wA]
      simp
    have hj19 : ∀ i, i < 60 → jn (wA (wA (wA (wA u j 4 2) j 7 (nI s + 1)) j 8 (nI c + 1)) j 14 (f + 1)) 1 (42 + 20 * i + 19) = jn u 1 (42 + 20 * i + 19) := fun i hi => congrArg Int32.toNatClampNeg (h19 i hi)
    have hm60 : ∀ x, x ∈ Q → x < 60 := fun x hx => by have := ((q5 x).mp hx).1; omega
    refine ⟨H4, Nat.le_trans (List.length_filter_le _ _) q2, H5, q4.filter _, fun x => ?_, ⟨cm, by rw [wA_h (by omega), wA_h (by omega), wA_h (by omega), wA_h (by omega)]; exact q6, q7, fun x hx => ?_⟩, ?_⟩
    · rw [List.mem_filter, q5, H6]
      by_cases qx : x = j
      · subst qx; simp
      · simp [qx]
    · have hx := (List.mem_filter.mp hx).1
      rw [hj19 x (hm60 x hx), h19 x (hm60 x hx)]
      exact q8 x hx
    · refine (q9.filter _).imp_of_mem (fun {x y} hx hy hxy => ?_)
      rw [hj19 x (hm60 x (List.mem_filter.mp hx).1), hj19 y (hm60 y (List.mem_filter.mp hy).1)]
      exact hxy
  · exact h.B.fr (H1 0 12 (by decide)) (H1 39 1 (by decide)) (H1 46 1 (by decide))
end PLACE
