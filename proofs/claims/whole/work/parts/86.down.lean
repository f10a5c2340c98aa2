/-! processors that fail and come back -/
section DOWN
variable {b u b' u' : gMem} {n a r p t B : Nat} {Q : List Nat}
theorem dn_rel {D : Int32} (h : BW b u n a r p t Q B) (h1 : ∀ j, j < n → b.1 9 j = 2 → D &&& bl b j = 0) (h2 : ∀ c, c < 32 → bt D c = true → c < p) : BW (gwI b 0 13 D) (wH u 14 D) n a r p t Q B := by
  have hn := h.A.n60
  have ha : a ≤ 60 := by have := h.A.2.2.2.1; omega
  have hr := h.A.2.2.2.2.1
  have hc : ∀ c i, ¬ (c = 0 ∧ i = 13) → (gwI b 0 13 D).1 c i = b.1 c i := fun c i hc => by rw [gI_r, if_neg hc]
  have hag : ∀ S : List Nat, 0 ∉ S → ag S b (gwI b 0 13 D) := fun S hS => ag.rf.w hS
  have hU : ∀ i, i ≠ 14 → (wH u 14 D).1 1 i = u.1 1 i := fun i hi => by rw [wH_h, if_neg hi]
  have hug : ∀ lo hi, 14 < lo → ug lo hi u (wH u 14 D) := fun lo hi h1 i h3 h4 => hU i (by omega)
  refine ⟨⟨?_, ?_, ?_, ?_, ?_, ?_⟩, ?_, ?_, ?_, ⟨?_, ?_⟩, ?_, ?_, ?_, ?_, ?_, ?_⟩
  · refine h.e.1.fr (hag _ (by decide)) (fun i hi => hU i (by omega)) ?_
    obtain ⟨g1, g2, g3, g4, g5, g6, g7⟩ := h.e.1.2.1
    refine ⟨?_, ?_, ?_, ?_, rfl, ?_, ?_⟩ <;> rw [hU _ (by omega), hc _ _ (by omega)] <;> assumption
  · exact h.e.2.1.fr hn (hag _ (by decide)) (hug _ _ (by omega))
  · exact h.e.2.2.1.fr ha (hag _ (by decide)) (hug _ _ (by omega))
  · exact h.e.2.2.2.1.fr hr (hag _ (by decide)) (hug _ _ (by omega)) (fun _ _ => rfl) (fun _ _ => rfl)
  · exact h.e.2.2.2.2.1.fr (hag _ (by decide)) (hug _ _ (by omega))
  · exact h.e.2.2.2.2.2.fr (hag _ (by decide)) (hug _ _ (by omega))
  · exact h.A.fr (hc _ _ (by omega)) (hc _ _ (by omega)) (hc _ _ (by omega)) (hc _ _ (by omega))
  · exact h.T.fr (hag _ (by decide))
  · exact h.J.fr (hag _ (by decide))
  · intro j hj
    by_cases q : b.1 9 j = 2
    · obtain ⟨y1, y3, y4, y5, y6⟩ := ip_yes (h.P.1 j hj) q
      exact Or.inl ⟨q, y1, y3, y4, y5, h1 j hj q⟩
    · obtain ⟨y1, y2⟩ := ip_no (h.P.1 j hj) q
      exact Or.inr ⟨q, y1, y2⟩
  · exact h.P.2
  · exact h.S.fr (hag _ (by decide))
  · exact h.U.fr (hag _ (by decide))
  · exact h.R.fr (hag _ (by decide))
  · exact h2
  · exact h.Q.fr hn (hag _ (by decide)) (hc _ _ (by omega)) (hU _ (by omega)) (fun j hj => hU _ (by omega))
  · exact h.B.fr (hc _ _ (by omega)) (hc _ _ (by omega)) (hc _ _ (by omega))
theorem and_bit {x : Int32} {c : Nat} (hc : c < 32) : x &&& ((1 : Int32) <<< (nI c &&& 31)) = 0 ↔ bt x c = false := by
  rw [b_z]
  constructor
  · intro h
    have := h c hc
    rw [b_and, b_1shl hc hc] at this
    simpa using this
  · intro h d hd
    rw [b_and, b_1shl hc hd]
    by_cases q : d = c
    · rw [q, h]; rfl
    · simp [q]
theorem down_loop {D : Int32} {c : Nat} (hc : c < 32) : ∀ k j, j + k = n → ∀ (b u : gMem) (Q : List Nat) (B : Nat), BW (gwI b 0 13 D) u n a r p t Q B → IL b → B + 2 * k ≤ 1000000000 → (∀ i, i < j → b.1 9 i = 2 → bt (bl b i) c = false) → ∃ (b' u' : gMem) (Q' : List Nat), rX2_putBack_2 (-1) ((1 : Int32) <<< (nI c &&& 31)) (nI j) b = some (none, b') ∧ rX10_down_25 (nI c) (nI j) u = rX10_down_25 (nI c) (nI n) u' ∧ BW (gwI b' 0 13 D) u' n a r p t Q' (B + 2 * k) ∧ IL b' ∧ (∀ i, i < n → b'.1 9 i = 2 → bt (bl b' i) c = false) ∧ b'.1 0 13 = b.1 0 13 ∧ im u u' := by
  intro k
  induction k with
  | zero =>
    intro j hj b u Q B h hIL h9 hd
    have : j = n := by omega
    subst this
    have hn := h.A.n60
    refine ⟨b, u, Q, ?_, rfl, h, hIL, hd, rfl, im.rf⟩
    rw [eX2_putBack_2, show b.1 3 2 = nI j from h.A.1, if_pos (nI_le (Nat.le_refl _) (by omega))]
  | succ k ih =>
    intro j hj b u Q B h hIL h9 hd
    have hn := h.A.n60
    have hjn : j < n := by omega
    have hp := h.A.p32
    have hr1 : rX10_down_25 (nI c) (nI j) u = (if b.1 9 j = 2 ∧ bt (bl b j) c = true then g_cv (mX10_putsBack [.ref 0, .int (nI j)] u) (fun u5 => rX10_down_25 (nI c) (nI (j + 1)) u5) else rX10_down_25 (nI c) (nI (j + 1)) u) := by
      rw [eX10_down_25, h.e.h.n, h.A.1, if_neg (nI_ge (by omega) (by omega)), m_isPlaced h.e hjn hn, g_ci_some, nI_1, show (gwI b 0 13 D).1 9 j = b.1 9 j from rfl]
      by_cases q : b.1 9 j = 2
      · rw [if_pos q, if_neg (by decide), m_blockOf h.e hjn hn (h.J j hjn) (ip_col (h.P.1 j hjn) q), g_ci_some, s_bit hc, show bl (gwI b 0 13 D) j = bl b j from rfl]
        cases z : bt (bl b j) c with
        | true => rw [if_pos (by rfl), if_pos ⟨q, rfl⟩]
        | false => rw [if_neg (by decide), if_neg (fun y => absurd y.2 (by decide))]
      · rw [if_neg q, if_pos rfl, if_neg (fun y => q y.1)]
    rcases back_step (v1 := -1) (v2 := (1 : Int32) <<< (nI c &&& 31)) h (by omega) hjn (fun h2 => hIL j (by omega) h2) with ⟨q1, q2⟩ | ⟨q1, b1, u1, g1, g2, g3, g4, g5, g6, g7⟩
    · have hno : ¬ (b.1 9 j = 2 ∧ bt (bl b j) c = true) := fun z => by
        unfold pbW at q1
        have hz : ¬ (bl b j &&& (1 : Int32) <<< (nI c &&& 31) = 0) := fun y => by rw [and_bit hc, z.2] at y; exact absurd y (by decide)
        simp [z.1, hz] at q1
      rw [hr1, if_neg hno, q2]
      obtain ⟨b', u', Q', w1, w2, w3, w4, w5, w6, w7⟩ := ih (j + 1) (by omega) b u Q B h hIL (by omega) (fun i hi h2 => by
        by_cases z : i = j
        · cases y : bt (bl b i) c with
          | false => rfl
          | true => exact absurd ⟨by rw [← z]; exact h2, by rw [← z]; exact y⟩ hno
        · exact hd i (by omega) h2)
      exact ⟨b', u', Q', w1, w2, w3.mono (by omega) (by omega), w4, w5, w6, w7⟩
    · have hyes : b.1 9 j = 2 ∧ bt (bl b j) c = true := by
        unfold pbW at q1
        simp at q1
        refine ⟨q1.1, ?_⟩
        cases y : bt (bl b j) c with
        | true => rfl
        | false => exact absurd ((and_bit hc).mpr y) q1.2
      have hbl : ∀ i, i ≠ j → bl b1 i = bl b i := fun i hi => bl_fi (fun k hk => g5 k i (by simp at hk ⊢; omega) hi)
      have h9i : ∀ i, i ≠ j → b1.1 9 i = b.1 9 i := fun i hi => g5 9 i (by decide) hi
      obtain ⟨b', u', Q', w1, w2, w3, w4, w5, w6, w7⟩ := ih (j + 1) (by omega) b1 u1 _ (B + 2) g3 (fun i hi h2 => by
        by_cases z : i = j
        · rw [z, g6] at h2; exact absurd h2 (by decide)
        · rw [g5 10 i (by decide) z]; exact hIL i hi ((h9i i z).symm.trans h2)) (by omega) (fun i hi h2 => by
        by_cases z : i = j
        · rw [z, g6] at h2; exact absurd h2 (by decide)
        · rw [hbl i z]; exact hd i (by omega) ((h9i i z).symm.trans h2))
      refine ⟨b', u', Q', by rw [g1]; exact w1, ?_, w3.mono (by omega) (by omega), w4, w5, w6.trans (g7 0 13 (by decide)), g4.tr w7⟩
      rw [hr1, if_pos hyes, g2, g_cv_some]; exact w2
theorem down_both {c : Nat} (h : BR b u n a r p t Q B) (hc : c < p) (h9 : B + 120 ≤ 1000000000) : ∃ (b' u' : gMem) (r' : Nat) (Q' : List Nat), mX2_fail [.ref 0, .int (nI c)] b = some (none, b') ∧ rX10_down_25 (nI c) 0 u = g_cv (mX10_goesOn [.ref 0] u') (fun u2 => some (some (.int 1), u2)) ∧ BR b' u' n a r' p t Q' (B + 120) ∧ im u u' := by
  obtain ⟨hw, h0, hIL⟩ := BR_iff.mp h
  have hn := hw.A.n60
  have hp := hw.A.p32
  have hv : gwI (gwI b 0 13 (b.1 0 13 ||| (1 : Int32) <<< (nI c &&& 31))) 0 13 (b.1 0 13) = b := by rw [gwI_ow]; exact gwI_id rfl
  obtain ⟨b1, u1, Q1, g1, g2, g3, g4, g5, g6, g7⟩ := down_loop (n := n) (D := b.1 0 13) (c := c) (show c < 32 by omega) n 0 (by omega) (gwI b 0 13 (b.1 0 13 ||| (1 : Int32) <<< (nI c &&& 31))) u Q B (by rw [hv]; exact hw) (fun i hi => hIL i hi) (by omega) (fun i hi => by omega)
  have hb13 : b1.1 0 13 = b.1 0 13 ||| (1 : Int32) <<< (nI c &&& 31) := g6.trans (by rw [gI_r, if_pos ⟨rfl, rfl⟩])
  have hdn := dn_rel (D := b.1 0 13 ||| (1 : Int32) <<< (nI c &&& 31)) g3 (fun j hj h2 => by
    have y6 := (ip_yes (g3.P.1 j hj) h2).2.2.2.2
    have e : (gwI b1 0 13 (b.1 0 13)).1 0 13 = b.1 0 13 := by rw [gI_r, if_pos ⟨rfl, rfl⟩]
    rw [e] at y6
    have hb : bt (bl b1 j) c = false := g5 j hj h2
    show (b.1 0 13 ||| (1 : Int32) <<< (nI c &&& 31)) &&& bl b1 j = 0
    rw [b_z]
    intro d hd
    have y6' : bt (b.1 0 13 &&& bl b1 j) d = false := b_z.mp y6 d hd
    rw [b_and] at y6'
    rw [b_and, b_or, b_1shl (by omega) hd]
    by_cases q : d = c
    · rw [q, hb]; simp
    · simp only [q, decide_false, Bool.or_false]; exact y6') (fun d hd hb => by
    rw [b_or, b_1shl (by omega) hd] at hb
    rw [Bool.or_eq_true] at hb
    rcases hb with hb | hb
    · exact hw.D d hd hb
    · have := of_decide_eq_true hb; omega)
  rw [gwI_ow, gwI_id hb13] at hdn
  obtain ⟨b2, u2, r2, k1, k2, k3, k4, k5, k6⟩ := close_both hdn
  refine ⟨b2, u2, r2, Q1, ?_, ?_, BR_iff.mpr ⟨k3.mono (by omega) h9, k4, fun i hi => ?_⟩, ?_⟩
  · rw [eX2_fail, eX2_putBack, show rX2_putBack_2 (-1) ((1 : Int32) <<< (nI c &&& 31)) 0 (gwI b 0 13 (b.1 0 13 ||| (1 : Int32) <<< (nI c &&& 31))) = _ from g1, g_cv_some, k1, g_cv_some]
  · have e14 : u1.1 1 14 = b.1 0 13 := g3.e.h.d.trans (by rw [gI_r, if_pos ⟨rfl, rfl⟩])
    rw [show rX10_down_25 (nI c) 0 u = _ from g2, eX10_down_25, g3.e.h.n, g3.A.1, if_pos (nI_le (Nat.le_refl _) (by omega)), e14, show mX10_closes [.ref 0] (gwI u1 1 14 (b.1 0 13 ||| (1 : Int32) <<< (nI c &&& 31))) = _ from k2, g_cv_some]
  · rw [k6 9 i (by decide), k6 10 i (by decide)]; exact g4 i hi
  · have i1 : im u1 (wH u1 14 (b.1 0 13 ||| (1 : Int32) <<< (nI c &&& 31))) := ⟨fun c i hc => wH_c (by omega), wH_c (by omega), fun _ _ _ => rfl⟩
    exact (g7.tr i1).tr k5
end DOWN
