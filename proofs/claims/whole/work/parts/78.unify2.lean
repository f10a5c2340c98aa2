section UNIFY2
variable {b u b' u' : gMem} {n a r p t B : Nat} {Q : List Nat}
theorem c_line {x : Nat} {wh j s c : Int32} (hx : b.1 39 1 = nI x) (h : x < 2147483648) : mX6_add [.ref 39, .int (b.1 0 12), .int wh, .int j, .int s, .int c] b = some (none, lgB b x wh j s c) := by
  have hk : x % 60 < 60 := Nat.mod_lt _ (by omega)
  rw [eX6_add_39, hx, c_mod60 h, g_ci_some, gin hk (by omega), if_pos rfl, if_pos rfl, if_pos rfl, if_pos rfl, if_pos rfl, tn (show x % 60 < 2147483648 by omega)]
  have e : (gwI (gwI (gwI (gwI (gwI b 41 (x % 60) (b.1 0 12)) 42 (x % 60) wh) 43 (x % 60) j) 44 (x % 60) s) 45 (x % 60) c).1 39 1 = nI x := hx
  rw [e, nI_1]
  rfl
theorem lgB_tal {x k : Nat} {wh j s c V : Int32} : lgB (gwI b 2 k V) x wh j s c = gwI (lgB b x wh j s c) 2 k V := by
  unfold lgB
  rw [show (gwI b 2 k V).1 0 12 = b.1 0 12 from rfl, gwI_comm (c := 2) (i := k) (c' := 41) (by omega), gwI_comm (c := 2) (i := k) (c' := 42) (by omega), gwI_comm (c := 2) (i := k) (c' := 43) (by omega), gwI_comm (c := 2) (i := k) (c' := 44) (by omega), gwI_comm (c := 2) (i := k) (c' := 45) (by omega), gwI_comm (c := 2) (i := k) (c' := 39) (by omega)]
theorem unB_tal {μ : gMem} {x y k : Nat} {V : Int32} (h : unB μ b' n r x y) : unB (gwI μ 2 k V) (gwI b' 2 k V) n r x y := by
  obtain ⟨d1, d2, d3, d4, d5, d6⟩ := h
  refine ⟨fun c i hc => ?_, d2, d3, d4, d5, d6⟩
  rw [gI_r, gI_r]
  by_cases q : c = 2 ∧ i = k
  · rw [if_pos q, if_pos q]
  · rw [if_neg q, if_neg q]; exact d1 c i hc
def ufR (b u : gMem) (V : Int32) (n a r p t : Nat) (Q : List Nat) (B : Nat) (o o2 : Option gR) : Prop := (o = some (some (.int 0), b) ∧ o2 = some (some (.int 0), u)) ∨ (∃ b' u', o = some (some (.int 1), b') ∧ o2 = some (some (.int 1), u') ∧ 2 ≤ r ∧ BW (gwI b' 2 7 (V + 1)) u' n a (r - 1) p t Q (B + 1) ∧ im u u' ∧ (∀ c i, c ∉ [12, 29, 31, 32, 39, 41, 42, 43, 44, 45] → b'.1 c i = b.1 c i) ∧ ((∀ s, s < r → b.1 32 s ≠ 0) → ∀ s, s < r - 1 → b'.1 32 s ≠ 0))
theorem uf_hit {x y : Nat} {V : Int32} (h : BW (gwI b 2 7 V) u n a r p t Q B) (h9 : B + 1 ≤ 1000000000) (hxy : x < y) (hy : y < r) (hz : b.1 32 x &&& b.1 32 y = 0) : ufR b u V n a r p t Q B (g_cv (mX2_unite [.ref 0, .int (nI x), .int (nI y)] b) (fun u1 => some (some (.int 1), u1))) (rX10_unifiesOne_49 (nI x) (nI y) 0 u) := by
  have hn := h.A.n60
  have hr := h.A.2.2.2.2.1
  obtain ⟨X, hX, hXB⟩ := h.B.2.2.1
  have hXb : b.1 39 1 = nI X := hX
  have hXu : u.1 1 15 = nI X := h.e.1.2.1.2.2.2.2.2.1.trans hX
  have hB9 := h.B.2.2.2.2
  have hlog := log_rel (wh := 7) (j := -1) (s := nI x) (c := nI y) h hX hXB h9
  rw [lgB_tal] at hlog
  obtain ⟨b1, c1, c2⟩ := c_unite0 (μ := lgB b X 7 (-1) (nI x) (nI y)) (n := n) (r := r) (x := x) (y := y) ((lgB_c (by decide)).trans h.A.2.2.1) hr hxy hy ((lgB_c (by decide)).trans h.A.1) hn
  obtain ⟨u1, m1, m2⟩ := m_unite0 (u := u) (n := n) (r := r) (x := x) (y := y) (h.e.h.r.trans h.A.2.2.1) hr hxy hy (h.e.h.n.trans h.A.1) hn
  have hu15 : u1.1 1 15 = nI X := (m1.2.1 15 (by omega) (by omega) (by omega)).trans hXu
  have hz2 : (gwI (lgB b X 7 (-1) (nI x) (nI y)) 2 7 V).1 32 x &&& (gwI (lgB b X 7 (-1) (nI x) (nI y)) 2 7 V).1 32 y = 0 := hz
  have hrel := unite_rel hlog hxy hy hz2 (unB_tal c2) (unU_lg m1 hn hr hxy hy)
  have ht := tal_rel (k := 7) (x := V + 1) hrel (by omega)
  rw [gwI_ow] at ht
  have e25 : (lgU u1 X 7 (-1) (nI x) (nI y)).1 1 25 = V := (hrel.e.1.2.2.1 7 (by omega)).trans (by rw [gI_r, if_pos ⟨rfl, rfl⟩])
  refine Or.inr ⟨b1, _, ?_, ?_, by omega, ht, ?_, fun c i hc => ?_, fun h0 s hs => ?_⟩
  · rw [eX2_unite, c_line hXb (by omega), g_cv_some, c1, g_cv_some]
  · rw [m2, m_writes hu15 (by omega), g_cv_some, more_25, g_cv_some, e25]
  · refine ⟨fun c i hc => ?_, ?_, fun c i hc => ?_⟩
    · rw [wH_c (by omega), lg_c (by omega)]; exact m1.1 c i (by omega)
    · rw [wH_c (by omega), lg_c (by omega)]; exact m1.1 0 27 (by omega)
    · exact m1.2.2.2.2.2.1 c i hc
  · rw [c2.1 c i (fun z => hc (by simp at z ⊢; omega)), lgB_c (fun z => hc (by simp at z ⊢; omega))]
  · rw [c2.2.2.1 s hs]
    by_cases w : s = x
    · rw [if_pos w, lgB_c (by decide), lgB_c (by decide)]; exact or_ne (h0 y hy)
    · rw [if_neg w, lgB_c (by decide)]
      refine h0 _ ?_
      unfold up; split <;> omega
theorem uf_both {V : Int32} (h : BW (gwI b 2 7 V) u n a r p t Q B) (h9 : B + 1 ≤ 1000000000) : ufR b u V n a r p t Q B (mX2_unifyFirst [.ref 0] b) (mX10_unifiesOne [.ref 0] u) := by
  have hn := h.A.n60
  have hr := h.A.2.2.2.2.1
  have hbr : b.1 29 3 = nI r := h.A.2.2.1
  have hur : u.1 1 13 = nI r := h.e.h.r.trans h.A.2.2.1
  have hS : ∀ s, s < r → mX10_blocksIn [.ref 0, .int (nI s), .int (-1)] u = some (some (.int (b.1 32 s)), u) := fun s hs => by
    rw [m_blocksIn0 h.e h.A h.J h.P (by omega), ← h.S s hs]; rfl
  have outer : ∀ k x, x + k = r → ufR b u V n a r p t Q B (rX2_unifyFirst_2 (nI x) b) (rX10_unifiesOne_2 (nI x) u) := by
    intro k
    induction k with
    | zero =>
      intro x hx
      rw [eX2_unifyFirst_2, hbr, if_pos (nI_le (by omega) (by omega)), eX10_unifiesOne_2, hur, if_pos (nI_le (by omega) (by omega))]
      exact Or.inl ⟨rfl, rfl⟩
    | succ k ih =>
      intro x hx
      have inner : ∀ m y, y + m = r → x < y → ufR b u V n a r p t Q B (rX2_unifyFirst_17 (nI x) (nI y) b) (rX10_unifiesOne_17 (nI x) (nI y) u) := by
        intro m
        induction m with
        | zero =>
          intro y hy _
          rw [eX2_unifyFirst_17, hbr, if_pos (nI_le (by omega) (by omega)), eX10_unifiesOne_17, hur, if_pos (nI_le (by omega) (by omega)), nI_1]
          exact ih (x + 1) (by omega)
        | succ m ih2 =>
          intro y hy hxy
          rw [eX2_unifyFirst_17, hbr, if_neg (nI_ge (by omega) (by omega)), gin (show x < 8 by omega) (by omega), gin (show y < 8 by omega) (by omega), if_pos rfl, if_pos rfl, tn (show x < 2147483648 by omega), tn (show y < 2147483648 by omega), eX10_unifiesOne_17, hur, if_neg (nI_ge (by omega) (by omega)), hS x (by omega), g_ci_some, hS y (by omega), g_ci_some, nI_1]
          by_cases q : b.1 32 x &&& b.1 32 y = 0
          · rw [if_pos q, if_pos q]; exact uf_hit h h9 hxy (by omega) q
          · rw [if_neg q, if_neg q]; exact ih2 (y + 1) (by omega) (by omega)
      rw [eX2_unifyFirst_2, hbr, if_neg (nI_ge (by omega) (by omega)), eX10_unifiesOne_2, hur, if_neg (nI_ge (by omega) (by omega)), nI_1]
      exact inner (r - (x + 1)) (x + 1) (by omega) (by omega)
  rw [eX2_unifyFirst, eX10_unifiesOne]
  exact outer r 0 (by omega)
theorem un_loop {W : Int32} : ∀ k (b u : gMem) (r g B : Nat), r ≤ k → BW (gwI b 2 7 (W + nI g)) u n a r p t Q B → b.1 2 7 = W → g + r ≤ 8 → B + k + 1 ≤ 1000000000 → ∃ (b' u' : gMem) (r' g' : Nat), rX2_unifyAll_2 (nI g) b = some (some (.int (nI g')), b') ∧ rX10_unifies_2 (nI g) u = some (some (.int (nI g')), u') ∧ BW b' u' n a r' p t Q (B + k) ∧ im u u' ∧ (∀ c i, c ∉ [2, 12, 29, 31, 32, 39, 41, 42, 43, 44, 45] → b'.1 c i = b.1 c i) ∧ ((∀ s, s < r → b.1 32 s ≠ 0) → ∀ s, s < r' → b'.1 32 s ≠ 0) := by
  intro k
  induction k with
  | zero =>
    intro b u r g B hk h hW hg h9
    rcases uf_both h (by omega) with ⟨q1, q2⟩ | ⟨b', u', q1, q2, q3, -⟩
    · refine ⟨gwI b 2 7 (W + nI g), u, r, g, ?_, ?_, h, im.rf, fun c i hc => ?_, fun h0 s hs => h0 s hs⟩
      · rw [eX2_unifyAll_2]
        by_cases g8 : 8 ≤ g
        · rw [if_pos (show (8 : Int32) ≤ nI g from nI_le (a := 8) (b := g) g8 (by omega)), hW]
        · rw [if_neg (show ¬ (8 : Int32) ≤ nI g from nI_ge (a := g) (b := 8) (by omega) (by omega)), q1, g_ci_some, if_pos rfl, hW]
      · rw [eX10_unifies_2, q2, g_ci_some, if_pos rfl]
      · simp only [List.mem_cons, not_or, List.not_mem_nil] at hc
        rw [gI_r, if_neg (by omega)]
    · omega
  | succ k ih =>
    intro b u r g B hk h hW hg h9
    rcases uf_both h (by omega) with ⟨q1, q2⟩ | ⟨b1, u1, q1, q2, q3, q4, q5, q6, q7⟩
    · refine ⟨gwI b 2 7 (W + nI g), u, r, g, ?_, ?_, h.mono (by omega) (by omega), im.rf, fun c i hc => ?_, fun h0 s hs => h0 s hs⟩
      · rw [eX2_unifyAll_2]
        by_cases g8 : 8 ≤ g
        · rw [if_pos (show (8 : Int32) ≤ nI g from nI_le (a := 8) (b := g) g8 (by omega)), hW]
        · rw [if_neg (show ¬ (8 : Int32) ≤ nI g from nI_ge (a := g) (b := 8) (by omega) (by omega)), q1, g_ci_some, if_pos rfl, hW]
      · rw [eX10_unifies_2, q2, g_ci_some, if_pos rfl]
      · simp only [List.mem_cons, not_or, List.not_mem_nil] at hc
        rw [gI_r, if_neg (by omega)]
    · rw [Int32.add_assoc, nI_1] at q4
      obtain ⟨b', u', r', g', w1, w2, w3, w4, w5, w6⟩ := ih b1 u1 (r - 1) (g + 1) (B + 1) (by omega) q4 ((q6 2 7 (by decide)).trans hW) (by omega) (by omega)
      refine ⟨b', u', r', g', ?_, ?_, w3.mono (by omega) (by omega), q5.tr w4, fun c i hc => (w5 c i hc).trans (q6 c i (fun z => hc (by simp at z ⊢; omega))), fun h0 s hs => w6 (q7 h0) s hs⟩
      · rw [eX2_unifyAll_2, if_neg (show ¬ (8 : Int32) ≤ nI g from nI_ge (a := g) (b := 8) (by omega) (by omega)), q1, g_ci_some, if_neg (by decide), nI_1]; exact w1
      · rw [eX10_unifies_2, q2, g_ci_some, if_neg (by decide), nI_1]; exact w2
theorem unify_both (h : BR b u n a r p t Q B) (h9 : B + 9 ≤ 1000000000) : ∃ (b' u' : gMem) (r' g : Nat), mX2_unifyAll [.ref 0] b = some (some (.int (nI g)), b') ∧ mX10_unifies [.ref 0] u = some (some (.int (nI g)), u') ∧ BR b' u' n a r' p t Q (B + 8) ∧ im u u' ∧ (∀ i, b'.1 9 i = b.1 9 i) := by
  obtain ⟨hw, h0, hIL⟩ := BR_iff.mp h
  have hr := hw.A.2.2.2.2.1
  obtain ⟨b', u', r', g', w1, w2, w3, w4, w5, w6⟩ := un_loop (W := b.1 2 7) 8 b u r 0 B hr (by rw [show b.1 2 7 + nI 0 = b.1 2 7 from Int32.add_zero _, gwI_id rfl]; exact hw) rfl (by omega) (by omega)
  refine ⟨b', u', r', g', ?_, ?_, BR_iff.mpr ⟨w3, w6 h0, fun j hj => by rw [w5 9 j (by decide), w5 10 j (by decide)]; exact hIL j hj⟩, w4, fun i => w5 9 i (by decide)⟩
  · rw [eX2_unifyAll]; exact w1
  · rw [eX10_unifies]; exact w2
end UNIFY2
