/-! jobs that are killed -/
section KILL
variable {b u b' u' : gMem} {n a r p t B : Nat} {Q : List Nat}
/-- the slots of another memory -/
def sp (b w : gMem) : gMem := (fun c i => if c = 12 ∨ c = 29 ∨ c = 31 ∨ c = 32 then w.1 c i else b.1 c i, fun c i => if c = 30 then w.2 c i else b.2 c i)
theorem sp_in {w : gMem} {c i : Nat} (h : c = 12 ∨ c = 29 ∨ c = 31 ∨ c = 32) : (sp b w).1 c i = w.1 c i := if_pos h
theorem sp_out {w : gMem} {c i : Nat} (h : ¬ (c = 12 ∨ c = 29 ∨ c = 31 ∨ c = 32)) : (sp b w).1 c i = b.1 c i := if_neg h
theorem sp_w {w : gMem} {c i : Nat} {x : Int32} (h : ¬ (c = 12 ∨ c = 29 ∨ c = 31 ∨ c = 32)) : sp (gwI b c i x) w = gwI (sp b w) c i x := Prod.ext (funext fun d => funext fun k => by
  show (sp (gwI b c i x) w).1 d k = (gwI (sp b w) c i x).1 d k
  rw [gI_r]
  by_cases q : d = 12 ∨ d = 29 ∨ d = 31 ∨ d = 32
  · rw [sp_in q, if_neg (fun (z : d = c ∧ k = i) => h (z.1 ▸ q)), sp_in q]
  · rw [sp_out q, gI_r, sp_out q]) rfl
theorem sp_lg {w : gMem} {x : Nat} {wh j s c : Int32} : sp (lgB b x wh j s c) w = lgB (sp b w) x wh j s c := by
  unfold lgB
  rw [sp_w (by omega), sp_w (by omega), sp_w (by omega), sp_w (by omega), sp_w (by omega), sp_w (by omega), sp_out (b := b) (c := 0) (by omega)]
theorem sp_sp {w w' : gMem} : sp (sp b w) w' = sp b w' := Prod.ext (funext fun d => funext fun k => by
  show (sp (sp b w) w').1 d k = (sp b w').1 d k
  by_cases q : d = 12 ∨ d = 29 ∨ d = 31 ∨ d = 32
  · rw [sp_in q, sp_in q]
  · rw [sp_out q, sp_out q, sp_out q]) (funext fun d => funext fun k => by
  show (if d = 30 then w'.2 d k else (if d = 30 then w.2 d k else b.2 d k)) = (if d = 30 then w'.2 d k else b.2 d k)
  by_cases q : d = 30
  · rw [if_pos q, if_pos q]
  · rw [if_neg q, if_neg q, if_neg q])
theorem sp_id : sp b b = b := Prod.ext (funext fun c => funext fun i => by show (sp b b).1 c i = b.1 c i; unfold sp; simp) (funext fun c => funext fun i => by show (sp b b).2 c i = b.2 c i; unfold sp; simp)
/-- the two memories' slots are the same -/
def sg (r : Nat) (b c : gMem) : Prop := (∀ j, c.1 12 j = b.1 12 j) ∧ c.1 29 3 = b.1 29 3 ∧ ∀ x, x < r → c.1 31 x = b.1 31 x ∧ c.1 32 x = b.1 32 x ∧ c.2 30 x = b.2 30 x
theorem dE_par : ∀ k (b c : gMem) (r : Nat), k ≤ r → r ≤ 8 → b.1 29 3 = nI r → b.1 3 2 = nI n → c.1 3 2 = nI n → n ≤ 60 → sg r b c → ∀ b' c', rX2_dropEmpty_10 (nI k - 1) b = some (none, b') → rX2_dropEmpty_10 (nI k - 1) c = some (none, c') → ∃ r', b'.1 29 3 = nI r' ∧ r' ≤ 8 ∧ sg r' b' c' := by
  intro k
  induction k with
  | zero =>
    intro b c r hk hr h29 hb hc hn hg b' c' h1 h2
    rw [eX2_dropEmpty_10, if_pos (by decide)] at h1 h2
    cases h1
    cases h2
    exact ⟨r, h29, hr, hg⟩
  | succ k ih =>
    intro b c r hk hr h29 hb hc hn hg b' c' h1 h2
    rw [nI_s1 (by omega), show k + 1 - 1 = k by omega, eX2_dropEmpty_10, if_neg (nneg (by omega)), gin (show k < 8 by omega) (by omega), if_pos rfl, tn (show k < 2147483648 by omega)] at h1 h2
    rw [(hg.2.2 k (by omega)).2.1] at h2
    by_cases q : b.1 32 k = 0
    · obtain ⟨b1, c1, c2⟩ := c_dropS (b := b) (s := k) h29 hr (by omega) hb hn
      obtain ⟨b2, d1, d2⟩ := c_dropS (b := c) (s := k) (hg.2.1.trans h29) hr (by omega) hc hn
      rw [if_pos q, c1, g_cv_some, sub1] at h1
      rw [if_pos q, d1, g_cv_some, sub1] at h2
      have hup : ∀ x, x < r - 1 → up k x < r := fun x hx => by unfold up; split <;> omega
      refine ih b1 b2 (r - 1) (by omega) (by omega) c2.2.1 ((c2.1 3 2 (by decide)).trans hb) ((d2.1 3 2 (by decide)).trans hc) hn ⟨fun j => ?_, ?_, fun x hx => ⟨?_, ?_, ?_⟩⟩ b' c' h1 h2
      · rw [d2.2.2.2.2, c2.2.2.2.2, hg.1]
      · rw [d2.2.1, c2.2.1]
      · rw [d2.2.2.1 31 x (by omega) hx, c2.2.2.1 31 x (by omega) hx]; exact (hg.2.2 _ (hup x hx)).1
      · rw [d2.2.2.1 32 x (by omega) hx, c2.2.2.1 32 x (by omega) hx]; exact (hg.2.2 _ (hup x hx)).2.1
      · rw [d2.2.2.2.1 x hx, c2.2.2.2.1 x hx]; exact (hg.2.2 _ (hup x hx)).2.2
    · rw [if_neg q, sub1] at h1 h2
      exact ih b c r (by omega) hr h29 hb hc hn hg b' c' h1 h2
/-- the relation looks at a board's slots only up to how many there are -/
theorem BW.sg (h : BW b u n a r p t Q B) (h1 : ∀ c i, ¬ (c = 12 ∨ c = 29 ∨ c = 31 ∨ c = 32) → b'.1 c i = b.1 c i) (hg : sg r b b') : BW b' u n a r p t Q B := by
  have hn := h.A.n60
  have hr := h.A.2.2.2.2.1
  have hag : ∀ S : List Nat, (∀ c ∈ S, ¬ (c = 29 ∨ c = 31 ∨ c = 32)) → ag S b b' := fun S hS c hc i => by
    have := hS c hc
    by_cases q : c = 12
    · subst q; exact hg.1 i
    · exact h1 c i (by omega)
  refine mk_rel h (Nat.le_refl _) h.B.2.2.2.2 (fun c i hc => h1 c i (by simp at hc; omega)) (h1 3 2 (by omega)) (fun _ _ => rfl) (fun k hk => by rw [h1 2 k (by omega)]; exact h.e.1.2.2.1 k hk) (h.e.h.r.trans h.A.2.2.1) (hg.2.1.trans h.A.2.2.1) hr (h.e.2.1.fr hn (hag _ (by decide)) ug.rf) (fun s hs => ?_) (h.J.fr (hag _ (by decide))) (h.P.fr (hag _ (by decide)) (h1 _ _ (by omega))) (fun s hs => ?_) (h.Q.fr hn (hag _ (by decide)) (h1 _ _ (by omega)) rfl (fun _ _ => rfl))
  · obtain ⟨g1, g2, g3⟩ := hg.2.2 s hs
    rw [g1, g3]; exact h.e.2.2.2.1 s hs
  · rw [(hg.2.2 s hs).2.1, sb_fr (hag _ (by decide))]; exact h.S s hs
def kiU (u : gMem) (j : Nat) (e : Int32) : gMem := wA (wA (wA (wA u j 4 4) j 7 0) j 8 0) j 15 e
theorem kiU_h {j i : Nat} {e : Int32} (h : i < 42) : (kiU u j e).1 1 i = u.1 1 i := by
  unfold kiU; rw [wA_h h, wA_h h, wA_h h, wA_h h]
theorem sp_l {w b2 : gMem} (h : b2.2 = b.2) : (sp b2 w).2 = (sp b w).2 := by unfold sp; rw [h]
/-- the end of a job, once it is out of its slot -/
theorem c_end0 {j x : Nat} {b1 : gMem} (hto : mX2_takeOut [.ref 0, .int (nI j)] b = some (none, b1)) (hj : j < 60) (h3 : b1.1 3 3 = nI Q.length) (h60 : Q.length ≤ 60) (ha : arr b1 24 Q) (hQ : ∀ x ∈ Q, x < 60) (h12 : b1.1 12 j = -1) (h13 : b1.1 13 j = -1) (hx : b1.1 39 1 = nI x) (hx2 : x < 2147483648) : ∃ b2, mX2_end [.ref 0, .int (nI j)] b = some (none, lgB b2 x 4 (nI j) (-1) (-1)) ∧ b2.2 = b1.2 ∧ (∀ c i, c ∉ [3, 24, 9, 20] → b2.1 c i = b1.1 c i) ∧ b2.1 3 2 = b1.1 3 2 ∧ b2.1 3 3 = nI (Q.filter (fun x => decide (x ≠ j))).length ∧ arr b2 24 (Q.filter (fun x => decide (x ≠ j))) ∧ (∀ i, b2.1 9 i = if i = j then 4 else b1.1 9 i) ∧ (∀ i, b2.1 20 i = if i = j then b1.1 0 12 else b1.1 20 i) := by
  obtain ⟨b3, f1, ⟨f2, f3⟩, f4, f5⟩ := c_fromLine (j := j) h3 h60 ha hj hQ
  have hc : ∀ c i, c ∉ [3, 24, 9, 20] → (gwI (gwI b3 9 j 4) 20 j ((gwI b3 9 j 4).1 0 12)).1 c i = b1.1 c i := fun c i hc => by
    simp only [List.mem_cons, not_or, List.not_mem_nil] at hc
    rw [gI_r, if_neg (by omega), gI_r, if_neg (by omega)]; exact f3 c i (by omega) (by omega)
  refine ⟨gwI (gwI b3 9 j 4) 20 j ((gwI b3 9 j 4).1 0 12), ?_, f2, hc, ?_, ?_, ?_, fun i => ?_, fun i => ?_⟩
  · rw [eX2_end, hto, g_cv_some, f1, g_cv_some, gin hj (by omega), if_pos rfl, if_pos rfl, tn (show j < 2147483648 by omega), c_note ((hc 39 1 (by decide)).trans hx) hx2 hj, g_cv_some, hc 12 j (by decide), hc 13 j (by decide), h12, h13]
  · rw [gI_r, if_neg (by omega), gI_r, if_neg (by omega)]; exact f3 3 2 (by omega) (by omega)
  · rw [gI_r, if_neg (by omega), gI_r, if_neg (by omega)]; exact f4
  · exact arr_o (arr_o f5 (by omega)) (by omega)
  · rw [gI_r, if_neg (by omega), gI_r]
    by_cases z : i = j
    · rw [if_pos ⟨rfl, z⟩, if_pos z]
    · rw [if_neg (fun y => z y.2), if_neg z]; exact f3 9 i (by omega) (by omega)
  · rw [gI_r]
    by_cases z : i = j
    · rw [if_pos ⟨rfl, z⟩, if_pos z, gI_r, if_neg (by omega)]; exact f3 0 12 (by omega) (by omega)
    · rw [if_neg (fun y => z y.2), if_neg z, gI_r, if_neg (by omega)]; exact f3 20 i (by omega) (by omega)
theorem kill_rel {w : gMem} {j : Nat} (h : BW (sp b w) u n a r p t Q B) (hj : j < n) (hj0 : b.1 9 j = 0) (h9 : B + 1 ≤ 1000000000) (h12 : b.1 12 j = -1) : ∃ b1 x, u.1 1 15 = nI x ∧ x < 2147483648 ∧ mX2_end [.ref 0, .int (nI j)] b = some (none, b1) ∧ BW (sp b1 w) (lgU (kiU u j (b.1 0 12 + 1)) x 4 (nI j) (-1) (-1)) n a r p t Q (B + 1) ∧ (∀ c i, c ∉ [3, 24, 9, 20, 39, 41, 42, 43, 44, 45] → b1.1 c i = b.1 c i) ∧ b1.2 = b.2 ∧ (∀ i, b1.1 9 i = if i = j then 4 else b.1 9 i) ∧ b1.1 3 2 = b.1 3 2 := by
  have hn := h.A.n60
  have hr := h.A.2.2.2.2.1
  have hB9 := h.B.2.2.2.2
  obtain ⟨x, hx, hxB⟩ := h.B.2.2.1
  have e9 : (sp b w).1 9 j = 0 := (sp_out (by omega)).trans hj0
  obtain ⟨n1, n2⟩ := ip_no (h.P.1 j hj) (by rw [e9]; decide)
  have h13 : b.1 13 j = -1 := (sp_out (b := b) (w := w) (by omega)).symm.trans n2
  have hto : mX2_takeOut [.ref 0, .int (nI j)] b = some (none, b) := by
    rw [eX2_takeOut, gin (show j < 60 by omega) (by omega), if_pos rfl, tn (show j < 2147483648 by omega), h12, eX7_has, if_pos (by decide), g_ci_some, if_pos rfl, if_pos rfl, if_pos rfl, gwI_id h12, gwI_id h13]
  have hjQ : j ∉ Q := fun z => by have := (Q_mem h z).2; rw [e9] at this; exact absurd this (by decide)
  obtain ⟨b2, g1, g2, g3, g4, g5, g6, g7, g8⟩ := c_end0 (Q := Q) (x := x) hto (by omega) ((sp_out (b := b) (w := w) (by omega)).symm.trans h.Q.1) h.Q.2.1 (fun i hi => (sp_out (b := b) (w := w) (by omega)).symm.trans (h.Q.2.2.1 i hi)) (fun y hy => by have := (Q_mem h hy).1; omega) h12 h13 ((sp_out (b := b) (w := w) (by omega)).symm.trans hx) (by omega)
  have hrel := end_rel (b := sp b w) (b' := sp b2 w) (st := 4) h hj (Or.inr rfl) (fun c i hc => by
      by_cases q : c = 12 ∨ c = 29 ∨ c = 31 ∨ c = 32
      · rw [sp_in q, sp_in q]
      · rw [sp_out q, sp_out q]; exact g3 c i (fun z => hc (by simp at z ⊢; omega))) (sp_l g2) (by rw [sp_out (by omega), sp_out (by omega)]; exact g4) (by rw [sp_out (by omega)]; exact g5) (fun i hi => (sp_out (by omega)).trans (g6 i hi)) (fun i => by rw [sp_out (by omega), sp_out (by omega)]; exact g7 i) (fun i => by
      rw [sp_in (by omega), sp_in (by omega)]
      by_cases z : i = j
      · rw [if_pos z, z]; exact (sp_in (b := b) (w := w) (by omega)).symm.trans n1
      · rw [if_neg z]) (fun i => by
      rw [sp_out (by omega), sp_out (by omega), g3 13 i (by decide)]
      by_cases z : i = j
      · rw [if_pos z, z]; exact h13
      · rw [if_neg z]) (fun i => by rw [sp_out (by omega), sp_out (by omega), sp_out (by omega)]; exact g8 i) (fun s hs => by
      rw [sp_in (by omega), n1, if_neg (fun z => nm1 (show s < 2147483648 by omega) z.symm), sp_in (by omega)])
  rw [flt hjQ, sp_out (b := b) (c := 0) (by omega)] at hrel
  have hlog := log_rel (wh := 4) (j := nI j) (s := -1) (c := -1) hrel ((sp_out (by omega)).trans ((g3 39 1 (by decide)).trans ((sp_out (b := b) (w := w) (by omega)).symm.trans hx))) hxB h9
  rw [← sp_lg] at hlog
  refine ⟨_, x, h.e.1.2.1.2.2.2.2.2.1.trans hx, by omega, g1, hlog, fun c i hc => ?_, g2, fun i => ?_, ?_⟩
  · rw [lgB_c (fun z => hc (by simp at z ⊢; omega))]; exact g3 c i (fun z => hc (by simp at z ⊢; omega))
  · rw [lgB_c (by decide)]; exact g7 i
  · rw [lgB_c (by decide)]; exact g4
theorem kill_first {j : Nat} (h : BW b u n a r p t Q B) (hj : j < n) (h9 : B + 1 ≤ 1000000000) : ∃ b1 x, u.1 1 15 = nI x ∧ x < 2147483648 ∧ mX2_end [.ref 0, .int (nI j)] b = some (none, b1) ∧ BW b1 (lgU (kiU u j (b.1 0 12 + 1)) x 4 (nI j) (-1) (-1)) n a r p t (Q.filter (fun x => decide (x ≠ j))) (B + 1) ∧ (∀ c i, c ∉ [3, 24, 9, 12, 13, 20, 32, 39, 41, 42, 43, 44, 45] → b1.1 c i = b.1 c i) ∧ (∀ i, b1.1 9 i = if i = j then 4 else b.1 9 i) := by
  have hn := h.A.n60
  have hB9 := h.B.2.2.2.2
  obtain ⟨x, hx, hxB⟩ := h.B.2.2.1
  obtain ⟨b1, c1, c2, c3, c4, c5, c6⟩ := c_takeOut h hj
  obtain ⟨b2, g1, g2, g3, g4, g5, g6, g7, g8⟩ := c_end0 (Q := Q) (x := x) c1 (by omega) ((c3 3 3 (by decide)).trans h.Q.1) h.Q.2.1 (fun i hi => (c3 24 i (by decide)).trans (h.Q.2.2.1 i hi)) (fun y hy => by have := (Q_mem h hy).1; omega) (by rw [c4, if_pos rfl]) (by rw [c5, if_pos rfl]) ((c3 39 1 (by decide)).trans hx) (by omega)
  have hrel := end_rel (b' := b2) (st := 4) h hj (Or.inr rfl) (fun c i hc => (g3 c i (fun z => hc (by simp at z ⊢; omega))).trans (c3 c i (fun z => hc (by simp at z ⊢; omega)))) (g2.trans c2) (g4.trans (c3 3 2 (by decide))) g5 g6 (fun i => by rw [g7, c3 9 i (by decide)]) (fun i => by rw [g3 12 i (by decide)]; exact c4 i) (fun i => by rw [g3 13 i (by decide)]; exact c5 i) (fun i => by rw [g8, c3 0 12 (by decide), c3 20 i (by decide)]) (fun s hs => by rw [g3 32 s (by decide)]; exact c6 s hs)
  have hlog := log_rel (wh := 4) (j := nI j) (s := -1) (c := -1) hrel ((g3 39 1 (by decide)).trans ((c3 39 1 (by decide)).trans hx)) hxB h9
  refine ⟨_, x, h.e.1.2.1.2.2.2.2.2.1.trans hx, by omega, g1, hlog, fun c i hc => ?_, fun i => ?_⟩
  · rw [lgB_c (fun z => hc (by simp at z ⊢; omega)), g3 c i (fun z => hc (by simp at z ⊢; omega))]; exact c3 c i (fun z => hc (by simp at z ⊢; omega))
  · rw [lgB_c (by decide), g7, c3 9 i (by decide)]
end KILL
