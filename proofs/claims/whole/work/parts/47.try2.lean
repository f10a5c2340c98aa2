section TRY2
variable {b u : gMem} {n a r p t B : Nat} {Q : List Nat}
def ptU (u : gMem) (j s c : Nat) (f : Int32) : gMem := wA (wA (wA (wA u j 4 2) j 7 (nI s + 1)) j 8 (nI c + 1)) j 14 (f + 1)
theorem m_isPut {j s c x : Nat} {wh : Int32} (e : EJ1 b u j) (hj : j < 60) (ht : u.1 1 10 = b.1 0 12) (hx : u.1 1 15 = nI x) (h : x < 2147483648) : mX10_isPut [.ref 0, .int (nI j), .int (nI s), .int (nI c), .int wh] u = some (none, lgU (ptU u j s c (if b.1 19 j = -1 then b.1 0 12 else b.1 19 j)) x wh (nI j) (nI s) (nI c)) := by
  have e14 : mA (wA (wA (wA u j 4 2) j 7 (nI s + 1)) j 8 (nI c + 1)) j 14 = b.1 19 j + 1 := by
    simp (disch := omega) only [mA_wA]
    simp
    exact e.f14
  have e10 : (wA (wA (wA u j 4 2) j 7 (nI s + 1)) j 8 (nI c + 1)).1 1 10 = b.1 0 12 := by
    rw [wA_h (by omega), wA_h (by omega), wA_h (by omega)]; exact ht
  have e15 : ∀ f, (wA (wA (wA (wA u j 4 2) j 7 (nI s + 1)) j 8 (nI c + 1)) j 14 (f + 1)).1 1 15 = nI x := by
    intro f
    rw [wA_h (by omega), wA_h (by omega), wA_h (by omega), wA_h (by omega)]; exact hx
  rw [eX10_isPut, lay_4 hj, g_cv_some, lay_7 hj, g_cv_some, lay_8 hj, g_cv_some, at_14 hj, g_ci_some, e14, e10]
  by_cases q : b.1 19 j = -1
  · rw [if_pos q, if_pos (by rw [q]; rfl), lay_14 hj, g_cv_some, m_writes (e15 _) h, g_cv_some]
    rfl
  · rw [if_neg q, if_neg (fun z => q (by rwa [i_z1] at z))]
    have hid : wA (wA (wA u j 4 2) j 7 (nI s + 1)) j 8 (nI c + 1) = ptU u j s c (b.1 19 j) := (gwI_id e14).symm
    rw [hid, m_writes (show (ptU u j s c (b.1 19 j)).1 1 15 = nI x from e15 _) h, g_cv_some]
/-- what placing leaves as it was -/
def pfB (b b' : gMem) : Prop := ∀ c i, c ∉ [3, 24, 9, 19, 12, 13, 32, 29, 31, 58, 39, 41, 42, 43, 44, 45] → b'.1 c i = b.1 c i
def pfU (u u' : gMem) : Prop := (∀ c i, c ≠ 1 → ¬ (c = 0 ∧ 5 ≤ i ∧ i ≤ 8) → u'.1 c i = u.1 c i) ∧ (∀ c i, c ≠ 3 → u'.2 c i = u.2 c i)
theorem BK_ne {c w : Nat} (hc : c < 32) (hw : 1 ≤ w ∧ w ≤ 32) : BK c w ≠ 0 := by
  intro z
  have := b_BK (c := c) (w := w) (i := c) hc hw.2 hc
  rw [z, b_0] at this
  have := this.symm
  simp at this
  omega
theorem or_ne {x y : Int32} (h : y ≠ 0) : x ||| y ≠ 0 := by
  intro z
  apply h
  rw [b_z] at *
  intro d hd
  have := z d hd
  rw [b_or] at this
  cases hx : bt x d <;> cases hy : bt y d <;> simp [hx, hy] at this ⊢
theorem put_rel {μ : gMem} {j s c w x : Nat} {wh : Int32} (h : BW b u n a r p t Q B) (h0 : ∀ s', s' < r → s' ≠ s → b.1 32 s' ≠ 0) (hL : IL b) (hj : j ∈ Q) (hs : s < r) (hw : jn b 14 j = w) (hcw : c % w = 0) (hcp : c + w ≤ p) (hfree : (b.1 32 s ||| b.1 0 13) &&& BK c w = 0) (hx : b.1 39 1 = nI x) (hxB : x ≤ B) (h9 : B + 1 ≤ 1000000000) (hl : lnP b μ Q j) : BR (lgB (gwI (gwI (gwI μ 12 j (nI s)) 13 j (nI c)) 32 s (μ.1 32 s ||| BK c w)) x wh (nI j) (nI s) (nI c)) (lgU (ptU u j s c (if b.1 19 j = -1 then b.1 0 12 else b.1 19 j)) x wh (nI j) (nI s) (nI c)) n a r p t (Q.filter (fun x => decide (x ≠ j))) (B + 1) := by
  obtain ⟨l1, l2, l3, l4, l5, l6, l7⟩ := hl
  have h32 : μ.1 32 s = b.1 32 s := l1 32 s (by decide)
  have hjn := (Q_mem h hj).1
  have hwp := wd_pos (jn b 5 j)
  have hwd : w = wd (jn b 5 j) := by rw [← hw, jw (h.J j hjn)]
  have hp := h.A.p32
  have hB9 : ∀ i, (gwI (gwI (gwI μ 12 j (nI s)) 13 j (nI c)) 32 s (μ.1 32 s ||| BK c w)).1 32 i = if i = s then b.1 32 s ||| BK c w else b.1 32 i := by
    intro i
    rw [gI_r]
    by_cases q : i = s
    · rw [if_pos ⟨rfl, q⟩, if_pos q, h32]
    · rw [if_neg (fun z => q z.2), if_neg q, gI_r, if_neg (by omega), gI_r, if_neg (by omega)]
      exact l1 32 i (by decide)
  have hrel := place_rel (b' := gwI (gwI (gwI μ 12 j (nI s)) 13 j (nI c)) 32 s (μ.1 32 s ||| BK c w)) h hj hs hw hcw hcp hfree (by
      intro c' i hc'
      have hc2 : c' ∉ [3, 24, 9, 19] := fun z => hc' (by simp at z ⊢; omega)
      simp only [List.mem_cons, not_or, List.not_mem_nil] at hc'
      rw [gI_r, if_neg (by omega), gI_r, if_neg (by omega), gI_r, if_neg (by omega)]
      exact l1 c' i hc2) l2 l3 l4 (by
      intro i hi
      rw [gI_r, if_neg (by omega), gI_r, if_neg (by omega), gI_r, if_neg (by omega)]
      exact l5 i hi) (by
      intro i
      rw [gI_r, if_neg (by omega), gI_r, if_neg (by omega), gI_r, if_neg (by omega)]
      exact l6 i) (by
      intro i
      rw [gI_r, if_neg (by omega), gI_r, if_neg (by omega), gI_r]
      by_cases q : i = j
      · rw [if_pos ⟨rfl, q⟩, if_pos q]
      · rw [if_neg (fun z => q z.2), if_neg q]; exact l1 12 i (by decide)) (by
      intro i
      rw [gI_r, if_neg (by omega), gI_r]
      by_cases q : i = j
      · rw [if_pos ⟨rfl, q⟩, if_pos q]
      · rw [if_neg (fun z => q z.2), if_neg q, gI_r, if_neg (by omega)]; exact l1 13 i (by decide)) hB9 (by
      intro i
      rw [gI_r, if_neg (by omega), gI_r, if_neg (by omega), gI_r, if_neg (by omega)]
      exact l7 i) rfl
  have hx' : (gwI (gwI (gwI μ 12 j (nI s)) 13 j (nI c)) 32 s (μ.1 32 s ||| BK c w)).1 39 1 = nI x := by
    rw [gI_r, if_neg (by omega), gI_r, if_neg (by omega), gI_r, if_neg (by omega)]; exact (l1 39 1 (by decide)).trans hx
  refine BR_iff.mpr ⟨log_rel hrel hx' hxB h9, fun s' hs' => ?_, fun i hi => ?_⟩
  · rw [lgB_c (by decide), hB9]
    by_cases q : s' = s
    · rw [if_pos q]; exact or_ne (BK_ne (by omega) (by omega))
    · rw [if_neg q]; exact h0 s' hs' q
  · rw [lgB_c (by decide), lgB_c (by decide), gI_r, if_neg (by omega), gI_r, if_neg (by omega), gI_r, if_neg (by omega), gI_r, if_neg (by omega), gI_r, if_neg (by omega), gI_r, if_neg (by omega), l6, l1 10 i (by decide)]
    by_cases q : i = j
    · subst q
      intro _ z
      have hJ := (h.J i hjn).2.2.2.2.1
      have h1 := hJ.2.2.2.2.1 (by unfold jn; rw [(Q_mem h hj).2]; decide)
      rw [hJ.1] at z
      exact nI_ne0 (by omega) (by omega) z
    · rw [if_neg q]; exact hL i hi
theorem lnP_op {μ : gMem} {j : Nat} {v : Int64} (h : lnP b μ Q j) : lnP (opB b r v) (opB μ r v) Q j := by
  obtain ⟨l1, l2, l3, l4, l5, l6, l7⟩ := h
  refine ⟨fun c i hc => ?_, ?_, ?_, ?_, fun i hi => ?_, fun i => ?_, fun i => ?_⟩
  · by_cases q : c ∈ [31, 32, 29]
    · simp only [List.mem_cons, List.not_mem_nil, or_false] at q
      rcases q with q | q | q
      · subst q; rw [op31, op31, l1 31 i (by decide)]
      · subst q; rw [op32, op32, l1 32 i (by decide)]
      · subst q; unfold opB; simp only [gI_r, gL_i, l1 29 i (by decide)]
    · rw [op_c q, op_c q]; exact l1 c i hc
  · unfold opB; rw [gI_l, gI_l, gI_l, gI_l, gI_l, gI_l]; unfold gwL; rw [l2]
  · rw [op_c (by decide), op_c (by decide)]; exact l3
  · rw [op_c (by decide)]; exact l4
  · rw [op_c (by decide)]; exact l5 i hi
  · rw [op_c (by decide), op_c (by decide)]; exact l6 i
  · rw [op_c (by decide), op_c (by decide), op_c (by decide), op_c (by decide)]; exact l7 i
theorem pf_lg {μ : gMem} {j s c w x : Nat} {wh : Int32} (hl : lnP b μ Q j) : pfB b (lgB (gwI (gwI (gwI μ 12 j (nI s)) 13 j (nI c)) 32 s (μ.1 32 s ||| BK c w)) x wh (nI j) (nI s) (nI c)) := by
  intro c' i hc'
  have h1 : c' ∉ [39, 41, 42, 43, 44, 45] := fun z => hc' (by simp at z ⊢; omega)
  have h2 : c' ∉ [3, 24, 9, 19] := fun z => hc' (by simp at z ⊢; omega)
  simp only [List.mem_cons, not_or, List.not_mem_nil] at hc'
  rw [lgB_c h1, gI_r, if_neg (by omega), gI_r, if_neg (by omega), gI_r, if_neg (by omega)]
  exact hl.1 c' i h2
/-- states go on from waiting to placed alone -/
def gf (b b' : gMem) : Prop := ∀ i, b'.1 9 i = b.1 9 i ∨ (b.1 9 i = 1 ∧ b'.1 9 i = 2)
theorem gf.rf : gf b b := fun _ => Or.inl rfl
theorem gf.tr {b1 b2 : gMem} (h : gf b b1) (h2 : gf b1 b2) : gf b b2 := fun i => by
  rcases h i with q | q <;> rcases h2 i with z | z
  · exact Or.inl (z.trans q)
  · exact Or.inr ⟨q ▸ z.1, z.2⟩
  · exact Or.inr ⟨q.1, z.trans q.2⟩
  · rw [q.2] at z; exact absurd z.1 (by decide)
theorem gf_lg {μ : gMem} {j s c w x : Nat} {wh : Int32} (hl : lnP b μ Q j) (h1 : b.1 9 j = 1) : gf b (lgB (gwI (gwI (gwI μ 12 j (nI s)) 13 j (nI c)) 32 s (μ.1 32 s ||| BK c w)) x wh (nI j) (nI s) (nI c)) := by
  intro i
  rw [lgB_c (by decide), gI_r, if_neg (by omega), gI_r, if_neg (by omega), gI_r, if_neg (by omega), hl.2.2.2.2.2.1]
  by_cases q : i = j
  · subst q; rw [if_pos rfl]; exact Or.inr ⟨h1, rfl⟩
  · rw [if_neg q]; exact Or.inl rfl
theorem pf_u {j s c x : Nat} {wh f : Int32} : pfU u (lgU (ptU u j s c f) x wh (nI j) (nI s) (nI c)) :=
  ⟨fun c i h1 _ => by rw [lg_c h1]; unfold ptU; rw [wA_c h1, wA_c h1, wA_c h1, wA_c h1], fun _ _ _ => rfl⟩
theorem place_both {j : Nat} {wh : Int32} (h : BR b u n a r p t Q B) (hj : j ∈ Q) (h9 : B + 1 ≤ 1000000000) : ∃ b' u', (pfB b b' ∧ gf b b') ∧ pfU u u' ∧ ((mX2_tryPlace [.ref 0, .int (nI j), .int wh] b = some (some (.int 0), b') ∧ mX10_places [.ref 0, .int (nI j), .int wh] u = some (some (.int 0), u') ∧ BR b' u' n a r p t Q B) ∨ (∃ r', mX2_tryPlace [.ref 0, .int (nI j), .int wh] b = some (some (.int 1), b') ∧ mX10_places [.ref 0, .int (nI j), .int wh] u = some (some (.int 1), u') ∧ BR b' u' n a r' p t (Q.filter (fun x => decide (x ≠ j))) (B + 1))) := by
  have hR := h
  obtain ⟨h, h0⟩ := BR_iff.mp h
  have hn := h.A.n60
  have hr := h.A.2.2.2.2.1
  have hp := h.A.2.2.2.2.2.2
  have hp32 := h.A.p32
  have hjn := (Q_mem h hj).1
  have hJ := h.J j hjn
  have hwd : jn b 14 j = wd (jn b 5 j) := jw hJ
  obtain ⟨m, hW⟩ := wd_isW hp hJ.1.2.2
  rw [← hwd] at hW
  have hle := hW.le
  obtain ⟨o, b1, s1, s2, s3⟩ := c_spotFor h.A h.T h.P h.S hW
  obtain ⟨o2, u1, t1, t2, t3, t4⟩ := m_finds h.e h.A h.T h.J h.P h.S hW
  have ho := s1.uniq t1
  subst ho
  have hB1 : BW b1 u1 n a r p t Q B := (h.bs s2.bs).qs t2.qs
  have h01 : IS0 b1 r := s2.bs.xIS0 h0
  have e1 : mX2_tryPlace [.ref 0, .int (nI j), .int wh] b = (if eS o = (-1) then some (some (.int 0), b1) else (g_cv (mX2_placeAt [.ref 0, .int (nI j), .int (eS o), .int wh] b1) (fun u2 => some (some (.int 1), u2)))) := by
    rw [eX2_tryPlace, gin (by omega) (by omega), if_pos rfl, tn (by omega), jw_n hJ, s3, g_ci_some]
  have e2 : mX10_places [.ref 0, .int (nI j), .int wh] u = (if (if o.isSome = true then (1 : Int32) else 0) = 0 then some (some (.int 0), u1) else (if (u1.1 0 5) = (u1.1 1 13) then (g_cv (mX10_newSlot [.ref 0] u1) (fun u4 => (g_cv (mX10_isPut [.ref 0, .int (nI j), .int (u4.1 0 5), .int (u4.1 0 6), .int wh] u4) (fun u5 => some (some (.int 1), u5))))) else (g_cv (mX10_isPut [.ref 0, .int (nI j), .int (u1.1 0 5), .int (u1.1 0 6), .int wh] u1) (fun u3 => some (some (.int 1), u3))))) := by
    rw [eX10_places, at_9 (by omega), g_ci_some, (h.e.j hjn).f9, jw_n hJ, t3, g_ci_some]
  have hfU : pfU u u1 := ⟨fun c i _ h2 => t2.2 c i h2, fun c i _ => by rw [t2.1]⟩
  cases o with
  | none =>
    refine ⟨b1, u1, ⟨fun c i hc => s2.2 c i (fun z => hc (by rw [z]; decide)), fun i => Or.inl (s2.2 9 i (by omega))⟩, hfU, Or.inl ⟨?_, ?_, ?_⟩⟩
    · rw [e1, if_pos (show eS none = -1 from rfl)]
    · rw [e2, if_pos (show (if (none : Option Nat).isSome = true then (1 : Int32) else 0) = 0 from rfl)]
    · exact BR_iff.mpr ⟨hB1, h01⟩
  | some i =>
    obtain ⟨i5, i6, i288⟩ := t4 i rfl
    have hgi : (i < r * 32 ∨ (r < 8 ∧ i < r * 32 + 32)) ∧ GG b r (p) (jn b 14 j) i = true := by
      rcases s1 with q | q
      · exact ⟨Or.inl q.1.1, q.1.2.1⟩
      · exact ⟨Or.inr ⟨by have := q.2.1; have := h.T.1.2.2; omega, q.2.2.1⟩, q.2.2.2.1⟩
    obtain ⟨g1, g2, g3⟩ := GC_iff.mp hgi.2
    have hfit := mul_fit hle.1 (hW.dvd hp) g1 g2
    obtain ⟨x, hx, hxB⟩ := hB1.B.2.2.1
    have hux : u1.1 1 15 = nI x := hB1.e.1.2.1.2.2.2.2.2.1.trans hx
    have hur : u1.1 1 13 = nI r := hB1.e.h.r.trans hB1.A.2.2.1
    have h141 : jn b1 14 j = jn b 14 j := s2.bs.j 14 j rfl
    have hxx : x < 2147483648 := by omega
    obtain ⟨μ, l0, l9⟩ := c_placeAt0 (wh := wh) (s := i / 32) (c := i % 32) hB1 hj (by omega) (by omega)
    rw [show i / 32 * 32 + i % 32 = i by omega] at l9
    have hμr : μ.1 29 3 = nI r := (l0.1 29 3 (by decide)).trans hB1.A.2.2.1
    have hμw : μ.1 14 j = nI (jn b 14 j) := (l0.1 14 j (by decide)).trans ((s2.2 14 j (by decide)).trans (jw_n hJ))
    rw [e1, e2, if_neg (show ¬ eS (some i) = -1 from nm1 (by omega)), if_neg (show ¬ (if (some i).isSome = true then (1 : Int32) else 0) = 0 from (show ¬ (1 : Int32) = 0 by decide)), show eS (some i) = nI i from rfl, l9, i5, hur]
    have hpb : ∀ b2, pfB b1 b2 → pfB b b2 := fun b2 hb c i hc => (hb c i hc).trans (s2.2 c i (fun z => hc (by rw [z]; decide)))
    have hpu : ∀ u2, pfU u1 u2 → pfU u u2 := fun u2 hb => ⟨fun c i h1 h2 => (hb.1 c i h1 h2).trans (hfU.1 c i h1 h2), fun c i h1 => (hb.2 c i h1).trans (hfU.2 c i h1)⟩
    have hj91 : b1.1 9 j = 1 := (s2.2 9 j (by omega)).trans (Q_mem h hj).2
    have hgb : ∀ b2, gf b1 b2 → gf b b2 := fun b2 hb => gf.tr (fun i => Or.inl (s2.2 9 i (by omega))) hb
    by_cases hsr : i / 32 < r
    · have hbz : bz b r (i / 32) = b1.1 32 (i / 32) := by rw [bz_s hsr]; exact (s2.2 32 _ (by decide)).symm
      rw [hbz, ← s2.2 0 13 (by decide)] at g3
      have hset := c_settle (s := i / 32) (c := i % 32) hμr hr (show j < 60 by omega) hsr (by omega) hμw hle.2
      have n39 : (gwI (gwI (gwI μ 12 j (nI (i / 32))) 13 j (nI (i % 32))) 32 (i / 32) (μ.1 32 (i / 32) ||| BK (i % 32) (jn b 14 j))).1 39 1 = nI x := (l0.1 39 1 (by decide)).trans hx
      have n12 : (gwI (gwI (gwI μ 12 j (nI (i / 32))) 13 j (nI (i % 32))) 32 (i / 32) (μ.1 32 (i / 32) ||| BK (i % 32) (jn b 14 j))).1 12 j = nI (i / 32) := by
        rw [gI_r, if_neg (by omega), gI_r, if_neg (by omega), gI_r, if_pos ⟨rfl, rfl⟩]
      have n13 : (gwI (gwI (gwI μ 12 j (nI (i / 32))) 13 j (nI (i % 32))) 32 (i / 32) (μ.1 32 (i / 32) ||| BK (i % 32) (jn b 14 j))).1 13 j = nI (i % 32) := by
        rw [gI_r, if_neg (by omega), gI_r, if_pos ⟨rfl, rfl⟩]
      refine ⟨_, _, ⟨hpb _ (pf_lg l0), hgb _ (gf_lg l0 hj91)⟩, hpu _ pf_u, Or.inr ⟨r, ?_, ?_, put_rel (wh := wh) hB1 (fun s' h1 _ => h01.1 s' h1) h01.2 hj hsr h141 g1 hfit g3 hx hxB h9 l0⟩⟩
      · rw [hset, g_cv_some, c_note n39 hxx (by omega), g_cv_some, g_cv_some, n12, n13]
      · rw [if_neg (by rw [neq (by omega) (by omega)]; omega), i6, m_isPut (hB1.e.j hjn) (by omega) hB1.e.h.t hux hxx, g_cv_some]
    · have hri : i / 32 = r := by omega
      have hr8 : r < 8 := by omega
      rw [hri] at g3 i5 l9 ⊢
      have hbz : bz b r r = 0 := bz_r
      obtain ⟨v, v1, v2⟩ := leastPass_both (b := μ) (u := u1) (r := r) (hB1.e.2.2.2.1.fr hr (fun c hc k => l0.1 c k (by simp at hc; subst hc; decide)) ug.rf (fun s _ => by rw [l0.2.1]) (fun _ _ => rfl)) hμr hur hr
      have hset := c_settle2 (c := i % 32) hμr hr8 v1 (show j < 60 by omega) (by omega) hμw hle.2
      have hop := open_rel (v := v) hB1 hr8
      have lop := lnP_op (r := r) (v := v) l0
      have g3 : ((opB b1 r v).1 32 r ||| (opB b1 r v).1 0 13) &&& BK (i % 32) (jn b 14 j) = 0 := by
        rw [op32, if_pos rfl, op_c (by decide), s2.2 0 13 (by decide)]
        rw [hbz] at g3
        exact g3
      have n39 : (gwI (gwI (gwI (opB μ r v) 12 j (nI r)) 13 j (nI (i % 32))) 32 r ((opB μ r v).1 32 r ||| BK (i % 32) (jn b 14 j))).1 39 1 = nI x := (l0.1 39 1 (by decide)).trans hx
      have n12 : (gwI (gwI (gwI (opB μ r v) 12 j (nI r)) 13 j (nI (i % 32))) 32 r ((opB μ r v).1 32 r ||| BK (i % 32) (jn b 14 j))).1 12 j = nI r := by
        rw [gI_r, if_neg (by omega), gI_r, if_neg (by omega), gI_r, if_pos ⟨rfl, rfl⟩]
      have n13 : (gwI (gwI (gwI (opB μ r v) 12 j (nI r)) 13 j (nI (i % 32))) 32 r ((opB μ r v).1 32 r ||| BK (i % 32) (jn b 14 j))).1 13 j = nI (i % 32) := by
        rw [gI_r, if_neg (by omega), gI_r, if_pos ⟨rfl, rfl⟩]
      have hux2 : (opU u1 r v).1 1 15 = nI x := by
        unfold opU; rw [wH_h, if_neg (by omega), wT_h (by omega)]; exact hux
      have h05 : (opU u1 r v).1 0 5 = nI r := by unfold opU; rw [wH_c (by omega), wT_c (by omega)]; exact i5
      have h06 : (opU u1 r v).1 0 6 = nI (i % 32) := by unfold opU; rw [wH_c (by omega), wT_c (by omega)]; exact i6
      have hpop : pfB b1 (opB b1 r v) := fun c k hc => op_c (fun z => hc (by simp at z ⊢; omega))
      have hpuo : pfU u1 (opU u1 r v) := ⟨fun c k h1 _ => by unfold opU; rw [wH_c h1, wT_c h1, gL_i], fun c k h1 => by unfold opU; rw [wH_l, wT_l, gL_r, if_neg (fun z => h1 z.1)]⟩
      refine ⟨_, _, ⟨hpb _ (fun c k hc => (pf_lg lop c k hc).trans (hpop c k hc)), hgb _ (gf.tr (fun i => Or.inl (op_c (by decide))) (gf_lg lop ((op_c (by decide)).trans hj91)))⟩, hpu _ ⟨fun c k h1 h2 => (pf_u.1 c k h1 h2).trans (hpuo.1 c k h1 h2), fun c k h1 => (pf_u.2 c k h1).trans (hpuo.2 c k h1)⟩, Or.inr ⟨r + 1, ?_, ?_, put_rel (wh := wh) hop (fun s' h1 h2 => ?_) (fun k hk => by rw [op_c (by decide), op_c (by decide)]; exact h01.2 k hk) hj (Nat.lt_succ_self r) ?_ g1 hfit g3 ?_ hxB h9 lop⟩⟩
      · rw [hset, g_cv_some, c_note n39 hxx (by omega), g_cv_some, g_cv_some, n12, n13]
      · rw [if_pos rfl, m_newSlot hur hr8 v2, g_cv_some, h05, h06, m_isPut (hop.e.j hjn) (by omega) hop.e.h.t hux2 hxx, g_cv_some]
      · rw [op32, if_neg h2]; exact h01.1 s' (by omega)
      · exact h141
      · exact hx
end TRY2
