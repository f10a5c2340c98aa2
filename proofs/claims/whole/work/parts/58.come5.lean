/-! come and comes -/
section COME5
variable {b u : gMem} {n a r p t B : Nat} {Q : List Nat}
def cmB (b b' : gMem) (n l sz wk us : Nat) (af st : Int32) : Prop := b'.2 = b.2 ∧ (∀ c i, (c < 5 ∨ 23 < c) → c ≠ 3 → c ≠ 24 → b'.1 c i = b.1 c i) ∧ (∀ c i, 5 ≤ c → c ≤ 23 → i ≠ n → b'.1 c i = b.1 c i) ∧ b'.1 3 2 = nI (n + 1) ∧ (b'.1 5 n = nI sz ∧ b'.1 6 n = nI wk ∧ b'.1 7 n = nI us ∧ b'.1 8 n = af ∧ b'.1 9 n = st ∧ b'.1 10 n = nI wk ∧ b'.1 11 n = nI wk ∧ b'.1 12 n = -1 ∧ b'.1 13 n = -1 ∧ b'.1 14 n = nI (wd sz) ∧ b'.1 15 n = 0 ∧ b'.1 16 n = 0 ∧ b'.1 17 n = 0 ∧ b'.1 18 n = b.1 0 12 ∧ b'.1 19 n = -1 ∧ b'.1 20 n = -1 ∧ b'.1 21 n = 0 ∧ b'.1 22 n = 0 ∧ b'.1 23 n = 0) ∧ b'.1 3 3 = (if st = 1 then nI (l + 1) else nI l) ∧ ∀ i, b'.1 24 i = if st = 1 ∧ i = l then nI n else b.1 24 i
def cmU (u u' : gMem) (n sz wk us : Nat) (af st : Int32) : Prop := u'.2 = u.2 ∧ (∀ c i, c ≠ 1 → u'.1 c i = u.1 c i) ∧ (∀ i, (i < 42 + 20 * n ∨ 42 + 20 * n + 20 ≤ i) → i ≠ 11 → i ≠ 17 → u'.1 1 i = u.1 1 i) ∧ u'.1 1 11 = nI (n + 1) ∧ (u'.1 1 17 = if st = 1 then u.1 1 17 + 1 else u.1 1 17) ∧ (mA u' n 0 = nI sz ∧ mA u' n 1 = nI wk ∧ mA u' n 2 = nI us ∧ mA u' n 3 = af + 1 ∧ mA u' n 4 = st ∧ mA u' n 5 = nI wk ∧ mA u' n 6 = nI wk ∧ mA u' n 7 = 0 ∧ mA u' n 8 = 0 ∧ mA u' n 9 = nI (wd sz) ∧ mA u' n 10 = 0 ∧ mA u' n 11 = 0 ∧ mA u' n 12 = 0 ∧ mA u' n 13 = u.1 1 10 ∧ mA u' n 14 = 0 ∧ mA u' n 15 = 0 ∧ mA u' n 16 = 0 ∧ mA u' n 17 = 0 ∧ mA u' n 18 = 0) ∧ (st = 1 → mA u' n 19 = u.1 1 17)
def cmD (f9 : Nat → Int32) (n : Nat) (af st : Int32) : Prop := (st = 1 ∧ (af = -1 ∨ ∃ f, af = nI f ∧ f < n ∧ f9 f = 3)) ∨ (st = 0 ∧ ∃ f, af = nI f ∧ f < n ∧ f9 f ≠ 3)
theorem c_come {sz wk us l x : Nat} {af st : Int32} (h3 : b.1 3 2 = nI n) (hn : n < 60) (hsz : sz ≤ 32) (hl : b.1 3 3 = nI l) (hl2 : l < 60) (hx : b.1 39 1 = nI x) (hx2 : x < 2147483648) (hst : cmD (b.1 9) n af st) : ∃ b1, cmB b b1 n l sz wk us af st ∧ mX2_come [.ref 0, .int (nI sz), .int (nI wk), .int (nI us), .int af] b = some (some (.int (nI n)), lgB b1 x 0 (nI n) (-1) (-1)) := by
  obtain ⟨b1, g1, g2, g3, g4, g5, g6⟩ := c_add (sz := sz) (wk := wk) (us := us) (af := af) (tm := b.1 0 12) h3 hn hsz
  have q33 : b1.1 3 3 = nI l := (g3 3 3 (by omega) (by omega)).trans hl
  have q39 : b1.1 39 1 = nI x := (g3 39 1 (by omega) (by omega)).trans hx
  obtain ⟨x5, x6, x7, x8, x9, x10, x11, x12, x13, x14, x15, x16, x17, x18, x19, x20, x21, x22, x23⟩ := g6
  rw [eX2_come, g1, g_ci_some]
  rcases hst with ⟨s1, s2⟩ | ⟨s1, f, s2, s3, s4⟩
  · subst s1
    have key : g_cv (mX4_toLine [.ref 3, .int (nI n)] b1) (fun u2 => (g_cv (mX2_note [.ref 0, .int 0, .int (nI n)] u2) (fun u3 => some (some (Value.int (nI n)), u3)))) = some (some (.int (nI n)), lgB (gwI (gwI (gwI b1 9 n 1) 24 l (nI n)) 3 3 (nI (l + 1))) x 0 (nI n) (-1) (-1)) := by
      rw [c_toLine q33 hl2 hn, g_cv_some, c_note (x := x) (by rw [gI_r, if_neg (by omega), gI_r, if_neg (by omega), gI_r, if_neg (by omega)]; exact q39) hx2 hn, g_cv_some]
      rw [show (gwI (gwI (gwI b1 9 n 1) 24 l (nI n)) 3 3 (nI (l + 1))).1 12 n = -1 from x12, show (gwI (gwI (gwI b1 9 n 1) 24 l (nI n)) 3 3 (nI (l + 1))).1 13 n = -1 from x13]
    refine ⟨gwI (gwI (gwI b1 9 n 1) 24 l (nI n)) 3 3 (nI (l + 1)), ⟨g2, ?_, ?_, ?_, ?_, ?_, ?_⟩, ?_⟩
    · intro c i h1 h2 h3
      rw [gI_r, if_neg (by omega), gI_r, if_neg (by omega), gI_r, if_neg (by omega)]; exact g3 c i h1 (by omega)
    · intro c i h1 h2 h3
      rw [gI_r, if_neg (by omega), gI_r, if_neg (by omega), gI_r, if_neg (by omega)]; exact g4 c i h1 h2 h3
    · rw [gI_r, if_neg (by omega), gI_r, if_neg (by omega), gI_r, if_neg (by omega)]; exact g5
    · have hc : ∀ c, 5 ≤ c → c ≤ 23 → c ≠ 9 → (gwI (gwI (gwI b1 9 n 1) 24 l (nI n)) 3 3 (nI (l + 1))).1 c n = b1.1 c n := fun c h1 h2 h3 => by
        rw [gI_r, if_neg (by omega), gI_r, if_neg (by omega), gI_r, if_neg (by omega)]
      have h9 : (gwI (gwI (gwI b1 9 n 1) 24 l (nI n)) 3 3 (nI (l + 1))).1 9 n = 1 := by
        rw [gI_r, if_neg (by omega), gI_r, if_neg (by omega), gI_r, if_pos ⟨rfl, rfl⟩]
      rw [hc 5 (by omega) (by omega) (by omega), hc 6 (by omega) (by omega) (by omega), hc 7 (by omega) (by omega) (by omega), hc 8 (by omega) (by omega) (by omega), h9, hc 10 (by omega) (by omega) (by omega), hc 11 (by omega) (by omega) (by omega), hc 12 (by omega) (by omega) (by omega), hc 13 (by omega) (by omega) (by omega), hc 14 (by omega) (by omega) (by omega), hc 15 (by omega) (by omega) (by omega), hc 16 (by omega) (by omega) (by omega), hc 17 (by omega) (by omega) (by omega), hc 18 (by omega) (by omega) (by omega), hc 19 (by omega) (by omega) (by omega), hc 20 (by omega) (by omega) (by omega), hc 21 (by omega) (by omega) (by omega), hc 22 (by omega) (by omega) (by omega), hc 23 (by omega) (by omega) (by omega)]
      exact ⟨x5, x6, x7, x8, rfl, x10, x11, x12, x13, x14, x15, x16, x17, x18, x19, x20, x21, x22, x23⟩
    · rw [gI_r, if_pos ⟨rfl, rfl⟩, if_pos rfl]
    · intro i
      rw [gI_r, if_neg (by omega), gI_r]
      by_cases q : i = l
      · rw [if_pos ⟨rfl, q⟩, if_pos ⟨rfl, q⟩]
      · rw [if_neg (fun z => q z.2), if_neg (fun z => q z.2), gI_r, if_neg (by omega)]; exact g3 24 i (by omega) (by omega)
    · rcases s2 with s2 | ⟨f, s2, s3, s4⟩
      · rw [if_pos s2]; exact key
      · subst s2
        rw [if_neg (nm1 (by omega)), c_state (by omega), g_ci_some, g4 9 f (by omega) (by omega) (by omega), s4, if_pos rfl]; exact key
  · subst s1
    subst s2
    refine ⟨b1, ⟨g2, fun c i h1 h2 h3 => g3 c i h1 (by omega), g4, g5, ⟨x5, x6, x7, x8, x9, x10, x11, x12, x13, x14, x15, x16, x17, x18, x19, x20, x21, x22, x23⟩, ?_, fun i => ?_⟩, ?_⟩
    · rw [if_neg (by decide)]; exact q33
    · rw [if_neg (fun z => absurd z.1 (by decide))]; exact g3 24 i (by omega) (by omega)
    · rw [if_neg (nm1 (by omega)), c_state (by omega), g_ci_some, g4 9 f (by omega) (by omega) (by omega), if_neg s4, c_note q39 hx2 hn, g_cv_some, x12, x13]
theorem m_come {sz wk us x : Nat} {af st : Int32} (h3 : u.1 1 11 = nI n) (hn : n < 60) (hsz : sz ≤ 32) (hx : u.1 1 15 = nI x) (hx2 : x < 2147483648) (hst : cmD (fun f => mA u f 4) n af st) : ∃ u1, cmU u u1 n sz wk us af st ∧ mX10_comes [.ref 0, .int (nI sz), .int (nI wk), .int (nI us), .int af] u = some (some (.int (nI n)), lgU u1 x 0 (nI n) (-1) (-1)) := by
  obtain ⟨u1, g1, g2, g3, g4, g5, g6⟩ := m_comes0 (sz := sz) (wk := wk) (us := us) (af := af) h3 hn hsz
  have q15 : u1.1 1 15 = nI x := (g3 15 (by omega) (by omega)).trans hx
  have q17 : u1.1 1 17 = u.1 1 17 := g3 17 (by omega) (by omega)
  rw [g6, m_writes q15 hx2, g_cv_some]
  rcases hst with ⟨s1, s2⟩ | ⟨s1, f, s2, s3, s4⟩
  · subst s1
    have key : g_cv (mX10_waits [.ref 0, .int (nI n)] (lgU u1 x 0 (nI n) (-1) (-1))) (fun u12 => some (some (Value.int (nI n)), u12)) = some (some (.int (nI n)), lgU (wH (wA (wA u1 n 4 1) n 19 (u.1 1 17)) 17 (u.1 1 17 + 1)) x 0 (nI n) (-1) (-1)) := by
      rw [m_waits hn, g_cv_some, lg_at (by omega) (by omega), q17]
      unfold wH wA
      rw [lgU_comm (by omega) (by omega) (by omega), lgU_comm (by omega) (by omega) (by omega), lgU_comm (by omega) (by omega) (by omega)]
    refine ⟨wH (wA (wA u1 n 4 1) n 19 (u.1 1 17)) 17 (u.1 1 17 + 1), ⟨g1, ?_, ?_, ?_, ?_, ?_, ?_⟩, ?_⟩
    · intro c i hc; rw [wH_c hc, wA_c hc, wA_c hc]; exact g2 c i hc
    · intro i h1 h2 h3
      unfold wH wA
      rw [gI_r, if_neg (by omega), gI_r, if_neg (by omega), gI_r, if_neg (by omega)]; exact g3 i h1 h2
    · rw [wH_h, if_neg (by omega), wA_h (by omega), wA_h (by omega)]; exact g4
    · rw [wH_h, if_pos rfl, if_pos rfl]
    · have hw : ∀ w, w < 19 → w ≠ 4 → mA (wH (wA (wA u1 n 4 1) n 19 (u.1 1 17)) 17 (u.1 1 17 + 1)) n w = mA u1 n w := fun w h1 h2 => by
        rw [mA_wH (by omega) (by omega) (by omega), mA_wA (by omega) (by omega) (by omega) (by omega), if_neg (by omega), mA_wA (by omega) (by omega) (by omega) (by omega), if_neg (by omega)]
      have h4 : mA (wH (wA (wA u1 n 4 1) n 19 (u.1 1 17)) 17 (u.1 1 17 + 1)) n 4 = 1 := by
        rw [mA_wH (by omega) (by omega) (by omega), mA_wA (by omega) (by omega) (by omega) (by omega), if_neg (by omega), mA_wA (by omega) (by omega) (by omega) (by omega), if_pos ⟨rfl, rfl⟩]
      rw [hw 0 (by omega) (by omega), hw 1 (by omega) (by omega), hw 2 (by omega) (by omega), hw 3 (by omega) (by omega), h4, hw 5 (by omega) (by omega), hw 6 (by omega) (by omega), hw 7 (by omega) (by omega), hw 8 (by omega) (by omega), hw 9 (by omega) (by omega), hw 10 (by omega) (by omega), hw 11 (by omega) (by omega), hw 12 (by omega) (by omega), hw 13 (by omega) (by omega), hw 14 (by omega) (by omega), hw 15 (by omega) (by omega), hw 16 (by omega) (by omega), hw 17 (by omega) (by omega), hw 18 (by omega) (by omega)]
      obtain ⟨y0, y1, y2, y3, y4, y5, y6, y7, y8, y9, y10, y11, y12, y13, y14, y15, y16, y17, y18⟩ := g5
      exact ⟨y0, y1, y2, y3, rfl, y5, y6, y7, y8, y9, y10, y11, y12, y13, y14, y15, y16, y17, y18⟩
    · intro _
      rw [mA_wH (by omega) (by omega) (by omega), mA_wA (by omega) (by omega) (by omega) (by omega), if_pos ⟨rfl, rfl⟩]
    · rcases s2 with s2 | ⟨f, s2, s3, s4⟩
      · rw [if_pos s2]; exact key
      · subst s2
        have e4 : mA (lgU u1 x 0 (nI n) (-1) (-1)) f 4 = 3 := by
          unfold mA; rw [lg_at (by omega) (by omega), g3 _ (by omega) (by omega)]; exact s4
        rw [if_neg (nm1 (by omega)), at_4 (by omega), g_ci_some, e4, if_pos rfl]; exact key
  · subst s1
    subst s2
    refine ⟨u1, ⟨g1, g2, fun i h1 h2 _ => g3 i h1 h2, g4, ?_, g5, fun z => absurd z (by decide)⟩, ?_⟩
    · rw [if_neg (by decide)]; exact q17
    · have e4 : mA (lgU u1 x 0 (nI n) (-1) (-1)) f 4 = mA u f 4 := by
        unfold mA; rw [lg_at (by omega) (by omega), g3 _ (by omega) (by omega)]
      rw [if_neg (nm1 (by omega)), at_4 (by omega), g_ci_some, e4, if_neg s4]
/-- the arrivals of another memory -/
def pa (b w : gMem) : gMem := (fun c i => if c = 33 ∨ (35 ≤ c ∧ c ≤ 38) then w.1 c i else b.1 c i, b.2)
theorem pa_in {w : gMem} {c i : Nat} (h : c = 33 ∨ (35 ≤ c ∧ c ≤ 38)) : (pa b w).1 c i = w.1 c i := if_pos h
theorem pa_out {w : gMem} {c i : Nat} (h : ¬ (c = 33 ∨ (35 ≤ c ∧ c ≤ 38))) : (pa b w).1 c i = b.1 c i := if_neg h
theorem pa_id : pa b b = b := Prod.ext (funext fun c => funext fun i => by show (pa b b).1 c i = b.1 c i; unfold pa; simp) rfl
theorem pa_of {b' w : gMem} (h : ∀ c i, (c = 33 ∨ (35 ≤ c ∧ c ≤ 38)) → b'.1 c i = w.1 c i) : pa b' w = b' := Prod.ext (funext fun c => funext fun i => by
  show (pa b' w).1 c i = b'.1 c i
  by_cases q : c = 33 ∨ (35 ≤ c ∧ c ≤ 38)
  · rw [pa_in q, h c i q]
  · rw [pa_out q]) rfl
theorem pa_w {w : gMem} {c i : Nat} {x : Int32} (h : ¬ (c = 33 ∨ (35 ≤ c ∧ c ≤ 38))) : pa (gwI b c i x) w = gwI (pa b w) c i x := Prod.ext (funext fun d => funext fun k => by
  show (pa (gwI b c i x) w).1 d k = (gwI (pa b w) c i x).1 d k
  rw [gI_r]
  by_cases q : d = 33 ∨ (35 ≤ d ∧ d ≤ 38)
  · rw [pa_in q, if_neg (fun (z : d = c ∧ k = i) => h (z.1 ▸ q)), pa_in q]
  · rw [pa_out q, gI_r, pa_out q]) rfl
theorem pa_lg {w : gMem} {x : Nat} {wh j s c : Int32} : pa (lgB b x wh j s c) w = lgB (pa b w) x wh j s c := by
  unfold lgB
  rw [pa_w (by omega), pa_w (by omega), pa_w (by omega), pa_w (by omega), pa_w (by omega), pa_w (by omega), pa_out (b := b) (c := 0) (by omega)]
theorem come_pa {w : gMem} {sz wk us : Nat} {af : Int32} (h : BW (pa b w) u n a r p t Q B) (h9 : B + 2 ≤ 1000000000) (hna : n + a < 60) (hsz : 1 ≤ sz ∧ sz ≤ p) (hwk : 1 ≤ wk ∧ wk ≤ 9999) (hus : us < 6) (haf : af = -1 ∨ ∃ f, af = nI f ∧ f < n) : ∃ b' u' Q', mX2_come [.ref 0, .int (nI sz), .int (nI wk), .int (nI us), .int af] b = some (some (.int (nI n)), b') ∧ mX10_comes [.ref 0, .int (nI sz), .int (nI wk), .int (nI us), .int af] u = some (some (.int (nI n)), u') ∧ BW (pa b' w) u' (n + 1) a r p t Q' (B + 2) ∧ im u u' ∧ ug 1242 1482 u u' ∧ (∀ c i, (c < 5 ∨ 23 < c) → c ∉ [3, 24, 39, 41, 42, 43, 44, 45] → b'.1 c i = b.1 c i) ∧ (∀ c i, 5 ≤ c → c ≤ 23 → i ≠ n → b'.1 c i = b.1 c i) ∧ (b'.1 9 n = 0 ∨ b'.1 9 n = 1) := by
  have hp := h.A.p32
  have hb3 : b.1 3 2 = nI n := (pa_out (b := b) (w := w) (by omega)).symm.trans h.A.1
  obtain ⟨x, hx, hxB⟩ := h.B.2.2.1
  have hxb : b.1 39 1 = nI x := (pa_out (b := b) (w := w) (by omega)).symm.trans hx
  have hux : u.1 1 15 = nI x := h.e.1.2.1.2.2.2.2.2.1.trans hx
  have hl : b.1 3 3 = nI Q.length := (pa_out (b := b) (w := w) (by omega)).symm.trans h.Q.1
  have hlen : Q.length ≤ n := by
    have := nodup_le (M := List.range n) h.Q.2.2.2.1 (fun x hx => List.mem_range.mpr (Q_mem h hx).1)
    simpa using this
  have h9s : ∀ f, f < n → mA u f 4 = b.1 9 f := fun f hf => (h.e.j hf).f4.trans (pa_out (by omega))
  have hst : ∃ st, cmD (b.1 9) n af st := by
    rcases haf with q | ⟨f, q1, q2⟩
    · exact ⟨1, Or.inl ⟨rfl, Or.inl q⟩⟩
    · by_cases z : b.1 9 f = 3
      · exact ⟨1, Or.inl ⟨rfl, Or.inr ⟨f, q1, q2, z⟩⟩⟩
      · exact ⟨0, Or.inr ⟨rfl, f, q1, q2, z⟩⟩
  obtain ⟨st, hst⟩ := hst
  have hst2 : cmD (fun f => mA u f 4) n af st := by
    rcases hst with ⟨s1, s2⟩ | ⟨s1, f, s2, s3, s4⟩
    · refine Or.inl ⟨s1, ?_⟩
      rcases s2 with s2 | ⟨f, s2, s3, s4⟩
      · exact Or.inl s2
      · exact Or.inr ⟨f, s2, s3, (h9s f s3).trans s4⟩
    · exact Or.inr ⟨s1, f, s2, s3, fun z => s4 ((h9s f s3).symm.trans z)⟩
  obtain ⟨b1, ⟨c0, c1, c2, c3, c4, c5, c6⟩, cc⟩ := c_come (sz := sz) (wk := wk) (us := us) hb3 (by omega) (by omega) hl (by omega) hxb (by omega) hst
  obtain ⟨u1, ⟨m0, m1, m2, m3, m4, m5, m6⟩, mm⟩ := m_come (sz := sz) (wk := wk) (us := us) (h.e.h.n.trans h.A.1) (by omega) (by omega) hux (by omega) hst2
  have hQ : ∃ Q', ((st = 1 ∧ Q' = Q ++ [n]) ∨ (st = 0 ∧ Q' = Q ∧ ∃ f, af = nI f ∧ f < n)) := by
    rcases hst with ⟨s1, s2⟩ | ⟨s1, f, s2, s3, s4⟩
    · exact ⟨_, Or.inl ⟨s1, rfl⟩⟩
    · exact ⟨_, Or.inr ⟨s1, rfl, f, s2, s3⟩⟩
  obtain ⟨Q', hQ⟩ := hQ
  have hrel : BW (pa b1 w) u1 (n + 1) a r p t Q' (B + 1) := by
    refine come_rel (b := pa b w) (sz := sz) (wk := wk) (us := us) (af := af) (st := st) h (by omega) hna hsz hwk hus haf hQ ?_ c0 ?_ ?_ ?_ ?_ ?_ m2 m0 m3 m4 m5 m6
    · intro c i h1 h2 h3
      by_cases q : c = 33 ∨ (35 ≤ c ∧ c ≤ 38)
      · rw [pa_in q, pa_in q]
      · rw [pa_out q, pa_out q]; exact c1 c i h1 h2 h3
    · intro c i h1 h2 h3
      rw [pa_out (by omega), pa_out (by omega)]; exact c2 c i h1 h2 h3
    · rw [pa_out (by omega)]; exact c3
    · simp only [pa_out (b := b1) (w := w) (c := 5) (by omega), pa_out (b := b1) (w := w) (c := 6) (by omega), pa_out (b := b1) (w := w) (c := 7) (by omega), pa_out (b := b1) (w := w) (c := 8) (by omega), pa_out (b := b1) (w := w) (c := 9) (by omega), pa_out (b := b1) (w := w) (c := 10) (by omega), pa_out (b := b1) (w := w) (c := 11) (by omega), pa_out (b := b1) (w := w) (c := 12) (by omega), pa_out (b := b1) (w := w) (c := 13) (by omega), pa_out (b := b1) (w := w) (c := 14) (by omega), pa_out (b := b1) (w := w) (c := 15) (by omega), pa_out (b := b1) (w := w) (c := 16) (by omega), pa_out (b := b1) (w := w) (c := 17) (by omega), pa_out (b := b1) (w := w) (c := 18) (by omega), pa_out (b := b1) (w := w) (c := 19) (by omega), pa_out (b := b1) (w := w) (c := 20) (by omega), pa_out (b := b1) (w := w) (c := 21) (by omega), pa_out (b := b1) (w := w) (c := 22) (by omega), pa_out (b := b1) (w := w) (c := 23) (by omega), pa_out (b := b) (w := w) (c := 0) (by omega)]
      exact c4
    · rw [pa_out (by omega), c5]
      rcases hQ with ⟨q1, q2⟩ | ⟨q1, q2, -⟩
      · rw [if_pos q1, q2]; simp
      · rw [q1, if_neg (by decide), q2]
    · intro i hi
      rw [pa_out (by omega), c6]
      have ha := h.Q.2.2.1
      rcases hQ with ⟨q1, q2⟩ | ⟨q1, q2, -⟩
      · subst q2
        by_cases z : i = Q.length
        · rw [if_pos ⟨q1, z⟩]; subst z; simp
        · rw [if_neg (fun y => z y.2)]
          have hlt : i < Q.length := by simp at hi; omega
          rw [List.getElem_append_left hlt, ← ha i hlt, pa_out (by omega)]
      · subst q2
        rw [if_neg (fun y => absurd (q1.symm.trans y.1) (by decide)), ← ha i hi, pa_out (by omega)]
  refine ⟨_, _, Q', cc, mm, ?_, ?_, ?_, ?_, ?_, ?_⟩
  · rw [pa_lg]
    exact log_rel hrel ((pa_out (by omega)).trans ((c1 39 1 (by omega) (by omega) (by omega)).trans hxb)) (by omega) (by omega)
  · refine ⟨fun c i hc => ?_, ?_, fun c i hc => ?_⟩
    · rw [lg_c (by omega)]; exact m1 c i (by omega)
    · rw [lg_c (by omega)]; exact m1 0 27 (by omega)
    · show u1.2 c i = _; rw [m0]
  · exact ug.tr (fun i h1 h2 => m2 i (by omega) (by omega) (by omega)) (lg_ug (by omega) (by omega))
  · intro c i h1 h2
    have h3 : c ∉ [39, 41, 42, 43, 44, 45] := fun z => h2 (by simp at z ⊢; omega)
    rw [lgB_c h3]
    simp at h2
    exact c1 c i h1 (by omega) (by omega)
  · intro c i h1 h2 h3
    rw [lgB_c (by simp; omega)]; exact c2 c i h1 h2 h3
  · rw [lgB_c (by decide), c4.2.2.2.2.1]
    rcases hQ with q | q
    · exact Or.inr q.1
    · exact Or.inl q.1
end COME5
