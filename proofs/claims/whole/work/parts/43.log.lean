/-! the log on both sides -/
theorem x60 {x : Nat} (h : x < 2147483648) : (0 : Int32) ≤ nI x ^^^ 60 := by
  have h0 : (nI x).toBitVec.msb = false := by
    rw [BitVec.msb_eq_toInt]
    have := nI_toInt h
    exact decide_eq_false (by show ¬ (nI x).toInt < 0; omega)
  have h1 : (nI x ^^^ 60).toBitVec.msb = false := by
    rw [Int32.toBitVec_xor, BitVec.msb_xor, h0]; decide
  rw [BitVec.msb_eq_toInt] at h1
  rw [Int32.le_iff_toInt_le]
  have h2 := of_decide_eq_false h1
  have h3 : (0 : Int32).toInt = 0 := by decide
  have h4 : ¬ (nI x ^^^ 60).toInt < 0 := h2
  omega
theorem rm60 {x : Nat} (h : x < 2147483648) : nI x - nI x / 60 * 60 = nI (x % 60) := by
  rw [show (60 : Int32) = nI 60 from rfl, pk_div (by omega) (by omega) (by omega), nml, nsb (by omega)]
  congr 1
  omega
theorem c_mod60 {x : Nat} {u : gMem} (h : x < 2147483648) : mJ9_floorMod_7cf53 [.int (nI x), .int 60] u = some (some (.int (nI (x % 60))), u) := by
  rw [eJ9_floorMod_7cf53, if_neg (by decide), if_pos (x60 h), rm60 h]
def lgB (b : gMem) (x : Nat) (wh j s c : Int32) : gMem := gwI (gwI (gwI (gwI (gwI (gwI b 41 (x % 60) (b.1 0 12)) 42 (x % 60) wh) 43 (x % 60) j) 44 (x % 60) s) 45 (x % 60) c) 39 1 (nI (x + 1))
def lgU (u : gMem) (x : Nat) (wh j s c : Int32) : gMem := wH (wL (wL (wL (wL (wL u (x % 60) 0 (u.1 1 10)) (x % 60) 1 wh) (x % 60) 2 j) (x % 60) 3 s) (x % 60) 4 c) 15 (nI (x + 1))
theorem c_note {b : gMem} {x j : Nat} {wh : Int32} (hx : b.1 39 1 = nI x) (h : x < 2147483648) (hj : j < 60) : mX2_note [.ref 0, .int wh, .int (nI j)] b = some (none, lgB b x wh (nI j) (b.1 12 j) (b.1 13 j)) := by
  have hk : x % 60 < 60 := Nat.mod_lt _ (by omega)
  rw [eX2_note, gin (by omega) (by omega), if_pos rfl, if_pos rfl, tn (by omega), eX6_add_39, hx, c_mod60 h, g_ci_some, gin hk (by omega), if_pos rfl, if_pos rfl, if_pos rfl, if_pos rfl, if_pos rfl, tn (by omega), g_cv_some]
  have e : (gwI (gwI (gwI (gwI (gwI b 41 (x % 60) (b.1 0 12)) 42 (x % 60) wh) 43 (x % 60) (nI j)) 44 (x % 60) (b.1 12 j)) 45 (x % 60) (b.1 13 j)).1 39 1 = nI x := hx
  rw [e, nI_1]
  rfl
theorem m_writes {u : gMem} {x : Nat} {wh j s c : Int32} (hx : u.1 1 15 = nI x) (h : x < 2147483648) : mX10_writes [.ref 0, .int wh, .int j, .int s, .int c] u = some (none, lgU u x wh j s c) := by
  have hk : x % 60 < 60 := Nat.mod_lt _ (by omega)
  rw [eX10_writes, hx, rm60 h, show (1490 + 5 * nI (x % 60) : Int32) = nI (1490 + 5 * (x % 60)) from by rw [show (1490 : Int32) = nI 1490 from rfl, show (5 : Int32) = nI 5 from rfl, nml, nad], show (1 : Int32) = nI 1 from rfl, show (2 : Int32) = nI 2 from rfl, show (3 : Int32) = nI 3 from rfl, show (4 : Int32) = nI 4 from rfl, nad, nad, nad, nad, gin (by omega) (by omega), gin (by omega) (by omega), gin (by omega) (by omega), gin (by omega) (by omega), gin (by omega) (by omega), if_pos rfl, if_pos rfl, if_pos rfl, if_pos rfl, if_pos rfl, tn (by omega), tn (by omega), tn (by omega), tn (by omega), tn (by omega), show nI 1 = 1 from rfl, more_15, g_cv_some]
  have e : (gwI (gwI (gwI (gwI (gwI u 1 (1490 + 5 * (x % 60)) (u.1 1 10)) 1 (1490 + 5 * (x % 60) + 1) wh) 1 (1490 + 5 * (x % 60) + 2) j) 1 (1490 + 5 * (x % 60) + 3) s) 1 (1490 + 5 * (x % 60) + 4) c).1 1 15 = nI x := by
    rw [gI_r, if_neg (by omega), gI_r, if_neg (by omega), gI_r, if_neg (by omega), gI_r, if_neg (by omega), gI_r, if_neg (by omega)]; exact hx
  rw [e, nI_1]
  rfl
/-- the relation, but slots may be empty -/
def BW (b u : gMem) (n a r p t : Nat) (Q : List Nat) (B : Nat) : Prop := EE b u n a r ∧ IA b n a r p ∧ IT b ∧ IJ b n p t ∧ IP b n r p ∧ IS b n r ∧ IU b t ∧ IR b a p ∧ ID b p ∧ IQ b u n Q B ∧ IB b t B
theorem BW.e {b u : gMem} {n a r p t B : Nat} {Q : List Nat} (h : BW b u n a r p t Q B) : EE b u n a r := h.1
theorem BW.A {b u : gMem} {n a r p t B : Nat} {Q : List Nat} (h : BW b u n a r p t Q B) : IA b n a r p := h.2.1
theorem BW.T {b u : gMem} {n a r p t B : Nat} {Q : List Nat} (h : BW b u n a r p t Q B) : IT b := h.2.2.1
theorem BW.J {b u : gMem} {n a r p t B : Nat} {Q : List Nat} (h : BW b u n a r p t Q B) : IJ b n p t := h.2.2.2.1
theorem BW.P {b u : gMem} {n a r p t B : Nat} {Q : List Nat} (h : BW b u n a r p t Q B) : IP b n r p := h.2.2.2.2.1
theorem BW.S {b u : gMem} {n a r p t B : Nat} {Q : List Nat} (h : BW b u n a r p t Q B) : IS b n r := h.2.2.2.2.2.1
theorem BW.U {b u : gMem} {n a r p t B : Nat} {Q : List Nat} (h : BW b u n a r p t Q B) : IU b t := h.2.2.2.2.2.2.1
theorem BW.R {b u : gMem} {n a r p t B : Nat} {Q : List Nat} (h : BW b u n a r p t Q B) : IR b a p := h.2.2.2.2.2.2.2.1
theorem BW.D {b u : gMem} {n a r p t B : Nat} {Q : List Nat} (h : BW b u n a r p t Q B) : ID b p := h.2.2.2.2.2.2.2.2.1
theorem BW.Q {b u : gMem} {n a r p t B : Nat} {Q : List Nat} (h : BW b u n a r p t Q B) : IQ b u n Q B := h.2.2.2.2.2.2.2.2.2.1
theorem BW.B {b u : gMem} {n a r p t B : Nat} {Q : List Nat} (h : BW b u n a r p t Q B) : IB b t B := h.2.2.2.2.2.2.2.2.2.2
section LOG
variable {b u : gMem} {n a r p t B : Nat} {Q : List Nat}
theorem BR_iff : BR b u n a r p t Q B ↔ BW b u n a r p t Q B ∧ IS0 b r := by
  constructor
  · rintro ⟨e, h1, h2, h3, h4, h5, h6, h7, h8, hD, hQ, hB⟩
    exact ⟨⟨e, h1, h2, h3, h4, h5, h7, h8, hD, hQ, hB⟩, h6⟩
  · rintro ⟨h, h6⟩
    exact ⟨h.e, h.A, h.T, h.J, h.P, h.S, h6, h.U, h.R, h.D, h.Q, h.B⟩
theorem BW.qs {u' : gMem} (h : BW b u n a r p t Q B) (hq : qs u u') : BW b u' n a r p t Q B := ⟨h.e.q hq, h.A, h.T, h.J, h.P, h.S, h.U, h.R, h.D, hq.xIQ h.Q, h.B⟩
theorem BW.bs {b' : gMem} (h : BW b u n a r p t Q B) (hb : bs b b') : BW b' u n a r p t Q B := ⟨hb.xEE h.e, hb.xIA h.A, hb.xIT h.T, hb.xIJ h.J, hb.xIP h.P, hb.xIS h.S, hb.xIU h.U, hb.xIR h.R, hb.xID h.D, hb.xIQ h.Q, hb.xIB h.B⟩
theorem BW.mono {B' : Nat} (h : BW b u n a r p t Q B) (hB : B ≤ B') (h9 : B' ≤ 1000000000) : BW b u n a r p t Q B' := by
  obtain ⟨e, h1, h2, h3, h4, h5, h7, h8, hD, ⟨q1, q2, q3, q4, q5, ⟨cm, q6, q7, q8⟩, q9⟩, b1, b2, ⟨x, b3, b4⟩, ⟨y, b5, b6⟩, b7⟩ := h
  exact ⟨e, h1, h2, h3, h4, h5, h7, h8, hD, ⟨q1, q2, q3, q4, q5, ⟨cm, q6, by omega, q8⟩, q9⟩, b1, b2, ⟨x, b3, by omega⟩, ⟨y, b5, by omega⟩, h9⟩
theorem lg_ag {S : List Nat} {x : Nat} {wh j s c : Int32} (h1 : 41 ∉ S) (h2 : 42 ∉ S) (h3 : 43 ∉ S) (h4 : 44 ∉ S) (h5 : 45 ∉ S) (h6 : 39 ∉ S) : ag S b (lgB b x wh j s c) := (((((ag.rf.w h1).w h2).w h3).w h4).w h5).w h6
theorem lg_ug {lo hi x : Nat} {wh j s c : Int32} (h : hi ≤ 1490 ∨ 1790 ≤ lo) (h2 : 15 < lo ∨ hi ≤ 15) : ug lo hi u (lgU u x wh j s c) := by
  have hk : x % 60 < 60 := Nat.mod_lt _ (by omega)
  exact (((((ug.rf.w (by omega)).w (by omega)).w (by omega)).w (by omega)).w (by omega)).w (by omega)
theorem lg_at {x i : Nat} {wh j s c : Int32} (h : i < 1490 ∨ 1790 ≤ i) (h2 : i ≠ 15) : (lgU u x wh j s c).1 1 i = u.1 1 i := lg_ug (lo := i) (hi := i + 1) (by omega) (by omega) i (Nat.le_refl _) (by omega)
theorem lg_c {x c' i : Nat} {wh j s c : Int32} (h : c' ≠ 1) : (lgU u x wh j s c).1 c' i = u.1 c' i := by
  unfold lgU; rw [wH_c h, wL_c h, wL_c h, wL_c h, wL_c h, wL_c h]
theorem lgB_c {x c' i : Nat} {wh j s c : Int32} (h : c' ∉ [39, 41, 42, 43, 44, 45]) : (lgB b x wh j s c).1 c' i = b.1 c' i := by
  simp only [List.mem_cons, not_or, List.not_mem_nil] at h
  exact (lg_ag (S := [c']) (by simp; omega) (by simp; omega) (by simp; omega) (by simp; omega) (by simp; omega) (by simp; omega)).c c' i (by simp)
theorem log_rel {x : Nat} {wh j s c : Int32} (h : BW b u n a r p t Q B) (hx : b.1 39 1 = nI x) (hxB : x ≤ B) (h9 : B + 1 ≤ 1000000000) : BW (lgB b x wh j s c) (lgU u x wh j s c) n a r p t Q (B + 1) := by
  have hk : x % 60 < 60 := Nat.mod_lt _ (by omega)
  obtain ⟨⟨e1, e2, e3, e4, e5, e6⟩, h1, h2, h3, h4, h5, h7, h8, hD, hQ, hB⟩ := h.mono (Nat.le_succ B) h9
  have hn := h1.n60
  have ha : a ≤ 60 := by have := h1.2.2.2.1; omega
  refine ⟨⟨?_, ?_, ?_, ?_, ?_, ?_⟩, ?_, ?_, ?_, ?_, ?_, ?_, ?_, ?_, ?_, ?_⟩
  · refine e1.fr (lg_ag (by decide) (by decide) (by decide) (by decide) (by decide) (by decide)) (fun i hi => lg_at (by omega) (by omega)) ?_
    obtain ⟨g1, g2, g3, g4, g5, g6, g7⟩ := e1.2.1
    refine ⟨?_, ?_, ?_, ?_, ?_, rfl, ?_⟩ <;> rw [lg_at (by omega) (by omega), lgB_c (by decide)] <;> assumption
  · exact e2.fr hn (lg_ag (by decide) (by decide) (by decide) (by decide) (by decide) (by decide)) (lg_ug (by omega) (by omega))
  · exact e3.fr ha (lg_ag (by decide) (by decide) (by decide) (by decide) (by decide) (by decide)) (lg_ug (by omega) (by omega))
  · exact e4.fr h1.2.2.2.2.1 (lg_ag (by decide) (by decide) (by decide) (by decide) (by decide) (by decide)) (lg_ug (by omega) (by omega)) (fun _ _ => rfl) (fun _ _ => rfl)
  · intro k hk2
    have he := e5 k hk2
    unfold lgB lgU
    simp (disch := omega) only [mL_wH, mL_wL]
    simp only [gI_r]
    by_cases q : k = x % 60
    · simp [q, e1.t]
    · simp [q]
      exact he
  · exact e6.fr (lg_ag (by decide) (by decide) (by decide) (by decide) (by decide) (by decide)) (lg_ug (by omega) (by omega))
  · exact h1.fr (lgB_c (by decide)) (lgB_c (by decide)) (lgB_c (by decide)) (lgB_c (by decide))
  · exact h2.fr (lg_ag (by decide) (by decide) (by decide) (by decide) (by decide) (by decide))
  · exact h3.fr (lg_ag (by decide) (by decide) (by decide) (by decide) (by decide) (by decide))
  · exact h4.fr (lg_ag (by decide) (by decide) (by decide) (by decide) (by decide) (by decide)) (lgB_c (by decide))
  · exact h5.fr (lg_ag (by decide) (by decide) (by decide) (by decide) (by decide) (by decide))
  · exact h7.fr (lg_ag (by decide) (by decide) (by decide) (by decide) (by decide) (by decide))
  · exact h8.fr (lg_ag (by decide) (by decide) (by decide) (by decide) (by decide) (by decide))
  · exact hD.fr (lgB_c (by decide))
  · exact hQ.fr hn (lg_ag (by decide) (by decide) (by decide) (by decide) (by decide) (by decide)) (lgB_c (by decide)) (lg_at (by omega) (by omega)) (fun j hj => lg_at (by omega) (by omega))
  · obtain ⟨b1, b2, ⟨y, b3, b4⟩, b5, b7⟩ := hB
    exact ⟨by rw [lgB_c (by decide)]; exact b1, b2, ⟨x + 1, rfl, by omega⟩, by rw [lgB_c (by decide)]; exact b5, b7⟩
end LOG
