/-! the columns of a quantum are counted -/
section COUNT
variable {b u b' u' : gMem} {n a r p t B : Nat} {Q : List Nat}
def cnB (b : gMem) (x0 x1 x2 x3 x4 : Int32) : gMem := gwI (gwI (gwI (gwI (gwI b 2 0 (b.1 2 0 + x0)) 2 1 (b.1 2 1 + x1)) 2 2 (b.1 2 2 + x2)) 2 3 (b.1 2 3 + x3)) 2 4 (b.1 2 4 + x4)
def cnU (u : gMem) (x0 x1 x2 x3 x4 : Int32) : gMem := wH (wH (wH (wH (wH u 18 (u.1 1 18 + x0)) 19 (u.1 1 19 + x1)) 20 (u.1 1 20 + x2)) 21 (u.1 1 21 + x3)) 22 (u.1 1 22 + x4)
theorem cn_rel {x0 x1 x2 x3 x4 : Int32} (h : BW b u n a r p t Q B) : BW (cnB b x0 x1 x2 x3 x4) (cnU u x0 x1 x2 x3 x4) n a r p t Q B := by
  unfold cnB cnU
  have e := h.e.1.2.2.1
  rw [show u.1 1 18 = b.1 2 0 from e 0 (by omega), show u.1 1 19 = b.1 2 1 from e 1 (by omega), show u.1 1 20 = b.1 2 2 from e 2 (by omega), show u.1 1 21 = b.1 2 3 from e 3 (by omega), show u.1 1 22 = b.1 2 4 from e 4 (by omega)]
  exact tal_rel (k := 4) (tal_rel (k := 3) (tal_rel (k := 2) (tal_rel (k := 1) (tal_rel (k := 0) h (by omega)) (by omega)) (by omega)) (by omega)) (by omega)
theorem cnB_o {x0 x1 x2 x3 x4 : Int32} {c i : Nat} (h : c ≠ 2) : (cnB b x0 x1 x2 x3 x4).1 c i = b.1 c i := by
  unfold cnB
  rw [gI_r, if_neg (by omega), gI_r, if_neg (by omega), gI_r, if_neg (by omega), gI_r, if_neg (by omega), gI_r, if_neg (by omega)]
theorem cnU_c {x0 x1 x2 x3 x4 : Int32} {c i : Nat} (h : c ≠ 1) : (cnU u x0 x1 x2 x3 x4).1 c i = u.1 c i := by
  unfold cnU
  rw [wH_c h, wH_c h, wH_c h, wH_c h, wH_c h]
theorem m_counts {v1 v2 v3 : Int32} (h : BW b u n a r p t Q B) : mX10_countsColumns [.ref 0, .int v1, .int v2, .int v3] u = some (none, cnU u (nI (pcn v1)) (nI (pcn (v2 &&& (v1 ^^^ (-1))))) (nI (pcn ((v3 &&& (v2 ^^^ (-1))) &&& (v1 ^^^ (-1))))) (nI (pcn ((ups b p &&& (v3 ^^^ (-1))) &&& (v1 ^^^ (-1))))) (nI (pcn (b.1 0 13)))) := by
  have hp := h.A.p32
  rw [eX10_countsColumns, m_cols h.e h.A, g_ci_some, show mX10_bits [.ref 0, .int 0, .int (nI p)] u = _ from mbits (c := 0) hp.2, g_ci_some, ones_e, g_ci_some, more_18, g_cv_some, ones_e, g_ci_some, more_19, g_cv_some, ones_e, g_ci_some, more_20, g_cv_some, ones_e, g_ci_some, more_21, g_cv_some, ones_e, g_ci_some, more_22, g_cv_some, h.e.h.d]
  have e14 : (wH (wH (wH (wH u 18 (u.1 1 18 + nI (pcn v1))) 19 ((wH u 18 (u.1 1 18 + nI (pcn v1))).1 1 19 + nI (pcn (v2 &&& (v1 ^^^ -1))))) 20 ((wH (wH u 18 (u.1 1 18 + nI (pcn v1))) 19 ((wH u 18 (u.1 1 18 + nI (pcn v1))).1 1 19 + nI (pcn (v2 &&& (v1 ^^^ -1))))).1 1 20 + nI (pcn (v3 &&& (v2 ^^^ -1) &&& (v1 ^^^ -1))))) 21 ((wH (wH (wH u 18 (u.1 1 18 + nI (pcn v1))) 19 ((wH u 18 (u.1 1 18 + nI (pcn v1))).1 1 19 + nI (pcn (v2 &&& (v1 ^^^ -1))))) 20 ((wH (wH u 18 (u.1 1 18 + nI (pcn v1))) 19 ((wH u 18 (u.1 1 18 + nI (pcn v1))).1 1 19 + nI (pcn (v2 &&& (v1 ^^^ -1))))).1 1 20 + nI (pcn (v3 &&& (v2 ^^^ -1) &&& (v1 ^^^ -1))))).1 1 21 + nI (pcn ((BK 0 p &&& (b.1 0 13 ^^^ -1)) &&& (v3 ^^^ -1) &&& (v1 ^^^ -1))))).1 1 14 = b.1 0 13 := h.e.h.d
  rw [e14]
  rfl
theorem bl_up {j d : Nat} (h : BW b u n a r p t Q B) (hj : j < n) (h2 : b.1 9 j = 2) (hd : d < 32) (hb : bt (bl b j) d = true) : bt (ups b p) d = true := by
  have hp := h.A.p32
  obtain ⟨-, y3, y4, y5, y6⟩ := ip_yes (h.P.1 j hj) h2
  have hw := jw (h.J j hj)
  have := wd_pos (jn b 5 j)
  rw [ups_bt hp.2 hd]
  have h1 := b_z.mp y6 d hd
  rw [b_and, hb] at h1
  unfold bl at hb
  rw [b_BK (by omega) (by omega) hd] at hb
  have := of_decide_eq_true hb
  have hdp : d < p := by omega
  simp [hdp]
  simpa using h1
theorem ce_bl {j d : Nat} (h : BW b u n a r p t Q B) (hj : j < n) (h2 : b.1 9 j = 2) (hd : d < 32) (hb : bt (ce b j) d = true) : bt (bl b j) d = true := by
  have hp := h.A.p32
  obtain ⟨-, y3, y4, y5, y6⟩ := ip_yes (h.P.1 j hj) h2
  have hw := jw (h.J j hj)
  have h5 := (h.J j hj).1
  have hge := wd_ge (s := jn b 5 j) (by omega)
  have := wd_pos (jn b 5 j)
  unfold ce at hb
  unfold bl
  rw [b_BK (by omega) (by omega) hd] at *
  have := of_decide_eq_true hb
  exact decide_eq_true (by omega)
theorem sb_up {s d : Nat} (hs : s < 8) (h : BW b u n a r p t Q B) (hd : d < 32) (hb : bt (orF (sb b s) n) d = true) : bt (ups b p) d = true := by
  obtain ⟨j, hj, h1⟩ := (orF_bt _ d n).mp hb
  unfold sb at h1
  split at h1
  · rename_i q; exact bl_up h hj (ip_slot (h.P.1 j hj) (by omega) q) hd h1
  · rw [b_0] at h1; cases h1
theorem sc_sb {s d : Nat} (hs : s < 8) (h : BW b u n a r p t Q B) (hd : d < 32) (hb : bt (orF (sc b s) n) d = true) : bt (orF (sb b s) n) d = true := by
  obtain ⟨j, hj, h1⟩ := (orF_bt _ d n).mp hb
  refine (orF_bt _ d n).mpr ⟨j, hj, ?_⟩
  unfold sc at h1
  unfold sb
  split at h1
  · rename_i q; rw [if_pos q]; exact ce_bl h hj (ip_slot (h.P.1 j hj) (by omega) q) hd h1
  · rw [b_0] at h1; cases h1
theorem c_counts {s : Nat} (h : BW b u n a r p t Q B) (hs : s < r) : mX2_countColumns [.ref 0, .int (nI s)] b = some (none, cnB b (nI (pcn (b.1 53 5))) (nI (pcn (orF (sc b s) n &&& (b.1 53 5 ^^^ (-1))))) (nI (pcn ((b.1 32 s &&& (orF (sc b s) n ^^^ (-1))) &&& (b.1 53 5 ^^^ (-1))))) (nI (pcn ((ups b p &&& (b.1 32 s ^^^ (-1))) &&& (b.1 53 5 ^^^ (-1))))) (nI (pcn (b.1 0 13)))) := by
  have hr := h.A.2.2.2.2.1
  have hhas : mX7_has [.ref 29, .int (nI s)] b = some (some (.int 1), b) := by rw [eX7_has, if_neg (nneg (by omega)), h.A.2.2.1, if_neg (nI_ge (by omega) (by omega))]
  have p1 : (ups b p &&& (b.1 53 5 ^^^ -1)) &&& orF (sc b s) n = orF (sc b s) n &&& (b.1 53 5 ^^^ (-1)) := b_ext (fun d hd => by
    rw [b_and, b_and, b_and]
    cases q : bt (orF (sc b s) n) d with
    | false => simp
    | true => rw [sb_up (by omega) h hd (sc_sb (by omega) h hd q)]; simp)
  have p2 : ((ups b p &&& (b.1 53 5 ^^^ -1)) &&& b.1 32 s) &&& (orF (sc b s) n ^^^ -1) = (b.1 32 s &&& (orF (sc b s) n ^^^ (-1))) &&& (b.1 53 5 ^^^ (-1)) := b_ext (fun d hd => by
    rw [b_and, b_and, b_and, b_and, b_and]
    cases q : bt (b.1 32 s) d with
    | false => simp
    | true =>
      rw [h.S s hs] at q
      rw [sb_up (by omega) h hd q]
      cases bt (b.1 53 5 ^^^ -1) d <;> cases bt (orF (sc b s) n ^^^ -1) d <;> rfl)
  have p3 : (ups b p &&& (b.1 53 5 ^^^ -1)) &&& (b.1 32 s ^^^ -1) = (ups b p &&& (b.1 32 s ^^^ (-1))) &&& (b.1 53 5 ^^^ (-1)) := b_ext (fun d hd => by
    rw [b_and, b_and, b_and, b_and]
    cases bt (ups b p) d <;> cases bt (b.1 53 5 ^^^ -1) d <;> cases bt (b.1 32 s ^^^ -1) d <;> rfl)
  rw [eX2_countColumns, hhas, g_ci_some, if_neg (by decide), gin (show s < 8 by omega) (by omega), if_pos rfl, hhas, g_ci_some, if_neg (by decide), tn (show s < 2147483648 by omega), c_cellsIn h.A h.J h.P (by omega), g_ci_some, c_ups h.A, g_ci_some, bitCount_e, g_ci_some, bitCount_e, g_ci_some, bitCount_e, g_ci_some, bitCount_e, g_ci_some, bitCount_e, g_ci_some, p1, p2, p3]
  rfl
theorem c_counts0 (h : BW b u n a r p t Q B) (h0 : b.1 53 5 = 0) : mX2_countColumns [.ref 0, .int (-1)] b = some (none, cnB b (nI (pcn 0)) (nI (pcn (0 &&& (0 ^^^ (-1))))) (nI (pcn (((0 : Int32) &&& (0 ^^^ (-1))) &&& (0 ^^^ (-1))))) (nI (pcn ((ups b p &&& (0 ^^^ (-1))) &&& (0 ^^^ (-1))))) (nI (pcn (b.1 0 13)))) := by
  have hhas : mX7_has [.ref 29, .int (-1)] b = some (some (.int 0), b) := by rw [eX7_has, if_pos (by decide)]
  have p1 : (ups b p &&& ((0 : Int32) ^^^ -1)) &&& 0 = 0 &&& (0 ^^^ (-1)) := b_ext (fun d hd => by rw [b_and, b_and, b_0]; simp [b_0])
  have p2 : ((ups b p &&& ((0 : Int32) ^^^ -1)) &&& 0) &&& (0 ^^^ -1) = ((0 : Int32) &&& (0 ^^^ (-1))) &&& (0 ^^^ (-1)) := by rw [p1]
  rw [eX2_countColumns, hhas, g_ci_some, if_pos rfl, hhas, g_ci_some, if_pos rfl, c_ups h.A, g_ci_some, bitCount_e, g_ci_some, bitCount_e, g_ci_some, bitCount_e, g_ci_some, bitCount_e, g_ci_some, bitCount_e, g_ci_some, h0, p2, p1]
  rfl
def wnB (b : gMem) (x : Nat) (v1 v2 v3 v4 : Int32) : gMem := gwI (gwI (gwI (gwI (gwI (gwI b 48 (x % 60) v1) 49 (x % 60) v2) 50 (x % 60) v3) 51 (x % 60) v4) 52 (x % 60) (-1)) 46 1 (nI (x + 1))
def wnU (u : gMem) (x : Nat) (v1 v2 v3 v4 : Int32) : gMem := wH (wV (wV (wV (wV u (x % 60) 0 v1) (x % 60) 1 v2) (x % 60) 2 v3) (x % 60) 3 v4) 16 (nI (x + 1))
theorem c_went {x : Nat} {v1 v2 v3 v4 : Int32} (hx : b.1 46 1 = nI x) (h : x < 2147483648) : mX6_add [.ref 46, .int v1, .int v2, .int v3, .int v4, .int (-1)] b = some (none, wnB b x v1 v2 v3 v4) := by
  have hk : x % 60 < 60 := Nat.mod_lt _ (by omega)
  rw [eX6_add_46, hx, c_mod60 h, g_ci_some, gin hk (by omega), if_pos rfl, if_pos rfl, if_pos rfl, if_pos rfl, if_pos rfl, tn (show x % 60 < 2147483648 by omega)]
  have e : (gwI (gwI (gwI (gwI (gwI b 48 (x % 60) v1) 49 (x % 60) v2) 50 (x % 60) v3) 51 (x % 60) v4) 52 (x % 60) (-1)).1 46 1 = nI x := hx
  rw [e, nI_1]
  rfl
theorem went_rel {x : Nat} {v1 v2 v3 v4 : Int32} (h : BW b u n a r p t Q B) (hx : b.1 46 1 = nI x) (hxB : x ≤ B) (h9 : B + 1 ≤ 1000000000) : BW (wnB b x v1 v2 v3 v4) (wnU u x v1 v2 v3 v4) n a r p t Q (B + 1) := by
  have hk : x % 60 < 60 := Nat.mod_lt _ (by omega)
  obtain ⟨⟨e1, e2, e3, e4, e5, e6⟩, h1, h2, h3, h4, h5, h7, h8, hD, hQ, hB⟩ := h.mono (Nat.le_succ B) h9
  have hn := h1.n60
  have ha : a ≤ 60 := by have := h1.2.2.2.1; omega
  have hc : ∀ c i, c < 46 → (wnB b x v1 v2 v3 v4).1 c i = b.1 c i := fun c i hc => by
    unfold wnB
    rw [gI_r, if_neg (by omega), gI_r, if_neg (by omega), gI_r, if_neg (by omega), gI_r, if_neg (by omega), gI_r, if_neg (by omega), gI_r, if_neg (by omega)]
  have hag : ∀ S : List Nat, (∀ c ∈ S, c < 46) → ag S b (wnB b x v1 v2 v3 v4) := fun S hS c h1 i => hc c i (hS c h1)
  have hU : ∀ i, i < 1790 → i ≠ 16 → (wnU u x v1 v2 v3 v4).1 1 i = u.1 1 i := fun i hi h2 => by
    unfold wnU wV wH
    rw [gI_r, if_neg (by omega), gI_r, if_neg (by omega), gI_r, if_neg (by omega), gI_r, if_neg (by omega), gI_r, if_neg (by omega)]
  have hug : ∀ lo hi, 16 < lo → hi ≤ 1790 → ug lo hi u (wnU u x v1 v2 v3 v4) := fun lo hi h1 h2 i h3 h4 => hU i (by omega) (by omega)
  refine ⟨⟨?_, ?_, ?_, ?_, ?_, ?_⟩, ?_, ?_, ?_, ?_, ?_, ?_, ?_, ?_, ?_, ?_⟩
  · refine e1.fr (hag _ (by decide)) (fun i hi => hU i (by omega) (by omega)) ?_
    obtain ⟨g1, g2, g3, g4, g5, g6, g7⟩ := e1.2.1
    refine ⟨?_, ?_, ?_, ?_, ?_, ?_, rfl⟩ <;> rw [hU _ (by omega) (by omega), hc _ _ (by omega)] <;> assumption
  · exact e2.fr hn (hag _ (by decide)) (hug _ _ (by omega) (by omega))
  · exact e3.fr ha (hag _ (by decide)) (hug _ _ (by omega) (by omega))
  · exact e4.fr h1.2.2.2.2.1 (hag _ (by decide)) (hug _ _ (by omega) (by omega)) (fun _ _ => rfl) (fun _ _ => rfl)
  · exact e5.fr (hag _ (by decide)) (hug _ _ (by omega) (by omega))
  · intro k hk2
    have he := e6 k hk2
    unfold wnB wnU
    simp (disch := omega) only [mV_wH, mV_wV]
    simp only [gI_r]
    by_cases q : k = x % 60
    · simp [q]
    · simp [q]
      exact he
  · exact h1.fr (hc _ _ (by omega)) (hc _ _ (by omega)) (hc _ _ (by omega)) (hc _ _ (by omega))
  · exact h2.fr (hag _ (by decide))
  · exact h3.fr (hag _ (by decide))
  · exact h4.fr (hag _ (by decide)) (hc _ _ (by omega))
  · exact h5.fr (hag _ (by decide))
  · exact h7.fr (hag _ (by decide))
  · exact h8.fr (hag _ (by decide))
  · exact hD.fr (hc _ _ (by omega))
  · exact hQ.fr hn (hag _ (by decide)) (hc _ _ (by omega)) (hU _ (by omega) (by omega)) (fun j hj => hU _ (by omega) (by omega))
  · obtain ⟨b1, b2, ⟨y, b3, b4⟩, b5, b7⟩ := hB
    exact ⟨by rw [hc _ _ (by omega)]; exact b1, b2, ⟨y, by rw [hc _ _ (by omega)]; exact b3, b4⟩, ⟨x + 1, rfl, by omega⟩, b7⟩
theorem time_rel {tm : Nat} (h : BW b u n a r p t Q B) (hm : tm ≤ t) : BW (gwI b 0 12 (nI tm)) (wH u 10 (nI tm)) n a r p t Q B := by
  have hn := h.A.n60
  have ha : a ≤ 60 := by have := h.A.2.2.2.1; omega
  have hr := h.A.2.2.2.2.1
  have hc : ∀ c i, ¬ (c = 0 ∧ i = 12) → (gwI b 0 12 (nI tm)).1 c i = b.1 c i := fun c i hc => by rw [gI_r, if_neg hc]
  have hag : ∀ S : List Nat, 0 ∉ S → ag S b (gwI b 0 12 (nI tm)) := fun S hS => ag.rf.w hS
  have hU : ∀ i, i ≠ 10 → (wH u 10 (nI tm)).1 1 i = u.1 1 i := fun i hi => by rw [wH_h, if_neg hi]
  have hug : ∀ lo hi, 10 < lo → ug lo hi u (wH u 10 (nI tm)) := fun lo hi h1 i h3 h4 => hU i (by omega)
  refine ⟨⟨?_, ?_, ?_, ?_, ?_, ?_⟩, ?_, ?_, ?_, ?_, ?_, ?_, ?_, ?_, ?_, ?_⟩
  · refine h.e.1.fr (hag _ (by decide)) (fun i hi => hU i (by omega)) ?_
    obtain ⟨g1, g2, g3, g4, g5, g6, g7⟩ := h.e.1.2.1
    refine ⟨rfl, ?_, ?_, ?_, ?_, ?_, ?_⟩ <;> rw [hU _ (by omega), hc _ _ (by omega)] <;> assumption
  · exact h.e.2.1.fr hn (hag _ (by decide)) (hug _ _ (by omega))
  · exact h.e.2.2.1.fr ha (hag _ (by decide)) (hug _ _ (by omega))
  · exact h.e.2.2.2.1.fr hr (hag _ (by decide)) (hug _ _ (by omega)) (fun _ _ => rfl) (fun _ _ => rfl)
  · exact h.e.2.2.2.2.1.fr (hag _ (by decide)) (hug _ _ (by omega))
  · exact h.e.2.2.2.2.2.fr (hag _ (by decide)) (hug _ _ (by omega))
  · exact h.A.fr (hc _ _ (by omega)) (hc _ _ (by omega)) (hc _ _ (by omega)) (hc _ _ (by omega))
  · exact h.T.fr (hag _ (by decide))
  · exact h.J.fr (hag _ (by decide))
  · exact h.P.fr (hag _ (by decide)) (hc _ _ (by omega))
  · exact h.S.fr (hag _ (by decide))
  · exact h.U.fr (hag _ (by decide))
  · exact h.R.fr (hag _ (by decide))
  · exact h.D.fr (hc _ _ (by omega))
  · exact h.Q.fr hn (hag _ (by decide)) (hc _ _ (by omega)) (hU _ (by omega)) (fun j hj => hU _ (by omega))
  · obtain ⟨b1, b2, b3, b4, b5⟩ := h.B
    exact ⟨⟨tm, rfl, hm⟩, b2, by rw [hc _ _ (by omega)]; exact b3, by rw [hc _ _ (by omega)]; exact b4, b5⟩
end COUNT
