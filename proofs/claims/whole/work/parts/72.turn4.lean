section TURN4
variable {b u b' u' : gMem} {n a r p t B : Nat} {Q : List Nat}
theorem m_went {x : Nat} {v1 v2 v3 : Int32} (hx : u.1 1 16 = nI x) (h : x < 2147483648) : (if g_in (1790 + (4 * ((u.1 1 16) - (u.1 1 16) / 60 * 60))) 2030 = true then (if g_in ((1790 + (4 * ((u.1 1 16) - (u.1 1 16) / 60 * 60))) + 1) 2030 = true then (if g_in ((1790 + (4 * ((u.1 1 16) - (u.1 1 16) / 60 * 60))) + 2) 2030 = true then (g_ci (mX10_ones [.ref 0, .int v3] (gwI (gwI (gwI u 1 (Int32.toNatClampNeg (1790 + (4 * ((u.1 1 16) - (u.1 1 16) / 60 * 60)))) v1) 1 (Int32.toNatClampNeg ((1790 + (4 * ((u.1 1 16) - (u.1 1 16) / 60 * 60))) + 1)) v2) 1 (Int32.toNatClampNeg ((1790 + (4 * ((u.1 1 16) - (u.1 1 16) / 60 * 60))) + 2)) ((gwI (gwI u 1 (Int32.toNatClampNeg (1790 + (4 * ((u.1 1 16) - (u.1 1 16) / 60 * 60)))) v1) 1 (Int32.toNatClampNeg ((1790 + (4 * ((u.1 1 16) - (u.1 1 16) / 60 * 60))) + 1)) v2).1 0 25))) (fun a15 u15 => (if g_in ((1790 + (4 * ((u.1 1 16) - (u.1 1 16) / 60 * 60))) + 3) 2030 = true then (g_cv (mX10_more [.ref 0, .int 16, .int 1] (gwI u15 1 (Int32.toNatClampNeg ((1790 + (4 * ((u.1 1 16) - (u.1 1 16) / 60 * 60))) + 3)) a15)) (fun u16 => some (none, u16))) else none))) else none) else none) else none) = some (none, wnU u x v1 v2 (u.1 0 25) (nI (pcn v3))) := by
  have hk : x % 60 < 60 := Nat.mod_lt _ (by omega)
  have e : (1790 + (4 * ((u.1 1 16) - (u.1 1 16) / 60 * 60)) : Int32) = nI (1790 + 4 * (x % 60)) := by
    rw [hx, rm60 h, show (1790 : Int32) = nI 1790 from rfl, show (4 : Int32) = nI 4 from rfl, nml, nad]
  rw [e, show nI (1790 + 4 * (x % 60)) + 1 = nI (1790 + 4 * (x % 60) + 1) from nad _ 1, show nI (1790 + 4 * (x % 60)) + 2 = nI (1790 + 4 * (x % 60) + 2) from nad _ 2, show nI (1790 + 4 * (x % 60)) + 3 = nI (1790 + 4 * (x % 60) + 3) from nad _ 3, gin (show 1790 + 4 * (x % 60) < 2030 by omega) (by omega), gin (show 1790 + 4 * (x % 60) + 1 < 2030 by omega) (by omega), gin (show 1790 + 4 * (x % 60) + 2 < 2030 by omega) (by omega), gin (show 1790 + 4 * (x % 60) + 3 < 2030 by omega) (by omega), if_pos rfl, if_pos rfl, if_pos rfl, tn (show 1790 + 4 * (x % 60) < 2147483648 by omega), tn (show 1790 + 4 * (x % 60) + 1 < 2147483648 by omega), tn (show 1790 + 4 * (x % 60) + 2 < 2147483648 by omega), tn (show 1790 + 4 * (x % 60) + 3 < 2147483648 by omega), ones_e, g_ci_some, if_pos rfl, more_16, g_cv_some]
  have e2 : (gwI (gwI u 1 (1790 + 4 * (x % 60)) v1) 1 (1790 + 4 * (x % 60) + 1) v2).1 0 25 = u.1 0 25 := rfl
  rw [e2]
  have e3 : (gwI (gwI (gwI (gwI u 1 (1790 + 4 * (x % 60)) v1) 1 (1790 + 4 * (x % 60) + 1) v2) 1 (1790 + 4 * (x % 60) + 2) (u.1 0 25)) 1 (1790 + 4 * (x % 60) + 3) (nI (pcn v3))).1 1 16 = nI x := by
    rw [gI_r, if_neg (by omega), gI_r, if_neg (by omega), gI_r, if_neg (by omega), gI_r, if_neg (by omega)]; exact hx
  rw [e3, nI_1]
  rfl
theorem wnU_c {x c i : Nat} {v1 v2 v3 v4 : Int32} (h : c ≠ 1) : (wnU u x v1 v2 v3 v4).1 c i = u.1 c i := by
  unfold wnU; rw [wH_c h, wV_c h, wV_c h, wV_c h, wV_c h]
theorem wnB_o {x c i : Nat} {v1 v2 v3 v4 : Int32} (h : c < 46) : (wnB b x v1 v2 v3 v4).1 c i = b.1 c i := by
  unfold wnB
  rw [gI_r, if_neg (by omega), gI_r, if_neg (by omega), gI_r, if_neg (by omega), gI_r, if_neg (by omega), gI_r, if_neg (by omega), gI_r, if_neg (by omega)]
theorem turn_both (h : BR b u n a r p t Q B) (ht : t + 1 ≤ 60000) (h9 : B + 1 ≤ 1000000000) : ∃ b' u', (∀ K : gMem → Option gR, (g_cv (mX3_clear [.ref 53] b) (fun u3 => (g_ci (mX7_next [.ref 29] u3) (fun a4 u4 => (if a4 = (-1) then (g_cv (mX2_countColumns [.ref 0, .int a4] u4) (fun u5 => (g_ci (mJ6_bitCount_0f7a4 [.int (u5.1 53 5)] u5) (fun a6 u6 => (g_cv (mX6_add [.ref 46, .int a4, .int (u5.1 53 3), .int (u5.1 53 4), .int a6, .int (-1)] u6) (fun u7 => K (gwI u7 0 12 ((u7.1 0 12) + 1)))))))) else (g_cv (mX2_takeTurn [.ref 0, .int a4] u4) (fun u13 => (g_cv (mX2_countColumns [.ref 0, .int a4] u13) (fun u14 => (g_ci (mJ6_bitCount_0f7a4 [.int (u14.1 53 5)] u14) (fun a15 u15 => (g_cv (mX6_add [.ref 46, .int a4, .int (u14.1 53 3), .int (u14.1 53 4), .int a15, .int (-1)] u15) (fun u16 => K (gwI u16 0 12 ((u16.1 0 12) + 1))))))))))))))) = K b') ∧ (∀ K : gMem → Option gR, g_cv (mX10_turns [.ref 0] u) (fun u3 => g_cv (mX10_more [.ref 0, .int 10, .int 1] u3) (fun u4 => K u4)) = K u') ∧ BW b' u' n a r p (t + 1) Q (B + 1) ∧ im u u' ∧ (∀ i, b'.1 9 i = b.1 9 i) ∧ (∀ x, n ≤ x → b'.1 10 x = b.1 10 x) := by
  obtain ⟨hw, h0, hIL⟩ := BR_iff.mp h
  have hbs : bs b (gwI (gwI (gwI b 53 3 0) 53 4 0) 53 5 0) := ((bs.rf.wx (by omega)).wx (by omega)).wx (by omega)
  have hc := hw.bs hbs
  obtain ⟨tm, tm1, tm2⟩ := hw.B.1
  obtain ⟨x, hx, hxB⟩ := hw.B.2.2.2.1
  have hB9 := hw.B.2.2.2.2
  have hr := hw.A.2.2.2.2.1
  obtain ⟨so, s1, s2, s3, s4⟩ := next_both hc
  have fin : ∀ (μ ν : gMem) (v1 v2 v3 v4 : Int32), BW μ ν n a r p (t + 1) Q B → μ.1 0 12 = nI tm → μ.1 46 1 = nI x → BW (gwI (wnB μ x v1 v2 v3 v4) 0 12 ((wnB μ x v1 v2 v3 v4).1 0 12 + 1)) (wH (wnU ν x v1 v2 v3 v4) 10 ((wnU ν x v1 v2 v3 v4).1 1 10 + 1)) n a r p (t + 1) Q (B + 1) := by
    intro μ ν v1 v2 v3 v4 hμ h12 h46
    have hR := went_rel (v1 := v1) (v2 := v2) (v3 := v3) (v4 := v4) hμ h46 hxB h9
    rw [hR.e.h.t, show (wnB μ x v1 v2 v3 v4).1 0 12 = nI tm from (wnB_o (by omega)).trans h12, nI_1]
    exact time_rel hR (by omega)
  cases so with
  | none =>
    have ht0 := hc.tm (Nat.le_succ t) ht
    have hq : qs u (gwI u 0 25 0) := (lz.rf.w (by omega)).qs
    have hcq := ht0.qs hq
    have hC := cn_rel (x0 := nI (pcn 0)) (x1 := nI (pcn ((0 : Int32) &&& (0 ^^^ (-1))))) (x2 := nI (pcn (((0 : Int32) &&& (0 ^^^ (-1))) &&& (0 ^^^ (-1))))) (x3 := nI (pcn ((ups (gwI (gwI (gwI b 53 3 0) 53 4 0) 53 5 0) p &&& ((0 : Int32) ^^^ (-1))) &&& ((0 : Int32) ^^^ (-1))))) (x4 := nI (pcn ((gwI (gwI (gwI b 53 3 0) 53 4 0) 53 5 0).1 0 13))) hcq
    have c46 : (cnB (gwI (gwI (gwI b 53 3 0) 53 4 0) 53 5 0) (nI (pcn 0)) (nI (pcn ((0 : Int32) &&& (0 ^^^ (-1))))) (nI (pcn (((0 : Int32) &&& (0 ^^^ (-1))) &&& (0 ^^^ (-1))))) (nI (pcn ((ups (gwI (gwI (gwI b 53 3 0) 53 4 0) 53 5 0) p &&& ((0 : Int32) ^^^ (-1))) &&& ((0 : Int32) ^^^ (-1))))) (nI (pcn ((gwI (gwI (gwI b 53 3 0) 53 4 0) 53 5 0).1 0 13)))).1 46 1 = nI x := (cnB_o (by omega)).trans hx
    refine ⟨_, _, fun K => ?_, fun K => ?_, fin _ _ (-1) 0 0 (nI (pcn 0)) hC ((cnB_o (by omega)).trans tm1) c46, ?_, fun i => ?_, fun x hx => ?_⟩
    · rw [eX3_clear, g_cv_some, s3, g_ci_some]
      show (if (-1 : Int32) = -1 then _ else _) = _
      rw [if_pos rfl]
      rw [show mX2_countColumns [.ref 0, .int (Option.elim none (-1) nI)] (gwI (gwI (gwI b 53 3 0) 53 4 0) 53 5 0) = _ from c_counts0 hc rfl, g_cv_some, bitCount_e, g_ci_some, cnB_o (by omega), cnB_o (by omega), cnB_o (by omega)]
      rw [show mX6_add [.ref 46, .int (Option.elim none (-1) nI), .int ((gwI (gwI (gwI b 53 3 0) 53 4 0) 53 5 0).1 53 3), .int ((gwI (gwI (gwI b 53 3 0) 53 4 0) 53 5 0).1 53 4), .int (nI (pcn ((gwI (gwI (gwI b 53 3 0) 53 4 0) 53 5 0).1 53 5))), .int (-1)] _ = _ from c_went (v1 := -1) (v2 := 0) (v3 := 0) (v4 := nI (pcn 0)) c46 (by omega), g_cv_some]
    · rw [eX10_turns, s4, g_ci_some]
      rw [if_pos (show Option.elim none (-1) nI = (-1 : Int32) from rfl), if_pos (show Option.elim none (-1) nI = (-1 : Int32) from rfl), if_pos (show Option.elim none (-1) nI = (-1 : Int32) from rfl), m_counts hcq, g_cv_some, m_went (v1 := Option.elim none (-1) nI) (hC.e.1.2.1.2.2.2.2.2.2.trans c46) (by omega), g_cv_some, more_10, g_cv_some]
      rfl
    · refine ⟨fun c i hc => ?_, ?_, fun c i hc => ?_⟩
      · rw [wH_c (by omega), wnU_c (by omega), cnU_c (by omega), gI_r, if_neg (by omega)]
      · rw [wH_c (by omega), wnU_c (by omega), cnU_c (by omega), gI_r, if_neg (by omega)]
      · rfl
    · rw [gI_r, if_neg (by omega), wnB_o (by omega), cnB_o (by omega)]; exact hbs.c 9 i rfl
    · rw [gI_r, if_neg (by omega), wnB_o (by omega), cnB_o (by omega)]; exact hbs.c 10 x rfl
  | some s =>
    have hs : s < r := s1 s rfl
    obtain ⟨μ, ν, w, l, g1, g2, g3, g4, g5, g6, g7, g8, g10⟩ := turn_some hc (hbs.xIL hIL) hs (by rw [hbs.c 32 s rfl]; exact h0 s hs) ht s4
    have hn := hw.A.n60
    have hC := cn_rel (x0 := nI (pcn (μ.1 53 5))) (x1 := nI (pcn (orF (sc μ s) n &&& (μ.1 53 5 ^^^ (-1))))) (x2 := nI (pcn ((μ.1 32 s &&& (orF (sc μ s) n ^^^ (-1))) &&& (μ.1 53 5 ^^^ (-1))))) (x3 := nI (pcn ((ups μ p &&& (μ.1 32 s ^^^ (-1))) &&& (μ.1 53 5 ^^^ (-1))))) (x4 := nI (pcn (μ.1 0 13))) g3
    have m46 : μ.1 46 1 = nI x := (g7 46 1 (by omega) (by decide)).trans ((hbs.c 46 1 rfl).trans hx)
    have m12 : μ.1 0 12 = nI tm := (g7 0 12 (by omega) (by decide)).trans ((hbs.c 0 12 rfl).trans tm1)
    have c46 : (cnB μ (nI (pcn (μ.1 53 5))) (nI (pcn (orF (sc μ s) n &&& (μ.1 53 5 ^^^ (-1))))) (nI (pcn ((μ.1 32 s &&& (orF (sc μ s) n ^^^ (-1))) &&& (μ.1 53 5 ^^^ (-1))))) (nI (pcn ((ups μ p &&& (μ.1 32 s ^^^ (-1))) &&& (μ.1 53 5 ^^^ (-1))))) (nI (pcn (μ.1 0 13)))).1 46 1 = nI x := (cnB_o (by omega)).trans m46
    refine ⟨_, _, fun K => ?_, fun K => ?_, fin _ _ (nI s) (nI w) (nI l) (nI (pcn (μ.1 53 5))) hC ((cnB_o (by omega)).trans m12) c46, ?_, fun i => ?_, fun x hx => ?_⟩
    · rw [eX3_clear, g_cv_some, s3, g_ci_some]
      show (if nI s = -1 then _ else _) = _
      rw [if_neg (nm1 (by omega))]
      rw [show mX2_takeTurn [.ref 0, .int (Option.elim (some s) (-1) nI)] (gwI (gwI (gwI b 53 3 0) 53 4 0) 53 5 0) = _ from g1, g_cv_some, show mX2_countColumns [.ref 0, .int (Option.elim (some s) (-1) nI)] μ = _ from c_counts g3 hs, g_cv_some, bitCount_e, g_ci_some, cnB_o (by omega), cnB_o (by omega), cnB_o (by omega), g4, g5]
      rw [show mX6_add [.ref 46, .int (Option.elim (some s) (-1) nI), .int (nI w), .int (nI l), .int (nI (pcn (μ.1 53 5))), .int (-1)] _ = _ from c_went (v1 := nI s) c46 (by omega), g_cv_some]
    · rw [g2, eX10_turns_192, g3.e.h.n, g3.A.1, if_pos (nI_le (Nat.le_refl _) (by omega)), if_neg (nm1 (by omega)), m_cellsIn g3.e g3.A g3.J g3.P (by omega), g_ci_some, if_neg (nm1 (by omega)), m_blocksIn0 g3.e g3.A g3.J g3.P (by omega), g_ci_some, ← g3.S s hs, m_counts g3, g_cv_some, m_went (hC.e.1.2.1.2.2.2.2.2.2.trans c46) (by omega), g_cv_some, more_10, g_cv_some, cnU_c (by omega), g6]
    · refine g8.tr ⟨fun c i hc => ?_, ?_, fun c i hc => rfl⟩
      · rw [wH_c (by omega), wnU_c (by omega), cnU_c (by omega)]
      · rw [wH_c (by omega), wnU_c (by omega), cnU_c (by omega)]
    · rw [gI_r, if_neg (by omega), wnB_o (by omega), cnB_o (by omega), g7 9 i (by omega) (by decide)]; exact hbs.c 9 i rfl
    · rw [gI_r, if_neg (by omega), wnB_o (by omega), cnB_o (by omega), g10 x hx]; exact hbs.c 10 x rfl
end TURN4
