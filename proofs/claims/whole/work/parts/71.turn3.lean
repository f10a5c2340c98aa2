/-! a turn on both sides -/
section TURN3
variable {b u b' u' : gMem} {n a r p t B : Nat} {Q : List Nat}
theorem bs.xIL {μ : gMem} (h : bs b μ) (hI : IL b) : IL μ := fun j hj => by rw [h.c 9 j rfl, h.c 10 j rfl]; exact hI j hj
theorem turn_some {s : Nat} (h : BW b u n a r p t Q B) (hIL : IL b) (hs : s < r) (h0 : b.1 32 s ≠ 0) (ht : t + 1 ≤ 60000) (hto : mX10_turnOf [.ref 0] u = some (some (.int (nI s)), u)) : ∃ (μ ν : gMem) (w l : Nat), mX2_takeTurn [.ref 0, .int (nI s)] b = some (none, μ) ∧ mX10_turns [.ref 0] u = rX10_turns_192 (nI s) (nI w) (μ.1 53 5) (nI n) ν ∧ BW μ ν n a r p (t + 1) Q B ∧ μ.1 53 3 = nI w ∧ μ.1 53 4 = nI l ∧ ν.1 0 25 = nI l ∧ (∀ c i, c < 53 → c ∉ [2, 10, 11, 15, 16, 17, 27, 28, 31] → μ.1 c i = b.1 c i) ∧ im u ν ∧ (∀ x, n ≤ x → μ.1 10 x = b.1 10 x) := by
  have hn := h.A.n60
  have hr := h.A.2.2.2.2.1
  obtain ⟨w1, w2⟩ := wt_pos h hs h0
  have hq : qs u (gwI u 0 25 0) := (lz.rf.w (by omega)).qs
  have h1 := h.qs hq
  have hT := h1.e.2.2.2.1 s hs
  have hrel0 := tp_rel (s := s) (v := b.2 30 s + Int32.toInt64 (1000000 / nI (sF (wt b s) n))) (x := b.1 31 s + 1) h1 hs
  have hrel := hrel0.tm (Nat.le_succ t) ht
  have hIL1 : IL (gwI (gwL b 30 s (b.2 30 s + Int32.toInt64 (1000000 / nI (sF (wt b s) n)))) 31 s (b.1 31 s + 1)) := fun j hj => hIL j hj
  have hw8 := h.T.2.2.2.2.2.2.2.1
  have hne : ¬ nI (sF (wt b s) n) = 0 := nI_ne0 (by omega) (by omega)
  obtain ⟨M, u2, g1, g2, g3, g4, g5⟩ := m_laysLenders (s := s) hrel
  have e8 : u2.1 1 8 + 1 = b.1 1 8 := by
    have : u2.1 1 8 = (wT (gwL (gwI u 0 25 0) 3 s (b.2 30 s + Int32.toInt64 (1000000 / nI (sF (wt b s) n)))) s (b.1 31 s + 1)).1 1 8 := g3.2 1 8 (by omega) (by omega) (by omega)
    rw [this]
    exact hrel.e.1.1.2.2.2.2.2.2.2.2.1
  have fin : ∀ (le : Int32) (L : List Nat) (C : Int32) (b2 u3 : gMem), bs (gwI (gwL b 30 s (b.2 30 s + Int32.toInt64 (1000000 / nI (sF (wt b s) n)))) 31 s (b.1 31 s + 1)) b2 → lz (wT (gwL (gwI u 0 25 0) 3 s (b.2 30 s + Int32.toInt64 (1000000 / nI (sF (wt b s) n)))) s (b.1 31 s + 1)) u3 → L.Sublist M → arr b2 54 (owL (gwI (gwL b 30 s (b.2 30 s + Int32.toInt64 (1000000 / nI (sF (wt b s) n)))) 31 s (b.1 31 s + 1)) s n ++ L) → b2.1 53 3 = nI (owL (gwI (gwL b 30 s (b.2 30 s + Int32.toInt64 (1000000 / nI (sF (wt b s) n)))) 31 s (b.1 31 s + 1)) s n).length → b2.1 53 4 = nI L.length → b2.1 53 5 = C → C = oCf (gwI (gwL b 30 s (b.2 30 s + Int32.toInt64 (1000000 / nI (sF (wt b s) n)))) 31 s (b.1 31 s + 1)) (oC (gwI (gwL b 30 s (b.2 30 s + Int32.toInt64 (1000000 / nI (sF (wt b s) n)))) 31 s (b.1 31 s + 1)) (owL (gwI (gwL b 30 s (b.2 30 s + Int32.toInt64 (1000000 / nI (sF (wt b s) n)))) 31 s (b.1 31 s + 1)) s n)) L → arr u3 13 L → u3.1 0 25 = nI L.length → ∃ (μ ν : gMem) (w l : Nat), rX2_takeTurn_73 0 b2 = some (none, μ) ∧ rX10_turns_74 (nI s) 0 0 0 u3 = rX10_turns_192 (nI s) (nI w) (μ.1 53 5) (nI n) ν ∧ BW μ ν n a r p (t + 1) Q B ∧ μ.1 53 3 = nI w ∧ μ.1 53 4 = nI l ∧ ν.1 0 25 = nI l ∧ (∀ c i, c < 53 → c ∉ [2, 10, 11, 15, 16, 17, 27, 28, 31] → μ.1 c i = b.1 c i) ∧ im u ν ∧ (∀ x, n ≤ x → μ.1 10 x = b.1 10 x) := by
    intro le L C b2 u3 hb hz hsub ha54 h53 h54 h55 hC ha13 h25
    have hB := (hrel.bs hb).qs hz.qs
    rw [← owL_bs hb] at ha54 h53 hC
    have hgrn : ∀ x ∈ L, x ∈ rdL (gwI (gwL b 30 s (b.2 30 s + Int32.toInt64 (1000000 / nI (sF (wt b s) n)))) 31 s (b.1 31 s + 1)) s n := fun x hx => (g1.2 x).mp (hsub.subset hx)
    have hMn : M.Nodup := g1.1.imp (fun {x y} hxy z => by subst z; omega)
    have hLl : (owL b2 s n).length + L.length ≤ 60 := by
      have k1 := owL_rdL (b := gwI (gwL b 30 s (b.2 30 s + Int32.toInt64 (1000000 / nI (sF (wt b s) n)))) 31 s (b.1 31 s + 1)) (s := s) n
      have k2 := hsub.length_le
      have k3 := nodup_le hMn (fun x hx => (g1.2 x).mp hx)
      rw [owL_bs hb]
      omega
    have hus : us6 b2 ≤ 1920 * t := by
      have : us6 b2 = us6 b := by unfold us6; simp only [hb.j 27 _ rfl]; rfl
      rw [this]; exact h.U.2.2
    obtain ⟨μ1, ν1, o1, o2, o3, o4, o5, o6, o7, o8⟩ := own_loop (u0 := u3) (hb.xIL hIL1) (show s < 8 by omega) ha54 h53 h54 hLl n 0 (by omega) b2 u3 hB rfr.rf (fun _ _ => rfl) (by simp [owL]; omega) (fun _ _ _ => rfl) rfl
    have hLn : ∀ x ∈ L, x < n ∧ b2.1 9 x = 2 := fun x hx => by
      obtain ⟨q1, q2, -, -⟩ := rdL_m.mp (hgrn x hx)
      exact ⟨q1, (hb.c 9 x rfl).trans q2⟩
    have hLo : ∀ x ∈ L, μ1.1 10 x = b2.1 10 x := fun x hx => o5 x (fun z => by
      obtain ⟨-, -, -, q4⟩ := rdL_m.mp (hgrn x hx)
      have := z.2
      rw [ox_bs hb] at this
      unfold ox at this
      simp at this
      exact q4 this.2.2)
    obtain ⟨μ2, ν2, l1, l2, l3, l4, l5, l6, l7⟩ := lent_loop (b0 := b2) (u0 := u3) (s := s) (L := L) (W := owL b2 s n) (f := nI (owL b2 s n).length) (c0 := oC b2 (owL b2 s n)) (hb.xIL hIL1) ha54 h53 h54 hLl (hMn.sublist hsub) hLn ha13 h25 L.length 0 (by omega) μ1 ν1 (by
      rw [show b2.1 2 10 + nI 0 = μ1.1 2 10 from by rw [o4.2 2 10 (by decide)]; exact Int32.add_zero _, gwI_id rfl]; exact o3) o4 (fun x hx => hLo x (by simpa using hx)) (by omega) o7 o8
    obtain ⟨μ3, ν3, r1, r2, r3, r4, r5, r6⟩ := rest_loop (s := nI s) (f := nI (owL b2 s n).length) (us := oCf b2 (oC b2 (owL b2 s n)) L) n 0 (by omega) μ2 ν2 l3
    have hfr : ∀ c i, c ∉ [2, 10, 11, 15, 16, 17, 27] → μ3.1 c i = b2.1 c i := fun c i hc => by
      rw [r4.2 c i (fun z => hc (by rw [z]; decide))]
      exact l4 c i (fun z => hc (by simp at z ⊢; omega))
    have h55' : μ3.1 53 5 = oCf b2 (oC b2 (owL b2 s n)) L := by
      rw [hfr 53 5 (by decide), h55, hC, oCf_bs hb]
      congr 1
      unfold oC
      exact (oCf_bs hb 0 _).symm
    refine ⟨μ3, ν3, (owL b2 s n).length, L.length, ?_, ?_, r3, (hfr 53 3 (by decide)).trans h53, (hfr 53 4 (by decide)).trans h54, ?_, fun c i h1 h2 => ?_, ?_, fun x hx => ?_⟩
    · rw [show rX2_takeTurn_73 0 b2 = _ from o1, show rX2_takeTurn_73 (nI (owL b2 s n).length) μ1 = _ from l1, eX2_restStopped, show rX2_restStopped_2 0 μ2 = _ from r1, g_cv_some]
    · rw [h55', show rX10_turns_74 (nI s) 0 0 0 u3 = _ from o2, show rX10_turns_140 (nI s) (nI (owL b2 s n).length) (oC b2 (owL b2 s n)) 0 ν1 = _ from l2]
      exact r2
    · rw [r5 0 25 (by omega), l5 0 25 (by omega)]; exact h25
    · rw [hfr c i (fun z => h2 (by simp at z ⊢; omega))]
      simp only [List.mem_cons, not_or, List.not_mem_nil] at h2
      rw [hb.2 c i ⟨h1, by omega⟩, gI_r, if_neg (by omega), gL_i]
    · have k1 : im u (wT (gwL (gwI u 0 25 0) 3 s (b.2 30 s + Int32.toInt64 (1000000 / nI (sF (wt b s) n)))) s (b.1 31 s + 1)) := ⟨fun c i hc => by rw [wT_c (by omega), gL_i, gI_r, if_neg (by omega)], by rw [wT_c (by omega), gL_i, gI_r, if_neg (by omega)], fun c i hc => by rw [wT_l, gL_r, if_neg (fun z => hc z.1), gI_l]⟩
      have k2 : im u3 ν3 := ⟨fun c i hc => (r5 c i (by omega)).trans (l5 c i (by omega)), (r5 0 27 (by omega)).trans (l5 0 27 (by omega)), fun c i _ => by rw [r6, l6]⟩
      exact (k1.tr hz.im).tr k2
    · rw [r4.2 10 x (by omega), l7 x hx, o5 x (fun z => by omega), hb.c 10 x rfl, gI_r, if_neg (by omega), gL_i]
  have cls : ∀ le : Int32, ((le = 1 ∧ b.1 1 8 = 1) ∨ (le = 0 ∧ ¬ b.1 1 8 = 1)) → mX2_takeTurn [.ref 0, .int (nI s)] b = g_cv (mX3_choose [.ref 53, .ref 3, .ref 25, .int (nI s), .int le] (gwI (gwL b 30 s (b.2 30 s + Int32.toInt64 (1000000 / nI (sF (wt b s) n)))) 31 s (b.1 31 s + 1))) (fun u4 => rX2_takeTurn_73 0 u4) := by
    intro le hle
    rw [eX2_takeTurn, gin (show s < 8 by omega) (by omega), if_pos rfl, c_weightOf h, g_ci_some, max_e (by omega) (by omega), g_ci_some, if_neg hne, if_pos rfl, if_pos rfl, if_pos rfl, tn (show s < 2147483648 by omega), gL_i]
    have e18 : (gwI (gwL b 30 s (b.2 30 s + Int32.toInt64 (1000000 / nI (sF (wt b s) n)))) 31 s (b.1 31 s + 1)).1 1 8 = b.1 1 8 := rfl
    rw [e18]
    rcases hle with ⟨q1, q2⟩ | ⟨q1, q2⟩
    · rw [if_pos q2, q1]
    · rw [if_neg q2, q1]
  have ref : mX10_turns [.ref 0] u = (if u2.1 1 8 + 1 = 0 then rX10_turns_74 (nI s) 0 0 0 (gwI u2 0 25 0) else rX10_turns_74 (nI s) 0 0 0 u2) := by
    have em : mX10_more [.ref 0, .int (nI (1482 + s)), .int 1] (gwL (gwI u 0 25 0) 3 s (b.2 30 s + Int32.toInt64 (1000000 / nI (sF (wt b s) n)))) = some (none, wT (gwL (gwI u 0 25 0) 3 s (b.2 30 s + Int32.toInt64 (1000000 / nI (sF (wt b s) n)))) s (b.1 31 s + 1)) := by
      rw [eX10_more, gin (show 1482 + s < 2030 by omega) (by omega), if_pos rfl, if_pos rfl, tn (show 1482 + s < 2147483648 by omega), gL_i, show (gwI u 0 25 0).1 1 (1482 + s) = b.1 31 s from hT.1]
      rfl
    rw [eX10_turns, hto, g_ci_some, if_neg (nm1 (by omega)), gin (show s < 9 by omega) (by omega), if_pos rfl, m_weightOf (by omega) h1, g_ci_some, if_neg hne, if_pos rfl, tn (show s < 2147483648 by omega), hT.2, show (1482 : Int32) + nI s = nI (1482 + s) from nad 1482 s, em, g_cv_some, g2, g_cv_some, set_8, g_ci_some]
  by_cases q8 : b.1 1 8 = 1
  · obtain ⟨G, b2, c1, c2, c3, c4, c5, c6, c7⟩ := c_choose (s := s) (le := 1) hrel
    rcases c1 with ⟨z, -⟩ | ⟨-, M', z1, z2⟩
    · exact absurd z (by decide)
    · have := z1.uniq g1
      subst this
      subst z2
      obtain ⟨μ, ν, w, l, f1, f2, f3⟩ := fin 1 _ _ b2 u2 c3 g3 gr_sub.1 c7 c4 c5 c6 gr_sub.2 g5 g4
      refine ⟨μ, ν, w, l, ?_, ?_, f3⟩
      · rw [cls 1 (Or.inl ⟨rfl, q8⟩), c2, g_cv_some]; exact f1
      · rw [ref, e8, if_neg (by rw [q8]; decide)]; exact f2
  · have q80 : b.1 1 8 = 0 := by
      have h8 := hw8.2
      rw [hw8.1] at q8 ⊢
      have : jn b 1 8 ≠ 1 := fun z => q8 (by rw [z]; rfl)
      rw [show jn b 1 8 = 0 by omega]; rfl
    obtain ⟨G, b2, c1, c2, c3, c4, c5, c6, c7⟩ := c_choose (s := s) (le := 0) hrel
    rcases c1 with ⟨-, z⟩ | ⟨z, -⟩
    · subst z
      obtain ⟨μ, ν, w, l, f1, f2, f3⟩ := fin 0 [] _ b2 (gwI u2 0 25 0) c3 (g3.w (by omega)) (List.nil_sublist _) c7 c4 c5 c6 rfl (fun i hi => absurd hi (by simp)) rfl
      refine ⟨μ, ν, w, l, ?_, ?_, f3⟩
      · rw [cls 0 (Or.inr ⟨rfl, q8⟩), c2, g_cv_some]; exact f1
      · rw [ref, e8, if_pos q80]; exact f2
    · exact absurd rfl z
end TURN3
