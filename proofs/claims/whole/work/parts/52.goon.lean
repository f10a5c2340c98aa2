/-! goOn and goesOn -/
section GOON
variable {b u : gMem} {n a r p t B : Nat} {Q : List Nat}
/-- what of the reference is never touched but by images -/
def im (u u' : gMem) : Prop := (∀ c i, c = 2 ∨ c = 15 → u'.1 c i = u.1 c i) ∧ u'.1 0 27 = u.1 0 27 ∧ ∀ c i, c ≠ 3 → u'.2 c i = u.2 c i
theorem im.rf : im u u := ⟨fun _ _ _ => rfl, rfl, fun _ _ _ => rfl⟩
theorem im.tr {v w : gMem} (h : im u v) (h2 : im v w) : im u w := ⟨fun c i hc => (h2.1 c i hc).trans (h.1 c i hc), h2.2.1.trans h.2.1, fun c i hc => (h2.2.2 c i hc).trans (h.2.2 c i hc)⟩
theorem pfU.im {u' : gMem} (h : pfU u u') : im u u' := ⟨fun c i hc => h.1 c i (by omega) (by omega), h.1 0 27 (by omega) (by omega), h.2⟩
theorem qz.im {u' : gMem} (h : qz u u') : im u u' := ⟨fun c i hc => h.2 c i (by omega) (by omega), h.2 0 27 (by omega) (by omega), fun c i _ => by rw [h.1]⟩
/-- the layout of the order on both sides -/
def od (b u : gMem) (L : List Nat) : Prop := arr b 56 L ∧ arr u 5 L ∧ u.1 0 10 = nI L.length
theorem od.pf {b' u' : gMem} {L : List Nat} (h : od b u L) (h1 : pfB b b') (h2 : pfU u u') : od b' u' L := ⟨fun i hi => (h1 56 i (by decide)).trans (h.1 i hi), fun i hi => (h2.1 5 i (by omega) (by omega)).trans (h.2.1 i hi), (h2.1 0 10 (by omega) (by omega)).trans h.2.2⟩
theorem lt_pat {x y : Int32} (h : x < y) (hy : y < 100) : (y ≤ x + 1) ↔ (x + 1 = y) := by grind
theorem pass_both {f : Nat} (h : BR b u n a r p t Q B) (hf : f < n) : BR (gwI (gwI b 22 f (b.1 22 f + 1)) 2 9 (b.1 2 9 + 1)) (wH (wA u f 17 (b.1 22 f + 1)) 27 (b.1 2 9 + 1)) n a r p t Q B := by
  obtain ⟨hw, h0⟩ := BR_iff.mp h
  refine BR_iff.mpr ⟨tal_rel (k := 9) (fld_rel (w := 17) hw hf (by decide)) (by omega), fun s hs => ?_, fun i hi => ?_⟩
  · rw [gI_r, if_neg (by omega), gI_r, if_neg (by omega)]; exact h0.1 s hs
  · rw [gI_r, if_neg (by omega), gI_r, if_neg (by omega), gI_r, if_neg (by omega), gI_r, if_neg (by omega)]; exact h0.2 i hi
theorem drop_get {L : List Nat} {i : Nat} (h : i < L.length) : L[i] ∈ L.drop i := by
  rw [List.drop_eq_getElem_cons h]; exact List.mem_cons_self
theorem drop_suc {L : List Nat} {i x : Nat} (hx : x ∈ L.drop (i + 1)) : x ∈ L.drop i := by
  rw [← List.drop_drop] at hx; exact List.mem_of_mem_drop hx
theorem drop_ne {L : List Nat} {i x : Nat} (hnd : L.Nodup) (h : i < L.length) (hx : x ∈ L.drop (i + 1)) : x ≠ L[i] := by
  have h1 := hnd.drop (i := i)
  rw [List.drop_eq_getElem_cons h] at h1
  exact fun z => (List.nodup_cons.mp h1).1 (z ▸ hx)
theorem go2 {L : List Nat} {k bf : Nat} (hL : L.length ≤ 60) (hk : k < L.length) (hbf : bf ≤ 9) (hnd : L.Nodup) : ∀ m i, i + m = 61 → k < i → ∀ b u r Q B, BR b u n a r p t Q B → B + m + 1 ≤ 1000000000 → od b u L → (∀ x, x ∈ L.drop i → x ∈ Q) → L[k] < n → b.1 1 4 = nI bf → ∀ fl : Int32, ((fl = 0 ∧ b.1 22 L[k] < b.1 1 5) ∨ (fl = 1 ∧ b.1 1 5 ≤ b.1 22 L[k])) → ∃ b' u' r' Q', rX2_goOn_76 (nI k) (nI i) (nI (min L.length (k + 1 + bf))) b = some (none, b') ∧ rX10_goesOn_87 (nI L[k]) (nI (k + bf)) fl (nI i) u = some (none, u') ∧ BR b' u' n a r' p t Q' (B + m + 1) ∧ im u u' ∧ gf b b' := by
  intro m
  induction m with
  | zero =>
    intro i hi hki b u r Q B h h9 ho hQ hkn h4 fl hfl
    obtain ⟨hw, h0⟩ := BR_iff.mp h
    refine ⟨b, u, r, Q, ?_, ?_, BR_iff.mpr ⟨hw.mono (by omega) h9, h0⟩, im.rf, gf.rf⟩
    · rw [eX2_goOn_76, if_pos (nI_le (by omega) (by omega))]
    · rw [eX10_goesOn_87, ho.2.2, if_pos (nI_le (by omega) (by omega))]
  | succ m ih =>
    intro i hi hki b u r Q B h h9 ho hQ hkn h4 fl hfl
    obtain ⟨hw, h0⟩ := BR_iff.mp h
    have hn := hw.A.n60
    have hpat := hw.T.2.2.2.2.1
    have hm := BR_iff.mpr ⟨hw.mono (B' := B + (m + 1) + 1) (by omega) h9, h0⟩
    by_cases q1 : L.length ≤ i
    · refine ⟨b, u, r, Q, ?_, ?_, hm, im.rf, gf.rf⟩
      · rw [eX2_goOn_76, if_pos (nI_le (by omega) (by omega))]
      · rw [eX10_goesOn_87, ho.2.2, if_pos (nI_le (by omega) (by omega))]
    by_cases q2 : k + bf < i
    · refine ⟨b, u, r, Q, ?_, ?_, hm, im.rf, gf.rf⟩
      · rw [eX2_goOn_76, if_pos (nI_le (by omega) (by omega))]
      · rw [eX10_goesOn_87, ho.2.2, if_neg (nI_ge (by omega) (by omega)), if_pos (nI_lt q2 (by omega))]
    rw [eX2_goOn_76, eX10_goesOn_87, ho.2.2, if_neg (nI_ge (a := i) (b := min L.length (k + 1 + bf)) (by omega) (by omega)), if_neg (nI_ge (a := i) (b := L.length) (by omega) (by omega)), if_neg (nI_nlt (by omega) (by omega)), gin (show k < 60 by omega) (by omega), if_pos rfl, tn (show k < 2147483648 by omega), ho.1 k hk, gin (show L[k] < 60 by omega) (by omega), if_pos rfl, tn (show L[k] < 2147483648 by omega)]
    rcases hfl with ⟨f1, f2⟩ | ⟨f1, f2⟩
    · have hiQ : L[i] ∈ Q := hQ _ (drop_get (by omega))
      have hin := (Q_mem hw hiQ).1
      subst f1
      rw [if_neg (by intro z; grind), if_pos rfl, gin (show i < 60 by omega) (by omega), if_pos rfl, if_pos rfl, tn (show i < 2147483648 by omega), ho.1 i (by omega), ho.2.1 i (by omega)]
      obtain ⟨b1, u1, ⟨p1, p0⟩, p2, p3⟩ := place_both (wh := 2) h hiQ (by omega)
      have ho1 := ho.pf p1 p2
      have e22 : b1.1 22 L[k] = b.1 22 L[k] := p1 22 _ (by decide)
      have e15 : b1.1 1 5 = b.1 1 5 := p1 1 5 (by decide)
      have e14 : b1.1 1 4 = nI bf := (p1 1 4 (by decide)).trans h4
      rcases p3 with ⟨g1, g2, g3⟩ | ⟨r1, g1, g2, g3⟩
      · obtain ⟨b', u', r', Q', w1, w2, w3, w4, w5⟩ := ih (i + 1) (by omega) (by omega) b1 u1 r Q B g3 (by omega) ho1 (fun x hx => hQ x (drop_suc hx)) hkn e14 0 (Or.inl ⟨rfl, by rw [e22, e15]; exact f2⟩)
        obtain ⟨v1, v2⟩ := BR_iff.mp w3
        exact ⟨b', u', r', Q', by rw [g1, g_ci_some, if_pos rfl, nI_1, w1], by rw [g2, g_ci_some, if_pos rfl, nI_1, w2], BR_iff.mpr ⟨v1.mono (by omega) h9, v2⟩, p2.im.tr w4, p0.tr w5⟩
      · obtain ⟨hw1, -⟩ := BR_iff.mp g3
        have hps := pass_both g3 hkn
        have e17 : mA u1 L[k] 17 = b1.1 22 L[k] := (hw1.e.j hkn).f17
        have e27 : (wA u1 L[k] 17 (b1.1 22 L[k] + 1)).1 1 27 = b1.1 2 9 := by rw [wA_h (by omega)]; exact hw1.e.1.2.2.1 9 (by omega)
        have e17b : mA (wH (wA u1 L[k] 17 (b1.1 22 L[k] + 1)) 27 (b1.1 2 9 + 1)) L[k] 17 = b1.1 22 L[k] + 1 := by
          rw [mA_wH (by omega) (by omega) (by omega), mA_wA (by omega) (by omega) (by omega) (by omega), if_pos ⟨rfl, rfl⟩]
        have e5 : (wH (wA u1 L[k] 17 (b1.1 22 L[k] + 1)) 27 (b1.1 2 9 + 1)).1 1 5 + 10 = b.1 1 5 := by
          rw [wH_h, if_neg (by omega), wA_h (by omega), ← e15]; exact hw1.e.1.1.2.2.2.2.2.1
        have hic : im u1 (wH (wA u1 L[k] 17 (b1.1 22 L[k] + 1)) 27 (b1.1 2 9 + 1)) := ⟨fun c i hc => by rw [wH_c (by omega), wA_c (by omega)], by rw [wH_c (by omega), wA_c (by omega)], fun _ _ _ => rfl⟩
        have ho2 : od (gwI (gwI b1 22 L[k] (b1.1 22 L[k] + 1)) 2 9 (b1.1 2 9 + 1)) (wH (wA u1 L[k] 17 (b1.1 22 L[k] + 1)) 27 (b1.1 2 9 + 1)) L := ⟨fun i hi => by rw [gI_r, if_neg (by omega), gI_r, if_neg (by omega)]; exact ho1.1 i hi, fun i hi => by rw [wH_c (by omega), wA_c (by omega)]; exact ho1.2.1 i hi, by rw [wH_c (by omega), wA_c (by omega)]; exact ho1.2.2⟩
        have n22 : (gwI (gwI b1 22 L[k] (b1.1 22 L[k] + 1)) 2 9 (b1.1 2 9 + 1)).1 22 L[k] = b.1 22 L[k] + 1 := by
          rw [gI_r, if_neg (by omega), gI_r, if_pos ⟨rfl, rfl⟩, e22]
        have n15 : (gwI (gwI b1 22 L[k] (b1.1 22 L[k] + 1)) 2 9 (b1.1 2 9 + 1)).1 1 5 = b.1 1 5 := e15
        have hp99 : b.1 1 5 < 100 := by rw [hpat.1]; exact nI_lt (a := jn b 1 5) (b := 100) (by omega) (by omega)
        have hlp := lt_pat f2 hp99
        have step : ∀ fl : Int32, ((fl = 0 ∧ b.1 22 L[k] + 1 < b.1 1 5) ∨ (fl = 1 ∧ b.1 1 5 ≤ b.1 22 L[k] + 1)) → ∃ b' u' r' Q', rX2_goOn_76 (nI k) (nI (i + 1)) (nI (min L.length (k + 1 + bf))) (gwI (gwI b1 22 L[k] (b1.1 22 L[k] + 1)) 2 9 (b1.1 2 9 + 1)) = some (none, b') ∧ rX10_goesOn_87 (nI L[k]) (nI (k + bf)) fl (nI (i + 1)) (wH (wA u1 L[k] 17 (b1.1 22 L[k] + 1)) 27 (b1.1 2 9 + 1)) = some (none, u') ∧ BR b' u' n a r' p t Q' (B + (m + 1) + 1) ∧ im u u' ∧ gf b b' := by
          intro fl hfl
          obtain ⟨b', u', r', Q', w1, w2, w3, w4, w5⟩ := ih (i + 1) (by omega) (by omega) _ _ r1 _ (B + 1) hps (by omega) ho2 (fun x hx => List.mem_filter.mpr ⟨hQ x (drop_suc hx), decide_eq_true (drop_ne hnd (by omega) hx)⟩) hkn e14 fl (by rw [n22, n15]; exact hfl)
          obtain ⟨v1, v2⟩ := BR_iff.mp w3
          exact ⟨b', u', r', Q', w1, w2, BR_iff.mpr ⟨v1.mono (by omega) h9, v2⟩, (p2.im.tr hic).tr w4, (p0.tr (fun i => Or.inl (by rw [gI_r, if_neg (by omega), gI_r, if_neg (by omega)]))).tr w5⟩
        have ec : rX2_goOn_76 (nI k) (nI i) (nI (min L.length (k + 1 + bf))) b = rX2_goOn_76 (nI k) (nI i) (nI (min L.length (k + 1 + bf))) b := rfl
        rw [g1, g_ci_some, if_neg (show ¬ (1 : Int32) = 0 by decide), g2, g_ci_some, if_neg (show ¬ (1 : Int32) = 0 by decide), eX10_moreOf, at_17 (by omega), g_ci_some, lay_17 (by omega), g_cv_some, g_cv_some, e17, more_27, e27, g_cv_some, at_17 (by omega), g_ci_some, e17b, set_5, g_ci_some, e5, ho1.1 k hk, gin (show L[k] < 60 by omega) (by omega), if_pos rfl, if_pos rfl, if_pos rfl, tn (show L[k] < 2147483648 by omega), nI_1, show (gwI b1 22 L[k] (b1.1 22 L[k] + 1)).1 2 9 = b1.1 2 9 from rfl, e22]
        rw [e22] at step
        by_cases z : b.1 22 L[k] + 1 = b.1 1 5
        · rw [if_pos z]; exact step 1 (Or.inr ⟨rfl, hlp.mpr z⟩)
        · rw [if_neg z]; exact step 0 (Or.inl ⟨rfl, by have := fun y => z (hlp.mp y); grind⟩)
    · subst f1
      rw [if_pos f2, if_neg (by decide)]
      exact ⟨b, u, r, Q, rfl, rfl, hm, im.rf, gf.rf⟩
end GOON
