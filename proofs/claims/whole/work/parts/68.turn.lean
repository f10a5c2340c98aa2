section TURN
variable {b u b' u' : gMem} {n a r p t B : Nat} {Q : List Nat}
theorem owL_pre {s j : Nat} : ∀ m, ∃ T, owL b s (j + m) = owL b s j ++ T := by
  intro m
  induction m with
  | zero => exact ⟨[], by simp⟩
  | succ m ih =>
    obtain ⟨T, hT⟩ := ih
    refine ⟨T ++ (if ox b s (j + m) then [j + m] else []), ?_⟩
    show owL b s (j + m + 1) = _
    unfold owL at *
    rw [fr_s, hT, List.append_assoc]
theorem owL_at {s j : Nat} {L : List Nat} (hj : j < n) (hx : ox b s j = true) : ∃ h : (owL b s j).length < (owL b s n ++ L).length, (owL b s n ++ L)[(owL b s j).length] = j := by
  obtain ⟨T, hT⟩ := owL_pre (b := b) (s := s) (j := j + 1) (n - (j + 1))
  rw [show j + 1 + (n - (j + 1)) = n by omega] at hT
  have e : owL b s (j + 1) = owL b s j ++ [j] := by unfold owL; rw [fr_s, if_pos hx]
  rw [e] at hT
  simp only [hT]
  exact ⟨by simp, by simp⟩
theorem owL_lt {s j : Nat} (hj : j < n) (hx : ox b s j = true) : (owL b s j).length < (owL b s n).length := by
  obtain ⟨T, hT⟩ := owL_pre (b := b) (s := s) (j := j + 1) (n - (j + 1))
  rw [show j + 1 + (n - (j + 1)) = n by omega] at hT
  have e : owL b s (j + 1) = owL b s j ++ [j] := by unfold owL; rw [fr_s, if_pos hx]
  rw [e] at hT
  rw [hT]; simp
theorem ce_rfr {μ : gMem} (h : rfr b μ) (j : Nat) : ce μ j = ce b j := by unfold ce jn; rw [h.2 13 j (by decide), h.2 5 j (by decide)]
theorem own_loop {b0 u0 : gMem} {s : Nat} {L : List Nat} (hIL : IL b0) (hs : s < 8) (ha : arr b0 54 (owL b0 s n ++ L)) (h3 : b0.1 53 3 = nI (owL b0 s n).length) (h4 : b0.1 53 4 = nI L.length) (hl : (owL b0 s n).length + L.length ≤ 60) : ∀ k j, j + k = n → ∀ μ ν : gMem, BW μ ν n a r p t Q B → rfr b0 μ → (∀ x, ¬ (x < j ∧ ox b0 s x = true) → μ.1 10 x = b0.1 10 x) → us6 μ + 32 * (60 - (owL b0 s j).length) ≤ 1920 * t → (∀ c i, c ≠ 1 → ν.1 c i = u0.1 c i) → ν.2 = u0.2 → ∃ μ' ν', rX2_takeTurn_73 (nI (owL b0 s j).length) μ = rX2_takeTurn_73 (nI (owL b0 s n).length) μ' ∧ rX10_turns_74 (nI s) (nI (owL b0 s j).length) (oC b0 (owL b0 s j)) (nI j) ν = rX10_turns_140 (nI s) (nI (owL b0 s n).length) (oC b0 (owL b0 s n)) 0 ν' ∧ BW μ' ν' n a r p t Q B ∧ rfr b0 μ' ∧ (∀ x, ¬ (x < n ∧ ox b0 s x = true) → μ'.1 10 x = b0.1 10 x) ∧ us6 μ' + 32 * (60 - (owL b0 s n).length) ≤ 1920 * t ∧ (∀ c i, c ≠ 1 → ν'.1 c i = u0.1 c i) ∧ ν'.2 = u0.2 := by
  intro k
  induction k with
  | zero =>
    intro j hj μ ν h hf hL hu hv1 hv2
    have : j = n := by omega
    subst this
    refine ⟨μ, ν, rfl, ?_, h, hf, hL, hu, hv1, hv2⟩
    rw [eX10_turns_74, h.e.h.n, h.A.1, if_pos (nI_le (Nat.le_refl _) (by have := h.A.n60; omega))]
  | succ k ih =>
    intro j hj μ ν h hf hL hu hv1 hv2
    have hn := h.A.n60
    have hjn : j < n := by omega
    have hp := h.A.p32
    have hJ := h.J j hjn
    have e9 := hf.2 9 j (by decide)
    have e12 := hf.2 12 j (by decide)
    have e17 := hf.2 17 j (by decide)
    have skip : ox b0 s j = false → ∃ μ' ν', rX2_takeTurn_73 (nI (owL b0 s j).length) μ = rX2_takeTurn_73 (nI (owL b0 s n).length) μ' ∧ rX10_turns_74 (nI s) (nI (owL b0 s j).length) (oC b0 (owL b0 s j)) (nI (j + 1)) ν = rX10_turns_140 (nI s) (nI (owL b0 s n).length) (oC b0 (owL b0 s n)) 0 ν' ∧ BW μ' ν' n a r p t Q B ∧ rfr b0 μ' ∧ (∀ x, ¬ (x < n ∧ ox b0 s x = true) → μ'.1 10 x = b0.1 10 x) ∧ us6 μ' + 32 * (60 - (owL b0 s n).length) ≤ 1920 * t ∧ (∀ c i, c ≠ 1 → ν'.1 c i = u0.1 c i) ∧ ν'.2 = u0.2 := fun q => by
      have eW : owL b0 s (j + 1) = owL b0 s j := by unfold owL; rw [fr_s, q]; simp
      have := ih (j + 1) (by omega) μ ν h hf (fun x hx => hL x (fun z => hx ⟨by omega, z.2⟩)) (by rw [eW]; exact hu) hv1 hv2
      rw [eW] at this
      exact this
    rw [eX10_turns_74, h.e.h.n, h.A.1, if_neg (nI_ge (by omega) (by omega)), m_isAt h.e hjn hn, g_ci_some, nI_1]
    by_cases q : μ.1 9 j = 2 ∧ μ.1 12 j = nI s
    · rw [if_pos q, if_neg (by decide), at_12 (by omega), g_ci_some, (h.e.j hjn).f12]
      by_cases q2 : μ.1 17 j = 0
      · have hx : ox b0 s j = true := by unfold ox; rw [← e9, ← e12, ← e17]; simp [q.1, q.2, q2]
        have eW : owL b0 s (j + 1) = owL b0 s j ++ [j] := by unfold owL; rw [fr_s, if_pos hx]
        have hlt := owL_lt (n := n) hjn hx
        obtain ⟨hlt2, hat⟩ := owL_at (n := n) (L := L) hjn hx
        have hus := hJ.2.1
        have hE := h.e.j hjn
        have hl0 : μ.1 10 j ≠ 0 := by rw [hL j (by omega)]; exact hIL j (by omega) (e9 ▸ q.1)
        have hR := run_rel (k := 10) h hjn (by omega) q.1 hl0 (by omega)
        have hU := rnB_us (k := 10) (by omega) h hjn (by omega)
        have hF := rnB_fr (b := μ) (j := j) (us := jn μ 7 j) (k := 10) (by omega)
        have hce : ce (rnB μ j 10 (jn μ 7 j)) j = ce b0 j := (ce_rfr hF j).trans (ce_rfr hf j)
        have h9' : (rnB μ j 10 (jn μ 7 j)).1 9 j = 2 := (hF.2 9 j (by decide)).trans q.1
        obtain ⟨μ', ν', g1, g2, g3⟩ := ih (j + 1) (by omega) (rnB μ j 10 (jn μ 7 j)) (rnU ν j 10 (jn μ 7 j)) hR (hf.tr hF) (fun x hx2 => by
          by_cases z : x = j
          · subst z; exact absurd ⟨by omega, hx⟩ hx2
          · rw [rnB_10 (by omega) z]; exact hL x (fun y => hx2 ⟨by omega, y.2⟩)) (by rw [eW, List.length_append]; simp; omega) (fun c i hc => (rnU_c hc).trans (hv1 c i hc)) (rnU_l.trans hv2)
        refine ⟨μ', ν', ?_, ?_, g3⟩
        · rw [eX2_takeTurn_73, eX3_size, g_ci_some, hf.2 53 3 (by decide), hf.2 53 4 (by decide), h3, h4, nad, if_neg (nI_ge (by omega) (by omega)), gin (show (owL b0 s j).length < 60 by omega) (by omega), if_pos rfl, if_neg (nI_ge (by omega) (by omega)), tn (show (owL b0 s j).length < 2147483648 by omega), hf.2 54 _ (by decide), ha _ hlt2, hat, show mX2_run [.ref 0, .int (nI j), .int 10] μ = _ from c_run (k := 10) (by omega) (by omega) hus.1 hus.2, g_cv_some, nI_1]
          rw [eW, List.length_append] at g1
          exact g1
        · rw [if_pos (by rw [q2]; decide), show mX10_runs [.ref 0, .int (nI j), .int 10] ν = _ from m_run (k := 10) (by omega) (by omega) (hE.f2.trans hus.1) hus.2, g_cv_some, m_cellsOf hR.e hjn hn hp.2 (hR.J j hjn) (ip_col (hR.P.1 j hjn) h9'), g_ci_some, hce, nI_1]
          rw [eW, List.length_append, oC_app] at g2
          exact g2
      · have hx : ox b0 s j = false := by unfold ox; rw [← e9, ← e12, ← e17]; simp [q2]
        have h17 := hJ.2.2.2.2.2.2.1
        have hne : jn μ 17 j ≠ 0 := fun z => q2 (by rw [h17.1, z]; rfl)
        rw [h17.1, if_neg (show ¬ nI (jn μ 17 j) ≤ 0 from nI_ge (a := 0) (b := jn μ 17 j) (by omega) (by omega))]
        exact skip hx
    · have hx : ox b0 s j = false := by
        cases z : ox b0 s j with
        | false => rfl
        | true =>
          unfold ox at z
          rw [← e9, ← e12] at z
          simp at z
          exact absurd ⟨z.1, z.2.2⟩ q
      rw [if_neg q, if_pos rfl]
      exact skip hx
theorem gwI_ow {c i : Nat} {x y : Int32} : gwI (gwI b c i x) c i y = gwI b c i y := by
  refine Prod.ext (funext fun d => funext fun k => ?_) rfl
  show (gwI (gwI b c i x) c i y).1 d k = (gwI b c i y).1 d k
  simp only [gI_r]
  by_cases q : d = c ∧ k = i
  · rw [if_pos q, if_pos q]
  · rw [if_neg q, if_neg q, if_neg q]
theorem rnB_tal {j k us : Nat} {X : Int32} (hk : k = 10 ∨ k = 11) : rnB (gwI b 2 10 X) j k us = gwI (rnB b j k us) 2 10 X := by
  have h1 : rn1 (gwI b 2 10 X) j k us = gwI (rn1 b j k us) 2 10 X := by
    unfold rn1
    rw [gI_r, if_neg (by omega), gI_r, if_neg (by omega), gI_r, if_neg (by omega), gI_r, if_neg (by omega), gwI_comm (c := 2) (i := 10) (c' := 10) (by omega), gwI_comm (c := 2) (i := 10) (c' := 5 + k) (by omega), gwI_comm (c := 2) (i := 10) (c' := 27) (by omega)]
  have h2 : rnx (gwI b 2 10 X) j k = rnx b j k := rfl
  unfold rnB
  rw [h1, h2, show (gwI b 2 10 X).1 1 7 = b.1 1 7 from rfl, show (gwI b 2 10 X).1 10 j = b.1 10 j from rfl]
  split
  · rw [gwI_comm (c := 2) (i := 10) (c' := 11) (by omega)]
  · rfl
def oCf (b : gMem) (c : Int32) (L : List Nat) : Int32 := L.foldl (fun c x => c ||| ce b x) c
theorem oCf_app {c : Int32} {L : List Nat} {x : Nat} : oCf b c (L ++ [x]) = oCf b c L ||| ce b x := by unfold oCf; rw [List.foldl_append]; rfl
theorem lent_loop {b0 u0 : gMem} {s : Nat} {L W : List Nat} {f c0 : Int32} (hIL : IL b0) (ha : arr b0 54 (W ++ L)) (h3 : b0.1 53 3 = nI W.length) (h4 : b0.1 53 4 = nI L.length) (hl : W.length + L.length ≤ 60) (hnd : L.Nodup) (hLn : ∀ x ∈ L, x < n ∧ b0.1 9 x = 2) (hu13 : arr u0 13 L) (hu25 : u0.1 0 25 = nI L.length) : ∀ k i, i + k = L.length → ∀ μ ν : gMem, BW (gwI μ 2 10 (b0.1 2 10 + nI i)) ν n a r p t Q B → rfr b0 μ → (∀ x, x ∈ L.drop i → μ.1 10 x = b0.1 10 x) → us6 μ + 32 * (60 - (W.length + i)) ≤ 1920 * t → (∀ c i, c ≠ 1 → ν.1 c i = u0.1 c i) → ν.2 = u0.2 → ∃ μ' ν', rX2_takeTurn_73 (nI (W.length + i)) μ = g_cv (mX2_restStopped [.ref 0] μ') (fun u2 => some (none, u2)) ∧ rX10_turns_140 (nI s) f (oCf b0 c0 (L.take i)) (nI i) ν = rX10_turns_192 (nI s) f (oCf b0 c0 L) 0 ν' ∧ BW μ' ν' n a r p t Q B ∧ (∀ c i, c ∉ [2, 10, 11, 15, 16, 27] → μ'.1 c i = b0.1 c i) ∧ (∀ c i, c ≠ 1 → ν'.1 c i = u0.1 c i) ∧ ν'.2 = u0.2 ∧ (∀ x, n ≤ x → μ'.1 10 x = μ.1 10 x) := by
  intro k
  induction k with
  | zero =>
    intro i hi μ ν h hf hL hu hv1 hv2
    have : i = L.length := by omega
    subst this
    refine ⟨gwI μ 2 10 (b0.1 2 10 + nI L.length), ν, ?_, ?_, h, fun c i hc => ?_, hv1, hv2, fun x hx => by rw [gI_r, if_neg (by omega)]⟩
    · rw [eX2_takeTurn_73, eX3_size, g_ci_some, hf.2 53 3 (by decide), hf.2 53 4 (by decide), h3, h4, nad, if_pos (nI_le (by omega) (by omega)), hf.2 2 10 (by decide)]
    · rw [eX10_turns_140, hv1 0 25 (by omega), hu25, if_pos (nI_le (Nat.le_refl _) (by omega)), List.take_length]
    · simp only [List.mem_cons, not_or, List.not_mem_nil] at hc
      rw [gI_r, if_neg (by omega)]
      exact hf.2 c i (by simp; omega)
  | succ k ih =>
    intro i hi μ ν h hf hL hu hv1 hv2
    have hn := h.A.n60
    have hp := h.A.p32
    have hiL : i < L.length := by omega
    have hm : L[i] ∈ L := List.getElem_mem hiL
    obtain ⟨hjn, h92⟩ := hLn _ hm
    have hJ := h.J L[i] hjn
    have hus := hJ.2.1
    have hus1 : μ.1 7 L[i] = nI (jn μ 7 L[i]) := hus.1
    have hus2 : jn μ 7 L[i] < 6 := hus.2
    have hE := h.e.j hjn
    have e9 : (gwI μ 2 10 (b0.1 2 10 + nI i)).1 9 L[i] = 2 := (hf.2 9 _ (by decide)).trans h92
    have hl0 : (gwI μ 2 10 (b0.1 2 10 + nI i)).1 10 L[i] ≠ 0 := by
      show μ.1 10 L[i] ≠ 0
      rw [hL _ (drop_get hiL)]; exact hIL _ (by omega) h92
    have hu6 : us6 (gwI μ 2 10 (b0.1 2 10 + nI i)) = us6 μ := rfl
    have hR := run_rel (k := 11) h hjn (by omega) e9 hl0 (by rw [hu6]; omega)
    have hU := rnB_us (k := 11) (by omega) h hjn (by rw [hu6]; omega)
    rw [show jn (gwI μ 2 10 (b0.1 2 10 + nI i)) 7 L[i] = jn μ 7 L[i] from rfl, rnB_tal (by omega)] at hR hU
    rw [hu6] at hU
    have hU2 : us6 (rnB μ L[i] 11 (jn μ 7 L[i])) ≤ us6 μ + 32 := hU
    have hF := rnB_fr (b := μ) (j := L[i]) (us := jn μ 7 L[i]) (k := 11) (by omega)
    have hce : ce (gwI (rnB μ L[i] 11 (jn μ 7 L[i])) 2 10 (b0.1 2 10 + nI i)) L[i] = ce b0 L[i] := (ce_rfr hF _).trans (ce_rfr hf _)
    have h9' : (gwI (rnB μ L[i] 11 (jn μ 7 L[i])) 2 10 (b0.1 2 10 + nI i)).1 9 L[i] = 2 := (hF.2 9 _ (by decide)).trans ((hf.2 9 _ (by decide)).trans h92)
    have h28 : (rnU ν L[i] 11 (jn μ 7 L[i])).1 1 28 = b0.1 2 10 + nI i := (hR.e.1.2.2.1 10 (by omega)).trans (by rw [gI_r, if_pos ⟨rfl, rfl⟩])
    have hT := tal_rel (k := 10) (x := b0.1 2 10 + nI (i + 1)) hR (by omega)
    rw [gwI_ow] at hT
    have hts := List.take_succ_eq_append_getElem hiL
    obtain ⟨μ', ν', g1, g2, g3, g4, g5, g6, g7⟩ := ih (i + 1) (by omega) (rnB μ L[i] 11 (jn μ 7 L[i])) _ hT (hf.tr hF) (fun x hx => by
      rw [rnB_10 (by omega) (drop_ne hnd hiL hx)]; exact hL x (drop_suc hx)) (by omega) (fun c d hc => by rw [wH_c hc]; exact (rnU_c hc).trans (hv1 c d hc)) (by rw [wH_l]; exact rnU_l.trans hv2)
    have hat : (W ++ L)[W.length + i]'(by simp; omega) = L[i] := by simp
    refine ⟨μ', ν', ?_, ?_, g3, g4, g5, g6, fun x hx => (g7 x hx).trans (rnB_10 (by omega) (by omega))⟩
    · rw [eX2_takeTurn_73, eX3_size, g_ci_some, hf.2 53 3 (by decide), hf.2 53 4 (by decide), h3, h4, nad, if_neg (nI_ge (by omega) (by omega)), gin (show W.length + i < 60 by omega) (by omega), if_pos rfl, if_pos (nI_le (by omega) (by omega)), tn (show W.length + i < 2147483648 by omega), hf.2 54 _ (by decide), ha (W.length + i) (by simp; omega), hat, show mX2_run [.ref 0, .int (nI L[i]), .int 11] μ = _ from c_run (k := 11) (by omega) (by omega) hus1 hus2, g_cv_some, nI_1]
      exact g1
    · rw [eX10_turns_140, hv1 0 25 (by omega), hu25, if_neg (nI_ge (by omega) (by omega)), gin (show i < 60 by omega) (by omega), if_pos rfl, tn (show i < 2147483648 by omega), hv1 13 i (by omega), hu13 i hiL, show mX10_runs [.ref 0, .int (nI L[i]), .int 11] ν = _ from m_run (k := 11) (by omega) (by omega) (hE.f2.trans hus1) hus2, g_cv_some, if_pos rfl, rnU_c (by omega), hv1 13 i (by omega), hu13 i hiL, m_cellsOf hR.e hjn hn hp.2 (hR.J _ hjn) (ip_col (hR.P.1 _ hjn) h9'), g_ci_some, hce, more_28, g_cv_some, h28, Int32.add_assoc, nI_1]
      rw [hts, oCf_app] at g2
      exact g2
theorem rest_loop {s f us : Int32} : ∀ k j, j + k = n → ∀ μ ν : gMem, BW μ ν n a r p t Q B → ∃ μ' ν', rX2_restStopped_2 (nI j) μ = some (none, μ') ∧ rX10_turns_192 s f us (nI j) ν = rX10_turns_192 s f us (nI n) ν' ∧ BW μ' ν' n a r p t Q B ∧ (μ'.2 = μ.2 ∧ ∀ c i, c ≠ 17 → μ'.1 c i = μ.1 c i) ∧ (∀ c i, c ≠ 1 → ν'.1 c i = ν.1 c i) ∧ ν'.2 = ν.2 := by
  intro k
  induction k with
  | zero =>
    intro j hj μ ν h
    have : j = n := by omega
    subst this
    refine ⟨μ, ν, ?_, rfl, h, ⟨rfl, fun _ _ _ => rfl⟩, fun _ _ _ => rfl, rfl⟩
    rw [eX2_restStopped_2, h.A.1, if_pos (nI_le (Nat.le_refl _) (by have := h.A.n60; omega))]
  | succ k ih =>
    intro j hj μ ν h
    have hn := h.A.n60
    have hjn : j < n := by omega
    have h17 := (h.J j hjn).2.2.2.2.2.2.1
    rw [eX2_restStopped_2, h.A.1, if_neg (nI_ge (by omega) (by omega)), c_isPlaced h.A hjn, g_ci_some, eX10_turns_192, h.e.h.n, h.A.1, if_neg (nI_ge (by omega) (by omega)), m_isPlaced h.e hjn hn, g_ci_some, nI_1]
    by_cases q : μ.1 9 j = 2
    · rw [if_pos q, if_neg (show ¬ (1 : Int32) = 0 by decide), gin (show j < 60 by omega) (by omega), if_pos rfl, if_pos rfl, if_pos rfl, if_neg (show ¬ (1 : Int32) = 0 by decide), tn (show j < 2147483648 by omega), at_12 (by omega), g_ci_some, (h.e.j hjn).f12, h17.1]
      by_cases q2 : jn μ 17 j = 0
      · rw [if_pos (by rw [q2]; decide), if_pos (by rw [q2]; decide)]
        exact ih (j + 1) (by omega) μ ν h
      · have hR := jf_rel (w := 12) h hjn (by decide) (IJ1_17 (h.J j hjn) (show jn μ 17 j - 1 < 1000 by omega))
        obtain ⟨μ', ν', g1, g2, g3, g4, g5, g6⟩ := ih (j + 1) (by omega) _ _ hR
        refine ⟨μ', ν', ?_, ?_, g3, ⟨g4.1, fun c i hc => (g4.2 c i hc).trans (by rw [gI_r, if_neg (fun z => hc z.1)])⟩, fun c i hc => (g5 c i hc).trans (wA_c hc), g6⟩
        · rw [if_neg (show ¬ nI (jn μ 17 j) ≤ 0 from nI_ge (a := 0) (b := jn μ 17 j) (by omega) (by omega)), nI_s1 (by omega)]; exact g1
        · rw [if_neg (show ¬ nI (jn μ 17 j) ≤ 0 from nI_ge (a := 0) (b := jn μ 17 j) (by omega) (by omega)), eX10_moreOf, at_12 (by omega), g_ci_some, lay_12 (by omega), g_cv_some, g_cv_some, (h.e.j hjn).f12, h17.1, sub1, nI_s1 (by omega)]; exact g2
    · rw [if_neg q, if_pos rfl, if_pos rfl]
      exact ih (j + 1) (by omega) μ ν h
end TURN
