section LEND2
variable {b u : gMem} {n a r p t B : Nat} {Q : List Nat}
/-- the order in which columns are lent -/
def ordL (b : gMem) (n s : Nat) (M : List Nat) : Prop := M.Pairwise (fun x y => kl b x < kl b y) ∧ ∀ x, x ∈ M ↔ x ∈ rdL b s n
theorem ordL.uniq {s : Nat} {M N : List Nat} (h : ordL b n s M) (h2 : ordL b n s N) : M = N := srt_uniq h.1 h2.1 (fun x => (h.2 x).trans (h2.2 x).symm)
theorem rk6 (hU : IU b t) {v : Nat} (hv : v < 6) : rk b v < 6 := by
  have h1 := cB_strict (f := fun w => decide (jn b 27 w * jn b 26 v < jn b 27 v * jn b 26 w)) (g := fun _ => true) (d := v) (k := 6) hv (decide_eq_false (by omega)) rfl (fun _ _ _ => rfl)
  exact Nat.lt_of_lt_of_le h1 (cB_le _ 6)
theorem c_choose {s : Nat} {le : Int32} (h : BW b u n a r p t Q B) : ∃ (G : List Nat × Int32) (b' : gMem), ((le = 0 ∧ G = ([], oC b (owL b s n))) ∨ (le ≠ 0 ∧ ∃ M, ordL b n s M ∧ G = gr b (oC b (owL b s n)) M)) ∧ mX3_choose [.ref 53, .ref 3, .ref 25, .int (nI s), .int le] b = some (none, b') ∧ bs b b' ∧ b'.1 53 3 = nI (owL b s n).length ∧ b'.1 53 4 = nI G.1.length ∧ b'.1 53 5 = G.2 ∧ arr b' 54 (owL b s n ++ G.1) := by
  have hn := h.A.n60
  have hlen := owL_rdL (b := b) (s := s) n
  obtain ⟨μ, g1, hb, g2, g3, g4, g5, g6, g7⟩ := c_ch1 (s := s) (le := le) h n 0 (by omega) (gwI (gwI (gwI (gwI b 53 3 0) 53 4 0) 53 5 0) 53 2 0) ⟨(((bs.rf.wx (by omega)).wx (by omega)).wx (by omega)).wx (by omega), rfl, rfl, rfl, rfl, fun i hi => absurd hi (by simp [owL]), fun i hi => absurd hi (by simp [rdL])⟩
  have e0 : mX3_choose [.ref 53, .ref 3, .ref 25, .int (nI s), .int le] b = (if le = 0 then some (none, μ) else (if nI (rdL b s n).length ≤ 0 then some (none, μ) else (g_cv (mX8_rankAll [.ref 25] μ) (fun u1 => rX3_choose_76 0 u1)))) := by
    rw [eX3_choose, eX3_clear, g_cv_some, show rX3_choose_12 (nI s) le 0 _ = _ from g1, eX3_choose_12, (hb.c 3 2 rfl).trans h.A.1, if_pos (nI_le (Nat.le_refl _) (by omega)), g2]
  by_cases hle : le = 0
  · exact ⟨([], oC b (owL b s n)), μ, Or.inl ⟨hle, rfl⟩, by rw [e0, if_pos hle], hb, g3, g4, g5, by simpa using g6⟩
  · by_cases hR : (rdL b s n).length = 0
    · refine ⟨gr b (oC b (owL b s n)) [], μ, Or.inr ⟨hle, [], ⟨List.Pairwise.nil, fun x => ?_⟩, rfl⟩, by rw [e0, if_neg hle, if_pos (by rw [hR]; decide)], hb, g3, g4, g5, by simpa [gr] using g6⟩
      rw [List.length_eq_zero_iff.mp hR]
    · obtain ⟨ν, k1, k2, k3, k4⟩ := c_rankAll (h.bs hb).U h.B.2.1
      have hrk : ∀ v, rk μ v = rk b v := fun v => by unfold rk; simp only [hb.j 27 _ rfl, hb.j 26 _ rfl]
      have hb1 : bs b ν := ⟨k2.trans hb.1, fun c i hc => (k3 c i hc.2).trans (hb.2 c i hc)⟩
      have outer : ∀ k d, d + k = 6 → ∀ (O : List Nat) (μ : gMem), ldS b n s O μ → O.Pairwise (fun x y => kl b x < kl b y) → (∀ x, x ∈ O ↔ x ∈ rdL b s n ∧ rk b (jn b 7 x) < d) → ∃ M μ', rX3_choose_76 (nI d) μ = some (none, μ') ∧ ldS b n s M μ' ∧ ordL b n s M := by
        intro k
        induction k with
        | zero =>
          intro d hd O μ hL hpw hm
          rw [show d = 6 by omega] at *
          refine ⟨O, μ, by rw [eX3_choose_76, if_pos (by decide)], hL, hpw, fun x => (hm x).trans ⟨fun z => z.1, fun z => ⟨z, ?_⟩⟩⟩
          exact rk6 h.U (h.J x (rdL_m.mp z).1).2.1.2
        | succ k ih =>
          intro d hd O μ hL hpw hm
          obtain ⟨O', μ', w1, w2, w3, w4⟩ := c_lend h (show d < 6 by omega) (rdL b s n).length 0 (by omega) O μ hL hpw (fun x => (hm x).trans ⟨fun z => ⟨z.1, Or.inl z.2⟩, fun z => ⟨z.1, z.2.elim id (fun y => absurd y.2 (by simp))⟩⟩)
          rw [eX3_choose_76, if_neg (show ¬ (6 : Int32) ≤ nI d from nI_ge (a := d) (b := 6) (by omega) (by omega)), eX3_lendTo, show rX3_lendTo_3 (nI d) 0 μ = _ from w1, g_cv_some, nI_1]
          exact ih (d + 1) (by omega) O' μ' w2 w3 w4
      obtain ⟨M, μ', w1, w2, w3⟩ := outer 6 0 (by omega) [] ν ⟨hb1, (k3 53 2 (by omega)).trans g2, (k3 53 3 (by omega)).trans g3, (k3 53 4 (by omega)).trans g4, (k3 53 5 (by omega)).trans g5, fun i hi => (k3 54 i (by omega)).trans (by
        have : owL b s n ++ (gr b (oC b (owL b s n)) []).1 = owL b s n := by simp [gr]
        simp only [this] at hi ⊢
        exact g6 i hi), fun i hi => (k3 55 i (by omega)).trans (g7 i hi), fun v hv => (k4 v hv).trans (by rw [hrk])⟩ List.Pairwise.nil (fun x => by simp)
      refine ⟨gr b (oC b (owL b s n)) M, μ', Or.inr ⟨hle, M, w3, rfl⟩, ?_, w2.1, w2.2.2.1, w2.2.2.2.1, w2.2.2.2.2.1, w2.2.2.2.2.2.1⟩
      rw [e0, if_neg hle, if_neg (show ¬ nI (rdL b s n).length ≤ 0 from nI_ge (a := 0) (b := (rdL b s n).length) (by omega) (by omega)), k1, g_cv_some]
      exact w1
/-- the same but for those lent to -/
def lz (u u' : gMem) : Prop := u'.2 = u.2 ∧ ∀ c i, c ≠ 13 → c ≠ 14 → ¬ (c = 0 ∧ i = 25) → u'.1 c i = u.1 c i
theorem lz.rf : lz u u := ⟨rfl, fun _ _ _ _ _ => rfl⟩
theorem lz.w {u' : gMem} {c i : Nat} {x : Int32} (h : lz u u') (hc : c = 13 ∨ c = 14 ∨ (c = 0 ∧ i = 25)) : lz u (gwI u' c i x) := ⟨h.1, fun d k h1 h2 h3 => by rw [gI_r, if_neg (by omega)]; exact h.2 d k h1 h2 h3⟩
theorem lz.qs {u' : gMem} (h : lz u u') : qs u u' := ⟨h.1, fun i => h.2 1 i (by omega) (by omega) (by omega), fun i => h.2 15 i (by omega) (by omega) (by omega), fun i => h.2 2 i (by omega) (by omega) (by omega), h.2 0 27 (by omega) (by omega) (by omega)⟩
theorem lz.im {u' : gMem} (h : lz u u') : im u u' := ⟨fun c i hc => h.2 c i (by omega) (by omega) (by omega), h.2 0 27 (by omega) (by omega) (by omega), fun c i _ => by rw [h.1]⟩
theorem ins_finc {C : Nat} {O : List Nat} {j k : Nat} {μ : gMem} (hk : k ≤ O.length) (h1 : ∀ d (h : d < O.length), d < k → μ.1 C d = nI O[d]) (h2 : ∀ d (h : d < O.length), k ≤ d → μ.1 C (d + 1) = nI O[d]) : arr (gwI μ C k (nI j)) C (O.take k ++ j :: O.drop k) := by
  have hl : (O.take k).length = k := by simp; omega
  intro i hi
  have hi2 : i < O.length + 1 := by simp at hi; omega
  rw [gI_r]
  by_cases q : i = k
  · rw [if_pos ⟨rfl, q⟩, List.getElem_append_right (by omega)]
    congr 1
    simp [hl, q]
  · rw [if_neg (fun z => q z.2)]
    by_cases q2 : i < k
    · rw [List.getElem_append_left (by omega), List.getElem_take]
      exact h1 i (by omega) q2
    · rw [List.getElem_append_right (by omega)]
      have := h2 (i - 1) (by omega) (by omega)
      rw [show i - 1 + 1 = i by omega] at this
      rw [this]
      congr 1
      have e : i - (O.take k).length = (i - 1 - k) + 1 := by omega
      simp only [e, List.getElem_cons_succ, List.getElem_drop]
      congr 1
      omega
theorem ins_mem {O : List Nat} {j k x : Nat} : x ∈ O.take k ++ j :: O.drop k ↔ x ∈ O ∨ x = j := by
  rw [List.mem_append, List.mem_cons]
  have : x ∈ O ↔ x ∈ O.take k ∨ x ∈ O.drop k := by rw [← List.mem_append, List.take_append_drop]
  rw [this]
  constructor
  · rintro (z | z | z)
    · exact Or.inl (Or.inl z)
    · exact Or.inr z
    · exact Or.inl (Or.inr z)
  · rintro ((z | z) | z)
    · exact Or.inl z
    · exact Or.inr (Or.inr z)
    · exact Or.inr (Or.inl z)
theorem m_lend1 {s : Nat} {v3 : Int32} (h : BW b u n a r p t Q B) : ∀ (k j : Nat) (O : List Nat) (μ : gMem), k ≤ O.length → j < n → (∀ x ∈ O, x < j) → O.Pairwise (fun x y => kl b x < kl b y) → O.length < 60 → lz u μ → (∀ d (h : d < O.length), d < k → μ.1 14 d = nI O[d]) → (∀ d (h : d < O.length), k ≤ d → μ.1 14 (d + 1) = nI O[d]) → (∀ d (h : d < O.length), k ≤ d → kl b j < kl b O[d]) → ∃ O' μ', rX10_laysLenders_67 (nI s) (nI O.length) v3 (nI j) (nI k) μ = rX10_laysLenders_7 (nI s) (nI O'.length) v3 (nI (j + 1)) μ' ∧ lz u μ' ∧ arr μ' 14 O' ∧ O'.Pairwise (fun x y => kl b x < kl b y) ∧ (∀ x, x ∈ O' ↔ x ∈ O ∨ x = j) := by
  have hn := h.A.n60
  intro k
  induction k with
  | zero =>
    intro j O μ hk hj hO hpw hl hz h1 h2 h3
    refine ⟨O.take 0 ++ j :: O.drop 0, gwI μ 14 0 (nI j), ?_, hz.w (by omega), ins_finc (by omega) h1 h2, ins_pw hpw (fun d _ hd => by omega) h3, fun x => ins_mem⟩
    rw [eX10_laysLenders_67, if_pos (by decide), gin (show 0 < 60 by omega) (by omega), if_pos rfl, tn (by omega), nI_1, nI_1]
    simp
  | succ k ih =>
    intro j O μ hk hj hO hpw hl hz h1 h2 h3
    have hOk := hO _ (List.getElem_mem (show k < O.length by omega))
    have hw := h.qs hz.qs
    have ux := (h.J j hj).2.1.2
    have uy := (h.J O[k] (by omega)).2.1.2
    have r1 := rk_lt h.U ux uy
    have m1 : jn b 27 (jn b 7 j) * jn b 26 (jn b 7 O[k]) ≤ 115200000 * 9 := Nat.mul_le_mul (ud_le h.U h.B.2.1 ux) (h.U.1 _ uy).2.2
    have m2 : jn b 27 (jn b 7 O[k]) * jn b 26 (jn b 7 j) ≤ 115200000 * 9 := Nat.mul_le_mul (ud_le h.U h.B.2.1 uy) (h.U.1 _ ux).2.2
    have hkey : kl b j < kl b O[k] ↔ jn b 27 (jn b 7 j) * jn b 26 (jn b 7 O[k]) < jn b 27 (jn b 7 O[k]) * jn b 26 (jn b 7 j) := by
      rw [← r1]; unfold kl; omega
    rw [eX10_laysLenders_67, if_neg (show ¬ nI (k + 1) ≤ 0 from nI_ge (a := 0) (b := k + 1) (by omega) (by omega)), nI_s1 (by omega), show k + 1 - 1 = k by omega, gin (show k < 60 by omega) (by omega), if_pos rfl, tn (show k < 2147483648 by omega), h1 k (by omega) (by omega), m_ratios hw.e h.U hn h.J hj (by omega), g_ci_some, gin (show k + 1 < 60 by omega) (by omega), if_pos rfl, if_pos rfl, if_pos rfl, tn (show k + 1 < 2147483648 by omega)]
    by_cases q : kl b j < kl b O[k]
    · have := hkey.mp q
      rw [if_neg (fun z => by have := (sub_le (by omega) (by omega)).mp z; omega), h1 k (by omega) (by omega)]
      refine ih j O (gwI μ 14 (k + 1) (nI O[k])) (by omega) hj hO hpw hl (hz.w (by omega)) (fun d hd hdk => by rw [gI_r, if_neg (by omega)]; exact h1 d hd (by omega)) (fun d hd hdk => ?_) (fun d hd hdk => ?_)
      · rw [gI_r]
        by_cases z : d = k
        · subst z; rw [if_pos ⟨rfl, rfl⟩]
        · rw [if_neg (by omega)]; exact h2 d hd (by omega)
      · by_cases z : d = k
        · subst z; exact q
        · exact h3 d hd (by omega)
    · have hlo : ∀ d (hd : d < O.length), d < k + 1 → kl b O[d] < kl b j := by
        intro d hd hdk
        have hne : kl b O[k] ≠ kl b j := by
          unfold kl
          have := hO _ (List.getElem_mem (show k < O.length by omega))
          omega
        by_cases z : d = k
        · subst z; omega
        · have := List.pairwise_iff_getElem.mp hpw d k hd (by omega) (by omega)
          omega
      have := fun z => q (hkey.mpr z)
      rw [if_pos ((sub_le (by omega) (by omega)).mpr (by omega))]
      refine ⟨O.take (k + 1) ++ j :: O.drop (k + 1), gwI μ 14 (k + 1) (nI j), ?_, hz.w (by omega), ins_finc hk h1 h2, ins_pw hpw hlo h3, fun x => ins_mem⟩
      rw [nI_1, nI_1]
      congr 2
      simp; omega
theorem m_laysLenders {s : Nat} (h : BW b u n a r p t Q B) : ∃ M u', ordL b n s M ∧ mX10_laysLenders [.ref 0, .int (nI s)] u = some (none, u') ∧ lz u u' ∧ u'.1 0 25 = nI (gr b (oC b (owL b s n)) M).1.length ∧ arr u' 13 (gr b (oC b (owL b s n)) M).1 := by
  have hn := h.A.n60
  have outer : ∀ k j, j + k = n → ∀ (O : List Nat) (μ : gMem), lz u μ → arr μ 14 O → O.Pairwise (fun x y => kl b x < kl b y) → (∀ x, x ∈ O ↔ x ∈ rdL b s j) → ∃ M μ', rX10_laysLenders_7 (nI s) (nI O.length) (oC b (owL b s j)) (nI j) μ = rX10_laysLenders_142 (nI M.length) (oC b (owL b s n)) 0 (gwI μ' 0 25 0) ∧ lz u μ' ∧ arr μ' 14 M ∧ ordL b n s M := by
    intro k
    induction k with
    | zero =>
      intro j hj O μ hz ha hpw hm
      rw [show j = n by omega] at *
      refine ⟨O, μ, ?_, hz, ha, hpw, hm⟩
      rw [eX10_laysLenders_7, (h.qs hz.qs).e.h.n, h.A.1, if_pos (nI_le (Nat.le_refl _) (by omega))]
    | succ k ih =>
      intro j hj O μ hz ha hpw hm
      have hw := h.qs hz.qs
      have hjn : j < n := by omega
      have hJ := (h.J j hjn).2.2.2.2.2.2.1
      have hp := h.A.p32
      have hOl : O.length ≤ (rdL b s j).length := nodup_le (hpw.imp (fun {x y} hxy z => by subst z; omega)) (fun x hx => (hm x).mp hx)
      have hlen := owL_rdL (b := b) (s := s) j
      have skip : rd b s j = false → ox b s j = false → ∃ M μ', rX10_laysLenders_7 (nI s) (nI O.length) (oC b (owL b s j)) (nI (j + 1)) μ = rX10_laysLenders_142 (nI M.length) (oC b (owL b s n)) 0 (gwI μ' 0 25 0) ∧ lz u μ' ∧ arr μ' 14 M ∧ ordL b n s M := fun q1 q2 => by
        have eW : owL b s (j + 1) = owL b s j := by unfold owL; rw [fr_s, q2]; simp
        have eR : rdL b s (j + 1) = rdL b s j := by unfold rdL; rw [fr_s, q1]; simp
        have := ih (j + 1) (by omega) O μ hz ha hpw (by rw [eR]; exact hm)
        rw [eW] at this
        exact this
      rw [eX10_laysLenders_7, hw.e.h.n, h.A.1, if_neg (nI_ge (by omega) (by omega)), m_isPlaced hw.e hjn hn, g_ci_some, nI_1]
      by_cases q : b.1 9 j = 2
      · rw [if_pos q, if_neg (by decide), at_12 (by omega), g_ci_some, (hw.e.j hjn).f12, hJ.1]
        by_cases q2 : b.1 17 j = 0
        · have q2' : jn b 17 j = 0 := by unfold jn; rw [q2]; rfl
          rw [if_pos (by rw [q2']; decide), m_slotOf hw.e hjn hn, g_ci_some]
          by_cases q3 : b.1 12 j = nI s
          · have e1 : rd b s j = false := by unfold rd; simp [q3]
            have e2 : ox b s j = true := by unfold ox; simp [q, q2, q3]
            have eW : owL b s (j + 1) = owL b s j ++ [j] := by unfold owL; rw [fr_s, if_pos e2]
            have eR : rdL b s (j + 1) = rdL b s j := by unfold rdL; rw [fr_s, e1]; simp
            rw [if_pos q3, m_cellsOf hw.e hjn hn hp.2 (h.J j hjn) (ip_col (h.P.1 j hjn) q), g_ci_some]
            have := ih (j + 1) (by omega) O μ hz ha hpw (by rw [eR]; exact hm)
            rw [eW, oC_app] at this
            exact this
          · have e1 : rd b s j = true := by unfold rd; simp [q, q2, q3]
            have e2 : ox b s j = false := by unfold ox; simp [q3]
            have eW : owL b s (j + 1) = owL b s j := by unfold owL; rw [fr_s, e2]; simp
            have eR : rdL b s (j + 1) = rdL b s j ++ [j] := by unfold rdL; rw [fr_s, if_pos e1]
            rw [if_neg q3]
            obtain ⟨O', μ', w1, w2, w3, w4, w5⟩ := m_lend1 (s := s) (v3 := oC b (owL b s j)) h O.length j O μ (Nat.le_refl _) hjn (fun x hx => (rdL_m.mp ((hm x).mp hx)).1) hpw (by omega) hz (fun d hd _ => ha d hd) (fun d hd hdk => by omega) (fun d hd hdk => by omega)
            rw [w1]
            have := ih (j + 1) (by omega) O' μ' w2 w3 w4 (fun x => by rw [w5, eR, List.mem_append, hm]; simp)
            rw [eW] at this
            exact this
        · have q2' : jn b 17 j ≠ 0 := fun z => q2 (by rw [hJ.1, z]; rfl)
          rw [if_neg (show ¬ nI (jn b 17 j) ≤ 0 from nI_ge (a := 0) (b := jn b 17 j) (by omega) (by omega))]
          exact skip (by unfold rd; simp [q2]) (by unfold ox; simp [q2])
      · rw [if_neg q, if_pos rfl]
        exact skip (by unfold rd; simp [q]) (by unfold ox; simp [q])
  obtain ⟨M, μ, g1, g2, g3, g4⟩ := outer n 0 (by omega) [] u lz.rf (fun i hi => absurd hi (by simp)) List.Pairwise.nil (fun x => by simp [rdL])
  have hM : M.length ≤ n := by
    have := nodup_le (L := M) (M := rdL b s n) (g4.1.imp (fun {x y} hxy z => by subst z; omega)) (fun x hx => (g4.2 x).mp hx)
    have := owL_rdL (b := b) (s := s) n
    omega
  have second : ∀ k i, i + k = M.length → ∀ (μ : gMem), lz u μ → arr μ 14 M → μ.1 0 25 = nI (gr b (oC b (owL b s n)) (M.take i)).1.length → arr μ 13 (gr b (oC b (owL b s n)) (M.take i)).1 → ∃ μ', rX10_laysLenders_142 (nI M.length) (gr b (oC b (owL b s n)) (M.take i)).2 (nI i) μ = some (none, μ') ∧ lz u μ' ∧ μ'.1 0 25 = nI (gr b (oC b (owL b s n)) M).1.length ∧ arr μ' 13 (gr b (oC b (owL b s n)) M).1 := by
    intro k
    induction k with
    | zero =>
      intro i hi μ hz ha h25 h13
      have : i = M.length := by omega
      subst this
      rw [List.take_length] at *
      exact ⟨μ, by rw [eX10_laysLenders_142, if_pos (nI_le (Nat.le_refl _) (by omega))], hz, h25, h13⟩
    | succ k ih =>
      intro i hi μ hz ha h25 h13
      have hw := h.qs hz.qs
      have hp := h.A.p32
      have hiM : i < M.length := by omega
      obtain ⟨hjn, hj2, -, -⟩ := rdL_m.mp ((g4.2 _).mp (List.getElem_mem hiM))
      have hts := List.take_succ_eq_append_getElem hiM
      have hga := gr_app (b := b) (c := oC b (owL b s n)) (O := M.take i) (x := M[i])
      have hgl := gr_len (b := b) (c := oC b (owL b s n)) (O := M.take i)
      have hgl2 : (M.take i).length ≤ i := List.length_take_le i M
      rw [eX10_laysLenders_142, if_neg (nI_ge (by omega) (by omega)), gin (show i < 60 by omega) (by omega), if_pos rfl, tn (show i < 2147483648 by omega), ha i hiM, m_cellsOf hw.e hjn hn hp.2 (h.J _ hjn) (ip_col (h.P.1 _ hjn) hj2), g_ci_some, and_cm, nI_1]
      by_cases z : ce b M[i] &&& (gr b (oC b (owL b s n)) (M.take i)).2 = 0
      · have hg2 : gr b (oC b (owL b s n)) (M.take (i + 1)) = ((gr b (oC b (owL b s n)) (M.take i)).1 ++ [M[i]], (gr b (oC b (owL b s n)) (M.take i)).2 ||| ce b M[i]) := by rw [hts, hga]; unfold gs; rw [if_pos z]
        rw [if_pos z, if_pos rfl, ha i hiM, m_cellsOf hw.e hjn hn hp.2 (h.J _ hjn) (ip_col (h.P.1 _ hjn) hj2), g_ci_some, if_pos rfl, h25, gin (show (gr b (oC b (owL b s n)) (M.take i)).1.length < 60 by omega) (by omega), if_pos rfl, tn (show (gr b (oC b (owL b s n)) (M.take i)).1.length < 2147483648 by omega), ha i hiM]
        have x25 : (gwI μ 13 (gr b (oC b (owL b s n)) (M.take i)).1.length (nI M[i])).1 0 25 = nI (gr b (oC b (owL b s n)) (M.take i)).1.length := h25
        rw [x25, nI_1]
        have := ih (i + 1) (by omega) (gwI (gwI μ 13 (gr b (oC b (owL b s n)) (M.take i)).1.length (nI M[i])) 0 25 (nI ((gr b (oC b (owL b s n)) (M.take i)).1.length + 1))) ((hz.w (by omega)).w (by omega)) (arr_o (arr_o ha (by omega)) (by omega)) (by rw [hg2, List.length_append]; rfl) (by rw [hg2]; exact arr_o (arr_app h13) (by omega))
        rw [hg2] at this
        exact this
      · have hg2 : gr b (oC b (owL b s n)) (M.take (i + 1)) = gr b (oC b (owL b s n)) (M.take i) := by rw [hts, hga]; unfold gs; rw [if_neg z]
        rw [if_neg z]
        have := ih (i + 1) (by omega) μ hz ha (by rw [hg2]; exact h25) (by rw [hg2]; exact h13)
        rw [hg2] at this
        exact this
  obtain ⟨μ', k1, k2, k3, k4⟩ := second M.length 0 (by omega) (gwI μ 0 25 0) (g2.w (by omega)) (arr_o g3 (by omega)) (by simp [gr, gI_r]; rfl) (fun i hi => absurd hi (by simp [gr]))
  refine ⟨M, μ', g4, ?_, k2, k3, k4⟩
  rw [eX10_laysLenders, show rX10_laysLenders_7 (nI s) 0 0 0 u = _ from g1]
  exact k1
end LEND2
