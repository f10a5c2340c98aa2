/-! who runs: the class's side -/
section LEND
variable {b u : gMem} {n a r p t B : Nat} {Q : List Nat}
def rd (b : gMem) (s j : Nat) : Bool := decide (b.1 9 j = 2) && (decide (b.1 17 j = 0) && !decide (b.1 12 j = nI s))
def ox (b : gMem) (s j : Nat) : Bool := decide (b.1 9 j = 2) && (decide (b.1 17 j = 0) && decide (b.1 12 j = nI s))
def rdL (b : gMem) (s j : Nat) : List Nat := (List.range j).filter (rd b s)
def owL (b : gMem) (s j : Nat) : List Nat := (List.range j).filter (ox b s)
theorem fr_s {f : Nat → Bool} {j : Nat} : (List.range (j + 1)).filter f = (List.range j).filter f ++ (if f j then [j] else []) := by
  rw [List.range_succ, List.filter_append]
  congr 1
  by_cases q : f j = true <;> simp [q]
theorem fr_two {f g : Nat → Bool} (hd : ∀ i, f i = true → g i = false) : ∀ j, ((List.range j).filter f).length + ((List.range j).filter g).length ≤ j := by
  intro j
  induction j with
  | zero => simp
  | succ j ih =>
    rw [fr_s, fr_s, List.length_append, List.length_append]
    by_cases q : f j = true
    · have := hd j q
      rw [q, this]; simp; omega
    · rw [if_neg q]
      by_cases z : g j = true
      · rw [z]; simp; omega
      · rw [if_neg z]; simp; omega
theorem rd_ox {s : Nat} : ∀ i, ox b s i = true → rd b s i = false := fun i h => by
  unfold ox at h; unfold rd
  simp at h ⊢
  intro _ _
  exact h.2.2
theorem owL_rdL {s : Nat} (j : Nat) : (owL b s j).length + (rdL b s j).length ≤ j := fr_two rd_ox j
def oC (b : gMem) (L : List Nat) : Int32 := L.foldl (fun c x => c ||| ce b x) 0
theorem oC_app {L : List Nat} {x : Nat} : oC b (L ++ [x]) = oC b L ||| ce b x := by unfold oC; rw [List.foldl_append]; rfl
theorem bs.wx {μ : gMem} {c i : Nat} {x : Int32} (h : bs b μ) (hc : 53 ≤ c ∨ c = 28) : bs b (gwI μ c i x) := ⟨h.1, fun d k hd => by rw [gI_r, if_neg (by omega)]; exact h.2 d k hd⟩
theorem cells_bs {μ : gMem} {j : Nat} (h : BW b u n a r p t Q B) (hb : bs b μ) (hj : j < n) (h2 : b.1 9 j = 2) : mX4_cells [.ref 3, .int (nI j)] μ = some (some (.int (ce b j)), μ) := by
  have hw := h.bs hb
  have hn := h.A.n60
  have hp := h.A.p32
  have h2' : μ.1 9 j = 2 := (hb.c 9 j rfl).trans h2
  have e : ce μ j = ce b j := by unfold ce; rw [hb.j 13 j rfl, hb.j 5 j rfl]
  rw [← e]
  exact c_cells (by omega) hp.2 (hw.J j hj) (ip_col (hw.P.1 j hj) h2') (ip_c32 hp.2 (hw.J j hj) (hw.P.1 j hj) h2')
def chS (b : gMem) (s j : Nat) (μ : gMem) : Prop := bs b μ ∧ μ.1 53 2 = nI (rdL b s j).length ∧ μ.1 53 3 = nI (owL b s j).length ∧ μ.1 53 4 = 0 ∧ μ.1 53 5 = oC b (owL b s j) ∧ arr μ 54 (owL b s j) ∧ arr μ 55 (rdL b s j)
theorem arr_o {μ : gMem} {c c' i : Nat} {x : Int32} {L : List Nat} (h : arr μ c L) (hc : c' ≠ c) : arr (gwI μ c' i x) c L := fun k hk => by
  rw [gI_r, if_neg (fun z => hc z.1.symm)]; exact h k hk
theorem c_ch1 {s : Nat} {le : Int32} (h : BW b u n a r p t Q B) : ∀ k j, j + k = n → ∀ μ, chS b s j μ → ∃ μ', rX3_choose_12 (nI s) le (nI j) μ = rX3_choose_12 (nI s) le (nI n) μ' ∧ chS b s n μ' := by
  have hn := h.A.n60
  intro k
  induction k with
  | zero => intro j hj μ hc; rw [show j = n by omega] at *; exact ⟨μ, rfl, hc⟩
  | succ k ih =>
    intro j hj μ hc
    obtain ⟨hb, h2, h3, h4, h5, h6, h7⟩ := hc
    have hlen := owL_rdL (b := b) (s := s) j
    have hJ := (h.J j (by omega)).2.2.2.2.2.2.1
    have skip : rd b s j = false → ox b s j = false → chS b s (j + 1) μ := fun q1 q2 => by
      unfold chS rdL owL at *
      rw [fr_s, fr_s, q1, q2]
      simpa using ⟨hb, h2, h3, h4, h5, h6, h7⟩
    rw [eX3_choose_12, (hb.c 3 2 rfl).trans h.A.1, if_neg (nI_ge (by omega) (by omega)), c_isPlaced (h.bs hb).A (show j < n by omega), g_ci_some, hb.c 9 j rfl, nI_1]
    by_cases q : b.1 9 j = 2
    · rw [if_pos q, if_neg (by decide), gin (show j < 60 by omega) (by omega), if_pos rfl, tn (show j < 2147483648 by omega), hb.c 17 j rfl]
      by_cases q2 : b.1 17 j = 0
      · rw [if_pos q2, eX3_sort, gin (show j < 60 by omega) (by omega), if_pos rfl, tn (show j < 2147483648 by omega), hb.c 12 j rfl]
        by_cases q3 : b.1 12 j = nI s
        · have e1 : rd b s j = false := by unfold rd; simp [q3]
          have e2 : ox b s j = true := by unfold ox; simp [q, q2, q3]
          have eW : owL b s (j + 1) = owL b s j ++ [j] := by unfold owL; rw [fr_s, if_pos e2]
          have eR : rdL b s (j + 1) = rdL b s j := by unfold rdL; rw [fr_s, e1]; simp
          rw [if_pos q3, h3, gin (show (owL b s j).length < 60 by omega) (by omega), if_pos rfl, tn (show (owL b s j).length < 2147483648 by omega)]
          have x3 : (gwI μ 54 (owL b s j).length (nI j)).1 53 3 = nI (owL b s j).length := h3
          rw [x3, nI_1]
          have hb1 : bs b (gwI (gwI μ 54 (owL b s j).length (nI j)) 53 3 (nI ((owL b s j).length + 1))) := (hb.wx (by omega)).wx (by omega)
          have x5 : (gwI (gwI μ 54 (owL b s j).length (nI j)) 53 3 (nI ((owL b s j).length + 1))).1 53 5 = oC b (owL b s j) := h5
          rw [cells_bs h hb1 (by omega) q, g_ci_some, g_cv_some, x5]
          refine ih (j + 1) (by omega) _ ⟨hb1.wx (by omega), ?_, ?_, ?_, ?_, ?_, ?_⟩
          · rw [eR]; exact h2
          · rw [eW, List.length_append]; rfl
          · exact h4
          · rw [eW, oC_app]; rfl
          · rw [eW]; exact arr_o (arr_o (arr_app h6) (by omega)) (by omega)
          · rw [eR]; exact arr_o (arr_o (arr_o h7 (by omega)) (by omega)) (by omega)
        · have e1 : rd b s j = true := by unfold rd; simp [q, q2, q3]
          have e2 : ox b s j = false := by unfold ox; simp [q3]
          have eW : owL b s (j + 1) = owL b s j := by unfold owL; rw [fr_s, e2]; simp
          have eR : rdL b s (j + 1) = rdL b s j ++ [j] := by unfold rdL; rw [fr_s, if_pos e1]
          rw [if_neg q3, h2, gin (show (rdL b s j).length < 60 by omega) (by omega), if_pos rfl, tn (show (rdL b s j).length < 2147483648 by omega)]
          have x2 : (gwI μ 55 (rdL b s j).length (nI j)).1 53 2 = nI (rdL b s j).length := h2
          rw [x2, nI_1, g_cv_some]
          refine ih (j + 1) (by omega) _ ⟨(hb.wx (by omega)).wx (by omega), ?_, ?_, ?_, ?_, ?_, ?_⟩
          · rw [eR, List.length_append]; rfl
          · rw [eW]; exact h3
          · exact h4
          · rw [eW]; exact h5
          · rw [eW]; exact arr_o (arr_o h6 (by omega)) (by omega)
          · rw [eR]; exact arr_o (arr_app h7) (by omega)
      · rw [if_neg q2]
        exact ih (j + 1) (by omega) μ (skip (by unfold rd; simp [q2]) (by unfold ox; simp [q2]))
    · rw [if_neg q, if_pos rfl]
      exact ih (j + 1) (by omega) μ (skip (by unfold rd; simp [q]) (by unfold ox; simp [q]))
/-- one more who would run beside the others -/
def gs (b : gMem) (st : List Nat × Int32) (x : Nat) : List Nat × Int32 := if ce b x &&& st.2 = 0 then (st.1 ++ [x], st.2 ||| ce b x) else st
def gr (b : gMem) (c : Int32) (O : List Nat) : List Nat × Int32 := O.foldl (gs b) ([], c)
theorem gr_app {c : Int32} {O : List Nat} {x : Nat} : gr b c (O ++ [x]) = gs b (gr b c O) x := by unfold gr; rw [List.foldl_append]; rfl
theorem gr_len0 : ∀ (O : List Nat) (st : List Nat × Int32), (O.foldl (gs b) st).1.length ≤ st.1.length + O.length
  | [], st => by simp
  | x :: O, st => by
    have h1 := gr_len0 O (gs b st x)
    have h2 : (gs b st x).1.length ≤ st.1.length + 1 := by unfold gs; split <;> simp
    simp only [List.foldl_cons, List.length_cons]
    omega
theorem gr_len {c : Int32} {O : List Nat} : (gr b c O).1.length ≤ O.length := by
  have := gr_len0 (b := b) O ([], c)
  simpa [gr] using this
def kl (b : gMem) (x : Nat) : Nat := rk b (jn b 7 x) * 64 + x
def ldS (b : gMem) (n s : Nat) (O : List Nat) (μ : gMem) : Prop := bs b μ ∧ μ.1 53 2 = nI (rdL b s n).length ∧ μ.1 53 3 = nI (owL b s n).length ∧ μ.1 53 4 = nI (gr b (oC b (owL b s n)) O).1.length ∧ μ.1 53 5 = (gr b (oC b (owL b s n)) O).2 ∧ arr μ 54 (owL b s n ++ (gr b (oC b (owL b s n)) O).1) ∧ arr μ 55 (rdL b s n) ∧ ∀ v, v < 6 → μ.1 28 v = nI (rk b v)
theorem rdL_m {s x : Nat} : x ∈ rdL b s n ↔ x < n ∧ b.1 9 x = 2 ∧ b.1 17 x = 0 ∧ b.1 12 x ≠ nI s := by
  unfold rdL rd; rw [List.mem_filter, List.mem_range]; simp
theorem owL_m {s x : Nat} : x ∈ owL b s n ↔ x < n ∧ b.1 9 x = 2 ∧ b.1 17 x = 0 ∧ b.1 12 x = nI s := by
  unfold owL ox; rw [List.mem_filter, List.mem_range]; simp
theorem rdL_lt {s i k : Nat} (hik : i < k) (hk : k < (rdL b s n).length) : (rdL b s n)[i] < (rdL b s n)[k] := by
  have : (rdL b s n).Pairwise (· < ·) := List.Pairwise.filter _ List.pairwise_lt_range
  exact List.pairwise_iff_getElem.mp this i k (by omega) hk hik
theorem c_lend {s : Nat} (h : BW b u n a r p t Q B) {d : Nat} (hd : d < 6) : ∀ k i, i + k = (rdL b s n).length → ∀ (O : List Nat) (μ : gMem), ldS b n s O μ → O.Pairwise (fun x y => kl b x < kl b y) → (∀ x, x ∈ O ↔ x ∈ rdL b s n ∧ (rk b (jn b 7 x) < d ∨ (rk b (jn b 7 x) = d ∧ x ∈ (rdL b s n).take i))) → ∃ O' μ', rX3_lendTo_3 (nI d) (nI i) μ = some (none, μ') ∧ ldS b n s O' μ' ∧ O'.Pairwise (fun x y => kl b x < kl b y) ∧ (∀ x, x ∈ O' ↔ x ∈ rdL b s n ∧ rk b (jn b 7 x) < d + 1) := by
  have hn := h.A.n60
  have hlen := owL_rdL (b := b) (s := s) n
  intro k
  induction k with
  | zero =>
    intro i hi O μ hL hpw hm
    have : i = (rdL b s n).length := by omega
    subst this
    refine ⟨O, μ, by rw [eX3_lendTo_3, hL.2.1, if_pos (nI_le (Nat.le_refl _) (by omega))], hL, hpw, fun x => ?_⟩
    rw [hm, List.take_length]
    constructor
    · rintro ⟨z1, z2⟩; exact ⟨z1, by omega⟩
    · rintro ⟨z1, z2⟩
      refine ⟨z1, ?_⟩
      rcases (show rk b (jn b 7 x) < d ∨ rk b (jn b 7 x) = d by omega) with z | z
      · exact Or.inl z
      · exact Or.inr ⟨z, z1⟩
  | succ k ih =>
    intro i hi O μ hL hpw hm
    obtain ⟨hb, l2, l3, l4, l5, l6, l7, l8⟩ := hL
    have hiR : i < (rdL b s n).length := by omega
    have hmem : (rdL b s n)[i] ∈ rdL b s n := List.getElem_mem hiR
    obtain ⟨hjn, hj2, hj17, hj12⟩ := rdL_m.mp hmem
    have hus := (h.J _ hjn).2.1
    have hr6 : rk b (jn b 7 (rdL b s n)[i]) ≤ 6 := cB_le _ 6
    have htk : ∀ x, x ∈ (rdL b s n).take (i + 1) ↔ x ∈ (rdL b s n).take i ∨ x = (rdL b s n)[i] := fun x => by
      rw [List.take_succ_eq_append_getElem hiR, List.mem_append, List.mem_singleton]
    rw [eX3_lendTo_3, l2, if_neg (nI_ge (by omega) (by omega)), gin (show i < 60 by omega) (by omega), if_pos rfl, tn (show i < 2147483648 by omega), l7 i hiR, gin (show (rdL b s n)[i] < 60 by omega) (by omega), if_pos rfl, tn (show (rdL b s n)[i] < 2147483648 by omega), hb.c 7 _ rfl, hus.1, gin hus.2 (by omega), if_pos rfl, tn (show jn b 7 (rdL b s n)[i] < 2147483648 by omega), l8 _ hus.2, nI_1]
    by_cases q : rk b (jn b 7 (rdL b s n)[i]) = d
    · rw [if_pos (congrArg nI q), if_neg (by decide), cells_bs h hb hjn hj2, g_ci_some, l5]
      have hpw2 : (O ++ [(rdL b s n)[i]]).Pairwise (fun x y => kl b x < kl b y) := pw_app hpw (fun y hy => by
        obtain ⟨z1, z2⟩ := (hm y).mp hy
        have hy60 := (rdL_m.mp z1).1
        unfold kl
        rcases z2 with z2 | z2
        · omega
        · obtain ⟨e, he, hz⟩ := List.mem_iff_getElem.mp z2.2
          rw [List.getElem_take] at hz
          have he2 : e < i := by simp at he; omega
          have := rdL_lt he2 hiR
          rw [hz] at this
          omega)
      have hm2 : ∀ x, x ∈ O ++ [(rdL b s n)[i]] ↔ x ∈ rdL b s n ∧ (rk b (jn b 7 x) < d ∨ (rk b (jn b 7 x) = d ∧ x ∈ (rdL b s n).take (i + 1))) := fun x => by
        rw [List.mem_append, hm, htk]
        constructor
        · rintro (⟨z1, z2⟩ | z)
          · exact ⟨z1, z2.imp id (fun y => ⟨y.1, Or.inl y.2⟩)⟩
          · simp at z; subst z; exact ⟨hmem, Or.inr ⟨q, Or.inr rfl⟩⟩
        · rintro ⟨z1, z2 | ⟨z2, z3 | z3⟩⟩
          · exact Or.inl ⟨z1, Or.inl z2⟩
          · exact Or.inl ⟨z1, Or.inr ⟨z2, z3⟩⟩
          · exact Or.inr (by simp [z3])
      have hOl : (O ++ [(rdL b s n)[i]]).length ≤ (rdL b s n).length := nodup_le (hpw2.imp (fun {x y} hxy z => by subst z; omega)) (fun x hx => ((hm2 x).mp hx).1)
      rw [List.length_append] at hOl
      simp at hOl
      have hgl := gr_len (b := b) (c := oC b (owL b s n)) (O := O)
      have hga := gr_app (b := b) (c := oC b (owL b s n)) (O := O) (x := (rdL b s n)[i])
      by_cases z : ce b (rdL b s n)[i] &&& (gr b (oC b (owL b s n)) O).2 = 0
      · have hg2 : gr b (oC b (owL b s n)) (O ++ [(rdL b s n)[i]]) = ((gr b (oC b (owL b s n)) O).1 ++ [(rdL b s n)[i]], (gr b (oC b (owL b s n)) O).2 ||| ce b (rdL b s n)[i]) := by rw [hga]; unfold gs; rw [if_pos z]
        rw [if_pos z, l3, l4, nad, gin (show (owL b s n).length + (gr b (oC b (owL b s n)) O).1.length < 60 by omega) (by omega), if_pos rfl, tn (show (owL b s n).length + (gr b (oC b (owL b s n)) O).1.length < 2147483648 by omega)]
        have x4 : (gwI μ 54 ((owL b s n).length + (gr b (oC b (owL b s n)) O).1.length) (nI (rdL b s n)[i])).1 53 4 = nI (gr b (oC b (owL b s n)) O).1.length := l4
        rw [x4, nI_1]
        have hb1 : bs b (gwI (gwI μ 54 ((owL b s n).length + (gr b (oC b (owL b s n)) O).1.length) (nI (rdL b s n)[i])) 53 4 (nI ((gr b (oC b (owL b s n)) O).1.length + 1))) := (hb.wx (by omega)).wx (by omega)
        have x5 : (gwI (gwI μ 54 ((owL b s n).length + (gr b (oC b (owL b s n)) O).1.length) (nI (rdL b s n)[i])) 53 4 (nI ((gr b (oC b (owL b s n)) O).1.length + 1))).1 53 5 = (gr b (oC b (owL b s n)) O).2 := l5
        rw [cells_bs h hb1 hjn hj2, g_ci_some, x5]
        refine ih (i + 1) (by omega) (O ++ [(rdL b s n)[i]]) _ ⟨hb1.wx (by omega), l2, l3, ?_, ?_, ?_, ?_, ?_⟩ hpw2 hm2
        · rw [hg2, List.length_append]; rfl
        · rw [hg2]; rfl
        · rw [hg2, ← List.append_assoc]
          have := arr_app (x := (rdL b s n)[i]) l6
          rw [List.length_append] at this
          exact arr_o (arr_o this (by omega)) (by omega)
        · exact arr_o (arr_o (arr_o l7 (by omega)) (by omega)) (by omega)
        · intro v hv; exact l8 v hv
      · have hg2 : gr b (oC b (owL b s n)) (O ++ [(rdL b s n)[i]]) = gr b (oC b (owL b s n)) O := by rw [hga]; unfold gs; rw [if_neg z]
        rw [if_neg z]
        exact ih (i + 1) (by omega) (O ++ [(rdL b s n)[i]]) μ ⟨hb, l2, l3, by rw [hg2]; exact l4, by rw [hg2]; exact l5, by rw [hg2]; exact l6, l7, l8⟩ hpw2 hm2
    · rw [if_neg (fun z => q (by rwa [neq (by omega) (by omega)] at z)), if_pos rfl]
      refine ih (i + 1) (by omega) O μ ⟨hb, l2, l3, l4, l5, l6, l7, l8⟩ hpw (fun x => ?_)
      rw [hm, htk]
      constructor
      · rintro ⟨z1, z2⟩; exact ⟨z1, z2.imp id (fun y => ⟨y.1, Or.inl y.2⟩)⟩
      · rintro ⟨z1, z2 | ⟨z2, z3 | z3⟩⟩
        · exact ⟨z1, Or.inl z2⟩
        · exact ⟨z1, Or.inr ⟨z2, z3⟩⟩
        · rw [z3] at z2; exact absurd z2 q
end LEND
