section TURN2
variable {b u b' u' : gMem} {n a r p t B : Nat} {Q : List Nat}
theorem lp_sF {f : Nat → Nat} (k : Nat) : lp (fun j (acc : Int32) => acc + nI (f j)) k 0 0 = nI (sF f k) := by
  induction k with
  | zero => rfl
  | succ k ih => rw [lp_succ, ih, Nat.zero_add, nad]; rfl
theorem sF_ge {f : Nat → Nat} {j : Nat} : ∀ {k : Nat}, j < k → f j ≤ sF f k
  | 0, h => absurd h (by omega)
  | k + 1, h => by
    show f j ≤ sF f k + f k
    by_cases q : j = k
    · subst q; omega
    · have := sF_ge (f := f) (j := j) (k := k) (by omega); omega
def wt (b : gMem) (s j : Nat) : Nat := if b.1 12 j = nI s then jn b 26 (jn b 7 j) else 0
theorem c_weightOf {s : Nat} (h : BW b u n a r p t Q B) : mX2_weightOf [.ref 0, .int (nI s)] b = some (some (.int (nI (sF (wt b s) n))), b) := by
  have hn := h.A.n60
  rw [eX2_weightOf, for_up0 (fun (acc : Int32) i => rX2_weightOf_4 (nI s) acc i b) (fun j acc => acc + nI (wt b s j)) n (fun j acc hj => by
    show rX2_weightOf_4 (nI s) acc (nI j) b = rX2_weightOf_4 (nI s) (acc + nI (wt b s j)) (nI (j + 1)) b
    have hus := (h.J j hj).2.1
    rw [eX2_weightOf_4, h.A.1, if_neg (nI_ge hj (by omega)), gin (by omega) (by omega), if_pos rfl, if_pos rfl, tn (by omega), hus.1, gin hus.2 (by omega), if_pos rfl, tn (by omega), (h.U.1 _ hus.2).1, nI_1]
    unfold wt
    by_cases q : b.1 12 j = nI s
    · rw [if_pos q, if_pos q]
    · rw [if_neg q, if_neg q, show nI 0 = 0 from rfl, Int32.add_zero]) 0, lp_sF]
  rw [eX2_weightOf_4, h.A.1, if_pos (nI_le (Nat.le_refl _) (by omega))]
theorem m_weightOf {s : Nat} (hs : s < 8) (h : BW b u n a r p t Q B) : mX10_weightOf [.ref 0, .int (nI s)] u = some (some (.int (nI (sF (wt b s) n))), u) := by
  have hn := h.A.n60
  rw [eX10_weightOf, for_up0 (fun (acc : Int32) i => rX10_weightOf_4 (nI s) acc i u) (fun j acc => acc + nI (wt b s j)) n (fun j acc hj => by
    show rX10_weightOf_4 (nI s) acc (nI j) u = rX10_weightOf_4 (nI s) (acc + nI (wt b s j)) (nI (j + 1)) u
    have hus := (h.J j hj).2.1
    rw [eX10_weightOf_4, h.e.h.n, h.A.1, if_neg (nI_ge hj (by omega)), m_isAt h.e hj hn, g_ci_some, nI_1]
    unfold wt
    by_cases q : b.1 12 j = nI s
    · rw [if_pos (show b.1 9 j = 2 ∧ b.1 12 j = nI s from ⟨ip_slot (h.P.1 j hj) (by omega) q, q⟩), if_neg (by decide), at_2 (by omega), g_ci_some, (h.e.j hj).f2, hus.1, m_shareOf h.e hus.2, g_ci_some, (h.U.1 _ hus.2).1, if_pos q]
    · rw [if_neg (show ¬ (b.1 9 j = 2 ∧ b.1 12 j = nI s) from fun z => q z.2), if_pos rfl, if_neg q, show nI 0 = 0 from rfl, Int32.add_zero]) 0, lp_sF]
  rw [eX10_weightOf_4, h.e.h.n, h.A.1, if_pos (nI_le (Nat.le_refl _) (by omega))]
theorem wt_pos {s : Nat} (h : BW b u n a r p t Q B) (hs : s < r) (h0 : b.1 32 s ≠ 0) : 1 ≤ sF (wt b s) n ∧ sF (wt b s) n ≤ 540 := by
  have hn := h.A.n60
  have hle : ∀ j, j < n → wt b s j ≤ 9 := fun j hj => by
    unfold wt; split
    · exact (h.U.1 _ (h.J j hj).2.1.2).2.2
    · omega
  constructor
  · refine Classical.byContradiction (fun q => h0 ((emp_iff h hs).mpr (fun j hj z => q ?_)))
    have h1 := sF_ge (f := wt b s) hj
    unfold wt at h1
    rw [if_pos z] at h1
    have := (h.U.1 _ (h.J j hj).2.1.2).2.1
    unfold wt
    omega
  · have := sF_le (f := wt b s) (B := 9) hle
    omega
theorem max_e {x : Nat} (hx : 1 ≤ x) (hx2 : x < 2147483648) : mJ9_max_7cf53 [.int 1, .int (nI x)] u = some (some (.int (nI x)), u) := by
  rw [eJ9_max_7cf53]
  by_cases q : x = 1
  · subst q; rw [if_neg (by decide)]; rfl
  · rw [if_pos (show (1 : Int32) < nI x from nI_lt (a := 1) (b := x) (by omega) hx2)]
theorem next_both (h : BW b u n a r p t Q B) : ∃ s : Option Nat, (∀ x, s = some x → x < r) ∧ (s = none ↔ r = 0) ∧ mX7_next [.ref 29] b = some (some (.int (s.elim (-1) nI)), b) ∧ mX10_turnOf [.ref 0] u = some (some (.int (s.elim (-1) nI)), u) := by
  have hr := h.A.2.2.2.2.1
  have hu : u.1 1 13 = nI r := h.e.h.r.trans h.A.2.2.1
  by_cases h0 : r = 0
  · subst h0
    refine ⟨none, fun x hx => absurd hx (by simp), by simp, ?_, ?_⟩
    · rw [eX7_next, eX7_next_4, h.A.2.2.1, if_pos (by decide)]; rfl
    · rw [eX10_turnOf, hu, if_pos (show nI 0 = 0 from rfl), eX10_turnOf_18, hu, if_pos (by decide)]; rfl
  · have key : ∀ k s v, s + k = r → 1 ≤ s → v < r → ∃ v', v' < r ∧ rX7_next_4 (nI v) (nI s) b = some (some (.int (nI v')), b) ∧ rX10_turnOf_18 (nI v) (nI s) u = some (some (.int (nI v')), u) := by
      intro k
      induction k with
      | zero =>
        intro s v hs h1 hv
        rw [show s = r by omega]
        refine ⟨v, hv, ?_, ?_⟩
        · rw [eX7_next_4, h.A.2.2.1, if_pos (nI_le (Nat.le_refl _) (by omega))]
        · rw [eX10_turnOf_18, hu, if_pos (nI_le (Nat.le_refl _) (by omega))]
      | succ k ih =>
        intro s v hs h1 hv
        rw [eX7_next_4, h.A.2.2.1, if_neg (nI_ge (by omega) (by omega)), if_neg (nm1 (by omega)), gin (show s < 8 by omega) (by omega), gin (show v < 8 by omega) (by omega), if_pos rfl, if_pos rfl, tn (show s < 2147483648 by omega), tn (show v < 2147483648 by omega), eX10_turnOf_18, hu, if_neg (nI_ge (by omega) (by omega)), gin (show s < 9 by omega) (by omega), gin (show v < 9 by omega) (by omega), if_pos rfl, if_pos rfl, tn (show s < 2147483648 by omega), tn (show v < 2147483648 by omega), (h.e.2.2.2.1 s (by omega)).2, (h.e.2.2.2.1 v hv).2, nI_1]
        by_cases q : 0 ≤ lg_cmp (b.2 30 s) (b.2 30 v)
        · rw [if_pos q, if_pos q]; exact ih (s + 1) v (by omega) (by omega) hv
        · rw [if_neg q, if_neg q]; exact ih (s + 1) s (by omega) (by omega) (by omega)
    obtain ⟨v', k1, k2, k3⟩ := key (r - 1) 1 0 (by omega) (by omega) (by omega)
    refine ⟨some v', fun x hx => by simp at hx; omega, by simp [h0], ?_, ?_⟩
    · rw [eX7_next, eX7_next_4, h.A.2.2.1, if_neg (show ¬ nI r ≤ 0 from nI_ge (a := 0) (b := r) (by omega) (by omega)), if_pos rfl]
      exact k2
    · rw [eX10_turnOf, hu, if_neg (nI_ne0 (by omega) (by omega))]
      exact k3
theorem tp_rel {s : Nat} {v : Int64} {x : Int32} (h : BW b u n a r p t Q B) (hs : s < r) : BW (gwI (gwL b 30 s v) 31 s x) (wT (gwL u 3 s v) s x) n a r p t Q B := by
  have hn := h.A.n60
  have hr := h.A.2.2.2.2.1
  have hag : ∀ S : List Nat, 31 ∉ S → ag S b (gwI (gwL b 30 s v) 31 s x) := fun S hS => ag.rf.wl.w hS
  have hc : ∀ c i, c ≠ 31 → (gwI (gwL b 30 s v) 31 s x).1 c i = b.1 c i := fun c i hc => by rw [gI_r, if_neg (fun z => hc z.1), gL_i]
  have hU : ∀ i, (i < 1482 ∨ 1490 ≤ i) → (wT (gwL u 3 s v) s x).1 1 i = u.1 1 i := fun i hi => by unfold wT; rw [gI_r, if_neg (by omega), gL_i]
  refine mk_rel h (Nat.le_refl _) h.B.2.2.2.2 (fun c i hc' => hc c i (by simp at hc'; omega)) (hc 3 2 (by omega)) (fun i hi => hU i (by omega)) (fun k hk => by rw [hU _ (by omega), hc 2 k (by omega)]; exact h.e.1.2.2.1 k hk) (by rw [hU _ (by omega)]; exact h.e.h.r.trans h.A.2.2.1) (by rw [hc _ _ (by omega)]; exact h.A.2.2.1) hr (h.e.2.1.fr hn (hag _ (by decide)) (fun i h1 h2 => hU i (by omega))) ?_ (h.J.fr (hag _ (by decide))) (h.P.fr (hag _ (by decide)) (hc _ _ (by omega))) (h.S.fr (hag _ (by decide))) (h.Q.fr hn (hag _ (by decide)) (hc _ _ (by omega)) (hU _ (by omega)) (fun i hi => hU _ (by omega)))
  intro y hy
  have hT := h.e.2.2.2.1 y hy
  rw [mT_wT (by omega) (by omega), mT_L, wT_l, gL_r, gI_r, gI_l, gL_r, gL_i]
  by_cases q : y = s
  · rw [if_pos q, if_pos ⟨rfl, q⟩, if_pos ⟨rfl, q⟩, if_pos ⟨rfl, q⟩]; exact ⟨rfl, rfl⟩
  · rw [if_neg q, if_neg (fun z => q z.2), if_neg (fun z => q z.2), if_neg (fun z => q z.2)]; exact hT
theorem gr_sub0 : ∀ (O : List Nat) (st : List Nat × Int32), ∃ T, (O.foldl (gs b) st).1 = st.1 ++ T ∧ T.Sublist O ∧ (O.foldl (gs b) st).2 = oCf b st.2 T
  | [], st => ⟨[], by simp, List.Sublist.slnil, rfl⟩
  | x :: O, st => by
    obtain ⟨T, h1, h2, h3⟩ := gr_sub0 O (gs b st x)
    rw [List.foldl_cons, h1, h3]
    unfold gs
    by_cases q : ce b x &&& st.2 = 0
    · rw [if_pos q]
      exact ⟨x :: T, by simp, h2.cons_cons x, rfl⟩
    · rw [if_neg q]
      exact ⟨T, rfl, h2.cons x, rfl⟩
theorem gr_sub {c : Int32} {O : List Nat} : (gr b c O).1.Sublist O ∧ (gr b c O).2 = oCf b c (gr b c O).1 := by
  obtain ⟨T, h1, h2, h3⟩ := gr_sub0 (b := b) O ([], c)
  have e : (gr b c O).1 = T := by simpa [gr] using h1
  rw [e]
  exact ⟨h2, h3⟩
theorem ce_bs {μ : gMem} (h : bs b μ) (j : Nat) : ce μ j = ce b j := by unfold ce; rw [h.j 13 j rfl, h.j 5 j rfl]
theorem ox_bs {μ : gMem} (h : bs b μ) (s : Nat) : ox μ s = ox b s := by funext j; unfold ox; rw [h.c 9 j rfl, h.c 17 j rfl, h.c 12 j rfl]
theorem owL_bs {μ : gMem} (h : bs b μ) (s j : Nat) : owL μ s j = owL b s j := by unfold owL; rw [ox_bs h]
theorem oCf_bs {μ : gMem} (h : bs b μ) (c : Int32) (L : List Nat) : oCf μ c L = oCf b c L := by
  unfold oCf
  congr 1
  funext c x
  rw [ce_bs h]
end TURN2
