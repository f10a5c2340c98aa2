section KILL3
variable {b u b' u' : gMem} {n a r p t B : Nat} {Q : List Nat}
def c0 (b : gMem) (n : Nat) : Nat := cB (fun x => decide (b.1 9 x = 0)) n
theorem im_kill {j x : Nat} {e : Int32} : im u (lgU (kiU u j e) x 4 (nI j) (-1) (-1)) := by
  refine ⟨fun c i hc => ?_, ?_, fun c i hc => rfl⟩
  · rw [lg_c (by omega)]; unfold kiU; rw [wA_c (by omega), wA_c (by omega), wA_c (by omega), wA_c (by omega)]
  · rw [lg_c (by omega)]; unfold kiU; rw [wA_c (by omega), wA_c (by omega), wA_c (by omega), wA_c (by omega)]
theorem m_kill1 {j x : Nat} {T d : Int32} (hj : j < 60) (hx : u.1 1 15 = nI x) (hx2 : x < 2147483648) : g_cv (mX10_isNowhere [.ref 0, .int (nI j), .int 4] u) (fun u1 => (g_cv (mX10_lay [.ref 0, .int (nI j), .int 15, .int ((u1.1 1 10) + 1)] u1) (fun u2 => (g_cv (mX10_writes [.ref 0, .int 4, .int (nI j), .int (-1), .int (-1)] u2) (fun u3 => rX10_kills_75 T d (nI j) ((u3.1 1 11) - 1) u3))))) = rX10_kills_75 T d (nI j) (u.1 1 11 - 1) (lgU (kiU u j (u.1 1 10 + 1)) x 4 (nI j) (-1) (-1)) := by
  have e15 : (kiU u j (u.1 1 10 + 1)).1 1 15 = nI x := (kiU_h (by omega)).trans hx
  have ek : wA (wA (wA (wA u j 4 4) j 7 0) j 8 0) j 15 (u.1 1 10 + 1) = kiU u j (u.1 1 10 + 1) := rfl
  rw [eX10_isNowhere, lay_4 hj, g_cv_some, lay_7 hj, g_cv_some, lay_8 hj, g_cv_some, g_cv_some, lay_15 hj, g_cv_some, wA_h (by omega), wA_h (by omega), wA_h (by omega), ek, m_writes e15 hx2, g_cv_some, lg_at (by omega) (by omega), kiU_h (by omega)]
theorem kill_loop {w : gMem} {job : Nat} : ∀ (Φ : Nat) (b u : gMem) (x f : Nat) (ys : List Nat) (d v B : Nat), BW (sp b w) u n a r p t Q B → cp b job x ys → x < n → x < f → f ≤ n → (∀ k, k < n → b.1 9 k = 0 → b.1 12 k = -1) → arr u 6 (pend b n x f ys).reverse → ys.length + 2 * c0 b n ≤ Φ → v + Φ ≤ 118 → B + c0 b n ≤ 1000000000 → ∃ (b' u' : gMem) (d' : Nat), rX2_killWithHeld_21 (nI job) (nI d) (nI x) (nI f) (nI v) b = some (some (.int (nI d')), b') ∧ rX10_kills_11 (nI (pend b n x f ys).length) (nI d) u = some (some (.int (nI d')), u') ∧ BW (sp b' w) u' n a r p t Q (B + c0 b n) ∧ im u u' ∧ (∀ c i, c ∉ [3, 24, 9, 20, 39, 41, 42, 43, 44, 45] → b'.1 c i = b.1 c i) ∧ b'.2 = b.2 ∧ (∀ i, b'.1 9 i = b.1 9 i ∨ (b.1 9 i = 0 ∧ b'.1 9 i = 4)) ∧ b'.1 3 2 = b.1 3 2 := by
  intro Φ
  induction Φ with
  | zero =>
    intro b u x f ys d v B h hc hx hf hfn hs ha hΦ hv h9
    have hn := h.A.n60
    have h32 : b.1 3 2 = nI n := (sp_out (b := b) (w := w) (by omega)).symm.trans h.A.1
    have hy : ys = [] := List.length_eq_zero_iff.mp (by omega)
    subst hy
    have hxj : x = job := hc
    have hr0 : rm b x (n - f) f = [] := by
      rw [List.eq_nil_iff_forall_not_mem]
      intro z hz
      obtain ⟨h1, h2, h3⟩ := (rm_m _ _ _).mp hz
      unfold hel at h3
      simp at h3
      have := cB_0 n (show c0 b n = 0 by omega) z (by omega)
      rw [h3.1] at this
      exact absurd this (by decide)
    refine ⟨b, u, d, ?_, ?_, h.mono (by omega) h9, im.rf, fun _ _ _ => rfl, rfl, fun _ => Or.inl rfl, rfl⟩
    · rw [eX2_killWithHeld_21, if_neg (show ¬ (120 : Int32) ≤ nI v from nI_ge (a := v) (b := 120) (by omega) (by omega)), eX2_nextHeldBy, c_nextHeld h32 hn (n - f) f (by omega), g_ci_some, hr0]
      show (if (-1 : Int32) = -1 then _ else _) = _
      rw [if_pos rfl, if_pos (congrArg nI hxj)]
    · show rX10_kills_11 (nI (rm b x (n - f) f).length) (nI d) u = _
      rw [hr0, eX10_kills_11, if_pos (by decide)]
  | succ Φ ih =>
    intro b u x f ys d v B h hc hx hf hfn hs ha hΦ hv h9
    have hn := h.A.n60
    have h32 : b.1 3 2 = nI n := (sp_out (b := b) (w := w) (by omega)).symm.trans h.A.1
    have e1 : rX2_killWithHeld_21 (nI job) (nI d) (nI x) (nI f) (nI v) b = (if hdI (rm b x (n - f) f) = (-1) then (if nI x = nI job then some (some (.int (nI d)), b) else rX2_killWithHeld_21 (nI job) (nI d) (b.1 8 x) (nI (x + 1)) (nI (v + 1)) b) else (g_cv (mX2_end [.ref 0, .int (hdI (rm b x (n - f) f))] b) (fun u2 => rX2_killWithHeld_21 (nI job) (nI d + 1) (hdI (rm b x (n - f) f)) (hdI (rm b x (n - f) f) + 1) (nI (v + 1)) u2))) := by
      rw [eX2_killWithHeld_21, if_neg (show ¬ (120 : Int32) ≤ nI v from nI_ge (a := v) (b := 120) (by omega) (by omega)), eX2_nextHeldBy, c_nextHeld h32 hn (n - f) f (by omega), g_ci_some, gin (show x < 60 by omega) (by omega), if_pos rfl, tn (show x < 2147483648 by omega), nI_1, nI_1]
    cases hrm : rm b x (n - f) f with
    | nil =>
      rw [e1, hrm]
      cases ys with
      | nil =>
        have hxj : x = job := hc
        refine ⟨b, u, d, ?_, ?_, h.mono (by omega) h9, im.rf, fun _ _ _ => rfl, rfl, fun _ => Or.inl rfl, rfl⟩
        · show (if (-1 : Int32) = -1 then _ else _) = _
          rw [if_pos rfl, if_pos (congrArg nI hxj)]
        · show rX10_kills_11 (nI (rm b x (n - f) f).length) (nI d) u = _
          rw [hrm, eX10_kills_11, if_pos (by decide)]
      | cons y ys =>
        have hlt := (cp_le hc).2.1 (by simp)
        obtain ⟨hc1, hc2, hc3⟩ := hc
        have hp : pend b n x f (y :: ys) = pend b n y (x + 1) ys := by show rm b x (n - f) f ++ _ = _; rw [hrm]; rfl
        rw [hp] at ha
        obtain ⟨b', u', d', g1, g2, g3⟩ := ih b u y (x + 1) ys d (v + 1) B h hc3 (by omega) (by omega) (by omega) hs ha (by simp at hΦ; omega) (by omega) h9
        refine ⟨b', u', d', ?_, by rw [hp]; exact g2, g3⟩
        show (if (-1 : Int32) = -1 then _ else _) = _
        rw [if_pos rfl, if_neg (by rw [neq (by omega) (by omega)]; omega), hc1]
        exact g1
    | cons k rest =>
      have hkm : k ∈ rm b x (n - f) f := by rw [hrm]; simp
      obtain ⟨k1, k2, k3⟩ := (rm_m _ _ _).mp hkm
      unfold hel at k3
      simp at k3
      have hkn : k < n := by omega
      obtain ⟨b1, X, x1, x2, x3, x4, x5, x6, x7, x8⟩ := kill_rel (w := w) h hkn k3.1 (by
        have : 1 ≤ c0 b n := by
          rcases Nat.eq_zero_or_pos (c0 b n) with z | z
          · have := cB_0 n z k hkn
            rw [k3.1] at this; exact absurd this (by decide)
          · exact z
        omega) (hs k hkn k3.1)
      have hcnt : c0 b n = c0 b1 n + 1 := cB_off hkn (by rw [k3.1]; rfl) (by rw [x7, if_pos rfl]; rfl) (fun z hz hzk => by rw [x7, if_neg hzk])
      have h8 : ∀ i, b1.1 8 i = b.1 8 i := fun i => x5 8 i (by decide)
      have hc1 : cp b1 job x ys := cp_congr h8 hc
      have hc2 : cp b1 job k (x :: ys) := ⟨(h8 k).trans k3.2, by omega, hc1⟩
      -- what is left of the list
      have hrest : rest = rm b x (n - (k + 1)) (k + 1) := by
        have key : ∀ m g, g + m = n → rm b x m g = k :: rest → rest = rm b x (n - (k + 1)) (k + 1) := by
          intro m
          induction m with
          | zero => intro g hg hz; exact absurd hz (by simp [rm])
          | succ m ih2 =>
            intro g hg hz
            unfold rm at hz
            by_cases q : hel b x g = true
            · rw [if_pos q] at hz
              injection hz with z1 z2
              rw [← z2, ← z1, show n - (g + 1) = m by omega]
            · rw [if_neg q] at hz
              exact ih2 (g + 1) (by omega) hz
        exact key (n - f) f (by omega) hrm
      have hrest1 : rm b1 x (n - (k + 1)) (k + 1) = rest := by
        rw [hrest]
        exact rm_congr _ _ (fun z h1 h2 => by unfold hel; rw [x7, h8, if_neg (by omega)])
      have htail : ∃ T, pend b n x f ys = k :: T ∧ pend b1 n x (k + 1) ys = T := by
        cases ys with
        | nil => exact ⟨rest, hrm, hrest1⟩
        | cons y ys =>
          refine ⟨rest ++ pend b n y (x + 1) ys, ?_, ?_⟩
          · show rm b x (n - f) f ++ _ = _; rw [hrm]; rfl
          · show rm b1 x (n - (k + 1)) (k + 1) ++ pend b1 n y (x + 1) ys = _
            rw [hrest1, pend_congr x7 h8 k3.2 (by omega) hc.2.2 hc.2.1]
      obtain ⟨T, ht1, ht2⟩ := htail
      have hnd := pend_nd (f := k + 1) (n := n) hc2 hkn hn
      have hlen : (pend b1 n k (k + 1) (x :: ys)).length ≤ n := by
        have := nodup_le (M := List.range n) hnd (fun z hz => List.mem_range.mpr (pend_m hc2 hkn hn z hz).1)
        simpa using this
      have hpk : pend b1 n k (k + 1) (x :: ys) = rm b1 k (n - (k + 1)) (k + 1) ++ T := by
        show _ ++ pend b1 n x (k + 1) ys = _; rw [ht2]
      have hu10 : u.1 1 10 = b.1 0 12 := h.e.h.t.trans (sp_out (by omega))
      have hu11 : u.1 1 11 = nI n := h.e.h.n.trans h.A.1
      have hTlen : T.length + (rm b1 k (n - (k + 1)) (k + 1)).length ≤ 60 := by rw [hpk, List.length_append] at hlen; omega
      have harr : arr u 6 (T.reverse ++ [k]) := by rw [ht1, List.reverse_cons] at ha; exact ha
      have hTa : arr (lgU (kiU u k (b.1 0 12 + 1)) X 4 (nI k) (-1) (-1)) 6 T.reverse := fun i hi => by
        have e := harr i (by simp at hi ⊢; omega)
        rw [List.getElem_append_left hi] at e
        rw [lg_c (by omega)]; unfold kiU; rw [wA_c (by omega), wA_c (by omega), wA_c (by omega), wA_c (by omega)]; exact e
      have htop : u.1 6 T.length = nI k := by
        have e := harr T.length (by simp)
        rw [e]
        congr 1
        simp
      have hrn : rm b1 k (n - (n - 1 + 1)) (n - 1 + 1) = [] := by rw [show n - (n - 1 + 1) = 0 by omega]; rfl
      obtain ⟨ν, p1, p2, p3, p4⟩ := m_push (b := b1) (k := k) (v3 := nI (d + 1)) (S := T.reverse) hn (by rw [List.length_reverse]; exact hTlen) (n - 1 - k) (n - 1) (by omega) (by omega) (lgU (kiU u k (b.1 0 12 + 1)) X 4 (nI k) (-1) (-1)) (fun i hi => ⟨(x4.e.j hi).f4.trans (sp_out (by omega)), (x4.e.j hi).f3.trans (by rw [sp_out (by omega)])⟩) (by rw [hrn]; simpa using hTa) (by rw [hrn]; simp)
      rw [hrn, List.length_reverse, List.length_nil, Nat.add_zero] at p1
      have hq : qs (lgU (kiU u k (b.1 0 12 + 1)) X 4 (nI k) (-1) (-1)) ν := ⟨p4, fun i => p3 1 i (by omega), fun i => p3 15 i (by omega), fun i => p3 2 i (by omega), p3 0 27 (by omega)⟩
      have hlp : (pend b1 n k (k + 1) (x :: ys)).length = T.length + (rm b1 k (n - (k + 1)) (k + 1)).length := by rw [hpk, List.length_append]; omega
      obtain ⟨b', u', d', g1, g2, g3, g4, g5, g6, g7, g8⟩ := ih b1 ν k (k + 1) (x :: ys) (d + 1) (v + 1) (B + 1) (x4.qs hq) hc2 hkn (by omega) (by omega) (fun z hz hz0 => by
        rw [x5 12 z (by decide)]
        rw [x7] at hz0
        by_cases q : z = k
        · rw [if_pos q] at hz0; exact absurd hz0 (by decide)
        · rw [if_neg q] at hz0; exact hs z hz hz0) (by rw [hpk, List.reverse_append]; exact p2) (by simp; omega) (by omega) (by omega)
      refine ⟨b', u', d', ?_, ?_, g3.mono (by omega) (by omega), ?_, fun c i hc' => (g5 c i hc').trans (x5 c i hc'), g6.trans x6, fun i => ?_, g8.trans x8⟩
      · rw [e1, hrm]
        show (if nI k = -1 then _ else _) = _
        rw [if_neg (nm1 (by omega)), show mX2_end [.ref 0, .int (hdI (k :: rest))] b = _ from x3, g_cv_some]
        show rX2_killWithHeld_21 (nI job) (nI d + 1) (nI k) (nI k + 1) (nI (v + 1)) b1 = _
        rw [nI_1, nI_1]; exact g1
      · rw [ht1, List.length_cons, eX10_kills_11, if_neg (show ¬ nI (T.length + 1) ≤ 0 from nI_ge (a := 0) (b := T.length + 1) (by omega) (by omega)), nI_s1 (by omega), show T.length + 1 - 1 = T.length by omega, gin (show T.length < 61 by omega) (by omega), if_pos rfl, tn (show T.length < 2147483648 by omega), htop, m_kill1 (by omega) x1 x2, hu10, hu11, nI_s1 (by omega), nI_1, p1, ← hlp]
        exact g2
      · exact (im_kill.tr ⟨fun c i hc => p3 c i (by omega), p3 0 27 (by omega), fun c i _ => by rw [p4]⟩).tr g4
      · have hz := g7 i
        rw [x7] at hz
        by_cases q : i = k
        · rw [if_pos q] at hz
          rcases hz with hz | hz
          · exact Or.inr ⟨by rw [q]; exact k3.1, hz⟩
          · exact absurd hz.1 (by decide)
        · rw [if_neg q] at hz; exact hz
end KILL3
