section ARR2
variable {b u b' u' : gMem} {n a r p t B : Nat} {Q : List Nat}
theorem aw_rel {b0 w : gMem} {a0 a' : Nat} (h : BW (pa b w) u n a r p t Q B) (U1 : ∀ i, i ≠ 12 → (i < 1242 ∨ 1482 ≤ i) → u'.1 1 i = u.1 1 i) (U2 : u'.2 = u.2) (U3 : u'.1 1 12 = nI a') (hna : n + a' ≤ 60) (hI : ∀ e, e < a' → ∃ e', e' < a0 ∧ ∀ f, f < 4 → mR u' e f = b0.1 (35 + f) e') (hR : IR b0 a0 p) : BW (pa b (aw u')) u' n a' r p t Q B := by
  refine arr_rel h (fun c i hc => by rw [pa_out hc, pa_out hc]) rfl (by rw [pa_in (Or.inl rfl), aw33]; exact U3) U1 U2 U3 hna (fun e he => ⟨((pa_in (c := 35) (by omega)).trans (aw_f (f := 0))).symm, ((pa_in (c := 36) (by omega)).trans (aw_f (f := 1))).symm, ((pa_in (c := 37) (by omega)).trans (aw_f (f := 2))).symm, ((pa_in (c := 38) (by omega)).trans (aw_f (f := 3))).symm⟩) (fun e he => ?_)
  obtain ⟨e', h1, h2⟩ := hI e he
  have q1 : (pa b (aw u')).1 36 e = b0.1 36 e' := ((pa_in (c := 36) (by omega)).trans (aw_f (f := 1))).trans (h2 1 (by omega))
  have q2 : (pa b (aw u')).1 37 e = b0.1 37 e' := ((pa_in (c := 37) (by omega)).trans (aw_f (f := 2))).trans (h2 2 (by omega))
  have q3 : (pa b (aw u')).1 38 e = b0.1 38 e' := ((pa_in (c := 38) (by omega)).trans (aw_f (f := 3))).trans (h2 3 (by omega))
  have := hR e' h1
  unfold jn at *
  rw [q1, q2, q3]
  exact this
/-- the reference's arrivals, some of them laid close -/
def aU (b0 u : gMem) (i a0 : Nat) : Prop := (∀ f, f < 4 → ∀ e (h : e < (NL b0 i).length), mR u e f = b0.1 (35 + f) (NL b0 i)[e]) ∧ (∀ f, f < 4 → ∀ e, i ≤ e → e < a0 → mR u e f = b0.1 (35 + f) e) ∧ (∀ e, e < a0 → ∃ e', e' < a0 ∧ ∀ f, f < 4 → mR u e f = b0.1 (35 + f) e')
/-- states of those who were there stay, new ones are held or wait -/
def afr (n n' : Nat) (b b' : gMem) : Prop := (∀ i, i < n → b'.1 9 i = b.1 9 i) ∧ (∀ i, n ≤ i → i < n' → b'.1 9 i = 0 ∨ b'.1 9 i = 1) ∧ ∀ i, n' ≤ i → b'.1 9 i = b.1 9 i
theorem afr.rf : afr n n b b := ⟨fun _ _ => rfl, fun i h1 h2 => by omega, fun _ _ => rfl⟩
theorem afr.tr {m : Nat} {b1 b2 : gMem} (h : afr n (n + 1) b b1) (hm : n + 1 ≤ m) (h2 : afr (n + 1) m b1 b2) : afr n m b b2 := by
  refine ⟨fun i hi => (h2.1 i (by omega)).trans (h.1 i hi), fun i h3 h4 => ?_, fun i hi => (h2.2.2 i hi).trans (h.2.2 i (by omega))⟩
  by_cases q : i = n
  · rw [h2.1 i (by omega)]; exact h.2.1 i h3 (by omega)
  · exact h2.2.1 i (by omega) h4
theorem arr_loop {b0 : gMem} {a0 N : Nat} (ha0 : a0 ≤ 60) (hN : N ≤ 60) (hR : IR b0 a0 p) (h033 : b0.1 33 1 = nI a0) : ∀ k i, i + k = a0 → ∀ (b u : gMem) (n a : Nat) (Q : List Nat) (B : Nat), BW (pa b (aw u)) u n a r p t Q B → IS0 b r → B + 2 * k ≤ 1000000000 → n + a = N → a + i = a0 + (NL b0 i).length → (∀ c e, (c = 33 ∨ (35 ≤ c ∧ c ≤ 38)) → b.1 c e = b0.1 c e) → b.1 0 12 = b0.1 0 12 → aU b0 u i a0 → ∃ b' u' n' Q', rX2_bringArrivals_2 (nI i) b = rX2_bringArrivals_2 (nI a0) b' ∧ rX10_arrives_12 (nI (NL b0 i).length) (nI a0) (nI i) u = some (none, u') ∧ BW (pa b' (aw u')) u' n' (NL b0 a0).length r p t Q' (B + 2 * k) ∧ IS0 b' r ∧ (∀ c e, (c = 33 ∨ (35 ≤ c ∧ c ≤ 38)) → b'.1 c e = b0.1 c e) ∧ b'.1 0 12 = b0.1 0 12 ∧ aU b0 u' a0 a0 ∧ im u u' ∧ n ≤ n' ∧ afr n n' b b' := by
  intro k
  induction k with
  | zero =>
    intro i hi b u n a Q B h h0 h9 hNn hal hb hbt hu
    have : i = a0 := by omega
    subst this
    have : a = (NL b0 i).length := by omega
    subst this
    exact ⟨b, u, n, Q, rfl, by rw [eX10_arrives_12, if_pos (nI_le (Nat.le_refl _) (by omega))], h, h0, hb, hbt, hu, im.rf, Nat.le_refl _, afr.rf⟩
  | succ k ih =>
    intro i hi b u n a Q B h h0 h9 hNn hal hb hbt hu
    have hle := NL_le (b := b0) (i := i)
    have hp := h.A.p32
    have hu10 : u.1 1 10 = b0.1 0 12 := h.e.h.t.trans ((pa_out (by omega)).trans hbt)
    have hu0 : u.1 1 (1242 + 4 * i) = b0.1 35 i := hu.2.1 0 (by omega) i (Nat.le_refl _) (by omega)
    have hb33 : b.1 33 1 = nI a0 := (hb 33 1 (by omega)).trans h033
    have hu12 : u.1 1 12 = nI a := h.e.h.a.trans h.A.2.1
    rw [eX2_bringArrivals_2, hb33, if_neg (nI_ge (a := i) (b := a0) (by omega) (by omega)), eX0_isDue, gin (show i < 60 by omega) (by omega), if_pos rfl, tn (show i < 2147483648 by omega), hb 35 i (by omega), hbt, eX10_arrives_12, if_neg (nI_ge (a := i) (b := a0) (by omega) (by omega)), eX10_arrivalAt, g_ci_some, ar_ix, gin (show 1242 + 4 * i < 2030 by omega) (by omega), if_pos rfl, tn (show 1242 + 4 * i < 2147483648 by omega), hu10, hu0]
    by_cases q : b0.1 0 12 < b0.1 35 i
    · have hnd : nd b0 i = true := decide_eq_true q
      have hs : NL b0 (i + 1) = NL b0 i ++ [i] := by rw [NL_s, if_pos hnd]
      have hl : (NL b0 (i + 1)).length = (NL b0 i).length + 1 := by rw [hs, List.length_append]; rfl
      rw [if_pos q, g_ci_some, if_pos rfl, nI_1, if_pos q, show rX10_arrives_87 (nI (NL b0 i).length) (nI a0) (nI i) (nI (1242 + 4 * i)) 0 u = rX10_arrives_87 (nI (NL b0 i).length) (nI a0) (nI i) (nI (1242 + 4 * i)) (nI 0) u from rfl, m_copy (by omega) (by omega) 4 0 (by omega)]
      have hr1 : ∀ e f, e < 60 → f < 4 → mR (cpU (NL b0 i).length i 4 0 u) e f = if e = (NL b0 i).length then mR u i f else mR u e f := fun e f he hf => by
        rw [cpU_r (by omega) (by omega) 4 0 (by omega) u e f he hf]
        by_cases z : e = (NL b0 i).length
        · rw [if_pos ⟨by omega, by omega, z⟩, if_pos z]
        · rw [if_neg (fun y => z y.2.2), if_neg z]
      have hu1 : aU b0 (cpU (NL b0 i).length i 4 0 u) (i + 1) a0 := by
        refine ⟨fun f hf e he => ?_, fun f hf e h1 h2 => ?_, fun e he => ?_⟩
        · have he2 := he
          rw [hl] at he2
          rw [hr1 e f (by omega) hf]
          by_cases z : e = (NL b0 i).length
          · rw [if_pos z, hu.2.1 f hf i (Nat.le_refl _) (by omega)]
            congr 1
            simp only [hs]
            rw [app_get, dif_neg (by omega)]
          · rw [if_neg z, hu.1 f hf e (by omega)]
            congr 1
            simp only [hs]
            rw [app_get, dif_pos (by omega)]
        · rw [hr1 e f (by omega) hf, if_neg (by omega)]; exact hu.2.1 f hf e (by omega) h2
        · by_cases z : e = (NL b0 i).length
          · exact ⟨i, by omega, fun f hf => by rw [hr1 e f (by omega) hf, if_pos z]; exact hu.2.1 f hf i (Nat.le_refl _) (by omega)⟩
          · obtain ⟨e', h1, h2⟩ := hu.2.2 e he
            exact ⟨e', h1, fun f hf => by rw [hr1 e f (by omega) hf, if_neg z]; exact h2 f hf⟩
      have hrel : BW (pa b (aw (cpU (NL b0 i).length i 4 0 u))) (cpU (NL b0 i).length i 4 0 u) n a r p t Q B := aw_rel h (fun e h1 h2 => cpU_o (by omega) 4 0 (by omega) u e h2) (cpU_l _ _ _) ((cpU_o (by omega) 4 0 (by omega) u 12 (by omega)).trans hu12) (by omega) (fun e he => hu1.2.2 e (by omega)) hR
      have hm : im u (cpU (NL b0 i).length i 4 0 u) := ⟨fun c e hc => cpU_c _ _ _ _ _ (by omega), cpU_c _ _ _ _ _ (by omega), fun c e hc => by rw [cpU_l]⟩
      obtain ⟨b', u', n', Q', g1, g2, g3, g4, g5, g6, g7, g8, g9, g10⟩ := ih (i + 1) (by omega) b _ n a Q B hrel h0 (by omega) hNn (by omega) hb hbt hu1
      rw [hl] at g2
      exact ⟨b', u', n', Q', g1, g2, g3.mono (by omega) (by omega), g4, g5, g6, g7, hm.tr g8, g9, g10⟩
    · have hnd : ¬ nd b0 i = true := fun z => q (of_decide_eq_true z)
      have hs : NL b0 (i + 1) = NL b0 i := by rw [NL_s, if_neg hnd, List.append_nil]
      have hb32 : b.1 3 2 = nI n := (pa_out (b := b) (w := aw u) (by omega)).symm.trans h.A.1
      have hRi := hR i (by omega)
      rw [if_neg q, g_ci_some, if_neg (by decide), hb32, if_neg (show ¬ (60 : Int32) ≤ nI n from nI_ge (a := n) (b := 60) (by omega) (by omega)), eX0_size, gin (show i < 60 by omega) (by omega), if_pos rfl, tn (show i < 2147483648 by omega), g_ci_some, eX0_work, gin (show i < 60 by omega) (by omega), if_pos rfl, tn (show i < 2147483648 by omega), g_ci_some, eX0_who, gin (show i < 60 by omega) (by omega), if_pos rfl, tn (show i < 2147483648 by omega), g_ci_some, hb 36 i (by omega), hb 37 i (by omega), hb 38 i (by omega), if_neg q, more_12, g_cv_some, hu12]
      have hu1 : ∀ f, f < 4 → (wH u 12 (nI a + -1)).1 1 (1242 + 4 * i + f) = b0.1 (35 + f) i := fun f hf => by
        rw [wH_h, if_neg (by omega)]; exact hu.2.1 f hf i (Nat.le_refl _) (by omega)
      rw [show nI (1242 + 4 * i) + 1 = nI (1242 + 4 * i + 1) from nad _ 1, show nI (1242 + 4 * i) + 2 = nI (1242 + 4 * i + 2) from nad _ 2, show nI (1242 + 4 * i) + 3 = nI (1242 + 4 * i + 3) from nad _ 3, gin (show 1242 + 4 * i + 1 < 2030 by omega) (by omega), gin (show 1242 + 4 * i + 2 < 2030 by omega) (by omega), gin (show 1242 + 4 * i + 3 < 2030 by omega) (by omega), if_pos rfl, if_pos rfl, if_pos rfl, tn (show 1242 + 4 * i + 1 < 2147483648 by omega), tn (show 1242 + 4 * i + 2 < 2147483648 by omega), tn (show 1242 + 4 * i + 3 < 2147483648 by omega), hu1 1 (by omega), hu1 2 (by omega), hu1 3 (by omega), show b0.1 (35 + 1) i = nI (jn b0 36 i) from hRi.1.1, show b0.1 (35 + 2) i = nI (jn b0 37 i) from hRi.2.1.1, show b0.1 (35 + 3) i = nI (jn b0 38 i) from hRi.2.2.1, show nI a + -1 = nI (a - 1) from by rw [show a = (a - 1) + 1 by omega, pk_m1]; rfl]
      have hmR : ∀ e f, e < 60 → f < 4 → mR (wH u 12 (nI (a - 1))) e f = mR u e f := fun e f he hf => mR_wH he hf (by omega)
      have hrel : BW (pa b (aw (wH u 12 (nI (a - 1))))) (wH u 12 (nI (a - 1))) n (a - 1) r p t Q B := aw_rel h (fun e h1 h2 => by rw [wH_h, if_neg h1]) rfl (by rw [wH_h, if_pos rfl]) (by omega) (fun e he => by
        obtain ⟨e', h1, h2⟩ := hu.2.2 e (by omega)
        exact ⟨e', h1, fun f hf => (hmR e f (by omega) hf).trans (h2 f hf)⟩) hR
      obtain ⟨b1, u1, Q1, g1, g2, g3, g4, g5, g6, g7, g8⟩ := come_pa (af := -1) hrel (by omega) (by omega) hRi.1.2 hRi.2.1.2 hRi.2.2.2 (Or.inl rfl)
      have hm1 : ∀ e f, e < 60 → f < 4 → mR u1 e f = mR u e f := fun e f he hf => (g5 _ (by omega) (by omega)).trans (hmR e f he hf)
      have hrel1 : BW (pa b1 (aw u1)) u1 (n + 1) (a - 1) r p t Q1 (B + 2) := aw_rel g3 (fun _ _ _ => rfl) rfl (g3.e.h.a.trans g3.A.2.1) (by omega) (fun e he => by
        obtain ⟨e', h1, h2⟩ := hu.2.2 e (by omega)
        exact ⟨e', h1, fun f hf => (hm1 e f (by omega) hf).trans (h2 f hf)⟩) hR
      have h01 : IS0 b1 r := ⟨fun s hs => by rw [g6 32 s (by omega) (by decide)]; exact h0.1 s hs, fun j hj => by
        by_cases z : j = n
        · subst z
          intro y
          rw [y] at g8
          rcases g8 with g8 | g8 <;> exact absurd g8 (by decide)
        · rw [g7 9 j (by omega) (by omega) z, g7 10 j (by omega) (by omega) z]; exact h0.2 j hj⟩
      have hm : im u (wH u 12 (nI (a - 1))) := ⟨fun c e hc => wH_c (by omega), wH_c (by omega), fun _ _ _ => rfl⟩
      have haf : afr n (n + 1) b b1 := ⟨fun e he => g7 9 e (by omega) (by omega) (by omega), fun e h1 h2 => by rw [show e = n by omega]; exact g8, fun e he => g7 9 e (by omega) (by omega) (by omega)⟩
      obtain ⟨b', u', n', Q', k1, k2, k3, k4, k5, k6, k7, k8, k9, k10⟩ := ih (i + 1) (by omega) b1 u1 (n + 1) (a - 1) Q1 (B + 2) hrel1 h01 (by omega) (by omega) (by rw [hs]; omega) (fun c e hc => (g6 c e (by omega) (by simp; omega)).trans (hb c e hc)) ((g6 0 12 (by omega) (by decide)).trans hbt) (by
        unfold aU
        rw [hs]
        refine ⟨fun f hf e he => (hm1 e f (by omega) hf).trans (hu.1 f hf e he), fun f hf e h1 h2 => (hm1 e f (by omega) hf).trans (hu.2.1 f hf e (by omega) h2), fun e he => ?_⟩
        obtain ⟨e', h1, h2⟩ := hu.2.2 e he
        exact ⟨e', h1, fun f hf => (hm1 e f (by omega) hf).trans (h2 f hf)⟩)
      rw [hs] at k2
      refine ⟨b', u', n', Q', ?_, ?_, k3.mono (by omega) (by omega), k4, k5, k6, k7, (hm.tr g4).tr k8, by omega, haf.tr (by omega) k10⟩
      · rw [g1, g_ci_some, nI_1]; exact k1
      · rw [g2, g_ci_some, nI_1]; exact k2
theorem arr_both (h : BR b u n a r p t Q B) (h9 : B + 120 ≤ 1000000000) : ∃ b' u' n' a' Q', mX2_bringArrivals [.ref 0] b = some (none, b') ∧ mX10_arrives [.ref 0] u = some (none, u') ∧ BR b' u' n' a' r p t Q' (B + 120) ∧ im u u' ∧ n ≤ n' ∧ afr n n' b b' := by
  obtain ⟨hw, h0⟩ := BR_iff.mp h
  have hna := hw.A.2.2.2.1
  have hu12 : u.1 1 12 = nI a := hw.e.h.a.trans hw.A.2.1
  have hu0 : aU b u 0 a := by
    have hE := hw.e.2.2.1
    have hf : ∀ f, f < 4 → ∀ e, e < a → mR u e f = b.1 (35 + f) e := fun f hf e he => by
      have := hE e he
      rcases (show f = 0 ∨ f = 1 ∨ f = 2 ∨ f = 3 by omega) with z | z | z | z <;> subst z
      · exact this.1
      · exact this.2.1
      · exact this.2.2.1
      · exact this.2.2.2
    exact ⟨fun f _ e he => absurd he (by simp [NL]), fun f h1 e _ he => hf f h1 e he, fun e he => ⟨e, he, fun f h1 => hf f h1 e he⟩⟩
  have hrel : BW (pa b (aw u)) u n a r p t Q B := aw_rel (w := b) (by rw [pa_id]; exact hw) (fun _ _ _ => rfl) rfl hu12 hna (fun e he => hu0.2.2 e he) hw.R
  obtain ⟨b1, u1, n1, Q1, g1, g2, g3, g4, g5, g6, g7, g8, g9, g10⟩ := arr_loop (b0 := b) (a0 := a) (N := n + a) (by omega) hna hw.R hw.A.2.1 a 0 (by omega) b u n a Q B hrel h0 (by omega) rfl (by simp [NL]) (fun _ _ _ => rfl) rfl hu0
  obtain ⟨b2, d1, d2, d3, d4, d5⟩ := c_dropDue (b := b) (w := b1) (a := a) g6 (by omega) a 0 (by omega) b1 rfl (fun _ _ _ => rfl) ((g5 33 1 (by omega)).trans hw.A.2.1) ⟨fun f _ e he => absurd he (by simp [NL]), fun f hf e _ he => g5 _ e (by omega)⟩
  have hrel2 : BW b2 u1 n1 (NL b a).length r p t Q1 (B + 2 * a) := arr_rel g3 (fun c i hc => by rw [d3 c i hc, pa_out hc]) d2 d4 (fun _ _ _ => rfl) rfl (g3.e.h.a.trans g3.A.2.1) g3.A.2.2.2.1 (fun e he => ⟨(g7.1 0 (by omega) e he).trans (d5 0 (by omega) e he).symm, (g7.1 1 (by omega) e he).trans (d5 1 (by omega) e he).symm, (g7.1 2 (by omega) e he).trans (d5 2 (by omega) e he).symm, (g7.1 3 (by omega) e he).trans (d5 3 (by omega) e he).symm⟩) (fun e he => by
    have hx := NL_m (b := b) (i := a) _ (List.getElem_mem he)
    have := hw.R _ hx
    have q1 : b2.1 36 e = b.1 36 (NL b a)[e] := d5 1 (by omega) e he
    have q2 : b2.1 37 e = b.1 37 (NL b a)[e] := d5 2 (by omega) e he
    have q3 : b2.1 38 e = b.1 38 (NL b a)[e] := d5 3 (by omega) e he
    unfold jn at *
    rw [q1, q2, q3]
    exact this)
  refine ⟨b2, u1, n1, _, Q1, ?_, ?_, BR_iff.mpr ⟨hrel2.mono (by omega) h9, g4.fr (fun c hc i => d3 c i (by simp at hc; omega))⟩, g8, g9, ⟨fun i hi => (d3 9 i (by omega)).trans (g10.1 i hi), fun i h1 h2 => by rw [d3 9 i (by omega)]; exact g10.2.1 i h1 h2, fun i hi => (d3 9 i (by omega)).trans (g10.2.2 i hi)⟩⟩
  · rw [eX2_bringArrivals, show rX2_bringArrivals_2 0 b = rX2_bringArrivals_2 (nI 0) b from rfl, g1, eX2_bringArrivals_2, g5 33 1 (by omega), hw.A.2.1, if_pos (nI_le (Nat.le_refl _) (by omega)), eX0_dropDue, g6]
    rw [show rX0_dropDue_4 (b.1 0 12) 0 0 b1 = _ from d1, g_cv_some]
  · rw [eX10_arrives, hu12]; exact g2
end ARR2
