section LAYF
variable {b u b' u' μ μ' ν : gMem} {n a r p t B k o : Nat} {Q : List Nat} {f g : Nat → Nat}
/-- loads after a list of jobs was laid -/
noncomputable def lyF (b : gMem) (p : Nat) : (Nat → Nat) → List Nat → (Nat → Nat)
  | f, [] => f
  | f, x :: L => lyF b p (fu f (TH b p f x) (jn b 14 x)) L
/-- the column that each gets -/
noncomputable def lyC (b : gMem) (p : Nat) : (Nat → Nat) → List Nat → Nat → Nat
  | _, [], _ => 0
  | f, y :: L, x => if x = y then TH b p f y else lyC b p (fu f (TH b p f y) (jn b 14 y)) L x
theorem fu_le {c w d m : Nat} (h : f d ≤ m) : fu f c w d ≤ m + 1 := by unfold fu; split <;> omega
theorem lyF_le : ∀ (L : List Nat) (f : Nat → Nat) (d m : Nat), f d ≤ m → lyF b p f L d ≤ m + L.length
  | [], f, d, m, h => h
  | x :: L, f, d, m, h => by
    have := lyF_le L (fu f (TH b p f x) (jn b 14 x)) d (m + 1) (fu_le h)
    show lyF b p (fu f (TH b p f x) (jn b 14 x)) L d ≤ m + (L.length + 1)
    omega
theorem c_layLoop {m0 : gMem} {M : List Nat} (h : BW m0 u n a r p t Q B) (hM60 : M.length ≤ 60) (hm : ∀ x, x ∈ M → x < n ∧ m0.1 9 x = 2) (hnd : M.Nodup) : ∀ k i, i + k = M.length → ∀ (μ : gMem) (f : Nat → Nat), pq m0 μ → ka (Kv m0 n) μ 181 M → LD μ f → (∀ d, f d ≤ i) → ∃ μ', rX5_layAnew_31 (nI M.length) (nI i) μ = rX5_layAnew_31 (nI M.length) (nI M.length) μ' ∧ pq m0 μ' ∧ LD μ' (lyF m0 p f (M.drop i)) ∧ (∀ x, x ∈ M.drop i → μ'.1 180 x = nI (lyC m0 p f (M.drop i) x)) ∧ (∀ x, x ∉ M.drop i → μ'.1 180 x = μ.1 180 x) ∧ (∀ x, x ∈ M.drop i → upX m0 p x (lyC m0 p f (M.drop i) x)) := by
  have hp := h.A.p32
  have hn := h.A.n60
  intro k
  induction k with
  | zero =>
    intro i hi μ f h1 h2 h3 h4
    obtain rfl : i = M.length := by omega
    refine ⟨μ, rfl, h1, ?_, fun x hx => ?_, fun _ _ => rfl, fun x hx => ?_⟩
    · rw [List.drop_length]; exact h3
    · rw [List.drop_length] at hx; exact absurd hx (by simp)
    · rw [List.drop_length] at hx; exact absurd hx (by simp)
  | succ k ih =>
    intro i hi μ f h1 h2 h3 h4
    have hil : i < M.length := by omega
    have hmem : M[i] ∈ M := List.getElem_mem hil
    obtain ⟨hx, hx2⟩ := hm _ hmem
    have hdrop : M.drop i = M[i] :: M.drop (i + 1) := List.drop_eq_getElem_cons hil
    generalize hxe : M[i] = x at *
    have hnot : x ∉ M.drop (i + 1) := by
      have h9 : (M.drop i).Nodup := hnd.sublist (List.drop_sublist i M)
      rw [hdrop] at h9
      exact (List.nodup_cons.mp h9).1
    have hb := h.bs h1.bs
    obtain ⟨c, c1, c2⟩ := c_layColumn h h1 hx hx2 h3 (fun d _ => by have := h4 d; omega)
    have hT := TH_e c1
    have hk181 : μ.1 181 i = nI (Kv m0 n x) := by have := h2 i hil; rw [hxe] at this; exact this
    have hKv : Kv m0 n x = (32 - jn m0 14 x) * 64 + x := if_pos ⟨hx, hx2⟩
    have hKl := Kv_lt (b := m0) (n := n) x (by omega)
    have emod : nI (Kv m0 n x) - nI (Kv m0 n x) / 64 * 64 = nI x := by
      rw [show (64 : Int32) = nI 64 from rfl, mod_n (by omega) (by omega) (by omega), hKv]
      congr 1
      omega
    obtain ⟨mm, w1, w2, w3, w4, w5, w6, w7⟩ := pl_w h hx hx2
    have hup := c1.1
    have e14 : (gwI μ 180 x (nI c)).1 14 x = nI (jn m0 14 x) := by rw [gI_r, if_neg (by omega), h1.2 14 x (by omega)]; exact w2
    have e180 : (gwI μ 180 x (nI c)).1 180 x = nI c := by rw [gI_r, if_pos ⟨rfl, rfl⟩]
    have hl3 : LD (gwI μ 180 x (nI c)) f := fun d hd => by rw [gI_r, if_neg (by omega)]; exact h3 d hd
    obtain ⟨μ2, d1, d2, d3⟩ := c_up hl3 (show c + jn m0 14 x ≤ 32 by have := hup.2.1; omega)
    have h1' : pq m0 μ2 := (h1.tr (pq.w (by omega))).tr d2.pq
    have h2' : ka (Kv m0 n) μ2 181 M := fun e he => by rw [d2.2 181 e (by omega), gI_r, if_neg (by omega)]; exact h2 e he
    obtain ⟨μ3, g1, g2, g3, g4, g5, g6⟩ := ih (i + 1) (by omega) μ2 (fu f c (jn m0 14 x)) h1' h2' d3 (fun d => fu_le (h4 d))
    refine ⟨μ3, ?_, g2, ?_, fun y hy => ?_, fun y hy => ?_, fun y hy => ?_⟩
    · rw [eX5_layAnew_31, if_neg (nI_ge (by omega) (by omega)), gin (show i < 60 by omega) (by omega), if_pos rfl, tn (by omega), hk181, emod, c2, g_ci_some, gin (show x < 60 by omega) (by omega), if_pos rfl, if_pos rfl, if_pos rfl, tn (by omega), e180, e14, d1, g_cv_some, nI_1]
      exact g1
    · rw [hdrop]
      show LD μ3 (lyF m0 p (fu f (TH m0 p f x) (jn m0 14 x)) (M.drop (i + 1)))
      rw [hT]; exact g3
    · rw [hdrop] at hy ⊢
      show μ3.1 180 y = nI (if y = x then TH m0 p f x else lyC m0 p (fu f (TH m0 p f x) (jn m0 14 x)) (M.drop (i + 1)) y)
      by_cases q : y = x
      · rw [if_pos q, q, g5 x hnot, d2.2 180 x (by omega), e180, hT]
      · rw [if_neg q, hT]
        exact g4 y (by simpa [q] using hy)
    · rw [hdrop] at hy
      have q : y ≠ x := fun z => hy (by simp [z])
      have q2 : y ∉ M.drop (i + 1) := fun z => hy (by simp [z])
      rw [g5 y q2, d2.2 180 y (by omega), gI_r, if_neg (fun z => q z.2)]
    · rw [hdrop] at hy ⊢
      show upX m0 p y (if y = x then TH m0 p f x else lyC m0 p (fu f (TH m0 p f x) (jn m0 14 x)) (M.drop (i + 1)) y)
      by_cases q : y = x
      · rw [if_pos q, q, hT]; exact hup
      · rw [if_neg q, hT]
        exact g6 y (by simpa [q] using hy)
/-- those of a width, from one on -/
def wG (b : gMem) (m : Nat) : Nat → Nat → List Nat
  | _, 0 => []
  | j, k + 1 => if b.1 9 j = 2 ∧ jn b 14 j = 2 ^ m then j :: wG b m (j + 1) k else wG b m (j + 1) k
/-- those of lesser widths -/
def wT' (b : gMem) (n : Nat) : Nat → List Nat
  | 0 => []
  | m + 1 => wG b m 0 n ++ wT' b n m
theorem wG_m {m x : Nat} : ∀ (k j : Nat), x ∈ wG b m j k ↔ j ≤ x ∧ x < j + k ∧ b.1 9 x = 2 ∧ jn b 14 x = 2 ^ m
  | 0, j => by simp [wG]; omega
  | k + 1, j => by
    have ih := wG_m (m := m) (x := x) k (j + 1)
    show x ∈ (if b.1 9 j = 2 ∧ jn b 14 j = 2 ^ m then j :: wG b m (j + 1) k else wG b m (j + 1) k) ↔ _
    by_cases q : b.1 9 j = 2 ∧ jn b 14 j = 2 ^ m
    · rw [if_pos q, List.mem_cons, ih]
      constructor
      · rintro (z | z)
        · subst z; exact ⟨Nat.le_refl _, by omega, q⟩
        · exact ⟨by omega, by omega, z.2.2⟩
      · rintro ⟨z1, z2, z3⟩
        by_cases y : x = j
        · exact Or.inl y
        · exact Or.inr ⟨by omega, by omega, z3⟩
    · rw [if_neg q, ih]
      constructor
      · rintro ⟨z1, z2, z3⟩; exact ⟨by omega, by omega, z3⟩
      · rintro ⟨z1, z2, z3⟩
        by_cases y : x = j
        · subst y; exact absurd z3 q
        · exact ⟨by omega, by omega, z3⟩
theorem wT_m {x : Nat} : ∀ m, x ∈ wT' b n m ↔ x < n ∧ b.1 9 x = 2 ∧ ∃ i, i < m ∧ jn b 14 x = 2 ^ i
  | 0 => by simp [wT']
  | m + 1 => by
    show x ∈ wG b m 0 n ++ wT' b n m ↔ _
    rw [List.mem_append, wG_m, wT_m m]
    constructor
    · rintro (⟨-, z2, z3, z4⟩ | ⟨z1, z2, i, z3, z4⟩)
      · exact ⟨by omega, z3, m, by omega, z4⟩
      · exact ⟨z1, z2, i, by omega, z4⟩
    · rintro ⟨z1, z2, i, z3, z4⟩
      by_cases q : i = m
      · subst q; exact Or.inl ⟨by omega, by omega, z2, z4⟩
      · exact Or.inr ⟨z1, z2, i, by omega, z4⟩
theorem wG_pw {m : Nat} (hn : n ≤ 60) : ∀ (k j : Nat), j + k ≤ n → (wG b m j k).Pairwise (fun x y => Kv b n x < Kv b n y)
  | 0, j, _ => List.Pairwise.nil
  | k + 1, j, h => by
    have ih := wG_pw (m := m) hn k (j + 1) (by omega)
    show (if b.1 9 j = 2 ∧ jn b 14 j = 2 ^ m then j :: wG b m (j + 1) k else wG b m (j + 1) k).Pairwise _
    by_cases q : b.1 9 j = 2 ∧ jn b 14 j = 2 ^ m
    · rw [if_pos q, List.pairwise_cons]
      refine ⟨fun x hx => ?_, ih⟩
      obtain ⟨z1, z2, z3, z4⟩ := (wG_m k (j + 1)).mp hx
      unfold Kv
      rw [if_pos ⟨by omega, q.1⟩, if_pos ⟨by omega, z3⟩, q.2, z4]
      omega
    · rw [if_neg q]; exact ih
theorem wT_pw (hn : n ≤ 60) : ∀ m, m ≤ 6 → (wT' b n m).Pairwise (fun x y => Kv b n x < Kv b n y)
  | 0, _ => List.Pairwise.nil
  | m + 1, hm => by
    show (wG b m 0 n ++ wT' b n m).Pairwise _
    rw [List.pairwise_append]
    refine ⟨wG_pw hn n 0 (by omega), wT_pw hn m (by omega), fun x hx y hy => ?_⟩
    obtain ⟨z1, z2, z3, z4⟩ := (wG_m n 0).mp hx
    obtain ⟨y1, y2, i, y3, y4⟩ := (wT_m m).mp hy
    have h1 : 2 ^ i < 2 ^ m := Nat.pow_lt_pow_right (by omega) y3
    have h2 : 2 ^ m ≤ 32 := by rcases pw5 (show m ≤ 5 by omega) with q | q | q | q | q | q <;> subst q <;> omega
    unfold Kv
    rw [if_pos ⟨by omega, z3⟩, if_pos ⟨y1, y2⟩, z4, y4]
    omega
def lyG (b u : gMem) (n p : Nat) (w : Int32) (j : Nat) (L : List Nat) : Prop := ∀ (u1 : gMem) (f : Nat → Nat) (i : Nat), qs u u1 → LU u1 p f → (∀ d, f d ≤ i) → i + L.length ≤ 1000 → ∃ u2, rX10_laysPack_34 w (nI j) u1 = some (none, u2) ∧ qs u u2 ∧ LU u2 p (lyF b p f L) ∧ (∀ x, x ∈ L → u2.1 11 x = nI (lyC b p f L x)) ∧ (∀ x, x ∉ L → u2.1 11 x = u1.1 11 x)
theorem m_layStep {m j k : Nat} (h : BW b u n a r p t Q B) (hm : m ≤ 5) (hmp : 2 ^ m ≤ p) (hj : j + (k + 1) = n) (ih : lyG b u n p (nI (2 ^ m)) (j + 1) (wG b m (j + 1) k ++ wT' b n m)) : lyG b u n p (nI (2 ^ m)) j (wG b m j (k + 1) ++ wT' b n m) := by
  have hp := h.A.p32
  have hn := h.A.n60
  have hjn : j < n := by omega
  intro u1 f i k1 k2 k3 k4
  have hw := h.qs k1
  have E := hw.e.j hjn
  have e : wG b m j (k + 1) = if b.1 9 j = 2 ∧ jn b 14 j = 2 ^ m then j :: wG b m (j + 1) k else wG b m (j + 1) k := rfl
  rw [eX10_laysPack_34, hw.e.h.n, h.A.1, if_neg (nI_ge hjn (by omega)), m_isPlaced hw.e hjn hn, g_ci_some, at_9 (by omega), g_ci_some, E.f9, jw_n (h.J j hjn), nI_1]
  by_cases q1 : b.1 9 j = 2
  · obtain ⟨mm, w1, w2, w3, w4, w5, w6, w7⟩ := pl_w h hjn q1
    have hle := w1.le
    rw [show (if b.1 9 j = 2 then (1 : Int32) else 0) = 1 from if_pos q1, if_neg (show ¬ (1 : Int32) = 0 by decide)]
    by_cases q2 : jn b 14 j = 2 ^ m
    · rw [if_pos ⟨q1, q2⟩] at e
      rw [e] at k4 ⊢
      have hnot : j ∉ wG b m (j + 1) k ++ wT' b n m := fun z => by
        rw [List.mem_append, wG_m, wT_m] at z
        rcases z with z | ⟨-, -, i, z1, z2⟩
        · omega
        · have : 2 ^ i < 2 ^ m := Nat.pow_lt_pow_right (by omega) z1
          omega
      obtain ⟨c, c1, c2⟩ := m_thinnest h k1 hjn q1 k2 (fun d _ => by have := k3 d; omega)
      have hT := TH_e c1
      have hup := c1.1
      rw [if_pos (show nI (jn b 14 j) = nI (2 ^ m) by rw [q2]), ← q2, c2, g_ci_some, gin (show j < 60 by omega) (by omega), if_pos rfl, if_pos rfl, tn (by omega)]
      have e11 : (gwI u1 11 j (nI c)).1 11 j = nI c := by rw [gI_r, if_pos ⟨rfl, rfl⟩]
      have hl3 : LU (gwI u1 11 j (nI c)) p f := fun d hd => by rw [gI_r, if_neg (by omega)]; exact k2 d hd
      obtain ⟨u2, d1, d2, d3⟩ := m_up hl3 (by omega) hup.2.1
      rw [e11, d1, g_cv_some, q2]
      have hlen : (j :: wG b m (j + 1) k ++ wT' b n m).length = (wG b m (j + 1) k ++ wT' b n m).length + 1 := by simp
      obtain ⟨u3, g1, g2, g3, g4, g5⟩ := ih u2 (fu f c (jn b 14 j)) (i + 1) ((k1.tr (qs.w (by omega))).tr d2.qs) d3 (fun d => fu_le (k3 d)) (by omega)
      refine ⟨u3, g1, g2, ?_, fun y hy => ?_, fun y hy => ?_⟩
      · show LU u3 p (lyF b p (fu f (TH b p f j) (jn b 14 j)) (wG b m (j + 1) k ++ wT' b n m))
        rw [hT]; exact g3
      · show u3.1 11 y = nI (if y = j then TH b p f j else lyC b p (fu f (TH b p f j) (jn b 14 j)) (wG b m (j + 1) k ++ wT' b n m) y)
        by_cases z : y = j
        · rw [if_pos z, z, g5 j hnot, d2.2 11 j (by omega), e11, hT]
        · rw [if_neg z, hT]
          have hy2 : y ∈ j :: (wG b m (j + 1) k ++ wT' b n m) := hy
          exact g4 y ((List.mem_cons.mp hy2).resolve_left z)
      · have hy2 : y ∉ j :: (wG b m (j + 1) k ++ wT' b n m) := hy
        have z : y ≠ j := fun z => hy2 (by rw [z]; exact List.mem_cons_self)
        have z2 : y ∉ wG b m (j + 1) k ++ wT' b n m := fun w => hy2 (List.mem_cons_of_mem _ w)
        rw [g5 y z2, d2.2 11 y (by omega), gI_r, if_neg (fun w => z w.2)]
    · rw [if_neg (fun z => q2 z.2)] at e
      rw [e] at k4 ⊢
      rw [if_neg (show ¬ nI (jn b 14 j) = nI (2 ^ m) from fun z => q2 (by rwa [neq (by omega) (by omega)] at z))]
      exact ih u1 f i k1 k2 k3 k4
  · rw [if_neg (fun z => q1 z.1)] at e
    rw [e] at k4 ⊢
    rw [show (if b.1 9 j = 2 then (1 : Int32) else 0) = 0 from if_neg q1, if_pos rfl]
    exact ih u1 f i k1 k2 k3 k4
theorem m_layLoop (h : BW b u n a r p t Q B) : ∀ (m : Nat), m ≤ 5 → 2 ^ m ≤ p → ∀ k j, j + k = n → lyG b u n p (nI (2 ^ m)) j (wG b m j k ++ wT' b n m) := by
  have hp := h.A.p32
  have hn := h.A.n60
  intro m
  induction m with
  | zero => ?_
  | succ m ihm => ?_
  all_goals
    intro hm hmp k
    induction k with
    | zero => ?_
    | succ k ih => ?_
  · intro j hj u1 f i k1 k2 k3 k4
    have hw := h.qs k1
    refine ⟨u1, ?_, k1, k2, fun x hx => absurd hx (by simp [wG, wT']), fun _ _ => rfl⟩
    rw [eX10_laysPack_34, hw.e.h.n, h.A.1, if_pos (nI_le (by omega) (by omega)), eX10_laysPack_28, if_pos (by decide)]
  · intro j hj; exact m_layStep h hm hmp hj (ih (j + 1) (by omega))
  · intro j hj u1 f i k1 k2 k3 k4
    have hw := h.qs k1
    have h32 : 2 ^ (m + 1) ≤ 32 := by omega
    have e2 : 2 ^ (m + 1) = 2 * 2 ^ m := by rw [Nat.pow_succ]; omega
    have hpos : 1 ≤ 2 ^ m := Nat.one_le_two_pow
    obtain ⟨u2, g1, g2, g3, g4, g5⟩ := ihm (by omega) (by omega) n 0 (by omega) u1 f i k1 k2 k3 k4
    refine ⟨u2, ?_, g2, g3, g4, g5⟩
    rw [eX10_laysPack_34, hw.e.h.n, h.A.1, if_pos (nI_le (by omega) (by omega)), show nI (2 ^ (m + 1)) / 2 = nI (2 ^ m) from by rw [show (2 : Int32) = nI 2 from rfl, pk_div (by omega) (by omega) (by omega), e2]; congr 1; omega, eX10_laysPack_28, if_neg (show ¬ nI (2 ^ m) ≤ 0 from nI_ge (a := 0) (b := 2 ^ m) (by omega) (by omega))]
    exact g1
  · intro j hj; exact m_layStep h hm hmp hj (ih (j + 1) (by omega))
end LAYF
