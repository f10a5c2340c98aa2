/-! the queue's order -/
theorem mul_tr {a b c d e f : Nat} (hf : 0 < f) (h1 : a * d < c * b) (h2 : c * f ≤ e * d) (hb : 0 < b) : a * f < e * b := by
  have h3 : a * d * f < c * b * f := Nat.mul_lt_mul_of_pos_right h1 hf
  have h4 : c * f * b ≤ e * d * b := Nat.mul_le_mul_right b h2
  have h5 : a * f * d < e * b * d := by
    calc a * f * d = a * d * f := by rw [Nat.mul_assoc, Nat.mul_comm f d, ← Nat.mul_assoc]
      _ < c * b * f := h3
      _ = c * f * b := by rw [Nat.mul_assoc, Nat.mul_comm b f, ← Nat.mul_assoc]
      _ ≤ e * d * b := h4
      _ = e * b * d := by rw [Nat.mul_assoc, Nat.mul_comm d b, ← Nat.mul_assoc]
  exact Nat.lt_of_mul_lt_mul_right h5
theorem cB_mono {f g : Nat → Bool} : ∀ {k : Nat}, (∀ i, i < k → f i = true → g i = true) → cB f k ≤ cB g k
  | 0, _ => Nat.le_refl _
  | k + 1, h => by
    show cB f k + (if f k = true then 1 else 0) ≤ cB g k + (if g k = true then 1 else 0)
    have h1 := cB_mono (k := k) (fun i hi => h i (by omega))
    have h2 := h k (by omega)
    by_cases q : f k = true
    · rw [if_pos q, if_pos (h2 q)]; omega
    · rw [if_neg q]; omega
theorem cB_strict {f g : Nat → Bool} {d : Nat} : ∀ {k : Nat}, d < k → f d = false → g d = true → (∀ i, i < k → f i = true → g i = true) → cB f k < cB g k
  | 0, h, _, _, _ => absurd h (by omega)
  | k + 1, hd, h1, h2, h => by
    show cB f k + (if f k = true then 1 else 0) < cB g k + (if g k = true then 1 else 0)
    by_cases q : d = k
    · subst q
      have h3 := cB_mono (k := d) (fun i hi => h i (by omega))
      rw [h1, h2]; simp; omega
    · have h3 := cB_strict (k := k) (by omega) h1 h2 (fun i hi => h i (by omega))
      have h4 := h k (by omega)
      by_cases q : f k = true
      · rw [if_pos q, if_pos (h4 q)]; omega
      · rw [if_neg q]; omega
section ORDER
variable {b u : gMem} {n a r p t B : Nat} {Q : List Nat}
def rk (b : gMem) (x : Nat) : Nat := cB (fun v => decide (jn b 27 v * jn b 26 x < jn b 27 x * jn b 26 v)) 6
theorem rk_lt (hU : IU b t) {x y : Nat} (hx : x < 6) (hy : y < 6) : rk b x < rk b y ↔ jn b 27 x * jn b 26 y < jn b 27 y * jn b 26 x := by
  have hs : ∀ v, v < 6 → 0 < jn b 26 v := fun v hv => (hU.1 v hv).2.1
  constructor
  · intro h
    refine Classical.byContradiction (fun q => ?_)
    have : rk b y ≤ rk b x := cB_mono (fun i hi hq => by
      rw [decide_eq_true_eq] at *
      exact mul_tr (hs x hx) hq (by omega) (hs i hi))
    omega
  · intro h
    refine cB_strict (d := x) hx (decide_eq_false (by omega)) (decide_eq_true h) (fun i hi hq => ?_)
    rw [decide_eq_true_eq] at *
    exact mul_tr (hs y hy) hq (Nat.le_of_lt h) (hs i hi)
/-- a job's place among those waiting -/
def pl (u : gMem) (x : Nat) : Nat := jn u 1 (42 + 20 * x + 19)
def kq (b u : gMem) (x : Nat) : Nat := (if jn b 1 3 = 1 then rk b (jn b 7 x) else 0) * 2000000000 + pl u x
theorem sub_0 {x y : Nat} (hx : x < 2147483648) (hy : y < 2147483648) : (nI x - nI y = 0) ↔ x = y := by
  rw [← neq hx hy]; grind
theorem sub_le {x y : Nat} (hx : x < 2147483648) (hy : y < 2147483648) : (0 ≤ nI x - nI y) ↔ y ≤ x := by
  rw [← nI_leI hy hx]
  have h1 := nneg hx
  have h2 := nneg hy
  grind
theorem m_shareOf (e : EE b u n a r) {v : Nat} (hv : v < 6) : mX10_shareOf [.ref 0, .int (nI v)] u = some (some (.int (b.1 26 v)), u) := by
  rw [eX10_shareOf, show (30 : Int32) = nI 30 from rfl, nad, gin (by omega) (by omega), if_pos rfl, tn (by omega), e.1.2.2.2.1 v hv]
theorem m_ratios (e : EE b u n a r) (hU : IU b t) (hn : n ≤ 60) (hJ : IJ b n p t) {x y : Nat} (hx : x < n) (hy : y < n) : mX10_ratios [.ref 0, .int (nI x), .int (nI y)] u = some (some (.int (nI (jn b 27 (jn b 7 x) * jn b 26 (jn b 7 y)) - nI (jn b 27 (jn b 7 y) * jn b 26 (jn b 7 x)))), u) := by
  have ux := (hJ x hx).2.1
  have uy := (hJ y hy).2.1
  rw [eX10_ratios, at_2 (by omega), g_ci_some, (e.j hx).f2, ux.1, show (36 : Int32) = nI 36 from rfl, nad, gin (by omega) (by omega), if_pos rfl, at_2 (by omega), g_ci_some, (e.j hy).f2, uy.1, m_shareOf e uy.2, g_ci_some, at_2 (by omega), g_ci_some, (e.j hy).f2, uy.1, nad, gin (by omega) (by omega), if_pos rfl, at_2 (by omega), g_ci_some, (e.j hx).f2, ux.1, m_shareOf e ux.2, g_ci_some, tn (by omega), tn (by omega), e.1.2.2.2.2 _ ux.2, e.1.2.2.2.2 _ uy.2, (hU.2.1 _ ux.2), (hU.2.1 _ uy.2), (hU.1 _ ux.2).1, (hU.1 _ uy.2).1, nml, nml]
theorem ud_le (hU : IU b t) (ht : t ≤ 60000) {v : Nat} (hv : v < 6) : jn b 27 v ≤ 115200000 := by
  have := hU.2.2
  have h6 : v = 0 ∨ v = 1 ∨ v = 2 ∨ v = 3 ∨ v = 4 ∨ v = 5 := by omega
  rcases h6 with h | h | h | h | h | h <;> subst h <;> omega
theorem m_isAhead (h : BW b u n a r p t Q B) {x y : Nat} (hx : x ∈ Q) (hy : y ∈ Q) : mX10_isAhead [.ref 0, .int (nI x), .int (nI y)] u = some (some (.int (if kq b u x < kq b u y then 1 else 0)), u) := by
  have hn := h.A.n60
  obtain ⟨hxn, -⟩ := Q_mem h hx
  obtain ⟨hyn, -⟩ := Q_mem h hy
  obtain ⟨cm, q6, q7, q8⟩ := h.Q.2.2.2.2.2.1
  have hB := h.B.2.2.2.2
  obtain ⟨x1, x2⟩ := q8 x hx
  obtain ⟨y1, y2⟩ := q8 y hy
  have px : mA u x 19 = nI (pl u x) := x1
  have py : mA u y 19 = nI (pl u y) := y1
  have lx : pl u x < cm := x2
  have ly : pl u y < cm := y2
  have hT := h.T.2.2.1
  rw [eX10_isAhead, set_3, g_ci_some, show u.1 1 3 + 0 = nI (jn b 1 3) from by rw [← hT.1]; exact h.e.1.1.2.2.2.1]
  have tail : ∀ (f : gMem → gMem), (g_ci (mX10_at [.ref 0, .int (nI x), .int 19] u) (fun a5 u5 => (g_ci (mX10_at [.ref 0, .int (nI y), .int 19] u5) (fun a6 u6 => (if a6 ≤ a5 then some (some (Value.int 0), u6) else some (some (.int 1), u6)))))) = some (some (.int (if pl u x < pl u y then 1 else 0)), u) := by
    intro _
    rw [at_19 (by omega), g_ci_some, at_19 (by omega), g_ci_some, px, py]
    by_cases q : pl u x < pl u y
    · rw [if_neg (nI_ge q (by omega)), if_pos q]
    · rw [if_pos (nI_le (by omega) (by omega)), if_neg q]
  by_cases ho : jn b 1 3 = 1
  · have ux := (h.J x hxn).2.1.2
    have uy := (h.J y hyn).2.1.2
    have kx : kq b u x = rk b (jn b 7 x) * 2000000000 + pl u x := by unfold kq; rw [if_pos ho]
    have ky : kq b u y = rk b (jn b 7 y) * 2000000000 + pl u y := by unfold kq; rw [if_pos ho]
    have r1 := rk_lt h.U ux uy
    have r2 := rk_lt h.U uy ux
    have m1 : jn b 27 (jn b 7 x) * jn b 26 (jn b 7 y) ≤ 115200000 * 9 := Nat.mul_le_mul (ud_le h.U h.B.2.1 ux) (h.U.1 _ uy).2.2
    have m2 : jn b 27 (jn b 7 y) * jn b 26 (jn b 7 x) ≤ 115200000 * 9 := Nat.mul_le_mul (ud_le h.U h.B.2.1 uy) (h.U.1 _ ux).2.2
    rw [ho, if_pos (show nI 1 = 1 from rfl), m_ratios h.e h.U hn h.J hxn hyn, g_ci_some, tail id]
    by_cases q : jn b 27 (jn b 7 x) * jn b 26 (jn b 7 y) = jn b 27 (jn b 7 y) * jn b 26 (jn b 7 x)
    · rw [if_pos ((sub_0 (by omega) (by omega)).mpr q)]
      have hr : rk b (jn b 7 x) = rk b (jn b 7 y) := by omega
      have : (pl u x < pl u y) ↔ (kq b u x < kq b u y) := by rw [kx, ky, hr]; omega
      simp only [this]
    · rw [if_neg (fun z => q ((sub_0 (by omega) (by omega)).mp z))]
      by_cases q2 : jn b 27 (jn b 7 y) * jn b 26 (jn b 7 x) ≤ jn b 27 (jn b 7 x) * jn b 26 (jn b 7 y)
      · rw [if_pos ((sub_le (by omega) (by omega)).mpr q2), if_neg (by rw [kx, ky]; have := r2.mpr (by omega); omega)]
      · rw [if_neg (fun z => q2 ((sub_le (by omega) (by omega)).mp z)), if_pos (by rw [kx, ky]; have := r1.mpr (by omega); omega)]
  · have ho0 : jn b 1 3 = 0 := by have := hT.2; omega
    have kx : kq b u x = pl u x := by unfold kq; rw [if_neg ho]; omega
    have ky : kq b u y = pl u y := by unfold kq; rw [if_neg ho]; omega
    rw [ho0, if_neg (show ¬ nI 0 = 1 by decide), if_pos (show (0 : Int32) = 0 from rfl), tail id, kx, ky]
/-- the lists that are in order and hold the same are the same -/
theorem srt_uniq {K : Nat → Nat} : ∀ {L M : List Nat}, L.Pairwise (fun x y => K x < K y) → M.Pairwise (fun x y => K x < K y) → (∀ x, x ∈ L ↔ x ∈ M) → L = M
  | [], [], _, _, _ => rfl
  | [], y :: M, _, _, h => absurd ((h y).mpr (by simp)) (by simp)
  | x :: L, [], _, _, h => absurd ((h x).mp (by simp)) (by simp)
  | x :: L, y :: M, h1, h2, h => by
    obtain ⟨a1, a2⟩ := List.pairwise_cons.mp h1
    obtain ⟨b1, b2⟩ := List.pairwise_cons.mp h2
    have hxy : x = y := by
      have m1 := (h x).mp (by simp)
      have m2 := (h y).mpr (by simp)
      rw [List.mem_cons] at m1 m2
      rcases m1 with m1 | m1
      · exact m1
      · rcases m2 with m2 | m2
        · exact m2.symm
        · have := b1 x m1; have := a1 y m2; omega
    subst hxy
    congr 1
    refine srt_uniq a2 b2 (fun z => ?_)
    have hz := h z
    rw [List.mem_cons, List.mem_cons] at hz
    constructor
    · intro hm
      rcases hz.mp (Or.inr hm) with q | q
      · subst q; have := a1 z hm; omega
      · exact q
    · intro hm
      rcases hz.mpr (Or.inr hm) with q | q
      · subst q; have := b1 z hm; omega
      · exact q
end ORDER
