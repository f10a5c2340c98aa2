/-! numbers and loops -/
theorem gI_r (μ : gMem) (c i : Nat) (x : Int32) (c' i' : Nat) : (gwI μ c i x).1 c' i' = if c' = c ∧ i' = i then x else μ.1 c' i' := rfl
theorem gI_l (μ : gMem) (c i : Nat) (x : Int32) : (gwI μ c i x).2 = μ.2 := rfl
theorem gL_r (μ : gMem) (c i : Nat) (x : Int64) (c' i' : Nat) : (gwL μ c i x).2 c' i' = if c' = c ∧ i' = i then x else μ.2 c' i' := rfl
theorem gL_i (μ : gMem) (c i : Nat) (x : Int64) : (gwL μ c i x).1 = μ.1 := rfl
theorem gcI_r (μ : gMem) (a d n c i : Nat) : (gcI μ a d n).1 c i = if c = d ∧ i < n then μ.1 a i else μ.1 c i := rfl
theorem gcI_l (μ : gMem) (a d n : Nat) : (gcI μ a d n).2 = μ.2 := rfl
theorem gcL_r (μ : gMem) (a d n c i : Nat) : (gcL μ a d n).2 c i = if c = d ∧ i < n then μ.2 a i else μ.2 c i := rfl
theorem gcL_i (μ : gMem) (a d n : Nat) : (gcL μ a d n).1 = μ.1 := rfl
theorem tn {n : Nat} (h : n < 2147483648) : (nI n).toNatClampNeg = n := nI_clamp h
theorem gin {j n : Nat} (h : j < n) (hn : n < 2147483648) : g_in (nI j) n = true := g_in_vp.mpr (vp_in_nI h hn)
theorem zI : (0 : Int32) = nI 0 := rfl
theorem nle {a b : Nat} (ha : a < 2147483648) (hb : b < 2147483648) : (nI a ≤ nI b) = (a ≤ b) := propext (nI_leI ha hb)
theorem nlt {a b : Nat} (ha : a < 2147483648) (hb : b < 2147483648) : (nI a < nI b) = (a < b) := propext (nI_ltI ha hb)
theorem neq {a b : Nat} (ha : a < 2147483648) (hb : b < 2147483648) : (nI a = nI b) = (a = b) := propext (nI_eq ha hb)
theorem nad (a b : Nat) : nI a + nI b = nI (a + b) := nI_add a b
theorem nml (a b : Nat) : nI a * nI b = nI (a * b) := pk_mul a b
theorem nsb {a b : Nat} (h : b ≤ a) : nI a - nI b = nI (a - b) := pk_sub h
theorem nz {a : Nat} (h : a < 2147483648) : (nI a = 0) = (a = 0) := by rw [zI, neq h (by omega)]
theorem nneg {a : Nat} (h : a < 2147483648) : ¬ nI a < 0 := nI_pos h
theorem nm1 {a : Nat} (h : a < 2147483648) : ¬ nI a = -1 := by
  intro q
  have h1 := congrArg Int32.toInt q
  rw [nI_toInt h] at h1
  have h2 : (-1 : Int32).toInt = -1 := by decide
  omega
theorem nI_ti {n : Nat} (h : n < 2147483648) : (nI n).toInt = (n : Int) := nI_toInt h
theorem i_nat {x : Int32} (h0 : 0 ≤ x.toInt) : x = nI x.toInt.toNat := by
  obtain ⟨j, hj, rfl⟩ := nI_of (x := x) (by rw [Int32.lt_iff_toInt_lt]; have : (0 : Int32).toInt = 0 := by decide
                                            omega)
  rw [nI_toInt hj]; simp
theorem i_lt (a b : Int32) : (a < b) = (a.toInt < b.toInt) := propext Int32.lt_iff_toInt_lt
theorem i_le (a b : Int32) : (a ≤ b) = (a.toInt ≤ b.toInt) := propext Int32.le_iff_toInt_le
theorem i_eq (a b : Int32) : (a = b) = (a.toInt = b.toInt) := propext Int32.toInt_inj.symm
theorem i_sn (x : Int32) : x + 1 - 1 = x := by grind
theorem i_ns (x : Int32) : x - 1 + 1 = x := by grind
theorem i_c1 (x y : Int32) : (x + 1 = y + 1) = (x = y) := by grind
theorem i_z1 (x : Int32) : (x + 1 = 0) = (x = -1) := by grind
/-- a loop's fold: k rounds from i on -/
def lp {σ : Type} (g : Nat → σ → σ) : Nat → Nat → σ → σ
  | 0, _, s => s
  | k + 1, i, s => lp g k (i + 1) (g i s)
theorem lp_succ {σ : Type} (g : Nat → σ → σ) : ∀ (k i : Nat) (s : σ), lp g (k + 1) i s = g (i + k) (lp g k i s)
  | 0, i, s => rfl
  | k + 1, i, s => by
    show lp g (k + 1) (i + 1) (g i s) = g (i + (k + 1)) (lp g k (i + 1) (g i s))
    rw [lp_succ g k (i + 1) (g i s), show i + 1 + k = i + (k + 1) by omega]
theorem lp_congr {σ : Type} {g g' : Nat → σ → σ} : ∀ (k i : Nat) (s : σ), (∀ j s, i ≤ j → j < i + k → g j s = g' j s) → lp g k i s = lp g' k i s
  | 0, _, _, _ => rfl
  | k + 1, i, s, h => by
    show lp g k (i + 1) (g i s) = lp g' k (i + 1) (g' i s)
    rw [h i s (Nat.le_refl _) (by omega)]
    exact lp_congr k (i + 1) _ (fun j s h1 h2 => h j s (by omega) (by omega))
theorem for_up {σ ρ : Type} (r : σ → Int32 → ρ) (g : Nat → σ → σ) (n : Nat) (hs : ∀ i s, i < n → r s (nI i) = r (g i s) (nI (i + 1))) : ∀ k i s, i + k = n → r s (nI i) = r (lp g k i s) (nI n)
  | 0, i, s, h => by rw [show i = n by omega]; rfl
  | k + 1, i, s, h => by
    rw [hs i s (by omega), for_up r g n hs k (i + 1) (g i s) (by omega)]
    rfl
theorem for_up0 {σ ρ : Type} (r : σ → Int32 → ρ) (g : Nat → σ → σ) (n : Nat) (hs : ∀ i s, i < n → r s (nI i) = r (g i s) (nI (i + 1))) (s : σ) : r s 0 = r (lp g n 0 s) (nI n) := for_up r g n hs n 0 s (by omega)
theorem for_inv {σ ρ : Type} (r : σ → Int32 → ρ) (I : Nat → σ → Prop) (n : Nat) (hs : ∀ i s, i < n → I i s → ∃ s', r s (nI i) = r s' (nI (i + 1)) ∧ I (i + 1) s') : ∀ k i s, i + k = n → I i s → ∃ s', r s (nI i) = r s' (nI n) ∧ I n s'
  | 0, i, s, h, hi => by rw [show i = n by omega] at *; exact ⟨s, rfl, hi⟩
  | k + 1, i, s, h, hi => by
    obtain ⟨s1, e1, i1⟩ := hs i s (by omega) hi
    obtain ⟨s2, e2, i2⟩ := for_inv r I n hs k (i + 1) s1 (by omega) i1
    exact ⟨s2, e1.trans e2, i2⟩
theorem for_sim {σ τ ρ π : Type} (r : σ → Int32 → ρ) (q : τ → Int32 → π) (I : Nat → σ → τ → Prop) (n : Nat) (hs : ∀ i s t, i < n → I i s t → ∃ s' t', r s (nI i) = r s' (nI (i + 1)) ∧ q t (nI i) = q t' (nI (i + 1)) ∧ I (i + 1) s' t') : ∀ k i s t, i + k = n → I i s t → ∃ s' t', r s (nI i) = r s' (nI n) ∧ q t (nI i) = q t' (nI n) ∧ I n s' t'
  | 0, i, s, t, h, hi => by rw [show i = n by omega] at *; exact ⟨s, t, rfl, rfl, hi⟩
  | k + 1, i, s, t, h, hi => by
    obtain ⟨s1, t1, e1, f1, i1⟩ := hs i s t (by omega) hi
    obtain ⟨s2, t2, e2, f2, i2⟩ := for_sim r q I n hs k (i + 1) s1 t1 (by omega) i1
    exact ⟨s2, t2, e1.trans e2, f1.trans f2, i2⟩
