/-! starts of blocks, the lowest bit, counts of bits -/
def stp (X : Int32) : Nat → Int32
  | 0 => X
  | i + 1 => (stp X i &&& g_ushr (stp X i) (nI (2 ^ i))) &&& g_t0.getD (i + 1) 0
theorem b_al : ∀ m, m < 5 → ∀ c, c < 32 → bt (g_t0.getD (m + 1) 0) c = decide (c % 2 ^ (m + 1) = 0) := by decide +kernel
theorem pw5 {m : Nat} (h : m ≤ 5) : m = 0 ∨ m = 1 ∨ m = 2 ∨ m = 3 ∨ m = 4 ∨ m = 5 := by omega
theorem stp_bt (X : Int32) : ∀ m, m ≤ 5 → ∀ c, c < 32 → (bt (stp X m) c = true ↔ c % 2 ^ m = 0 ∧ c + 2 ^ m ≤ 32 ∧ ∀ d, c ≤ d → d < c + 2 ^ m → bt X d = true)
  | 0, _, c, hc => by
    show bt X c = true ↔ _
    constructor
    · intro h
      exact ⟨by omega, by omega, fun d h1 h2 => by rw [show d = c by omega]; exact h⟩
    · rintro ⟨-, -, h⟩
      exact h c (Nat.le_refl _) (by omega)
  | m + 1, hm, c, hc => by
    have ih := stp_bt X m (by omega)
    have hp : 2 ^ m ≤ 16 ∧ 1 ≤ 2 ^ m := by rcases pw5 (show m ≤ 5 by omega) with h | h | h | h | h | h <;> subst h <;> omega
    show bt ((stp X m &&& g_ushr (stp X m) (nI (2 ^ m))) &&& g_t0.getD (m + 1) 0) c = true ↔ _
    rw [b_and, b_and, b_gush (2 ^ m) (by omega), b_al m (by omega) c hc, Bool.and_eq_true, Bool.and_eq_true, decide_eq_true_eq, ih c hc]
    have h2 : 2 ^ (m + 1) = 2 ^ m + 2 ^ m := by rw [Nat.pow_succ]; omega
    by_cases hb : 2 ^ m + c < 32
    · rw [ih (2 ^ m + c) hb, h2]
      constructor
      · rintro ⟨⟨⟨a1, a2, a3⟩, b1, b2, b3⟩, d1⟩
        refine ⟨d1, by omega, fun d e1 e2 => ?_⟩
        by_cases hd : d < c + 2 ^ m
        · exact a3 d e1 hd
        · exact b3 d (by omega) (by omega)
      · rintro ⟨d1, d2, d3⟩
        have hmod : c % 2 ^ m = 0 := by
          have := Nat.mod_mod_of_dvd c (show 2 ^ m ∣ 2 ^ m + 2 ^ m from ⟨2, by omega⟩)
          rw [d1] at this
          rw [← this]; simp
        refine ⟨⟨⟨hmod, by omega, fun d e1 e2 => d3 d e1 (by omega)⟩, ?_, by omega, fun d e1 e2 => d3 d (by omega) (by omega)⟩, d1⟩
        rw [Nat.add_mod, hmod]; simp
    · rw [b_big (by omega)]
      constructor
      · rintro ⟨⟨_, h⟩, _⟩; cases h
      · rintro ⟨_, h, _⟩; omega
theorem starts_l (X : Int32) (u : gMem) : ∀ m, m ≤ 5 → ∀ i k, i + k = m → rX1_starts_7 (nI (2 ^ m)) (stp X i) (nI (2 ^ i)) (nI (i + 1)) u = some (some (.int (stp X m)), u) := by
  intro m hm i k
  induction k generalizing i with
  | zero =>
    intro h
    rw [show i = m by omega, eX1_starts_7]
    split
    · rfl
    · rw [if_pos (by rw [i_le]; omega)]
  | succ k ih =>
    intro h
    have hp : ∀ x, x ≤ 5 → 1 ≤ 2 ^ x ∧ 2 ^ x ≤ 32 := by intro x hx; rcases pw5 hx with h | h | h | h | h | h <;> subst h <;> omega
    have hlt : 2 ^ i < 2 ^ m := Nat.pow_lt_pow_right (by omega) (by omega)
    have h1 := hp m hm
    have h3 := hp i (by omega)
    rw [eX1_starts_7, if_neg (show ¬ (6 : Int32) ≤ nI (i + 1) from nI_ge (a := i + 1) (b := 6) (by omega) (by omega)), if_neg (nI_ge hlt (by omega)), gin (by omega) (by omega), if_pos rfl, tn (by omega), nI_1, show (2 : Int32) = nI 2 from rfl, nml, ← Nat.pow_succ]
    exact ih (i + 1) (by omega)
theorem starts_e {X : Int32} {u : gMem} {m : Nat} (hm : m ≤ 5) : mX1_starts [.int X, .int (nI (2 ^ m))] u = some (some (.int (stp X m)), u) := by
  rw [eX1_starts]
  exact starts_l X u m hm 0 m (by omega)
theorem b_neg (x : Int32) {i : Nat} (hi : i < 32) : bt (-x) i = (bt x i ^^ decide (∃ j, j < i ∧ bt x j = true)) := by
  unfold bt
  rw [Int32.toBitVec_neg, BitVec.getLsbD_neg]
  simp [hi]
theorem b_pred (x : Int32) {i : Nat} (hi : i < 32) : bt (x - 1) i = !(bt x i ^^ decide (∃ j, j < i ∧ bt x j = true)) := by
  have h : x - 1 = (-x) ^^^ (-1) := by
    apply Int32.toBitVec_inj.mp
    rw [Int32.toBitVec_sub, Int32.toBitVec_xor, Int32.toBitVec_neg]
    have e1 : (-1 : Int32).toBitVec = BitVec.allOnes 32 := by decide
    have e2 : (1 : Int32).toBitVec = 1#32 := by decide
    rw [e1, e2, BitVec.xor_allOnes, BitVec.not_neg]
  rw [h, b_not _ hi, b_neg x hi]
/-- how many bits are set below k -/
def cB (f : Nat → Bool) : Nat → Nat
  | 0 => 0
  | k + 1 => cB f k + (if f k then 1 else 0)
def pcn (x : Int32) : Nat := cB (bt x) 32
theorem cB_le (f : Nat → Bool) : ∀ k, cB f k ≤ k
  | 0 => Nat.le_refl _
  | k + 1 => by have := cB_le f k; show cB f k + _ ≤ k + 1; split <;> omega
theorem cB_congr {f g : Nat → Bool} : ∀ {k : Nat}, (∀ i, i < k → f i = g i) → cB f k = cB g k
  | 0, _ => rfl
  | k + 1, h => by show cB f k + _ = cB g k + _; rw [cB_congr (fun i hi => h i (by omega)), h k (by omega)]
theorem cB_zero {f : Nat → Bool} : ∀ {k : Nat}, (∀ i, i < k → f i = false) → cB f k = 0
  | 0, _ => rfl
  | k + 1, h => by show cB f k + _ = 0; rw [cB_zero (fun i hi => h i (by omega)), h k (by omega)]; rfl
theorem cB_off {f g : Nat → Bool} {i : Nat} : ∀ {k : Nat}, i < k → f i = true → g i = false → (∀ j, j < k → j ≠ i → g j = f j) → cB f k = cB g k + 1
  | 0, h, _, _, _ => by omega
  | k + 1, h, h1, h2, h3 => by
    show cB f k + _ = cB g k + _ + 1
    by_cases hi : i = k
    · subst hi
      rw [h1, h2, cB_congr (fun j hj => (h3 j (by omega) (by omega)).symm)]; simp
    · rw [cB_off (show i < k by omega) h1 h2 (fun j hj hne => h3 j (by omega) hne), h3 k (by omega) (fun q => hi q.symm)]; omega
theorem low_ex {x : Int32} (h : x ≠ 0) : ∃ i, i < 32 ∧ bt x i = true ∧ ∀ j, j < i → bt x j = false := by
  have : ∃ i, i < 32 ∧ bt x i = true := by
    refine Classical.byContradiction (fun q => h (b_z.mpr (fun i hi => ?_)))
    cases hb : bt x i with
    | false => rfl
    | true => exact absurd ⟨i, hi, hb⟩ q
  obtain ⟨k, hk, hm⟩ := pk_least (fun i => i < 32 ∧ bt x i = true) this
  exact ⟨k, hk.1, hk.2, fun j hj => by
    cases hb : bt x j with
    | false => rfl
    | true => exact absurd ⟨by omega, hb⟩ (hm j hj)⟩
theorem ones_l (u : gMem) : ∀ (k : Nat) (x acc : Int32), pcn x = k → rX10_ones_4 acc x u = some (some (.int (acc + nI k)), u) := by
  intro k
  induction k with
  | zero =>
    intro x acc h
    have hx : x = 0 := by
      refine Classical.byContradiction (fun q => ?_)
      obtain ⟨i, h1, h2, -⟩ := low_ex q
      have : cB (bt x) 32 = cB (fun j => if j = i then false else bt x j) 32 + 1 := cB_off h1 h2 (by simp) (fun j _ hne => by simp [hne])
      unfold pcn at h
      omega
    subst hx
    rw [eX10_ones_4, if_pos rfl]
    congr 4
    show acc = acc + nI 0
    rw [nI_0]; grind
  | succ k ih =>
    intro x acc h
    have hx : x ≠ 0 := by
      intro q; subst q
      have : pcn 0 = 0 := cB_zero (fun i _ => b_0 i)
      omega
    obtain ⟨i, h1, h2, h3⟩ := low_ex hx
    have hb : ∀ j, j < 32 → bt (x &&& (x - 1)) j = if j = i then false else bt x j := by
      intro j hj
      rw [b_and, b_pred x hj]
      by_cases hji : j = i
      · subst hji
        have : ¬ ∃ q, q < j ∧ bt x q = true := by rintro ⟨q, q1, q2⟩; rw [h3 q q1] at q2; cases q2
        simp [this]
      · rw [if_neg hji]
        by_cases hlt : j < i
        · rw [h3 j hlt]; rfl
        · have : ∃ q, q < j ∧ bt x q = true := ⟨i, by omega, h2⟩
          simp only [this, decide_true]
          cases bt x j <;> rfl
    have hk : pcn (x &&& (x - 1)) = k := by
      have e1 : cB (bt x) 32 = cB (fun j => if j = i then false else bt x j) 32 + 1 := cB_off h1 h2 (by simp) (fun j _ hne => by simp [hne])
      have e2 : cB (bt (x &&& (x - 1))) 32 = cB (fun j => if j = i then false else bt x j) 32 := cB_congr hb
      unfold pcn at h ⊢
      omega
    rw [eX10_ones_4, if_neg hx, ih _ _ hk]
    congr 4
    rw [← nI_1]; grind
theorem ones_e {x : Int32} {u : gMem} : mX10_ones [.ref 0, .int x] u = some (some (.int (nI (pcn x))), u) := by
  rw [eX10_ones, ones_l u _ x 0 rfl]
  congr 4
  grind
