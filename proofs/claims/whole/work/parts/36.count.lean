/-! Integer.bitCount counts the bits; the lowest bit -/
def m55 : Nat → Nat
  | 0 => 0
  | n + 1 => 256 * m55 n + 85
def m33 : Nat → Nat
  | 0 => 0
  | n + 1 => 256 * m33 n + 51
def m0f : Nat → Nat
  | 0 => 0
  | n + 1 => 256 * m0f n + 15
theorem and_split (a M m : Nat) (hm : m < 256) : a &&& (256 * M + m) = 256 * ((a / 256) &&& M) + ((a % 256) &&& m) := by
  have h1 : (a &&& (256 * M + m)) / 2 ^ 8 = (a / 2 ^ 8) &&& ((256 * M + m) / 2 ^ 8) := Nat.and_div_two_pow
  have h2 : (a &&& (256 * M + m)) % 2 ^ 8 = (a % 2 ^ 8) &&& ((256 * M + m) % 2 ^ 8) := Nat.and_mod_two_pow
  have h3 := Nat.div_add_mod (a &&& (256 * M + m)) (2 ^ 8)
  rw [h1, h2] at h3
  have e1 : (256 * M + m) / 2 ^ 8 = M := by omega
  have e2 : (256 * M + m) % 2 ^ 8 = m := by omega
  rw [e1, e2] at h3
  exact h3.symm
/-- the three first steps, on n bytes; on one -/
def f1 (n X : Nat) : Nat := X - ((X / 2) &&& m55 n)
def f2 (n X : Nat) : Nat := (X &&& m33 n) + ((X / 4) &&& m33 n)
def f3 (n X : Nat) : Nat := (X + X / 16) &&& m0f n
theorem d55 : ∀ B, B < 256 → ∀ y, y < 2 → (128 * y + B / 2) % 256 &&& 85 = (B / 2) &&& 85 ∧ ((B / 2) &&& 85) ≤ B := by decide +kernel
theorem d33 : ∀ B, B < 256 → ∀ y, y < 4 → (64 * y + B / 4) % 256 &&& 51 = (B / 4) &&& 51 := by decide +kernel
theorem e1b (n Y B : Nat) (hB : B < 256) : f1 (n + 1) (256 * Y + B) = 256 * f1 n Y + (B - ((B / 2) &&& 85)) := by
  unfold f1
  show 256 * Y + B - ((256 * Y + B) / 2 &&& (256 * m55 n + 85)) = _
  rw [and_split _ _ _ (by omega), show (256 * Y + B) / 2 / 256 = Y / 2 by omega, show (256 * Y + B) / 2 % 256 = (128 * (Y % 2) + B / 2) % 256 by omega]
  obtain ⟨h1, h2⟩ := d55 B hB (Y % 2) (by omega)
  rw [h1]
  have h3 : (Y / 2 &&& m55 n) ≤ Y := Nat.le_trans Nat.and_le_left (by omega)
  omega
theorem e2b (n Y B : Nat) (hB : B < 256) : f2 (n + 1) (256 * Y + B) = 256 * f2 n Y + ((B &&& 51) + ((B / 4) &&& 51)) := by
  unfold f2
  show ((256 * Y + B) &&& (256 * m33 n + 51)) + ((256 * Y + B) / 4 &&& (256 * m33 n + 51)) = _
  rw [and_split _ _ _ (by omega), and_split _ _ _ (by omega), show (256 * Y + B) / 4 / 256 = Y / 4 by omega, show (256 * Y + B) / 4 % 256 = (64 * (Y % 4) + B / 4) % 256 by omega, show (256 * Y + B) / 256 = Y by omega, show (256 * Y + B) % 256 = B by omega, d33 B hB (Y % 4) (by omega)]
  omega
theorem e3b (n Y B : Nat) (hB : B % 16 ≤ 4 ∧ B / 16 ≤ 4) (hY : Y % 16 ≤ 4) : f3 (n + 1) (256 * Y + B) = 256 * f3 n Y + (B % 16 + B / 16) := by
  unfold f3
  show ((256 * Y + B) + (256 * Y + B) / 16 &&& (256 * m0f n + 15)) = _
  rw [and_split _ _ _ (by omega), show ((256 * Y + B) + (256 * Y + B) / 16) / 256 = Y + Y / 16 by omega]
  have h : ∀ z, z &&& 15 = z % 16 := fun z => Nat.and_two_pow_sub_one_eq_mod z 4
  rw [h]
  omega
/-- a byte's share -/
def s1 (B : Nat) : Nat := B - ((B / 2) &&& 85)
def s2 (B : Nat) : Nat := (s1 B &&& 51) + ((s1 B / 4) &&& 51)
def s3 (B : Nat) : Nat := s2 B % 16 + s2 B / 16
theorem s_ok : ∀ B, B < 256 → s1 B < 256 ∧ s2 B % 16 ≤ 4 ∧ s2 B / 16 ≤ 4 ∧ s2 B < 256 ∧ s3 B = cB (fun i => B.testBit i) 8 := by decide +kernel
theorem swar_n {B0 B1 B2 B3 : Nat} (h0 : B0 < 256) (h1 : B1 < 256) (h2 : B2 < 256) (h3 : B3 < 256) : f3 4 (f2 4 (f1 4 (256 * (256 * (256 * B3 + B2) + B1) + B0))) = 256 * (256 * (256 * s3 B3 + s3 B2) + s3 B1) + s3 B0 := by
  obtain ⟨a0, b0, c0, d0, -⟩ := s_ok B0 h0
  obtain ⟨a1, b1, c1, d1, -⟩ := s_ok B1 h1
  obtain ⟨a2, b2, c2, d2, -⟩ := s_ok B2 h2
  obtain ⟨a3, b3, c3, d3, -⟩ := s_ok B3 h3
  have z1 : ∀ B, B < 256 → f1 1 B = s1 B := fun B hB => by have := e1b 0 0 B hB; simp at this; rw [this]; unfold f1 s1; simp
  have z2 : ∀ B, B < 256 → f2 1 B = (B &&& 51) + ((B / 4) &&& 51) := fun B hB => by have := e2b 0 0 B hB; simp at this; rw [this]; unfold f2; simp
  have z3 : ∀ B, B % 16 ≤ 4 ∧ B / 16 ≤ 4 → f3 1 B = B % 16 + B / 16 := fun B hB => by have := e3b 0 0 B hB (by omega); simp at this; rw [this]; unfold f3; simp
  rw [e1b 3 _ _ h0, e1b 2 _ _ h1, e1b 1 _ _ h2, z1 _ h3]
  show f3 4 (f2 4 (256 * (256 * (256 * s1 B3 + s1 B2) + s1 B1) + s1 B0)) = _
  rw [e2b 3 _ _ a0, e2b 2 _ _ a1, e2b 1 _ _ a2, z2 _ a3]
  show f3 4 (256 * (256 * (256 * s2 B3 + s2 B2) + s2 B1) + s2 B0) = _
  rw [e3b 3 _ _ ⟨b0, c0⟩ (by omega), e3b 2 _ _ ⟨b1, c1⟩ (by omega), e3b 1 _ _ ⟨b2, c2⟩ (by omega), z3 _ ⟨b3, c3⟩]
  rfl
theorem cB_add (f : Nat → Bool) (m : Nat) : ∀ k, cB f (m + k) = cB f m + cB (fun i => f (m + i)) k
  | 0 => rfl
  | k + 1 => by
    show cB f (m + k) + (if f (m + k) then 1 else 0) = cB f m + (cB (fun i => f (m + i)) k + (if f (m + k) then 1 else 0))
    rw [cB_add f m k, Nat.add_assoc]
theorem bt_nat (x : Int32) (i : Nat) : bt x i = x.toBitVec.toNat.testBit i := rfl
theorem pcn_bytes (x : Int32) : pcn x = s3 (x.toBitVec.toNat % 256) + s3 (x.toBitVec.toNat / 256 % 256) + s3 (x.toBitVec.toNat / 65536 % 256) + s3 (x.toBitVec.toNat / 16777216 % 256) := by
  have hx : x.toBitVec.toNat < 4294967296 := x.toBitVec.isLt
  generalize hN : x.toBitVec.toNat = N at hx
  have hp : pcn x = cB (fun i => N.testBit i) 32 := by unfold pcn; exact cB_congr (fun i _ => by rw [bt_nat, hN])
  have hb : ∀ k, cB (fun i => N.testBit (8 * k + i)) 8 = s3 (N / 2 ^ (8 * k) % 256) := by
    intro k
    rw [(s_ok (N / 2 ^ (8 * k) % 256) (by omega)).2.2.2.2]
    apply cB_congr
    intro i hi
    rw [show (256 : Nat) = 2 ^ 8 from rfl, Nat.testBit_mod_two_pow, Nat.testBit_div_two_pow]
    simp [hi, Nat.add_comm]
  rw [hp, show (32 : Nat) = 8 + 8 + 8 + 8 from rfl, cB_add, cB_add, cB_add]
  have e0 := hb 0
  have e1 := hb 1
  have e2 := hb 2
  have e3 := hb 3
  simp only [Nat.mul_zero, Nat.zero_add, Nat.pow_zero, Nat.div_one] at e0
  rw [e0]
  rw [show (fun i => N.testBit (8 + i)) = (fun i => N.testBit (8 * 1 + i)) from rfl, e1, show (fun i => N.testBit (8 + 8 + i)) = (fun i => N.testBit (8 * 2 + i)) from rfl, e2, show (fun i => N.testBit (8 + 8 + 8 + i)) = (fun i => N.testBit (8 * 3 + i)) from rfl, e3]
theorem t_and (x y : Int32) : (x &&& y).toBitVec.toNat = x.toBitVec.toNat &&& y.toBitVec.toNat := by rw [Int32.toBitVec_and, BitVec.toNat_and]
theorem t_sub {x y : Int32} (h : y.toBitVec.toNat ≤ x.toBitVec.toNat) : (x - y).toBitVec.toNat = x.toBitVec.toNat - y.toBitVec.toNat := by
  rw [Int32.toBitVec_sub, BitVec.toNat_sub_of_le (by exact h)]
theorem t_add {x y : Int32} (h : x.toBitVec.toNat + y.toBitVec.toNat < 4294967296) : (x + y).toBitVec.toNat = x.toBitVec.toNat + y.toBitVec.toNat := by
  rw [Int32.toBitVec_add, BitVec.toNat_add, Nat.mod_eq_of_lt h]
theorem t_u1 (x : Int32) : (g_ushr x 1).toBitVec.toNat = x.toBitVec.toNat / 2 := pk_ushr x 1 1 (by decide)
theorem t_u2 (x : Int32) : (g_ushr x 2).toBitVec.toNat = x.toBitVec.toNat / 4 := pk_ushr x 2 2 (by decide)
theorem t_u4 (x : Int32) : (g_ushr x 4).toBitVec.toNat = x.toBitVec.toNat / 16 := pk_ushr x 4 4 (by decide)
theorem t_u8 (x : Int32) : (g_ushr x 8).toBitVec.toNat = x.toBitVec.toNat / 256 := pk_ushr x 8 8 (by decide)
theorem t_u16 (x : Int32) : (g_ushr x 16).toBitVec.toNat = x.toBitVec.toNat / 65536 := pk_ushr x 16 16 (by decide)
theorem swar_sum {c0 c1 c2 c3 : Nat} (h0 : c0 ≤ 8) (h1 : c1 ≤ 8) (h2 : c2 ≤ 8) (h3 : c3 ≤ 8) : ((256 * (256 * (256 * c3 + c2) + c1) + c0) + (256 * (256 * (256 * c3 + c2) + c1) + c0) / 256 + ((256 * (256 * (256 * c3 + c2) + c1) + c0) + (256 * (256 * (256 * c3 + c2) + c1) + c0) / 256) / 65536) % 2 ^ 6 = c0 + c1 + c2 + c3 := by
  have e1 : (256 * (256 * (256 * c3 + c2) + c1) + c0) / 256 = 256 * (256 * c3 + c2) + c1 := by omega
  rw [e1]
  have e2 : (256 * (256 * (256 * c3 + c2) + c1) + c0 + (256 * (256 * c3 + c2) + c1)) / 65536 = 256 * c3 + c2 + c3 := by omega
  rw [e2]
  omega
theorem bitCount_e {x : Int32} {u : gMem} : mJ6_bitCount_0f7a4 [.int x] u = some (some (.int (nI (pcn x))), u) := by
  rw [eJ6_bitCount_0f7a4]
  congr 4
  generalize hx1 : x - (g_ushr x 1 &&& 1431655765) = x1
  generalize hx2 : (x1 &&& 858993459) + (g_ushr x1 2 &&& 858993459) = x2
  generalize hx3 : (x2 + g_ushr x2 4) &&& 252645135 = x3
  have hx : x.toBitVec.toNat < 4294967296 := x.toBitVec.isLt
  generalize hN : x.toBitVec.toNat = N at hx
  have hpc := pcn_bytes x
  rw [hN] at hpc
  have n1 : x1.toBitVec.toNat = f1 4 N := by
    rw [← hx1, t_sub, t_and, t_u1, hN]
    · rfl
    · rw [t_and, t_u1, hN]; exact Nat.le_trans Nat.and_le_left (by omega)
  have n2 : x2.toBitVec.toNat = f2 4 (f1 4 N) := by
    have k1 : (x1.toBitVec.toNat &&& 858993459) ≤ 858993459 := Nat.and_le_right
    have k2 : (x1.toBitVec.toNat / 4 &&& 858993459) ≤ 858993459 := Nat.and_le_right
    rw [← hx2, t_add, t_and, t_and, t_u2, n1]
    · rfl
    · rw [t_and, t_and, t_u2]
      exact Nat.lt_of_le_of_lt (Nat.add_le_add k1 k2) (by omega)
  have hs := swar_n (B0 := N % 256) (B1 := N / 256 % 256) (B2 := N / 65536 % 256) (B3 := N / 16777216 % 256) (by omega) (by omega) (by omega) (by omega)
  rw [show 256 * (256 * (256 * (N / 16777216 % 256) + N / 65536 % 256) + N / 256 % 256) + N % 256 = N by omega] at hs
  have n2b : f2 4 (f1 4 N) ≤ 1717986918 := by
    unfold f2
    have k1 : (f1 4 N &&& m33 4) ≤ m33 4 := Nat.and_le_right
    have k2 : (f1 4 N / 4 &&& m33 4) ≤ m33 4 := Nat.and_le_right
    have k3 : m33 4 = 858993459 := rfl
    omega
  have n3 : x3.toBitVec.toNat = f3 4 (f2 4 (f1 4 N)) := by
    rw [← hx3, t_and, t_add, t_u4, n2]
    · rfl
    · rw [t_u4, n2]; omega
  rw [hs] at n3
  have q0 := (s_ok (N % 256) (by omega)).2
  have q1 := (s_ok (N / 256 % 256) (by omega)).2
  have q2 := (s_ok (N / 65536 % 256) (by omega)).2
  have q3 := (s_ok (N / 16777216 % 256) (by omega)).2
  have w0 : s3 (N % 256) ≤ 8 := by unfold s3; omega
  have w1 : s3 (N / 256 % 256) ≤ 8 := by unfold s3; omega
  have w2 : s3 (N / 65536 % 256) ≤ 8 := by unfold s3; omega
  have w3 : s3 (N / 16777216 % 256) ≤ 8 := by unfold s3; omega
  generalize s3 (N % 256) = c0 at *
  generalize s3 (N / 256 % 256) = c1 at *
  generalize s3 (N / 65536 % 256) = c2 at *
  generalize s3 (N / 16777216 % 256) = c3 at *
  have n4 : (x3 + g_ushr x3 8).toBitVec.toNat = x3.toBitVec.toNat + x3.toBitVec.toNat / 256 := by
    rw [t_add, t_u8]; rw [t_u8]; omega
  have n5 : (x3 + g_ushr x3 8 + g_ushr (x3 + g_ushr x3 8) 16).toBitVec.toNat = (x3.toBitVec.toNat + x3.toBitVec.toNat / 256) + (x3.toBitVec.toNat + x3.toBitVec.toNat / 256) / 65536 := by
    rw [t_add, t_u16, n4]; rw [t_u16, n4]; omega
  apply Int32.toBitVec_inj.mp
  apply BitVec.eq_of_toNat_eq
  rw [t_and, n5, show (63 : Int32).toBitVec.toNat = 2 ^ 6 - 1 from by decide, Nat.and_two_pow_sub_one_eq_mod]
  have e9 : (nI (pcn x)).toBitVec.toNat = pcn x := pk_tn (by omega)
  rw [e9, hpc, n3]
  exact swar_sum w0 w1 w2 w3
theorem low_v : ∀ i, i < 32 → pcn (((1 : Int32) <<< (nI i &&& 31)) - 1) = i := by decide +kernel
theorem b_1shl {i k : Nat} (hi : i < 32) (hk : k < 32) : bt ((1 : Int32) <<< (nI i &&& 31)) k = decide (k = i) := by
  rw [b_shl i hi 1 hk]
  by_cases h : i ≤ k
  · rw [b_1 (k - i) (by omega)]
    by_cases h2 : k = i
    · subst h2; simp
    · simp [h, h2, show ¬ k - i = 0 by omega]
  · simp [h, show ¬ k = i by omega]
theorem lowest_e {x : Int32} {u : gMem} {i : Nat} (hi : i < 32) (hb : bt x i = true) (hl : ∀ j, j < i → bt x j = false) : mX1_lowest [.int x] u = some (some (.int (nI i)), u) := by
  have hx : x ≠ 0 := by intro q; rw [q, b_0] at hb; cases hb
  have he : x &&& (-x) = (1 : Int32) <<< (nI i &&& 31) := by
    apply b_ext
    intro k hk
    rw [b_and, b_neg x hk, b_1shl hi hk]
    by_cases h1 : k = i
    · subst h1
      have : ¬ ∃ q, q < k ∧ bt x q = true := by rintro ⟨q, q1, q2⟩; rw [hl q q1] at q2; cases q2
      simp [hb, this]
    · by_cases h2 : k < i
      · rw [hl k h2]; simp [h1]
      · have : ∃ q, q < k ∧ bt x q = true := ⟨i, by omega, hb⟩
        simp only [this, decide_true, h1, decide_false]
        cases bt x k <;> rfl
  rw [eX1_lowest, if_neg hx, he, bitCount_e, g_ci_some, low_v i hi]
theorem lowest_0 {u : gMem} : mX1_lowest [.int 0] u = some (some (.int (-1)), u) := by rw [eX1_lowest, if_pos rfl]
