/-! ===== Int32 by its bits: bt x i ===== -/
def bt (x : Int32) (i : Nat) : Bool := x.toBitVec.getLsbD i
theorem b_ext {x y : Int32} (h : ∀ i, i < 32 → bt x i = bt y i) : x = y := Int32.toBitVec_inj.mp (BitVec.eq_of_getLsbD_eq (fun i hi => h i hi))
theorem b_or (x y : Int32) (i : Nat) : bt (x ||| y) i = (bt x i || bt y i) := by unfold bt; rw [Int32.toBitVec_or, BitVec.getLsbD_or]
theorem b_and (x y : Int32) (i : Nat) : bt (x &&& y) i = (bt x i && bt y i) := by unfold bt; rw [Int32.toBitVec_and, BitVec.getLsbD_and]
theorem b_xor (x y : Int32) (i : Nat) : bt (x ^^^ y) i = (bt x i ^^ bt y i) := by unfold bt; rw [Int32.toBitVec_xor, BitVec.getLsbD_xor]
theorem b_big {x : Int32} {i : Nat} (h : 32 ≤ i) : bt x i = false := BitVec.getLsbD_of_ge _ _ h
theorem b_m1 : ∀ i, i < 32 → bt (-1) i = true := by decide +kernel
theorem b_0 (i : Nat) : bt 0 i = false := BitVec.getLsbD_zero
theorem s_l : ∀ n, n < 32 → ((nI n &&& 31).toBitVec.smod 32).toNat = n := by decide +kernel
theorem s_u : ∀ n, n < 32 → (((nI n).toUInt32 &&& Int32.toUInt32 31).toBitVec % 32).toNat = n := by decide +kernel
theorem b_shl (n : Nat) (hn : n < 32) (x : Int32) {i : Nat} (hi : i < 32) : bt (x <<< (nI n &&& 31)) i = (decide (n ≤ i) && bt x (i - n)) := by
  unfold bt
  rw [Int32.toBitVec_shiftLeft]
  show (x.toBitVec <<< ((nI n &&& 31).toBitVec.smod 32).toNat).getLsbD i = _
  rw [s_l n hn, BitVec.getLsbD_shiftLeft]
  rcases Nat.lt_or_ge i n with h | h
  · simp [h, Nat.not_le.mpr h]
  · simp [hi, h, Nat.not_lt.mpr h]
theorem b_ushr (n : Nat) (hn : n < 32) (x : Int32) (i : Nat) : bt ((x.toUInt32 >>> ((nI n).toUInt32 &&& Int32.toUInt32 31)).toInt32) i = bt x (n + i) := by
  show (x.toUInt32 >>> ((nI n).toUInt32 &&& Int32.toUInt32 31)).toBitVec.getLsbD i = x.toUInt32.toBitVec.getLsbD (n + i)
  rw [UInt32.toBitVec_shiftRight]
  show (x.toUInt32.toBitVec >>> (((nI n).toUInt32 &&& Int32.toUInt32 31).toBitVec % 32).toNat).getLsbD i = _
  rw [s_u n hn, BitVec.getLsbD_ushiftRight]
theorem b_sshr (n : Nat) (hn : n < 32) (x : Int32) {i : Nat} (hi : i < 32) : bt (x >>> (nI n &&& 31)) i = if n + i < 32 then bt x (n + i) else bt x 31 := by
  unfold bt
  rw [Int32.toBitVec_shiftRight]
  show (x.toBitVec.sshiftRight ((nI n &&& 31).toBitVec.smod 32).toNat).getLsbD i = _
  rw [s_l n hn, BitVec.getLsbD_sshiftRight, BitVec.msb_eq_getLsbD_last]
  simp [hi]
/-! blocks of columns -/
def BK (c w : Nat) : Int32 := (if w = 32 then (-1 : Int32) else ((1 : Int32) <<< (nI w &&& 31)) - 1) <<< (nI c &&& 31)
theorem b_lo : ∀ w, w ≤ 32 → ∀ i, i < 32 → bt (if w = 32 then (-1 : Int32) else ((1 : Int32) <<< (nI w &&& 31)) - 1) i = decide (i < w) := by decide +kernel
theorem b_BK {c w i : Nat} (hc : c < 32) (hw : w ≤ 32) (hi : i < 32) : bt (BK c w) i = decide (c ≤ i ∧ i < c + w) := by
  unfold BK
  rw [b_shl c hc _ hi]
  by_cases h : c ≤ i
  · rw [b_lo w hw (i - c) (by omega)]
    simp only [h, decide_true, Bool.true_and, true_and]
    congr 1
    exact propext ⟨fun _ => by omega, fun _ => by omega⟩
  · simp [h]
theorem bk_c : ∀ c, c < 32 → ∀ w, w ≤ 32 → Int64.toInt32 ((((1 : Int64) <<< (Int32.toInt64 (nI w) &&& 63)) - 1) <<< (Int32.toInt64 (nI c) &&& 63)) = BK c w := by decide +kernel
theorem cbits {c w : Nat} {u : gMem} (hc : c < 32) (hw : w ≤ 32) : mX1_bits [.int (nI c), .int (nI w)] u = some (some (.int (BK c w)), u) := by rw [eX1_bits, bk_c c hc w hw]
theorem mbits {c w : Nat} {u : gMem} (hw : w ≤ 32) : mX10_bits [.ref 0, .int (nI c), .int (nI w)] u = some (some (.int (BK c w)), u) := by
  rw [eX10_bits]
  unfold BK
  by_cases h : w = 32
  · subst h; rfl
  · rw [if_neg (by rw [show (32 : Int32) = nI 32 from rfl, neq (by omega) (by omega)]; exact h), if_neg h]
theorem b_not (x : Int32) {i : Nat} (hi : i < 32) : bt (x ^^^ (-1)) i = !bt x i := by rw [b_xor, b_m1 i hi]; simp
theorem b_z {x : Int32} : x = 0 ↔ ∀ i, i < 32 → bt x i = false := ⟨fun h i _ => by rw [h, b_0], fun h => b_ext (fun i hi => by rw [h i hi, b_0])⟩
theorem b_gush (n : Nat) (hn : n < 32) (x : Int32) (i : Nat) : bt (g_ushr x (nI n)) i = bt x (n + i) := b_ushr n hn x i
theorem b_1 : ∀ i, i < 32 → bt 1 i = decide (i = 0) := by decide +kernel
theorem b_one {x : Int32} : (x &&& 1) = (if bt x 0 then 1 else 0) := by
  apply b_ext
  intro i hi
  rw [b_and, b_1 i hi]
  by_cases h : i = 0
  · subst h
    cases bt x 0 <;> simp [b_0, b_1]
  · cases bt x 0 <;> simp [h, b_0, b_1 i hi]
theorem u_bit {x : Int32} {c : Nat} (hc : c < 32) : (g_ushr x (nI c) &&& 1) = (if bt x c then 1 else 0) := by rw [b_one, b_gush c hc]; rfl
theorem s_bit {x : Int32} {c : Nat} (hc : c < 32) : ((x >>> (nI c &&& 31)) &&& 1) = (if bt x c then 1 else 0) := by
  rw [b_one, b_sshr c hc x (by omega)]
  simp [hc]
