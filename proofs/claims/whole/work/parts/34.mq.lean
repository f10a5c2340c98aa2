/-! what the reference's small methods answer, in the board's words -/
theorem EE.h {b u : gMem} {n a r : Nat} (e : EE b u n a r) : EH b u := e.1
theorem EE.j {b u : gMem} {n a r j : Nat} (e : EE b u n a r) (h : j < n) : EJ1 b u j := e.2.1 j h
theorem EH.n {b u : gMem} (e : EH b u) : u.1 1 11 = b.1 3 2 := e.2.1.2.1
theorem EH.r {b u : gMem} (e : EH b u) : u.1 1 13 = b.1 29 3 := e.2.1.2.2.2.1
theorem EH.d {b u : gMem} (e : EH b u) : u.1 1 14 = b.1 0 13 := e.2.1.2.2.2.2.1
theorem EH.t {b u : gMem} (e : EH b u) : u.1 1 10 = b.1 0 12 := e.2.1.1
theorem EH.a {b u : gMem} (e : EH b u) : u.1 1 12 = b.1 33 1 := e.2.1.2.2.1
theorem EH.p {b u : gMem} (e : EH b u) : u.1 1 0 + 16 = b.1 1 0 := e.1.1
theorem IA.n60 {b : gMem} {n a r p : Nat} (h : IA b n a r p) : n ≤ 60 := by have := h.2.2.2.1; omega
theorem IA.p32 {b : gMem} {n a r p : Nat} (h : IA b n a r p) : 4 ≤ p ∧ p ≤ 32 := by have := h.2.2.2.2.2.2; omega
theorem wd_vals (s : Nat) : wd s = 1 ∨ wd s = 2 ∨ wd s = 4 ∨ wd s = 8 ∨ wd s = 16 ∨ wd s = 32 := by unfold wd; grind
theorem wd_pos (s : Nat) : 1 ≤ wd s ∧ wd s ≤ 32 := by rcases wd_vals s with h | h | h | h | h | h <;> omega
theorem wd_ge {s : Nat} (h : s ≤ 32) : s ≤ wd s := by unfold wd; grind
section MQ
variable {b u : gMem} {n a r p t : Nat} {j : Nat}
theorem jw (h : IJ1 b p t j) : jn b 14 j = wd (jn b 5 j) := by
  have := h.2.2.2.2.2.1
  unfold jn at *
  rw [this, tn]
  rcases wd_vals (b.1 5 j).toNatClampNeg with h | h | h | h | h | h <;> omega
theorem jw_n (h : IJ1 b p t j) : b.1 14 j = nI (jn b 14 j) := by rw [jw h]; exact h.2.2.2.2.2.1
theorem m_isPlaced (e : EE b u n a r) (hj : j < n) (hn : n ≤ 60) : mX10_isPlaced [.ref 0, .int (nI j)] u = some (some (.int (if b.1 9 j = 2 then 1 else 0)), u) := by
  rw [eX10_isPlaced, at_4 (by omega), g_ci_some, (e.j hj).f4]
  split <;> rfl
theorem m_slotOf (e : EE b u n a r) (hj : j < n) (hn : n ≤ 60) : mX10_slotOf [.ref 0, .int (nI j)] u = some (some (.int (b.1 12 j)), u) := by
  rw [eX10_slotOf, at_7 (by omega), g_ci_some, (e.j hj).f7, i_sn]
theorem m_columnOf (e : EE b u n a r) (hj : j < n) (hn : n ≤ 60) : mX10_columnOf [.ref 0, .int (nI j)] u = some (some (.int (b.1 13 j)), u) := by
  rw [eX10_columnOf, at_8 (by omega), g_ci_some, (e.j hj).f8, i_sn]
theorem m_isAt (e : EE b u n a r) (hj : j < n) (hn : n ≤ 60) (s : Int32) : mX10_isAt [.ref 0, .int (nI j), .int s] u = some (some (.int (if b.1 9 j = 2 ∧ b.1 12 j = s then 1 else 0)), u) := by
  rw [eX10_isAt, m_isPlaced e hj hn, g_ci_some]
  by_cases h : b.1 9 j = 2
  · rw [if_pos h, if_neg (by decide), m_slotOf e hj hn, g_ci_some]
    by_cases h2 : b.1 12 j = s
    · rw [if_pos h2, if_pos ⟨h, h2⟩]
    · rw [if_neg h2, if_neg (fun q => h2 q.2)]
  · rw [if_neg h, if_pos rfl, if_neg (fun q => h q.1)]
theorem m_blockOf (e : EE b u n a r) (hj : j < n) (hn : n ≤ 60) (hJ : IJ1 b p t j) (hc : b.1 13 j = nI (jn b 13 j)) : mX10_blockOf [.ref 0, .int (nI j)] u = some (some (.int (bl b j)), u) := by
  rw [eX10_blockOf, m_columnOf e hj hn, g_ci_some, at_9 (by omega), g_ci_some, (e.j hj).f9, hc, jw_n hJ, mbits (by have := wd_pos (jn b 5 j); rw [jw hJ]; omega), g_ci_some]
  rfl
theorem m_cellsOf (e : EE b u n a r) (hj : j < n) (hn : n ≤ 60) (hp : p ≤ 32) (hJ : IJ1 b p t j) (hc : b.1 13 j = nI (jn b 13 j)) : mX10_cellsOf [.ref 0, .int (nI j)] u = some (some (.int (ce b j)), u) := by
  rw [eX10_cellsOf, m_columnOf e hj hn, g_ci_some, at_0 (by omega), g_ci_some, (e.j hj).f0, hc, hJ.1.1, mbits (by have := hJ.1.2.2; omega), g_ci_some]
  rfl
theorem ip_col (h : IP1 b r p j) (h2 : b.1 9 j = 2) : b.1 13 j = nI (jn b 13 j) := by
  rcases h with h | h
  · exact h.2.2.1
  · exact absurd h2 h.1
theorem ip_slot {s : Nat} (h : IP1 b r p j) (hs : s < 2147483648) (h2 : b.1 12 j = nI s) : b.1 9 j = 2 := by
  rcases h with h | h
  · exact h.1
  · rw [h.2.1] at h2; exact absurd h2.symm (nm1 hs)
theorem orF_congr {f g : Nat → Int32} : ∀ {k : Nat}, (∀ i, i < k → f i = g i) → orF f k = orF g k
  | 0, _ => rfl
  | k + 1, h => by show orF f k ||| f k = orF g k ||| g k; rw [orF_congr (fun i hi => h i (by omega)), h k (by omega)]
theorem orF_lp {f : Nat → Int32} (k : Nat) : lp (fun j acc => acc ||| f j) k 0 0 = orF f k := by
  induction k with
  | zero => rfl
  | succ k ih => rw [lp_succ, ih, Nat.zero_add]; rfl
theorem orF_bt (f : Nat → Int32) (i : Nat) : ∀ k, bt (orF f k) i = true ↔ ∃ j, j < k ∧ bt (f j) i = true
  | 0 => by simp [orF, b_0]
  | k + 1 => by
    show bt (orF f k ||| f k) i = true ↔ _
    rw [b_or, Bool.or_eq_true, orF_bt f i k]
    constructor
    · rintro (⟨j, h1, h2⟩ | h)
      · exact ⟨j, by omega, h2⟩
      · exact ⟨k, by omega, h⟩
    · rintro ⟨j, h1, h2⟩
      by_cases h : j < k
      · exact Or.inl ⟨j, h, h2⟩
      · rw [show j = k by omega] at h2; exact Or.inr h2
theorem or_zero (x : Int32) : x ||| 0 = x := b_ext (fun i _ => by rw [b_or, b_0, Bool.or_false])
/-- columns of blocks in a slot, but of one job -/
def bI (b : gMem) (s x : Int32) (j : Nat) : Int32 := if nI j ≠ x ∧ b.1 9 j = 2 ∧ b.1 12 j = s then bl b j else 0
theorem m_blocksIn (e : EE b u n a r) (hA : IA b n a r p) (hJ : IJ b n p t) (hP : IP b n r p) (s x : Int32) : mX10_blocksIn [.ref 0, .int s, .int x] u = some (some (.int (orF (bI b s x) n)), u) := by
  have hn := hA.n60
  rw [eX10_blocksIn]
  have := for_up0 (fun (acc : Int32) i => rX10_blocksIn_5 s x acc i u) (fun j acc => acc ||| bI b s x j) n (fun j acc hj => by
    show rX10_blocksIn_5 s x acc (nI j) u = rX10_blocksIn_5 s x (acc ||| bI b s x j) (nI (j + 1)) u
    rw [eX10_blocksIn_5, e.h.n, hA.1, if_neg (nI_ge hj (by omega))]
    unfold bI
    by_cases hx : nI j = x
    · rw [if_pos hx, if_neg (fun q => q.1 hx), or_zero, nI_1]
    · rw [if_neg hx, m_isAt e hj hn, g_ci_some]
      by_cases h : b.1 9 j = 2 ∧ b.1 12 j = s
      · rw [if_pos h, if_neg (by decide), m_blockOf e hj hn (hJ j hj) (ip_col (hP.1 j hj) h.1), g_ci_some, if_pos ⟨hx, h⟩, nI_1]
      · rw [if_neg h, if_pos rfl, if_neg (fun q => h q.2), or_zero, nI_1]) 0
  rw [this, eX10_blocksIn_5, e.h.n, hA.1, if_pos (nI_le (Nat.le_refl _) (by omega)), orF_lp]
theorem bI_sb (hP : IP b n r p) (hn : n ≤ 60) {s : Nat} (hs : s < 2147483648) (hj : j < n) : bI b (nI s) (-1) j = sb b s j := by
  unfold bI sb
  by_cases h : b.1 12 j = nI s
  · rw [if_pos h, if_pos ⟨nm1 (by omega), ip_slot (hP.1 j hj) hs h, h⟩]
  · rw [if_neg h, if_neg (fun q => h q.2.2)]
end MQ
