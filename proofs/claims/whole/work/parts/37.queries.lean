/-! loops that only read: the board's and the reference's answers -/
def sF (f : Nat → Nat) : Nat → Nat
  | 0 => 0
  | k + 1 => sF f k + f k
theorem sF_congr {f g : Nat → Nat} : ∀ {k : Nat}, (∀ i, i < k → f i = g i) → sF f k = sF g k
  | 0, _ => rfl
  | k + 1, h => by show sF f k + f k = sF g k + g k; rw [sF_congr (fun i hi => h i (by omega)), h k (by omega)]
theorem sF_add (f g : Nat → Nat) : ∀ k, sF (fun i => f i + g i) k = sF f k + sF g k
  | 0 => rfl
  | k + 1 => by show sF _ k + (f k + g k) = (sF f k + f k) + (sF g k + g k); rw [sF_add f g k]; omega
theorem sF_0 : ∀ k, sF (fun _ => 0) k = 0
  | 0 => rfl
  | k + 1 => by show sF _ k + 0 = 0; rw [sF_0 k]
theorem sF_one {s : Nat} : ∀ {k : Nat}, sF (fun i => if i = s then 1 else 0) k = if s < k then 1 else 0
  | 0 => by simp [sF]
  | k + 1 => by
    show sF _ k + (if k = s then 1 else 0) = _
    rw [sF_one (k := k)]
    by_cases h : s < k
    · rw [if_pos h, if_neg (by omega), if_pos (by omega)]
    · by_cases h2 : k = s
      · rw [if_neg h, if_pos h2, if_pos (by omega)]
      · rw [if_neg h, if_neg h2, if_neg (by omega)]
theorem cB_sF (f : Nat → Bool) : ∀ k, cB f k = sF (fun i => if f i then 1 else 0) k
  | 0 => rfl
  | k + 1 => by show cB f k + _ = sF _ k + _; rw [cB_sF f k]
theorem lp_cB {f : Nat → Bool} (k : Nat) : lp (fun j (acc : Int32) => if f j then acc + 1 else acc) k 0 0 = nI (cB f k) := by
  induction k with
  | zero => rfl
  | succ k ih =>
    rw [lp_succ, ih, Nat.zero_add]
    show (if f k = true then nI (cB f k) + 1 else nI (cB f k)) = nI (cB f k + if f k = true then 1 else 0)
    split
    · rw [nI_1]
    · rfl
section QB
variable {b u : gMem} {n a r p t : Nat} {j : Nat}
theorem c_has (hA : IA b n a r p) (hj : j < n) : mX4_has [.ref 3, .int (nI j)] b = some (some (.int 1), b) := by
  have := hA.n60
  rw [eX4_has, if_neg (nneg (by omega)), hA.1, if_neg (nI_ge hj (by omega))]
theorem c_isPlaced (hA : IA b n a r p) (hj : j < n) : mX4_isPlaced [.ref 3, .int (nI j)] b = some (some (.int (if b.1 9 j = 2 then 1 else 0)), b) := by
  have := hA.n60
  rw [eX4_isPlaced, c_has hA hj, g_ci_some, if_neg (by decide), gin (by omega) (by omega), if_pos rfl, tn (by omega)]
  split <;> rfl
theorem c_state (hj : j < 60) : mX4_state [.ref 3, .int (nI j)] b = some (some (.int (b.1 9 j)), b) := by
  rw [eX4_state, gin (by omega) (by omega), if_pos rfl, tn (by omega)]
theorem c_block (hj : j < 60) (hJ : IJ1 b p t j) (hc : b.1 13 j = nI (jn b 13 j)) (hc2 : jn b 13 j < 32) : mX4_block [.ref 3, .int (nI j)] b = some (some (.int (bl b j)), b) := by
  have := wd_pos (jn b 5 j)
  rw [eX4_block, gin (by omega) (by omega), if_pos rfl, if_pos rfl, tn (by omega), hc, jw_n hJ, cbits hc2 (by rw [jw hJ]; omega), g_ci_some]
  rfl
theorem c_cells (hj : j < 60) (hp : p ≤ 32) (hJ : IJ1 b p t j) (hc : b.1 13 j = nI (jn b 13 j)) (hc2 : jn b 13 j < 32) : mX4_cells [.ref 3, .int (nI j)] b = some (some (.int (ce b j)), b) := by
  have := hJ.1.2.2
  rw [eX4_cells, gin (by omega) (by omega), if_pos rfl, if_pos rfl, tn (by omega), hc, hJ.1.1, cbits hc2 (by omega), g_ci_some]
  rfl
theorem ip_c32 (hp : p ≤ 32) (hJ : IJ1 b p t j) (h : IP1 b r p j) (h2 : b.1 9 j = 2) : jn b 13 j < 32 := by
  have hw := wd_pos (jn b 5 j)
  rw [← jw hJ] at hw
  rcases h with h | h
  · have := h.2.2.2.2.1; omega
  · exact absurd h2 h.1
theorem c_inState (hA : IA b n a r p) (x : Int32) : mX4_inState [.ref 3, .int x] b = some (some (.int (nI (cB (fun j => decide (b.1 9 j = x)) n))), b) := by
  have hn := hA.n60
  rw [eX4_inState, for_up0 (fun (acc : Int32) i => rX4_inState_4 x acc i b) (fun j acc => if decide (b.1 9 j = x) then acc + 1 else acc) n (fun j acc hj => by
    show rX4_inState_4 x acc (nI j) b = rX4_inState_4 x (if decide (b.1 9 j = x) = true then acc + 1 else acc) (nI (j + 1)) b
    rw [eX4_inState_4, hA.1, if_neg (nI_ge hj (by omega)), gin (by omega) (by omega), if_pos rfl, tn (by omega), nI_1]
    by_cases h : b.1 9 j = x <;> simp [h]) 0, lp_cB]
  rw [eX4_inState_4, hA.1, if_pos (nI_le (Nat.le_refl _) (by omega))]
theorem m_manyOf (e : EE b u n a r) (hA : IA b n a r p) (x : Int32) : mX10_manyOf [.ref 0, .int x] u = some (some (.int (nI (cB (fun j => decide (b.1 9 j = x)) n))), u) := by
  have hn := hA.n60
  rw [eX10_manyOf, for_up0 (fun (acc : Int32) i => rX10_manyOf_4 x acc i u) (fun j acc => if decide (b.1 9 j = x) then acc + 1 else acc) n (fun j acc hj => by
    show rX10_manyOf_4 x acc (nI j) u = rX10_manyOf_4 x (if decide (b.1 9 j = x) = true then acc + 1 else acc) (nI (j + 1)) u
    rw [eX10_manyOf_4, e.h.n, hA.1, if_neg (nI_ge hj (by omega)), at_4 (by omega), g_ci_some, (e.j hj).f4, nI_1]
    by_cases h : b.1 9 j = x <;> simp [h]) 0, lp_cB]
  rw [eX10_manyOf_4, e.h.n, hA.1, if_pos (nI_le (Nat.le_refl _) (by omega))]
theorem c_inSlot (hA : IA b n a r p) (x : Int32) : mX4_inSlot [.ref 3, .int x] b = some (some (.int (nI (cB (fun j => decide (b.1 12 j = x)) n))), b) := by
  have hn := hA.n60
  rw [eX4_inSlot, for_up0 (fun (acc : Int32) i => rX4_inSlot_4 x acc i b) (fun j acc => if decide (b.1 12 j = x) then acc + 1 else acc) n (fun j acc hj => by
    show rX4_inSlot_4 x acc (nI j) b = rX4_inSlot_4 x (if decide (b.1 12 j = x) = true then acc + 1 else acc) (nI (j + 1)) b
    rw [eX4_inSlot_4, hA.1, if_neg (nI_ge hj (by omega)), gin (by omega) (by omega), if_pos rfl, tn (by omega), nI_1]
    by_cases h : b.1 12 j = x <;> simp [h]) 0, lp_cB]
  rw [eX4_inSlot_4, hA.1, if_pos (nI_le (Nat.le_refl _) (by omega))]
theorem m_jobsIn (e : EE b u n a r) (hA : IA b n a r p) (hP : IP b n r p) {s : Nat} (hs : s < 2147483648) : mX10_jobsIn [.ref 0, .int (nI s)] u = some (some (.int (nI (cB (fun j => decide (b.1 12 j = nI s)) n))), u) := by
  have hn := hA.n60
  rw [eX10_jobsIn, for_up0 (fun (acc : Int32) i => rX10_jobsIn_4 (nI s) acc i u) (fun j acc => if decide (b.1 12 j = nI s) then acc + 1 else acc) n (fun j acc hj => by
    show rX10_jobsIn_4 (nI s) acc (nI j) u = rX10_jobsIn_4 (nI s) (if decide (b.1 12 j = nI s) = true then acc + 1 else acc) (nI (j + 1)) u
    rw [eX10_jobsIn_4, e.h.n, hA.1, if_neg (nI_ge hj (by omega)), m_isAt e hj hn, g_ci_some, nI_1]
    by_cases h : b.1 12 j = nI s
    · simp [h, ip_slot (hP.1 j hj) hs h]
    · simp [h]) 0, lp_cB]
  rw [eX10_jobsIn_4, e.h.n, hA.1, if_pos (nI_le (Nat.le_refl _) (by omega))]
/-- a slot's cells -/
def sc (b : gMem) (s : Nat) (j : Nat) : Int32 := if b.1 12 j = nI s then ce b j else 0
theorem c_cellsIn (hA : IA b n a r p) (hJ : IJ b n p t) (hP : IP b n r p) {s : Nat} (hs : s < 2147483648) : mX4_cellsIn [.ref 3, .int (nI s)] b = some (some (.int (orF (sc b s) n)), b) := by
  have hn := hA.n60
  rw [eX4_cellsIn, for_up0 (fun (acc : Int32) i => rX4_cellsIn_4 (nI s) acc i b) (fun j acc => acc ||| sc b s j) n (fun j acc hj => by
    show rX4_cellsIn_4 (nI s) acc (nI j) b = rX4_cellsIn_4 (nI s) (acc ||| sc b s j) (nI (j + 1)) b
    rw [eX4_cellsIn_4, hA.1, if_neg (nI_ge hj (by omega)), gin (by omega) (by omega), if_pos rfl, tn (by omega), nI_1]
    unfold sc
    by_cases h : b.1 12 j = nI s
    · have h2 := ip_slot (hP.1 j hj) hs h
      rw [if_pos h, if_pos h, c_cells (by omega) hA.p32.2 (hJ j hj) (ip_col (hP.1 j hj) h2) (ip_c32 hA.p32.2 (hJ j hj) (hP.1 j hj) h2), g_ci_some]
    · rw [if_neg h, if_neg h, or_zero]) 0, orF_lp]
  rw [eX4_cellsIn_4, hA.1, if_pos (nI_le (Nat.le_refl _) (by omega))]
theorem m_cellsIn (e : EE b u n a r) (hA : IA b n a r p) (hJ : IJ b n p t) (hP : IP b n r p) {s : Nat} (hs : s < 2147483648) : mX10_cellsIn [.ref 0, .int (nI s)] u = some (some (.int (orF (sc b s) n)), u) := by
  have hn := hA.n60
  rw [eX10_cellsIn, for_up0 (fun (acc : Int32) i => rX10_cellsIn_4 (nI s) acc i u) (fun j acc => acc ||| sc b s j) n (fun j acc hj => by
    show rX10_cellsIn_4 (nI s) acc (nI j) u = rX10_cellsIn_4 (nI s) (acc ||| sc b s j) (nI (j + 1)) u
    rw [eX10_cellsIn_4, e.h.n, hA.1, if_neg (nI_ge hj (by omega)), m_isAt e hj hn, g_ci_some, nI_1]
    unfold sc
    by_cases h : b.1 12 j = nI s
    · have h2 := ip_slot (hP.1 j hj) hs h
      rw [if_pos (show b.1 9 j = 2 ∧ b.1 12 j = nI s from ⟨h2, h⟩), if_neg (by decide), m_cellsOf e hj hn hA.p32.2 (hJ j hj) (ip_col (hP.1 j hj) h2), g_ci_some, if_pos h]
    · rw [if_neg (show ¬ (b.1 9 j = 2 ∧ b.1 12 j = nI s) from fun q => h q.2), if_pos rfl, if_neg h, or_zero]) 0, orF_lp]
  rw [eX10_cellsIn_4, e.h.n, hA.1, if_pos (nI_le (Nat.le_refl _) (by omega))]
theorem m_blocksIn0 (e : EE b u n a r) (hA : IA b n a r p) (hJ : IJ b n p t) (hP : IP b n r p) {s : Nat} (hs : s < 2147483648) : mX10_blocksIn [.ref 0, .int (nI s), .int (-1)] u = some (some (.int (orF (sb b s) n)), u) := by
  rw [m_blocksIn e hA hJ hP, orF_congr (fun j hj => bI_sb hP hA.n60 hs hj)]
theorem sb_none (hP : IP b n r p) {s : Nat} (hs : r ≤ s) (hs2 : s < 2147483648) (hr : r ≤ 8) : orF (sb b s) n = 0 := by
  apply b_z.mpr
  intro i _
  cases h : bt (orF (sb b s) n) i with
  | false => rfl
  | true =>
    obtain ⟨j, hj, h2⟩ := (orF_bt _ i n).mp h
    unfold sb at h2
    split at h2
    · rename_i h3
      rcases hP.1 j hj with q | q
      · have := q.2.1.2
        rw [q.2.1.1, neq (by omega) hs2] at h3
        omega
      · rw [q.2.1] at h3; exact absurd h3.symm (nm1 hs2)
    · rw [b_0] at h2; cases h2
/-- LOAD -/
def ld (b : gMem) (n c : Nat) : Nat := cB (fun j => decide (b.1 9 j = 2) && bt (bl b j) c) n
theorem m_loadOf (e : EE b u n a r) (hA : IA b n a r p) (hJ : IJ b n p t) (hP : IP b n r p) {c : Nat} (hc : c < 32) : mX10_loadOf [.ref 0, .int (nI c)] u = some (some (.int (nI (ld b n c))), u) := by
  have hn := hA.n60
  rw [eX10_loadOf, for_up0 (fun (acc : Int32) i => rX10_loadOf_4 (nI c) acc i u) (fun j acc => if (decide (b.1 9 j = 2) && bt (bl b j) c) then acc + 1 else acc) n (fun j acc hj => by
    show rX10_loadOf_4 (nI c) acc (nI j) u = rX10_loadOf_4 (nI c) (if (decide (b.1 9 j = 2) && bt (bl b j) c) = true then acc + 1 else acc) (nI (j + 1)) u
    rw [eX10_loadOf_4, e.h.n, hA.1, if_neg (nI_ge hj (by omega)), m_isPlaced e hj hn, g_ci_some, nI_1]
    by_cases h : b.1 9 j = 2
    · rw [if_pos h, if_neg (by decide), m_blockOf e hj hn (hJ j hj) (ip_col (hP.1 j hj) h), g_ci_some, s_bit hc]
      cases bt (bl b j) c <;> simp [h]
    · simp [h]) 0, lp_cB]
  rw [eX10_loadOf_4, e.h.n, hA.1, if_pos (nI_le (Nat.le_refl _) (by omega))]
  rfl
theorem lp_cB2 {f : Nat → Bool} (k : Nat) : lp (fun j (acc : Int32) => acc + (if f j then 1 else 0)) k 0 0 = nI (cB f k) := by
  rw [← lp_cB]
  apply lp_congr
  intro j s _ _
  cases f j
  · simp
  · simp
theorem c_loadOf0 (hA : IA b n a r p) {c : Nat} (hc : c < 32) : mX7_loadOf [.ref 29, .int (nI c)] b = some (some (.int (nI (cB (fun s => bt (b.1 32 s) c) r))), b) := by
  have hr := hA.2.2.2.2.1
  rw [eX7_loadOf, for_up0 (fun (acc : Int32) i => rX7_loadOf_4 (nI c) acc i b) (fun s acc => acc + (if bt (b.1 32 s) c then 1 else 0)) r (fun s acc hs => by
    show rX7_loadOf_4 (nI c) acc (nI s) b = rX7_loadOf_4 (nI c) (acc + (if bt (b.1 32 s) c = true then 1 else 0)) (nI (s + 1)) b
    rw [eX7_loadOf_4, hA.2.2.1, if_neg (nI_ge hs (by omega)), gin (by omega) (by omega), if_pos rfl, tn (by omega), nI_1, u_bit hc]) 0, lp_cB2]
  rw [eX7_loadOf_4, hA.2.2.1, if_pos (nI_le (Nat.le_refl _) (by omega))]
theorem ld_slot (hA : IA b n a r p) (hP : IP b n r p) (hS : IS b n r) {c s : Nat} (hs : s < r) : (if bt (b.1 32 s) c then 1 else 0) = cB (fun j => decide (b.1 12 j = nI s) && bt (bl b j) c) n := by
  have hr := hA.2.2.2.2.1
  rw [hS s hs]
  have key : ∀ k, k ≤ n → cB (fun j => decide (b.1 12 j = nI s) && bt (bl b j) c) k = if bt (orF (sb b s) k) c then 1 else 0 := by
    intro k
    induction k with
    | zero => intro _; simp [cB, orF, b_0]
    | succ k ih =>
      intro hk
      show cB _ k + (if (decide (b.1 12 k = nI s) && bt (bl b k) c) = true then 1 else 0) = if bt (orF (sb b s) k ||| sb b s k) c = true then 1 else 0
      rw [ih (by omega), b_or]
      have hsb : bt (sb b s k) c = (decide (b.1 12 k = nI s) && bt (bl b k) c) := by
        unfold sb
        by_cases h : b.1 12 k = nI s
        · simp [h]
        · simp [h, b_0]
      rw [hsb]
      by_cases h1 : (decide (b.1 12 k = nI s) && bt (bl b k) c) = true
      · have h2 : bt (orF (sb b s) k) c = false := by
          cases h3 : bt (orF (sb b s) k) c with
          | false => rfl
          | true =>
            exfalso
            obtain ⟨i, hi, h4⟩ := (orF_bt _ c k).mp h3
            simp only [Bool.and_eq_true, decide_eq_true_eq] at h1
            unfold sb at h4
            split at h4
            · rename_i h5
              have h6 := hP.2 i k (by omega) (by omega) (by omega) (ip_slot (hP.1 i (by omega)) (by omega) h5) (h5.trans h1.1.symm)
              have h7 := congrArg (fun x => bt x c) h6
              simp only [b_and, h4, h1.2, b_0] at h7
              cases h7
            · rw [b_0] at h4; cases h4
        rw [h2, h1]
        rfl
      · rw [if_neg h1, Bool.eq_false_iff.mpr h1, Bool.or_false]
        rfl
  exact (key n (Nat.le_refl n)).symm
theorem ld_eq (hA : IA b n a r p) (hP : IP b n r p) (hS : IS b n r) {c : Nat} : cB (fun s => bt (b.1 32 s) c) r = ld b n c := by
  have hr := hA.2.2.2.2.1
  rw [cB_sF, sF_congr (fun s hs => ld_slot hA hP hS hs)]
  have key : ∀ k, k ≤ n → sF (fun s => cB (fun j => decide (b.1 12 j = nI s) && bt (bl b j) c) k) r = cB (fun j => decide (b.1 9 j = 2) && bt (bl b j) c) k := by
    intro k
    induction k with
    | zero => intro _; exact sF_0 r
    | succ k ih =>
      intro hk
      show sF (fun s => cB (fun j => decide (b.1 12 j = nI s) && bt (bl b j) c) k + (if (decide (b.1 12 k = nI s) && bt (bl b k) c) then 1 else 0)) r = cB _ k + (if (decide (b.1 9 k = 2) && bt (bl b k) c) = true then 1 else 0)
      rw [sF_add, ih (by omega)]
      congr 1
      by_cases hB : bt (bl b k) c = true
      · rcases hP.1 k (by omega) with q | q
        · have e1 : ∀ s, s < r → (if (decide (b.1 12 k = nI s) && bt (bl b k) c) = true then 1 else 0) = (if s = jn b 12 k then 1 else 0) := by
            intro s hs
            have e3 : (b.1 12 k = nI s) ↔ (s = jn b 12 k) := by
              have := q.2.1.2
              constructor
              · intro h; rw [q.2.1.1, neq (by omega) (by omega)] at h; exact h.symm
              · intro h; rw [h]; exact q.2.1.1
            by_cases h : s = jn b 12 k
            · rw [if_pos h, if_pos (by rw [decide_eq_true (e3.mpr h), hB]; rfl)]
            · rw [if_neg h, if_neg (by rw [decide_eq_false (fun w => h (e3.mp w))]; exact Bool.false_ne_true)]
          rw [sF_congr e1, sF_one, if_pos q.2.1.2, if_pos (by rw [decide_eq_true q.1, hB]; rfl)]
        · have e1 : ∀ s, s < r → (if (decide (b.1 12 k = nI s) && bt (bl b k) c) = true then 1 else 0) = 0 := by
            intro s hs
            rw [if_neg (by rw [decide_eq_false (by rw [q.2.1]; exact fun h => nm1 (by omega) h.symm)]; exact Bool.false_ne_true)]
          rw [sF_congr e1, sF_0, if_neg (by rw [decide_eq_false q.1]; exact Bool.false_ne_true)]
      · have hB := Bool.eq_false_iff.mpr hB
        have e1 : ∀ s, s < r → (if (decide (b.1 12 k = nI s) && bt (bl b k) c) = true then 1 else 0) = 0 := by
          intro s hs
          rw [hB, Bool.and_false]; rfl
        rw [sF_congr e1, sF_0, hB, Bool.and_false]; rfl
  exact key n (Nat.le_refl n)
theorem c_loadOf (hA : IA b n a r p) (hP : IP b n r p) (hS : IS b n r) {c : Nat} (hc : c < 32) : mX7_loadOf [.ref 29, .int (nI c)] b = some (some (.int (nI (ld b n c))), b) := by
  rw [c_loadOf0 hA hc, ld_eq hA hP hS]
theorem ld_60 (hn : n ≤ 60) (c : Nat) : ld b n c ≤ 60 := Nat.le_trans (cB_le _ n) hn
end QB
