/-! the relation between a board's memory (b) and the reference's (u): E the equalities, I what holds of the board -/
def orF (f : Nat → Int32) : Nat → Int32
  | 0 => 0
  | k + 1 => orF f k ||| f k
def jn (b : gMem) (c j : Nat) : Nat := (b.1 c j).toNatClampNeg
/-- the least power of two that is not less (up to 32) -/
def wd (s : Nat) : Nat := if s ≤ 1 then 1 else if s ≤ 2 then 2 else if s ≤ 4 then 4 else if s ≤ 8 then 8 else if s ≤ 16 then 16 else 32
/-- a job's block -/
def bl (b : gMem) (j : Nat) : Int32 := BK (jn b 13 j) (jn b 14 j)
/-- a job's cells -/
def ce (b : gMem) (j : Nat) : Int32 := BK (jn b 13 j) (jn b 5 j)
def EH (b u : gMem) : Prop := (u.1 1 0 + 16 = b.1 1 0 ∧ u.1 1 1 + 4 = b.1 1 1 ∧ u.1 1 2 + 0 = b.1 1 2 ∧ u.1 1 3 + 0 = b.1 1 3 ∧ u.1 1 4 + 0 = b.1 1 4 ∧ u.1 1 5 + 10 = b.1 1 5 ∧ u.1 1 6 + 1 = b.1 1 6 ∧ u.1 1 7 + 0 = b.1 1 7 ∧ u.1 1 8 + 1 = b.1 1 8 ∧ u.1 1 9 + 1 = b.1 1 9) ∧
  (u.1 1 10 = b.1 0 12 ∧ u.1 1 11 = b.1 3 2 ∧ u.1 1 12 = b.1 33 1 ∧ u.1 1 13 = b.1 29 3 ∧ u.1 1 14 = b.1 0 13 ∧ u.1 1 15 = b.1 39 1 ∧ u.1 1 16 = b.1 46 1) ∧
  (∀ k, k < 11 → u.1 1 (18 + k) = b.1 2 k) ∧ (∀ v, v < 6 → u.1 1 (30 + v) + 1 = b.1 26 v) ∧ (∀ v, v < 6 → u.1 1 (36 + v) = b.1 27 v)
def EJ1 (b u : gMem) (j : Nat) : Prop := mA u j 0 = b.1 5 j ∧ mA u j 1 = b.1 6 j ∧ mA u j 2 = b.1 7 j ∧ mA u j 3 = b.1 8 j + 1 ∧ mA u j 4 = b.1 9 j ∧ mA u j 5 = b.1 10 j ∧ mA u j 6 = b.1 11 j ∧ mA u j 7 = b.1 12 j + 1 ∧ mA u j 8 = b.1 13 j + 1 ∧ mA u j 9 = b.1 14 j ∧ mA u j 10 = b.1 15 j ∧ mA u j 11 = b.1 16 j ∧ mA u j 12 = b.1 17 j ∧ mA u j 13 = b.1 18 j ∧ mA u j 14 = b.1 19 j + 1 ∧ mA u j 15 = b.1 20 j + 1 ∧ mA u j 16 = b.1 21 j ∧ mA u j 17 = b.1 22 j ∧ mA u j 18 = b.1 23 j
def EJ (b u : gMem) (n : Nat) : Prop := ∀ j, j < n → EJ1 b u j
def ER (b u : gMem) (a : Nat) : Prop := ∀ i, i < a → mR u i 0 = b.1 35 i ∧ mR u i 1 = b.1 36 i ∧ mR u i 2 = b.1 37 i ∧ mR u i 3 = b.1 38 i
def ET (b u : gMem) (r : Nat) : Prop := ∀ s, s < r → mT u s = b.1 31 s ∧ u.2 3 s = b.2 30 s
def EL (b u : gMem) : Prop := ∀ k, k < 60 → mL u k 0 = b.1 41 k ∧ mL u k 1 = b.1 42 k ∧ mL u k 2 = b.1 43 k ∧ mL u k 3 = b.1 44 k ∧ mL u k 4 = b.1 45 k
def EV (b u : gMem) : Prop := ∀ k, k < 60 → mV u k 0 = b.1 48 k ∧ mV u k 1 = b.1 49 k ∧ mV u k 2 = b.1 50 k ∧ mV u k 3 = b.1 51 k
def EE (b u : gMem) (n a r : Nat) : Prop := EH b u ∧ EJ b u n ∧ ER b u a ∧ ET b u r ∧ EL b u ∧ EV b u
/-- counts -/
def IA (b : gMem) (n a r p : Nat) : Prop := b.1 3 2 = nI n ∧ b.1 33 1 = nI a ∧ b.1 29 3 = nI r ∧ n + a ≤ 60 ∧ r ≤ 8 ∧ b.1 1 0 = nI p ∧ (p = 4 ∨ p = 8 ∨ p = 16 ∨ p = 32)
/-- what was told -/
def IT (b : gMem) : Prop := (b.1 1 1 = nI (jn b 1 1) ∧ 1 ≤ jn b 1 1 ∧ jn b 1 1 ≤ 8) ∧ (b.1 1 2 = nI (jn b 1 2) ∧ jn b 1 2 ≤ 2) ∧ (b.1 1 3 = nI (jn b 1 3) ∧ jn b 1 3 ≤ 1) ∧ (b.1 1 4 = nI (jn b 1 4) ∧ jn b 1 4 ≤ 9) ∧ (b.1 1 5 = nI (jn b 1 5) ∧ jn b 1 5 ≤ 99) ∧ (b.1 1 6 = nI (jn b 1 6) ∧ jn b 1 6 ≤ 9) ∧ (b.1 1 7 = nI (jn b 1 7) ∧ jn b 1 7 ≤ 99) ∧ (b.1 1 8 = nI (jn b 1 8) ∧ jn b 1 8 ≤ 1) ∧ (b.1 1 9 = nI (jn b 1 9) ∧ jn b 1 9 ≤ 1)
/-- a job's numbers -/
def IJ1 (b : gMem) (p t j : Nat) : Prop := (b.1 5 j = nI (jn b 5 j) ∧ 1 ≤ jn b 5 j ∧ jn b 5 j ≤ p) ∧ (b.1 7 j = nI (jn b 7 j) ∧ jn b 7 j < 6) ∧ (b.1 8 j = -1 ∨ (b.1 8 j = nI (jn b 8 j) ∧ jn b 8 j < j)) ∧ (b.1 9 j = nI (jn b 9 j) ∧ jn b 9 j < 5 ∧ (jn b 9 j = 0 → b.1 8 j = nI (jn b 8 j) ∧ jn b 8 j < j)) ∧ (b.1 10 j = nI (jn b 10 j) ∧ b.1 11 j = nI (jn b 11 j) ∧ jn b 10 j ≤ jn b 11 j ∧ jn b 11 j ≤ 9999 ∧ (jn b 9 j < 2 → 1 ≤ jn b 10 j) ∧ (jn b 9 j < 3 → b.1 20 j = -1)) ∧ b.1 14 j = nI (wd (jn b 5 j)) ∧ (b.1 17 j = nI (jn b 17 j) ∧ jn b 17 j < 1000) ∧ (b.1 19 j = -1 ∨ (b.1 19 j = nI (jn b 19 j) ∧ jn b 19 j ≤ t))
def IJ (b : gMem) (n p t : Nat) : Prop := ∀ j, j < n → IJ1 b p t j
/-- where a job is -/
def IP1 (b : gMem) (r p j : Nat) : Prop := (b.1 9 j = 2 ∧ (b.1 12 j = nI (jn b 12 j) ∧ jn b 12 j < r) ∧ b.1 13 j = nI (jn b 13 j) ∧ jn b 13 j % jn b 14 j = 0 ∧ jn b 13 j + jn b 14 j ≤ p ∧ b.1 0 13 &&& bl b j = 0) ∨ (b.1 9 j ≠ 2 ∧ b.1 12 j = -1 ∧ b.1 13 j = -1)
def IP (b : gMem) (n r p : Nat) : Prop := (∀ j, j < n → IP1 b r p j) ∧ ∀ i j, i < n → j < n → i ≠ j → b.1 9 i = 2 → b.1 12 i = b.1 12 j → bl b i &&& bl b j = 0
/-- a slot's busy columns -/
def sb (b : gMem) (s : Nat) (j : Nat) : Int32 := if b.1 12 j = nI s then bl b j else 0
def IS (b : gMem) (n r : Nat) : Prop := ∀ s, s < r → b.1 32 s = orF (sb b s) n
/-- who is placed is not through -/
def IL (b : gMem) : Prop := ∀ j, j < 60 → b.1 9 j = 2 → b.1 10 j ≠ 0
def IS0 (b : gMem) (r : Nat) : Prop := (∀ s, s < r → b.1 32 s ≠ 0) ∧ IL b
def IU (b : gMem) (t : Nat) : Prop := (∀ v, v < 6 → b.1 26 v = nI (jn b 26 v) ∧ 1 ≤ jn b 26 v ∧ jn b 26 v ≤ 9) ∧ (∀ v, v < 6 → b.1 27 v = nI (jn b 27 v)) ∧ jn b 27 0 + jn b 27 1 + jn b 27 2 + jn b 27 3 + jn b 27 4 + jn b 27 5 ≤ 1920 * t
def IR (b : gMem) (a p : Nat) : Prop := ∀ i, i < a → (b.1 36 i = nI (jn b 36 i) ∧ 1 ≤ jn b 36 i ∧ jn b 36 i ≤ p) ∧ (b.1 37 i = nI (jn b 37 i) ∧ 1 ≤ jn b 37 i ∧ jn b 37 i ≤ 9999) ∧ (b.1 38 i = nI (jn b 38 i) ∧ jn b 38 i < 6)
def ID (b : gMem) (p : Nat) : Prop := ∀ c, c < 32 → bt (b.1 0 13) c = true → c < p
/-- those waiting, in their order -/
def IQ (b u : gMem) (n : Nat) (Q : List Nat) (B : Nat) : Prop := b.1 3 3 = nI Q.length ∧ Q.length ≤ 60 ∧ (∀ i (h : i < Q.length), b.1 24 i = nI Q[i]) ∧ Q.Nodup ∧ (∀ j, j ∈ Q ↔ j < n ∧ b.1 9 j = 1) ∧ (∃ cm, u.1 1 17 = nI cm ∧ cm ≤ B ∧ ∀ j ∈ Q, mA u j 19 = nI (jn u 1 (42 + 20 * j + 19)) ∧ jn u 1 (42 + 20 * j + 19) < cm) ∧ Q.Pairwise (fun i j => jn u 1 (42 + 20 * i + 19) < jn u 1 (42 + 20 * j + 19))
/-- budgets -/
def IB (b : gMem) (t B : Nat) : Prop := (∃ tm, b.1 0 12 = nI tm ∧ tm ≤ t) ∧ t ≤ 60000 ∧ (∃ x, b.1 39 1 = nI x ∧ x ≤ B) ∧ (∃ x, b.1 46 1 = nI x ∧ x ≤ B) ∧ B ≤ 1000000000
def II (b u : gMem) (n a r p t : Nat) (Q : List Nat) (B : Nat) : Prop := IA b n a r p ∧ IT b ∧ IJ b n p t ∧ IP b n r p ∧ IS b n r ∧ IS0 b r ∧ IU b t ∧ IR b a p ∧ ID b p ∧ IQ b u n Q B ∧ IB b t B
def BR (b u : gMem) (n a r p t : Nat) (Q : List Nat) (B : Nat) : Prop := EE b u n a r ∧ II b u n a r p t Q B
theorem EJ1.f0 {b u : gMem} {j : Nat} (h : EJ1 b u j) : mA u j 0 = b.1 5 j := h.1
theorem EJ1.f1 {b u : gMem} {j : Nat} (h : EJ1 b u j) : mA u j 1 = b.1 6 j := h.2.1
theorem EJ1.f2 {b u : gMem} {j : Nat} (h : EJ1 b u j) : mA u j 2 = b.1 7 j := h.2.2.1
theorem EJ1.f3 {b u : gMem} {j : Nat} (h : EJ1 b u j) : mA u j 3 = b.1 8 j + 1 := h.2.2.2.1
theorem EJ1.f4 {b u : gMem} {j : Nat} (h : EJ1 b u j) : mA u j 4 = b.1 9 j := h.2.2.2.2.1
theorem EJ1.f5 {b u : gMem} {j : Nat} (h : EJ1 b u j) : mA u j 5 = b.1 10 j := h.2.2.2.2.2.1
theorem EJ1.f6 {b u : gMem} {j : Nat} (h : EJ1 b u j) : mA u j 6 = b.1 11 j := h.2.2.2.2.2.2.1
theorem EJ1.f7 {b u : gMem} {j : Nat} (h : EJ1 b u j) : mA u j 7 = b.1 12 j + 1 := h.2.2.2.2.2.2.2.1
theorem EJ1.f8 {b u : gMem} {j : Nat} (h : EJ1 b u j) : mA u j 8 = b.1 13 j + 1 := h.2.2.2.2.2.2.2.2.1
theorem EJ1.f9 {b u : gMem} {j : Nat} (h : EJ1 b u j) : mA u j 9 = b.1 14 j := h.2.2.2.2.2.2.2.2.2.1
theorem EJ1.f10 {b u : gMem} {j : Nat} (h : EJ1 b u j) : mA u j 10 = b.1 15 j := h.2.2.2.2.2.2.2.2.2.2.1
theorem EJ1.f11 {b u : gMem} {j : Nat} (h : EJ1 b u j) : mA u j 11 = b.1 16 j := h.2.2.2.2.2.2.2.2.2.2.2.1
theorem EJ1.f12 {b u : gMem} {j : Nat} (h : EJ1 b u j) : mA u j 12 = b.1 17 j := h.2.2.2.2.2.2.2.2.2.2.2.2.1
theorem EJ1.f13 {b u : gMem} {j : Nat} (h : EJ1 b u j) : mA u j 13 = b.1 18 j := h.2.2.2.2.2.2.2.2.2.2.2.2.2.1
theorem EJ1.f14 {b u : gMem} {j : Nat} (h : EJ1 b u j) : mA u j 14 = b.1 19 j + 1 := h.2.2.2.2.2.2.2.2.2.2.2.2.2.2.1
theorem EJ1.f15 {b u : gMem} {j : Nat} (h : EJ1 b u j) : mA u j 15 = b.1 20 j + 1 := h.2.2.2.2.2.2.2.2.2.2.2.2.2.2.2.1
theorem EJ1.f16 {b u : gMem} {j : Nat} (h : EJ1 b u j) : mA u j 16 = b.1 21 j := h.2.2.2.2.2.2.2.2.2.2.2.2.2.2.2.2.1
theorem EJ1.f17 {b u : gMem} {j : Nat} (h : EJ1 b u j) : mA u j 17 = b.1 22 j := h.2.2.2.2.2.2.2.2.2.2.2.2.2.2.2.2.2.1
theorem EJ1.f18 {b u : gMem} {j : Nat} (h : EJ1 b u j) : mA u j 18 = b.1 23 j := h.2.2.2.2.2.2.2.2.2.2.2.2.2.2.2.2.2.2
