section START
def F9 (τ : ClassId × ClassId × ClassId × ClassId) (b : Nat) : List va_E := (.inr (0, [.ref (b + 1), .ref (b + 60), .ref (b + 119), .ref (b + 178), .int 0]) :: .inr (1, [.ref (b + 2), .ref (b + 3), .ref (b + 4), .ref (b + 26), .ref (b + 30), .ref (b + 34), .ref (b + 40), .ref (b + 47), .ref (b + 54), .ref (b + 57), .ref (b + 58), .ref (b + 59), .int 0, .int 0]) :: .inl (τ.1, 10, .inl (upd (upd (upd (upd (upd (upd (upd (upd (upd (upd (fun _ => 0) 0 16) 1 4) 2 0) 3 0) 4 0) 5 10) 6 1) 7 0) 8 1) 9 1)) :: .inl (τ.1, 11, .inl (fun _ => 0)) :: .inr (2, [.ref (b + 5), .ref (b + 25), .int 0, .int 0]) :: .inl (τ.2.2.2, 19, .inr (.inr (.inr (.inr (fun i => if i < 19 then some (b + 5 + 1 + i) else none))))) :: .inl (τ.1, 60, .inl (fun _ => 0)) :: .inl (τ.1, 60, .inl (fun _ => 0)) :: .inl (τ.1, 60, .inl (fun _ => 0)) :: .inl (τ.1, 60, .inl (fun _ => 0)) :: .inl (τ.1, 60, .inl (fun _ => 0)) :: .inl (τ.1, 60, .inl (fun _ => 0)) :: .inl (τ.1, 60, .inl (fun _ => 0)) :: .inl (τ.1, 60, .inl (fun _ => 0)) :: .inl (τ.1, 60, .inl (fun _ => 0)) :: .inl (τ.1, 60, .inl (fun _ => 0)) :: .inl (τ.1, 60, .inl (fun _ => 0)) :: .inl (τ.1, 60, .inl (fun _ => 0)) :: .inl (τ.1, 60, .inl (fun _ => 0)) :: .inl (τ.1, 60, .inl (fun _ => 0)) :: .inl (τ.1, 60, .inl (fun _ => 0)) :: .inl (τ.1, 60, .inl (fun _ => 0)) :: .inl (τ.1, 60, .inl (fun _ => 0)) :: .inl (τ.1, 60, .inl (fun _ => 0)) :: .inl (τ.1, 60, .inl (fun _ => 0)) :: .inl (τ.1, 60, .inl (fun _ => 0)) :: .inr (3, [.ref (b + 27), .ref (b + 28), .ref (b + 29)]) :: .inl (τ.1, 6, .inl (upd (upd (upd (upd (upd (upd (fun _ => 0) 0 1) 1 1) 2 1) 3 1) 4 1) 5 1)) :: .inl (τ.1, 6, .inl (fun _ => 0)) :: .inl (τ.1, 6, .inl (fun _ => 0)) :: .inr (4, [.ref (b + 31), .ref (b + 32), .ref (b + 33), .int 0]) :: .inl (τ.2.1, 8, .inr (.inl (fun _ => 0))) :: .inl (τ.1, 8, .inl (fun _ => 0)) :: .inl (τ.1, 8, .inl (fun _ => 0)) :: .inr (5, [.ref (b + 35), .int 0]) :: .inl (τ.2.2.2, 4, .inr (.inr (.inr (.inr (fun i => if i < 4 then some (b + 35 + 1 + i) else none))))) :: .inl (τ.1, 60, .inl (fun _ => 0)) :: .inl (τ.1, 60, .inl (fun _ => 0)) :: .inl (τ.1, 60, .inl (fun _ => 0)) :: .inl (τ.1, 60, .inl (fun _ => 0)) :: .inr (6, [.ref (b + 41), .int 0]) :: .inl (τ.2.2.2, 5, .inr (.inr (.inr (.inr (fun i => if i < 5 then some (b + 41 + 1 + i) else none))))) :: .inl (τ.1, 60, .inl (fun _ => 0)) :: .inl (τ.1, 60, .inl (fun _ => 0)) :: .inl (τ.1, 60, .inl (fun _ => 0)) :: .inl (τ.1, 60, .inl (fun _ => 0)) :: .inl (τ.1, 60, .inl (fun _ => 0)) :: .inr (6, [.ref (b + 48), .int 0]) :: .inl (τ.2.2.2, 5, .inr (.inr (.inr (.inr (fun i => if i < 5 then some (b + 48 + 1 + i) else none))))) :: .inl (τ.1, 60, .inl (fun _ => 0)) :: .inl (τ.1, 60, .inl (fun _ => 0)) :: .inl (τ.1, 60, .inl (fun _ => 0)) :: .inl (τ.1, 60, .inl (fun _ => 0)) :: .inl (τ.1, 60, .inl (fun _ => 0)) :: .inr (7, [.ref (b + 55), .ref (b + 56), .int 0, .int 0, .int 0, .int 0]) :: .inl (τ.1, 60, .inl (fun _ => 0)) :: .inl (τ.1, 60, .inl (fun _ => 0)) :: .inl (τ.1, 60, .inl (fun _ => 0)) :: .inl (τ.1, 60, .inl (fun _ => 0)) :: .inl (τ.1, 32, .inl (fun _ => 0)) :: .inr (1, [.ref (b + 61), .ref (b + 62), .ref (b + 63), .ref (b + 85), .ref (b + 89), .ref (b + 93), .ref (b + 99), .ref (b + 106), .ref (b + 113), .ref (b + 116), .ref (b + 117), .ref (b + 118), .int 0, .int 0]) :: .inl (τ.1, 10, .inl (upd (upd (upd (upd (upd (upd (upd (upd (upd (upd (fun _ => 0) 0 16) 1 4) 2 0) 3 0) 4 0) 5 10) 6 1) 7 0) 8 1) 9 1)) :: .inl (τ.1, 11, .inl (fun _ => 0)) :: .inr (2, [.ref (b + 64), .ref (b + 84), .int 0, .int 0]) :: .inl (τ.2.2.2, 19, .inr (.inr (.inr (.inr (fun i => if i < 19 then some (b + 64 + 1 + i) else none))))) :: .inl (τ.1, 60, .inl (fun _ => 0)) :: .inl (τ.1, 60, .inl (fun _ => 0)) :: .inl (τ.1, 60, .inl (fun _ => 0)) :: .inl (τ.1, 60, .inl (fun _ => 0)) :: .inl (τ.1, 60, .inl (fun _ => 0)) :: .inl (τ.1, 60, .inl (fun _ => 0)) :: .inl (τ.1, 60, .inl (fun _ => 0)) :: .inl (τ.1, 60, .inl (fun _ => 0)) :: .inl (τ.1, 60, .inl (fun _ => 0)) :: .inl (τ.1, 60, .inl (fun _ => 0)) :: .inl (τ.1, 60, .inl (fun _ => 0)) :: .inl (τ.1, 60, .inl (fun _ => 0)) :: .inl (τ.1, 60, .inl (fun _ => 0)) :: .inl (τ.1, 60, .inl (fun _ => 0)) :: .inl (τ.1, 60, .inl (fun _ => 0)) :: .inl (τ.1, 60, .inl (fun _ => 0)) :: .inl (τ.1, 60, .inl (fun _ => 0)) :: .inl (τ.1, 60, .inl (fun _ => 0)) :: .inl (τ.1, 60, .inl (fun _ => 0)) :: .inl (τ.1, 60, .inl (fun _ => 0)) :: .inr (3, [.ref (b + 86), .ref (b + 87), .ref (b + 88)]) :: .inl (τ.1, 6, .inl (upd (upd (upd (upd (upd (upd (fun _ => 0) 0 1) 1 1) 2 1) 3 1) 4 1) 5 1)) :: .inl (τ.1, 6, .inl (fun _ => 0)) :: .inl (τ.1, 6, .inl (fun _ => 0)) :: .inr (4, [.ref (b + 90), .ref (b + 91), .ref (b + 92), .int 0]) :: .inl (τ.2.1, 8, .inr (.inl (fun _ => 0))) :: .inl (τ.1, 8, .inl (fun _ => 0)) :: .inl (τ.1, 8, .inl (fun _ => 0)) :: .inr (5, [.ref (b + 94), .int 0]) :: .inl (τ.2.2.2, 4, .inr (.inr (.inr (.inr (fun i => if i < 4 then some (b + 94 + 1 + i) else none))))) :: .inl (τ.1, 60, .inl (fun _ => 0)) :: .inl (τ.1, 60, .inl (fun _ => 0)) :: .inl (τ.1, 60, .inl (fun _ => 0)) :: .inl (τ.1, 60, .inl (fun _ => 0)) :: .inr (6, [.ref (b + 100), .int 0]) :: .inl (τ.2.2.2, 5, .inr (.inr (.inr (.inr (fun i => if i < 5 then some (b + 100 + 1 + i) else none))))) :: .inl (τ.1, 60, .inl (fun _ => 0)) :: .inl (τ.1, 60, .inl (fun _ => 0)) :: .inl (τ.1, 60, .inl (fun _ => 0)) :: .inl (τ.1, 60, .inl (fun _ => 0)) :: .inl (τ.1, 60, .inl (fun _ => 0)) :: .inr (6, [.ref (b + 107), .int 0]) :: .inl (τ.2.2.2, 5, .inr (.inr (.inr (.inr (fun i => if i < 5 then some (b + 107 + 1 + i) else none))))) :: .inl (τ.1, 60, .inl (fun _ => 0)) :: .inl (τ.1, 60, .inl (fun _ => 0)) :: .inl (τ.1, 60, .inl (fun _ => 0)) :: .inl (τ.1, 60, .inl (fun _ => 0)) :: .inl (τ.1, 60, .inl (fun _ => 0)) :: .inr (7, [.ref (b + 114), .ref (b + 115), .int 0, .int 0, .int 0, .int 0]) :: .inl (τ.1, 60, .inl (fun _ => 0)) :: .inl (τ.1, 60, .inl (fun _ => 0)) :: .inl (τ.1, 60, .inl (fun _ => 0)) :: .inl (τ.1, 60, .inl (fun _ => 0)) :: .inl (τ.1, 32, .inl (fun _ => 0)) :: .inr (1, [.ref (b + 120), .ref (b + 121), .ref (b + 122), .ref (b + 144), .ref (b + 148), .ref (b + 152), .ref (b + 158), .ref (b + 165), .ref (b + 172), .ref (b + 175), .ref (b + 176), .ref (b + 177), .int 0, .int 0]) :: .inl (τ.1, 10, .inl (upd (upd (upd (upd (upd (upd (upd (upd (upd (upd (fun _ => 0) 0 16) 1 4) 2 0) 3 0) 4 0) 5 10) 6 1) 7 0) 8 1) 9 1)) :: .inl (τ.1, 11, .inl (fun _ => 0)) :: .inr (2, [.ref (b + 123), .ref (b + 143), .int 0, .int 0]) :: .inl (τ.2.2.2, 19, .inr (.inr (.inr (.inr (fun i => if i < 19 then some (b + 123 + 1 + i) else none))))) :: .inl (τ.1, 60, .inl (fun _ => 0)) :: .inl (τ.1, 60, .inl (fun _ => 0)) :: .inl (τ.1, 60, .inl (fun _ => 0)) :: .inl (τ.1, 60, .inl (fun _ => 0)) :: .inl (τ.1, 60, .inl (fun _ => 0)) :: .inl (τ.1, 60, .inl (fun _ => 0)) :: .inl (τ.1, 60, .inl (fun _ => 0)) :: .inl (τ.1, 60, .inl (fun _ => 0)) :: .inl (τ.1, 60, .inl (fun _ => 0)) :: .inl (τ.1, 60, .inl (fun _ => 0)) :: .inl (τ.1, 60, .inl (fun _ => 0)) :: .inl (τ.1, 60, .inl (fun _ => 0)) :: .inl (τ.1, 60, .inl (fun _ => 0)) :: .inl (τ.1, 60, .inl (fun _ => 0)) :: .inl (τ.1, 60, .inl (fun _ => 0)) :: .inl (τ.1, 60, .inl (fun _ => 0)) :: .inl (τ.1, 60, .inl (fun _ => 0)) :: .inl (τ.1, 60, .inl (fun _ => 0)) :: .inl (τ.1, 60, .inl (fun _ => 0)) :: .inl (τ.1, 60, .inl (fun _ => 0)) :: .inr (3, [.ref (b + 145), .ref (b + 146), .ref (b + 147)]) :: .inl (τ.1, 6, .inl (upd (upd (upd (upd (upd (upd (fun _ => 0) 0 1) 1 1) 2 1) 3 1) 4 1) 5 1)) :: .inl (τ.1, 6, .inl (fun _ => 0)) :: .inl (τ.1, 6, .inl (fun _ => 0)) :: .inr (4, [.ref (b + 149), .ref (b + 150), .ref (b + 151), .int 0]) :: .inl (τ.2.1, 8, .inr (.inl (fun _ => 0))) :: .inl (τ.1, 8, .inl (fun _ => 0)) :: .inl (τ.1, 8, .inl (fun _ => 0)) :: .inr (5, [.ref (b + 153), .int 0]) :: .inl (τ.2.2.2, 4, .inr (.inr (.inr (.inr (fun i => if i < 4 then some (b + 153 + 1 + i) else none))))) :: .inl (τ.1, 60, .inl (fun _ => 0)) :: .inl (τ.1, 60, .inl (fun _ => 0)) :: .inl (τ.1, 60, .inl (fun _ => 0)) :: .inl (τ.1, 60, .inl (fun _ => 0)) :: .inr (6, [.ref (b + 159), .int 0]) :: .inl (τ.2.2.2, 5, .inr (.inr (.inr (.inr (fun i => if i < 5 then some (b + 159 + 1 + i) else none))))) :: .inl (τ.1, 60, .inl (fun _ => 0)) :: .inl (τ.1, 60, .inl (fun _ => 0)) :: .inl (τ.1, 60, .inl (fun _ => 0)) :: .inl (τ.1, 60, .inl (fun _ => 0)) :: .inl (τ.1, 60, .inl (fun _ => 0)) :: .inr (6, [.ref (b + 166), .int 0]) :: .inl (τ.2.2.2, 5, .inr (.inr (.inr (.inr (fun i => if i < 5 then some (b + 166 + 1 + i) else none))))) :: .inl (τ.1, 60, .inl (fun _ => 0)) :: .inl (τ.1, 60, .inl (fun _ => 0)) :: .inl (τ.1, 60, .inl (fun _ => 0)) :: .inl (τ.1, 60, .inl (fun _ => 0)) :: .inl (τ.1, 60, .inl (fun _ => 0)) :: .inr (7, [.ref (b + 173), .ref (b + 174), .int 0, .int 0, .int 0, .int 0]) :: .inl (τ.1, 60, .inl (fun _ => 0)) :: .inl (τ.1, 60, .inl (fun _ => 0)) :: .inl (τ.1, 60, .inl (fun _ => 0)) :: .inl (τ.1, 60, .inl (fun _ => 0)) :: .inl (τ.1, 32, .inl (fun _ => 0)) :: .inr (8, [.ref (b + 1), .ref (b + 4), .ref (b + 30), .ref (b + 179), .ref (b + 180), .ref (b + 181), .int 0]) :: .inl (τ.1, 32, .inl (fun _ => 0)) :: .inl (τ.1, 60, .inl (fun _ => 0)) :: .inl (τ.1, 60, .inl (fun _ => 0)) :: [])
def F10 (τ : ClassId × ClassId × ClassId × ClassId) (b : Nat) : List va_E := (.inr (9, [.int 0, .ref (b + 1), .ref (b + 2), .ref (b + 3), .ref (b + 4), .int 0, .int 0, .int 0, .int 0, .ref (b + 5), .int 0, .ref (b + 6), .ref (b + 7), .ref (b + 8), .ref (b + 9), .ref (b + 10), .int 0, .int 0, .ref (b + 11), .ref (b + 12), .int 0, .int 0, .int 0, .int 0, .ref (b + 13), .int 0, .ref (b + 14), .int 0, .ref (b + 15), .ref (b + 16)]) :: .inl (τ.1, 2030, .inl (fun _ => 0)) :: .inl (τ.1, 2030, .inl (fun _ => 0)) :: .inl (τ.2.1, 9, .inr (.inl (fun _ => 0))) :: .inl (τ.2.1, 9, .inr (.inl (fun _ => 0))) :: .inl (τ.1, 60, .inl (fun _ => 0)) :: .inl (τ.1, 61, .inl (fun _ => 0)) :: .inl (τ.2.2.1, 60, .inl (fun _ => 0)) :: .inl (τ.1, 61, .inl (fun _ => 0)) :: .inl (τ.1, 60, .inl (fun _ => 0)) :: .inl (τ.1, 32, .inl (fun _ => 0)) :: .inl (τ.1, 60, .inl (fun _ => 0)) :: .inl (τ.2.2.1, 60, .inl (fun _ => 0)) :: .inl (τ.1, 60, .inl (fun _ => 0)) :: .inl (τ.1, 60, .inl (fun _ => 0)) :: .inl (τ.1, 2030, .inl (fun _ => 0)) :: .inl (τ.2.1, 9, .inr (.inl (fun _ => 0))) :: [])
def tld0 : Nat → Int32 := (upd (upd (upd (upd (upd (upd (upd (upd (upd (upd (fun _ => 0) 0 16) 1 4) 2 0) 3 0) 4 0) 5 10) 6 1) 7 0) 8 1) 9 1)
def shr0 : Nat → Int32 := (upd (upd (upd (upd (upd (upd (fun _ => 0) 0 1) 1 1) 2 1) 3 1) 4 1) 5 1)
def mu0 : gMem := (fun c => match c with
  | 1 => tld0
  | 26 => shr0
  | 60 => tld0
  | 85 => shr0
  | 119 => tld0
  | 144 => shr0
  | _ => fun _ => 0, fun _ _ => 0)
def nu0 : gMem := (fun _ _ => 0, fun _ _ => 0)
def ad1 (h : Nat) (st : Nat → Nat) (c : Nat) : Nat := if c < 177 then h + 1 + c else if c = 177 then h else if c < 182 then h + c else st c
def ad2 (h : Nat) (st : Nat → Nat) (c : Nat) : Nat := if c < 17 then h + c else st c
theorem BR0 : BR mu0 nu0 0 0 0 16 0 [] 0 := by
  refine ⟨⟨⟨by decide +kernel, by decide +kernel, fun _ _ => rfl, by decide +kernel, fun _ _ => rfl⟩, fun j hj => by omega, fun j hj => by omega, fun j hj => by omega, fun _ _ => ⟨rfl, rfl, rfl, rfl, rfl⟩, fun _ _ => ⟨rfl, rfl, rfl, rfl⟩⟩, by unfold IA; decide +kernel, by unfold IT; decide +kernel, fun j hj => by omega, ⟨fun j hj => by omega, fun i j hi => by omega⟩, fun j hj => by omega, ⟨fun j hj => by omega, fun j hj h => ?_⟩, ⟨by decide +kernel, by decide +kernel, by decide +kernel⟩, fun j hj => by omega, fun c hc h => ?_, ⟨rfl, by decide, fun i h => absurd h (Nat.not_lt_zero i), List.nodup_nil, fun j => ⟨fun h => (List.not_mem_nil h).elim, fun h => absurd h.1 (Nat.not_lt_zero j)⟩, ⟨0, rfl, by decide, fun j h => (List.not_mem_nil h).elim⟩, List.Pairwise.nil⟩, ⟨0, rfl, by decide⟩, by decide, ⟨0, rfl, by decide⟩, ⟨0, rfl, by decide⟩, by decide⟩
  · exact absurd (show (0 : Int32) = 2 from h) (by decide)
  · have h2 : bt 0 c = true := h
    rw [b_0] at h2
    cases h2
theorem Rl0 : Rl 0 mu0 nu0 := ⟨⟨0, 0, 0, 16, 0, [], 0, BR0, by decide, by decide⟩, rfl, Or.inl rfl⟩
theorem out1 {h n c : Nat} {st : Nat → Nat} (hc : c + 1 + n ≤ 177) : (fun i => if i < n then some (h + (c + 1) + 1 + i) else none) = (fun i => if i < n then some (ad1 h st (c + 1 + i)) else none) := by
  funext i
  by_cases q : i < n
  · rw [if_pos q, if_pos q]
    unfold ad1
    rw [if_pos (by omega)]
    congr 1
    omega
  · rw [if_neg q, if_neg q]
set_option maxRecDepth 40000 in
set_option maxHeartbeats 4000000 in
theorem world9 {D : va_G} {τ : ClassId × ClassId × ClassId × ClassId} {h : Nat} {st : Nat → Nat} {H : Heap} (hG : ∀ i x, (F9 τ h)[i]? = some x → va_at D gcl (h + i, x) H) : ∀ c, c < 182 → va_at D gcl (ad1 h st c, gE (D, τ, LC, ad1 h st) mu0 c) H := fun c hc => by
  match c, hc with
  | 0, _ => exact hG 1 _ rfl
  | 1, _ => exact hG 2 _ rfl
  | 2, _ => exact hG 3 _ rfl
  | 3, _ => exact hG 4 _ rfl
  | 4, _ =>
    have q := hG 5 _ rfl
    rw [out1 (h := h) (n := 19) (c := 4) (st := st) (by decide)] at q
    exact q
  | 5, _ => exact hG 6 _ rfl
  | 6, _ => exact hG 7 _ rfl
  | 7, _ => exact hG 8 _ rfl
  | 8, _ => exact hG 9 _ rfl
  | 9, _ => exact hG 10 _ rfl
  | 10, _ => exact hG 11 _ rfl
  | 11, _ => exact hG 12 _ rfl
  | 12, _ => exact hG 13 _ rfl
  | 13, _ => exact hG 14 _ rfl
  | 14, _ => exact hG 15 _ rfl
  | 15, _ => exact hG 16 _ rfl
  | 16, _ => exact hG 17 _ rfl
  | 17, _ => exact hG 18 _ rfl
  | 18, _ => exact hG 19 _ rfl
  | 19, _ => exact hG 20 _ rfl
  | 20, _ => exact hG 21 _ rfl
  | 21, _ => exact hG 22 _ rfl
  | 22, _ => exact hG 23 _ rfl
  | 23, _ => exact hG 24 _ rfl
  | 24, _ => exact hG 25 _ rfl
  | 25, _ => exact hG 26 _ rfl
  | 26, _ => exact hG 27 _ rfl
  | 27, _ => exact hG 28 _ rfl
  | 28, _ => exact hG 29 _ rfl
  | 29, _ => exact hG 30 _ rfl
  | 30, _ => exact hG 31 _ rfl
  | 31, _ => exact hG 32 _ rfl
  | 32, _ => exact hG 33 _ rfl
  | 33, _ => exact hG 34 _ rfl
  | 34, _ =>
    have q := hG 35 _ rfl
    rw [out1 (h := h) (n := 4) (c := 34) (st := st) (by decide)] at q
    exact q
  | 35, _ => exact hG 36 _ rfl
  | 36, _ => exact hG 37 _ rfl
  | 37, _ => exact hG 38 _ rfl
  | 38, _ => exact hG 39 _ rfl
  | 39, _ => exact hG 40 _ rfl
  | 40, _ =>
    have q := hG 41 _ rfl
    rw [out1 (h := h) (n := 5) (c := 40) (st := st) (by decide)] at q
    exact q
  | 41, _ => exact hG 42 _ rfl
  | 42, _ => exact hG 43 _ rfl
  | 43, _ => exact hG 44 _ rfl
  | 44, _ => exact hG 45 _ rfl
  | 45, _ => exact hG 46 _ rfl
  | 46, _ => exact hG 47 _ rfl
  | 47, _ =>
    have q := hG 48 _ rfl
    rw [out1 (h := h) (n := 5) (c := 47) (st := st) (by decide)] at q
    exact q
  | 48, _ => exact hG 49 _ rfl
  | 49, _ => exact hG 50 _ rfl
  | 50, _ => exact hG 51 _ rfl
  | 51, _ => exact hG 52 _ rfl
  | 52, _ => exact hG 53 _ rfl
  | 53, _ => exact hG 54 _ rfl
  | 54, _ => exact hG 55 _ rfl
  | 55, _ => exact hG 56 _ rfl
  | 56, _ => exact hG 57 _ rfl
  | 57, _ => exact hG 58 _ rfl
  | 58, _ => exact hG 59 _ rfl
  | 59, _ => exact hG 60 _ rfl
  | 60, _ => exact hG 61 _ rfl
  | 61, _ => exact hG 62 _ rfl
  | 62, _ => exact hG 63 _ rfl
  | 63, _ =>
    have q := hG 64 _ rfl
    rw [out1 (h := h) (n := 19) (c := 63) (st := st) (by decide)] at q
    exact q
  | 64, _ => exact hG 65 _ rfl
  | 65, _ => exact hG 66 _ rfl
  | 66, _ => exact hG 67 _ rfl
  | 67, _ => exact hG 68 _ rfl
  | 68, _ => exact hG 69 _ rfl
  | 69, _ => exact hG 70 _ rfl
  | 70, _ => exact hG 71 _ rfl
  | 71, _ => exact hG 72 _ rfl
  | 72, _ => exact hG 73 _ rfl
  | 73, _ => exact hG 74 _ rfl
  | 74, _ => exact hG 75 _ rfl
  | 75, _ => exact hG 76 _ rfl
  | 76, _ => exact hG 77 _ rfl
  | 77, _ => exact hG 78 _ rfl
  | 78, _ => exact hG 79 _ rfl
  | 79, _ => exact hG 80 _ rfl
  | 80, _ => exact hG 81 _ rfl
  | 81, _ => exact hG 82 _ rfl
  | 82, _ => exact hG 83 _ rfl
  | 83, _ => exact hG 84 _ rfl
  | 84, _ => exact hG 85 _ rfl
  | 85, _ => exact hG 86 _ rfl
  | 86, _ => exact hG 87 _ rfl
  | 87, _ => exact hG 88 _ rfl
  | 88, _ => exact hG 89 _ rfl
  | 89, _ => exact hG 90 _ rfl
  | 90, _ => exact hG 91 _ rfl
  | 91, _ => exact hG 92 _ rfl
  | 92, _ => exact hG 93 _ rfl
  | 93, _ =>
    have q := hG 94 _ rfl
    rw [out1 (h := h) (n := 4) (c := 93) (st := st) (by decide)] at q
    exact q
  | 94, _ => exact hG 95 _ rfl
  | 95, _ => exact hG 96 _ rfl
  | 96, _ => exact hG 97 _ rfl
  | 97, _ => exact hG 98 _ rfl
  | 98, _ => exact hG 99 _ rfl
  | 99, _ =>
    have q := hG 100 _ rfl
    rw [out1 (h := h) (n := 5) (c := 99) (st := st) (by decide)] at q
    exact q
  | 100, _ => exact hG 101 _ rfl
  | 101, _ => exact hG 102 _ rfl
  | 102, _ => exact hG 103 _ rfl
  | 103, _ => exact hG 104 _ rfl
  | 104, _ => exact hG 105 _ rfl
  | 105, _ => exact hG 106 _ rfl
  | 106, _ =>
    have q := hG 107 _ rfl
    rw [out1 (h := h) (n := 5) (c := 106) (st := st) (by decide)] at q
    exact q
  | 107, _ => exact hG 108 _ rfl
  | 108, _ => exact hG 109 _ rfl
  | 109, _ => exact hG 110 _ rfl
  | 110, _ => exact hG 111 _ rfl
  | 111, _ => exact hG 112 _ rfl
  | 112, _ => exact hG 113 _ rfl
  | 113, _ => exact hG 114 _ rfl
  | 114, _ => exact hG 115 _ rfl
  | 115, _ => exact hG 116 _ rfl
  | 116, _ => exact hG 117 _ rfl
  | 117, _ => exact hG 118 _ rfl
  | 118, _ => exact hG 119 _ rfl
  | 119, _ => exact hG 120 _ rfl
  | 120, _ => exact hG 121 _ rfl
  | 121, _ => exact hG 122 _ rfl
  | 122, _ =>
    have q := hG 123 _ rfl
    rw [out1 (h := h) (n := 19) (c := 122) (st := st) (by decide)] at q
    exact q
  | 123, _ => exact hG 124 _ rfl
  | 124, _ => exact hG 125 _ rfl
  | 125, _ => exact hG 126 _ rfl
  | 126, _ => exact hG 127 _ rfl
  | 127, _ => exact hG 128 _ rfl
  | 128, _ => exact hG 129 _ rfl
  | 129, _ => exact hG 130 _ rfl
  | 130, _ => exact hG 131 _ rfl
  | 131, _ => exact hG 132 _ rfl
  | 132, _ => exact hG 133 _ rfl
  | 133, _ => exact hG 134 _ rfl
  | 134, _ => exact hG 135 _ rfl
  | 135, _ => exact hG 136 _ rfl
  | 136, _ => exact hG 137 _ rfl
  | 137, _ => exact hG 138 _ rfl
  | 138, _ => exact hG 139 _ rfl
  | 139, _ => exact hG 140 _ rfl
  | 140, _ => exact hG 141 _ rfl
  | 141, _ => exact hG 142 _ rfl
  | 142, _ => exact hG 143 _ rfl
  | 143, _ => exact hG 144 _ rfl
  | 144, _ => exact hG 145 _ rfl
  | 145, _ => exact hG 146 _ rfl
  | 146, _ => exact hG 147 _ rfl
  | 147, _ => exact hG 148 _ rfl
  | 148, _ => exact hG 149 _ rfl
  | 149, _ => exact hG 150 _ rfl
  | 150, _ => exact hG 151 _ rfl
  | 151, _ => exact hG 152 _ rfl
  | 152, _ =>
    have q := hG 153 _ rfl
    rw [out1 (h := h) (n := 4) (c := 152) (st := st) (by decide)] at q
    exact q
  | 153, _ => exact hG 154 _ rfl
  | 154, _ => exact hG 155 _ rfl
  | 155, _ => exact hG 156 _ rfl
  | 156, _ => exact hG 157 _ rfl
  | 157, _ => exact hG 158 _ rfl
  | 158, _ =>
    have q := hG 159 _ rfl
    rw [out1 (h := h) (n := 5) (c := 158) (st := st) (by decide)] at q
    exact q
  | 159, _ => exact hG 160 _ rfl
  | 160, _ => exact hG 161 _ rfl
  | 161, _ => exact hG 162 _ rfl
  | 162, _ => exact hG 163 _ rfl
  | 163, _ => exact hG 164 _ rfl
  | 164, _ => exact hG 165 _ rfl
  | 165, _ =>
    have q := hG 166 _ rfl
    rw [out1 (h := h) (n := 5) (c := 165) (st := st) (by decide)] at q
    exact q
  | 166, _ => exact hG 167 _ rfl
  | 167, _ => exact hG 168 _ rfl
  | 168, _ => exact hG 169 _ rfl
  | 169, _ => exact hG 170 _ rfl
  | 170, _ => exact hG 171 _ rfl
  | 171, _ => exact hG 172 _ rfl
  | 172, _ => exact hG 173 _ rfl
  | 173, _ => exact hG 174 _ rfl
  | 174, _ => exact hG 175 _ rfl
  | 175, _ => exact hG 176 _ rfl
  | 176, _ => exact hG 177 _ rfl
  | 177, _ => exact hG 0 _ rfl
  | 178, _ => exact hG 178 _ rfl
  | 179, _ => exact hG 179 _ rfl
  | 180, _ => exact hG 180 _ rfl
  | 181, _ => exact hG 181 _ rfl
  | k + 182, hc => exact absurd hc (by omega)
set_option maxRecDepth 40000 in
set_option maxHeartbeats 4000000 in
theorem world10 {D : va_G} {τ : ClassId × ClassId × ClassId × ClassId} {h : Nat} {st : Nat → Nat} {H : Heap} (hG : ∀ i x, (F10 τ h)[i]? = some x → va_at D gcl (h + i, x) H) : ∀ c, c < 17 → va_at D gcl (ad2 h st c, gE (D, τ, LM, ad2 h st) nu0 c) H := fun c hc => by
  match c, hc with
  | 0, _ => exact hG 0 _ rfl
  | 1, _ => exact hG 1 _ rfl
  | 2, _ => exact hG 2 _ rfl
  | 3, _ => exact hG 3 _ rfl
  | 4, _ => exact hG 4 _ rfl
  | 5, _ => exact hG 5 _ rfl
  | 6, _ => exact hG 6 _ rfl
  | 7, _ => exact hG 7 _ rfl
  | 8, _ => exact hG 8 _ rfl
  | 9, _ => exact hG 9 _ rfl
  | 10, _ => exact hG 10 _ rfl
  | 11, _ => exact hG 11 _ rfl
  | 12, _ => exact hG 12 _ rfl
  | 13, _ => exact hG 13 _ rfl
  | 14, _ => exact hG 14 _ rfl
  | 15, _ => exact hG 15 _ rfl
  | 16, _ => exact hG 16 _ rfl
  | k + 17, hc => exact absurd hc (by omega)
end START
