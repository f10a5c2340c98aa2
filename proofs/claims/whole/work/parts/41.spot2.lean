section SPOT2
variable {b u : gMem} {n a r p t w m : Nat}
def GG (b : gMem) (r p w i : Nat) : Bool := GC p w (bz b r (i / 32) ||| b.1 0 13) (i % 32)
def KK (b : gMem) (n r p w i : Nat) : Nat := KR b n p w (bz b r (i / 32) ||| b.1 0 13) (i % 32)
theorem GG_at {s c : Nat} (hc : c < 32) : GG b r p w (s * 32 + c) = GC p w (bz b r s ||| b.1 0 13) c := by
  unfold GG; rw [show (s * 32 + c) / 32 = s by omega, show (s * 32 + c) % 32 = c by omega]
theorem KK_at {s c : Nat} (hc : c < 32) : KK b n r p w (s * 32 + c) = KR b n p w (bz b r s ||| b.1 0 13) c := by
  unfold KK; rw [show (s * 32 + c) / 32 = s by omega, show (s * 32 + c) % 32 = c by omega]
/-- the spot -/
def SP (b : gMem) (n r p w : Nat) (o : Option Nat) : Prop := (bU (GG b r p w) (KK b n r p w) (r * 32) o ∧ (o = none → jn b 1 1 ≤ r)) ∨ (bU (GG b r p w) (KK b n r p w) (r * 32) none ∧ r < jn b 1 1 ∧ bU (GG b r p w) (KK b n r p w) (r * 32 + 32) o)
theorem SP.uniq {o o' : Option Nat} (h : SP b n r p w o) (h' : SP b n r p w o') : o = o' := by
  rcases h with h | h <;> rcases h' with h' | h'
  · exact h.1.uniq h'.1
  · have := h.1.uniq h'.1
    have := h.2 this
    omega
  · have := h'.1.uniq h.1
    have := h'.2 this
    omega
  · exact h.2.2.uniq h'.2.2
theorem bz_s {s : Nat} (h : s < r) : bz b r s = b.1 32 s := if_pos h
theorem bz_r : bz b r r = 0 := if_neg (Nat.lt_irrefl r)
theorem bU_none {s : Nat} (h : bU (GG b r p w) (KK b n r p w) (s * 32) none) (h2 : ∀ c, c < 32 → GC p w (bz b r s ||| b.1 0 13) c = false) : bU (GG b r p w) (KK b n r p w) ((s + 1) * 32) none := by
  intro i hi
  by_cases q : i < s * 32
  · exact h i q
  · have := GG_at (b := b) (r := r) (p := p) (w := w) (s := s) (c := i - s * 32) (by omega)
    rw [show s * 32 + (i - s * 32) = i by omega] at this
    rw [this]
    exact h2 _ (by omega)
/-- the best of the slots before, and of this one -/
def cmb (K : Nat → Nat) (s : Nat) : Option Nat → Option Nat → Option Nat
  | o, none => o
  | none, some c => some (s * 32 + c)
  | some i, some c => if K i ≤ K (s * 32 + c) then some i else some (s * 32 + c)
theorem bU_row {s : Nat} {o o' : Option Nat} (h : bU (GG b r p w) (KK b n r p w) (s * 32) o) (h2 : bU (GC p w (bz b r s ||| b.1 0 13)) (KR b n p w (bz b r s ||| b.1 0 13)) 32 o') : bU (GG b r p w) (KK b n r p w) ((s + 1) * 32) (cmb (KK b n r p w) s o o') := by
  have hG := fun (i : Nat) (h1 : s * 32 ≤ i) (h3 : i < (s + 1) * 32) => (show GG b r p w i = GC p w (bz b r s ||| b.1 0 13) (i - s * 32) by
    have := GG_at (b := b) (r := r) (p := p) (w := w) (s := s) (c := i - s * 32) (by omega)
    rw [show s * 32 + (i - s * 32) = i by omega] at this
    exact this)
  have hK := fun (i : Nat) (h1 : s * 32 ≤ i) (h3 : i < (s + 1) * 32) => (show KK b n r p w i = KR b n p w (bz b r s ||| b.1 0 13) (i - s * 32) by
    have := KK_at (b := b) (n := n) (r := r) (p := p) (w := w) (s := s) (c := i - s * 32) (by omega)
    rw [show s * 32 + (i - s * 32) = i by omega] at this
    exact this)
  cases o' with
  | none =>
    have : cmb (KK b n r p w) s o none = o := by cases o <;> rfl
    rw [this]
    exact h.skip (by omega) (fun i h1 h3 => by rw [hG i h1 h3]; exact h2 _ (by omega))
  | some c =>
    have hc := h2.1
    have hg1 : GG b r p w (s * 32 + c) = true := by rw [GG_at hc]; exact h2.2.1
    have hrow : ∀ i, s * 32 ≤ i → i < (s + 1) * 32 → GG b r p w i = true → KK b n r p w (s * 32 + c) < KK b n r p w i ∨ (KK b n r p w (s * 32 + c) = KK b n r p w i ∧ s * 32 + c ≤ i) := by
      intro i h1 h3 hg
      rw [hG i h1 h3] at hg
      have := h2.2.2 (i - s * 32) (by omega) hg
      rw [KK_at hc, hK i h1 h3]
      omega
    cases o with
    | none =>
      refine ⟨by omega, hg1, fun i hi hg => ?_⟩
      by_cases q : i < s * 32
      · rw [h i q] at hg; cases hg
      · exact hrow i (by omega) hi hg
    | some x =>
      show bU _ _ _ (if KK b n r p w x ≤ KK b n r p w (s * 32 + c) then some x else some (s * 32 + c))
      have hx := h.1
      split
      · rename_i hq
        refine ⟨by omega, h.2.1, fun i hi hg => ?_⟩
        by_cases q : i < s * 32
        · exact h.2.2 i q hg
        · have := hrow i (by omega) hi hg
          omega
      · rename_i hq
        refine ⟨by omega, hg1, fun i hi hg => ?_⟩
        by_cases q : i < s * 32
        · have := h.2.2 i q hg
          omega
        · exact hrow i (by omega) hi hg
theorem ups0 : ups b p = ups b p &&& ((0 : Int32) ^^^ (-1)) := b_ext (fun i hi => by rw [b_and, b_not _ hi, b_0]; simp)
theorem or0 (x : Int32) : (0 : Int32) ||| x = x := b_ext (fun i _ => by rw [b_or, b_0]; simp)
theorem c_canStand (hA : IA b n a r p) (hT : IT b) (hW : isW p w m) : ∃ z, mX2_canStand [.ref 0, .int (nI w)] b = some (some (.int z), b) ∧ (z = 0 → SP b n r p w none) := by
  have hp := hA.2.2.2.2.2.2
  have hr := hA.2.2.2.2.1
  have hm := hT.1
  have key : ∀ k s, s + k = r → bU (GG b r p w) (KK b n r p w) (s * 32) none → ∃ z, rX2_canStand_7 (nI w) (ups b p) (nI s) b = some (some (.int z), b) ∧ (z = 0 → SP b n r p w none) := by
    intro k
    induction k with
    | zero =>
      intro s hs h
      rw [show s = r by omega] at *
      rw [eX2_canStand_7, hA.2.2.1, if_pos (nI_le (Nat.le_refl _) (by omega)), hm.1]
      by_cases q : jn b 1 1 ≤ r
      · exact ⟨0, by rw [if_pos (nI_le q (by omega))], fun _ => Or.inl ⟨h, fun _ => q⟩⟩
      · rw [if_neg (nI_ge (by omega) (by omega)), hW.1, starts_e hW.2.1, g_ci_some, ← hW.1]
        by_cases q2 : stp (ups b p) m = 0
        · refine ⟨0, by rw [if_pos q2], fun _ => Or.inr ⟨h, by omega, ?_⟩⟩
          have := bU_none (s := r) h (fun c hc => by rw [bz_r, or0, ← stG0 hp hW hc, q2, b_0])
          rw [Nat.add_mul] at this
          exact this
        · exact ⟨1, by rw [if_neg q2], fun h => absurd h (by decide)⟩
    | succ k ih =>
      intro s hs h
      rw [eX2_canStand_7, hA.2.2.1, if_neg (nI_ge (by omega) (by omega)), gin (by omega) (by omega), if_pos rfl, tn (by omega), hW.1, starts_e hW.2.1, g_ci_some, ← hW.1]
      by_cases q2 : stp (ups b p &&& (b.1 32 s ^^^ (-1))) m = 0
      · rw [if_pos q2, nI_1]
        refine ih (s + 1) (by omega) (bU_none h (fun c hc => ?_))
        rw [bz_s (by omega), ← stG hp hW _ hc, q2, b_0]
      · exact ⟨1, by rw [if_neg q2], fun h => absurd h (by decide)⟩
  rw [eX2_canStand, c_ups hA, g_ci_some]
  exact key r 0 (by omega) (fun i hi => by omega)
theorem c_loadsInto (hA : IA b n a r p) (hP : IP b n r p) (hS : IS b n r) : ∃ b', mX7_loadsInto [.ref 29, .ref 58] b = some (none, b') ∧ bs b b' ∧ ∀ d, d < 32 → b'.1 58 d = nI (ld b n d) := by
  have key : ∀ k c, c + k = 32 → ∀ b1, bs b b1 → (∀ d, d < c → b1.1 58 d = nI (ld b n d)) → ∃ b', rX7_loadsInto_2 (nI c) b1 = some (none, b') ∧ bs b b' ∧ ∀ d, d < 32 → b'.1 58 d = nI (ld b n d) := by
    intro k
    induction k with
    | zero =>
      intro c hc b1 h1 h2
      rw [show c = 32 by omega] at *
      exact ⟨b1, by rw [eX7_loadsInto_2, if_pos (by decide)], h1, h2⟩
    | succ k ih =>
      intro c hc b1 h1 h2
      rw [eX7_loadsInto_2, if_neg (show ¬ (32 : Int32) ≤ nI c from nI_ge (a := c) (b := 32) (by omega) (by omega)), c_loadOf (h1.xIA hA) (h1.xIP hP) (h1.xIS hS) (by omega), g_ci_some, gin (by omega) (by omega), if_pos rfl, tn (by omega), nI_1]
      refine ih (c + 1) (by omega) _ (h1.tr (bs.w (Or.inr (by omega)))) (fun d hd => ?_)
      rw [gI_r]
      by_cases q : d = c
      · rw [if_pos ⟨rfl, q⟩, h1.xld, q]
      · rw [if_neg (fun z => q z.2)]
        exact h2 d (by omega)
  rw [eX7_loadsInto]
  exact key 32 0 (by omega) b bs.rf (fun d hd => by omega)
def eS : Option Nat → Int32
  | none => -1
  | some i => nI i
theorem c_spotLoop (hA : IA b n a r p) (hT : IT b) (hP : IP b n r p) (hS : IS b n r) (hW : isW p w m) (hl : jn b 1 2 = 2 → ∀ d, d < 32 → b.1 58 d = nI (ld b n d)) : ∃ o, SP b n r p w o ∧ rX2_spotFor_38 (nI w) (-1) 0 0 b = some (some (.int (eS o)), b) := by
  have hr := hA.2.2.2.2.1
  have hm := hT.1
  have key : ∀ k s, s + k = r → ∀ o v3, bU (GG b r p w) (KK b n r p w) (s * 32) o → (∀ i, o = some i → v3 = nI (KK b n r p w i)) → ∃ o', SP b n r p w o' ∧ rX2_spotFor_38 (nI w) (eS o) v3 (nI s) b = some (some (.int (eS o')), b) := by
    intro k
    induction k with
    | zero =>
      intro s hs o v3 h hv
      rw [show s = r by omega] at *
      rw [eX2_spotFor_38, hA.2.2.1, if_pos (nI_le (Nat.le_refl _) (by omega)), hm.1]
      cases o with
      | some i =>
        have := h.1
        exact ⟨some i, Or.inl ⟨h, fun q => by cases q⟩, by rw [show eS (some i) = nI i from rfl, if_neg (nm1 (by omega))]⟩
      | none =>
        rw [show eS none = -1 from rfl, if_pos rfl]
        by_cases q : r < jn b 1 1
        · rw [if_pos (nI_lt q (by omega)), c_ups hA, g_ci_some]
          obtain ⟨o', h1, h2⟩ := c_ranked hA hT hP hS hW hl 0
          rw [← ups0] at h2
          rw [h2, g_ci_some]
          have h3 := bU_row (s := r) h (by rw [bz_r]; exact h1)
          rw [show (r + 1) * 32 = r * 32 + 32 by omega] at h3
          cases o' with
          | none =>
            refine ⟨none, Or.inr ⟨h, q, h3⟩, ?_⟩
            rw [if_pos (show eR _ none = -1 from rfl)]; rfl
          | some c =>
            have hc := h1.1
            have hk := KR_le hA hP hS hW ((0 : Int32) ||| b.1 0 13) c
            refine ⟨some (r * 32 + c), Or.inr ⟨h, q, h3⟩, ?_⟩
            rw [show eR (KR b n p w ((0 : Int32) ||| b.1 0 13)) (some c) = nI (KR b n p w ((0 : Int32) ||| b.1 0 13) c * 32 + c) from rfl, if_neg (nm1 (by omega)), hA.2.2.1, eX1_spot, g_ci_some, show (32 : Int32) = nI 32 from rfl, pk_div (by omega) (by omega) (by omega), nml, nml, show (KR b n p w ((0 : Int32) ||| b.1 0 13) c * 32 + c) / 32 = KR b n p w ((0 : Int32) ||| b.1 0 13) c by omega, nsb (by omega), nad, show KR b n p w ((0 : Int32) ||| b.1 0 13) c * 32 + c - KR b n p w ((0 : Int32) ||| b.1 0 13) c * 32 = c by omega]
            rfl
        · exact ⟨none, Or.inl ⟨h, fun _ => by omega⟩, by rw [if_neg (nI_nlt (by omega) (by omega))]; rfl⟩
    | succ k ih =>
      intro s hs o v3 h hv
      obtain ⟨o', h1, h2⟩ := c_ranked hA hT hP hS hW hl (b.1 32 s)
      have h3 := bU_row (s := s) h (by rw [bz_s (by omega)]; exact h1)
      rw [eX2_spotFor_38, hA.2.2.1, if_neg (nI_ge (by omega) (by omega)), c_freeIn hA (by omega), g_ci_some, h2, g_ci_some, nI_1]
      cases o' with
      | none =>
        rw [if_pos (show eR _ none = -1 from rfl)]
        refine ih (s + 1) (by omega) o v3 ?_ hv
        rw [show cmb (KK b n r p w) s o none = o from by cases o <;> rfl] at h3
        exact h3
      | some c =>
        have hc := h1.1
        have hk := KR_le hA hP hS hW (b.1 32 s ||| b.1 0 13) c
        have hkk : KK b n r p w (s * 32 + c) = KR b n p w (b.1 32 s ||| b.1 0 13) c := by rw [KK_at hc, bz_s (by omega)]
        rw [show eR (KR b n p w (b.1 32 s ||| b.1 0 13)) (some c) = nI (KK b n r p w (s * 32 + c) * 32 + c) from by rw [hkk]; rfl, if_neg (nm1 (by omega)), eX1_spot, g_ci_some, g_ci_some, show (32 : Int32) = nI 32 from rfl, pk_div (by omega) (by omega) (by omega), nml, nml, show (KK b n r p w (s * 32 + c) * 32 + c) / 32 = KK b n r p w (s * 32 + c) by omega, nsb (by omega), nad, show KK b n r p w (s * 32 + c) * 32 + c - KK b n r p w (s * 32 + c) * 32 = c by omega]
        cases o with
        | none =>
          rw [show eS none = -1 from rfl, if_pos rfl]
          exact ih (s + 1) (by omega) (some (s * 32 + c)) _ h3 (fun i hi => by cases hi; rfl)
        | some i =>
          have hi := h.1
          have hki : KK b n r p w i ≤ 61000 := KR_le hA hP hS hW _ _
          rw [if_neg (show ¬ eS (some i) = -1 from nm1 (by omega)), hv i rfl]
          have h3 : bU _ _ _ (if KK b n r p w i ≤ KK b n r p w (s * 32 + c) then some i else some (s * 32 + c)) := h3
          by_cases q : KK b n r p w i ≤ KK b n r p w (s * 32 + c)
          · rw [if_pos (nI_le q (by omega))]
            rw [if_pos q] at h3
            exact ih (s + 1) (by omega) (some i) _ h3 (fun i hi => by cases hi; rfl)
          · rw [if_neg (nI_ge (by omega) (by omega))]
            rw [if_neg q] at h3
            exact ih (s + 1) (by omega) (some (s * 32 + c)) _ h3 (fun i hi => by cases hi; rfl)
  exact key r 0 (by omega) none 0 (fun i hi => by omega) (fun i hi => by cases hi)
theorem bs.xKK {b' : gMem} (h : bs b b') (n r p w : Nat) : KK b' n r p w = KK b n r p w := by
  funext i
  have e : bz b' r (i / 32) = bz b r (i / 32) := by unfold bz; rw [h.c 32 _ rfl]
  unfold KK KR f1K f2K
  rw [e, h.c 0 13 rfl, h.j 1 2 rfl, show GangLd.ld b' n = GangLd.ld b n from funext (fun c => h.xld n c)]
end SPOT2
