/-- the same but for what the search for a place holds -/
def fs (u u' : gMem) : Prop := u'.2 = u.2 ∧ ∀ c i, ¬ (c = 0 ∧ 5 ≤ i ∧ i ≤ 8) → u'.1 c i = u.1 c i
theorem fs.rf {u : gMem} : fs u u := ⟨rfl, fun _ _ _ => rfl⟩
theorem fs.tr {u v w : gMem} (h : fs u v) (h2 : fs v w) : fs u w := ⟨h2.1.trans h.1, fun c i hc => (h2.2 c i hc).trans (h.2 c i hc)⟩
theorem fs.w {u : gMem} {i : Nat} {x : Int32} (h : 5 ≤ i ∧ i ≤ 8) : fs u (gwI u 0 i x) := ⟨rfl, fun c k hc => by rw [gI_r, if_neg]; omega⟩
theorem fs.qs {u u' : gMem} (h : fs u u') : qs u u' := ⟨h.1, fun i => h.2 1 i (by omega), fun i => h.2 15 i (by omega), fun i => h.2 2 i (by omega), h.2 0 27 (by omega)⟩
/-- the same but for the loads laid out -/
def l58 (b b' : gMem) : Prop := b'.2 = b.2 ∧ ∀ c i, c ≠ 58 → b'.1 c i = b.1 c i
theorem l58.rf {b : gMem} : l58 b b := ⟨rfl, fun _ _ _ => rfl⟩
theorem l58.w {b b' : gMem} {i : Nat} {x : Int32} (h : l58 b b') : l58 b (gwI b' 58 i x) := ⟨h.1, fun c k hc => by rw [gI_r, if_neg (fun z => hc z.1)]; exact h.2 c k hc⟩
theorem l58.bs {b b' : gMem} (h : l58 b b') : bs b b' := ⟨h.1, fun c i hc => h.2 c i (by omega)⟩
section SPOT2
variable {b u : gMem} {n a r p t w m : Nat}
def GG (b : gMem) (r p w i : Nat) : Bool := GC p w (bz b r (i / 32) ||| b.1 0 13) (i % 32)
def KK (b : gMem) (n r p w i : Nat) : Nat := KR b n p w (bz b r (i / 32) ||| b.1 0 13) (i % 32)
theorem GG_at {s c : Nat} (hc : c < 32) : GG b r p w (s * 32 + c) = GC p w (bz b r s ||| b.1 0 13) c := by
  unfold GG; rw [show (s * 32 + c) / 32 = s by omega, show (s * 32 + c) % 32 = c by omega]
theorem KK_at {s c : Nat} (hc : c < 32) : KK b n r p w (s * 32 + c) = KR b n p w (bz b r s ||| b.1 0 13) c := by
  unfold KK; rw [show (s * 32 + c) / 32 = s by omega, show (s * 32 + c) % 32 = c by omega]
/-- the spot -/
def SP (b : gMem) (n r p w : Nat) (o : Option Nat) : Prop := (bU (GG b r p w) (KK b n r p w) (r * 32) o ∧ (o = none → jn b 1 1 ≤ r)) ∨ (bU (GG b r p w) (KK b n r p w) (r * 32) none ∧ r < jn b 1 1 ∧ bU (GG b r p w) (KK b n r p w) (r * 32 + 32) o)
theorem SP.uniq {o o' : Option Nat} (h : SP b n r p w o) (h' : SP b n r p w o') : o = o' := by
  rcases h with h | h <;> rcases h' with h' | h'
  · exact h.1.uniq h'.1
  · have := h.1.uniq h'.1
    have := h.2 this
    omega
  · have := h'.1.uniq h.1
    have := h'.2 this
    omega
  · exact h.2.2.uniq h'.2.2
theorem bz_s {s : Nat} (h : s < r) : bz b r s = b.1 32 s := if_pos h
theorem bz_r : bz b r r = 0 := if_neg (Nat.lt_irrefl r)
theorem bU_none {s : Nat} (h : bU (GG b r p w) (KK b n r p w) (s * 32) none) (h2 : ∀ c, c < 32 → GC p w (bz b r s ||| b.1 0 13) c = false) : bU (GG b r p w) (KK b n r p w) ((s + 1) * 32) none := by
  intro i hi
  by_cases q : i < s * 32
  · exact h i q
  · have := GG_at (b := b) (r := r) (p := p) (w := w) (s := s) (c := i - s * 32) (by omega)
    rw [show s * 32 + (i - s * 32) = i by omega] at this
    rw [this]
    exact h2 _ (by omega)
/-- the best of the slots before, and of this one -/
def cmb (K : Nat → Nat) (s : Nat) : Option Nat → Option Nat → Option Nat
  | o, none => o
  | none, some c => some (s * 32 + c)
  | some i, some c => if K i ≤ K (s * 32 + c) then some i else some (s * 32 + c)
theorem bU_row {s : Nat} {o o' : Option Nat} (h : bU (GG b r p w) (KK b n r p w) (s * 32) o) (h2 : bU (GC p w (bz b r s ||| b.1 0 13)) (KR b n p w (bz b r s ||| b.1 0 13)) 32 o') : bU (GG b r p w) (KK b n r p w) ((s + 1) * 32) (cmb (KK b n r p w) s o o') := by
  have hG := fun (i : Nat) (h1 : s * 32 ≤ i) (h3 : i < (s + 1) * 32) => (show GG b r p w i = GC p w (bz b r s ||| b.1 0 13) (i - s * 32) by
    have := GG_at (b := b) (r := r) (p := p) (w := w) (s := s) (c := i - s * 32) (by omega)
    rw [show s * 32 + (i - s * 32) = i by omega] at this
    exact this)
  have hK := fun (i : Nat) (h1 : s * 32 ≤ i) (h3 : i < (s + 1) * 32) => (show KK b n r p w i = KR b n p w (bz b r s ||| b.1 0 13) (i - s * 32) by
    have := KK_at (b := b) (n := n) (r := r) (p := p) (w := w) (s := s) (c := i - s * 32) (by omega)
    rw [show s * 32 + (i - s * 32) = i by omega] at this
    exact this)
  cases o' with
  | none =>
    have : cmb (KK b n r p w) s o none = o := by cases o <;> rfl
    rw [this]
    exact h.skip (by omega) (fun i h1 h3 => by rw [hG i h1 h3]; exact h2 _ (by omega))
  | some c =>
    have hc := h2.1
    have hg1 : GG b r p w (s * 32 + c) = true := by rw [GG_at hc]; exact h2.2.1
    have hrow : ∀ i, s * 32 ≤ i → i < (s + 1) * 32 → GG b r p w i = true → KK b n r p w (s * 32 + c) < KK b n r p w i ∨ (KK b n r p w (s * 32 + c) = KK b n r p w i ∧ s * 32 + c ≤ i) := by
      intro i h1 h3 hg
      rw [hG i h1 h3] at hg
      have := h2.2.2 (i - s * 32) (by omega) hg
      rw [KK_at hc, hK i h1 h3]
      omega
    cases o with
    | none =>
      refine ⟨by omega, hg1, fun i hi hg => ?_⟩
      by_cases q : i < s * 32
      · rw [h i q] at hg; cases hg
      · exact hrow i (by omega) hi hg
    | some x =>
      show bU _ _ _ (if KK b n r p w x ≤ KK b n r p w (s * 32 + c) then some x else some (s * 32 + c))
      have hx := h.1
      split
      · rename_i hq
        refine ⟨by omega, h.2.1, fun i hi hg => ?_⟩
        by_cases q : i < s * 32
        · exact h.2.2 i q hg
        · have := hrow i (by omega) hi hg
          omega
      · rename_i hq
        refine ⟨by omega, hg1, fun i hi hg => ?_⟩
        by_cases q : i < s * 32
        · have := h.2.2 i q hg
          omega
        · exact hrow i (by omega) hi hg
theorem ups0 : ups b p = ups b p &&& ((0 : Int32) ^^^ (-1)) := b_ext (fun i hi => by rw [b_and, b_not _ hi, b_0]; simp)
theorem or0 (x : Int32) : (0 : Int32) ||| x = x := b_ext (fun i _ => by rw [b_or, b_0]; simp)
theorem c_canStand (hA : IA b n a r p) (hT : IT b) (hW : isW p w m) : ∃ z, mX2_canStand [.ref 0, .int (nI w)] b = some (some (.int z), b) ∧ (z = 0 → SP b n r p w none) := by
  have hp := hA.2.2.2.2.2.2
  have hr := hA.2.2.2.2.1
  have hm := hT.1
  have key : ∀ k s, s + k = r → bU (GG b r p w) (KK b n r p w) (s * 32) none → ∃ z, rX2_canStand_7 (nI w) (ups b p) (nI s) b = some (some (.int z), b) ∧ (z = 0 → SP b n r p w none) := by
    intro k
    induction k with
    | zero =>
      intro s hs h
      rw [show s = r by omega] at *
      rw [eX2_canStand_7, hA.2.2.1, if_pos (nI_le (Nat.le_refl _) (by omega)), hm.1]
      by_cases q : jn b 1 1 ≤ r
      · exact ⟨0, by rw [if_pos (nI_le q (by omega))], fun _ => Or.inl ⟨h, fun _ => q⟩⟩
      · rw [if_neg (nI_ge (by omega) (by omega)), hW.1, starts_e hW.2.1, g_ci_some, ← hW.1]
        by_cases q2 : stp (ups b p) m = 0
        · refine ⟨0, by rw [if_pos q2], fun _ => Or.inr ⟨h, by omega, ?_⟩⟩
          have := bU_none (s := r) h (fun c hc => by rw [bz_r, or0, ← stG0 hp hW hc, q2, b_0])
          rw [Nat.add_mul] at this
          exact this
        · exact ⟨1, by rw [if_neg q2], fun h => absurd h (by decide)⟩
    | succ k ih =>
      intro s hs h
      rw [eX2_canStand_7, hA.2.2.1, if_neg (nI_ge (by omega) (by omega)), gin (by omega) (by omega), if_pos rfl, tn (by omega), hW.1, starts_e hW.2.1, g_ci_some, ← hW.1]
      by_cases q2 : stp (ups b p &&& (b.1 32 s ^^^ (-1))) m = 0
      · rw [if_pos q2, nI_1]
        refine ih (s + 1) (by omega) (bU_none h (fun c hc => ?_))
        rw [bz_s (by omega), ← stG hp hW _ hc, q2, b_0]
      · exact ⟨1, by rw [if_neg q2], fun h => absurd h (by decide)⟩
  rw [eX2_canStand, c_ups hA, g_ci_some]
  exact key r 0 (by omega) (fun i hi => by omega)
theorem c_loadsInto (hA : IA b n a r p) (hP : IP b n r p) (hS : IS b n r) : ∃ b', mX7_loadsInto [.ref 29, .ref 58] b = some (none, b') ∧ l58 b b' ∧ ∀ d, d < 32 → b'.1 58 d = nI (ld b n d) := by
  have key : ∀ k c, c + k = 32 → ∀ b1, l58 b b1 → (∀ d, d < c → b1.1 58 d = nI (ld b n d)) → ∃ b', rX7_loadsInto_2 (nI c) b1 = some (none, b') ∧ l58 b b' ∧ ∀ d, d < 32 → b'.1 58 d = nI (ld b n d) := by
    intro k
    induction k with
    | zero =>
      intro c hc b1 h1 h2
      rw [show c = 32 by omega] at *
      exact ⟨b1, by rw [eX7_loadsInto_2, if_pos (by decide)], h1, h2⟩
    | succ k ih =>
      intro c hc b1 h1 h2
      rw [eX7_loadsInto_2, if_neg (show ¬ (32 : Int32) ≤ nI c from nI_ge (a := c) (b := 32) (by omega) (by omega)), c_loadOf (h1.bs.xIA hA) (h1.bs.xIP hP) (h1.bs.xIS hS) (by omega), g_ci_some, gin (by omega) (by omega), if_pos rfl, tn (by omega), nI_1]
      refine ih (c + 1) (by omega) _ h1.w (fun d hd => ?_)
      rw [gI_r]
      by_cases q : d = c
      · rw [if_pos ⟨rfl, q⟩, h1.bs.xld, q]
      · rw [if_neg (fun z => q z.2)]
        exact h2 d (by omega)
  rw [eX7_loadsInto]
  exact key 32 0 (by omega) b l58.rf (fun d hd => by omega)
def eS : Option Nat → Int32
  | none => -1
  | some i => nI i
theorem c_spotLoop (hA : IA b n a r p) (hT : IT b) (hP : IP b n r p) (hS : IS b n r) (hW : isW p w m) (hl : jn b 1 2 = 2 → ∀ d, d < 32 → b.1 58 d = nI (ld b n d)) : ∃ o, SP b n r p w o ∧ rX2_spotFor_38 (nI w) (-1) 0 0 b = some (some (.int (eS o)), b) := by
  have hr := hA.2.2.2.2.1
  have hm := hT.1
  have key : ∀ k s, s + k = r → ∀ o v3, bU (GG b r p w) (KK b n r p w) (s * 32) o → (∀ i, o = some i → v3 = nI (KK b n r p w i)) → ∃ o', SP b n r p w o' ∧ rX2_spotFor_38 (nI w) (eS o) v3 (nI s) b = some (some (.int (eS o')), b) := by
    intro k
    induction k with
    | zero =>
      intro s hs o v3 h hv
      rw [show s = r by omega] at *
      rw [eX2_spotFor_38, hA.2.2.1, if_pos (nI_le (Nat.le_refl _) (by omega)), hm.1]
      cases o with
      | some i =>
        have := h.1
        exact ⟨some i, Or.inl ⟨h, fun q => by cases q⟩, by rw [show eS (some i) = nI i from rfl, if_neg (nm1 (by omega))]⟩
      | none =>
        rw [show eS none = -1 from rfl, if_pos rfl]
        by_cases q : r < jn b 1 1
        · rw [if_pos (nI_lt q (by omega)), c_ups hA, g_ci_some]
          obtain ⟨o', h1, h2⟩ := c_ranked hA hT hP hS hW hl 0
          rw [← ups0] at h2
          rw [h2, g_ci_some]
          have h3 := bU_row (s := r) h (by rw [bz_r]; exact h1)
          rw [show (r + 1) * 32 = r * 32 + 32 by omega] at h3
          cases o' with
          | none =>
            refine ⟨none, Or.inr ⟨h, q, h3⟩, ?_⟩
            rw [if_pos (show eR _ none = -1 from rfl)]; rfl
          | some c =>
            have hc := h1.1
            have hk := KR_le hA hP hS hW ((0 : Int32) ||| b.1 0 13) c
            refine ⟨some (r * 32 + c), Or.inr ⟨h, q, h3⟩, ?_⟩
            rw [show eR (KR b n p w ((0 : Int32) ||| b.1 0 13)) (some c) = nI (KR b n p w ((0 : Int32) ||| b.1 0 13) c * 32 + c) from rfl, if_neg (nm1 (by omega)), hA.2.2.1, eX1_spot, g_ci_some, show (32 : Int32) = nI 32 from rfl, pk_div (by omega) (by omega) (by omega), nml, nml, show (KR b n p w ((0 : Int32) ||| b.1 0 13) c * 32 + c) / 32 = KR b n p w ((0 : Int32) ||| b.1 0 13) c by omega, nsb (by omega), nad, show KR b n p w ((0 : Int32) ||| b.1 0 13) c * 32 + c - KR b n p w ((0 : Int32) ||| b.1 0 13) c * 32 = c by omega]
            rfl
        · exact ⟨none, Or.inl ⟨h, fun _ => by omega⟩, by rw [if_neg (nI_nlt (by omega) (by omega))]; rfl⟩
    | succ k ih =>
      intro s hs o v3 h hv
      obtain ⟨o', h1, h2⟩ := c_ranked hA hT hP hS hW hl (b.1 32 s)
      have h3 := bU_row (s := s) h (by rw [bz_s (by omega)]; exact h1)
      rw [eX2_spotFor_38, hA.2.2.1, if_neg (nI_ge (by omega) (by omega)), c_freeIn hA (by omega), g_ci_some, h2, g_ci_some, nI_1]
      cases o' with
      | none =>
        rw [if_pos (show eR _ none = -1 from rfl)]
        refine ih (s + 1) (by omega) o v3 ?_ hv
        rw [show cmb (KK b n r p w) s o none = o from by cases o <;> rfl] at h3
        exact h3
      | some c =>
        have hc := h1.1
        have hk := KR_le hA hP hS hW (b.1 32 s ||| b.1 0 13) c
        have hkk : KK b n r p w (s * 32 + c) = KR b n p w (b.1 32 s ||| b.1 0 13) c := by rw [KK_at hc, bz_s (by omega)]
        rw [show eR (KR b n p w (b.1 32 s ||| b.1 0 13)) (some c) = nI (KK b n r p w (s * 32 + c) * 32 + c) from by rw [hkk]; rfl, if_neg (nm1 (by omega)), eX1_spot, g_ci_some, show (32 : Int32) = nI 32 from rfl, pk_div (by omega) (by omega) (by omega), nml, nml, show (KK b n r p w (s * 32 + c) * 32 + c) / 32 = KK b n r p w (s * 32 + c) by omega, nsb (by omega), nad, show KK b n r p w (s * 32 + c) * 32 + c - KK b n r p w (s * 32 + c) * 32 = c by omega]
        cases o with
        | none =>
          rw [show eS none = -1 from rfl, if_pos rfl]
          exact ih (s + 1) (by omega) (some (s * 32 + c)) _ h3 (fun i hi => by cases hi; rfl)
        | some i =>
          have hi := h.1
          have hki : KK b n r p w i ≤ 61000 := KR_le hA hP hS hW _ _
          rw [if_neg (show ¬ eS (some i) = -1 from nm1 (by omega)), hv i rfl]
          have h3 : bU _ _ _ (if KK b n r p w i ≤ KK b n r p w (s * 32 + c) then some i else some (s * 32 + c)) := h3
          by_cases q : KK b n r p w i ≤ KK b n r p w (s * 32 + c)
          · rw [if_pos (nI_le q (by omega))]
            rw [if_pos q] at h3
            exact ih (s + 1) (by omega) (some i) _ h3 (fun i hi => by cases hi; rfl)
          · rw [if_neg (nI_ge (by omega) (by omega))]
            rw [if_neg q] at h3
            exact ih (s + 1) (by omega) (some (s * 32 + c)) _ h3 (fun i hi => by cases hi; rfl)
  exact key r 0 (by omega) none 0 (fun i hi => by omega) (fun i hi => by cases hi)
theorem bs.xKK {b' : gMem} (h : bs b b') (n r p w : Nat) : KK b' n r p w = KK b n r p w := by
  funext i
  have e : bz b' r (i / 32) = bz b r (i / 32) := by unfold bz; rw [h.c 32 _ rfl]
  unfold KK KR f1K f2K
  rw [e, h.c 0 13 rfl, h.j 1 2 rfl, show ld b' n = ld b n from funext (fun c => h.xld n c)]
theorem bs.xGG {b' : gMem} (h : bs b b') (r p w : Nat) : GG b' r p w = GG b r p w := by
  funext i
  have e : bz b' r (i / 32) = bz b r (i / 32) := by unfold bz; rw [h.c 32 _ rfl]
  unfold GG
  rw [e, h.c 0 13 rfl]
theorem bs.xSP {b' : gMem} (h : bs b b') {n r p w : Nat} {o : Option Nat} : SP b' n r p w o ↔ SP b n r p w o := by
  unfold SP; rw [h.xKK, h.xGG, h.j 1 1 rfl]
theorem c_spotFor (hA : IA b n a r p) (hT : IT b) (hP : IP b n r p) (hS : IS b n r) (hW : isW p w m) : ∃ o b', SP b n r p w o ∧ l58 b b' ∧ mX2_spotFor [.ref 0, .int (nI w)] b = some (some (.int (eS o)), b') := by
  obtain ⟨z, h1, h2⟩ := c_canStand hA hT hW
  rw [eX2_spotFor, h1, g_ci_some]
  by_cases q : z = 0
  · exact ⟨none, b, h2 q, l58.rf, by rw [if_pos q]; rfl⟩
  rw [if_neg q]
  by_cases q2 : jn b 1 2 = 2
  · obtain ⟨b', g1, g2, g3⟩ := c_loadsInto hA hP hS
    rw [if_pos (by rw [hT.2.1.1, q2]; rfl), g1, g_cv_some]
    obtain ⟨o, k1, k2⟩ := c_spotLoop (g2.bs.xIA hA) (g2.bs.xIT hT) (g2.bs.xIP hP) (g2.bs.xIS hS) hW (fun _ d hd => by rw [g3 d hd, g2.bs.xld])
    exact ⟨o, b', g2.bs.xSP.mp k1, g2, k2⟩
  · rw [if_neg (fun z => q2 (by unfold jn; rw [z]; rfl))]
    obtain ⟨o, k1, k2⟩ := c_spotLoop hA hT hP hS hW (fun z => absurd z q2)
    exact ⟨o, b, k1, l58.rf, k2⟩
/-- what the reference holds of the best so far -/
def MI (b u : gMem) (n r p w : Nat) : Option Nat → Prop
  | none => u.1 0 5 = -1
  | some i => u.1 0 5 = nI (i / 32) ∧ u.1 0 6 = nI (i % 32) ∧ u.1 0 7 = nI (f1K b n p w (bz b r (i / 32) ||| b.1 0 13) (i % 32)) ∧ u.1 0 8 = nI (f2K b n w (i % 32)) ∧ i < 288
def tlW (s c f g : Int32) (u : gMem) : Option (Option Value × gMem) := if (u.1 0 5) = (-1) then some (none, (gwI (gwI (gwI (gwI u 0 5 s) 0 6 c) 0 7 f) 0 8 g)) else (if (u.1 0 7) < f then some (none, u) else (if f = (u.1 0 7) then (if g < (u.1 0 8) then some (none, (gwI (gwI (gwI (gwI u 0 5 s) 0 6 c) 0 7 f) 0 8 g)) else some (none, u)) else some (none, (gwI (gwI (gwI (gwI u 0 5 s) 0 6 c) 0 7 f) 0 8 g))))
theorem m_weighs0 (e : EE b u n a r) (hA : IA b n a r p) (hT : IT b) (hJ : IJ b n p t) (hP : IP b n r p) (hS : IS b n r) (hW : isW p w m) {s c : Nat} (hs : s ≤ 8) (hc : c < p) (hcw : c % w = 0) : mX10_weighs [.ref 0, .int (nI s), .int (nI c), .int (nI w)] u = tlW (nI s) (nI c) (nI (f1K b n p w (bz b r s ||| b.1 0 13) c)) (nI (f2K b n w c)) u := by
  have hp := hA.2.2.2.2.2.2
  have hfit := mul_fit hW.le.1 (hW.dvd hp) hcw hc
  have hf := hT.2.1
  rw [eX10_weighs, set_2, g_ci_some, show u.1 1 2 + 0 = nI (jn b 1 2) from by rw [← hf.1]; exact e.1.1.2.2.1]
  have hf3 : jn b 1 2 = 0 ∨ jn b 1 2 = 1 ∨ jn b 1 2 = 2 := by omega
  rcases hf3 with q | q | q
  · rw [show f1K b n p w (bz b r s ||| b.1 0 13) c = 0 from by unfold f1K; rw [q]; rfl, show f2K b n w c = 0 from by unfold f2K; rw [q]; rfl, q, if_neg (show ¬ nI 0 = 1 by decide), if_neg (show ¬ nI 0 = 2 by decide), if_neg (show ¬ nI 0 = 2 by decide)]
    rfl
  · rw [show f1K b n p w (bz b r s ||| b.1 0 13) c = rmF p w (bz b r s ||| b.1 0 13) c 6 from by unfold f1K; rw [q]; rfl, show f2K b n w c = 0 from by unfold f2K; rw [q]; rfl, q, if_pos (show nI 1 = 1 from rfl), m_roomOf e hA hJ hP hS hW hs hc, g_ci_some, if_neg (show ¬ nI 1 = 2 by decide)]
    rfl
  · rw [show f1K b n p w (bz b r s ||| b.1 0 13) c = mxF (ld b n) c w from by unfold f1K; rw [q]; rfl, show f2K b n w c = sF (fun d => ld b n (c + d)) w from by unfold f2K; rw [q]; rfl, q, if_neg (show ¬ nI 2 = 1 by decide), if_pos (show nI 2 = 2 from rfl), m_greatestIn e hA hJ hP (by omega), g_ci_some, if_pos (show nI 2 = 2 from rfl), m_sumIn e hA hJ hP (by omega), g_ci_some]
    rfl
theorem m_weighs (e : EE b u n a r) (hA : IA b n a r p) (hT : IT b) (hJ : IJ b n p t) (hP : IP b n r p) (hS : IS b n r) (hW : isW p w m) {s c : Nat} (hs : s ≤ 8) (hc : c < p) (hcw : c % w = 0) {o : Option Nat} (hb : bU (GG b r p w) (KK b n r p w) (s * 32 + c) o) (hg : GG b r p w (s * 32 + c) = true) (hM : MI b u n r p w o) : ∃ u' o', mX10_weighs [.ref 0, .int (nI s), .int (nI c), .int (nI w)] u = some (none, u') ∧ fs u u' ∧ bU (GG b r p w) (KK b n r p w) (s * 32 + c + 1) o' ∧ MI b u' n r p w o' := by
  have hp32 : p ≤ 32 := by have := hA.2.2.2.2.2.2; omega
  rw [m_weighs0 e hA hT hJ hP hS hW hs hc hcw]
  have hf1 := f1K_le hA hW (bz b r s ||| b.1 0 13) c
  have hf2 := f2K_le hA hP hS hW c
  have hq : fs u (gwI (gwI (gwI (gwI u 0 5 (nI s)) 0 6 (nI c)) 0 7 (nI (f1K b n p w (bz b r s ||| b.1 0 13) c))) 0 8 (nI (f2K b n w c))) := (((fs.w (by decide)).tr (fs.w (by decide))).tr (fs.w (by decide))).tr (fs.w (by decide))
  have hm : MI b (gwI (gwI (gwI (gwI u 0 5 (nI s)) 0 6 (nI c)) 0 7 (nI (f1K b n p w (bz b r s ||| b.1 0 13) c))) 0 8 (nI (f2K b n w c))) n r p w (some (s * 32 + c)) := by
    have e1 : (s * 32 + c) / 32 = s := by omega
    have e2 : (s * 32 + c) % 32 = c := by omega
    exact ⟨show nI s = nI _ by rw [e1], show nI c = nI _ by rw [e2], show nI (f1K b n p w (bz b r s ||| b.1 0 13) c) = nI _ by rw [e1, e2], show nI (f2K b n w c) = nI _ by rw [e2], by omega⟩
  unfold tlW
  cases o with
  | none =>
    have hM : u.1 0 5 = -1 := hM
    exact ⟨_, some (s * 32 + c), by rw [if_pos hM], hq, hb.take hg (fun x hx => by cases hx), hm⟩
  | some i =>
    obtain ⟨m1, m2, m3, m4, m5⟩ := hM
    have hi1 := f1K_le hA hW (bz b r (i / 32) ||| b.1 0 13) (i % 32)
    have hi2 := f2K_le hA hP hS hW (i % 32)
    have hlt := KR_lt hA hP hS hW (bz b r s ||| b.1 0 13) (bz b r (i / 32) ||| b.1 0 13) c (i % 32)
    have hKs : KK b n r p w (s * 32 + c) = KR b n p w (bz b r s ||| b.1 0 13) c := KK_at (by omega)
    have hKi : KK b n r p w i = KR b n p w (bz b r (i / 32) ||| b.1 0 13) (i % 32) := rfl
    rw [if_neg (by rw [m1]; exact nm1 (by omega)), m3, m4]
    by_cases q : KK b n r p w (s * 32 + c) < KK b n r p w i
    · refine ⟨_, some (s * 32 + c), ?_, hq, hb.take hg (fun x hx => by cases hx; exact q), hm⟩
      rw [hKs, hKi, hlt] at q
      rcases q with q | q
      · rw [if_neg (nI_nlt (by omega) (by omega)), if_neg (by rw [neq (by omega) (by omega)]; omega)]
      · rw [if_neg (nI_nlt (by omega) (by omega)), if_pos (by rw [q.1]), if_pos (nI_lt q.2 (by omega))]
    · refine ⟨u, some i, ?_, fs.rf, hb.keep (by omega), ⟨m1, m2, m3, m4, m5⟩⟩
      rw [hKs, hKi, hlt] at q
      by_cases q1 : f1K b n p w (bz b r (i / 32) ||| b.1 0 13) (i % 32) < f1K b n p w (bz b r s ||| b.1 0 13) c
      · rw [if_pos (nI_lt q1 (by omega))]
      · rw [if_neg (nI_nlt (by omega) (by omega)), if_pos (congrArg nI (by omega)), if_neg (nI_nlt (by omega) (by omega))]
theorem GG_no {s c d : Nat} (hp : p = 4 ∨ p = 8 ∨ p = 16 ∨ p = 32) (hW : isW p w m) (hcw : c % w = 0) (hc : c < p) (h1 : s * 32 + c + 1 ≤ d) (h2 : d < s * 32 + (c + w)) : GG b r p w d = false := by
  have hfit := mul_fit hW.le.1 (hW.dvd hp) hcw hc
  refine Bool.eq_false_iff.mpr (fun q => ?_)
  have := GG_at (b := b) (r := r) (p := p) (w := w) (s := s) (c := d - s * 32) (by omega)
  rw [show s * 32 + (d - s * 32) = d by omega] at this
  rw [this] at q
  have h3 := (GC_iff.mp q).1
  obtain ⟨y, hy⟩ := Nat.dvd_of_mod_eq_zero hcw
  have h4 : (d - s * 32) = w * y + (d - s * 32 - c) := by omega
  rw [h4, Nat.mul_add_mod, Nat.mod_eq_of_lt (by omega)] at h3
  omega
theorem GG_end {s d : Nat} (hp : p = 4 ∨ p = 8 ∨ p = 16 ∨ p = 32) (h1 : s * 32 + p ≤ d) (h2 : d < s * 32 + 32) : GG b r p w d = false := by
  refine Bool.eq_false_iff.mpr (fun q => ?_)
  have := GG_at (b := b) (r := r) (p := p) (w := w) (s := s) (c := d - s * 32) (by omega)
  rw [show s * 32 + (d - s * 32) = d by omega] at this
  rw [this] at q
  have h3 := (GC_iff.mp q).2.1
  omega
theorem m_finds20 (e : EE b u n a r) (hA : IA b n a r p) (hT : IT b) (hJ : IJ b n p t) (hP : IP b n r p) (hS : IS b n r) (hW : isW p w m) {s : Nat} (hs : s < r) : ∀ k c, p ≤ c + k → c ≤ p → c % w = 0 → ∀ u1 o, fs u u1 → bU (GG b r p w) (KK b n r p w) (s * 32 + c) o → MI b u1 n r p w o → ∃ u2 o', rX10_finds_20 (nI w) (nI s) (nI c) u1 = rX10_finds_7 (nI w) (nI (s + 1)) u2 ∧ fs u u2 ∧ bU (GG b r p w) (KK b n r p w) ((s + 1) * 32) o' ∧ MI b u2 n r p w o' := by
  have hp := hA.2.2.2.2.2.2
  have hr := hA.2.2.2.2.1
  have hle := hW.le
  intro k
  induction k with
  | zero =>
    intro c h1 h2 h3 u1 o hq hb hM
    have hcp : c = p := by omega
    subst hcp
    refine ⟨u1, o, ?_, hq, ?_, hM⟩
    · rw [eX10_finds_20, m_cols (e.q hq.qs) hA, g_ci_some, if_pos (nI_le (Nat.le_refl _) (by omega)), nI_1]
    · exact hb.skip (by omega) (fun i h4 h5 => GG_end hp h4 (by omega))
  | succ k ih =>
    intro c h1 h2 h3 u1 o hq hb hM
    by_cases hcp : c = p
    · subst hcp
      refine ⟨u1, o, ?_, hq, ?_, hM⟩
      · rw [eX10_finds_20, m_cols (e.q hq.qs) hA, g_ci_some, if_pos (nI_le (Nat.le_refl _) (by omega)), nI_1]
      · exact hb.skip (by omega) (fun i h4 h5 => GG_end hp h4 (by omega))
    have hfit := mul_fit hle.1 (hW.dvd hp) h3 (show c < p by omega)
    have hmod : (c + w) % w = 0 := by rw [Nat.add_mod_right]; exact h3
    rw [eX10_finds_20, m_cols (e.q hq.qs) hA, g_ci_some, if_neg (nI_ge (by omega) (by omega)), m_isFree (e.q hq.qs) hA hJ hP hS (by omega) hle.2, g_ci_some, nad]
    have hgg : GG b r p w (s * 32 + c) = decide ((bz b r s ||| b.1 0 13) &&& BK c w = 0) := by
      rw [GG_at (by omega)]; unfold GC; rw [decide_eq_true h3, decide_eq_true (show c < p by omega)]; rfl
    by_cases q : (bz b r s ||| b.1 0 13) &&& BK c w = 0
    · rw [if_pos q, if_neg (by decide)]
      obtain ⟨u2, o2, g1, g2, g3, g4⟩ := m_weighs (e.q hq.qs) hA hT hJ hP hS hW (s := s) (c := c) (by omega) (by omega) h3 hb (by rw [hgg, decide_eq_true q]) hM
      rw [g1, g_cv_some]
      exact ih (c + w) (by omega) hfit hmod u2 o2 (hq.tr g2) (g3.skip (by omega) (fun i h4 h5 => GG_no hp hW h3 (by omega) h4 h5)) g4
    · rw [if_neg q, if_pos rfl]
      refine ih (c + w) (by omega) hfit hmod u1 o hq ?_ hM
      refine (hb.skip (k' := s * 32 + c + 1) (by omega) (fun i h4 h5 => ?_)).skip (by omega) (fun i h4 h5 => GG_no hp hW h3 (by omega) h4 h5)
      rw [show i = s * 32 + c by omega, hgg, decide_eq_false q]
theorem m_finds83 (e : EE b u n a r) (hA : IA b n a r p) (hT : IT b) (hJ : IJ b n p t) (hP : IP b n r p) (hS : IS b n r) (hW : isW p w m) : ∀ k c, p ≤ c + k → c ≤ p → c % w = 0 → ∀ u1 o, fs u u1 → bU (GG b r p w) (KK b n r p w) (r * 32 + c) o → MI b u1 n r p w o → ∃ u2 o', rX10_finds_83 (nI w) (nI c) u1 = (if (u2.1 0 5) = (-1) then some (some (.int 0), u2) else some (some (.int 1), u2)) ∧ fs u u2 ∧ bU (GG b r p w) (KK b n r p w) (r * 32 + 32) o' ∧ MI b u2 n r p w o' := by
  have hp := hA.2.2.2.2.2.2
  have hr := hA.2.2.2.2.1
  have hle := hW.le
  intro k
  induction k with
  | zero =>
    intro c h1 h2 h3 u1 o hq hb hM
    have hcp : c = p := by omega
    subst hcp
    refine ⟨u1, o, ?_, hq, ?_, hM⟩
    · rw [eX10_finds_83, m_cols (e.q hq.qs) hA, g_ci_some, if_pos (nI_le (Nat.le_refl _) (by omega))]
    · exact hb.skip (by omega) (fun i h4 h5 => GG_end hp h4 (by omega))
  | succ k ih =>
    intro c h1 h2 h3 u1 o hq hb hM
    by_cases hcp : c = p
    · subst hcp
      refine ⟨u1, o, ?_, hq, ?_, hM⟩
      · rw [eX10_finds_83, m_cols (e.q hq.qs) hA, g_ci_some, if_pos (nI_le (Nat.le_refl _) (by omega))]
      · exact hb.skip (by omega) (fun i h4 h5 => GG_end hp h4 (by omega))
    have hfit := mul_fit hle.1 (hW.dvd hp) h3 (show c < p by omega)
    have hmod : (c + w) % w = 0 := by rw [Nat.add_mod_right]; exact h3
    have hur : u1.1 1 13 = nI r := by rw [(e.q hq.qs).h.r, hA.2.2.1]
    rw [eX10_finds_83, m_cols (e.q hq.qs) hA, g_ci_some, if_neg (nI_ge (by omega) (by omega)), hur, m_isFree (e.q hq.qs) hA hJ hP hS (by omega) hle.2, g_ci_some, nad, hur]
    have hgg : GG b r p w (r * 32 + c) = decide ((bz b r r ||| b.1 0 13) &&& BK c w = 0) := by
      rw [GG_at (by omega)]; unfold GC; rw [decide_eq_true h3, decide_eq_true (show c < p by omega)]; rfl
    by_cases q : (bz b r r ||| b.1 0 13) &&& BK c w = 0
    · rw [if_pos q, if_neg (by decide)]
      obtain ⟨u2, o2, g1, g2, g3, g4⟩ := m_weighs (e.q hq.qs) hA hT hJ hP hS hW (s := r) (c := c) (by omega) (by omega) h3 hb (by rw [hgg, decide_eq_true q]) hM
      rw [g1, g_cv_some]
      exact ih (c + w) (by omega) hfit hmod u2 o2 (hq.tr g2) (g3.skip (by omega) (fun i h4 h5 => GG_no hp hW h3 (by omega) h4 h5)) g4
    · rw [if_neg q, if_pos rfl]
      refine ih (c + w) (by omega) hfit hmod u1 o hq ?_ hM
      refine (hb.skip (k' := r * 32 + c + 1) (by omega) (fun i h4 h5 => ?_)).skip (by omega) (fun i h4 h5 => GG_no hp hW h3 (by omega) h4 h5)
      rw [show i = r * 32 + c by omega, hgg, decide_eq_false q]
theorem MI_fin {o : Option Nat} (hM : MI b u n r p w o) : (if (u.1 0 5) = (-1) then some (some (Value.int 0), u) else some (some (Value.int 1), u)) = some (some (Value.int (if o.isSome then 1 else 0)), u) := by
  cases o with
  | none => exact if_pos hM
  | some i => exact if_neg (by rw [hM.1]; exact nm1 (by have := hM.2.2.2.2; omega))
theorem m_finds (e : EE b u n a r) (hA : IA b n a r p) (hT : IT b) (hJ : IJ b n p t) (hP : IP b n r p) (hS : IS b n r) (hW : isW p w m) : ∃ o u', SP b n r p w o ∧ fs u u' ∧ mX10_finds [.ref 0, .int (nI w)] u = some (some (.int (if o.isSome then 1 else 0)), u') ∧ (∀ i, o = some i → u'.1 0 5 = nI (i / 32) ∧ u'.1 0 6 = nI (i % 32) ∧ i < 288) := by
  have hp := hA.2.2.2.2.2.2
  have hr := hA.2.2.2.2.1
  have hle := hW.le
  have hm := hT.1
  have hMI : ∀ u2 o, MI b u2 n r p w o → ∀ i, o = some i → u2.1 0 5 = nI (i / 32) ∧ u2.1 0 6 = nI (i % 32) ∧ i < 288 := by
    intro u2 o h i hi; subst hi; exact ⟨h.1, h.2.1, h.2.2.2.2⟩
  have key : ∀ k s, s + k = r → ∀ u1 o, fs u u1 → bU (GG b r p w) (KK b n r p w) (s * 32) o → MI b u1 n r p w o → ∃ o' u', SP b n r p w o' ∧ fs u u' ∧ rX10_finds_7 (nI w) (nI s) u1 = some (some (.int (if o'.isSome then 1 else 0)), u') ∧ (∀ i, o' = some i → u'.1 0 5 = nI (i / 32) ∧ u'.1 0 6 = nI (i % 32) ∧ i < 288) := by
    intro k
    induction k with
    | zero =>
      intro s hs u1 o hq hb hM
      rw [show s = r by omega] at *
      have hur : u1.1 1 13 = nI r := by rw [(e.q hq.qs).h.r, hA.2.2.1]
      rw [eX10_finds_7, hur, if_pos (nI_le (Nat.le_refl _) (by omega)), MI_fin hM]
      cases o with
      | some i =>
        rw [if_neg (by rw [hM.1]; exact nm1 (by have := hM.2.2.2.2; omega))]
        exact ⟨some i, u1, Or.inl ⟨hb, fun q => by cases q⟩, hq, rfl, hMI _ _ hM⟩
      | none =>
        rw [if_pos (show u1.1 0 5 = -1 from hM), set_1, g_ci_some, show u1.1 1 1 + 4 = nI (jn b 1 1) from by rw [← hm.1]; exact (e.q hq.qs).1.1.2.1]
        by_cases q : jn b 1 1 ≤ r
        · rw [if_pos (nI_le q (by omega))]
          exact ⟨none, u1, Or.inl ⟨hb, fun _ => q⟩, hq, MI_fin hM, hMI _ _ hM⟩
        · rw [if_neg (nI_ge (by omega) (by omega))]
          obtain ⟨u2, o', g1, g2, g3, g4⟩ := m_finds83 e hA hT hJ hP hS hW p 0 (by omega) (by omega) (Nat.zero_mod _) u1 none hq hb hM
          rw [show (0 : Int32) = nI 0 from rfl] at *
          exact ⟨o', u2, Or.inr ⟨hb, by omega, g3⟩, g2, by rw [g1]; exact MI_fin g4, hMI _ _ g4⟩
    | succ k ih =>
      intro s hs u1 o hq hb hM
      have hur : u1.1 1 13 = nI r := by rw [(e.q hq.qs).h.r, hA.2.2.1]
      obtain ⟨u2, o', g1, g2, g3, g4⟩ := m_finds20 e hA hT hJ hP hS hW (s := s) (by omega) p 0 (by omega) (by omega) (Nat.zero_mod _) u1 o hq hb hM
      rw [eX10_finds_7, hur, if_neg (nI_ge (by omega) (by omega))]
      rw [show rX10_finds_20 (nI w) (nI s) 0 u1 = _ from g1]
      exact ih (s + 1) (by omega) u2 o' g2 g3 g4
  rw [eX10_finds]
  exact key r 0 (by omega) _ none (fs.w (by decide)) (fun i hi => by omega) rfl
end SPOT2
