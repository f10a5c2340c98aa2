/-! the spot for a width by FIT, on both sides -/
theorem bs.c {b b' : gMem} (h : bs b b') (c i : Nat) (hc : (decide (c < 53) && decide (c ≠ 28)) = true) : b'.1 c i = b.1 c i := by
  simp only [Bool.and_eq_true, decide_eq_true_eq] at hc
  exact h.2 c i hc
theorem bs.j {b b' : gMem} (h : bs b b') (c i : Nat) (hc : (decide (c < 53) && decide (c ≠ 28)) = true) : jn b' c i = jn b c i := by unfold jn; rw [h.c c i hc]
theorem bs.xbl {b b' : gMem} (h : bs b b') : bl b' = bl b := by funext j; unfold bl; rw [h.j 13 j rfl, h.j 14 j rfl]
theorem bs.xsb {b b' : gMem} (h : bs b b') (s : Nat) : sb b' s = sb b s := by funext j; unfold sb; rw [h.c 12 j rfl, h.xbl]
theorem bs.xIA {b b' : gMem} {n a r p : Nat} (h : bs b b') (hA : IA b n a r p) : IA b' n a r p := by
  unfold IA at *; rw [h.c 3 2 rfl, h.c 33 1 rfl, h.c 29 3 rfl, h.c 1 0 rfl]; exact hA
theorem bs.xIT {b b' : gMem} (h : bs b b') (hA : IT b) : IT b' := by
  unfold IT at *; simp (disch := decide) only [h.c, h.j]; exact hA
theorem bs.xIJ {b b' : gMem} {n p t : Nat} (h : bs b b') (hA : IJ b n p t) : IJ b' n p t := by
  intro j hj; have := hA j hj; unfold IJ1 at *; simp (disch := decide) only [h.c, h.j]; exact this
theorem bs.xIP {b b' : gMem} {n r p : Nat} (h : bs b b') (hA : IP b n r p) : IP b' n r p := by
  unfold IP IP1 at *; simp (disch := decide) only [h.c, h.j, h.xbl]; exact hA
theorem bs.xIS {b b' : gMem} {n r : Nat} (h : bs b b') (hA : IS b n r) : IS b' n r := by
  intro s hs; rw [h.c 32 s rfl, h.xsb]; exact hA s hs
theorem bs.xIS0 {b b' : gMem} {r : Nat} (h : bs b b') (hA : IS0 b r) : IS0 b' r := by
  refine ⟨fun s hs => by rw [h.c 32 s rfl]; exact hA.1 s hs, fun j hj => ?_⟩
  rw [h.c 9 j rfl, h.c 10 j rfl]; exact hA.2 j hj
theorem bs.xIU {b b' : gMem} {t : Nat} (h : bs b b') (hA : IU b t) : IU b' t := by
  unfold IU at *; simp (disch := decide) only [h.c, h.j]; exact hA
theorem bs.xIR {b b' : gMem} {a p : Nat} (h : bs b b') (hA : IR b a p) : IR b' a p := by
  intro i hi; have := hA i hi; simp (disch := decide) only [h.c, h.j]; exact this
theorem bs.xID {b b' : gMem} {p : Nat} (h : bs b b') (hA : ID b p) : ID b' p := by
  unfold ID at *; rw [h.c 0 13 rfl]; exact hA
theorem bs.xIQ {b b' u : gMem} {n B : Nat} {Q : List Nat} (h : bs b b') (hA : IQ b u n Q B) : IQ b' u n Q B := by
  unfold IQ at *; simp (disch := decide) only [h.c]; exact hA
theorem bs.xIB {b b' : gMem} {t B : Nat} (h : bs b b') (hA : IB b t B) : IB b' t B := by
  unfold IB at *; simp (disch := decide) only [h.c]; exact hA
theorem bs.xEE {b b' u : gMem} {n a r : Nat} (h : bs b b') (e : EE b u n a r) : EE b' u n a r := by
  unfold EE EH EJ ER ET EL EV EJ1 at *; simp (disch := decide) only [h.c, h.1]; exact e
theorem bs.xBR {b b' u : gMem} {n a r p t B : Nat} {Q : List Nat} (h : bs b b') (e : BR b u n a r p t Q B) : BR b' u n a r p t Q B := by
  obtain ⟨e, h1, h2, h3, h4, h5, h6, h7, h8, h9, h10, h11⟩ := e
  exact ⟨h.xEE e, h.xIA h1, h.xIT h2, h.xIJ h3, h.xIP h4, h.xIS h5, h.xIS0 h6, h.xIU h7, h.xIR h8, h.xID h9, h.xIQ h10, h.xIB h11⟩
theorem qs.xIQ {b u u' : gMem} {n B : Nat} {Q : List Nat} (h : qs u u') (hA : IQ b u n Q B) : IQ b u' n Q B := by
  have h1 := h.2.1
  unfold IQ mA jn at *; simp only [h1]; exact hA
theorem qs.xBR {b u u' : gMem} {n a r p t B : Nat} {Q : List Nat} (h : qs u u') (e : BR b u n a r p t Q B) : BR b u' n a r p t Q B := by
  obtain ⟨e, h1, h2, h3, h4, h5, h6, h7, h8, h9, h10, h11⟩ := e
  exact ⟨e.q h, h1, h2, h3, h4, h5, h6, h7, h8, h9, h.xIQ h10, h11⟩
theorem bs.xld {b b' : gMem} (h : bs b b') (n c : Nat) : ld b' n c = ld b n c := by
  show cB _ n = cB _ n
  exact cB_congr (fun j _ => by rw [h.c 9 j rfl, h.xbl])
section SPOT
variable {b u : gMem} {n a r p t w m : Nat}
theorem ld_8 (hA : IA b n a r p) (hP : IP b n r p) (hS : IS b n r) (c : Nat) : ld b n c ≤ 8 := by
  rw [← ld_eq hA hP hS]
  exact Nat.le_trans (cB_le _ r) hA.2.2.2.2.1
def f1K (b : gMem) (n p w : Nat) (X : Int32) (c : Nat) : Nat := if jn b 1 2 = 1 then rmF p w X c 6 else if jn b 1 2 = 2 then mxF (ld b n) c w else 0
def f2K (b : gMem) (n w : Nat) (c : Nat) : Nat := if jn b 1 2 = 2 then sF (fun d => ld b n (c + d)) w else 0
def KR (b : gMem) (n p w : Nat) (X : Int32) (c : Nat) : Nat := (if jn b 1 2 = 2 then 1000 else 1) * f1K b n p w X c + f2K b n w c
theorem f1K_le (hA : IA b n a r p) (hW : isW p w m) (X : Int32) (c : Nat) : f1K b n p w X c ≤ 60 := by
  have := hA.p32
  unfold f1K
  split
  · exact Nat.le_trans (rmF_le hW.le.2 (by omega) 6) (by omega)
  · split
    · exact mxF_le (fun d _ => ld_60 hA.n60 _)
    · omega
theorem f2K_le (hA : IA b n a r p) (hP : IP b n r p) (hS : IS b n r) (hW : isW p w m) (c : Nat) : f2K b n w c ≤ 256 := by
  unfold f2K
  split
  · have h1 := sF_le (f := fun d => ld b n (c + d)) (B := 8) (k := w) (fun d _ => ld_8 hA hP hS _)
    have := hW.le.2
    omega
  · omega
theorem KR_le (hA : IA b n a r p) (hP : IP b n r p) (hS : IS b n r) (hW : isW p w m) (X : Int32) (c : Nat) : KR b n p w X c ≤ 61000 := by
  have h1 := f1K_le hA hW X c
  have h2 := f2K_le hA hP hS hW c
  unfold KR
  split <;> omega
theorem KR_lt (hA : IA b n a r p) (hP : IP b n r p) (hS : IS b n r) (hW : isW p w m) (X Y : Int32) (c d : Nat) : KR b n p w X c < KR b n p w Y d ↔ f1K b n p w X c < f1K b n p w Y d ∨ (f1K b n p w X c = f1K b n p w Y d ∧ f2K b n w c < f2K b n w d) := by
  have h2 := f2K_le hA hP hS hW c
  have h3 := f2K_le hA hP hS hW d
  unfold KR
  split
  · omega
  · have e1 : f2K b n w c = 0 := by unfold f2K; rw [if_neg (by assumption)]
    have e2 : f2K b n w d = 0 := by unfold f2K; rw [if_neg (by assumption)]
    omega
def eR (K : Nat → Nat) : Option Nat → Int32
  | none => -1
  | some c => nI (K c * 32 + c)
theorem c_ranked (hA : IA b n a r p) (hT : IT b) (hP : IP b n r p) (hS : IS b n r) (hW : isW p w m) (hl : jn b 1 2 = 2 → ∀ d, d < 32 → b.1 58 d = nI (ld b n d)) (Y : Int32) : ∃ o, bU (GC p w (Y ||| b.1 0 13)) (KR b n p w (Y ||| b.1 0 13)) 32 o ∧ mX2_rankedStart [.ref 0, .int (ups b p &&& (Y ^^^ (-1))), .int (nI w)] b = some (some (.int (eR (KR b n p w (Y ||| b.1 0 13)) o)), b) := by
  have hp := hA.2.2.2.2.2.2
  have hle := hW.le
  have hst := fun (c : Nat) (hc : c < 32) => stG (b := b) hp hW Y hc
  have hf := hT.2.1
  rw [eX2_rankedStart, hW.1, starts_e hW.2.1, g_ci_some, ← hW.1]
  by_cases h0 : stp (ups b p &&& (Y ^^^ (-1))) m = 0
  · refine ⟨none, fun i hi => ?_, ?_⟩
    · rw [← hst i hi, h0, b_0]
    · rw [if_pos h0, h0, lowest_0, g_ci_some]; rfl
  rw [if_neg h0, hf.1]
  by_cases hf0 : jn b 1 2 = 0
  · obtain ⟨i, hi, hb, hlow⟩ := low_ex h0
    have hK : ∀ c, KR b n p w (Y ||| b.1 0 13) c = 0 := by
      intro c; unfold KR f1K f2K; rw [hf0]; rfl
    refine ⟨some i, ⟨hi, by rw [← hst i hi, hb], fun j hj hg => Or.inr ⟨by rw [hK, hK], ?_⟩⟩, ?_⟩
    · refine Classical.byContradiction (fun q => ?_)
      have := hlow j (by omega)
      rw [hst j hj, hg] at this
      cases this
    · rw [if_pos (by rw [hf0]; rfl), lowest_e hi hb hlow, g_ci_some]
      show _ = some (some (Value.int (nI (KR b n p w (Y ||| b.1 0 13) i * 32 + i))), b)
      rw [hK, Nat.zero_mul, Nat.zero_add]
  rw [if_neg (nI_ne0 (by omega) (by omega))]
  have hcall : ∀ (f : Int32 → gMem → Option (Option Value × gMem)) c, c < p → c % w = 0 → (if b.1 1 2 = 1 then g_ci (mX2_roomOf [.ref 0, .int (ups b p &&& (Y ^^^ (-1))), .int (nI c), .int (nI w)] b) f else g_ci (mX2_loadRank [.ref 0, .int (nI c), .int (nI w)] b) f) = f (nI (KR b n p w (Y ||| b.1 0 13) c)) b := by
    intro f c hc hcw
    have hf3 : jn b 1 2 = 1 ∨ jn b 1 2 = 2 := by omega
    rcases hf3 with q | q
    · rw [if_pos (by rw [hf.1, q]; rfl), c_roomOf hp hW hc, g_ci_some]
      unfold KR f1K f2K
      rw [q]
      simp
    · have hfit := mul_fit hle.1 (hW.dvd hp) hcw hc
      rw [if_neg (by rw [hf.1, q]; decide), c_loadRank (b := b) hA.n60 (hl q) (by omega), g_ci_some]
      unfold KR f1K f2K
      rw [q]
      simp [Nat.mul_comm]
  have key : ∀ k c, c + k = p → ∀ o, bU (GC p w (Y ||| b.1 0 13)) (KR b n p w (Y ||| b.1 0 13)) c o → ∃ o', bU (GC p w (Y ||| b.1 0 13)) (KR b n p w (Y ||| b.1 0 13)) p o' ∧ rX2_rankedStart_30 (ups b p &&& (Y ^^^ (-1))) (nI w) (stp (ups b p &&& (Y ^^^ (-1))) m) (eR (KR b n p w (Y ||| b.1 0 13)) o) (nI c) b = some (some (.int (eR (KR b n p w (Y ||| b.1 0 13)) o')), b) := by
    intro k
    induction k with
    | zero =>
      intro c hc o ho
      rw [show c = p by omega] at *
      exact ⟨o, ho, by rw [eX2_rankedStart_30, hA.2.2.2.2.2.1, if_pos (nI_le (Nat.le_refl _) (by omega))]⟩
    | succ k ih =>
      intro c hc o ho
      rw [eX2_rankedStart_30, hA.2.2.2.2.2.1, if_neg (nI_ge (by omega) (by omega)), u_bit (by omega), hst c (by omega)]
      by_cases hg : GC p w (Y ||| b.1 0 13) c = true
      · rw [hg, if_pos rfl, if_pos rfl, hcall _ c (by omega) (GC_iff.mp hg).1]
        have hk1 := KR_le hA hP hS hW (Y ||| b.1 0 13) c
        rw [show (32 : Int32) = nI 32 from rfl, nml, nad, nI_1]
        cases o with
        | none =>
          obtain ⟨o', h1, h2⟩ := ih (c + 1) (by omega) (some c) (ho.take hg (fun x hx => by cases hx))
          exact ⟨o', h1, by rw [← h2]; exact if_pos rfl⟩
        | some x =>
          have hk2 := KR_le hA hP hS hW (Y ||| b.1 0 13) x
          have hx := ho.1
          rw [show eR (KR b n p w (Y ||| b.1 0 13)) (some x) = nI (KR b n p w (Y ||| b.1 0 13) x * 32 + x) from rfl, if_neg (nm1 (by omega)), eJ9_min_7cf53]
          by_cases hlt : KR b n p w (Y ||| b.1 0 13) c < KR b n p w (Y ||| b.1 0 13) x
          · obtain ⟨o', h1, h2⟩ := ih (c + 1) (by omega) (some c) (ho.take hg (fun y hy => by cases hy; exact hlt))
            exact ⟨o', h1, by rw [if_pos (nI_lt (by omega) (by omega)), g_ci_some, ← h2]; rfl⟩
          · obtain ⟨o', h1, h2⟩ := ih (c + 1) (by omega) (some x) (ho.keep (by omega))
            exact ⟨o', h1, by rw [if_neg (nI_nlt (by omega) (by omega)), g_ci_some, ← h2]; rfl⟩
      · have hg := Bool.eq_false_iff.mpr hg
        rw [hg, if_neg (by decide), nI_1]
        exact ih (c + 1) (by omega) o (ho.skip (by omega) (fun i h1 h2 => by rw [show i = c by omega]; exact hg))
  obtain ⟨o, h1, h2⟩ := key p 0 (by omega) none (fun i hi => by omega)
  refine ⟨o, h1.skip (by omega) (fun i h3 _ => ?_), h2⟩
  refine Bool.eq_false_iff.mpr (fun q => ?_)
  have := (GC_iff.mp q).2.1
  omega
end SPOT
