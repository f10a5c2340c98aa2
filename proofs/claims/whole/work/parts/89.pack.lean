/-! laying anew: the slots -/
section PACK
variable {b u b' u' : gMem} {n a r p t B : Nat} {Q : List Nat}
theorem cB_flt (f : Nat → Bool) : ∀ k, cB f k = ((List.range k).filter f).length
  | 0 => rfl
  | k + 1 => by
    have h : cB f (k + 1) = cB f k + (if f k then 1 else 0) := rfl
    rw [h, cB_flt f k, fr_s, List.length_append]
    split <;> rfl
theorem cB_ge {f : Nat → Bool} {k : Nat} {Y : List Nat} (hnd : Y.Nodup) (h : ∀ y ∈ Y, y < k ∧ f y = true) : Y.length ≤ cB f k := by
  rw [cB_flt]
  exact nodup_le hnd (fun y hy => List.mem_filter.mpr ⟨List.mem_range.mpr (h y hy).1, (h y hy).2⟩)
theorem dy_cov {w v c e d : Nat} (hw : w = 1 ∨ w = 2 ∨ w = 4 ∨ w = 8 ∨ w = 16 ∨ w = 32) (hv : v = 1 ∨ v = 2 ∨ v = 4 ∨ v = 8 ∨ v = 16 ∨ v = 32) (hvw : v ≤ w) (hc : c % w = 0) (he : e % v = 0) (h1 : c ≤ d ∧ d < c + w) (h2 : e ≤ d ∧ d < e + v) : c ≤ e ∧ e < c + w := by
  rcases hw with z | z | z | z | z | z <;> subst z <;> rcases hv with y | y | y | y | y | y <;> subst y <;> omega
/-- who is in which slot, so far -/
def pI (b : gMem) (P : List Nat) (L : List Int32) (A : Nat → Nat) : Prop := (∀ y ∈ P, A y < L.length) ∧ (∀ f (h : f < L.length) d, d < 32 → (bt L[f] d = true ↔ ∃ y ∈ P, A y = f ∧ bt (bl b y) d = true)) ∧ (∀ y ∈ P, ∀ z ∈ P, y ≠ z → A y = A z → bl b y &&& bl b z = 0)
/-- the first slot in which there is room -/
def fF (L : List Int32) (X : Int32) (f : Nat) : Prop := f ≤ L.length ∧ (∀ g (h : g < L.length), g < f → ¬ L[g] &&& X = 0) ∧ (∀ h : f < L.length, L[f] &&& X = 0)
def pkL (L : List Int32) (X : Int32) (f : Nat) : List Int32 := if h : f < L.length then L.set f (L[f] ||| X) else L ++ [X]
def pkA (A : Nat → Nat) (x f : Nat) : Nat → Nat := fun y => if y = x then f else A y
theorem pkL_len {L : List Int32} {X : Int32} {f : Nat} : (pkL L X f).length = if f < L.length then L.length else L.length + 1 := by
  unfold pkL
  by_cases q : f < L.length
  · rw [dif_pos q, if_pos q]; simp
  · rw [dif_neg q, if_neg q]; simp
theorem pkL_get {L : List Int32} {X : Int32} {f g : Nat} (hf : f ≤ L.length) (hg : g < (pkL L X f).length) : (pkL L X f)[g] = if g = f then (if h : f < L.length then L[f] ||| X else X) else (if h : g < L.length then L[g] else 0) := by
  unfold pkL at *
  by_cases q : f < L.length
  · simp only [dif_pos q] at hg ⊢
    have hgl : g < L.length := by simpa using hg
    rw [List.getElem_set]
    by_cases z : g = f
    · subst z; rw [if_pos rfl, if_pos rfl]
    · rw [if_neg (fun y => z y.symm), if_neg z, dif_pos hgl]
  · simp only [dif_neg q] at hg ⊢
    have hfl : f = L.length := by omega
    by_cases z : g = f
    · rw [if_pos z]
      have : g = L.length := by omega
      subst this
      simp
    · have hgl : g < L.length := by simp at hg; omega
      rw [if_neg z, dif_pos hgl, List.getElem_append_left hgl]
theorem pI_step {P : List Nat} {L : List Int32} {A : Nat → Nat} {x f : Nat} (h : pI b P L A) (hx : x ∉ P) (hf : fF L (bl b x) f) : pI b (P ++ [x]) (pkL L (bl b x) f) (pkA A x f) := by
  obtain ⟨i1, i2, i3⟩ := h
  obtain ⟨f1, f2, f3⟩ := hf
  have hA : ∀ y ∈ P, pkA A x f y = A y := fun y hy => by unfold pkA; rw [if_neg (fun (z : y = x) => hx (z ▸ hy))]
  have hAx : pkA A x f x = f := by unfold pkA; rw [if_pos rfl]
  refine ⟨fun y hy => ?_, fun g hg d hd => ?_, fun y hy z hz hyz he => ?_⟩
  · rw [pkL_len]
    rw [List.mem_append, List.mem_singleton] at hy
    rcases hy with hy | hy
    · rw [hA y hy]; have := i1 y hy; split <;> omega
    · rw [hy, hAx]; split <;> omega
  · rw [pkL_get f1 hg]
    have hgl : g < (if f < L.length then L.length else L.length + 1) := by rw [← pkL_len (L := L) (X := bl b x) (f := f)]; exact hg
    by_cases z : g = f
    · rw [if_pos z]
      by_cases q : f < L.length
      · rw [dif_pos q, b_or, Bool.or_eq_true, i2 f q d hd]
        constructor
        · rintro (⟨y, y1, y2, y3⟩ | hb)
          · exact ⟨y, List.mem_append.mpr (Or.inl y1), by rw [hA y y1, y2, z], y3⟩
          · exact ⟨x, by simp, by rw [hAx, z], hb⟩
        · rintro ⟨y, y1, y2, y3⟩
          rw [List.mem_append, List.mem_singleton] at y1
          rcases y1 with y1 | y1
          · exact Or.inl ⟨y, y1, by rw [← hA y y1, y2, z], y3⟩
          · subst y1; exact Or.inr y3
      · rw [dif_neg q]
        constructor
        · intro hb; exact ⟨x, by simp, by rw [hAx, z], hb⟩
        · rintro ⟨y, y1, y2, y3⟩
          rw [List.mem_append, List.mem_singleton] at y1
          rcases y1 with y1 | y1
          · have := i1 y y1; rw [hA y y1] at y2; omega
          · subst y1; exact y3
    · have hgL : g < L.length := by split at hgl <;> omega
      rw [if_neg z, dif_pos hgL, i2 g hgL d hd]
      constructor
      · rintro ⟨y, y1, y2, y3⟩; exact ⟨y, List.mem_append.mpr (Or.inl y1), by rw [hA y y1]; exact y2, y3⟩
      · rintro ⟨y, y1, y2, y3⟩
        rw [List.mem_append, List.mem_singleton] at y1
        rcases y1 with y1 | y1
        · exact ⟨y, y1, by rw [← hA y y1]; exact y2, y3⟩
        · rw [y1, hAx] at y2; exact absurd y2.symm z
  · have hdis : ∀ y ∈ P, A y = f → bl b y &&& bl b x = 0 := fun y hy hyf => by
      have hlt : f < L.length := by rw [← hyf]; exact i1 y hy
      rw [b_z]
      intro d hd
      rw [b_and]
      cases q1 : bt (bl b y) d with
      | false => rfl
      | true =>
        cases q2 : bt (bl b x) d with
        | false => rfl
        | true =>
          have h1 := (i2 f hlt d hd).mpr ⟨y, hy, hyf, q1⟩
          have h2 := b_z.mp (f3 hlt) d hd
          rw [b_and, h1, q2] at h2
          exact absurd h2 (by decide)
    rw [List.mem_append, List.mem_singleton] at hy hz
    rcases hy with hy | hy
    · rcases hz with hz | hz
      · rw [hA y hy, hA z hz] at he; exact i3 y hy z hz hyz he
      · subst hz; rw [hA y hy, hAx] at he; exact hdis y hy he
    · rcases hz with hz | hz
      · subst hy; rw [hA z hz, hAx] at he; rw [and_cm]; exact hdis z hz he.symm
      · exact absurd (hy.trans hz.symm) hyz
theorem pI_room {P : List Nat} {L : List Int32} {A : Nat → Nat} {x : Nat} (hV : PV b u n a r p t Q B) (h : pI b P L A) (hx : x ∉ P) (hxn : x < n) (hx2 : b.1 9 x = 2) (hP : ∀ y ∈ P, y < n ∧ b.1 9 y = 2 ∧ Kz b n y < Kz b n x) (hld : ∀ c, c < 32 → ld b n c ≤ 8) (hf : ∀ g (h : g < L.length), ¬ L[g] &&& bl b x = 0) : L.length < 8 := by
  obtain ⟨i1, i2, i3⟩ := h
  have hn := hV.A.n60
  obtain ⟨⟨-, y2⟩, ⟨-, y4⟩, -, y6, y7⟩ := pv_yes hV hxn hx2
  have hal : ∀ j, j < n → b.1 9 j = 2 → jn b 13 j % jn b 14 j = 0 ∧ (jn b 14 j = 1 ∨ jn b 14 j = 2 ∨ jn b 14 j = 4 ∨ jn b 14 j = 8 ∨ jn b 14 j = 16 ∨ jn b 14 j = 32) := fun j hj h2 => by
    obtain ⟨-, z3, z4, z5, z6⟩ := ip_yes (hV.P j hj) h2
    refine ⟨z4, ?_⟩
    rw [jw (hV.J j hj)]; exact wd_vals _
  have hcov : ∀ y, y < n → b.1 9 y = 2 → Kz b n y < Kz b n x → (∃ d, d < 32 ∧ bt (bl b y) d = true ∧ bt (bl b x) d = true) → bt (bl b y) (jn b 13 x) = true := fun y hy hy2 hk ⟨d, hd, d1, d2⟩ => by
    obtain ⟨⟨-, v2⟩, ⟨-, v4⟩, -, v6, v7⟩ := pv_yes hV hy hy2
    rw [Kz_y hy hy2, Kz_y hxn hx2] at hk
    have hw : jn b 14 x ≤ jn b 14 y := by unfold Ky at hk; omega
    unfold bl at *
    rw [b_BK v4 v7 hd] at d1
    rw [b_BK y4 y7 hd] at d2
    rw [b_BK v4 v7 (by omega)]
    exact decide_eq_true (dy_cov (hal y hy hy2).2 (hal x hxn hx2).2 hw (hal y hy hy2).1 (hal x hxn hx2).1 (of_decide_eq_true d1) (of_decide_eq_true d2))
  have build : ∀ k, k ≤ L.length → ∃ Y : List Nat, Y.length = k ∧ Y.Nodup ∧ ∀ y ∈ Y, y ∈ P ∧ A y < k ∧ bt (bl b y) (jn b 13 x) = true := by
    intro k
    induction k with
    | zero => intro _; exact ⟨[], rfl, List.nodup_nil, fun y hy => absurd hy (by simp)⟩
    | succ k ih =>
      intro hk
      obtain ⟨Y, y1, y2, y3⟩ := ih (by omega)
      have hne := hf k (by omega)
      have : ∃ d, d < 32 ∧ bt (L[k] &&& bl b x) d = true := by
        refine Classical.byContradiction (fun q => hne (b_z.mpr (fun d hd => ?_)))
        cases z : bt (L[k] &&& bl b x) d with
        | false => rfl
        | true => exact absurd ⟨d, hd, z⟩ q
      obtain ⟨d, hd, hb⟩ := this
      rw [b_and, Bool.and_eq_true] at hb
      obtain ⟨y, w1, w2, w3⟩ := (i2 k (by omega) d hd).mp hb.1
      obtain ⟨v1, v2, v3⟩ := hP y w1
      refine ⟨y :: Y, by simp [y1], List.nodup_cons.mpr ⟨fun z => by have := (y3 y z).2.1; omega, y2⟩, fun z hz => ?_⟩
      rw [List.mem_cons] at hz
      rcases hz with hz | hz
      · rw [hz]; exact ⟨w1, by omega, hcov y v1 v2 v3 ⟨d, hd, w3, hb.2⟩⟩
      · obtain ⟨z1, z2, z3⟩ := y3 z hz; exact ⟨z1, by omega, z3⟩
  obtain ⟨Y, y1, y2, y3⟩ := build L.length (Nat.le_refl _)
  have hxx : bt (bl b x) (jn b 13 x) = true := by
    unfold bl
    rw [b_BK y4 y7 (by omega)]
    exact decide_eq_true (by omega)
  have hge := cB_ge (f := fun j => decide (b.1 9 j = 2) && bt (bl b j) (jn b 13 x)) (k := n) (Y := x :: Y) (List.nodup_cons.mpr ⟨fun z => hx (y3 x z).1, y2⟩) (fun y hy => by
    rw [List.mem_cons] at hy
    rcases hy with hy | hy
    · rw [hy]; exact ⟨hxn, by simp [hx2, hxx]⟩
    · obtain ⟨z1, z2, z3⟩ := y3 y hy
      obtain ⟨v1, v2, -⟩ := hP y z1
      exact ⟨v1, by simp [v2, z3]⟩)
  have := hld (jn b 13 x) (by omega)
  have e : ld b n (jn b 13 x) = cB (fun j => decide (b.1 9 j = 2) && bt (bl b j) (jn b 13 x)) n := rfl
  rw [← e] at hge
  simp at hge
  omega
theorem c_leastP (hA : b.1 29 3 = nI r) (hr : r ≤ 8) : ∃ v, mX7_leastPass [.ref 29] b = some (some (.long v), b) := by
  obtain ⟨v, v1, -⟩ := leastPass_both (b := b) (u := (fun c i => if i = 13 then nI r else b.1 31 (i - 1482), fun _ i => b.2 30 i)) (r := r) (fun s hs => ⟨by
    show (if 1482 + s = 13 then _ else _) = _
    rw [if_neg (by omega), show 1482 + s - 1482 = s by omega], rfl⟩) hA rfl hr
  exact ⟨v, v1⟩
/-- the class's slots as they are laid -/
def cS (b1 μ : gMem) (L : List Int32) (A : Nat → Nat) (P : List Nat) : Prop := μ.1 29 3 = nI L.length ∧ (∀ f (h : f < L.length), μ.1 32 f = L[f] ∧ μ.1 31 f = 0) ∧ (∀ j, μ.1 12 j = if j ∈ P then nI (A j) else b1.1 12 j) ∧ (∀ c i, c ∉ [12, 29, 31, 32] → μ.1 c i = b1.1 c i)
theorem c_ff {L : List Int32} {X : Int32} {μ : gMem} (h29 : μ.1 29 3 = nI L.length) (h32 : ∀ f (h : f < L.length), μ.1 32 f = L[f]) (hL : L.length ≤ 8) : ∃ f, fF L X f ∧ mX7_firstClear [.ref 29, .int X] μ = some (some (.int (nI f)), μ) := by
  have key : ∀ k g, g + k = L.length → (∀ e (h : e < L.length), e < g → ¬ L[e] &&& X = 0) → ∃ f, fF L X f ∧ rX7_firstClear_2 X (nI g) μ = some (some (.int (nI f)), μ) := by
    intro k
    induction k with
    | zero =>
      intro g hg hno
      exact ⟨g, ⟨by omega, hno, fun h => by omega⟩, by rw [eX7_firstClear_2, h29, if_pos (nI_le (by omega) (by omega))]⟩
    | succ k ih =>
      intro g hg hno
      rw [eX7_firstClear_2, h29, if_neg (nI_ge (by omega) (by omega)), gin (show g < 8 by omega) (by omega), if_pos rfl, tn (show g < 2147483648 by omega), h32 g (by omega), nI_1]
      by_cases q : L[g] &&& X = 0
      · rw [if_pos q]; exact ⟨g, ⟨by omega, hno, fun _ => q⟩, rfl⟩
      · rw [if_neg q]
        exact ih (g + 1) (by omega) (fun e he heg => by
          by_cases z : e = g
          · subst z; exact q
          · exact hno e he (by omega))
  rw [eX7_firstClear]
  exact key L.length 0 (by omega) (fun e _ he => by omega)
theorem c_pack1 {b1 μ : gMem} {L : List Int32} {A : Nat → Nat} {P M : List Nat} {i : Nat} {v1 : Int64} (hV : PV b1 u n a r p t Q B) (hc : cS b1 μ L A P) (hL : L.length ≤ 8) (hi : i < M.length) (hM60 : M.length ≤ 60) (hka : ka (Kz b n) b1 57 M) (hx : M[i] < n) (hx2 : b1.1 9 M[i] = 2) (hkm : Kz b n M[i] % 64 = M[i]) (hkl : Kz b n M[i] < 1000000) (hroom : (∀ g (h : g < L.length), ¬ L[g] &&& bl b1 M[i] = 0) → L.length < 8) : ∃ f μ', fF L (bl b1 M[i]) f ∧ rX2_repackAll_24 v1 (nI M.length) (nI i) μ = rX2_repackAll_24 v1 (nI M.length) (nI (i + 1)) μ' ∧ cS b1 μ' (pkL L (bl b1 M[i]) f) (pkA A M[i] f) (P ++ [M[i]]) := by
  have hn := hV.A.n60
  obtain ⟨h29, hs, h12, ho⟩ := hc
  obtain ⟨⟨-, y2⟩, ⟨y3, y4⟩, y5, y6, y7⟩ := pv_yes hV hx hx2
  have hbl : bl μ M[i] = bl b1 M[i] := bl_fi (fun k hk => ho k _ (by simp at hk ⊢; omega))
  have hJ : IJ1 μ p t M[i] := (hV.J _ hx).fi (fun k hk => ho k _ (by simp at hk ⊢; omega))
  have e13 : μ.1 13 M[i] = nI (jn b1 13 M[i]) := (ho 13 _ (by decide)).trans y3
  have j13 : jn μ 13 M[i] = jn b1 13 M[i] := by unfold jn; rw [ho 13 _ (by decide)]
  have e57 : μ.1 57 i = nI (Kz b n M[i]) := (ho 57 i (by decide)).trans (hka i hi)
  have e64 : nI (Kz b n M[i]) - nI (Kz b n M[i]) / 64 * 64 = nI M[i] := by
    rw [show (64 : Int32) = nI 64 from rfl, pk_rem (by omega) (by omega) (by omega), hkm]
  obtain ⟨f, hf, f2⟩ := c_ff (X := bl b1 M[i]) (μ := μ) h29 (fun g hg => (hs g hg).1) hL
  have e0 : rX2_repackAll_24 v1 (nI M.length) (nI i) μ = g_cv (mX2_settle [.ref 0, .int (nI M[i]), .int (nI f), .int (nI (jn b1 13 M[i]))] μ) (fun u4 => rX2_repackAll_24 v1 (nI M.length) (nI (i + 1)) u4) := by
    rw [eX2_repackAll_24, if_neg (nI_ge (by omega) (by omega)), gin (show i < 60 by omega) (by omega), if_pos rfl, tn (show i < 2147483648 by omega), e57, e64, c_block (by omega) hJ (by rw [j13]; exact e13) (by rw [j13]; omega), g_ci_some, hbl, f2, g_ci_some, gin (show M[i] < 60 by omega) (by omega), if_pos rfl, tn (show M[i] < 2147483648 by omega), e13, nI_1]
  have e14 : μ.1 14 M[i] = nI (jn b1 14 M[i]) := (ho 14 _ (by decide)).trans y5
  have hblB : BK (jn b1 13 M[i]) (jn b1 14 M[i]) = bl b1 M[i] := rfl
  have fin : ∀ (μ0 : gMem) (R : Nat) (X0 : Int32), μ0.1 29 3 = nI R → R = (pkL L (bl b1 M[i]) f).length → (∀ g (h : g < L.length), μ0.1 32 g = L[g] ∧ μ0.1 31 g = 0) → (L.length ≤ f → μ0.1 31 f = 0) → (∀ j, μ0.1 12 j = if j ∈ P then nI (A j) else b1.1 12 j) → (∀ c i, c ∉ [12, 29, 31, 32] → μ0.1 c i = b1.1 c i) → X0 ||| bl b1 M[i] = (if h : f < L.length then L[f] ||| bl b1 M[i] else bl b1 M[i]) → cS b1 (gwI (gwI (gwI μ0 12 M[i] (nI f)) 13 M[i] (nI (jn b1 13 M[i]))) 32 f (X0 ||| bl b1 M[i])) (pkL L (bl b1 M[i]) f) (pkA A M[i] f) (P ++ [M[i]]) := by
    intro μ0 R X0 g29 gR gs gf g12 go gX
    refine ⟨by rw [← gR]; exact g29, fun g hg => ⟨?_, ?_⟩, fun j => ?_, fun c k hc' => ?_⟩
    · rw [pkL_get hf.1 hg, gI_r]
      by_cases z : g = f
      · rw [if_pos ⟨rfl, z⟩, if_pos z]; exact gX
      · have hgL : g < L.length := by
          rw [pkL_len] at hg
          have := hf.1
          split at hg <;> omega
        rw [if_neg (fun y => z y.2), if_neg z, dif_pos hgL, gI_r, if_neg (by omega), gI_r, if_neg (by omega)]
        exact (gs g hgL).1
    · rw [gI_r, if_neg (by omega), gI_r, if_neg (by omega), gI_r, if_neg (by omega)]
      by_cases hgL : g < L.length
      · exact (gs g hgL).2
      · rw [pkL_len] at hg
        have hfl := hf.1
        have : g = f := by split at hg <;> omega
        rw [this]; exact gf (by omega)
    · rw [gI_r, if_neg (by omega), gI_r, if_neg (by omega), gI_r]
      unfold pkA
      by_cases z : j = M[i]
      · rw [if_pos ⟨rfl, z⟩, if_pos z, if_pos (by rw [z]; simp)]
      · rw [if_neg (fun y => z y.2), if_neg z, g12]
        by_cases w : j ∈ P
        · rw [if_pos w, if_pos (by simp [w])]
        · rw [if_neg w, if_neg (by simp [w, z])]
    · simp only [List.mem_cons, not_or, List.not_mem_nil] at hc'
      rw [gI_r, if_neg (by omega), gI_r]
      by_cases z : c = 13 ∧ k = M[i]
      · rw [if_pos z, z.1, z.2]; exact y3.symm
      · rw [if_neg z, gI_r, if_neg (by omega)]; exact go c k (by simp; omega)
  by_cases hfl : f < L.length
  · have hset := c_settle (μ := μ) (r := L.length) (s := f) (c := jn b1 13 M[i]) (w := jn b1 14 M[i]) h29 hL (show M[i] < 60 by omega) hfl (by omega) e14 y7
    rw [hblB] at hset
    refine ⟨f, _, hf, by rw [e0, hset, g_cv_some], fin μ L.length (μ.1 32 f) h29 (by rw [pkL_len, if_pos hfl]) hs (fun z => by omega) h12 ho (by rw [dif_pos hfl, (hs f hfl).1])⟩
  · have hfe : f = L.length := by have := hf.1; omega
    have hl8 := hroom (fun g hg => hf.2.1 g hg (by omega))
    obtain ⟨v, hv⟩ := c_leastP h29 hL
    have hset := c_settle2 (μ := μ) (r := L.length) (c := jn b1 13 M[i]) (w := jn b1 14 M[i]) h29 hl8 hv (show M[i] < 60 by omega) (by omega) e14 y7
    rw [hblB] at hset
    refine ⟨f, _, hf, by rw [e0, hfe, hset, g_cv_some], ?_⟩
    rw [← hfe]
    refine fin (opB μ f v) (f + 1) ((opB μ f v).1 32 f) rfl (by rw [pkL_len, if_neg hfl]; omega) (fun g hg => ?_) (fun _ => by rw [op31, if_pos rfl]) (fun j => by rw [op_c (by decide)]; exact h12 j) (fun c k hc' => by rw [op_c (fun z => hc' (by simp at z ⊢; omega))]; exact ho c k hc') (by rw [dif_neg hfl, op32, if_pos rfl, or0])
    rw [op32, op31, if_neg (by omega), if_neg (by omega)]; exact hs g hg
end PACK
