/-! free blocks on both sides -/
/-- what of the reference's memory counts -/
def qs (u u' : gMem) : Prop := u'.2 = u.2 ∧ (∀ i, u'.1 1 i = u.1 1 i) ∧ (∀ i, u'.1 15 i = u.1 15 i) ∧ (∀ i, u'.1 2 i = u.1 2 i) ∧ u'.1 0 27 = u.1 0 27
/-- what of a board's memory counts: all but the cells that are used anew -/
def bs (b b' : gMem) : Prop := b'.2 = b.2 ∧ ∀ c i, (c < 53 ∧ c ≠ 28) → b'.1 c i = b.1 c i
theorem qs.rf {u : gMem} : qs u u := ⟨rfl, fun _ => rfl, fun _ => rfl, fun _ => rfl, rfl⟩
theorem qs.tr {u v w : gMem} (h : qs u v) (h2 : qs v w) : qs u w := ⟨h2.1.trans h.1, fun i => (h2.2.1 i).trans (h.2.1 i), fun i => (h2.2.2.1 i).trans (h.2.2.1 i), fun i => (h2.2.2.2.1 i).trans (h.2.2.2.1 i), h2.2.2.2.2.trans h.2.2.2.2⟩
theorem bs.rf {b : gMem} : bs b b := ⟨rfl, fun _ _ _ => rfl⟩
theorem bs.tr {b c d : gMem} (h : bs b c) (h2 : bs c d) : bs b d := ⟨h2.1.trans h.1, fun x i hx => (h2.2 x i hx).trans (h.2 x i hx)⟩
theorem qs.w {u : gMem} {c i : Nat} {x : Int32} (h : (c = 0 ∧ i ≠ 27) ∨ (c ≠ 0 ∧ c ≠ 1 ∧ c ≠ 2 ∧ c ≠ 15)) : qs u (gwI u c i x) := by
  refine ⟨rfl, fun k => ?_, fun k => ?_, fun k => ?_, ?_⟩ <;> (rw [gI_r, if_neg]; omega)
theorem bs.w {b : gMem} {c i : Nat} {x : Int32} (h : c = 28 ∨ 53 ≤ c) : bs b (gwI b c i x) := ⟨rfl, fun c' k hc => by rw [gI_r, if_neg]; omega⟩
theorem EE.q {b u u' : gMem} {n a r : Nat} (e : EE b u n a r) (h : qs u u') : EE b u' n a r := by
  obtain ⟨h2, h1, -⟩ := h
  obtain ⟨⟨e1, e2, e3, e4, e5⟩, ej, er, et, el, ev⟩ := e
  refine ⟨⟨by simp only [h1]; exact e1, by simp only [h1]; exact e2, fun k hk => by rw [h1]; exact e3 k hk, fun k hk => by rw [h1]; exact e4 k hk, fun k hk => by rw [h1]; exact e5 k hk⟩, fun j hj => ?_, fun i hi => ?_, fun s hs => ?_, fun k hk => ?_, fun k hk => ?_⟩
  · have := ej j hj; unfold EJ1 mA at *; simp only [h1]; exact this
  · have := er i hi; unfold mR at *; simp only [h1]; exact this
  · have := et s hs; unfold mT at *; rw [h1, h2]; exact this
  · have := el k hk; unfold mL at *; simp only [h1]; exact this
  · have := ev k hk; unfold mV at *; simp only [h1]; exact this
/-- a width -/
def isW (p w m : Nat) : Prop := w = 2 ^ m ∧ m ≤ 5 ∧ w ≤ p
theorem isW.le {p w m : Nat} (h : isW p w m) : 1 ≤ w ∧ w ≤ 32 := by
  obtain ⟨rfl, h, -⟩ := h
  rcases pw5 h with h | h | h | h | h | h <;> subst h <;> omega
theorem isW.dvd {p w m : Nat} (hp : p = 4 ∨ p = 8 ∨ p = 16 ∨ p = 32) (h : isW p w m) : p % w = 0 := by
  obtain ⟨rfl, h1, h2⟩ := h
  rcases pw5 h1 with h | h | h | h | h | h <;> subst h <;> rcases hp with rfl | rfl | rfl | rfl <;> omega
theorem wd_isW {p s : Nat} (hp : p = 4 ∨ p = 8 ∨ p = 16 ∨ p = 32) (h : s ≤ p) : ∃ m, isW p (wd s) m := by
  have h2 : wd s ≤ p := by unfold wd; grind
  rcases wd_vals s with q | q | q | q | q | q
  · exact ⟨0, by omega, by omega, h2⟩
  · exact ⟨1, by omega, by omega, h2⟩
  · exact ⟨2, by omega, by omega, h2⟩
  · exact ⟨3, by omega, by omega, h2⟩
  · exact ⟨4, by omega, by omega, h2⟩
  · exact ⟨5, by omega, by omega, h2⟩
theorem mul_fit {p w c : Nat} (hw : 1 ≤ w) (hp : p % w = 0) (hc : c % w = 0) (h : c < p) : c + w ≤ p := by
  obtain ⟨x, rfl⟩ := Nat.dvd_of_mod_eq_zero hp
  obtain ⟨y, rfl⟩ := Nat.dvd_of_mod_eq_zero hc
  have : y < x := Nat.lt_of_mul_lt_mul_left h
  have : w * (y + 1) ≤ w * x := Nat.mul_le_mul_left w this
  rw [Nat.mul_add] at this
  omega
/-- a column is the first of a block whose columns are none of X -/
def GC (p w : Nat) (X : Int32) (c : Nat) : Bool := (decide (c % w = 0) && decide (c < p)) && decide (X &&& BK c w = 0)
theorem GC_iff {p w c : Nat} {X : Int32} : GC p w X c = true ↔ c % w = 0 ∧ c < p ∧ X &&& BK c w = 0 := by
  unfold GC; simp only [Bool.and_eq_true, decide_eq_true_eq, and_assoc]
theorem and_BK {X : Int32} {c w : Nat} (hc : c < 32) (hw : w ≤ 32) : X &&& BK c w = 0 ↔ ∀ d, c ≤ d → d < c + w → d < 32 → bt X d = false := by
  rw [b_z]
  constructor
  · intro h d h1 h2 h3
    have := h d h3
    rw [b_and, b_BK hc hw h3, decide_eq_true ⟨h1, h2⟩, Bool.and_true] at this
    exact this
  · intro h d hd
    rw [b_and, b_BK hc hw hd]
    by_cases q : c ≤ d ∧ d < c + w
    · rw [h d q.1 q.2 hd]; rfl
    · rw [decide_eq_false q, Bool.and_false]
section FREE
variable {b u : gMem} {n a r p t w m : Nat}
def ups (b : gMem) (p : Nat) : Int32 := BK 0 p &&& (b.1 0 13 ^^^ (-1))
theorem c_ups (hA : IA b n a r p) : mX2_ups [.ref 0] b = some (some (.int (ups b p)), b) := by
  have := hA.p32
  rw [eX2_ups, hA.2.2.2.2.2.1, show (0 : Int32) = nI 0 from rfl, cbits (by omega) (by omega), g_ci_some]
  rfl
theorem c_freeIn (hA : IA b n a r p) {s : Nat} (hs : s < r) : mX2_freeIn [.ref 0, .int (nI s)] b = some (some (.int (ups b p &&& (b.1 32 s ^^^ (-1)))), b) := by
  have := hA.2.2.2.2.1
  rw [eX2_freeIn, c_ups hA, g_ci_some, gin (by omega) (by omega), if_pos rfl, tn (by omega)]
theorem ups_bt (hp : p ≤ 32) {d : Nat} (hd : d < 32) : bt (ups b p) d = (decide (d < p) && !bt (b.1 0 13) d) := by
  unfold ups
  rw [b_and, b_BK (by omega) hp hd, b_not _ hd]
  simp
theorem stG (hp : p = 4 ∨ p = 8 ∨ p = 16 ∨ p = 32) (hW : isW p w m) (Y : Int32) {c : Nat} (hc : c < 32) : bt (stp (ups b p &&& (Y ^^^ (-1))) m) c = GC p w (Y ||| b.1 0 13) c := by
  have hle := hW.le
  have hdv := hW.dvd hp
  have hp32 : p ≤ 32 := by omega
  apply Bool.eq_iff_iff.mpr
  rw [stp_bt _ m hW.2.1 c hc, GC_iff, ← hW.1, and_BK hc hle.2]
  have hb : ∀ d, d < 32 → (bt (ups b p &&& (Y ^^^ (-1))) d = true ↔ d < p ∧ bt (Y ||| b.1 0 13) d = false) := by
    intro d hd
    rw [b_and, ups_bt hp32 hd, b_not _ hd, b_or]
    cases bt Y d <;> cases bt (b.1 0 13) d <;> simp
  constructor
  · rintro ⟨h1, h2, h3⟩
    refine ⟨h1, ?_, fun d d1 d2 d3 => ((hb d d3).mp (h3 d d1 d2)).2⟩
    exact ((hb c hc).mp (h3 c (Nat.le_refl _) (by omega))).1
  · rintro ⟨h1, h2, h3⟩
    have := mul_fit hle.1 hdv h1 h2
    exact ⟨h1, by omega, fun d d1 d2 => (hb d (by omega)).mpr ⟨by omega, h3 d d1 d2 (by omega)⟩⟩
theorem stG0 (hp : p = 4 ∨ p = 8 ∨ p = 16 ∨ p = 32) (hW : isW p w m) {c : Nat} (hc : c < 32) : bt (stp (ups b p) m) c = GC p w (b.1 0 13) c := by
  have h := stG (b := b) hp hW 0 hc
  have e1 : ups b p &&& ((0 : Int32) ^^^ (-1)) = ups b p := b_ext (fun i hi => by rw [b_and, b_not _ hi, b_0]; simp)
  have e2 : (0 : Int32) ||| b.1 0 13 = b.1 0 13 := b_ext (fun i _ => by rw [b_or, b_0]; simp)
  rw [e1, e2] at h
  exact h
/-- busy columns of a slot; none in a new one -/
def bz (b : gMem) (r s : Nat) : Int32 := if s < r then b.1 32 s else 0
theorem m_isFree (e : EE b u n a r) (hA : IA b n a r p) (hJ : IJ b n p t) (hP : IP b n r p) (hS : IS b n r) {s c : Nat} (hs : s ≤ 8) (hw : w ≤ 32) : mX10_isFree [.ref 0, .int (nI s), .int (nI c), .int (nI w)] u = some (some (.int (if (bz b r s ||| b.1 0 13) &&& BK c w = 0 then 1 else 0)), u) := by
  rw [eX10_isFree, m_blocksIn0 e hA hJ hP (by omega), g_ci_some, mbits hw, g_ci_some, e.h.d]
  have : orF (sb b s) n = bz b r s := by
    unfold bz
    by_cases h : s < r
    · rw [if_pos h, hS s h]
    · rw [if_neg h, sb_none hP (by omega) (by omega) hA.2.2.2.2.1]
  rw [this]
  split <;> rfl
theorem m_cols (e : EE b u n a r) (hA : IA b n a r p) : mX10_columns [.ref 0] u = some (some (.int (nI p)), u) := by
  rw [cols, e.h.p, hA.2.2.2.2.2.1]
end FREE
/-- the first of the least, below a bound -/
def bU (G : Nat → Bool) (K : Nat → Nat) (k : Nat) : Option Nat → Prop
  | none => ∀ i, i < k → G i = false
  | some x => x < k ∧ G x = true ∧ ∀ i, i < k → G i = true → K x < K i ∨ (K x = K i ∧ x ≤ i)
theorem bU.skip {G : Nat → Bool} {K : Nat → Nat} {k k' : Nat} {o : Option Nat} (h : bU G K k o) (hk : k ≤ k') (hs : ∀ i, k ≤ i → i < k' → G i = false) : bU G K k' o := by
  cases o with
  | none => exact fun i hi => if h2 : i < k then h i h2 else hs i (by omega) hi
  | some x => exact ⟨by have := h.1; omega, h.2.1, fun i hi hg => if h2 : i < k then h.2.2 i h2 hg else by rw [hs i (by omega) hi] at hg; cases hg⟩
theorem bU.keep {G : Nat → Bool} {K : Nat → Nat} {k x : Nat} (h : bU G K k (some x)) (hk : K x ≤ K k) : bU G K (k + 1) (some x) := by
  refine ⟨by have := h.1; omega, h.2.1, fun i hi hg => ?_⟩
  by_cases h2 : i < k
  · exact h.2.2 i h2 hg
  · have := h.1
    rw [show i = k by omega]
    omega
theorem bU.take {G : Nat → Bool} {K : Nat → Nat} {k : Nat} {o : Option Nat} (h : bU G K k o) (hg : G k = true) (hk : ∀ x, o = some x → K k < K x) : bU G K (k + 1) (some k) := by
  refine ⟨by omega, hg, fun i hi hgi => ?_⟩
  by_cases h2 : i < k
  · cases o with
    | none => rw [h i h2] at hgi; cases hgi
    | some x =>
      have h3 := hk x rfl
      have h4 := h.2.2 i h2 hgi
      omega
  · rw [show i = k by omega]; omega
theorem bU.uniq {G : Nat → Bool} {K : Nat → Nat} {k : Nat} {o o' : Option Nat} (h : bU G K k o) (h' : bU G K k o') : o = o' := by
  cases o with
  | none =>
    cases o' with
    | none => rfl
    | some y => have := h y h'.1; rw [h'.2.1] at this; cases this
  | some x =>
    cases o' with
    | none => have := h' x h.1; rw [h.2.1] at this; cases this
    | some y =>
      have h1 := h.2.2 y h'.1 h'.2.1
      have h2 := h'.2.2 x h.1 h.2.1
      rw [show x = y by omega]
