/-! what FIT ranks by: room, loads -/
def rmF (p w : Nat) (X : Int32) (c : Nat) : Nat → Nat
  | 0 => w
  | e + 1 => if w < 2 ^ e ∧ 2 ^ e ≤ p ∧ X &&& BK (c / 2 ^ e * 2 ^ e) (2 ^ e) = 0 then 2 ^ e else rmF p w X c e
def mxF (f : Nat → Nat) (c : Nat) : Nat → Nat
  | 0 => 0
  | k + 1 => if f (c + k) ≤ mxF f c k then mxF f c k else f (c + k)
theorem mxF_le {f : Nat → Nat} {c B : Nat} : ∀ {k : Nat}, (∀ d, d < k → f (c + d) ≤ B) → mxF f c k ≤ B
  | 0, _ => Nat.zero_le _
  | k + 1, h => by
    show (if f (c + k) ≤ mxF f c k then mxF f c k else f (c + k)) ≤ B
    split
    · exact mxF_le (fun d hd => h d (by omega))
    · exact h k (by omega)
theorem sF_le {f : Nat → Nat} {B : Nat} : ∀ {k : Nat}, (∀ d, d < k → f d ≤ B) → sF f k ≤ k * B
  | 0, _ => by simp [sF]
  | k + 1, h => by
    show sF f k + f k ≤ (k + 1) * B
    have h1 := sF_le (k := k) (fun d hd => h d (by omega))
    have h2 := h k (by omega)
    rw [Nat.add_mul]; omega
theorem pw6 {e : Nat} (h : e ≤ 6) : 1 ≤ 2 ^ e ∧ 2 ^ e ≤ 64 := by
  rcases (show e = 6 ∨ e ≤ 5 by omega) with h | h
  · subst h; omega
  · rcases pw5 h with h | h | h | h | h | h <;> subst h <;> omega
theorem rmF_hi {p w c e : Nat} {X : Int32} (he : p < 2 ^ e) : ∀ k, rmF p w X c (e + k) = rmF p w X c e
  | 0 => rfl
  | k + 1 => by
    show (if w < 2 ^ (e + k) ∧ 2 ^ (e + k) ≤ p ∧ _ then _ else rmF p w X c (e + k)) = _
    have : 2 ^ e ≤ 2 ^ (e + k) := Nat.pow_le_pow_right (by omega) (by omega)
    rw [if_neg (fun q => by have := q.2.1; omega), rmF_hi he k]
theorem rmF_lo {p w c m : Nat} {X : Int32} (hm : w = 2 ^ m) : ∀ e, e ≤ m + 1 → rmF p w X c e = w
  | 0, _ => rfl
  | e + 1, h => by
    show (if w < 2 ^ e ∧ _ then _ else rmF p w X c e) = w
    have : 2 ^ e ≤ 2 ^ m := Nat.pow_le_pow_right (by omega) (by omega)
    rw [if_neg (fun q => by have := q.1; omega), rmF_lo hm e (by omega)]
theorem rmF_le {p w c : Nat} {X : Int32} (hw : w ≤ 32) (hp : p ≤ 32) : ∀ e, rmF p w X c e ≤ 32
  | 0 => hw
  | e + 1 => by
    show (if _ then 2 ^ e else rmF p w X c e) ≤ 32
    split
    · rename_i h; exact Nat.le_trans h.2.1 hp
    · exact rmF_le hw hp e
theorem al_dv {p e c : Nat} (hp : p = 4 ∨ p = 8 ∨ p = 16 ∨ p = 32) (hc : c < p) (he : e ≤ 5) : c / 2 ^ e * 2 ^ e < 32 ∧ (2 ^ e ≤ p → c / 2 ^ e * 2 ^ e + 2 ^ e ≤ p) ∧ (p < 2 ^ e → c / 2 ^ e * 2 ^ e = 0) := by
  have h1 : c / 2 ^ e * 2 ^ e ≤ c := Nat.div_mul_le_self c (2 ^ e)
  refine ⟨by omega, fun h => ?_, fun h => ?_⟩
  · refine mul_fit (pw6 (by omega)).1 ?_ (Nat.mul_mod_left _ _) (by omega)
    exact (show isW p (2 ^ e) e from ⟨rfl, he, h⟩).dvd hp
  · rw [Nat.div_eq_of_lt (by omega)]; simp
section RANK
variable {b u : gMem} {n a r p t w m : Nat}
theorem c_roomOf {Y : Int32} {c : Nat} (hp : p = 4 ∨ p = 8 ∨ p = 16 ∨ p = 32) (hW : isW p w m) (hc : c < p) : mX2_roomOf [.ref 0, .int (ups b p &&& (Y ^^^ (-1))), .int (nI c), .int (nI w)] u = some (some (.int (nI (rmF p w (Y ||| b.1 0 13) c 6))), u) := by
  have hle := hW.le
  have key : ∀ k e, 1 ≤ e → e + k = 6 → rX2_roomOf_6 (ups b p &&& (Y ^^^ (-1))) (nI c) (nI w) (nI (rmF p w (Y ||| b.1 0 13) c e)) (nI (2 ^ e)) u = some (some (.int (nI (rmF p w (Y ||| b.1 0 13) c 6))), u) := by
    intro k
    induction k with
    | zero =>
      intro e _ he
      rw [show e = 6 by omega, eX2_roomOf_6, if_pos (by decide)]
    | succ k ih =>
      intro e h1 he
      have h6 := pw6 (show e ≤ 6 by omega)
      have h5 : 2 ^ e ≤ 32 := by rcases pw5 (show e ≤ 5 by omega) with h | h | h | h | h | h <;> subst h <;> omega
      obtain ⟨a1, a2, a3⟩ := al_dv hp hc (show e ≤ 5 by omega)
      have hrm := rmF_le (p := p) (c := c) (X := Y ||| b.1 0 13) hle.2 (by omega) e
      rw [eX2_roomOf_6, if_neg (show ¬ (32 : Int32) < nI (2 ^ e) from nI_nlt (a := 32) (b := 2 ^ e) h5 (by omega)), if_neg (nI_ne0 (by omega) (by omega)), pk_div (by omega) (by omega) (by omega), nml, cbits a1 h5, g_ci_some, show (2 : Int32) = nI 2 from rfl, nml, ← Nat.pow_succ]
      have hcond : (BK (c / 2 ^ e * 2 ^ e) (2 ^ e) &&& ((ups b p &&& (Y ^^^ (-1))) ^^^ (-1)) = 0) ↔ (2 ^ e ≤ p ∧ (Y ||| b.1 0 13) &&& BK (c / 2 ^ e * 2 ^ e) (2 ^ e) = 0) := by
        rw [b_z, and_BK a1 h5]
        have hb : ∀ d, d < 32 → (bt ((ups b p &&& (Y ^^^ (-1))) ^^^ (-1)) d = false ↔ d < p ∧ bt (Y ||| b.1 0 13) d = false) := by
          intro d hd
          rw [b_not _ hd, b_and, ups_bt (by omega) hd, b_not _ hd, b_or]
          cases bt Y d <;> cases bt (b.1 0 13) d <;> simp
        constructor
        · intro h
          have h9 : ∀ d, c / 2 ^ e * 2 ^ e ≤ d → d < c / 2 ^ e * 2 ^ e + 2 ^ e → d < 32 → d < p ∧ bt (Y ||| b.1 0 13) d = false := by
            intro d d1 d2 d3
            have := h d d3
            rw [b_and, b_BK a1 h5 d3, decide_eq_true ⟨d1, d2⟩, Bool.true_and] at this
            exact (hb d d3).mp this
          refine ⟨?_, fun d d1 d2 d3 => (h9 d d1 d2 d3).2⟩
          refine Classical.byContradiction (fun q => ?_)
          have h0 := a3 (by omega)
          have := (h9 p (by omega) (by omega) (by omega)).1
          omega
        · rintro ⟨h8, h9⟩ d hd
          have := a2 h8
          rw [b_and, b_BK a1 h5 hd]
          by_cases q : c / 2 ^ e * 2 ^ e ≤ d ∧ d < c / 2 ^ e * 2 ^ e + 2 ^ e
          · rw [(hb d hd).mpr ⟨by omega, h9 d q.1 q.2 hd⟩, Bool.and_false]
          · rw [decide_eq_false q]; rfl
      by_cases q1 : 2 ^ e ≤ w
      · rw [if_pos (nI_le q1 (by omega)), ← ih (e + 1) (by omega) (by omega)]
        congr 1
        show nI (rmF p w (Y ||| b.1 0 13) c e) = nI (if w < 2 ^ e ∧ _ then _ else _)
        rw [if_neg (fun z => by have := z.1; omega)]
      · rw [if_neg (nI_ge (by omega) (by omega))]
        by_cases q2 : BK (c / 2 ^ e * 2 ^ e) (2 ^ e) &&& ((ups b p &&& (Y ^^^ (-1))) ^^^ (-1)) = 0
        · rw [if_pos q2, ← ih (e + 1) (by omega) (by omega)]
          congr 1
          show nI (2 ^ e) = nI (if w < 2 ^ e ∧ _ then _ else _)
          rw [if_pos ⟨by omega, hcond.mp q2⟩]
        · rw [if_neg q2, ← ih (e + 1) (by omega) (by omega)]
          congr 1
          show nI (rmF p w (Y ||| b.1 0 13) c e) = nI (if w < 2 ^ e ∧ _ then _ else _)
          rw [if_neg (fun z => q2 (hcond.mpr z.2))]
  rw [eX2_roomOf]
  have h1 := key 5 1 (by omega) (by omega)
  have h2 : rmF p w (Y ||| b.1 0 13) c 1 = w := by
    show (if w < 2 ^ 0 ∧ _ then _ else w) = w
    rw [if_neg (fun z => by have := z.1; omega)]
  rw [h2] at h1
  exact h1
theorem m_roomOf (e : EE b u n a r) (hA : IA b n a r p) (hJ : IJ b n p t) (hP : IP b n r p) (hS : IS b n r) (hW : isW p w m) {s c : Nat} (hs : s ≤ 8) (hc : c < p) : mX10_roomOf [.ref 0, .int (nI s), .int (nI c), .int (nI w)] u = some (some (.int (nI (rmF p w (bz b r s ||| b.1 0 13) c 6))), u) := by
  have hle := hW.le
  have hp := hA.2.2.2.2.2.2
  have key : ∀ k x, m ≤ x → x + k = 6 → rX10_roomOf_6 (nI s) (nI c) (nI (rmF p w (bz b r s ||| b.1 0 13) c x)) (nI (2 ^ x)) u = some (some (.int (nI (rmF p w (bz b r s ||| b.1 0 13) c 6))), u) := by
    intro k
    induction k with
    | zero =>
      intro x _ hx
      rw [show x = 6 by omega, eX10_roomOf_6, m_cols e hA, g_ci_some, if_pos (nI_lt (a := p) (b := 2 ^ 6) (by omega) (by omega))]
    | succ k ih =>
      intro x h1 hx
      have h6 := pw6 (show x ≤ 6 by omega)
      have h5 : 2 ^ x ≤ 32 := by rcases pw5 (show x ≤ 5 by omega) with h | h | h | h | h | h <;> subst h <;> omega
      rw [eX10_roomOf_6, m_cols e hA, g_ci_some]
      by_cases q0 : p < 2 ^ x
      · rw [if_pos (nI_lt q0 (by omega))]
        have := rmF_hi (w := w) (c := c) (X := bz b r s ||| b.1 0 13) q0 (6 - x)
        rw [show x + (6 - x) = 6 by omega] at this
        rw [this]
      · rw [if_neg (nI_nlt (by omega) (by omega)), if_neg (nI_ne0 (by omega) (by omega)), pk_div (by omega) (by omega) (by omega), nml, m_isFree e hA hJ hP hS hs h5, g_ci_some, show (2 : Int32) = nI 2 from rfl, nml, Nat.mul_comm 2 (2 ^ x), ← Nat.pow_succ]
        by_cases q2 : (bz b r s ||| b.1 0 13) &&& BK (c / 2 ^ x * 2 ^ x) (2 ^ x) = 0
        · rw [if_pos q2, if_neg (by decide), ← ih (x + 1) (by omega) (by omega)]
          congr 1
          show nI (2 ^ x) = nI (if w < 2 ^ x ∧ _ then _ else _)
          by_cases q3 : w < 2 ^ x
          · rw [if_pos ⟨q3, by omega, q2⟩]
          · rw [if_neg (fun z => q3 z.1)]
            have hxm : x = m := by
              have h7 := hW.1
              refine Classical.byContradiction (fun q => ?_)
              have : 2 ^ m < 2 ^ x := Nat.pow_lt_pow_right (by omega) (by omega)
              omega
            rw [rmF_lo hW.1 x (by omega), hW.1, hxm]
        · rw [if_neg q2, if_pos rfl, ← ih (x + 1) (by omega) (by omega)]
          congr 1
          show nI (rmF p w (bz b r s ||| b.1 0 13) c x) = nI (if w < 2 ^ x ∧ _ then _ else _)
          rw [if_neg (fun z => q2 z.2.2)]
  rw [eX10_roomOf]
  have h1 := key (6 - m) m (Nat.le_refl _) (by have := hW.2.1; omega)
  rw [rmF_lo hW.1 m (by omega), ← hW.1] at h1
  exact h1
theorem m_greatestIn (e : EE b u n a r) (hA : IA b n a r p) (hJ : IJ b n p t) (hP : IP b n r p) {c : Nat} (hc : c + w ≤ 32) : mX10_greatestIn [.ref 0, .int (nI c), .int (nI w)] u = some (some (.int (nI (mxF (ld b n) c w))), u) := by
  have hn := hA.n60
  have key : ∀ k x, x + k = w → rX10_greatestIn_5 (nI c) (nI w) (nI (mxF (ld b n) c x)) (nI (c + x)) u = some (some (.int (nI (mxF (ld b n) c w))), u) := by
    intro k
    induction k with
    | zero => intro x hx; rw [show x = w by omega, eX10_greatestIn_5, nad, if_pos (nI_le (Nat.le_refl _) (by omega))]
    | succ k ih =>
      intro x hx
      have hmx : mxF (ld b n) c x ≤ 60 := mxF_le (fun d _ => ld_60 hn _)
      have hl := ld_60 (b := b) hn (c + x)
      rw [eX10_greatestIn_5, nad, if_neg (nI_ge (by omega) (by omega)), m_loadOf e hA hJ hP (by omega), g_ci_some, nI_1, ← ih (x + 1) (by omega)]
      show _ = rX10_greatestIn_5 (nI c) (nI w) (nI (if ld b n (c + x) ≤ mxF (ld b n) c x then mxF (ld b n) c x else ld b n (c + x))) (nI (c + x + 1)) u
      by_cases q : ld b n (c + x) ≤ mxF (ld b n) c x
      · rw [if_pos (nI_le q (by omega)), if_pos q]
      · rw [if_neg (nI_ge (by omega) (by omega)), if_neg q]
  rw [eX10_greatestIn]
  exact key w 0 (by omega)
theorem m_sumIn (e : EE b u n a r) (hA : IA b n a r p) (hJ : IJ b n p t) (hP : IP b n r p) {c : Nat} (hc : c + w ≤ 32) : mX10_sumIn [.ref 0, .int (nI c), .int (nI w)] u = some (some (.int (nI (sF (fun d => ld b n (c + d)) w))), u) := by
  have key : ∀ k x, x + k = w → rX10_sumIn_5 (nI c) (nI w) (nI (sF (fun d => ld b n (c + d)) x)) (nI (c + x)) u = some (some (.int (nI (sF (fun d => ld b n (c + d)) w))), u) := by
    intro k
    induction k with
    | zero => intro x hx; rw [show x = w by omega, eX10_sumIn_5, nad, if_pos (nI_le (Nat.le_refl _) (by omega))]
    | succ k ih =>
      intro x hx
      rw [eX10_sumIn_5, nad, if_neg (nI_ge (by omega) (by omega)), m_loadOf e hA hJ hP (by omega), g_ci_some, nI_1, nad, ← ih (x + 1) (by omega)]
      rfl
  rw [eX10_sumIn]
  exact key w 0 (by omega)
theorem c_loadRank {c : Nat} (hn : n ≤ 60) (hl : ∀ d, d < 32 → u.1 58 d = nI (ld b n d)) (hc : c + w ≤ 32) : mX2_loadRank [.ref 0, .int (nI c), .int (nI w)] u = some (some (.int (nI (mxF (ld b n) c w * 1000 + sF (fun d => ld b n (c + d)) w))), u) := by
  have key : ∀ k x, x + k = w → rX2_loadRank_8 (nI c) (nI w) (nI (mxF (ld b n) c x)) (nI (sF (fun d => ld b n (c + d)) x)) (nI (c + x)) u = some (some (.int (nI (mxF (ld b n) c w * 1000 + sF (fun d => ld b n (c + d)) w))), u) := by
    intro k
    induction k with
    | zero =>
      intro x hx
      rw [show x = w by omega, eX2_loadRank_8, nad, if_pos (nI_le (Nat.le_refl _) (by omega)), show (1000 : Int32) = nI 1000 from rfl, nml, nad]
    | succ k ih =>
      intro x hx
      have hmx : mxF (ld b n) c x ≤ 60 := mxF_le (fun d _ => ld_60 hn _)
      have hl6 := ld_60 (b := b) hn (c + x)
      rw [eX2_loadRank_8, nad, if_neg (nI_ge (by omega) (by omega)), if_neg (show ¬ (32 : Int32) ≤ nI (c + x) from nI_ge (a := c + x) (b := 32) (by omega) (by omega)), gin (by omega) (by omega), if_pos rfl, tn (by omega), hl _ (by omega), eJ9_max_7cf53]
      rw [show (if nI (mxF (ld b n) c x) < nI (ld b n (c + x)) then some (some (Value.int (nI (ld b n (c + x)))), u) else some (some (Value.int (nI (mxF (ld b n) c x))), u)) = some (some (.int (nI (mxF (ld b n) c (x + 1)))), u) from by
        show _ = some (some (Value.int (nI (if ld b n (c + x) ≤ mxF (ld b n) c x then mxF (ld b n) c x else ld b n (c + x)))), u)
        by_cases q : ld b n (c + x) ≤ mxF (ld b n) c x
        · rw [if_neg (nI_nlt q (by omega)), if_pos q]
        · rw [if_pos (nI_lt (by omega) (by omega)), if_neg q]]
      rw [g_ci_some, if_pos rfl, hl _ (by omega), nad, nI_1, ← ih (x + 1) (by omega)]
      rfl
  rw [eX2_loadRank]
  exact key w 0 (by omega)
end RANK
