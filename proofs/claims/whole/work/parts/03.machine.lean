/-! THE ABSTRACT MACHINE: what an instruction does to locals, operands and a memory of cells; a run of a method's instructions. -/
abbrev gMem : Type := (Nat → Nat → Int32) × (Nat → Nat → Int64)
abbrev gR : Type := Option Value × gMem
abbrev gL : Type := List (Option Value)
abbrev gK : Type := Nat → gL → List Value → gMem → Option gR
abbrev gI : Type := Nat → gL → List Value → gMem → gK → Option gR
abbrev gP : Type := List (Nat × Instr × Nat × gI)
/-- a layout: how many cells; the kind of each (0 n: n ints; 1 n: n longs; 2 n: n booleans; 3 n: n rows of ints, which are the next n cells; 4 k: an object of class k); where a reference field leads -/
abbrev gLay : Type := (Nat × (Nat → Nat × Nat)) × (Nat → Nat → Option Nat)
def gwI (μ : gMem) (c i : Nat) (x : Int32) : gMem := (fun c' i' => if c' = c ∧ i' = i then x else μ.1 c' i', μ.2)
def gwL (μ : gMem) (c i : Nat) (x : Int64) : gMem := (μ.1, fun c' i' => if c' = c ∧ i' = i then x else μ.2 c' i')
def gcI (μ : gMem) (a d n : Nat) : gMem := (fun c i => if c = d ∧ i < n then μ.1 a i else μ.1 c i, μ.2)
def gcL (μ : gMem) (a d n : Nat) : gMem := (μ.1, fun c i => if c = d ∧ i < n then μ.2 a i else μ.2 c i)
def g_in (i : Int32) (n : Nat) : Bool := !(decide (i < 0) || decide (n ≤ i.toNatClampNeg))
theorem g_in_vp {i : Int32} {n : Nat} : g_in i n = true ↔ vp_in i n := by
  simp [g_in, vp_in]
def gLen (L : gLay) (t c : Nat) : Nat := match Nat.blt c L.1.1 with
  | true => match L.1.2 c with
    | (a, n) => match Nat.beq a t with
      | true => n
      | false => 0
  | false => 0
def g_isO (L : gLay) (c ci : Nat) : Bool := Nat.blt c L.1.1 && (Nat.beq (L.1.2 c).1 4 && Nat.beq (L.1.2 c).2 ci)
def g_sok (lv : gL) (i : Nat) : Bool := Nat.blt i lv.length && (match i with
  | 0 => true
  | j + 1 => match lv[j]? with
    | some (some v) => Nat.beq v.category 1
    | _ => true)
def g_cok (st : List Value) : Bool := Nat.ble ((st.map fun v => v.category).sum) 8
def g_01 (x : Int32) : Bool := decide (x = 0) || decide (x = 1)
def g_ushr (x y : Int32) : Int32 := (x.toUInt32 >>> (y.toUInt32 &&& Int32.toUInt32 31)).toInt32
def g_lushr (x : Int64) (y : Int32) : Int64 := (x.toUInt64 >>> (y.toInt64.toUInt64 &&& Int64.toUInt64 63)).toInt64
-- the instructions
def i_psh (n : Nat) (v : Value) : gI := fun pc lv st μ k => k (pc + n) lv (v :: st) μ
def i_ild (n i : Nat) : gI := fun pc lv st μ k => match lv[i]? with
  | some (some (.int x)) => k (pc + n) lv (.int x :: st) μ
  | _ => none
def i_lld (n i : Nat) : gI := fun pc lv st μ k => match lv[i]? with
  | some (some (.long x)) => k (pc + n) lv (.long x :: st) μ
  | _ => none
def i_ald (n i : Nat) : gI := fun pc lv st μ k => match lv[i]? with
  | some (some (.ref x)) => k (pc + n) lv (.ref x :: st) μ
  | _ => none
def i_ist (n i : Nat) : gI := fun pc lv st μ k => match st with
  | .int x :: r => match g_sok lv i with
    | true => k (pc + n) (lv.set i (some (.int x))) r μ
    | false => none
  | _ => none
def i_ast (n i : Nat) : gI := fun pc lv st μ k => match st with
  | .ref x :: r => match g_sok lv i with
    | true => k (pc + n) (lv.set i (some (.ref x))) r μ
    | false => none
  | _ => none
def i_lst (n i : Nat) : gI := fun pc lv st μ k => match st with
  | .long x :: r => match g_sok lv i && Nat.blt (i + 1) lv.length with
    | true => k (pc + n) ((lv.set i (some (.long x))).set (i + 1) none) r μ
    | false => none
  | _ => none
def i_inc (i : Nat) (d : Int32) : gI := fun pc lv st μ k => match lv[i]? with
  | some (some (.int x)) => match g_sok lv i with
    | true => k (pc + 3) (lv.set i (some (.int (x + d)))) st μ
    | false => none
  | _ => none
def i_bin (op : Int32 → Int32 → Int32) : gI := fun pc lv st μ k => match st with
  | .int y :: .int x :: r => k (pc + 1) lv (.int (op x y) :: r) μ
  | _ => none
def i_dvr (op : Int32 → Int32 → Int32) : gI := fun pc lv st μ k => match st with
  | .int y :: .int x :: r => if y = 0 then none else k (pc + 1) lv (.int (op x y) :: r) μ
  | _ => none
def i_neg : gI := fun pc lv st μ k => match st with
  | .int x :: r => k (pc + 1) lv (.int (-x) :: r) μ
  | _ => none
def i_lbn (op : Int64 → Int64 → Int64) : gI := fun pc lv st μ k => match st with
  | .long y :: .long x :: r => k (pc + 1) lv (.long (op x y) :: r) μ
  | _ => none
def i_ldv : gI := fun pc lv st μ k => match st with
  | .long y :: .long x :: r => if y = 0 then none else k (pc + 1) lv (.long (x / y) :: r) μ
  | _ => none
def i_lsh (op : Int64 → Int32 → Int64) : gI := fun pc lv st μ k => match st with
  | .int y :: .long x :: r => k (pc + 1) lv (.long (op x y) :: r) μ
  | _ => none
def i_i2l : gI := fun pc lv st μ k => match st with
  | .int x :: r => k (pc + 1) lv (.long x.toInt64 :: r) μ
  | _ => none
def i_l2i : gI := fun pc lv st μ k => match st with
  | .long x :: r => k (pc + 1) lv (.int x.toInt32 :: r) μ
  | _ => none
def i_lcm : gI := fun pc lv st μ k => match st with
  | .long y :: .long x :: r => k (pc + 1) lv (.int (lg_cmp x y) :: r) μ
  | _ => none
def i_dup : gI := fun pc lv st μ k => match st with
  | v :: r => match Nat.beq v.category 1 with
    | true => k (pc + 1) lv (v :: v :: r) μ
    | false => none
  | _ => none
def i_du2 : gI := fun pc lv st μ k => match st with
  | v :: u :: r => match Nat.beq v.category 1 && Nat.beq u.category 1 with
    | true => k (pc + 1) lv (v :: u :: v :: u :: r) μ
    | false => none
  | _ => none
def i_pop : gI := fun pc lv st μ k => match st with
  | v :: r => match Nat.beq v.category 1 with
    | true => k (pc + 1) lv r μ
    | false => none
  | _ => none
def i_gto (t : Nat) : gI := fun _ lv st μ k => k t lv st μ
def i_feq (t : Nat) : gI := fun pc lv st μ k => match st with
  | .int x :: r => if x = 0 then k t lv r μ else k (pc + 3) lv r μ
  | _ => none
def i_fne (t : Nat) : gI := fun pc lv st μ k => match st with
  | .int x :: r => if x = 0 then k (pc + 3) lv r μ else k t lv r μ
  | _ => none
def i_flt (t : Nat) : gI := fun pc lv st μ k => match st with
  | .int x :: r => if x < 0 then k t lv r μ else k (pc + 3) lv r μ
  | _ => none
def i_fge (t : Nat) : gI := fun pc lv st μ k => match st with
  | .int x :: r => if 0 ≤ x then k t lv r μ else k (pc + 3) lv r μ
  | _ => none
def i_fgt (t : Nat) : gI := fun pc lv st μ k => match st with
  | .int x :: r => if 0 < x then k t lv r μ else k (pc + 3) lv r μ
  | _ => none
def i_fle (t : Nat) : gI := fun pc lv st μ k => match st with
  | .int x :: r => if x ≤ 0 then k t lv r μ else k (pc + 3) lv r μ
  | _ => none
def i_ceq (t : Nat) : gI := fun pc lv st μ k => match st with
  | .int y :: .int x :: r => if x = y then k t lv r μ else k (pc + 3) lv r μ
  | _ => none
def i_cne (t : Nat) : gI := fun pc lv st μ k => match st with
  | .int y :: .int x :: r => if x = y then k (pc + 3) lv r μ else k t lv r μ
  | _ => none
def i_clt (t : Nat) : gI := fun pc lv st μ k => match st with
  | .int y :: .int x :: r => if x < y then k t lv r μ else k (pc + 3) lv r μ
  | _ => none
def i_cge (t : Nat) : gI := fun pc lv st μ k => match st with
  | .int y :: .int x :: r => if y ≤ x then k t lv r μ else k (pc + 3) lv r μ
  | _ => none
def i_cgt (t : Nat) : gI := fun pc lv st μ k => match st with
  | .int y :: .int x :: r => if y < x then k t lv r μ else k (pc + 3) lv r μ
  | _ => none
def i_cle (t : Nat) : gI := fun pc lv st μ k => match st with
  | .int y :: .int x :: r => if x ≤ y then k t lv r μ else k (pc + 3) lv r μ
  | _ => none
def g_swk (k : Nat → Option gR) (x : Int32) : List (Int32 × Nat) → Nat → Option gR
  | [], d => k d
  | (v, t) :: ps, d => if x = v then k t else g_swk k x ps d
def i_swt (ps : List (Int32 × Nat)) (d : Nat) : gI := fun _ lv st μ k => match st with
  | .int x :: r => g_swk (fun t => k t lv r μ) x ps d
  | _ => none
def i_gfd (L : gLay) (ci f : Nat) : gI := fun pc lv st μ k => match st with
  | .ref c :: r => match g_isO L c ci with
    | true => match L.2 c f with
      | some t => k (pc + 3) lv (.ref t :: r) μ
      | none => k (pc + 3) lv (.int (μ.1 c f) :: r) μ
    | false => none
  | _ => none
def i_pfd (L : gLay) (ci f : Nat) : gI := fun pc lv st μ k => match st with
  | .int x :: .ref c :: r => match g_isO L c ci && (L.2 c f).isNone with
    | true => k (pc + 3) lv r (gwI μ c f x)
    | false => none
  | _ => none
def i_pfz (L : gLay) (ci f : Nat) : gI := fun pc lv st μ k => match st with
  | .int x :: .ref c :: r => match g_isO L c ci && (L.2 c f).isNone with
    | true => if g_01 x = true then k (pc + 3) lv r (gwI μ c f x) else none
    | false => none
  | _ => none
def i_gst (id : Nat) : gI := fun pc lv st μ k => k (pc + 3) lv (.ref id :: st) μ
def i_tld (id : Nat) (tb : List Int32) : gI := fun pc lv st μ k => match st with
  | .int i :: .ref c :: r => match Nat.beq c id with
    | true => if g_in i tb.length = true then k (pc + 1) lv (.int (tb.getD i.toNatClampNeg 0) :: r) μ else none
    | false => none
  | _ => none
def i_tln (id : Nat) (v : Int32) : gI := fun pc lv st μ k => match st with
  | .ref c :: r => match Nat.beq c id with
    | true => k (pc + 1) lv (.int v :: r) μ
    | false => none
  | _ => none
def i_aln (L : gLay) : gI := fun pc lv st μ k => match st with
  | .ref c :: r => match Nat.blt c L.1.1 && Nat.beq (L.1.2 c).1 0 with
    | true => k (pc + 1) lv (.int (Int32.ofNat (L.1.2 c).2) :: r) μ
    | false => none
  | _ => none
def i_iad (L : gLay) : gI := fun pc lv st μ k => match st with
  | .int i :: .ref c :: r => if g_in i (gLen L 0 c) = true then k (pc + 1) lv (.int (μ.1 c i.toNatClampNeg) :: r) μ else none
  | _ => none
def i_zad (L : gLay) : gI := fun pc lv st μ k => match st with
  | .int i :: .ref c :: r => if g_in i (gLen L 2 c) = true then k (pc + 1) lv (.int (μ.1 c i.toNatClampNeg) :: r) μ else none
  | _ => none
def i_lad (L : gLay) : gI := fun pc lv st μ k => match st with
  | .int i :: .ref c :: r => if g_in i (gLen L 1 c) = true then k (pc + 1) lv (.long (μ.2 c i.toNatClampNeg) :: r) μ else none
  | _ => none
def i_aad (L : gLay) : gI := fun pc lv st μ k => match st with
  | .int i :: .ref c :: r => if g_in i (gLen L 3 c) = true then k (pc + 1) lv (.ref (c + 1 + i.toNatClampNeg) :: r) μ else none
  | _ => none
def i_ias (L : gLay) : gI := fun pc lv st μ k => match st with
  | .int x :: .int i :: .ref c :: r => if g_in i (gLen L 0 c) = true then k (pc + 1) lv r (gwI μ c i.toNatClampNeg x) else none
  | _ => none
def i_zas (L : gLay) : gI := fun pc lv st μ k => match st with
  | .int x :: .int i :: .ref c :: r => if (g_in i (gLen L 2 c) && g_01 x) = true then k (pc + 1) lv r (gwI μ c i.toNatClampNeg x) else none
  | _ => none
def i_las (L : gLay) : gI := fun pc lv st μ k => match st with
  | .long x :: .int i :: .ref c :: r => if g_in i (gLen L 1 c) = true then k (pc + 1) lv r (gwL μ c i.toNatClampNeg x) else none
  | _ => none
def i_aci (L : gLay) : gI := fun pc lv st μ k => match st with
  | .int n :: .int dp :: .ref d :: .int sp :: .ref a :: r => match g_cok r with
    | true => if sp = 0 ∧ dp = 0 ∧ ¬ n < 0 ∧ n.toNatClampNeg ≤ gLen L 0 a ∧ n.toNatClampNeg ≤ gLen L 0 d ∧ 0 < gLen L 0 a ∧ 0 < gLen L 0 d then k (pc + 3) lv r (gcI μ a d n.toNatClampNeg) else none
    | false => none
  | _ => none
def i_acl (L : gLay) : gI := fun pc lv st μ k => match st with
  | .int n :: .int dp :: .ref d :: .int sp :: .ref a :: r => match g_cok r with
    | true => if sp = 0 ∧ dp = 0 ∧ ¬ n < 0 ∧ n.toNatClampNeg ≤ gLen L 1 a ∧ n.toNatClampNeg ≤ gLen L 1 d ∧ 0 < gLen L 1 a ∧ 0 < gLen L 1 d then k (pc + 3) lv r (gcL μ a d n.toNatClampNeg) else none
    | false => none
  | _ => none
abbrev gF : Type := List Value → gMem → Option gR
def i_cvt (L : gLay) (n ci : Nat) (m : gF) : gI := fun pc lv st μ k => match Nat.ble (n + 1) st.length && g_cok (st.drop (n + 1)) with
  | true => match (st.take (n + 1)).reverse with
    | .ref c :: as => match g_isO L c ci with
      | true => match m (.ref c :: as) μ with
        | some r => k (pc + 3) lv (r.1.toList ++ st.drop (n + 1)) r.2
        | none => none
      | false => none
    | _ => none
  | false => none
def i_cst (n : Nat) (m : gF) : gI := fun pc lv st μ k => match Nat.ble n st.length && g_cok (st.drop n) with
  | true => match m (st.take n).reverse μ with
    | some r => k (pc + 3) lv (r.1.toList ++ st.drop n) r.2
    | none => none
  | false => none
def i_irt : gI := fun _ _ st μ _ => match st with
  | [.int x] => some (some (.int x), μ)
  | _ => none
def i_zrt : gI := fun _ _ st μ _ => match st with
  | [.int x] => if g_01 x = true then some (some (.int x), μ) else none
  | _ => none
def i_lrt : gI := fun _ _ st μ _ => match st with
  | [.long x] => some (some (.long x), μ)
  | _ => none
def i_vrt : gI := fun _ _ st μ _ => match st with
  | [] => some (none, μ)
  | _ => none
/-- an instruction ends the run, or goes on at one state -/
def gDt (f : gI) : Prop := ∀ pc lv st μ, (∃ o, ∀ k, f pc lv st μ k = o) ∨ ∃ pc' lv' st' μ', ∀ k, f pc lv st μ k = k pc' lv' st' μ'
def gDts : gP → Prop
  | [] => True
  | e :: t => gDt e.2.2.2 ∧ gDts t
def g_find : gP → Nat → Option gI
  | [], _ => none
  | e :: t, pc => match Nat.beq e.1 pc with
    | true => some e.2.2.2
    | false => g_find t pc
def g_step (P : gP) (k : gK) : gK := fun pc lv st μ => match g_find P pc with
  | some f => f pc lv st μ k
  | none => none
def g_n (P : gP) : Nat → gK
  | 0 => fun _ _ _ _ => none
  | n + 1 => g_step P (g_n P n)
noncomputable def g_run (P : gP) : gK := fun pc lv st μ => (Classical.propDecidable (∃ r n, g_n P n pc lv st μ = some r)).casesOn (fun _ => none) (fun h => some (Classical.choose h))
/-- as far as the next place of 'cuts' -/
noncomputable def g_ev (P : gP) (cuts : List Nat) : Nat → gK
  | 0 => g_run P
  | n + 1 => fun pc lv st μ => match cuts.any (Nat.beq pc) with
    | true => g_run P pc lv st μ
    | false => match g_find P pc with
      | some f => f pc lv st μ (g_ev P cuts n)
      | none => none
noncomputable def g_go (P : gP) (cuts : List Nat) (n : Nat) : gK := fun pc lv st μ => match g_find P pc with
  | some f => f pc lv st μ (g_ev P cuts n)
  | none => none
def g_lv : List Value → gL
  | [] => []
  | v :: vs => match Nat.beq v.category 2 with
    | true => some v :: none :: g_lv vs
    | false => some v :: g_lv vs
def g_lvs (as : List Value) (nL : Nat) : gL := g_lv as ++ List.replicate (nL - (g_lv as).length) none
noncomputable def g_m (P : gP) (nL : Nat) : gF := fun as μ => match Nat.ble (g_lv as).length nL with
  | true => g_run P 0 (g_lvs as nL) [] μ
  | false => none
theorem g_find_dt {P : gP} (h : gDts P) {pc : Nat} {f : gI} (hf : g_find P pc = some f) : gDt f := by
  induction P with
  | nil => cases hf
  | cons e t ih =>
    unfold g_find at hf
    split at hf
    · cases hf; exact h.1
    · exact ih h.2 hf
theorem g_n_up {P : gP} (h : gDts P) : ∀ (n : Nat) {pc lv st μ r}, g_n P n pc lv st μ = some r → g_n P (n + 1) pc lv st μ = some r
  | 0, _, _, _, _, _, hr => by cases hr
  | n + 1, pc, lv, st, μ, r, hr => by
    have hr : g_step P (g_n P n) pc lv st μ = some r := hr
    show g_step P (g_n P (n + 1)) pc lv st μ = some r
    unfold g_step at hr ⊢
    split at hr
    · rename_i f hf
      rcases g_find_dt h hf pc lv st μ with ⟨o, ho⟩ | ⟨a, b, c, d, ho⟩
      · rw [ho] at hr ⊢; exact hr
      · rw [ho] at hr ⊢; exact g_n_up h n hr
    · cases hr
theorem g_n_le {P : gP} (h : gDts P) {n m : Nat} (hm : n ≤ m) {pc lv st μ r} (hr : g_n P n pc lv st μ = some r) : g_n P m pc lv st μ = some r := by
  induction hm with
  | refl => exact hr
  | step _ ih => exact g_n_up h _ ih
theorem g_run_of {P : gP} (h : gDts P) {n : Nat} {pc lv st μ r} (hr : g_n P n pc lv st μ = some r) : g_run P pc lv st μ = some r := by
  unfold g_run
  cases Classical.propDecidable (∃ r n, g_n P n pc lv st μ = some r) with
  | isFalse q => exact absurd ⟨r, n, hr⟩ q
  | isTrue q =>
    show some (Classical.choose q) = some r
    obtain ⟨m, hm⟩ := Classical.choose_spec q
    have h1 := g_n_le h (Nat.le_max_left n m) hr
    have h2 := g_n_le h (Nat.le_max_right n m) hm
    rw [h1] at h2
    exact h2.symm
theorem g_run_n {P : gP} {pc lv st μ r} (hr : g_run P pc lv st μ = some r) : ∃ n, g_n P n pc lv st μ = some r := by
  unfold g_run at hr
  cases hq : Classical.propDecidable (∃ r n, g_n P n pc lv st μ = some r) with
  | isFalse q => rw [hq] at hr; cases hr
  | isTrue q =>
    rw [hq] at hr
    have hr : some (Classical.choose q) = some r := hr
    rw [← Option.some.inj hr]
    exact Classical.choose_spec q
theorem g_run_step {P : gP} (h : gDts P) (pc lv st μ) : g_run P pc lv st μ = g_step P (g_run P) pc lv st μ := by
  cases hr : g_step P (g_run P) pc lv st μ with
  | some r =>
    unfold g_step at hr
    split at hr
    · rename_i f hf
      rcases g_find_dt h hf pc lv st μ with ⟨o, ho⟩ | ⟨a, b, c, d, ho⟩
      · refine g_run_of h (n := 1) ?_
        show g_step P (g_n P 0) pc lv st μ = some r
        unfold g_step
        rw [hf]
        show f pc lv st μ (g_n P 0) = some r
        rw [ho] at hr ⊢
        exact hr
      · rw [ho] at hr
        obtain ⟨n, hn⟩ := g_run_n hr
        refine g_run_of h (n := n + 1) ?_
        show g_step P (g_n P n) pc lv st μ = some r
        unfold g_step
        rw [hf]
        show f pc lv st μ (g_n P n) = some r
        rw [ho]
        exact hn
    · cases hr
  | none =>
    cases hq : g_run P pc lv st μ with
    | none => rfl
    | some r =>
      exfalso
      obtain ⟨n, hn⟩ := g_run_n hq
      cases n with
      | zero => cases hn
      | succ n =>
        have hn : g_step P (g_n P n) pc lv st μ = some r := hn
        unfold g_step at hn hr
        split at hn
        · rename_i f hf
          rw [hf] at hr
          have hr : f pc lv st μ (g_run P) = none := hr
          rcases g_find_dt h hf pc lv st μ with ⟨o, ho⟩ | ⟨a, b, c, d, ho⟩
          · rw [ho] at hn hr; rw [hn] at hr; cases hr
          · rw [ho] at hn hr; rw [g_run_of h hn] at hr; cases hr
        · cases hn
theorem g_ev_run {P : gP} (h : gDts P) (cuts : List Nat) : ∀ n, g_ev P cuts n = g_run P
  | 0 => rfl
  | n + 1 => by
    funext pc lv st μ
    unfold g_ev
    split
    · rfl
    · rw [g_ev_run h cuts n, g_run_step h]
      rfl
/-- the run from a place, step by step to the next places of 'cuts' -/
theorem g_cut {P : gP} (h : gDts P) (cuts : List Nat) (n : Nat) (pc lv st μ) : g_run P pc lv st μ = g_go P cuts n pc lv st μ := by
  unfold g_go
  rw [g_ev_run h cuts n, g_run_step h]
  rfl
section DT
variable {n i t d c f : Nat}
theorem dt_psh {v : Value} : gDt (i_psh n v) := fun _ _ _ _ => Or.inr ⟨_, _, _, _, fun _ => rfl⟩
theorem dt_ild : gDt (i_ild n i) := by
  intro pc lv st μ; unfold i_ild; split <;> first | exact Or.inl ⟨_, fun _ => rfl⟩ | exact Or.inr ⟨_, _, _, _, fun _ => rfl⟩
theorem dt_lld : gDt (i_lld n i) := by
  intro pc lv st μ; unfold i_lld; split <;> first | exact Or.inl ⟨_, fun _ => rfl⟩ | exact Or.inr ⟨_, _, _, _, fun _ => rfl⟩
theorem dt_ald : gDt (i_ald n i) := by
  intro pc lv st μ; unfold i_ald; split <;> first | exact Or.inl ⟨_, fun _ => rfl⟩ | exact Or.inr ⟨_, _, _, _, fun _ => rfl⟩
theorem dt_ist : gDt (i_ist n i) := by
  intro pc lv st μ; unfold i_ist; split <;> (try split) <;> first | exact Or.inl ⟨_, fun _ => rfl⟩ | exact Or.inr ⟨_, _, _, _, fun _ => rfl⟩
theorem dt_ast : gDt (i_ast n i) := by
  intro pc lv st μ; unfold i_ast; split <;> (try split) <;> first | exact Or.inl ⟨_, fun _ => rfl⟩ | exact Or.inr ⟨_, _, _, _, fun _ => rfl⟩
theorem dt_lst : gDt (i_lst n i) := by
  intro pc lv st μ; unfold i_lst; split <;> (try split) <;> first | exact Or.inl ⟨_, fun _ => rfl⟩ | exact Or.inr ⟨_, _, _, _, fun _ => rfl⟩
theorem dt_inc {x : Int32} : gDt (i_inc i x) := by
  intro pc lv st μ; unfold i_inc; split <;> (try split) <;> first | exact Or.inl ⟨_, fun _ => rfl⟩ | exact Or.inr ⟨_, _, _, _, fun _ => rfl⟩
theorem dt_bin {op} : gDt (i_bin op) := by
  intro pc lv st μ; unfold i_bin; split <;> first | exact Or.inl ⟨_, fun _ => rfl⟩ | exact Or.inr ⟨_, _, _, _, fun _ => rfl⟩
theorem dt_dvr {op} : gDt (i_dvr op) := by
  intro pc lv st μ; unfold i_dvr; split <;> (try split) <;> first | exact Or.inl ⟨_, fun _ => rfl⟩ | exact Or.inr ⟨_, _, _, _, fun _ => rfl⟩
theorem dt_neg : gDt i_neg := by
  intro pc lv st μ; unfold i_neg; split <;> first | exact Or.inl ⟨_, fun _ => rfl⟩ | exact Or.inr ⟨_, _, _, _, fun _ => rfl⟩
theorem dt_lbn {op} : gDt (i_lbn op) := by
  intro pc lv st μ; unfold i_lbn; split <;> first | exact Or.inl ⟨_, fun _ => rfl⟩ | exact Or.inr ⟨_, _, _, _, fun _ => rfl⟩
theorem dt_ldv : gDt i_ldv := by
  intro pc lv st μ; unfold i_ldv; split <;> (try split) <;> first | exact Or.inl ⟨_, fun _ => rfl⟩ | exact Or.inr ⟨_, _, _, _, fun _ => rfl⟩
theorem dt_lsh {op} : gDt (i_lsh op) := by
  intro pc lv st μ; unfold i_lsh; split <;> first | exact Or.inl ⟨_, fun _ => rfl⟩ | exact Or.inr ⟨_, _, _, _, fun _ => rfl⟩
theorem dt_i2l : gDt i_i2l := by
  intro pc lv st μ; unfold i_i2l; split <;> first | exact Or.inl ⟨_, fun _ => rfl⟩ | exact Or.inr ⟨_, _, _, _, fun _ => rfl⟩
theorem dt_l2i : gDt i_l2i := by
  intro pc lv st μ; unfold i_l2i; split <;> first | exact Or.inl ⟨_, fun _ => rfl⟩ | exact Or.inr ⟨_, _, _, _, fun _ => rfl⟩
theorem dt_lcm : gDt i_lcm := by
  intro pc lv st μ; unfold i_lcm; split <;> first | exact Or.inl ⟨_, fun _ => rfl⟩ | exact Or.inr ⟨_, _, _, _, fun _ => rfl⟩
theorem dt_dup : gDt i_dup := by
  intro pc lv st μ; unfold i_dup; split <;> (try split) <;> first | exact Or.inl ⟨_, fun _ => rfl⟩ | exact Or.inr ⟨_, _, _, _, fun _ => rfl⟩
theorem dt_du2 : gDt i_du2 := by
  intro pc lv st μ; unfold i_du2; split <;> (try split) <;> first | exact Or.inl ⟨_, fun _ => rfl⟩ | exact Or.inr ⟨_, _, _, _, fun _ => rfl⟩
theorem dt_pop : gDt i_pop := by
  intro pc lv st μ; unfold i_pop; split <;> (try split) <;> first | exact Or.inl ⟨_, fun _ => rfl⟩ | exact Or.inr ⟨_, _, _, _, fun _ => rfl⟩
theorem dt_gto : gDt (i_gto t) := fun _ _ _ _ => Or.inr ⟨_, _, _, _, fun _ => rfl⟩
theorem dt_feq : gDt (i_feq t) := by
  intro pc lv st μ; unfold i_feq; split <;> (try split) <;> first | exact Or.inl ⟨_, fun _ => rfl⟩ | exact Or.inr ⟨_, _, _, _, fun _ => rfl⟩
theorem dt_fne : gDt (i_fne t) := by
  intro pc lv st μ; unfold i_fne; split <;> (try split) <;> first | exact Or.inl ⟨_, fun _ => rfl⟩ | exact Or.inr ⟨_, _, _, _, fun _ => rfl⟩
theorem dt_flt : gDt (i_flt t) := by
  intro pc lv st μ; unfold i_flt; split <;> (try split) <;> first | exact Or.inl ⟨_, fun _ => rfl⟩ | exact Or.inr ⟨_, _, _, _, fun _ => rfl⟩
theorem dt_fge : gDt (i_fge t) := by
  intro pc lv st μ; unfold i_fge; split <;> (try split) <;> first | exact Or.inl ⟨_, fun _ => rfl⟩ | exact Or.inr ⟨_, _, _, _, fun _ => rfl⟩
theorem dt_fgt : gDt (i_fgt t) := by
  intro pc lv st μ; unfold i_fgt; split <;> (try split) <;> first | exact Or.inl ⟨_, fun _ => rfl⟩ | exact Or.inr ⟨_, _, _, _, fun _ => rfl⟩
theorem dt_fle : gDt (i_fle t) := by
  intro pc lv st μ; unfold i_fle; split <;> (try split) <;> first | exact Or.inl ⟨_, fun _ => rfl⟩ | exact Or.inr ⟨_, _, _, _, fun _ => rfl⟩
theorem dt_ceq : gDt (i_ceq t) := by
  intro pc lv st μ; unfold i_ceq; split <;> (try split) <;> first | exact Or.inl ⟨_, fun _ => rfl⟩ | exact Or.inr ⟨_, _, _, _, fun _ => rfl⟩
theorem dt_cne : gDt (i_cne t) := by
  intro pc lv st μ; unfold i_cne; split <;> (try split) <;> first | exact Or.inl ⟨_, fun _ => rfl⟩ | exact Or.inr ⟨_, _, _, _, fun _ => rfl⟩
theorem dt_clt : gDt (i_clt t) := by
  intro pc lv st μ; unfold i_clt; split <;> (try split) <;> first | exact Or.inl ⟨_, fun _ => rfl⟩ | exact Or.inr ⟨_, _, _, _, fun _ => rfl⟩
theorem dt_cge : gDt (i_cge t) := by
  intro pc lv st μ; unfold i_cge; split <;> (try split) <;> first | exact Or.inl ⟨_, fun _ => rfl⟩ | exact Or.inr ⟨_, _, _, _, fun _ => rfl⟩
theorem dt_cgt : gDt (i_cgt t) := by
  intro pc lv st μ; unfold i_cgt; split <;> (try split) <;> first | exact Or.inl ⟨_, fun _ => rfl⟩ | exact Or.inr ⟨_, _, _, _, fun _ => rfl⟩
theorem dt_cle : gDt (i_cle t) := by
  intro pc lv st μ; unfold i_cle; split <;> (try split) <;> first | exact Or.inl ⟨_, fun _ => rfl⟩ | exact Or.inr ⟨_, _, _, _, fun _ => rfl⟩
theorem dt_swk (x : Int32) (d : Nat) : ∀ ps : List (Int32 × Nat), ∃ t, ∀ k, g_swk k x ps d = k t
  | [] => ⟨d, fun _ => rfl⟩
  | (v, t) :: ps => by
    by_cases h : x = v
    · exact ⟨t, fun k => by simp [g_swk, h]⟩
    · obtain ⟨u, hu⟩ := dt_swk x d ps
      exact ⟨u, fun k => by simp only [g_swk, h, if_false]; exact hu k⟩
theorem dt_swt {ps} : gDt (i_swt ps d) := by
  intro pc lv st μ; unfold i_swt
  split
  · rename_i x r
    obtain ⟨u, hu⟩ := dt_swk x d ps
    exact Or.inr ⟨u, lv, r, μ, fun k => hu _⟩
  · exact Or.inl ⟨_, fun _ => rfl⟩
theorem dt_gfd {L} : gDt (i_gfd L c f) := by
  intro pc lv st μ; unfold i_gfd; split <;> (try split) <;> (try split) <;> first | exact Or.inl ⟨_, fun _ => rfl⟩ | exact Or.inr ⟨_, _, _, _, fun _ => rfl⟩
theorem dt_pfd {L} : gDt (i_pfd L c f) := by
  intro pc lv st μ; unfold i_pfd; split <;> (try split) <;> (try split) <;> first | exact Or.inl ⟨_, fun _ => rfl⟩ | exact Or.inr ⟨_, _, _, _, fun _ => rfl⟩
theorem dt_pfz {L} : gDt (i_pfz L c f) := by
  intro pc lv st μ; unfold i_pfz; split <;> (try split) <;> (try split) <;> first | exact Or.inl ⟨_, fun _ => rfl⟩ | exact Or.inr ⟨_, _, _, _, fun _ => rfl⟩
theorem dt_gst : gDt (i_gst n) := fun _ _ _ _ => Or.inr ⟨_, _, _, _, fun _ => rfl⟩
theorem dt_tld {tb} : gDt (i_tld n tb) := by
  intro pc lv st μ; unfold i_tld; split <;> (try split) <;> (try split) <;> first | exact Or.inl ⟨_, fun _ => rfl⟩ | exact Or.inr ⟨_, _, _, _, fun _ => rfl⟩
theorem dt_tln {v} : gDt (i_tln n v) := by
  intro pc lv st μ; unfold i_tln; split <;> (try split) <;> first | exact Or.inl ⟨_, fun _ => rfl⟩ | exact Or.inr ⟨_, _, _, _, fun _ => rfl⟩
theorem dt_aln {L} : gDt (i_aln L) := by
  intro pc lv st μ; unfold i_aln; split <;> (try split) <;> first | exact Or.inl ⟨_, fun _ => rfl⟩ | exact Or.inr ⟨_, _, _, _, fun _ => rfl⟩
theorem dt_iad {L} : gDt (i_iad L) := by
  intro pc lv st μ; unfold i_iad; split <;> (try split) <;> first | exact Or.inl ⟨_, fun _ => rfl⟩ | exact Or.inr ⟨_, _, _, _, fun _ => rfl⟩
theorem dt_zad {L} : gDt (i_zad L) := by
  intro pc lv st μ; unfold i_zad; split <;> (try split) <;> first | exact Or.inl ⟨_, fun _ => rfl⟩ | exact Or.inr ⟨_, _, _, _, fun _ => rfl⟩
theorem dt_lad {L} : gDt (i_lad L) := by
  intro pc lv st μ; unfold i_lad; split <;> (try split) <;> first | exact Or.inl ⟨_, fun _ => rfl⟩ | exact Or.inr ⟨_, _, _, _, fun _ => rfl⟩
theorem dt_aad {L} : gDt (i_aad L) := by
  intro pc lv st μ; unfold i_aad; split <;> (try split) <;> first | exact Or.inl ⟨_, fun _ => rfl⟩ | exact Or.inr ⟨_, _, _, _, fun _ => rfl⟩
theorem dt_ias {L} : gDt (i_ias L) := by
  intro pc lv st μ; unfold i_ias; split <;> (try split) <;> first | exact Or.inl ⟨_, fun _ => rfl⟩ | exact Or.inr ⟨_, _, _, _, fun _ => rfl⟩
theorem dt_zas {L} : gDt (i_zas L) := by
  intro pc lv st μ; unfold i_zas; split <;> (try split) <;> first | exact Or.inl ⟨_, fun _ => rfl⟩ | exact Or.inr ⟨_, _, _, _, fun _ => rfl⟩
theorem dt_las {L} : gDt (i_las L) := by
  intro pc lv st μ; unfold i_las; split <;> (try split) <;> first | exact Or.inl ⟨_, fun _ => rfl⟩ | exact Or.inr ⟨_, _, _, _, fun _ => rfl⟩
theorem dt_aci {L} : gDt (i_aci L) := by
  intro pc lv st μ; unfold i_aci; split <;> (try split) <;> (try split) <;> first | exact Or.inl ⟨_, fun _ => rfl⟩ | exact Or.inr ⟨_, _, _, _, fun _ => rfl⟩
theorem dt_acl {L} : gDt (i_acl L) := by
  intro pc lv st μ; unfold i_acl; split <;> (try split) <;> (try split) <;> first | exact Or.inl ⟨_, fun _ => rfl⟩ | exact Or.inr ⟨_, _, _, _, fun _ => rfl⟩
theorem dt_cvt {L m} : gDt (i_cvt L n c m) := by
  intro pc lv st μ; unfold i_cvt; split <;> (try split) <;> (try split) <;> (try split) <;> first | exact Or.inl ⟨_, fun _ => rfl⟩ | exact Or.inr ⟨_, _, _, _, fun _ => rfl⟩
theorem dt_cst {m} : gDt (i_cst n m) := by
  intro pc lv st μ; unfold i_cst; split <;> (try split) <;> first | exact Or.inl ⟨_, fun _ => rfl⟩ | exact Or.inr ⟨_, _, _, _, fun _ => rfl⟩
theorem dt_irt : gDt i_irt := fun _ _ _ _ => Or.inl ⟨_, fun _ => rfl⟩
theorem dt_zrt : gDt i_zrt := fun _ _ _ _ => Or.inl ⟨_, fun _ => rfl⟩
theorem dt_lrt : gDt i_lrt := fun _ _ _ _ => Or.inl ⟨_, fun _ => rfl⟩
theorem dt_vrt : gDt i_vrt := fun _ _ _ _ => Or.inl ⟨_, fun _ => rfl⟩
end DT
