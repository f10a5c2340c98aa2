/-! THE ABSTRACT MACHINE IS SOUND: what a run of it says, the machine does. -/
def gv (ad : Nat → Nat) : Value → Value
  | .ref c => .ref (ad c)
  | v => v
theorem gv_cat (ad : Nat → Nat) (v : Value) : (gv ad v).category = v.category := by cases v <;> rfl
def g_nf (k : Nat) : Nat := match gcl[k]? with
  | some q => q.2.2
  | none => 0
/-- a world: the tables' numbers, the classes of int[], long[], boolean[], int[][], the layout, where the cells lie -/
abbrev gWo : Type := va_G × (ClassId × ClassId × ClassId × ClassId) × gLay × (Nat → Nat)
def gE (w : gWo) (μ : gMem) (c : Nat) : va_E := match w.2.2.1.1.2 c with
  | (0, n) => .inl (w.2.1.1, n, .inl (μ.1 c))
  | (1, n) => .inl (w.2.1.2.1, n, .inr (.inl (μ.2 c)))
  | (2, n) => .inl (w.2.1.2.2.1, n, .inl (μ.1 c))
  | (3, n) => .inl (w.2.1.2.2.2, n, .inr (.inr (.inr (.inr (fun i => if i < n then some (w.2.2.2 (c + 1 + i)) else none)))))
  | (_, k) => .inr (k, (List.range (g_nf k)).map (fun f => match w.2.2.1.2 c f with
    | some t => .ref (w.2.2.2 t)
    | none => .int (μ.1 c f)))
def gW (w : gWo) (μ : gMem) : va_W := (List.range w.2.2.1.1.1).map (fun c => (w.2.2.2 c, gE w μ c))
def gty (w : gWo) : List (ClassId × FieldType) := [(w.2.1.1, .int), (w.2.1.2.1, .long), (w.2.1.2.2.1, .boolean), (w.2.1.2.2.2, .array .int)]
def gInj (w : gWo) : Prop := ∀ i j, i < w.2.2.1.1.1 → j < w.2.2.1.1.1 → w.2.2.2 i = w.2.2.2 j → i = j
def gA (w : gWo) : Nat → Prop := fun q => ∃ c, c < w.2.2.1.1.1 ∧ q = w.2.2.2 c
def g_t0 : List Int32 := [-1, 0x55555555, 0x11111111, 0x01010101, 0x00010001, 1]
def g_t1 : List Int32 := [4, 1, 0, 0, 0, 0, 0, 0, 0, 0]
def g_t2 : List Int32 := [32, 8, 2, 1, 9, 99, 9, 99, 1, 1]
def gS1 (C n : String) (t : Nat) (tb : List Int32) (A : Nat → Prop) (U : State) (H : Heap) : Prop := va_Z C n "[I" (.ref t) A U H ∧ va_T .int t tb.length (fun j => .int (tb.getD j 0)) A U H
/-- the static rows, at the cells 1000, 1001, 1002 -/
def gSt (w : gWo) (U : State) (H : Heap) : Prop := gS1 "GangMatrix$Blocks" "ALIGNED" (w.2.2.2 1000) g_t0 (gA w) U H ∧ gS1 "GangMatrix$Board" "LEAST_TOLD" (w.2.2.2 1001) g_t1 (gA w) U H ∧ gS1 "GangMatrix$Board" "MOST_TOLD" (w.2.2.2 1002) g_t2 (gA w) U H
theorem gS1.moved {C n t tb A} {u U : State} {H : Heap} (hvm : u.vm.Alike U.vm) (h : gS1 C n t tb A u H) : gS1 C n t tb A U H := ⟨h.1.moved hvm, h.2.moved hvm⟩
theorem gS1.kept {C n t tb A} {U : State} {H H1 : Heap} (h : gS1 C n t tb A U H) (hq : ∀ a : Nat, a < H.size → ¬ A a → H1[a]? = H[a]?) : gS1 C n t tb A U H1 := ⟨h.1.kept hq, h.2.kept hq⟩
theorem gSt.moved {w : gWo} {u U : State} {H : Heap} (hvm : u.vm.Alike U.vm) (h : gSt w u H) : gSt w U H := ⟨h.1.moved hvm, h.2.1.moved hvm, h.2.2.moved hvm⟩
theorem gSt.kept {w : gWo} {U : State} {H H1 : Heap} (h : gSt w U H) (hq : ∀ a : Nat, a < H.size → ¬ gA w a → H1[a]? = H[a]?) : gSt w U H1 := ⟨h.1.kept hq, h.2.1.kept hq, h.2.2.kept hq⟩
theorem gW_len (w : gWo) (μ : gMem) : (gW w μ).length = w.2.2.1.1.1 := by simp [gW]
theorem gW_get {w : gWo} {μ : gMem} {c : Nat} (h : c < w.2.2.1.1.1) : (gW w μ)[c]? = some (w.2.2.2 c, gE w μ c) := by simp [gW, h]
theorem gW_D {w : gWo} {μ : gMem} (h : gInj w) : va_D (gA w) (gW w μ) := by
  have key : ∀ (i : Nat) (p : Nat × va_E), (gW w μ)[i]? = some p → i < w.2.2.1.1.1 ∧ p.1 = w.2.2.2 i := by
    intro i p hp
    have hi : i < (gW w μ).length := (List.getElem?_eq_some_iff.mp hp).1
    rw [gW_len] at hi
    rw [gW_get hi] at hp
    cases hp
    exact ⟨hi, rfl⟩
  refine ⟨fun i j p q hp hq e => ?_, fun k q hk => ?_⟩
  · obtain ⟨hi, ei⟩ := key i p hp
    obtain ⟨hj, ej⟩ := key j q hq
    exact h i j hi hj (by rw [← ei, ← ej, e])
  · obtain ⟨hi, ei⟩ := key k q hk
    exact ⟨k, hi, ei⟩
theorem gW_set {w : gWo} {μ μ' : gMem} {c : Nat} {e : va_E} (h : c < w.2.2.1.1.1) (he : gE w μ' c = e) (ho : ∀ c', c' ≠ c → gE w μ' c' = gE w μ c') : (gW w μ).set c (w.2.2.2 c, e) = gW w μ' := by
  apply List.ext_getElem?
  intro i
  rw [List.getElem?_set]
  by_cases hic : c = i
  · subst hic
    rw [if_pos rfl, if_pos (by rw [gW_len]; exact h), gW_get h, he]
  · rw [if_neg hic]
    by_cases hi : i < w.2.2.1.1.1
    · rw [gW_get hi, gW_get hi, ho i (fun q => hic q.symm)]
    · rw [List.getElem?_eq_none (by rw [gW_len]; omega), List.getElem?_eq_none (by rw [gW_len]; omega)]
theorem gE_wI {w : gWo} {μ : gMem} {c i : Nat} {x : Int32} (c' : Nat) (h : c' ≠ c) : gE w (gwI μ c i x) c' = gE w μ c' := by
  have h1 : (gwI μ c i x).1 c' = μ.1 c' := by funext j; simp [gwI, h]
  unfold gE
  split <;> first | rfl | (rw [h1]; try rfl)
theorem gE_wL {w : gWo} {μ : gMem} {c i : Nat} {x : Int64} (c' : Nat) (h : c' ≠ c) : gE w (gwL μ c i x) c' = gE w μ c' := by
  have h1 : (gwL μ c i x).2 c' = μ.2 c' := by funext j; simp [gwL, h]
  unfold gE
  split <;> first | rfl | (rw [h1]; try rfl)
theorem gE_cI {w : gWo} {μ : gMem} {a d n : Nat} (c' : Nat) (h : c' ≠ d) : gE w (gcI μ a d n) c' = gE w μ c' := by
  have h1 : (gcI μ a d n).1 c' = μ.1 c' := by funext j; simp [gcI, h]
  unfold gE
  split <;> first | rfl | (rw [h1]; try rfl)
theorem gE_cL {w : gWo} {μ : gMem} {a d n : Nat} (c' : Nat) (h : c' ≠ d) : gE w (gcL μ a d n) c' = gE w μ c' := by
  have h1 : (gcL μ a d n).2 c' = μ.2 c' := by funext j; simp [gcL, h]
  unfold gE
  split <;> first | rfl | (rw [h1]; try rfl)
theorem gLen_spec {L : gLay} {t c n : Nat} {i : Int32} (h : g_in i (gLen L t c) = true) : c < L.1.1 ∧ (L.1.2 c) = (t, gLen L t c) ∧ vp_in i (gLen L t c) := by
  have hv := g_in_vp.mp h
  have h0 : gLen L t c ≠ 0 := fun e => hv (Or.inr (by rw [e]; exact Nat.zero_le _))
  refine ⟨?_, ?_, hv⟩
  · unfold gLen at h0
    split at h0
    · rename_i hb; exact Nat.blt_eq.mp hb
    · exact absurd rfl h0
  · unfold gLen at h0 ⊢
    split at h0
    · rename_i hb
      show L.1.2 c = (t, match L.1.2 c with | (a, n) => match Nat.beq a t with | true => n | false => 0)
      rcases hk : L.1.2 c with ⟨a, n⟩
      rw [hk] at h0
      show (a, n) = (t, match Nat.beq a t with | true => n | false => 0)
      have h0 : (match Nat.beq a t with | true => n | false => 0) ≠ 0 := h0
      cases hq : Nat.beq a t with
      | false => rw [hq] at h0; exact absurd rfl h0
      | true => rw [Nat.eq_of_beq_eq_true hq]
    · exact absurd rfl h0
theorem gLen_pos {L : gLay} {t c : Nat} (h0 : 0 < gLen L t c) : c < L.1.1 ∧ (L.1.2 c) = (t, gLen L t c) := by
  have h : g_in 0 (gLen L t c) = true := by
    simp [g_in]; omega
  have := gLen_spec (n := 0) h
  exact ⟨this.1, this.2.1⟩
theorem g_isO_spec {L : gLay} {c ci : Nat} (h : g_isO L c ci = true) : c < L.1.1 ∧ L.1.2 c = (4, ci) := by
  simp only [g_isO, Bool.and_eq_true] at h
  refine ⟨Nat.blt_eq.mp h.1, ?_⟩
  rcases hk : L.1.2 c with ⟨a, n⟩
  rw [hk] at h
  have h1 : a = 4 := Nat.eq_of_beq_eq_true h.2.1
  have h2 : n = ci := Nat.eq_of_beq_eq_true h.2.2
  rw [h1, h2]
def gFs (w : gWo) (μ : gMem) (c k : Nat) : List Value := (List.range (g_nf k)).map (fun f => match w.2.2.1.2 c f with
    | some t => .ref (w.2.2.2 t)
    | none => .int (μ.1 c f))
theorem gE_obj {w : gWo} {μ : gMem} {c k : Nat} (h : w.2.2.1.1.2 c = (4, k)) : gE w μ c = .inr (k, gFs w μ c k) := by unfold gE; rw [h]; rfl
theorem gE_int {w : gWo} {μ : gMem} {c n : Nat} (h : w.2.2.1.1.2 c = (0, n)) : gE w μ c = .inl (w.2.1.1, n, .inl (μ.1 c)) := by unfold gE; rw [h]; rfl
theorem gE_lng {w : gWo} {μ : gMem} {c n : Nat} (h : w.2.2.1.1.2 c = (1, n)) : gE w μ c = .inl (w.2.1.2.1, n, .inr (.inl (μ.2 c))) := by unfold gE; rw [h]; rfl
theorem gE_bol {w : gWo} {μ : gMem} {c n : Nat} (h : w.2.2.1.1.2 c = (2, n)) : gE w μ c = .inl (w.2.1.2.2.1, n, .inl (μ.1 c)) := by unfold gE; rw [h]; rfl
theorem gE_row {w : gWo} {μ : gMem} {c n : Nat} (h : w.2.2.1.1.2 c = (3, n)) : gE w μ c = .inl (w.2.1.2.2.2, n, .inr (.inr (.inr (.inr (fun i => if i < n then some (w.2.2.2 (c + 1 + i)) else none))))) := by unfold gE; rw [h]; rfl
/-- locals -/
def gAg (ad : Nat → Nat) (nL : Nat) (lv : gL) (ls : Array Slot) : Prop := lv.length = nL ∧ ls.size = nL ∧ lv_wf ls ∧ ∀ (i : Nat) (v : Value), lv[i]? = some (some v) → ls[i]? = some (Slot.val (gv ad v))
def gPr (ad : Nat → Nat) (lv : gL) : List (Nat × Value) := (List.range lv.length).filterMap (fun i => match lv[i]? with
  | some (some v) => some (i, gv ad v)
  | _ => none)
theorem gPr_mem {ad : Nat → Nat} {lv : gL} {i : Nat} {v : Value} (h : lv[i]? = some (some v)) : (i, gv ad v) ∈ gPr ad lv := by
  refine List.mem_filterMap.mpr ⟨i, List.mem_range.mpr (List.getElem?_eq_some_iff.mp h).1, ?_⟩
  rw [h]
theorem gPr_of {ad : Nat → Nat} {lv : gL} {q : Nat × Value} (h : q ∈ gPr ad lv) : ∃ v, lv[q.1]? = some (some v) ∧ q.2 = gv ad v := by
  obtain ⟨i, -, hi⟩ := List.mem_filterMap.mp h
  split at hi
  · rename_i v hv
    cases hi
    exact ⟨v, hv, rfl⟩
  · cases hi
theorem gAg.has {ad nL lv ls} (h : gAg ad nL lv ls) : lv_has ls nL (gPr ad lv) := by
  refine ⟨h.2.1, h.2.2.1, fun q hq => ?_⟩
  obtain ⟨v, h1, h2⟩ := gPr_of hq
  rw [h2]
  exact h.2.2.2 _ _ h1
theorem g_sok_spec {lv : gL} {i : Nat} (h : g_sok lv i = true) : i < lv.length ∧ ∀ j v, j + 1 = i → lv[j]? = some (some v) → v.category = 1 := by
  simp only [g_sok, Bool.and_eq_true] at h
  refine ⟨Nat.blt_eq.mp h.1, fun j v hj hv => ?_⟩
  subst hj
  have h2 := h.2
  simp only [hv] at h2
  exact Nat.eq_of_beq_eq_true h2
theorem gAg.st1 {ad nL lv ls ls'} {i : Nat} {v : Value} (h : gAg ad nL lv ls) (hs : g_sok lv i = true) (h' : lv_has ls' nL ((i, gv ad v) :: (gPr ad lv).filter (fun q => !(q.1 == i) && !(q.1 + 1 == i && q.2.category == 2)))) : gAg ad nL (lv.set i (some v)) ls' := by
  obtain ⟨s1, s2⟩ := g_sok_spec hs
  refine ⟨by rw [List.length_set]; exact h.1, h'.1, h'.2.1, fun j u hj => ?_⟩
  rw [List.getElem?_set] at hj
  by_cases e : i = j
  · subst e
    rw [if_pos rfl, if_pos s1] at hj
    cases hj
    exact h'.2.2 (i, gv ad v) List.mem_cons_self
  · rw [if_neg e] at hj
    refine h'.2.2 (j, gv ad u) (List.mem_cons_of_mem _ (List.mem_filter.mpr ⟨gPr_mem hj, ?_⟩))
    simp only [Bool.and_eq_true, Bool.not_eq_true', beq_eq_false_iff_ne, ne_eq, Bool.and_eq_false_iff, gv_cat]
    refine ⟨fun q => e q.symm, ?_⟩
    by_cases e2 : j + 1 = i
    · right
      rw [s2 j u e2 hj]
      decide
    · exact Or.inl e2
theorem gAg.st2 {ad nL lv ls ls'} {i : Nat} {v : Value} (h : gAg ad nL lv ls) (hs : g_sok lv i = true) (hi : i + 1 < lv.length) (h' : lv_has ls' nL ((i, gv ad v) :: (gPr ad lv).filter (fun q => !(q.1 == i) && (!(q.1 == i + 1) && !(q.1 + 1 == i && q.2.category == 2))))) : gAg ad nL ((lv.set i (some v)).set (i + 1) none) ls' := by
  obtain ⟨s1, s2⟩ := g_sok_spec hs
  refine ⟨by rw [List.length_set, List.length_set]; exact h.1, h'.1, h'.2.1, fun j u hj => ?_⟩
  rw [List.getElem?_set, List.getElem?_set, List.length_set] at hj
  by_cases e1 : i + 1 = j
  · rw [if_pos e1, if_pos hi] at hj
    cases hj
  · rw [if_neg e1] at hj
    by_cases e : i = j
    · subst e
      rw [if_pos rfl, if_pos s1] at hj
      cases hj
      exact h'.2.2 (i, gv ad v) List.mem_cons_self
    · rw [if_neg e] at hj
      refine h'.2.2 (j, gv ad u) (List.mem_cons_of_mem _ (List.mem_filter.mpr ⟨gPr_mem hj, ?_⟩))
      simp only [Bool.and_eq_true, Bool.not_eq_true', beq_eq_false_iff_ne, ne_eq, Bool.and_eq_false_iff, gv_cat]
      refine ⟨fun q => e q.symm, fun q => e1 q.symm, ?_⟩
      by_cases e2 : j + 1 = i
      · right
        rw [s2 j u e2 hj]
        decide
      · exact Or.inl e2
/-- a method: its bytes, its locals, its class, what it returns, how high it stands above those that call nobody -/
abbrev gMi : Type := ByteArray × Nat × String × Option FieldType × Nat
def gRm (h : Nat) : Room := { frames := h, cells := 0, slots := 0, locals := 40 * h }
def gC (w : gWo) (M : gMi) (p : Program) (R : Room) (s : State) (m : MethodId) (args : Array Value) (meth : Method) (c : Code) : Prop :=
  p.tables.exec = Jvm.exec ∧ c.code = M.1 ∧ c.maxLocals = M.2.1 ∧ s.vm.findClass M.2.2.1 = some m.cls ∧ (∀ x ∈ gtb, x.before args s = true) ∧ meth.sig.returnType = M.2.2.2.1 ∧ meth.locks = false ∧ R = gRm M.2.2.2.2 ∧ va_K w.1 gcl (gty w) s ∧ gInj w ∧ gSt w s s.heap
def gQ (w : gWo) (r : gR) : Array Value → State → Outcome → State → Prop := fun _ st oc t => oc = .returned (r.1.map (gv w.2.2.2)) ∧ va_P w.1 gcl (gW w r.2) t.heap ∧ va_F (gA w) st t
def gG (w : gWo) (M : gMi) (p : Program) (l : Launch) (e : Env) (R : Room) (s : State) (m : MethodId) (args : Array Value) (below : List Frame) (meth : Method) (c : Code) (r : gR) (pc : Nat) (lv : gL) (st : List Value) (μ : gMem) : Prop :=
  ∀ (H : Heap) (locs : List Loc) (ls : Array Slot), va_P w.1 gcl (gW w μ) H → va_S (gA w) s.heap H locs → gAg w.2.2.2 M.2.1 lv ls → W p l e R s m args below meth c H locs 0 0 (MQ below (gQ w r) args s 0 0 (gA w)) (F0 m pc ls (st.map (gv w.2.2.2)))
/-- an instruction of the abstract machine is what the machine does there -/
def gOk (w : gWo) (l : Launch) (M : gMi) (pc : Nat) (f : gI) : Prop := ∀ (p : Program) (e : Env) (R : Room) (s : State) (m : MethodId) (args : Array Value) (below : List Frame) (meth : Method) (c : Code), gC w M p R s m args meth c →
  ∀ (r : gR) (lv : gL) (st : List Value) (μ : gMem) (k : gK), f pc lv st μ k = some r → (∀ pc' lv' st' μ', k pc' lv' st' μ' = some r → gG w M p l e R s m args below meth c r pc' lv' st' μ') → gG w M p l e R s m args below meth c r pc lv st μ
/-- a method's contract: from the memory μ with these arguments it returns r.1, and leaves the memory r.2 -/
def gMt (w : gWo) (l : Launch) (y : MethodName) (M : gMi) (as : List Value) (μ : gMem) (r : gR) : Prop :=
  Met l y (.code y M.1 M.2.1 M.2.2.2.1 :: gtb) (gRm M.2.2.2.2) (va_Pc (as.map (gv w.2.2.2)) (fun U => va_P w.1 gcl (gW w μ) U.heap ∧ va_K w.1 gcl (gty w) U ∧ gInj w ∧ gSt w U U.heap)) (gQ w r) 0 0 (gA w)
section OK1
variable {w : gWo} {l : Launch} {M : gMi} {pc : Nat}
theorem ok_iconst {n : Int} {v : Int32} (hd : decode M.1 pc = .ok (.iconst n, 1)) (hv : Int32.ofInt n = v) : gOk w l M pc (i_psh 1 (.int v)) := by
  intro p e R s m args below meth c hC r lv st μ k hf hk H locs ls hP hS hl
  exact lv_iconst hC.1 hC.2.1 hd hv (hk _ _ _ _ hf H locs ls hP hS hl)
theorem ok_bipush {n : Int} {v : Int32} (hd : decode M.1 pc = .ok (.bipush n, 2)) (hv : (Int8.ofInt n).toInt32 = v) : gOk w l M pc (i_psh 2 (.int v)) := by
  intro p e R s m args below meth c hC r lv st μ k hf hk H locs ls hP hS hl
  exact lv_bipush hC.1 hC.2.1 hd hv (hk _ _ _ _ hf H locs ls hP hS hl)
theorem ok_sipush {n : Int} {v : Int32} (hd : decode M.1 pc = .ok (.sipush n, 3)) (hv : (Int16.ofInt n).toInt32 = v) : gOk w l M pc (i_psh 3 (.int v)) := by
  intro p e R s m args below meth c hC r lv st μ k hf hk H locs ls hP hS hl
  exact lv_sipush hC.1 hC.2.1 hd hv (hk _ _ _ _ hf H locs ls hP hS hl)
theorem ok_lconst {n : Fin 2} {v : Int64} (hd : decode M.1 pc = .ok (.lconst n, 1)) (hv : Int64.ofNat (n : Nat) = v) : gOk w l M pc (i_psh 1 (.long v)) := by
  intro p e R s m args below meth c hC r lv st μ k hf hk H locs ls hP hS hl
  exact lv_lconst hC.1 hC.2.1 hd hv (hk _ _ _ _ hf H locs ls hP hS hl)
theorem ok_ldc {index : Nat} {v : Int32} (hd : decode M.1 pc = .ok (.ldc index, 2)) (hw : Cond.constant M.2.2.1 index v ∈ gtb) : gOk w l M pc (i_psh 2 (.int v)) := by
  intro p e R s m args below meth c hC r lv st μ k hf hk H locs ls hP hS hl
  exact lv_ldc hC.1 hC.2.1 hC.2.2.2.1 (hC.2.2.2.2.1 _ hw) hd (hk _ _ _ _ hf H locs ls hP hS hl)
theorem ok_ldcw {index : Nat} {v : Int32} (hd : decode M.1 pc = .ok (.ldc_w index, 3)) (hw : Cond.constant M.2.2.1 index v ∈ gtb) : gOk w l M pc (i_psh 3 (.int v)) := by
  intro p e R s m args below meth c hC r lv st μ k hf hk H locs ls hP hS hl
  exact lv_ldcw hC.1 hC.2.1 hC.2.2.2.1 (hC.2.2.2.2.1 _ hw) hd (hk _ _ _ _ hf H locs ls hP hS hl)
theorem ok_iload_n {q : Fin 4} {i : Nat} (hd : decode M.1 pc = .ok (.iload_n q, 1)) (hi : (q : Nat) = i) : gOk w l M pc (i_ild 1 i) := by
  intro p e R s m args below meth c hC r lv st μ k hf hk H locs ls hP hS hl
  unfold i_ild at hf
  split at hf
  · rename_i x hx
    exact lv_iload_n hC.1 hC.2.1 hd hi (hl.2.2.2 _ _ hx) (hk _ _ _ _ hf H locs ls hP hS hl)
  · cases hf
theorem ok_iload {i : Nat} (hd : decode M.1 pc = .ok (.iload i, 2)) : gOk w l M pc (i_ild 2 i) := by
  intro p e R s m args below meth c hC r lv st μ k hf hk H locs ls hP hS hl
  unfold i_ild at hf
  split at hf
  · rename_i x hx
    exact lv_iload hC.1 hC.2.1 hd (hl.2.2.2 _ _ hx) (hk _ _ _ _ hf H locs ls hP hS hl)
  · cases hf
theorem ok_lload_n {q : Fin 4} {i : Nat} (hd : decode M.1 pc = .ok (.lload_n q, 1)) (hi : (q : Nat) = i) : gOk w l M pc (i_lld 1 i) := by
  intro p e R s m args below meth c hC r lv st μ k hf hk H locs ls hP hS hl
  unfold i_lld at hf
  split at hf
  · rename_i x hx
    exact lv_lload_n hC.1 hC.2.1 hd hi (hl.2.2.2 _ _ hx) (hk _ _ _ _ hf H locs ls hP hS hl)
  · cases hf
theorem ok_lload {i : Nat} (hd : decode M.1 pc = .ok (.lload i, 2)) : gOk w l M pc (i_lld 2 i) := by
  intro p e R s m args below meth c hC r lv st μ k hf hk H locs ls hP hS hl
  unfold i_lld at hf
  split at hf
  · rename_i x hx
    exact lv_lload hC.1 hC.2.1 hd (hl.2.2.2 _ _ hx) (hk _ _ _ _ hf H locs ls hP hS hl)
  · cases hf
theorem ok_aload_n {q : Fin 4} {i : Nat} (hd : decode M.1 pc = .ok (.aload_n q, 1)) (hi : (q : Nat) = i) : gOk w l M pc (i_ald 1 i) := by
  intro p e R s m args below meth c hC r lv st μ k hf hk H locs ls hP hS hl
  unfold i_ald at hf
  split at hf
  · rename_i x hx
    exact lv_aload_n hC.1 hC.2.1 hd hi (hl.2.2.2 _ _ hx) (hk _ _ _ _ hf H locs ls hP hS hl)
  · cases hf
theorem ok_aload {i : Nat} (hd : decode M.1 pc = .ok (.aload i, 2)) : gOk w l M pc (i_ald 2 i) := by
  intro p e R s m args below meth c hC r lv st μ k hf hk H locs ls hP hS hl
  unfold i_ald at hf
  split at hf
  · rename_i x hx
    exact lv_aload hC.1 hC.2.1 hd (hl.2.2.2 _ _ hx) (hk _ _ _ _ hf H locs ls hP hS hl)
  · cases hf
theorem ok_istore_n {q : Fin 4} {i : Nat} (hd : decode M.1 pc = .ok (.istore_n q, 1)) (hi : (q : Nat) = i) : gOk w l M pc (i_ist 1 i) := by
  intro p e R s m args below meth c hC r lv st μ k hf hk H locs ls hP hS hl
  unfold i_ist at hf
  split at hf
  · split at hf
    · rename_i hs
      exact lv_istore_n hC.1 hC.2.1 hd hi hl.has (by rw [← hl.1]; exact (g_sok_spec hs).1) rfl (fun ls' h' => hk _ _ _ _ hf H locs ls' hP hS (hl.st1 (v := .int _) hs h'))
    · cases hf
  · cases hf
theorem ok_istore {i : Nat} (hd : decode M.1 pc = .ok (.istore i, 2)) : gOk w l M pc (i_ist 2 i) := by
  intro p e R s m args below meth c hC r lv st μ k hf hk H locs ls hP hS hl
  unfold i_ist at hf
  split at hf
  · split at hf
    · rename_i hs
      exact lv_istore hC.1 hC.2.1 hd hl.has (by rw [← hl.1]; exact (g_sok_spec hs).1) rfl (fun ls' h' => hk _ _ _ _ hf H locs ls' hP hS (hl.st1 (v := .int _) hs h'))
    · cases hf
  · cases hf
theorem ok_astore_n {q : Fin 4} {i : Nat} (hd : decode M.1 pc = .ok (.astore_n q, 1)) (hi : (q : Nat) = i) : gOk w l M pc (i_ast 1 i) := by
  intro p e R s m args below meth c hC r lv st μ k hf hk H locs ls hP hS hl
  unfold i_ast at hf
  split at hf
  · split at hf
    · rename_i hs
      exact lv_astore_n hC.1 hC.2.1 hd hi hl.has (by rw [← hl.1]; exact (g_sok_spec hs).1) rfl (fun ls' h' => hk _ _ _ _ hf H locs ls' hP hS (hl.st1 (v := .ref _) hs h'))
    · cases hf
  · cases hf
theorem ok_astore {i : Nat} (hd : decode M.1 pc = .ok (.astore i, 2)) : gOk w l M pc (i_ast 2 i) := by
  intro p e R s m args below meth c hC r lv st μ k hf hk H locs ls hP hS hl
  unfold i_ast at hf
  split at hf
  · split at hf
    · rename_i hs
      exact lv_astore hC.1 hC.2.1 hd hl.has (by rw [← hl.1]; exact (g_sok_spec hs).1) rfl (fun ls' h' => hk _ _ _ _ hf H locs ls' hP hS (hl.st1 (v := .ref _) hs h'))
    · cases hf
  · cases hf
theorem ok_lstore_n {q : Fin 4} {i : Nat} (hd : decode M.1 pc = .ok (.lstore_n q, 1)) (hi : (q : Nat) = i) : gOk w l M pc (i_lst 1 i) := by
  intro p e R s m args below meth c hC r lv st μ k hf hk H locs ls hP hS hl
  unfold i_lst at hf
  split at hf
  · split at hf
    · rename_i hs
      obtain ⟨hs, hs2⟩ := (Bool.and_eq_true _ _).mp hs
      exact lv_lstore_n hC.1 hC.2.1 hd hi hl.has (by rw [← hl.1]; exact Nat.blt_eq.mp hs2) rfl (fun ls' h' => hk _ _ _ _ hf H locs ls' hP hS (hl.st2 (v := .long _) hs (Nat.blt_eq.mp hs2) h'))
    · cases hf
  · cases hf
theorem ok_lstore {i : Nat} (hd : decode M.1 pc = .ok (.lstore i, 2)) : gOk w l M pc (i_lst 2 i) := by
  intro p e R s m args below meth c hC r lv st μ k hf hk H locs ls hP hS hl
  unfold i_lst at hf
  split at hf
  · split at hf
    · rename_i hs
      obtain ⟨hs, hs2⟩ := (Bool.and_eq_true _ _).mp hs
      exact lv_lstore hC.1 hC.2.1 hd hl.has (by rw [← hl.1]; exact Nat.blt_eq.mp hs2) rfl (fun ls' h' => hk _ _ _ _ hf H locs ls' hP hS (hl.st2 (v := .long _) hs (Nat.blt_eq.mp hs2) h'))
    · cases hf
  · cases hf
theorem ok_iinc {i : Nat} {n : Int} {d : Int32} (hd : decode M.1 pc = .ok (.iinc i n, 3)) (hn : Int32.ofInt n = d) : gOk w l M pc (i_inc i d) := by
  intro p e R s m args below meth c hC r lv st μ k hf hk H locs ls hP hS hl
  unfold i_inc at hf
  split at hf
  · rename_i x hx
    split at hf
    · rename_i hs
      obtain ⟨q, hq, hqe⟩ := List.mem_iff_getElem?.mp (gPr_mem (ad := w.2.2.2) hx) |> fun ⟨q, hq⟩ => (⟨q, hq, rfl⟩ : ∃ q, (gPr w.2.2.2 lv)[q]? = some (i, gv w.2.2.2 (.int x)) ∧ q = q)
      exact lv_iinc hC.1 hC.2.1 hd hl.has hq (by rw [hn]) (by rw [← hl.1]; exact (g_sok_spec hs).1) rfl (fun ls' h' => hk _ _ _ _ hf H locs ls' hP hS (hl.st1 (v := .int _) hs h'))
    · cases hf
  · cases hf
end OK1
