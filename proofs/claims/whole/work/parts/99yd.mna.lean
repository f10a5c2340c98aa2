/-! new int[N][60]: the outer row, then its rows, each laid into it at once -/
section MN1
/-- the outer row at the address h, k of its N places filled -/
def mnO (cA : ClassId) (N h k : Nat) : Cell := vp_cell cA (N, .inr (.inr (.inr (.inr (fun i => if i < k then some (h + 1 + i) else none)))))
def mnI (cI : ClassId) : Cell := vp_cell cI (60, .inl (fun _ => 0))
def mnS (S : State) (cA cI : ClassId) (N : Nat) : Nat → State
  | 0 => S.pushCell (mnO cA N S.heap.size 0)
  | k + 1 => ((mnS S cA cI N k).pushCell (mnI cI)).setCell S.heap.size (mnO cA N S.heap.size (k + 1))
theorem mnI_eq (cI : ClassId) : ({ cls := cI, slots := Array.replicate 60 (defaultValue .int), vm := .none } : Cell) = mnI cI := by
  rw [arrV_new]; rfl
theorem mnO_0 {cA : ClassId} {N h : Nat} : ({ cls := cA, slots := Array.replicate N .null, vm := .none } : Cell) = mnO cA N h 0 := by
  rw [arrV_new]
  unfold mnO
  rw [vp_cell_q]
  refine congrArg (arrV cA N) (funext fun j => ?_)
  rw [if_neg (Nat.not_lt_zero j)]
  rfl
theorem mnO_s {cA : ClassId} {N h k : Nat} : (mnO cA N h k).setSlot k (.ref (h + 1 + k)) = mnO cA N h (k + 1) := by
  unfold mnO
  rw [vp_cell_q, vp_cell_q, arrV_store]
  refine congrArg (arrV cA N) (funext fun j => ?_)
  by_cases q : j = k
  · subst q; simp [updV, va_rf]
  · by_cases q2 : j < k
    · simp [updV, q, q2, Nat.lt_succ_of_lt q2]
    · simp [updV, q, q2, show ¬ j < k + 1 by omega]
theorem mnO_z {cA : ClassId} {N h k : Nat} : (mnO cA N h k).slots.size = N := arrV_size _ _ _
theorem mnI_z {cI : ClassId} : (mnI cI).slots.size = 60 := arrV_size _ _ _
theorem mn_f (S : State) (cA cI : ClassId) (N : Nat) : ∀ k, (mnS S cA cI N k).heap.size = S.heap.size + 1 + k ∧ (∀ q, q < S.heap.size → (mnS S cA cI N k).heap[q]? = S.heap[q]?) ∧ (mnS S cA cI N k).heap[S.heap.size]? = some (mnO cA N S.heap.size k) ∧ (∀ j, j < k → (mnS S cA cI N k).heap[S.heap.size + 1 + j]? = some (mnI cI)) ∧ (mnS S cA cI N k).vm = S.vm ∧ (mnS S cA cI N k).slotsUsed = S.slotsUsed + N + k * 60
  | 0 => by
    have e : (mnS S cA cI N 0).heap = S.heap.push (mnO cA N S.heap.size 0) := rfl
    refine ⟨by rw [e, Array.size_push], fun q hq => by rw [e, Array.getElem?_push, if_neg (Nat.ne_of_lt hq)], by rw [e, Array.getElem?_push, if_pos rfl], fun j hj => absurd hj (Nat.not_lt_zero j), rfl, ?_⟩
    show S.slotsUsed + (mnO cA N S.heap.size 0).slots.size = _
    rw [mnO_z, Nat.zero_mul, Nat.add_zero]
  | k + 1 => by
    obtain ⟨a1, a2, a3, a4, a5, a6⟩ := mn_f S cA cI N k
    have e : (mnS S cA cI N (k + 1)).heap = ((mnS S cA cI N k).heap.push (mnI cI)).setIfInBounds S.heap.size (mnO cA N S.heap.size (k + 1)) := rfl
    refine ⟨by rw [e, Array.size_setIfInBounds, Array.size_push, a1]; omega, fun q hq => ?_, ?_, fun j hj => ?_, a5, ?_⟩
    · rw [e, Array.getElem?_setIfInBounds, if_neg (by omega), Array.getElem?_push, if_neg (by omega)]; exact a2 q hq
    · rw [e, Array.getElem?_setIfInBounds, if_pos rfl, if_pos (by rw [Array.size_push]; omega)]
    · rw [e, Array.getElem?_setIfInBounds, if_neg (by omega), Array.getElem?_push]
      by_cases q : j = k
      · rw [if_pos (by omega)]
      · rw [if_neg (by omega)]; exact a4 j (by omega)
    · show (mnS S cA cI N k).slotsUsed + (mnI cI).slots.size = _
      rw [a6, mnI_z, Nat.succ_mul]; omega
theorem mn_top (S : State) (f : JFrame) (cA cI : ClassId) (N : Nat) : ∀ k, mnS (S.setTop f) cA cI N k = (mnS S cA cI N k).setTop f
  | 0 => rfl
  | k + 1 => by simp only [mnS, mn_top S f cA cI N k, State.heap_setTop, State.pushCell_setTop, State.setCell_setTop]
theorem mn_X {p : Program} {l : Launch} {e : Env} {R : Room} {s : State} {m : MethodId} {args : Array Value} {below : List Frame} {meth : Method} {c : Code} {T : State} {locs : List Loc} {cells slots : Nat} (X : Stand p l e R s m args below meth c T locs cells slots) (hz : s.heap.size ≤ T.heap.size) (cA cI : ClassId) (N : Nat) : ∀ k, Stand p l e R s m args below meth c (mnS T cA cI N k) locs (cells + 1 + k) (slots + N + k * 60)
  | 0 => by
    have h := X.pushed (mnO cA N T.heap.size 0)
    rw [mnO_z] at h
    rw [Nat.zero_mul]
    exact h
  | k + 1 => by
    obtain ⟨a1, a2, a3, a4, a5, a6⟩ := mn_f T cA cI N k
    have h0 : ((mnS T cA cI N k).pushCell (mnI cI)).heap[T.heap.size]? = some (mnO cA N T.heap.size k) := by
      show ((mnS T cA cI N k).heap.push (mnI cI))[T.heap.size]? = _
      rw [Array.getElem?_push, if_neg (by omega)]; exact a3
    have h := ((mn_X X hz cA cI N k).pushed (mnI cI)).stored h0 k (.ref (T.heap.size + 1 + k))
    rw [mnO_s, mnI_z] at h
    have h := Stand.forget h (fun y hy => by rw [List.mem_singleton] at hy; rw [hy]; exact hz)
    rw [show slots + N + (k + 1) * 60 = slots + N + k * 60 + 60 by rw [Nat.succ_mul]; omega]
    exact h
end MN1
section MN2
variable {E : CtlPost} {e : Env} {d : Bool} {acts : List Action} {S : State}
theorem mn_new {c comp : ClassId} {k : Class} {ty : FieldType} {n : Nat} {v : Value} {Q : Addr → Pre} (hk : S.vm.classes[c]? = some k) (hkd : k.kind = .array comp ty) (hn : n ≤ e.platform.arrayLengthLimit) (hb : n * componentBytes ty ≤ e.platform.maxHeapBytes) (hf : fits ty v = true) (hd : v.isDefault = true) (h1 : S.heap.size < e.platform.maxCells) (h2 : S.slotsUsed + n ≤ e.platform.maxSlots) (hq : Q S.heap.size d acts (S.pushCell { cls := c, slots := Array.replicate n v, vm := .none })) : wp (Jvm.newArray c n v) Q E e d acts S := by
  have ha : allocActs (Array.replicate n v) S.heap.size acts = acts := by
    unfold allocActs
    rw [if_pos]
    rw [Array.all_replicate]
    split <;> simp [hd]
  have hfs : ∀ i x, (Array.replicate n v)[i]? = some x → S.fitsSlot c .none i x = true := fun i x hx => by
    rw [Array.getElem?_replicate] at hx
    split at hx
    · cases hx; simp [State.fitsSlot, State.slotType?, hk, hkd, hf]
    · cases hx
  simp only [Jvm.newArray, Jvm.arrayFits, wp_bind', W.ask, W.ite, Nat.not_lt.mpr hn, gt_iff_lt, if_false, wp_pure', W.theClass, hk, hkd, Nat.not_lt.mpr hb, W.alloc, W.stop, Option.some.injEq, exists_eq_left', Array.size_replicate, ha]
  rw [if_neg (by omega)]
  exact ⟨h1, h2, hfs, hq⟩
theorem mn_row {cI cc : ClassId} {kI : Class} {Q : Addr → Pre} (hk : S.vm.classes[cI]? = some kI) (hkd : kI.kind = .array cc .int) (hn : 60 ≤ e.platform.arrayLengthLimit) (hb : 60 * componentBytes .int ≤ e.platform.maxHeapBytes) (h1 : S.heap.size < e.platform.maxCells) (h2 : S.slotsUsed + 60 ≤ e.platform.maxSlots) (hq : Q S.heap.size d acts (S.pushCell (mnI cI))) : wp (multianewarray.make cI [60]) Q E e d acts S := by
  rw [multianewarray.make]
  simp only [wp_bind', W.ite, show ¬ (60 : Int32) < 0 by decide, if_false, wp_pure', W.theClass, hk, hkd, Option.some.injEq, exists_eq_left']
  exact mn_new hk hkd hn hb rfl rfl h1 h2 (by rw [show (60 : Int32).toNatClampNeg = 60 from rfl, mnI_eq]; exact hq)
theorem mn_all {cA cI cc : ClassId} {kA kI : Class} {n : Int32} {N : Nat} {Q : Addr → Pre} (hkA : S.vm.classes[cA]? = some kA) (hkdA : kA.kind = .array cI (.array .int)) (hkI : S.vm.classes[cI]? = some kI) (hkdI : kI.kind = .array cc .int) (hn : ¬ n < 0) (hN : n.toNatClampNeg = N) (hl : N ≤ e.platform.arrayLengthLimit) (hl2 : 60 ≤ e.platform.arrayLengthLimit) (hb : N * componentBytes (.array .int) ≤ e.platform.maxHeapBytes) (hb2 : 60 * componentBytes .int ≤ e.platform.maxHeapBytes) (h1 : S.heap.size + 1 + N ≤ e.platform.maxCells) (h2 : S.slotsUsed + N + N * 60 ≤ e.platform.maxSlots) (hq : ∀ d' acts', Q S.heap.size d' acts' (mnS S cA cI N N)) : wp (multianewarray.make cA [n, 60]) Q E e d acts S := by
  subst hN
  rw [multianewarray.make]
  simp only [wp_bind', W.ite, hn, if_false, wp_pure', W.theClass, hkA, hkdA, Option.some.injEq, exists_eq_left']
  refine mn_new hkA hkdA hl hb rfl rfl (by omega) (by omega) ?_
  simp only [show ([(60 : Int32)].find? (· < 0)) = none from rfl]
  rw [ite_self, wp_bind', Std.Legacy.Range.forIn_eq_forIn_range', show ([:n.toNatClampNeg] : Std.Legacy.Range).size = n.toNatClampNeg by simp [Std.Legacy.Range.size], mnO_0 (h := S.heap.size)]
  refine wp_forIn_inv (fun rest s' => ∃ i, i + rest.length = n.toNatClampNeg ∧ rest = List.range' i rest.length 1 ∧ s' = mnS S cA cI n.toNatClampNeg i) _ _ ⟨0, by rw [List.length_range']; omega, by rw [List.length_range'], rfl⟩ ?_ ?_
  · rintro x rest s' d' acts' Q' ⟨i, hi, hr, rfl⟩ next
    rw [List.length_cons] at hi hr
    rw [List.range'_succ] at hr
    obtain ⟨rfl, hr⟩ := List.cons.inj hr
    obtain ⟨a1, a2, a3, a4, a5, a6⟩ := mn_f S cA cI n.toNatClampNeg x
    simp only [wp_bind']
    refine mn_row (by rw [a5]; exact hkI) hkdI hl2 hb2 (by rw [a1]; omega) (by rw [a6]; omega) ?_
    simp only [wp_bind', W.writeLoc, wp_pure']
    refine ⟨mnO cA n.toNatClampNeg S.heap.size x, ?_, by unfold mnO; rw [vp_cell_q]; simp [arrV], by rw [mnO_z]; omega, ?_, next _ _ _ ⟨x + 1, by omega, hr, ?_⟩⟩
    · show ((mnS S cA cI n.toNatClampNeg x).heap.push (mnI cI))[S.heap.size]? = _
      rw [Array.getElem?_push, if_neg (by omega)]; exact a3
    · have e1 : (mnO cA n.toNatClampNeg S.heap.size x).cls = cA := rfl
      have e2 : (mnO cA n.toNatClampNeg S.heap.size x).vm = .none := rfl
      rw [e1, e2]
      have hk : ((mnS S cA cI n.toNatClampNeg x).pushCell (mnI cI)).vm.classes[cA]? = some kA := by
        show (mnS S cA cI n.toNatClampNeg x).vm.classes[cA]? = some kA
        rw [a5]; exact hkA
      simp [State.fitsSlot, State.slotType?, a5, hkA, hkdA, fits]
    · rw [a1, mnO_s]; rfl
  · rintro s' d' acts' ⟨i, hi, -, rfl⟩
    simp only [wp_pure']
    rw [show i = n.toNatClampNeg by simpa using hi]
    exact hq _ _
end MN2
section MNA
variable {p : Program} {l : Launch} {e : Env} {R : Room} {s : State} {m : MethodId} {args : Array Value} {below : List Frame} {meth : Method} {c : Code} {H H0 : Heap} {locs : List Loc} {cells slots : Nat} {Q : State → Prop}
variable {cc : ByteArray} {pc : Nat} {ls : Array Slot} {rest : List Value} {D : va_G} {b : Nat} {es : List va_E}
/-- new int[N][60] -/
theorem gmna {τ : ClassId × ClassId × ClassId × ClassId} {own : String} {index n N : Nat} {k1 : Int32} (hexec : p.tables.exec = Jvm.exec) (hb : c.code = cc) (hts : ∀ w ∈ gtb, w.before args s = true) (hown : s.vm.findClass own = some m.cls) (hK : va_K D gcl [(τ.1, .int), (τ.2.1, .long), (τ.2.2.1, .boolean), (τ.2.2.2, .array .int)] s) (hX : gX τ s) (hG : gc D b es H) (hS : va_S (fun q => b ≤ q) H0 H locs) (hclink : Cond.classLink own index "[[I" ∈ gtb) (hk : ¬ k1 < 0) (hN : k1.toNatClampNeg = N) (hN2 : N ≤ 60) (hn : es.length = n) (hcells : cells + (1 + N) ≤ R.cells) (hslots : slots + (N + N * 60) ≤ R.slots) (hdg : decode cc pc = .ok (.multianewarray index 2, 4))
    (kk : ∀ H1 : Heap, gc D b (es ++ (.inl (τ.2.2.2, N, .inr (.inr (.inr (.inr (fun i => if i < N then some (b + n + 1 + i) else none))))) :: List.replicate N (.inl (τ.1, 60, .inl (fun _ => 0))))) H1 → va_S (fun q => b ≤ q) H0 H1 locs → W p l e R s m args below meth c H1 locs (cells + (1 + N)) (slots + (N + N * 60)) Q (F0 m (pc + 4) ls (.ref (b + n) :: rest))) : W p l e R s m args below meth c H locs cells slots Q (F0 m pc ls (.int 60 :: .int k1 :: rest)) := by
  subst hn
  intro T hT X
  subst hT
  have hpl : e.platform.magicAccessors = ({} : Platform).magicAccessors := by rw [X.admits.platform]
  obtain ⟨kA, hkA, hkdA⟩ := hX.1
  obtain ⟨-, kI, hkI, cI, hkdI⟩ := (hK.2 0 _ rfl).1 0 (fun _ => .null)
  have hfA : s.vm.findClass "[[I" = some τ.2.2.2 := (hK.2 3 _ rfl).2
  obtain ⟨c0, hfc0, hcl⟩ := Cond.classLink_spec hown (hts _ hclink) e.platform hpl
  cases hfA.symm.trans hfc0
  obtain ⟨hg₁, hwarm₁, -⟩ := State.classEntry (e := e) X.warmed hcl
  generalize T.vm.noted m.cls index (.cls τ.2.2.2) = vm₁ at hg₁ hwarm₁
  have hal : s.vm.Alike vm₁ := hwarm₁.alike
  obtain ⟨kA₁, hkA₁, heA⟩ := hal.2.2 _ _ hkA
  obtain ⟨kI₁, hkI₁, heI⟩ := hal.2.2 _ _ hkI
  have X₁ := X.noted hwarm₁
  obtain ⟨hr1, hr2⟩ := X.roomAbove hcells hslots
  have hsz : s.heap.size ≤ T.heap.size := X.heapGrown
  have XF := mn_X X₁ hsz τ.2.2.2 τ.1 N N
  obtain ⟨a1, a2, a3, a4, a5, a6⟩ := mn_f (T.setVm vm₁) τ.2.2.2 τ.1 N N
  have hz : (T.setVm vm₁).heap = T.heap := rfl
  rw [hz] at a1 a2 a3 a4
  have hgc : gc D b (es ++ (.inl (τ.2.2.2, N, .inr (.inr (.inr (.inr (fun i => if i < N then some (b + es.length + 1 + i) else none))))) :: List.replicate N (.inl (τ.1, 60, .inl (fun _ => 0))))) (mnS (T.setVm vm₁) τ.2.2.2 τ.1 N N).heap := by
    refine ⟨by rw [a1, hG.1, List.length_append, List.length_cons, List.length_replicate]; omega, fun i x hx => ?_⟩
    by_cases q : i < es.length
    · rw [List.getElem?_append_left q] at hx
      exact (hG.2 i x hx).kept (a2 _ (by rw [hG.1]; show b + i < _; omega))
    · rw [List.getElem?_append_right (by omega)] at hx
      by_cases q2 : i = es.length
      · subst q2
        rw [Nat.sub_self] at hx
        cases hx
        rw [hG.1] at a3
        exact a3
      · rw [show i - es.length = (i - es.length - 1) + 1 by omega, List.getElem?_cons_succ, List.getElem?_replicate] at hx
        split at hx
        · rename_i q3
          cases hx
          have := a4 _ q3
          rw [hG.1, show b + es.length + 1 + (i - es.length - 1) = b + i by omega] at this
          exact this
        · cases hx
  have hsv : va_S (fun q => b ≤ q) H0 (mnS (T.setVm vm₁) τ.2.2.2 τ.1 N N).heap locs := ⟨Nat.le_trans hS.1 (by omega), fun q h1 h2 => (a2 q (by have := hS.1; omega)).trans (hS.2.1 q h1 h2), hS.2.2⟩
  rw [show cells + 1 + N = cells + (1 + N) by omega, show slots + N + N * 60 = slots + (N + N * 60) by omega] at XF
  obtain ⟨t, t1, t2⟩ := kk _ hgc hsv (mnS (T.setVm vm₁) τ.2.2.2 τ.1 N N) rfl XF
  refine ⟨t, ?_, t2⟩
  have hl1 : N ≤ e.platform.arrayLengthLimit := by rw [Launch.admits_arrayLengthLimit X.admits]; omega
  have hl2 : 60 ≤ e.platform.arrayLengthLimit := by rw [Launch.admits_arrayLengthLimit X.admits]; omega
  have hb1 : N * componentBytes (.array .int) ≤ e.platform.maxHeapBytes := by rw [Launch.admits_maxHeapBytes X.admits]; show N * 4 ≤ 536870912; omega
  have hb2 : 60 * componentBytes .int ≤ e.platform.maxHeapBytes := by rw [Launch.admits_maxHeapBytes X.admits]; decide
  jvm_step X.here [hexec, hb, hdg]
  simp only [multianewarray.sem, wp_bind', W.resolveClassAt_links (State.method?_setTop (F0 m pc ls (.int 60 :: .int k1 :: rest)) X.here.top) hg₁]
  rw [W.popN, if_neg (by decide)]
  refine ⟨F0 m pc ls (.int 60 :: .int k1 :: rest), State.topJava?_setTop' (s := T.setVm vm₁) _ X.here.top, [.int k1, .int 60], rest, rfl, rfl, ?_⟩
  simp only [List.mapM_cons, List.mapM_nil, wp_bind', wp_pure']
  refine mn_all (kA := kA₁) (kI := kI₁) (cA := τ.2.2.2) (cI := τ.1) (cc := cI) (N := N) hkA₁ (by rw [heA]; exact hkdA) hkI₁ (by rw [heI]; exact hkdI) hk hN hl1 hl2 hb1 hb2 (by show T.heap.size + 1 + _ ≤ _; omega) (by show T.slotsUsed + _ + _ ≤ _; omega) (fun d' acts' => ?_)
  have eS : ((T.setTop (F0 m pc ls (.int 60 :: .int k1 :: rest))).setVm vm₁).setTop { F0 m pc ls (.int 60 :: .int k1 :: rest) with stack := rest } = (T.setVm vm₁).setTop { F0 m pc ls (.int 60 :: .int k1 :: rest) with stack := rest } := by
    show ((T.setVm vm₁).setTop _).setTop _ = _
    rw [State.setTop_setTop]
  rw [eS, mn_top]
  simp only [wp_bind', W.mark, W.pushRef, State.topJava?_setTop' _ XF.here.top, Option.some.injEq, exists_eq_left', State.setTop_setTop, State.heap_setTop]
  intro acts
  simp [jvm, XF.here.top]
  rw [← hG.1] at t1
  exact t1
end MNA
