/-! objects that are made: the new cells lie one behind the other -/
section CT
variable {p : Program} {l : Launch} {e : Env} {R : Room} {s : State} {m : MethodId} {args : Array Value} {below : List Frame} {meth : Method} {c : Code} {H H0 : Heap} {locs : List Loc} {cells slots : Nat} {Q : State → Prop}
variable {cc : ByteArray} {pc : Nat} {ls : Array Slot} {rest : List Value} {D : va_G} {b : Nat} {es : List va_E} {tys : List (ClassId × FieldType)}
/-- from b on the heap holds these cells, and no more -/
def gc (D : va_G) (b : Nat) (es : List va_E) (H : Heap) : Prop := H.size = b + es.length ∧ ∀ (i : Nat) (x : va_E), es[i]? = some x → va_at D gcl (b + i, x) H
theorem gc.push {x : va_E} {H1 : Heap} (h : gc D b es H) (hz : H1.size = b + es.length + 1) (ho : ∀ q : Nat, q < b + es.length → H1[q]? = H[q]?) (hx : va_at D gcl (b + es.length, x) H1) : gc D b (es ++ [x]) H1 := by
  refine ⟨by rw [hz, List.length_append]; rfl, fun i y hy => ?_⟩
  by_cases q : i < es.length
  · rw [List.getElem?_append_left q] at hy
    exact (h.2 i y hy).kept (ho _ (by show b + i < _; omega))
  · rw [List.getElem?_append_right (by omega)] at hy
    have h1 : i - es.length < 1 := (List.getElem?_eq_some_iff.mp hy).1
    have e1 : i = es.length := by omega
    subst e1
    rw [Nat.sub_self] at hy
    cases hy
    exact hx
theorem gc.set {i : Nat} {x0 x : va_E} {H1 : Heap} (h : gc D b es H) (hi : es[i]? = some x0) (hz : H1.size = H.size) (ho : ∀ q : Nat, q ≠ b + i → H1[q]? = H[q]?) (hx : va_at D gcl (b + i, x) H1) : gc D b (es.set i x) H1 := by
  refine ⟨by rw [hz, List.length_set]; exact h.1, fun k y hy => ?_⟩
  by_cases q : k = i
  · subst q
    rw [List.getElem?_set_self (List.getElem?_eq_some_iff.mp hi).1] at hy
    cases hy
    exact hx
  · rw [List.getElem?_set_ne (fun z => q z.symm)] at hy
    exact (h.2 k y hy).kept (ho _ (by show b + k ≠ b + i; omega))
theorem gc.last {pre : List va_E} {x : va_E} (h : gc D b (pre ++ [x]) H) : gc D (b + pre.length) [x] H := by
  refine ⟨by rw [h.1, List.length_append, Nat.add_assoc], fun i y hy => ?_⟩
  have h1 : i < 1 := (List.getElem?_eq_some_iff.mp hy).1
  obtain rfl : i = 0 := by omega
  exact h.2 pre.length y (by rw [List.getElem?_append_right (Nat.le_refl _), Nat.sub_self]; exact hy)
theorem gc.join {pre F : List va_E} {x : va_E} {H1 : Heap} (h : gc D b (pre ++ [x]) H) (h1 : gc D (b + pre.length) F H1) (ho : ∀ q : Nat, q < H.size → ¬ b + pre.length ≤ q → H1[q]? = H[q]?) : gc D b (pre ++ F) H1 := by
  refine ⟨by rw [h1.1, List.length_append, Nat.add_assoc], fun i y hy => ?_⟩
  by_cases q : i < pre.length
  · rw [List.getElem?_append_left q] at hy
    exact (h.2 i y (by rw [List.getElem?_append_left q]; exact hy)).kept (ho _ (by rw [h.1, List.length_append]; show b + i < _; omega) (by show ¬ b + pre.length ≤ b + i; omega))
  · rw [List.getElem?_append_right (by omega)] at hy
    have := h1.2 _ y hy
    rwa [show b + pre.length + (i - pre.length) = b + i by omega] at this
/-- new -/
theorem gnew {own C : String} {T : u_T} {N ci index n : Nat} {ty : Nat → FieldType} (hexec : p.tables.exec = Jvm.exec) (hb : c.code = cc) (hts : ∀ w ∈ gtb, w.before args s = true) (hown : s.vm.findClass own = some m.cls) (hK : va_K D gcl tys s) (hG : gc D b es H) (hS : va_S (fun q => b ≤ q) H0 H locs) (hin : ∀ w ∈ u_ws C T N, w ∈ gtb) (hty : ∀ k, k < N → parseFieldDescriptor (T k).2.2.1 = some (ty k)) (hc : gcl[ci]? = some (C, T, N)) (hcl : Cond.classLink own index C ∈ gtb) (hinst : Cond.instantiable C N ∈ gtb) (hini : Cond.initialized C ∈ gtb)
    {fs : List Value} (hfs : ∀ j, j < N → defaultValue (ty j) = vp_V fs j) (hn : es.length = n) (hcells : cells + 1 ≤ R.cells) (hslots : slots + N ≤ R.slots) (hdg : decode cc pc = .ok (.new index, 3))
    (kk : ∀ H1 : Heap, gc D b (es ++ [.inr (ci, fs)]) H1 → va_S (fun q => b ≤ q) H0 H1 locs → W p l e R s m args below meth c H1 locs (cells + 1) (slots + N) Q (F0 m (pc + 3) ls (.ref (b + n) :: rest))) : W p l e R s m args below meth c H locs cells slots Q (F0 m pc ls rest) := by
  subst hn
  have hKn := hK.1 ci _ hc
  refine W.newcK hexec hb hown (hts _ hcl) (hts _ hinst) (hts _ hini) rfl hdg hcells hslots hKn.2.1 hG.1 fun H1 kC hkC e1 z1 o1 => ?_
  refine kk H1 (hG.push z1 o1 ⟨_, hc, (u_born ty hts hin hKn hkC e1 hty).to hfs⟩) ⟨Nat.le_trans hS.1 (by rw [z1, hG.1]; omega), fun x h1 h2 => (o1 x (by have := hS.1; have := hG.1; omega)).trans (hS.2.1 x h1 h2), hS.2.2⟩
/-- newarray -/
theorem gnewa {atype : ArrayType} {ty : FieldType} {k : Int32} {N n : Nat} {a0 : vp_A} {cT : ClassId} (hexec : p.tables.exec = Jvm.exec) (hb : c.code = cc) (hts : ∀ w ∈ gtb, w.before args s = true) (hG : gc D b es H) (hS : va_S (fun q => b ≤ q) H0 H locs) (hty : newarray.typeOf atype = ty) (harr : Cond.arrayClass ty ∈ gtb) (hfc : s.vm.findClass ("[" ++ ty.toString) = some cT) (ha : ∀ cA : ClassId, vp_cell cA a0 = arrV cA N (fun _ => defaultValue ty)) (hk : ¬ k < 0) (hN : k.toNatClampNeg = N) (hbytes : N * componentBytes ty ≤ 536870912) (hn : es.length = n) (hcells : cells + 1 ≤ R.cells) (hslots : slots + N ≤ R.slots) (hdg : decode cc pc = .ok (.newarray atype, 2))
    (kk : ∀ H1 : Heap, gc D b (es ++ [.inl (cT, a0)]) H1 → va_S (fun q => b ≤ q) H0 H1 locs → W p l e R s m args below meth c H1 locs (cells + 1) (slots + N) Q (F0 m (pc + 2) ls (.ref (b + n) :: rest))) : W p l e R s m args below meth c H locs cells slots Q (F0 m pc ls (.int k :: rest)) := by
  subst hty
  subst hn
  refine va_newaK hexec hb (hts _ harr) rfl hdg rfl hk hN hbytes hcells hslots hG.1 fun H1 cA e1 z1 o1 hAr hNm => ?_
  have hcA : cA = cT := Option.some.inj (hNm.symm.trans hfc)
  subst hcA
  refine kk H1 (hG.push z1 o1 (by show H1[b + es.length]? = some (vp_cell _ _); rw [ha]; exact e1)) ⟨Nat.le_trans hS.1 (by rw [z1, hG.1]; omega), fun x h1 h2 => (o1 x (by have := hS.1; have := hG.1; omega)).trans (hS.2.1 x h1 h2), hS.2.2⟩
/-- putfield, a final field -/
theorem gputF {own C : String} {T : u_T} {N ci index : Nat} {ty0 : Nat → FieldType} {ty : FieldType} {v : Value} {fs : List Value} (i k : Nat) (hexec : p.tables.exec = Jvm.exec) (hb : c.code = cc) (hts : ∀ w ∈ gtb, w.before args s = true) (hown : s.vm.findClass own = some m.cls) (hK : va_K D gcl tys s) (hG : gc D b es H) (hS : va_S (fun q => b ≤ q) H0 H locs) (hin2 : meth.name = "<init>") (hin : ∀ w ∈ u_ws C T N, w ∈ gtb) (hty : ∀ k, k < N → parseFieldDescriptor (T k).2.2.1 = some (ty0 k)) (hnm : ∀ a, a < N → ∀ b, b < N → a ≠ b → (T a).2.1 ≠ (T b).2.1) (hc : gcl[ci]? = some (C, T, N)) (he : es[i]? = some (.inr (ci, fs))) (hk : k < N) (hlink : Cond.fieldLink own index (T k).1 (T k).2.1 (T k).2.2.1 ∈ gtb) (hfin : (T k).2.2.2 = true) (hdecl : (T k).1 = own) (hd : parseFieldDescriptor (T k).2.2.1 = some ty) (hn : narrow ty v = v) (hfit : fits ty v = true) (hl : k < fs.length) (hdg : decode cc pc = .ok (.putfield index, 3))
    (kk : ∀ (H1 : Heap) (locs1 : List Loc), gc D b (es.set i (.inr (ci, fs.set k v))) H1 → va_S (fun q => b ≤ q) H0 H1 locs1 → W p l e R s m args below meth c H1 locs1 cells slots Q (F0 m (pc + 3) ls rest)) : W p l e R s m args below meth c H locs cells slots Q (F0 m pc ls (v :: .ref (b + i) :: rest)) := by
  have hap := va_apart (own := own) hts hin ty0 hty hnm hK hc
  obtain ⟨r, h1, cell, q1, q2, q3, q4⟩ := hG.2 i _ he
  have hr : r = (C, T, N) := Option.some.inj (h1.symm.trans hc)
  subst hr
  obtain ⟨hS9, hfc, kC, hkC, hkind⟩ := hK.1 ci _ hc
  obtain ⟨cf, kf, fi, f, hi, hsl⟩ := hS9 k hk
  have hlay := hts _ (hin _ (u_in_lay hk))
  unfold u_lay at hlay
  rw [if_pos hfin] at hlay
  have hcf : m.cls = cf := by
    obtain ⟨_, _, c', _, _, _, -, -, hf', -, -, -, hown2, -⟩ := Cond.laysFinal_spec hlay
    have e1 : c' = cf := by have := hi.symm.trans hf'; simp at this; exact this.1.symm
    rw [hdecl] at hown2
    rw [← e1]; exact Option.some.inj (hown.symm.trans hown2)
  refine W.putFinK hexec hb hown (hts _ hlink) hi (u_facts hfc hkC (u_lays hts hin hk) hi).1 hcf hin2 (by rw [q2]; exact u_fits hfc hkC hkind (Or.inr hlay) hi hd hn hfit) q1 q3 (by rw [hsl]; exact k2_hasslot (q4 k hk)) rfl rfl hdg fun H' e1 e2 e3 => ?_
  rw [hsl] at e1 ⊢
  exact kk H' _ (hG.set he e2 e3 ⟨_, hc, t_OB.to (V := updV (vp_V fs) k v) ⟨_, e1, q2, q3, t_set q4 hap hk v⟩ (fun j _ => vp_updV_set hl v j)⟩) (hS.put e2 e3 (Nat.le_add_right b i))
/-- putfield, any other -/
theorem gput {own C : String} {T : u_T} {N ci index : Nat} {ty0 : Nat → FieldType} {ty : FieldType} {v : Value} {fs : List Value} (i k : Nat) (hexec : p.tables.exec = Jvm.exec) (hb : c.code = cc) (hts : ∀ w ∈ gtb, w.before args s = true) (hown : s.vm.findClass own = some m.cls) (hK : va_K D gcl tys s) (hG : gc D b es H) (hS : va_S (fun q => b ≤ q) H0 H locs) (hin : ∀ w ∈ u_ws C T N, w ∈ gtb) (hty : ∀ k, k < N → parseFieldDescriptor (T k).2.2.1 = some (ty0 k)) (hnm : ∀ a, a < N → ∀ b, b < N → a ≠ b → (T a).2.1 ≠ (T b).2.1) (hc : gcl[ci]? = some (C, T, N)) (he : es[i]? = some (.inr (ci, fs))) (hk : k < N) (hlink : Cond.fieldLink own index (T k).1 (T k).2.1 (T k).2.2.1 ∈ gtb) (hfin : (T k).2.2.2 = false) (hd : parseFieldDescriptor (T k).2.2.1 = some ty) (hn : narrow ty v = v) (hfit : fits ty v = true) (hl : k < fs.length) (hdg : decode cc pc = .ok (.putfield index, 3))
    (kk : ∀ (H1 : Heap) (locs1 : List Loc), gc D b (es.set i (.inr (ci, fs.set k v))) H1 → va_S (fun q => b ≤ q) H0 H1 locs1 → W p l e R s m args below meth c H1 locs1 cells slots Q (F0 m (pc + 3) ls rest)) : W p l e R s m args below meth c H locs cells slots Q (F0 m pc ls (v :: .ref (b + i) :: rest)) := by
  have hap := va_apart (own := own) hts hin ty0 hty hnm hK hc
  obtain ⟨r, h1, cell, q1, q2, q3, q4⟩ := hG.2 i _ he
  have hr : r = (C, T, N) := Option.some.inj (h1.symm.trans hc)
  subst hr
  obtain ⟨hS9, hfc, kC, hkC, hkind⟩ := hK.1 ci _ hc
  obtain ⟨cf, kf, fi, f, hi, hsl⟩ := hS9 k hk
  have hlay := hts _ (hin _ (u_in_lay hk))
  unfold u_lay at hlay
  rw [if_neg (by rw [hfin]; decide)] at hlay
  refine W.putK hexec hb (f := f) ⟨hown, hts _ hlink, ⟨_, _, _, hi⟩, (u_facts hfc hkC (u_lays hts hin hk) hi).1⟩ (by rw [q2]; exact u_store hfc hkC hkind hlay hi hd hn hfit) q1 q3 (by rw [hsl]; exact k2_hasslot (q4 k hk)) rfl rfl hdg fun H' e1 e2 e3 => ?_
  rw [hsl] at e1 ⊢
  exact kk H' _ (hG.set he e2 e3 ⟨_, hc, t_OB.to (V := updV (vp_V fs) k v) ⟨_, e1, q2, q3, t_set q4 hap hk v⟩ (fun j _ => vp_updV_set hl v j)⟩) (hS.put e2 e3 (Nat.le_add_right b i))
/-- getfield -/
theorem gget {own C : String} {T : u_T} {N ci index a : Nat} {v : Value} {fs : List Value} (k : Nat) (hexec : p.tables.exec = Jvm.exec) (hb : c.code = cc) (hts : ∀ w ∈ gtb, w.before args s = true) (hown : s.vm.findClass own = some m.cls) (hK : va_K D gcl tys s) (hin : ∀ w ∈ u_ws C T N, w ∈ gtb) (hc : gcl[ci]? = some (C, T, N)) (he : va_at D gcl (a, .inr (ci, fs)) H) (hk : k < N) (hlink : Cond.fieldLink own index (T k).1 (T k).2.1 (T k).2.2.1 ∈ gtb) (hv : fs[k]? = some v) (hdg : decode cc pc = .ok (.getfield index, 3))
    (kk : W p l e R s m args below meth c H locs cells slots Q (F0 m (pc + 3) ls (v :: rest))) : W p l e R s m args below meth c H locs cells slots Q (F0 m pc ls (.ref a :: rest)) := by
  have hP : va_P D gcl [(a, .inr (ci, fs))] H := fun j q hq => by
    have h1 : j < 1 := (List.getElem?_eq_some_iff.mp hq).1
    obtain rfl : j = 0 := by omega
    cases hq
    exact he
  exact va_get hexec hb hts hin hown hK hP 0 rfl hc k hk (hts _ hlink) (fun _ h => h) hv hdg kk
/-- iastore -/
theorem giast {cA : ClassId} {N : Nat} {f : Nat → Int32} {x j : Int32} (i k : Nat) (hexec : p.tables.exec = Jvm.exec) (hb : c.code = cc) (hG : gc D b es H) (hS : va_S (fun q => b ≤ q) H0 H locs) (hA : ArrOfT s cA .int) (he : es[i]? = some (.inl (cA, N, .inl f))) (hj : j.toNatClampNeg = k) (hj0 : ¬ j < 0) (hk : k < N) (hdg : decode cc pc = .ok (.iastore, 1))
    (kk : ∀ (H1 : Heap) (locs1 : List Loc), gc D b (es.set i (.inl (cA, N, .inl (upd f k x)))) H1 → va_S (fun q => b ≤ q) H0 H1 locs1 → W p l e R s m args below meth c H1 locs1 cells slots Q (F0 m (pc + 1) ls rest)) : W p l e R s m args below meth c H locs cells slots Q (F0 m pc ls (.int x :: .int j :: .ref (b + i) :: rest)) := by
  subst hj
  refine W.iast hexec hb (hG.2 i _ he) (hA N (fun j => .int (f j))) (fun q => by cases q) (by show ¬ (j < 0 ∨ (arrV _ _ _).slots.size ≤ _); rw [arrV_size]; exact fun z => z.elim hj0 (fun z => Nat.not_le.mpr hk z)) rfl rfl hdg fun H1 e z oq => ?_
  refine kk H1 _ (hG.set he z oq ?_) (hS.put z oq (Nat.le_add_right b i))
  show H1[b + i]? = some (vp_cell _ _)
  rw [e]
  show some ((vp_cell cA (N, .inl f)).setSlot j.toNatClampNeg (.int x)) = some (vp_cell cA (N, .inl (upd f j.toNatClampNeg x)))
  rw [vp_cell_i, vp_cell_i, arrV_store]
  congr 2
  funext q
  by_cases hq : q = j.toNatClampNeg
  · rw [hq]; simp [updV, upd]
  · simp [updV, upd, hq]
/-- what a constructor needs of the tables that no word of its own says: int[][] is an array of int[], and who may call whom -/
def nst : List (String × Nat × MethodName) := [(RX9, 11, yX2_init), (RX2, 20, yX4_init), (RX2, 27, yX8_init), (RX2, 34, yX7_init), (RX2, 41, yX0_init), (RX2, 48, yX6_init), (RX2, 58, yX3_init)]
def gX (τ : ClassId × ClassId × ClassId × ClassId) (U : State) : Prop := (∃ kA : Class, U.vm.classes[τ.2.2.2]? = some kA ∧ kA.kind = .array τ.1 (.array .int)) ∧ ∀ q ∈ nst, va_Nw (.methodLinkNest q.1 q.2.1 q.2.2 RX9) U
theorem gX.warm {τ : ClassId × ClassId × ClassId × ClassId} {U : State} (h : gX τ s) (hW : s.WarmedH U.vm) : gX τ U := by
  obtain ⟨⟨kA, h1, h2⟩, h3⟩ := h
  obtain ⟨k', hk', he⟩ := hW.alike.2.2 _ _ h1
  exact ⟨⟨k', hk', by rw [he]; exact h2⟩, fun q hq => (h3 q hq).warmM hW⟩
theorem gX.call {τ : ClassId × ClassId × ClassId × ClassId} {U : State} {g : JFrame} {mk : MethodId} {a : Array Value} (h : gX τ U) : gX τ (U.calling g mk a) := ⟨h.1, fun q hq => va_Nw.same (u := U) (U := U.calling g mk a) rfl rfl (h.2 q hq)⟩
def cRm (h mc ms : Nat) : Room := { frames := h, cells := mc, slots := ms, locals := 40 * h }
/-- a constructor's contract: the object is the last cell; behind it lies what the constructor made -/
def cT (D : va_G) (τ : ClassId × ClassId × ClassId × ClassId) (l : Launch) (y : MethodName) (cd : ByteArray) (nL h mc ms : Nat) (as : List Value) (ci : Nat) (fs : List Value) (X : State → Prop) (F : List va_E) (b : Nat) : Prop :=
  Met l y (.code y cd nL none :: gtb) (cRm h mc ms) (va_Pc (.ref b :: as) (fun U => gc D b [.inr (ci, fs)] U.heap ∧ va_K D gcl [(τ.1, .int), (τ.2.1, .long), (τ.2.2.1, .boolean), (τ.2.2.2, .array .int)] U ∧ gX τ U ∧ X U)) (va_Qv (fun _ : Unit => True) (fun _ t => gc D b F t.heap) (fun q => b ≤ q)) mc ms (fun q => b ≤ q)
theorem gtb_GoodIn {y : MethodName} {cd : ByteArray} {nL : Nat} (h : Cond.code y cd nL none ∈ gtb) : GoodIn gtb (.code y cd nL none :: gtb) := fun w hw => by
  rcases List.mem_cons.mp hw with rfl | hw
  · exact ⟨h, gtb_good h⟩
  · exact ⟨hw, gtb_good hw⟩
/-- a call of a constructor whose class is a nest mate's -/
theorem gctorN {τ : ClassId × ClassId × ClassId × ClassId} {y : MethodName} {cd : ByteArray} {nL nL' h mc ms ci index n : Nat} {own : String} {fs : List Value} {F pre : List va_E} (hexec : p.tables.exec = Jvm.exec) (hb : c.code = cc) (hml : c.maxLocals = nL') (hts : ∀ w ∈ gtb, w.before args s = true) (hown : s.vm.findClass own = some m.cls) (hK : va_K D gcl [(τ.1, .int), (τ.2.1, .long), (τ.2.2.1, .boolean), (τ.2.2.2, .array .int)] s) (hX : gX τ s) (hG : gc D b (pre ++ [.inr (ci, fs)]) H) (hS : va_S (fun q => b ≤ q) H0 H locs) (hls : ls.size = nL') (hn : pre.length = n)
    (hM : cT D τ l y cd nL h mc ms [] ci fs (fun _ => True) F (b + n)) (hnest : (own, index, y) ∈ nst) (hcode : Cond.code y cd nL none ∈ gtb) (hini : Cond.initialized y.cls ∈ gtb) (hins : Cond.instanceMethod y ∈ gtb) (hy : y.name = "<init>") (hd : y.cls ≠ "java/lang/invoke/MethodHandle" ∧ y.cls ≠ "java/lang/invoke/VarHandle" ∧ (parseMethodDescriptor y.desc).map (fun d => d.parameters.length) = some 0) (hR : h + 1 ≤ R.frames ∧ 8 + (nL + 11) + 40 * h ≤ R.locals) (hrest : (rest.map fun v => v.category).sum ≤ 8) (hcs : cells + mc ≤ R.cells ∧ slots + ms ≤ R.slots) (hdg : decode cc pc = .ok (.invokespecial index, 3))
    (kk : ∀ (H1 : Heap) (locs1 : List Loc), gc D b (pre ++ F) H1 → va_S (fun q => b ≤ q) H0 H1 locs1 → W p l e R s m args below meth c H1 locs1 (cells + mc) (slots + ms) Q (F0 m (pc + 3) ls rest)) : W p l e R s m args below meth c H locs cells slots Q (F0 m pc ls (.ref (b + n) :: rest)) := by
  subst hn
  unfold cT at hM
  refine va_callv (va_runIN (As := []) (rest := rest) (nL := nL') (own := own) (Ts := gtb) ⟨hexec, hb, hml, hown, hts⟩ hM ⟨va_cnB 0 hts (gtb_GoodIn hcode) rfl rfl rfl (hX.2 _ hnest) (hts _ hini) hd hR, hy, hts _ hins⟩ ⟨fun a U g mk q => by
      obtain ⟨q0, q1, q2, q3, q4⟩ := q
      exact ⟨q0, q1, va_K.moved (u := U) (U := U.calling g mk a) (Vm.Alike.refl U.vm) q2, q3.call, trivial⟩, fun U hU hW => ⟨rfl, by rw [hU]; exact hG.last, va_K.moved hW.alike hK, hX.warm hW, trivial⟩⟩ rfl rfl hls rfl (lv_room hrest) hdg hcs) hS (fun q _ h => Nat.le_trans (Nat.le_add_right _ _) h) (fun q h => Nat.le_trans (Nat.le_add_right _ _) h) (fun u t H1 locs1 ht hvm hp hB hz1 hk1 hS1 => ?_)
  subst ht
  exact kk _ _ (hG.join hB hk1) hS1
/-- a call of any other constructor -/
theorem gctor {τ : ClassId × ClassId × ClassId × ClassId} {y : MethodName} {cd : ByteArray} {nL nL' h mc ms ci index n k : Nat} {own : String} {as fs : List Value} {F pre : List va_E} {X : State → Prop} (hexec : p.tables.exec = Jvm.exec) (hb : c.code = cc) (hml : c.maxLocals = nL') (hts : ∀ w ∈ gtb, w.before args s = true) (hown : s.vm.findClass own = some m.cls) (hK : va_K D gcl [(τ.1, .int), (τ.2.1, .long), (τ.2.2.1, .boolean), (τ.2.2.2, .array .int)] s) (hX : gX τ s) (hG : gc D b (pre ++ [.inr (ci, fs)]) H) (hS : va_S (fun q => b ≤ q) H0 H locs) (hls : ls.size = nL') (hn : pre.length = n)
    (hM : cT D τ l y cd nL h mc ms as ci fs X F (b + n)) (hXb : ∀ (U : State) (g : JFrame) (mk : MethodId) (a : Array Value), X U → X (U.calling g mk a)) (hXw : ∀ U : State, U.heap = H → X U) (hlk : Cond.methodLink own index y ∈ gtb) (hcode : Cond.code y cd nL none ∈ gtb) (hini : Cond.initialized y.cls ∈ gtb) (hins : Cond.instanceMethod y ∈ gtb) (hy : y.name = "<init>") (hd : y.cls ≠ "java/lang/invoke/MethodHandle" ∧ y.cls ≠ "java/lang/invoke/VarHandle" ∧ (parseMethodDescriptor y.desc).map (fun d => d.parameters.length) = some k) (hk : as.length = k) (hR : h + 1 ≤ R.frames ∧ 8 + (nL + 11) + 40 * h ≤ R.locals) (hrest : (rest.map fun v => v.category).sum ≤ 8) (hcs : cells + mc ≤ R.cells ∧ slots + ms ≤ R.slots) (hdg : decode cc pc = .ok (.invokespecial index, 3))
    (kk : ∀ (H1 : Heap) (locs1 : List Loc), gc D b (pre ++ F) H1 → va_S (fun q => b ≤ q) H0 H1 locs1 → W p l e R s m args below meth c H1 locs1 (cells + mc) (slots + ms) Q (F0 m (pc + 3) ls rest)) : W p l e R s m args below meth c H locs cells slots Q (F0 m pc ls (as.reverse ++ .ref (b + n) :: rest)) := by
  subst hn
  unfold cT at hM
  refine va_callv (va_runI (As := as) (rest := rest) (nL := nL') (own := own) (Ts := gtb) ⟨hexec, hb, hml, hown, hts⟩ hM (cwI k hts (gtb_GoodIn hcode) rfl rfl rfl (hts _ hini) (hts _ hlk) (hts _ hins) hy hd hR) ⟨fun a U g mk q => by
      obtain ⟨q0, q1, q2, q3, q4⟩ := q
      exact ⟨q0, q1, va_K.moved (u := U) (U := U.calling g mk a) (Vm.Alike.refl U.vm) q2, q3.call, hXb _ _ _ _ q4⟩, fun U hU hW => ⟨rfl, by rw [hU]; exact hG.last, va_K.moved hW.alike hK, hX.warm hW, hXw U hU⟩⟩ rfl hk hls rfl (lv_room hrest) hdg hcs) hS (fun q _ h => Nat.le_trans (Nat.le_add_right _ _) h) (fun q h => Nat.le_trans (Nat.le_add_right _ _) h) (fun u t H1 locs1 ht hvm hp hB hz1 hk1 hS1 => ?_)
  subst ht
  exact kk _ _ (hG.join hB hk1) hS1
end CT
