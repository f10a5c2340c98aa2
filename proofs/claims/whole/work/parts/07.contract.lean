/-! calls; from a run of the abstract machine to a method's contract -/
theorem gS_Z {w : gWo} {s : State} {H : Heap} {locs : List Loc} (hS : va_S (gA w) s.heap H locs) (hZ : gSt w s s.heap) : gSt w s H := hZ.kept (fun a h1 h2 => hS.2.1 a h1 h2)
theorem g_call {w : gWo} {l : Launch} {M : gMi} {p : Program} {e : Env} {R : Room} {s : State} {m : MethodId} {args : Array Value} {below : List Frame} {meth : Method} {c : Code} {r r' : gR} {a : Array Value} {pc : Nat} {lv : gL} {rest st0 : List Value} {H : Heap} {locs : List Loc} {ls : Array Slot}
    (hS : va_S (gA w) s.heap H locs) (hl : gAg w.2.2.2 M.2.1 lv ls) 
    (hr : va_Run p l e R s m args below meth c H locs 0 0 0 0 (F0 m pc ls st0) (rest.map (gv w.2.2.2)) (gQ w r' a) (gA w))
    (hk : gG w M p l e R s m args below meth c r (pc + 3) lv (r'.1.toList ++ rest) r'.2) :
    W p l e R s m args below meth c H locs 0 0 (MQ below (gQ w r) args s 0 0 (gA w)) (F0 m pc ls st0) := by
  intro T hT X
  obtain ⟨v, st₀, t, T', L, h0, X', hL, e1, e2, ⟨hv, hP1, hz, hkeep⟩, st⟩ := hr T hT X
  have hv : v = r'.1.map (gv w.2.2.2) := by cases hv; rfl
  subst hv
  rw [h0] at hz hkeep
  obtain ⟨t2, a1, b1⟩ := hk T'.heap (locs ++ L) ls (by rw [e1]; exact hP1)
    ⟨Nat.le_trans hS.1 (by rw [e1]; exact hz), fun q h1 h2 => by rw [e1, hkeep q (Nat.lt_of_lt_of_le h1 hS.1) h2]; exact hS.2.1 q h1 h2, fun q hq => by
      rcases List.mem_append.mp hq with h | h
      · exact hS.2.2 q h
      · exact hL q h⟩ hl T' rfl X'
  refine ⟨t2, st t2 ?_, b1⟩
  have e3 : (r'.1.toList ++ rest).map (gv w.2.2.2) = (r'.1.map (gv w.2.2.2)).toList ++ rest.map (gv w.2.2.2) := by
    rw [List.map_append]
    cases r'.1 <;> rfl
  rw [e3] at a1
  exact a1
theorem g_goodIn {y : MethodName} {bytes : ByteArray} {nL : Nat} {ret : Option FieldType} (h : Cond.code y bytes nL ret ∈ gtb) : GoodIn gtb (Cond.code y bytes nL ret :: gtb) := by
  intro x hx
  have hx : x ∈ gtb := by
    rcases List.mem_cons.mp hx with rfl | hx
    · exact h
    · exact hx
  exact ⟨hx, gtb_good hx⟩
theorem ok_callV {w : gWo} {l : Launch} {M : gMi} {pc n ci N index : Nat} {C : String} {T : u_T} {y : MethodName} {M' : gMi} {m' : gF} (hd : decode M.1 pc = .ok (.invokevirtual index, 3)) (hm : ∀ as μ r, m' as μ = some r → gMt w l y M' as μ r) (hc : gcl[ci]? = some (C, T, N))
    (hw1 : Cond.methodLink M.2.2.1 index y ∈ gtb) (hw2 : Cond.instanceMethod y ∈ gtb) (hw3 : Cond.selects C y y ∈ gtb) (hw4 : Cond.initialized y.cls ∈ gtb) (hw5 : Cond.code y M'.1 M'.2.1 M'.2.2.2.1 ∈ gtb)
    (hy : y.cls ≠ "java/lang/invoke/MethodHandle" ∧ y.cls ≠ "java/lang/invoke/VarHandle" ∧ (parseMethodDescriptor y.desc).map (fun d => d.parameters.length) = some n) (hh : M'.2.2.2.2 + 1 ≤ M.2.2.2.2 ∧ M'.2.1 ≤ 21) : gOk w l M pc (i_cvt w.2.2.1 n ci m') := by
  intro p e R s m args below meth c hC r lv st μ k hf hk H locs ls hP hS hl
  obtain ⟨hx, hb, hml, hown, hts, hr, hlk, hR, hK, hI, hZ⟩ := hC
  unfold i_cvt at hf
  split at hf
  · rename_i hlc
    obtain ⟨hlen, hco⟩ := (Bool.and_eq_true _ _).mp hlc
    have hlen := Nat.le_of_ble_eq_true hlen
    split at hf
    · rename_i c0 as has
      split at hf
      · rename_i ho
        split at hf
        · rename_i r' hr'
          have hM := hm _ _ _ hr'
          obtain ⟨h1, h2⟩ := g_isO_spec ho
          have he := gW_get (w := w) (μ := μ) h1
          rw [gE_obj h2] at he
          have hst : st = as.reverse ++ .ref c0 :: st.drop (n + 1) := by
            have e1 : st.take (n + 1) = as.reverse ++ [.ref c0] := by
              have := congrArg List.reverse has
              rw [List.reverse_reverse] at this
              rw [this, List.reverse_cons]
            calc st = st.take (n + 1) ++ st.drop (n + 1) := (List.take_append_drop _ _).symm
              _ = _ := by rw [e1, List.append_assoc]; rfl
          have hasl : as.length = n := by
            have e1 := congrArg List.length has
            rw [List.length_reverse, List.length_take] at e1
            simp at e1
            omega
          refine g_call (a := (Value.ref (w.2.2.2 c0) :: as.map (gv w.2.2.2)).toArray) (lv := lv) (rest := st.drop (n + 1)) hS hl ?_ (hk _ _ _ _ hf)
          refine va_runV (Ts := gtb) (As := as.map (gv w.2.2.2)) (b := w.2.2.2 c0) (C := C) ⟨hx, hb, hml, hown, hts⟩ hM ⟨callB_of n hts (g_goodIn hw5) rfl rfl rfl (hts _ hw4) (hts _ hw1) hy ?_, hts _ hw2, hts _ hw3⟩ ⟨?_, va_recv hK hP hc he, ?_⟩ rfl (by rw [List.length_map]; exact hasl) hl.2.1 ?_ (lv_room (g_cok_spec hco)) hd (by rw [hR]; exact ⟨Nat.le_refl _, Nat.le_refl _⟩)
          · rw [hR]
            show M'.2.2.2.2 + 1 ≤ M.2.2.2.2 ∧ 8 + (M'.2.1 + 11) + 40 * M'.2.2.2.2 ≤ 40 * M.2.2.2.2
            omega
          · intro a U g mk q
            obtain ⟨q0, q1, q2, q3, q4⟩ := q
            exact ⟨q0, q1, va_K.moved (u := U) (U := U.calling g mk a) (Vm.Alike.refl U.vm) q2, q3, gSt.moved (u := U) (U := U.calling g mk a) (Vm.Alike.refl U.vm) q4⟩
          · intro U hU hW
            exact ⟨rfl, by rw [hU]; exact hP, va_K.moved hW.alike hK, hI, by rw [hU]; exact (gS_Z hS hZ).moved hW.alike⟩
          · show st.map (gv w.2.2.2) = (as.map (gv w.2.2.2)).reverse ++ .ref (w.2.2.2 c0) :: (st.drop (n + 1)).map (gv w.2.2.2)
            have h9 := congrArg (List.map (gv w.2.2.2)) hst
            rw [List.map_append, List.map_cons, List.map_reverse] at h9
            exact h9
        · cases hf
      · cases hf
    · cases hf
  · cases hf
theorem ok_callS {w : gWo} {l : Launch} {M : gMi} {pc n index : Nat} {y : MethodName} {M' : gMi} {m' : gF} (hd : decode M.1 pc = .ok (.invokestatic index, 3)) (hm : ∀ as μ r, m' as μ = some r → gMt w l y M' as μ r)
    (hw1 : Cond.methodLink M.2.2.1 index y ∈ gtb) (hw2 : Cond.static y ∈ gtb) (hw4 : Cond.initialized y.cls ∈ gtb) (hw5 : Cond.code y M'.1 M'.2.1 M'.2.2.2.1 ∈ gtb)
    (hy : y.cls ≠ "java/lang/invoke/MethodHandle" ∧ y.cls ≠ "java/lang/invoke/VarHandle" ∧ (parseMethodDescriptor y.desc).map (fun d => d.parameters.length) = some n) (hh : M'.2.2.2.2 + 1 ≤ M.2.2.2.2 ∧ M'.2.1 ≤ 21) : gOk w l M pc (i_cst n m') := by
  intro p e R s m args below meth c hC r lv st μ k hf hk H locs ls hP hS hl
  obtain ⟨hx, hb, hml, hown, hts, hr, hlk, hR, hK, hI, hZ⟩ := hC
  unfold i_cst at hf
  split at hf
  · rename_i hlc
    obtain ⟨hlen, hco⟩ := (Bool.and_eq_true _ _).mp hlc
    have hlen := Nat.le_of_ble_eq_true hlen
    split at hf
    · rename_i r' hr'
      have hM := hm _ _ _ hr'
      generalize has : (st.take n).reverse = as at *
      have hst : st = as.reverse ++ st.drop n := by
        rw [← has, List.reverse_reverse, List.take_append_drop]
      have hasl : as.length = n := by
        rw [← has, List.length_reverse, List.length_take]
        omega
      refine g_call (a := (as.map (gv w.2.2.2)).toArray) (lv := lv) (rest := st.drop n) hS hl ?_ (hk _ _ _ _ hf)
      refine va_runS (Ts := gtb) (As := as.map (gv w.2.2.2)) ⟨hx, hb, hml, hown, hts⟩ hM ⟨callB_of n hts (g_goodIn hw5) rfl rfl rfl (hts _ hw4) (hts _ hw1) hy ?_, hts _ hw2⟩ ⟨?_, ?_⟩ rfl (by rw [List.length_map]; exact hasl) hl.2.1 ?_ (lv_room (g_cok_spec hco)) hd (by rw [hR]; exact ⟨Nat.le_refl _, Nat.le_refl _⟩)
      · rw [hR]
        show M'.2.2.2.2 + 1 ≤ M.2.2.2.2 ∧ 8 + (M'.2.1 + 11) + 40 * M'.2.2.2.2 ≤ 40 * M.2.2.2.2
        omega
      · intro a U g mk q
        obtain ⟨q0, q1, q2, q3, q4⟩ := q
        exact ⟨q0, q1, va_K.moved (u := U) (U := U.calling g mk a) (Vm.Alike.refl U.vm) q2, q3, gSt.moved (u := U) (U := U.calling g mk a) (Vm.Alike.refl U.vm) q4⟩
      · intro U hU hW
        exact ⟨rfl, by rw [hU]; exact hP, va_K.moved hW.alike hK, hI, by rw [hU]; exact (gS_Z hS hZ).moved hW.alike⟩
      · show st.map (gv w.2.2.2) = (as.map (gv w.2.2.2)).reverse ++ (st.drop n).map (gv w.2.2.2)
        have h9 := congrArg (List.map (gv w.2.2.2)) hst
        rw [List.map_append, List.map_reverse] at h9
        exact h9
    · cases hf
  · cases hf
def gOks (w : gWo) (l : Launch) (M : gMi) : gP → Prop
  | [] => True
  | e :: t => (decode M.1 e.1 = .ok (e.2.1, e.2.2.1) → gOk w l M e.1 e.2.2.2) ∧ gOks w l M t
def gDec (M : gMi) (P : gP) : Prop := ∀ e ∈ P, decode M.1 e.1 = .ok (e.2.1, e.2.2.1)
theorem g_find_ok {w : gWo} {l : Launch} {M : gMi} {P : gP} (hd : gDec M P) (h : gOks w l M P) {pc : Nat} {f : gI} (hf : g_find P pc = some f) : gOk w l M pc f := by
  induction P with
  | nil => cases hf
  | cons e t ih =>
    unfold g_find at hf
    split at hf
    · rename_i he
      cases hf
      have he := Nat.eq_of_beq_eq_true he
      subst he
      exact h.1 (hd e List.mem_cons_self)
    · exact ih (fun x hx => hd x (List.mem_cons_of_mem _ hx)) h.2 hf
theorem g_snd {w : gWo} {l : Launch} {M : gMi} {P : gP} (hd : gDec M P) (h : gOks w l M P) {p : Program} {e : Env} {R : Room} {s : State} {m : MethodId} {args : Array Value} {below : List Frame} {meth : Method} {c : Code} (hC : gC w M p R s m args meth c) (r : gR) : ∀ (n : Nat) (pc : Nat) (lv : gL) (st : List Value) (μ : gMem), g_n P n pc lv st μ = some r → gG w M p l e R s m args below meth c r pc lv st μ
  | 0, _, _, _, _, hr => by cases hr
  | n + 1, pc, lv, st, μ, hr => by
    have hr : g_step P (g_n P n) pc lv st μ = some r := hr
    unfold g_step at hr
    split at hr
    · rename_i f hf
      exact g_find_ok hd h hf p e R s m args below meth c hC r lv st μ _ hr (fun pc' lv' st' μ' h' => g_snd hd h hC r n pc' lv' st' μ' h')
    · cases hr
theorem g_lv_args {ad : Nat → Nat} : ∀ (as : List Value) (k i : Nat) (v : Value), (g_lv as)[i]? = some (some v) → (k + i, gv ad v) ∈ lv_args k (as.map (gv ad))
  | [], _, _, _, h => by simp [g_lv] at h
  | a :: as, k, i, v, h => by
    unfold g_lv at h
    rw [List.map_cons]
    by_cases h2 : a.category = 2
    · rw [h2] at h
      have h : (some a :: none :: g_lv as)[i]? = some (some v) := h
      match i, h with
      | 0, h => cases h; simp [lv_args, gv_cat, h2]
      | 1, h => cases h
      | i + 2, h =>
        have := g_lv_args (ad := ad) as (k + 2) i v (by simpa using h)
        simp only [lv_args, gv_cat, h2]
        simp only [if_true]
        refine List.mem_cons_of_mem _ ?_
        rw [show k + (i + 2) = k + 2 + i by omega]
        exact this
    · have h1 : a.category = 1 := by rcases lv_cat a with q | q; exact q; exact absurd q h2
      rw [h1] at h
      have h : (some a :: g_lv as)[i]? = some (some v) := h
      match i, h with
      | 0, h => cases h; simp [lv_args, gv_cat, h1]
      | i + 1, h =>
        have := g_lv_args (ad := ad) as (k + 1) i v (by simpa using h)
        simp only [lv_args, gv_cat, h1]
        simp only [show ¬ ((1 : Nat) = 2) by decide, if_false]
        refine List.mem_cons_of_mem _ ?_
        rw [show k + (i + 1) = k + 1 + i by omega]
        exact this
theorem g_lv_sl {ad : Nat → Nat} : ∀ as : List Value, (lg_sl (as.map (gv ad))).length = (g_lv as).length
  | [] => rfl
  | a :: as => by
    have ih := g_lv_sl (ad := ad) as
    unfold lg_sl at ih ⊢
    rw [List.map_cons, List.flatMap_cons, List.length_append, ih, gv_cat]
    by_cases h2 : a.category = 2
    · rw [if_pos h2]
      rw [show g_lv (a :: as) = some a :: none :: g_lv as by rw [g_lv, h2]]
      simp; omega
    · have h1 : a.category = 1 := by rcases lv_cat a with q | q; exact q; exact absurd q h2
      rw [if_neg h2]
      rw [show g_lv (a :: as) = some a :: g_lv as by rw [g_lv, h1]]
      simp; omega
/-- THE CONTRACT of a method, out of a run of its instructions in the abstract machine -/
theorem gMt_of {w : gWo} {l : Launch} {y : MethodName} {M : gMi} {P : gP} {as : List Value} {μ : gMem} {r : gR} (hy : plainFor y = true) (hown : M.2.2.1 = y.cls) (hd : gDec M P) (hok : gOks w l M P) (hr : g_m P M.2.1 as μ = some r) : gMt w l y M as μ r := by
  unfold g_m at hr
  split at hr
  case h_2 => cases hr
  rename_i hlen
  have hlen := Nat.le_of_ble_eq_true hlen
  obtain ⟨n, hn⟩ := g_run_n hr
  refine va_MetF (cc := M.1) (maxL := M.2.1) (ret := M.2.2.2.1) hy rfl ?_
  intro p e s m args below meth c s₁ B hml hv
  obtain ⟨rfl, hP, hK, hI, hZ⟩ := hv
  have hts := atoms_spec (ws := .code y M.1 M.2.1 M.2.2.2.1 :: gtb) B.pre
  have hown2 : s.vm.findClass M.2.2.1 = some m.cls := by rw [hown]; exact findClass_of_methodNamed B.named
  have hC : gC w M p (headSpec (.code y M.1 M.2.1 M.2.2.2.1 :: gtb) (gRm M.2.2.2.2)).room s m (as.map (gv w.2.2.2)).toArray meth c := ⟨B.exec, B.bytes, hml, hown2, fun x hx => hts x (List.mem_cons_of_mem _ hx), B.returns, B.notSynchronized, rfl, hK, hI, hZ⟩
  have hl := lv_entry (as.map (gv w.2.2.2)) (n := M.2.1) (by rw [g_lv_sl]; exact hlen)
  rw [lg_entry_eq]
  generalize (lg_sl (as.map (gv w.2.2.2)) ++ List.replicate (M.2.1 - (lg_sl (as.map (gv w.2.2.2))).length) Slot.unset).toArray = ls at hl ⊢
  refine g_snd hd hok hC r n 0 (g_lvs as M.2.1) [] μ hn s.heap [] ls hP va_S.rf ⟨?_, hl.1, hl.2.1, fun i v hi => ?_⟩
  · unfold g_lvs
    rw [List.length_append, List.length_replicate]
    omega
  · refine hl.2.2 (i, gv w.2.2.2 v) ?_
    unfold g_lvs at hi
    by_cases hlt : i < (g_lv as).length
    · rw [List.getElem?_append_left hlt] at hi
      have := g_lv_args (ad := w.2.2.2) as 0 i v hi
      rwa [Nat.zero_add] at this
    · rw [List.getElem?_append_right (by omega), List.getElem?_replicate] at hi
      split at hi <;> cases hi
