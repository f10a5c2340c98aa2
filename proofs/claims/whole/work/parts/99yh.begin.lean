theorem lwd_in : ∀ e ∈ ([(0, .new 7, 3), (3, .dup, 1), (4, .invokespecial 9, 3), (7, .astore_n 1, 1), (8, .new 10, 3), (11, .dup, 1), (12, .invokespecial 12, 3), (15, .astore_n 2, 1), (16, .iconst 0, 1), (17, .istore_n 3, 1)] : List (Nat × Instr × Nat)), decode code e.1 = .ok (e.2.1, e.2.2) := by decide +kernel
theorem ad1_in {h : Nat} {st : Nat → Nat} {c : Nat} (hc : c < 182) : h ≤ ad1 h st c ∧ ad1 h st c < h + 182 := by
  unfold ad1
  by_cases q : c < 177
  · rw [if_pos q]; omega
  · rw [if_neg q]
    by_cases q2 : c = 177
    · rw [if_pos q2]; omega
    · rw [if_neg q2, if_pos hc]; omega
theorem ad1_inj {h : Nat} {st : Nat → Nat} {c d : Nat} (hc : c < 182) (hd : d < 182) (he : ad1 h st c = ad1 h st d) : c = d := by
  unfold ad1 at he
  by_cases q : c < 177 <;> by_cases q2 : c = 177 <;> by_cases q3 : d < 177 <;> by_cases q4 : d = 177 <;> simp [q, q2, q3, q4, hc, hd] at he <;> omega
theorem gW_P {D : va_G} {τ : ClassId × ClassId × ClassId × ClassId} {L : gLay} {a : Nat → Nat} {μ : gMem} {H : Heap} (h : ∀ c, c < L.1.1 → va_at D gcl (a c, gE (D, τ, L, a) μ c) H) : va_P D gcl (gW (D, τ, L, a) μ) H := fun k q hq => by
  have hk : k < L.1.1 := by
    have := (List.getElem?_eq_some_iff.mp hq).1
    rwa [gW_len] at this
  rw [gW_get (w := (D, τ, L, a)) (μ := μ) hk] at hq
  cases hq
  exact h k hk
set_option maxRecDepth 40000 in
set_option maxHeartbeats 4000000 in
/-- from the entry the law comes to its loop, with both objects new -/
theorem law_start {p : Program} {e : Env} {s : State} {m : MethodId} {below : List Frame} {meth : Method} {c : Code} (l : Launch) {b L : Nat} {xs : Nat → Int32} (hL : L ≤ 2560) (C0 : lw_At p s m meth c b L xs) : W p l e room_1 s m #[Value.ref b] below meth c s.heap [] 0 0 (lw_Z below #[Value.ref b] s) (entryFrame m ([Value.ref b] : List Value).toArray 4) := by
  obtain ⟨hx, hb, hr, hml, hown, hts0, hX0, hbl, hlocks, hgv⟩ := id C0
  have hts : ∀ w ∈ gtb, w.before #[Value.ref b] s = true := fun w hw => hts0 w (gtb_lw hw)
  obtain ⟨D, hD⟩ := known_all hts
  obtain ⟨τ, hX, hT⟩ := known_arr hts0
  have hK : va_K D gcl [(τ.1, FieldType.int), (τ.2.1, .long), (τ.2.2.1, .boolean), (τ.2.2.2, .array .int)] s := ⟨hD, hT⟩
  obtain ⟨t0, t1, t2, hst⟩ := stats hts0 (flat_of_before _ hgv)
  have d0 : decode code 0 = .ok (.new 7, 3) := lwd_in (0, .new 7, 3) (List.mem_of_getElem? (i := 0) rfl)
  have d3 : decode code 3 = .ok (.dup, 1) := lwd_in (3, .dup, 1) (List.mem_of_getElem? (i := 1) rfl)
  have d4 : decode code 4 = .ok (.invokespecial 9, 3) := lwd_in (4, .invokespecial 9, 3) (List.mem_of_getElem? (i := 2) rfl)
  have d7 : decode code 7 = .ok (.astore_n 1, 1) := lwd_in (7, .astore_n 1, 1) (List.mem_of_getElem? (i := 3) rfl)
  have d8 : decode code 8 = .ok (.new 10, 3) := lwd_in (8, .new 10, 3) (List.mem_of_getElem? (i := 4) rfl)
  have d11 : decode code 11 = .ok (.dup, 1) := lwd_in (11, .dup, 1) (List.mem_of_getElem? (i := 5) rfl)
  have d12 : decode code 12 = .ok (.invokespecial 12, 3) := lwd_in (12, .invokespecial 12, 3) (List.mem_of_getElem? (i := 6) rfl)
  have d15 : decode code 15 = .ok (.astore_n 2, 1) := lwd_in (15, .astore_n 2, 1) (List.mem_of_getElem? (i := 7) rfl)
  have d16 : decode code 16 = .ok (.iconst 0, 1) := lwd_in (16, .iconst 0, 1) (List.mem_of_getElem? (i := 8) rfl)
  have d17 : decode code 17 = .ok (.istore_n 3, 1) := lwd_in (17, .istore_n 3, 1) (List.mem_of_getElem? (i := 9) rfl)
  have hl := lv_entry ([.ref b]) (n := 4) (Nat.le_of_ble_eq_true rfl)
  rw [lg_entry_eq]
  generalize (lg_sl ([.ref b]) ++ List.replicate (4 - (lg_sl ([.ref b])).length) Slot.unset).toArray = ls at hl ⊢
  have hl : lv_has ls 4 [(0, .ref b)] := hl
  have hS : va_S (fun q : Nat => s.heap.size ≤ q) s.heap s.heap [] := va_S.rf
  have hG : gc D s.heap.size [] s.heap := ⟨rfl, fun i x h => by simp at h⟩
  refine gnew (ci := 0) (fs := [.null, .null, .null, .null, .int 0]) (n := 0) hx hb hts hown hK hG hS inX9 tyX9_ok rfl eq_c9 eq_i9 eq_n9 dfX9 rfl (Nat.le_of_ble_eq_true rfl) (Nat.le_of_ble_eq_true rfl) d0 (fun H hG hS => ?_)
  refine lv_dup hx hb d3 rfl ?_
  refine gctor (τ := τ) (ci := 0) (fs := [.null, .null, .null, .null, .int 0]) (cd := cX9_init) (nL := 1) (nL' := 4) (h := 3) (mc := 181) (ms := 7494) (k := 0) (n := 0) (as := []) (pre := []) (rest := [.ref (s.heap.size + 0)]) hx hb hml hts hown hK hX hG hS hl.1 rfl (ctX9 D τ l (s.heap.size + 0)) (fun U g mk a h => h) (fun U hU => trivial) eq_l9 eq_k9 eq_n9 eq_m9 rfl (by decide +kernel) rfl ⟨Nat.le_of_ble_eq_true rfl, Nat.le_of_ble_eq_true rfl⟩ (Nat.le_of_ble_eq_true rfl) ⟨Nat.le_of_ble_eq_true rfl, Nat.le_of_ble_eq_true rfl⟩ d4 (fun H locs hG hS => ?_)
  have hG : gc D s.heap.size (F9 τ s.heap.size) H := hG
  refine lv_astore_n (lv' := [(1, .ref s.heap.size), (0, .ref b)]) hx hb d7 rfl hl (by decide) rfl (fun ls hl => ?_)
  refine gnew (ci := 9) (n := 182) hx hb hts hown hK hG hS inX10 tyX10_ok rfl eq_c10 eq_i10 eq_n10 dfX10 rfl (Nat.le_of_ble_eq_true rfl) (Nat.le_of_ble_eq_true rfl) d8 (fun H hG hS => ?_)
  refine lv_dup hx hb d11 rfl ?_
  refine gctor (τ := τ) (ci := 9) (cd := cX10_init) (nL := 1) (nL' := 4) (h := 1) (mc := 16) (ms := 6691) (k := 0) (n := 182) (as := []) (pre := F9 τ s.heap.size) (rest := [.ref (s.heap.size + 182)]) hx hb hml hts hown hK hX hG hS hl.1 rfl (ctX10 D τ l (s.heap.size + 182)) (fun U g mk a h => h) (fun U hU => trivial) eq_l10 eq_k10 eq_n10 eq_m10 rfl (by decide +kernel) rfl ⟨Nat.le_of_ble_eq_true rfl, Nat.le_of_ble_eq_true rfl⟩ (Nat.le_of_ble_eq_true rfl) ⟨Nat.le_of_ble_eq_true rfl, Nat.le_of_ble_eq_true rfl⟩ d12 (fun H locs hG hS => ?_)
  have hG : gc D s.heap.size (F9 τ s.heap.size ++ F10 τ (s.heap.size + 182)) H := hG
  refine lv_astore_n (lv' := [(2, .ref (s.heap.size + 182)), (1, .ref s.heap.size), (0, .ref b)]) hx hb d15 rfl hl (by decide) rfl (fun ls hl => ?_)
  refine lv_iconst (v := 0) hx hb d16 (by decide) ?_
  refine lv_istore_n (lv' := [(3, .int 0), (2, .ref (s.heap.size + 182)), (1, .ref s.heap.size), (0, .ref b)]) hx hb d17 rfl hl (by decide) rfl (fun ls hl => ?_)
  generalize hst0 : (fun c : Nat => if c = 1000 then t0 else if c = 1001 then t1 else t2) = st
  have s0 : st 1000 = t0 := by rw [← hst0]; rfl
  have s1 : st 1001 = t1 := by rw [← hst0]; rfl
  have s2 : st 1002 = t2 := by rw [← hst0]; rfl
  have hlen9 : (F9 τ s.heap.size).length = 182 := rfl
  have w9 : va_P D gcl (gW (D, τ, LC, ad1 s.heap.size st) mu0) H := gW_P (L := LC) (world9 (st := st) (fun i x hi => hG.2 i x (by rw [List.getElem?_append_left (List.getElem?_eq_some_iff.mp hi).1]; exact hi)))
  have w10 : va_P D gcl (gW (D, τ, LM, ad2 (s.heap.size + 182) st) nu0) H := gW_P (L := LM) (world10 (st := st) (fun i x hi => by
    have q := hG.2 (182 + i) x (by rw [List.getElem?_append_right (by rw [hlen9]; omega), hlen9, Nat.add_sub_cancel_left]; exact hi)
    rwa [← Nat.add_assoc] at q))
  have hA1 : ∀ a : Nat, a < s.heap.size → ¬ gA (D, τ, LC, ad1 s.heap.size st) a := fun a ha hq => by
    obtain ⟨k, hk, e1⟩ := hq
    have e2 : a = ad1 s.heap.size st k := e1
    have := (ad1_in (h := s.heap.size) (st := st) (show k < 182 from hk)).1
    omega
  have hA2 : ∀ a : Nat, a < s.heap.size → ¬ gA (D, τ, LM, ad2 (s.heap.size + 182) st) a := fun a ha hq => by
    obtain ⟨k, hk, e1⟩ := hq
    have hk : k < 17 := hk
    have e2 : a = ad2 (s.heap.size + 182) st k := e1
    unfold ad2 at e2
    rw [if_pos hk] at e2
    omega
  have z1 : gSt (D, τ, LC, ad1 s.heap.size st) s s.heap := by
    have := hst _ hA1
    unfold gSt
    show gS1 _ _ (ad1 s.heap.size st 1000) _ _ _ _ ∧ gS1 _ _ (ad1 s.heap.size st 1001) _ _ _ _ ∧ gS1 _ _ (ad1 s.heap.size st 1002) _ _ _ _
    rw [show ad1 s.heap.size st 1000 = t0 from s0, show ad1 s.heap.size st 1001 = t1 from s1, show ad1 s.heap.size st 1002 = t2 from s2]
    exact this
  have z2 : gSt (D, τ, LM, ad2 (s.heap.size + 182) st) s s.heap := by
    have := hst _ hA2
    unfold gSt
    show gS1 _ _ (ad2 (s.heap.size + 182) st 1000) _ _ _ _ ∧ gS1 _ _ (ad2 (s.heap.size + 182) st 1001) _ _ _ _ ∧ gS1 _ _ (ad2 (s.heap.size + 182) st 1002) _ _ _ _
    rw [show ad2 (s.heap.size + 182) st 1000 = t0 from s0, show ad2 (s.heap.size + 182) st 1001 = t1 from s1, show ad2 (s.heap.size + 182) st 1002 = t2 from s2]
    exact this
  have F : LF D τ (ad1 s.heap.size st) (ad2 (s.heap.size + 182) st) s := by
    refine ⟨hK, fun i j hi hj he => ad1_inj hi hj he, fun i j hi hj he => ?_, z1, z2, fun c hc => (ad1_in hc).1, fun c hc => ?_, fun c d hc hd => ?_⟩
    · have hi : i < 17 := hi
      have hj : j < 17 := hj
      have he : ad2 (s.heap.size + 182) st i = ad2 (s.heap.size + 182) st j := he
      unfold ad2 at he
      rw [if_pos hi, if_pos hj] at he
      omega
    · unfold ad2
      rw [if_pos hc]; omega
    · have := (ad1_in (h := s.heap.size) (st := st) hc).2
      unfold ad2
      rw [if_pos hd]; omega
  exact law_loop C0 hL F ⟨Nat.le_of_ble_eq_true rfl, Nat.le_of_ble_eq_true rfl⟩ all_ok Rl_mono L 0 (by omega) (by omega) H _ ls mu0 nu0 ⟨w9, w10, hS⟩ Rl0 (lv_sub hl [3, 2, 1, 0] rfl)
