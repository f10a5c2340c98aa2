/-! soundness, third: fields, rows, calls, ends; a method's contract -/
theorem gFs_get {w : gWo} {μ : gMem} {c k f : Nat} (h : f < g_nf k) : (gFs w μ c k)[f]? = some (match w.2.2.1.2 c f with | some t => .ref (w.2.2.2 t) | none => .int (μ.1 c f)) := by
  simp [gFs, h]
  rfl
theorem gFs_set {w : gWo} {μ : gMem} {c k f : Nat} {x : Int32} (hn : w.2.2.1.2 c f = none) : (gFs w μ c k).set f (.int x) = gFs w (gwI μ c f x) c k := by
  apply List.ext_getElem?
  intro i
  rw [List.getElem?_set]
  by_cases hi : i < g_nf k
  · rw [gFs_get hi, gFs_get hi]
    by_cases e : f = i
    · subst e
      rw [if_pos rfl, if_pos (by simp [gFs]; exact hi), hn]
      simp [gwI]
    · rw [if_neg e]
      cases w.2.2.1.2 c i with
      | some t => rfl
      | none =>
        simp [gwI]
        exact fun q => absurd q.symm e
  · have h1 : ∀ μ, (gFs w μ c k)[i]? = none := fun μ => List.getElem?_eq_none (by simp [gFs]; omega)
    rw [h1, h1]
    split
    · rename_i e
      rw [if_neg]
      simp [gFs]; omega
    · rfl
theorem gwI_upd {μ : gMem} {c i : Nat} {x : Int32} : (gwI μ c i x).1 c = upd (μ.1 c) i x := by
  funext j; by_cases h : j = i <;> simp [gwI, upd, h]
theorem gwL_upd {μ : gMem} {c i : Nat} {x : Int64} : (gwL μ c i x).2 c = vp_updL (μ.2 c) i x := by
  funext j; by_cases h : j = i <;> simp [gwL, vp_updL, h]
theorem g_01_n {x : Int32} (h : g_01 x = true) : narrow .boolean (.int x) = .int x ∧ fits .boolean (.int x) = true ∧ vp_nar .boolean x = x := by
  simp only [g_01, Bool.or_eq_true, decide_eq_true_eq] at h
  rcases h with rfl | rfl
  · exact ⟨rfl, rfl, rfl⟩
  · exact ⟨rfl, rfl, rfl⟩
section OK3
variable {w : gWo} {l : Launch} {M : gMi} {pc : Nat}
theorem ok_getfield {ci f N index : Nat} {C : String} {T : u_T} (hd : decode M.1 pc = .ok (.getfield index, 3)) (hc : gcl[ci]? = some (C, T, N)) (hin : ∀ x ∈ u_ws C T N, x ∈ gtb) (hlt : f < N) (hw : Cond.fieldLink M.2.2.1 index (T f).1 (T f).2.1 (T f).2.2.1 ∈ gtb) : gOk w l M pc (i_gfd w.2.2.1 ci f) := by
  intro p e R s m args below meth c hC r lv st μ k hf hk H locs ls hP hS hl
  obtain ⟨hx, hb, hml, hown, hts, hr, hlk, hR, hK, hI, hZ⟩ := hC
  have hnf : f < g_nf ci := by unfold g_nf; rw [hc]; exact hlt
  unfold i_gfd at hf
  split at hf
  · split at hf
    · rename_i c0 rr _ ho
      obtain ⟨h1, h2⟩ := g_isO_spec ho
      have he := gW_get (w := w) (μ := μ) h1
      rw [gE_obj h2] at he
      have hg := gFs_get (w := w) (μ := μ) (c := c0) hnf
      split at hf
      · rename_i t ht
        rw [ht] at hg
        exact va_get hx hb hts hin hown hK hP c0 he hc f hlt (hts _ hw) (fun _ h => h) hg hd (hk _ _ _ _ hf H locs ls hP hS hl)
      · rename_i ht
        rw [ht] at hg
        exact va_get hx hb hts hin hown hK hP c0 he hc f hlt (hts _ hw) (fun _ h => h) hg hd (hk _ _ _ _ hf H locs ls hP hS hl)
    · cases hf
  · cases hf
theorem ok_putfield {ci f N index : Nat} {C : String} {T : u_T} {ty0 : Nat → FieldType} (hd : decode M.1 pc = .ok (.putfield index, 3)) (hc : gcl[ci]? = some (C, T, N)) (hin : ∀ x ∈ u_ws C T N, x ∈ gtb) (hty : ∀ k, k < N → parseFieldDescriptor (T k).2.2.1 = some (ty0 k)) (hnm : ∀ a, a < N → ∀ b, b < N → a ≠ b → (T a).2.1 ≠ (T b).2.1) (hlt : f < N) (hw : Cond.fieldLink M.2.2.1 index (T f).1 (T f).2.1 (T f).2.2.1 ∈ gtb) (hfin : (T f).2.2.2 = false) (hdd : parseFieldDescriptor (T f).2.2.1 = some .int) : gOk w l M pc (i_pfd w.2.2.1 ci f) := by
  intro p e R s m args below meth c hC r lv st μ k hf hk H locs ls hP hS hl
  obtain ⟨hx, hb, hml, hown, hts, hr, hlk, hR, hK, hI, hZ⟩ := hC
  have hnf : f < g_nf ci := by unfold g_nf; rw [hc]; exact hlt
  unfold i_pfd at hf
  split at hf
  · split at hf
    · rename_i x c0 rr _ ho
      obtain ⟨ho, hno⟩ := (Bool.and_eq_true _ _).mp ho
      have hno := Option.isNone_iff_eq_none.mp hno
      obtain ⟨h1, h2⟩ := g_isO_spec ho
      have he := gW_get (w := w) (μ := μ) h1
      rw [gE_obj h2] at he
      refine va_put hx hb hts hin ty0 hty hnm hown hK hP (gW_D hI) hS c0 he hc f hlt (hts _ hw) (fun _ h => h) hfin hdd rfl rfl (by simp [gFs]; exact hnf) hd (fun H1 locs1 hP1 _ hS1 => ?_)
      have e1 : (gW w μ).set c0 (w.2.2.2 c0, .inr (ci, (gFs w μ c0 ci).set f (.int x))) = gW w (gwI μ c0 f x) := gW_set h1 (by rw [gE_obj h2, gFs_set hno]) (fun c' hne => gE_wI c' hne)
      have hP2 : va_P w.1 gcl (gW w (gwI μ c0 f x)) H1 := e1 ▸ hP1
      exact hk _ _ _ _ hf H1 locs1 ls hP2 hS1 hl
    · cases hf
  · cases hf
theorem ok_putfieldZ {ci f N index : Nat} {C : String} {T : u_T} {ty0 : Nat → FieldType} (hd : decode M.1 pc = .ok (.putfield index, 3)) (hc : gcl[ci]? = some (C, T, N)) (hin : ∀ x ∈ u_ws C T N, x ∈ gtb) (hty : ∀ k, k < N → parseFieldDescriptor (T k).2.2.1 = some (ty0 k)) (hnm : ∀ a, a < N → ∀ b, b < N → a ≠ b → (T a).2.1 ≠ (T b).2.1) (hlt : f < N) (hw : Cond.fieldLink M.2.2.1 index (T f).1 (T f).2.1 (T f).2.2.1 ∈ gtb) (hfin : (T f).2.2.2 = false) (hdd : parseFieldDescriptor (T f).2.2.1 = some .boolean) : gOk w l M pc (i_pfz w.2.2.1 ci f) := by
  intro p e R s m args below meth c hC r lv st μ k hf hk H locs ls hP hS hl
  obtain ⟨hx, hb, hml, hown, hts, hr, hlk, hR, hK, hI, hZ⟩ := hC
  have hnf : f < g_nf ci := by unfold g_nf; rw [hc]; exact hlt
  unfold i_pfz at hf
  split at hf
  · split at hf
    · rename_i x c0 rr _ ho
      split at hf
      · rename_i h01
        obtain ⟨ho, hno⟩ := (Bool.and_eq_true _ _).mp ho
        have hno := Option.isNone_iff_eq_none.mp hno
        obtain ⟨h1, h2⟩ := g_isO_spec ho
        have he := gW_get (w := w) (μ := μ) h1
        rw [gE_obj h2] at he
        refine va_put hx hb hts hin ty0 hty hnm hown hK hP (gW_D hI) hS c0 he hc f hlt (hts _ hw) (fun _ h => h) hfin hdd (g_01_n h01).1 (g_01_n h01).2.1 (by simp [gFs]; exact hnf) hd (fun H1 locs1 hP1 _ hS1 => ?_)
        have e1 : (gW w μ).set c0 (w.2.2.2 c0, .inr (ci, (gFs w μ c0 ci).set f (.int x))) = gW w (gwI μ c0 f x) := gW_set h1 (by rw [gE_obj h2, gFs_set hno]) (fun c' hne => gE_wI c' hne)
        have hP2 : va_P w.1 gcl (gW w (gwI μ c0 f x)) H1 := e1 ▸ hP1
        exact hk _ _ _ _ hf H1 locs1 ls hP2 hS1 hl
      · cases hf
    · cases hf
  · cases hf
/-- the three static rows -/
def gSr (id : Nat) (C n : String) (tb : List Int32) : Prop := ∀ (w : gWo) (U : State) (H : Heap), gSt w U H → gS1 C n (w.2.2.2 id) tb (gA w) U H
theorem gSr0 : gSr 1000 "GangMatrix$Blocks" "ALIGNED" g_t0 := fun _ _ _ h => h.1
theorem gSr1 : gSr 1001 "GangMatrix$Board" "LEAST_TOLD" g_t1 := fun _ _ _ h => h.2.1
theorem gSr2 : gSr 1002 "GangMatrix$Board" "MOST_TOLD" g_t2 := fun _ _ _ h => h.2.2
theorem ok_getstatic {id index : Nat} {C n : String} {tb : List Int32} (hd : decode M.1 pc = .ok (.getstatic index, 3)) (hs : gSr id C n tb) (hw : Cond.fieldLink M.2.2.1 index C n "[I" ∈ gtb) : gOk w l M pc (i_gst id) := by
  intro p e R s m args below meth c hC r lv st μ k hf hk H locs ls hP hS hl
  obtain ⟨hx, hb, hml, hown, hts, hr, hlk, hR, hK, hI, hZ⟩ := hC
  exact va_gets hx hb (hs w s s.heap hZ).1 hS hown (hts _ hw) (fun _ h => h) hd (hk _ _ _ _ hf H locs ls hP hS hl)
theorem ok_tload {id : Nat} {C n : String} {tb : List Int32} (hd : decode M.1 pc = .ok (.iaload, 1)) (hs : gSr id C n tb) : gOk w l M pc (i_tld id tb) := by
  intro p e R s m args below meth c hC r lv st μ k hf hk H locs ls hP hS hl
  obtain ⟨hx, hb, hml, hown, hts, hr, hlk, hR, hK, hI, hZ⟩ := hC
  unfold i_tld at hf
  split at hf
  · split at hf
    · split at hf
      · rename_i i c0 rr _ hc0 hi
        have hc0 := Nat.eq_of_beq_eq_true hc0
        subst hc0
        exact va_ti hx hb (hs w s s.heap hZ).2 hS (g_in_vp.mp hi) rfl hd (hk _ _ _ _ hf H locs ls hP hS hl)
      · cases hf
    · cases hf
  · cases hf
theorem ok_tlen {id : Nat} {C n : String} {tb : List Int32} {v : Int32} (hd : decode M.1 pc = .ok (.arraylength, 1)) (hs : gSr id C n tb) (hv : Int32.ofNat tb.length = v) : gOk w l M pc (i_tln id v) := by
  intro p e R s m args below meth c hC r lv st μ k hf hk H locs ls hP hS hl
  obtain ⟨hx, hb, hml, hown, hts, hr, hlk, hR, hK, hI, hZ⟩ := hC
  unfold i_tln at hf
  split at hf
  · split at hf
    · rename_i c0 rr _ hc0
      have hc0 := Nat.eq_of_beq_eq_true hc0
      subst hc0
      exact va_tlen hx hb (hs w s s.heap hZ).2 hS hv hd (hk _ _ _ _ hf H locs ls hP hS hl)
    · cases hf
  · cases hf
theorem ok_alen (hd : decode M.1 pc = .ok (.arraylength, 1)) : gOk w l M pc (i_aln w.2.2.1) := by
  intro p e R s m args below meth c hC r lv st μ k hf hk H locs ls hP hS hl
  obtain ⟨hx, hb, hml, hown, hts, hr, hlk, hR, hK, hI, hZ⟩ := hC
  unfold i_aln at hf
  split at hf
  · split at hf
    · rename_i c0 rr _ ho
      obtain ⟨h1, h2⟩ := (Bool.and_eq_true _ _).mp ho
      have h1 := Nat.blt_eq.mp h1
      have h2 := Nat.eq_of_beq_eq_true h2
      have he := gW_get (w := w) (μ := μ) h1
      rw [gE_int (n := (w.2.2.1.1.2 c0).2) (by rw [← h2])] at he
      exact va_alen hx hb hK hP c0 0 he (ty := .int) rfl rfl hd (hk _ _ _ _ hf H locs ls hP hS hl)
    · cases hf
  · cases hf
theorem ok_iaload (hd : decode M.1 pc = .ok (.iaload, 1)) : gOk w l M pc (i_iad w.2.2.1) := by
  intro p e R s m args below meth c hC r lv st μ k hf hk H locs ls hP hS hl
  obtain ⟨hx, hb, hml, hown, hts, hr, hlk, hR, hK, hI, hZ⟩ := hC
  unfold i_iad at hf
  split at hf
  · split at hf
    · rename_i i c0 rr hi
      obtain ⟨h1, h2, h3⟩ := gLen_spec (n := 0) hi
      have he := gW_get (w := w) (μ := μ) h1
      rw [gE_int h2] at he
      exact va_iald hx hb hK hP c0 0 he rfl h3 hd (hk _ _ _ _ hf H locs ls hP hS hl)
    · cases hf
  · cases hf
theorem ok_baload (hd : decode M.1 pc = .ok (.baload, 1)) : gOk w l M pc (i_zad w.2.2.1) := by
  intro p e R s m args below meth c hC r lv st μ k hf hk H locs ls hP hS hl
  obtain ⟨hx, hb, hml, hown, hts, hr, hlk, hR, hK, hI, hZ⟩ := hC
  unfold i_zad at hf
  split at hf
  · split at hf
    · rename_i i c0 rr hi
      obtain ⟨h1, h2, h3⟩ := gLen_spec (n := 0) hi
      have he := gW_get (w := w) (μ := μ) h1
      rw [gE_bol h2] at he
      exact va_zald hx hb hK hP c0 2 he rfl h3 hd (hk _ _ _ _ hf H locs ls hP hS hl)
    · cases hf
  · cases hf
theorem ok_laload (hd : decode M.1 pc = .ok (.laload, 1)) : gOk w l M pc (i_lad w.2.2.1) := by
  intro p e R s m args below meth c hC r lv st μ k hf hk H locs ls hP hS hl
  obtain ⟨hx, hb, hml, hown, hts, hr, hlk, hR, hK, hI, hZ⟩ := hC
  unfold i_lad at hf
  split at hf
  · split at hf
    · rename_i i c0 rr hi
      obtain ⟨h1, h2, h3⟩ := gLen_spec (n := 0) hi
      have he := gW_get (w := w) (μ := μ) h1
      rw [gE_lng h2] at he
      exact va_lald hx hb hK hP c0 1 he rfl h3 hd (hk _ _ _ _ hf H locs ls hP hS hl)
    · cases hf
  · cases hf
theorem ok_aaload (hd : decode M.1 pc = .ok (.aaload, 1)) : gOk w l M pc (i_aad w.2.2.1) := by
  intro p e R s m args below meth c hC r lv st μ k hf hk H locs ls hP hS hl
  obtain ⟨hx, hb, hml, hown, hts, hr, hlk, hR, hK, hI, hZ⟩ := hC
  unfold i_aad at hf
  split at hf
  · split at hf
    · rename_i i c0 rr hi
      obtain ⟨h1, h2, h3⟩ := gLen_spec (n := 0) hi
      have he := gW_get (w := w) (μ := μ) h1
      rw [gE_row h2] at he
      have hlt : i.toNatClampNeg < gLen w.2.2.1 3 c0 := Nat.not_le.mp fun q => h3 (Or.inr q)
      refine W.aald (v := .ref (w.2.2.2 (c0 + 1 + i.toNatClampNeg))) (ty := .array .int) hx hb (hP c0 _ he) ((hK.2 3 _ rfl).1 (gLen w.2.2.1 3 c0) (fun j => va_rf (if j < gLen w.2.2.1 3 c0 then some (w.2.2.2 (c0 + 1 + j)) else none))) rfl (fun q => by cases q) (by show ¬ (i < 0 ∨ (arrV _ _ _).slots.size ≤ _); rw [arrV_size]; exact h3) (by show (arrV _ _ _).slots[_]? = _; rw [arrV_read _ _ hlt]; show some (va_rf (if i.toNatClampNeg < gLen w.2.2.1 3 c0 then _ else _)) = _; rw [if_pos hlt]; rfl) rfl rfl hd (hk _ _ _ _ hf H locs ls hP hS hl)
    · cases hf
  · cases hf
theorem ok_iastore (hd : decode M.1 pc = .ok (.iastore, 1)) : gOk w l M pc (i_ias w.2.2.1) := by
  intro p e R s m args below meth c hC r lv st μ k hf hk H locs ls hP hS hl
  obtain ⟨hx, hb, hml, hown, hts, hr, hlk, hR, hK, hI, hZ⟩ := hC
  unfold i_ias at hf
  split at hf
  · split at hf
    · rename_i x i c0 rr hi
      obtain ⟨h1, h2, h3⟩ := gLen_spec (n := 0) hi
      have he := gW_get (w := w) (μ := μ) h1
      rw [gE_int h2] at he
      refine va_iast hx hb hK hP (gW_D hI) hS c0 0 he rfl h3 hd (fun H1 locs1 hP1 _ hS1 => ?_)
      rw [gW_set (μ' := gwI μ c0 i.toNatClampNeg x) h1 (by rw [gE_int h2, gwI_upd]) (fun c' hne => gE_wI c' hne)] at hP1
      exact hk _ _ _ _ hf H1 locs1 ls hP1 hS1 hl
    · cases hf
  · cases hf
theorem ok_bastore (hd : decode M.1 pc = .ok (.bastore, 1)) : gOk w l M pc (i_zas w.2.2.1) := by
  intro p e R s m args below meth c hC r lv st μ k hf hk H locs ls hP hS hl
  obtain ⟨hx, hb, hml, hown, hts, hr, hlk, hR, hK, hI, hZ⟩ := hC
  unfold i_zas at hf
  split at hf
  · split at hf
    · rename_i x i c0 rr hi
      obtain ⟨hi, h01⟩ := (Bool.and_eq_true _ _).mp hi
      obtain ⟨h1, h2, h3⟩ := gLen_spec (n := 0) hi
      have he := gW_get (w := w) (μ := μ) h1
      rw [gE_bol h2] at he
      refine va_zast hx hb hK hP (gW_D hI) hS c0 2 he rfl h3 hd (fun H1 locs1 hP1 _ hS1 => ?_)
      rw [(g_01_n h01).2.2, gW_set (μ' := gwI μ c0 i.toNatClampNeg x) h1 (by rw [gE_bol h2, gwI_upd]) (fun c' hne => gE_wI c' hne)] at hP1
      exact hk _ _ _ _ hf H1 locs1 ls hP1 hS1 hl
    · cases hf
  · cases hf
theorem ok_lastore (hd : decode M.1 pc = .ok (.lastore, 1)) : gOk w l M pc (i_las w.2.2.1) := by
  intro p e R s m args below meth c hC r lv st μ k hf hk H locs ls hP hS hl
  obtain ⟨hx, hb, hml, hown, hts, hr, hlk, hR, hK, hI, hZ⟩ := hC
  unfold i_las at hf
  split at hf
  · split at hf
    · rename_i x i c0 rr hi
      obtain ⟨h1, h2, h3⟩ := gLen_spec (n := 0) hi
      have he := gW_get (w := w) (μ := μ) h1
      rw [gE_lng h2] at he
      refine va_last hx hb hK hP (gW_D hI) hS c0 1 he rfl h3 hd (fun H1 locs1 hP1 _ hS1 => ?_)
      rw [gW_set (μ' := gwL μ c0 i.toNatClampNeg x) h1 (by rw [gE_lng h2, gwL_upd]) (fun c' hne => gE_wL c' hne)] at hP1
      exact hk _ _ _ _ hf H1 locs1 ls hP1 hS1 hl
    · cases hf
  · cases hf
theorem gcI_cpy {μ : gMem} {a d n : Nat} : (gcI μ a d n).1 d = va_cpy (μ.1 a) (μ.1 d) 0 0 n := by
  funext j; simp [gcI, va_cpy]
theorem gcL_cpy {μ : gMem} {a d n : Nat} : (gcL μ a d n).2 d = va_cpy (μ.2 a) (μ.2 d) 0 0 n := by
  funext j; simp [gcL, va_cpy]
theorem g_cok_spec {st : List Value} {ad : Nat → Nat} (h : g_cok st = true) : ((st.map (gv ad)).map fun v => v.category).sum ≤ 8 := by
  have e : ((st.map (gv ad)).map fun v => v.category) = st.map fun v => v.category := by
    rw [List.map_map]; exact List.map_congr_left (fun v _ => gv_cat ad v)
  rw [e]; exact Nat.le_of_ble_eq_true h
theorem ok_copyI {index : Nat} (hd : decode M.1 pc = .ok (.invokestatic index, 3)) (hw : Cond.methodLink M.2.2.1 index arraycopyName ∈ gtb) (hw2 : Cond.native arraycopyName ∈ gtb) (hw3 : Cond.static arraycopyName ∈ gtb) (hw4 : Cond.initialized "java/lang/System" ∈ gtb) (hh : 1 ≤ M.2.2.2.2) : gOk w l M pc (i_aci w.2.2.1) := by
  intro p e R s m args below meth c hC r lv st μ k hf hk H locs ls hP hS hl
  obtain ⟨hx, hb, hml, hown, hts, hr, hlk, hR, hK, hI, hZ⟩ := hC
  unfold i_aci at hf
  split at hf
  · split at hf
    · split at hf
      · rename_i n dp d sp a rr _ hco hq
        obtain ⟨rfl, rfl, hn, ha, hd2, ha0, hd0⟩ := hq
        obtain ⟨a1, a2⟩ := gLen_pos ha0
        obtain ⟨d1, d2⟩ := gLen_pos hd0
        have ea := gW_get (w := w) (μ := μ) a1
        have ed := gW_get (w := w) (μ := μ) d1
        rw [gE_int a2] at ea
        rw [gE_int d2] at ed
        refine va_copyi hx hb (by rw [hml, hl.2.1]) hown (hts _ hw) (hts _ hw2) (hts _ hw3) (hts _ hw4) hK hP (gW_D hI) hS a d 0 0 ea ed rfl rfl rfl (by decide) (by decide) hn (by simpa using ha) (by simpa using hd2) (fun _ _ => rfl) (by rw [hR]; exact hh) ?_ hd (fun H1 locs1 hP1 _ hS1 => ?_)
        · have h8 := g_cok_spec (ad := w.2.2.2) hco
          rw [hR]
          show _ + (7 + 11) ≤ 40 * M.2.2.2.2
          omega
        · rw [gW_set (μ' := gcI μ a d n.toNatClampNeg) d1 (by rw [gE_int d2, gcI_cpy]; rfl) (fun c' hne => gE_cI c' hne)] at hP1
          exact hk _ _ _ _ hf H1 locs1 ls hP1 hS1 hl
      · cases hf
    · cases hf
  · cases hf
theorem ok_copyL {index : Nat} (hd : decode M.1 pc = .ok (.invokestatic index, 3)) (hw : Cond.methodLink M.2.2.1 index arraycopyName ∈ gtb) (hw2 : Cond.native arraycopyName ∈ gtb) (hw3 : Cond.static arraycopyName ∈ gtb) (hw4 : Cond.initialized "java/lang/System" ∈ gtb) (hh : 1 ≤ M.2.2.2.2) : gOk w l M pc (i_acl w.2.2.1) := by
  intro p e R s m args below meth c hC r lv st μ k hf hk H locs ls hP hS hl
  obtain ⟨hx, hb, hml, hown, hts, hr, hlk, hR, hK, hI, hZ⟩ := hC
  unfold i_acl at hf
  split at hf
  · split at hf
    · split at hf
      · rename_i n dp d sp a rr _ hco hq
        obtain ⟨rfl, rfl, hn, ha, hd2, ha0, hd0⟩ := hq
        obtain ⟨a1, a2⟩ := gLen_pos ha0
        obtain ⟨d1, d2⟩ := gLen_pos hd0
        have ea := gW_get (w := w) (μ := μ) a1
        have ed := gW_get (w := w) (μ := μ) d1
        rw [gE_lng a2] at ea
        rw [gE_lng d2] at ed
        refine va_copyl hx hb (by rw [hml, hl.2.1]) hown (hts _ hw) (hts _ hw2) (hts _ hw3) (hts _ hw4) hK hP (gW_D hI) hS a d 1 1 ea ed rfl rfl rfl (by decide) (by decide) hn (by simpa using ha) (by simpa using hd2) (fun _ _ => rfl) (by rw [hR]; exact hh) ?_ hd (fun H1 locs1 hP1 _ hS1 => ?_)
        · have h8 := g_cok_spec (ad := w.2.2.2) hco
          rw [hR]
          show _ + (7 + 11) ≤ 40 * M.2.2.2.2
          omega
        · rw [gW_set (μ' := gcL μ a d n.toNatClampNeg) d1 (by rw [gE_lng d2, gcL_cpy]; rfl) (fun c' hne => gE_cL c' hne)] at hP1
          exact hk _ _ _ _ hf H1 locs1 ls hP1 hS1 hl
      · cases hf
    · cases hf
  · cases hf
theorem ok_ireturn (hd : decode M.1 pc = .ok (.ireturn, 1)) (hret : M.2.2.2.1 = some .int) : gOk w l M pc i_irt := by
  intro p e R s m args below meth c hC r lv st μ k hf hk H locs ls hP hS hl
  obtain ⟨hx, hb, hml, hown, hts, hr, hlk, hR, hK, hI, hZ⟩ := hC
  unfold i_irt at hf
  split at hf
  · cases hf
    exact W.iret hx hb (by rw [hr, hret]) (fun t ht _ => ⟨rfl, by rw [ht]; exact hP, hS.F ht⟩) hS.2.2 hd hlk
  · cases hf
theorem ok_zreturn (hd : decode M.1 pc = .ok (.ireturn, 1)) (hret : M.2.2.2.1 = some .boolean) : gOk w l M pc i_zrt := by
  intro p e R s m args below meth c hC r lv st μ k hf hk H locs ls hP hS hl
  obtain ⟨hx, hb, hml, hown, hts, hr, hlk, hR, hK, hI, hZ⟩ := hC
  unfold i_zrt at hf
  split at hf
  · split at hf
    · rename_i h01
      cases hf
      exact W.zret hx hb (by rw [hr, hret]) (g_01_n h01).1 (fun t ht _ => ⟨rfl, by rw [ht]; exact hP, hS.F ht⟩) hS.2.2 hd hlk
    · cases hf
  · cases hf
theorem ok_lreturn (hd : decode M.1 pc = .ok (.lreturn, 1)) (hret : M.2.2.2.1 = some .long) : gOk w l M pc i_lrt := by
  intro p e R s m args below meth c hC r lv st μ k hf hk H locs ls hP hS hl
  obtain ⟨hx, hb, hml, hown, hts, hr, hlk, hR, hK, hI, hZ⟩ := hC
  unfold i_lrt at hf
  split at hf
  · cases hf
    exact W.lret hx hb (by rw [hr, hret]) (fun t ht _ => ⟨rfl, by rw [ht]; exact hP, hS.F ht⟩) hS.2.2 hd hlk
  · cases hf
theorem ok_vreturn (hd : decode M.1 pc = .ok (.return_, 1)) (hret : M.2.2.2.1 = none) : gOk w l M pc i_vrt := by
  intro p e R s m args below meth c hC r lv st μ k hf hk H locs ls hP hS hl
  obtain ⟨hx, hb, hml, hown, hts, hr, hlk, hR, hK, hI, hZ⟩ := hC
  unfold i_vrt at hf
  split at hf
  · cases hf
    exact W.vret hx hb (by rw [hr, hret]) (fun t ht _ => ⟨rfl, by rw [ht]; exact hP, hS.F ht⟩) hS.2.2 hd hlk
  · cases hf
end OK3
