/-! a board's contract serves in the class's world -/
theorem Met.cons {l : Launch} {y : MethodName} {ws : List Cond} {rm : Room} {Pc Pc' : Array Value → State → Prop} {Qc Qc' : Array Value → State → Outcome → State → Prop} {mc ms : Nat} {free free' : Addr → Prop} (h : Met l y ws rm Pc Qc mc ms free) (hP : ∀ a s, Pc' a s → Pc a s) (hQ : ∀ a s o t, Pc' a s → Qc a s o t → Qc' a s o t) (hF : ∀ q, free q → free' q) : Met l y ws rm Pc' Qc' mc ms free' := by
  intro p e ha hc hk s m args below hf happ hp hK
  obtain ⟨n, o, h1, h2, h3, h4, L, h5, h6⟩ := h p e ha hc hk s m args below hf happ (hP _ _ hp) hK
  exact ⟨n, o, h1, h2, h3, hQ _ _ _ _ hp h4, L, h5, fun q hq => hF _ (h6 q hq)⟩
theorem LC_k_eq : ∀ o, (o = 0 ∨ o = 59 ∨ o = 118) → ∀ k, k < 59 → LC_k (o + k) = LB_k k := by
  intro o ho
  rcases ho with rfl | rfl | rfl <;> decide +kernel
theorem LC_r_eq (o : Nat) (ho : o = 0 ∨ o = 59 ∨ o = 118) (k : Nat) (hk : k < 59) (f : Nat) : LC_r (o + k) f = (LB_r k f).map (o + ·) := by
  rcases ho with rfl | rfl | rfl
  · unfold LC_r
    rw [show Nat.blt (0 + k) 59 = true from Nat.blt_eq.mpr (by omega)]
    rw [Nat.zero_add]
    cases LB_r k f <;> simp
  · unfold LC_r
    rw [show Nat.blt (59 + k) 59 = false from Bool.eq_false_iff.mpr (fun q => by have := Nat.blt_eq.mp q; omega), show Nat.blt (59 + k) 118 = true from Nat.blt_eq.mpr (by omega)]
    rw [show 59 + k - 59 = k by omega]
  · unfold LC_r
    rw [show Nat.blt (118 + k) 59 = false from Bool.eq_false_iff.mpr (fun q => by have := Nat.blt_eq.mp q; omega), show Nat.blt (118 + k) 118 = false from Bool.eq_false_iff.mpr (fun q => by have := Nat.blt_eq.mp q; omega), show Nat.blt (118 + k) 177 = true from Nat.blt_eq.mpr (by omega)]
    rw [show 118 + k - 118 = k by omega]
theorem LB_r_lt {k f t : Nat} (h : LB_r k f = some t) : t < 59 := by
  unfold LB_r at h
  split at h <;> first | (cases h; decide) | cases h
theorem LB_k_row : ∀ k, k < 59 → (LB_k k).1 = 3 → k + 1 + (LB_k k).2 ≤ 59 := by decide +kernel
def g_ad (o : Nat) (ad : Nat → Nat) : Nat → Nat := fun k => if k < 59 then ad (o + k) else ad k
theorem g_ad_lt {o : Nat} {ad : Nat → Nat} {k : Nat} (h : k < 59) : g_ad o ad k = ad (o + k) := by simp [g_ad, h]
theorem gE_lift {D : va_G} {τ : ClassId × ClassId × ClassId × ClassId} {ad : Nat → Nat} {o : Nat} (ho : o = 0 ∨ o = 59 ∨ o = 118) (μ : gMem) {k : Nat} (hk : k < 59) : gE (D, τ, LB, g_ad o ad) (g_vw o μ) k = gE (D, τ, LC, ad) μ (o + k) := by
  have e1 : LC_k (o + k) = LB_k k := LC_k_eq o ho k hk
  rcases hkk : LB_k k with ⟨a, n⟩
  have hB : (D, τ, LB, g_ad o ad).2.2.1.1.2 k = (a, n) := hkk
  have hC : (D, τ, LC, ad).2.2.1.1.2 (o + k) = (a, n) := e1.trans hkk
  have hrow := LB_k_row k hk
  rw [hkk] at hrow
  match a, hB, hC, hrow with
  | 0, hB, hC, _ => rw [gE_int hB, gE_int hC]; rfl
  | 1, hB, hC, _ => rw [gE_lng hB, gE_lng hC]; rfl
  | 2, hB, hC, _ => rw [gE_bol hB, gE_bol hC]; rfl
  | 3, hB, hC, hrow =>
    rw [gE_row hB, gE_row hC]
    have hrow : k + 1 + n ≤ 59 := hrow rfl
    have : (fun i => if i < n then some (g_ad o ad (k + 1 + i)) else none) = (fun i => if i < n then some (ad (o + k + 1 + i)) else none) := by
      funext i
      by_cases hi : i < n
      · rw [if_pos hi, if_pos hi, g_ad_lt (by omega)]
        congr 2
        omega
      · rw [if_neg hi, if_neg hi]
    show Sum.inl (τ.2.2.2, n, Sum.inr (Sum.inr (Sum.inr (Sum.inr (fun i => if i < n then some (g_ad o ad (k + 1 + i)) else none))))) = Sum.inl (τ.2.2.2, n, Sum.inr (Sum.inr (Sum.inr (Sum.inr (fun i => if i < n then some (ad (o + k + 1 + i)) else none)))))
    rw [this]
  | a + 4, hB, hC, _ =>
    have e2 : ∀ (w : gWo) (μ : gMem) (c : Nat), w.2.2.1.1.2 c = (a + 4, n) → gE w μ c = .inr (n, gFs w μ c n) := by
      intro w μ c h
      unfold gE
      rw [h]
      rfl
    rw [e2 _ _ _ hB, e2 _ _ _ hC]
    have : gFs (D, τ, LB, g_ad o ad) (g_vw o μ) k n = gFs (D, τ, LC, ad) μ (o + k) n := by
      unfold gFs
      apply List.map_congr_left
      intro f _
      show (match LB_r k f with | some t => Value.ref (g_ad o ad t) | none => Value.int (μ.1 (o + k) f)) = (match LC_r (o + k) f with | some t => Value.ref (ad t) | none => Value.int (μ.1 (o + k) f))
      rw [LC_r_eq o ho k hk f]
      cases hr : LB_r k f with
      | none => rfl
      | some t => show Value.ref (g_ad o ad t) = Value.ref (ad (o + t)); rw [g_ad_lt (LB_r_lt hr)]
    rw [this]
theorem g_lift {l : Launch} {y : MethodName} {M : gMi} {o : Nat} {m : gF} (ho : o = 0 ∨ o = 59 ∨ o = 118) (hm : ∀ D τ ad as μ r, m as μ = some r → gMt (D, τ, LB, ad) l y M as μ r) (D : va_G) (τ : ClassId × ClassId × ClassId × ClassId) (ad : Nat → Nat) : ∀ as μ r, g_lf o m as μ = some r → gMt (D, τ, LC, ad) l y M as μ r := by
  intro as μ r hr
  have ho59 : o + 59 ≤ 182 := by rcases ho with rfl | rfl | rfl <;> decide
  unfold g_lf at hr
  split at hr
  case h_2 => cases hr
  rename_i hall
  split at hr
  case h_2 => cases hr
  rename_i r0 hr0
  split at hr
  case h_2 => cases hr
  rename_i hnr
  cases hr
  have hM := hm D τ (g_ad o ad) _ _ _ hr0
  have hargs : (as.map (g_sb o)).map (gv (g_ad o ad)) = as.map (gv ad) := by
    rw [List.map_map]
    apply List.map_congr_left
    intro v hv
    have h1 := List.all_eq_true.mp hall v hv
    cases v with
    | ref c =>
      simp only [g_ib, Bool.and_eq_true] at h1
      have a1 := Nat.le_of_ble_eq_true h1.1
      have a2 := Nat.blt_eq.mp h1.2
      show Value.ref (g_ad o ad (c - o)) = Value.ref (ad c)
      rw [g_ad_lt (by omega), show o + (c - o) = c by omega]
    | _ => rfl
  have hsub : ∀ q, gA (D, τ, LB, g_ad o ad) q → gA (D, τ, LC, ad) q := by
    rintro q ⟨k, hk, rfl⟩
    have hk : k < 59 := hk
    exact ⟨o + k, by show o + k < 182; omega, g_ad_lt hk⟩
  have hPP : ∀ (ν : gMem) (H : Heap), va_P D gcl (gW (D, τ, LC, ad) ν) H → va_P D gcl (gW (D, τ, LB, g_ad o ad) (g_vw o ν)) H := by
    intro ν H hP k q hq
    have hk : k < 59 := by
      have := (List.getElem?_eq_some_iff.mp hq).1
      rw [gW_len] at this
      exact this
    rw [gW_get (w := (D, τ, LB, g_ad o ad)) hk, gE_lift ho ν hk] at hq
    cases hq
    have := hP (o + k) _ (gW_get (w := (D, τ, LC, ad)) (by show o + k < 182; omega))
    show va_at D gcl (g_ad o ad k, _) H
    rw [g_ad_lt hk]
    exact this
  refine Met.cons hM ?_ ?_ hsub
  · rintro a s ⟨h1, hP, hK, hI, hZ⟩
    refine ⟨by rw [hargs]; exact h1, hPP μ _ hP, hK, ?_, ?_⟩
    · intro i j hi hj he
      have hi : i < 59 := hi
      have hj : j < 59 := hj
      have he : g_ad o ad i = g_ad o ad j := he
      rw [g_ad_lt hi, g_ad_lt hj] at he
      have := hI (o + i) (o + j) (by show o + i < 182; omega) (by show o + j < 182; omega) he
      omega
    · obtain ⟨z0, z1, z2⟩ := hZ
      exact ⟨⟨z0.1.narrow hsub, z0.2.narrow hsub⟩, ⟨z1.1.narrow hsub, z1.2.narrow hsub⟩, ⟨z2.1.narrow hsub, z2.2.narrow hsub⟩⟩
  · rintro a s oc t ⟨h1, hP, hK, hI, hZ⟩ ⟨q1, q2, q3, q4⟩
    refine ⟨?_, ?_, q3, fun q h1 h2 => q4 q h1 (fun z => h2 (hsub q z))⟩
    · rw [q1]
      show Outcome.returned (r0.1.map (gv (g_ad o ad))) = Outcome.returned (r0.1.map (gv ad))
      congr 1
      cases h9 : r0.1 with
      | none => rfl
      | some v =>
        cases v with
        | ref c => rw [h9] at hnr; cases hnr
        | _ => rfl
    · intro c q hq
      have hc : c < 182 := by
        have := (List.getElem?_eq_some_iff.mp hq).1
        rw [gW_len] at this
        exact this
      rw [gW_get (w := (D, τ, LC, ad)) hc] at hq
      cases hq
      by_cases hin : o ≤ c ∧ c < o + 59
      · have hk : c - o < 59 := by omega
        have hv : g_vw o (g_pt o μ r0.2) = (fun c' => if c' < 59 then r0.2.1 c' else μ.1 (o + c'), fun c' => if c' < 59 then r0.2.2 c' else μ.2 (o + c')) := by
          unfold g_vw g_pt
          congr 1
          · funext c' i
            by_cases h9 : c' < 59
            · simp [h9]
            · simp [h9]
          · funext c' i
            by_cases h9 : c' < 59
            · simp [h9]
            · simp [h9]
        have e1 : gE (D, τ, LC, ad) (g_pt o μ r0.2) c = gE (D, τ, LB, g_ad o ad) r0.2 (c - o) := by
          have e2 := gE_lift (D := D) (τ := τ) (ad := ad) ho (g_pt o μ r0.2) hk
          rw [show o + (c - o) = c by omega] at e2
          rw [← e2, hv]
          unfold gE
          simp only [hk, if_true]
        have := q2 (c - o) _ (gW_get (w := (D, τ, LB, g_ad o ad)) (μ := r0.2) hk)
        have e3 : (D, τ, LB, g_ad o ad).2.2.2 (c - o) = ad c := by
          show g_ad o ad (c - o) = ad c
          rw [g_ad_lt hk, show o + (c - o) = c by omega]
        rw [e3, ← e1] at this
        exact this
      · have h9 := hP c _ (gW_get (w := (D, τ, LC, ad)) (μ := μ) hc)
        have e1 : gE (D, τ, LC, ad) (g_pt o μ r0.2) c = gE (D, τ, LC, ad) μ c := by
          have f1 : (g_pt o μ r0.2).1 c = μ.1 c := by funext i; simp [g_pt, hin]
          have f2 : (g_pt o μ r0.2).2 c = μ.2 c := by funext i; simp [g_pt, hin]
          unfold gE
          rw [f1, f2]
        rw [e1]
        refine h9.kept (q4 _ h9.lt ?_)
        rintro ⟨k, hk, he⟩
        have hk : k < 59 := hk
        have he : ad c = g_ad o ad k := he
        rw [g_ad_lt hk] at he
        have := hI c (o + k) hc (by show o + k < 182; omega) he
        omega
