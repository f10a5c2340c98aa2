/-! typed calls, dead locals, the three groups of cells, a group's contract in a larger world -/
def g_ci (o : Option gR) (k : Int32 → gMem → Option gR) : Option gR := match o with
  | some (some (.int v), μ) => k v μ
  | _ => none
def g_cl (o : Option gR) (k : Int64 → gMem → Option gR) : Option gR := match o with
  | some (some (.long v), μ) => k v μ
  | _ => none
def g_cv (o : Option gR) (k : gMem → Option gR) : Option gR := match o with
  | some (none, μ) => k μ
  | _ => none
theorem g_ci_some {v μ k} : g_ci (some (some (.int v), μ)) k = k v μ := rfl
theorem g_cl_some {v μ k} : g_cl (some (some (.long v), μ)) k = k v μ := rfl
theorem g_cv_some {μ k} : g_cv (some (none, μ)) k = k μ := rfl
def i_cvi (L : gLay) (n ci : Nat) (m : gF) : gI := fun pc lv st μ k => match Nat.ble (n + 1) st.length && g_cok (st.drop (n + 1)) with
  | true => match (st.take (n + 1)).reverse with
    | .ref c :: as => match g_isO L c ci with
      | true => g_ci (m (.ref c :: as) μ) (fun v μ' => k (pc + 3) lv (.int v :: st.drop (n + 1)) μ')
      | false => none
    | _ => none
  | false => none
def i_cvl (L : gLay) (n ci : Nat) (m : gF) : gI := fun pc lv st μ k => match Nat.ble (n + 1) st.length && g_cok (st.drop (n + 1)) with
  | true => match (st.take (n + 1)).reverse with
    | .ref c :: as => match g_isO L c ci with
      | true => g_cl (m (.ref c :: as) μ) (fun v μ' => k (pc + 3) lv (.long v :: st.drop (n + 1)) μ')
      | false => none
    | _ => none
  | false => none
def i_cvv (L : gLay) (n ci : Nat) (m : gF) : gI := fun pc lv st μ k => match Nat.ble (n + 1) st.length && g_cok (st.drop (n + 1)) with
  | true => match (st.take (n + 1)).reverse with
    | .ref c :: as => match g_isO L c ci with
      | true => g_cv (m (.ref c :: as) μ) (fun μ' => k (pc + 3) lv (st.drop (n + 1)) μ')
      | false => none
    | _ => none
  | false => none
def i_csi (n : Nat) (m : gF) : gI := fun pc lv st μ k => match Nat.ble n st.length && g_cok (st.drop n) with
  | true => g_ci (m (st.take n).reverse μ) (fun v μ' => k (pc + 3) lv (.int v :: st.drop n) μ')
  | false => none
def i_csl (n : Nat) (m : gF) : gI := fun pc lv st μ k => match Nat.ble n st.length && g_cok (st.drop n) with
  | true => g_cl (m (st.take n).reverse μ) (fun v μ' => k (pc + 3) lv (.long v :: st.drop n) μ')
  | false => none
def i_csv (n : Nat) (m : gF) : gI := fun pc lv st μ k => match Nat.ble n st.length && g_cok (st.drop n) with
  | true => g_cv (m (st.take n).reverse μ) (fun μ' => k (pc + 3) lv (st.drop n) μ')
  | false => none
theorem g_ci_inv {o k r} (h : g_ci o k = some r) : ∃ v μ, o = some (some (.int v), μ) ∧ k v μ = some r := by
  unfold g_ci at h
  split at h
  · exact ⟨_, _, rfl, h⟩
  · cases h
theorem g_cl_inv {o k r} (h : g_cl o k = some r) : ∃ v μ, o = some (some (.long v), μ) ∧ k v μ = some r := by
  unfold g_cl at h
  split at h
  · exact ⟨_, _, rfl, h⟩
  · cases h
theorem g_cv_inv {o k r} (h : g_cv o k = some r) : ∃ μ, o = some (none, μ) ∧ k μ = some r := by
  unfold g_cv at h
  split at h
  · exact ⟨_, rfl, h⟩
  · cases h
theorem g_ci_dt (o : Option gR) (pc : Nat) (lv : gL) (st : List Value) : (∃ x : Option gR, ∀ k : gK, g_ci o (fun v μ => k pc lv (.int v :: st) μ) = x) ∨ ∃ pc' lv' st' μ', ∀ k : gK, g_ci o (fun v μ => k pc lv (.int v :: st) μ) = k pc' lv' st' μ' := by
  unfold g_ci
  split <;> first | exact Or.inl ⟨_, fun _ => rfl⟩ | exact Or.inr ⟨_, _, _, _, fun _ => rfl⟩
theorem g_cl_dt (o : Option gR) (pc : Nat) (lv : gL) (st : List Value) : (∃ x : Option gR, ∀ k : gK, g_cl o (fun v μ => k pc lv (.long v :: st) μ) = x) ∨ ∃ pc' lv' st' μ', ∀ k : gK, g_cl o (fun v μ => k pc lv (.long v :: st) μ) = k pc' lv' st' μ' := by
  unfold g_cl
  split <;> first | exact Or.inl ⟨_, fun _ => rfl⟩ | exact Or.inr ⟨_, _, _, _, fun _ => rfl⟩
theorem g_cv_dt (o : Option gR) (pc : Nat) (lv : gL) (st : List Value) : (∃ x : Option gR, ∀ k : gK, g_cv o (fun μ => k pc lv st μ) = x) ∨ ∃ pc' lv' st' μ', ∀ k : gK, g_cv o (fun μ => k pc lv st μ) = k pc' lv' st' μ' := by
  unfold g_cv
  split <;> first | exact Or.inl ⟨_, fun _ => rfl⟩ | exact Or.inr ⟨_, _, _, _, fun _ => rfl⟩
theorem dt_cvi {L n c m} : gDt (i_cvi L n c m) := by
  intro pc lv st μ; unfold i_cvi; split <;> (try split) <;> (try split) <;> first | exact g_ci_dt _ _ _ _ | exact Or.inl ⟨_, fun _ => rfl⟩
theorem dt_cvl {L n c m} : gDt (i_cvl L n c m) := by
  intro pc lv st μ; unfold i_cvl; split <;> (try split) <;> (try split) <;> first | exact g_cl_dt _ _ _ _ | exact Or.inl ⟨_, fun _ => rfl⟩
theorem dt_cvv {L n c m} : gDt (i_cvv L n c m) := by
  intro pc lv st μ; unfold i_cvv; split <;> (try split) <;> (try split) <;> first | exact g_cv_dt _ _ _ _ | exact Or.inl ⟨_, fun _ => rfl⟩
theorem dt_csi {n m} : gDt (i_csi n m) := by
  intro pc lv st μ; unfold i_csi; split <;> first | exact g_ci_dt _ _ _ _ | exact Or.inl ⟨_, fun _ => rfl⟩
theorem dt_csl {n m} : gDt (i_csl n m) := by
  intro pc lv st μ; unfold i_csl; split <;> first | exact g_cl_dt _ _ _ _ | exact Or.inl ⟨_, fun _ => rfl⟩
theorem dt_csv {n m} : gDt (i_csv n m) := by
  intro pc lv st μ; unfold i_csv; split <;> first | exact g_cv_dt _ _ _ _ | exact Or.inl ⟨_, fun _ => rfl⟩
theorem gOk.mono {w : gWo} {l : Launch} {M : gMi} {pc : Nat} {f f' : gI} (h : gOk w l M pc f) (hf : ∀ lv st μ k r, f' pc lv st μ k = some r → f pc lv st μ k = some r) : gOk w l M pc f' :=
  fun p e R s m args below meth c hC r lv st μ k hr hk => h p e R s m args below meth c hC r lv st μ k (hf _ _ _ _ _ hr) hk
theorem ok_cvi {w : gWo} {l : Launch} {M : gMi} {pc n ci : Nat} {L : gLay} {m' : gF} (h : gOk w l M pc (i_cvt L n ci m')) : gOk w l M pc (i_cvi L n ci m') := h.mono (by
  intro lv st μ k r hr
  unfold i_cvi at hr
  unfold i_cvt
  split at hr
  · split at hr
    · split at hr
      · obtain ⟨v, μ', h1, h2⟩ := g_ci_inv hr
        simp only [*]
        exact h2
      · cases hr
    · cases hr
  · cases hr)
theorem ok_cvl {w : gWo} {l : Launch} {M : gMi} {pc n ci : Nat} {L : gLay} {m' : gF} (h : gOk w l M pc (i_cvt L n ci m')) : gOk w l M pc (i_cvl L n ci m') := h.mono (by
  intro lv st μ k r hr
  unfold i_cvl at hr
  unfold i_cvt
  split at hr
  · split at hr
    · split at hr
      · obtain ⟨v, μ', h1, h2⟩ := g_cl_inv hr
        simp only [*]
        exact h2
      · cases hr
    · cases hr
  · cases hr)
theorem ok_cvv {w : gWo} {l : Launch} {M : gMi} {pc n ci : Nat} {L : gLay} {m' : gF} (h : gOk w l M pc (i_cvt L n ci m')) : gOk w l M pc (i_cvv L n ci m') := h.mono (by
  intro lv st μ k r hr
  unfold i_cvv at hr
  unfold i_cvt
  split at hr
  · split at hr
    · split at hr
      · obtain ⟨μ', h1, h2⟩ := g_cv_inv hr
        simp only [*]
        exact h2
      · cases hr
    · cases hr
  · cases hr)
theorem ok_csi {w : gWo} {l : Launch} {M : gMi} {pc n : Nat} {m' : gF} (h : gOk w l M pc (i_cst n m')) : gOk w l M pc (i_csi n m') := h.mono (by
  intro lv st μ k r hr
  unfold i_csi at hr
  unfold i_cst
  split at hr
  · obtain ⟨v, μ', h1, h2⟩ := g_ci_inv hr
    simp only [*]
    exact h2
  · cases hr)
theorem ok_csl {w : gWo} {l : Launch} {M : gMi} {pc n : Nat} {m' : gF} (h : gOk w l M pc (i_cst n m')) : gOk w l M pc (i_csl n m') := h.mono (by
  intro lv st μ k r hr
  unfold i_csl at hr
  unfold i_cst
  split at hr
  · obtain ⟨v, μ', h1, h2⟩ := g_cl_inv hr
    simp only [*]
    exact h2
  · cases hr)
theorem ok_csv {w : gWo} {l : Launch} {M : gMi} {pc n : Nat} {m' : gF} (h : gOk w l M pc (i_cst n m')) : gOk w l M pc (i_csv n m') := h.mono (by
  intro lv st μ k r hr
  unfold i_csv at hr
  unfold i_cst
  split at hr
  · obtain ⟨μ', h1, h2⟩ := g_cv_inv hr
    simp only [*]
    exact h2
  · cases hr)
/-- rows and places whose index is a constant -/
def i_aak (L : gLay) (J : Int32) (j t : Nat) : gI := fun pc lv st μ k => match st with
  | .int i :: .ref c :: r => match (decide (i = J) && Nat.beq (c + 1 + j) t) && g_in i (gLen L 3 c) with
    | true => k (pc + 1) lv (.ref t :: r) μ
    | false => none
  | _ => none
def i_iak (L : gLay) (J : Int32) (j : Nat) : gI := fun pc lv st μ k => match st with
  | .int i :: .ref c :: r => match decide (i = J) && g_in i (gLen L 0 c) with
    | true => k (pc + 1) lv (.int (μ.1 c j) :: r) μ
    | false => none
  | _ => none
def i_lak (L : gLay) (J : Int32) (j : Nat) : gI := fun pc lv st μ k => match st with
  | .int i :: .ref c :: r => match decide (i = J) && g_in i (gLen L 1 c) with
    | true => k (pc + 1) lv (.long (μ.2 c j) :: r) μ
    | false => none
  | _ => none
def i_isk (L : gLay) (J : Int32) (j : Nat) : gI := fun pc lv st μ k => match st with
  | .int x :: .int i :: .ref c :: r => match decide (i = J) && g_in i (gLen L 0 c) with
    | true => k (pc + 1) lv r (gwI μ c j x)
    | false => none
  | _ => none
theorem dt_aak {L J j t} : gDt (i_aak L J j t) := by
  intro pc lv st μ; unfold i_aak; split <;> (try split) <;> first | exact Or.inl ⟨_, fun _ => rfl⟩ | exact Or.inr ⟨_, _, _, _, fun _ => rfl⟩
theorem dt_iak {L J j} : gDt (i_iak L J j) := by
  intro pc lv st μ; unfold i_iak; split <;> (try split) <;> first | exact Or.inl ⟨_, fun _ => rfl⟩ | exact Or.inr ⟨_, _, _, _, fun _ => rfl⟩
theorem dt_lak {L J j} : gDt (i_lak L J j) := by
  intro pc lv st μ; unfold i_lak; split <;> (try split) <;> first | exact Or.inl ⟨_, fun _ => rfl⟩ | exact Or.inr ⟨_, _, _, _, fun _ => rfl⟩
theorem dt_isk {L J j} : gDt (i_isk L J j) := by
  intro pc lv st μ; unfold i_isk; split <;> (try split) <;> first | exact Or.inl ⟨_, fun _ => rfl⟩ | exact Or.inr ⟨_, _, _, _, fun _ => rfl⟩
theorem ok_aak {w : gWo} {l : Launch} {M : gMi} {pc : Nat} {L : gLay} {J : Int32} {j t : Nat} (h : gOk w l M pc (i_aad L)) (hJ : J.toNatClampNeg = j) : gOk w l M pc (i_aak L J j t) := h.mono (by
  intro lv st μ k r hr
  unfold i_aak at hr
  unfold i_aad
  split at hr
  · split at hr
    · rename_i h1
      simp only [Bool.and_eq_true, decide_eq_true_eq] at h1
      obtain ⟨⟨h1, h2⟩, h3⟩ := h1
      subst h1
      have h2 := Nat.eq_of_beq_eq_true h2
      simp only [h3, if_true, hJ, h2]
      exact hr
    · cases hr
  · cases hr)
theorem ok_iak {w : gWo} {l : Launch} {M : gMi} {pc : Nat} {L : gLay} {J : Int32} {j : Nat} (h : gOk w l M pc (i_iad L)) (hJ : J.toNatClampNeg = j) : gOk w l M pc (i_iak L J j) := h.mono (by
  intro lv st μ k r hr
  unfold i_iak at hr
  unfold i_iad
  split at hr
  · split at hr
    · rename_i h1
      simp only [Bool.and_eq_true, decide_eq_true_eq] at h1
      obtain ⟨h1, h3⟩ := h1
      subst h1
      simp only [h3, if_true, hJ]
      exact hr
    · cases hr
  · cases hr)
theorem ok_lak {w : gWo} {l : Launch} {M : gMi} {pc : Nat} {L : gLay} {J : Int32} {j : Nat} (h : gOk w l M pc (i_lad L)) (hJ : J.toNatClampNeg = j) : gOk w l M pc (i_lak L J j) := h.mono (by
  intro lv st μ k r hr
  unfold i_lak at hr
  unfold i_lad
  split at hr
  · split at hr
    · rename_i h1
      simp only [Bool.and_eq_true, decide_eq_true_eq] at h1
      obtain ⟨h1, h3⟩ := h1
      subst h1
      simp only [h3, if_true, hJ]
      exact hr
    · cases hr
  · cases hr)
theorem ok_isk {w : gWo} {l : Launch} {M : gMi} {pc : Nat} {L : gLay} {J : Int32} {j : Nat} (h : gOk w l M pc (i_ias L)) (hJ : J.toNatClampNeg = j) : gOk w l M pc (i_isk L J j) := h.mono (by
  intro lv st μ k r hr
  unfold i_isk at hr
  unfold i_ias
  split at hr
  · split at hr
    · rename_i h1
      simp only [Bool.and_eq_true, decide_eq_true_eq] at h1
      obtain ⟨h1, h3⟩ := h1
      subst h1
      simp only [h3, if_true, hJ]
      exact hr
    · cases hr
  · cases hr)
/-- locals that are dead behind an instruction -/
def g_kl : List Nat → gL → gL
  | [], lv => lv
  | i :: is, lv => g_kl is (lv.set i none)
def i_kll (ks : List Nat) (f : gI) : gI := fun pc lv st μ k => f pc lv st μ (fun pc' lv' st' μ' => k pc' (g_kl ks lv') st' μ')
theorem dt_kll {ks f} (h : gDt f) : gDt (i_kll ks f) := by
  intro pc lv st μ
  rcases h pc lv st μ with ⟨o, ho⟩ | ⟨a, b, c, d, ho⟩
  · exact Or.inl ⟨o, fun k => ho _⟩
  · exact Or.inr ⟨a, g_kl ks b, c, d, fun k => ho _⟩
theorem g_kl_ag {ad nL ls} : ∀ (ks : List Nat) (lv : gL), gAg ad nL lv ls → gAg ad nL (g_kl ks lv) ls
  | [], _, h => h
  | i :: is, lv, h => g_kl_ag is _ ⟨by rw [List.length_set]; exact h.1, h.2.1, h.2.2.1, fun j v hj => by
      rw [List.getElem?_set] at hj
      split at hj
      · split at hj <;> cases hj
      · exact h.2.2.2 j v hj⟩
theorem ok_kll {w : gWo} {l : Launch} {M : gMi} {pc : Nat} {f : gI} {ks : List Nat} (h : gOk w l M pc f) : gOk w l M pc (i_kll ks f) := by
  intro p e R s m args below meth c hC r lv st μ k hr hk
  refine h p e R s m args below meth c hC r lv st μ _ hr (fun pc' lv' st' μ' h' => ?_)
  intro H locs ls hP hS hl
  exact hk pc' _ st' μ' h' H locs ls hP hS (g_kl_ag ks lv' hl)
/-- the cells of a board -/
def LB_k : Nat → Nat × Nat
  | 0 => (4, 1)
  | 1 => (0, 10)
  | 2 => (0, 11)
  | 3 => (4, 2)
  | 4 => (3, 19)
  | 25 => (4, 3)
  | 26 => (0, 6)
  | 27 => (0, 6)
  | 28 => (0, 6)
  | 29 => (4, 4)
  | 30 => (1, 8)
  | 31 => (0, 8)
  | 32 => (0, 8)
  | 33 => (4, 5)
  | 34 => (3, 4)
  | 39 => (4, 6)
  | 40 => (3, 5)
  | 46 => (4, 6)
  | 47 => (3, 5)
  | 53 => (4, 7)
  | 58 => (0, 32)
  | _ => (0, 60)
def LB_r : Nat → Nat → Option Nat
  | 0, 0 => some 1
  | 0, 1 => some 2
  | 0, 2 => some 3
  | 0, 3 => some 25
  | 0, 4 => some 29
  | 0, 5 => some 33
  | 0, 6 => some 39
  | 0, 7 => some 46
  | 0, 8 => some 53
  | 0, 9 => some 56
  | 0, 10 => some 57
  | 0, 11 => some 58
  | 3, 0 => some 4
  | 3, 1 => some 24
  | 25, 0 => some 26
  | 25, 1 => some 27
  | 25, 2 => some 28
  | 29, 0 => some 30
  | 29, 1 => some 31
  | 29, 2 => some 32
  | 33, 0 => some 34
  | 39, 0 => some 40
  | 46, 0 => some 47
  | 53, 0 => some 54
  | 53, 1 => some 55
  | _, _ => none
abbrev LB : gLay := ((59, LB_k), LB_r)
/-- the cells of the reference -/
def LM_k : Nat → Nat × Nat
  | 0 => (4, 9)
  | 1 => (0, 2030)
  | 2 => (0, 2030)
  | 3 => (1, 9)
  | 4 => (1, 9)
  | 5 => (0, 60)
  | 6 => (0, 61)
  | 7 => (2, 60)
  | 8 => (0, 61)
  | 9 => (0, 60)
  | 10 => (0, 32)
  | 11 => (0, 60)
  | 12 => (2, 60)
  | 13 => (0, 60)
  | 14 => (0, 60)
  | 15 => (0, 2030)
  | _ => (1, 9)
def LM_r : Nat → Nat → Option Nat
  | 0, 1 => some 1
  | 0, 2 => some 2
  | 0, 3 => some 3
  | 0, 4 => some 4
  | 0, 9 => some 5
  | 0, 11 => some 6
  | 0, 12 => some 7
  | 0, 13 => some 8
  | 0, 14 => some 9
  | 0, 15 => some 10
  | 0, 18 => some 11
  | 0, 19 => some 12
  | 0, 24 => some 13
  | 0, 26 => some 14
  | 0, 28 => some 15
  | 0, 29 => some 16
  | _, _ => none
abbrev LM : gLay := ((17, LM_k), LM_r)
/-- the cells of the class: its board, its image, its thought, itself, its plans -/
def LC_k (c : Nat) : Nat × Nat := match Nat.blt c 59 with
  | true => LB_k c
  | false => match Nat.blt c 118 with
    | true => LB_k (c - 59)
    | false => match Nat.blt c 177 with
      | true => LB_k (c - 118)
      | false => match c with
        | 177 => (4, 0)
        | 178 => (4, 8)
        | 179 => (0, 32)
        | _ => (0, 60)
def LC_r (c f : Nat) : Option Nat := match Nat.blt c 59 with
  | true => LB_r c f
  | false => match Nat.blt c 118 with
    | true => (LB_r (c - 59) f).map (59 + ·)
    | false => match Nat.blt c 177 with
      | true => (LB_r (c - 118) f).map (118 + ·)
      | false => match c, f with
        | 177, 0 => some 0
        | 177, 1 => some 59
        | 177, 2 => some 118
        | 177, 3 => some 178
        | 178, 0 => some 0
        | 178, 1 => some 3
        | 178, 2 => some 29
        | 178, 3 => some 179
        | 178, 4 => some 180
        | 178, 5 => some 181
        | _, _ => none
abbrev LC : gLay := ((182, LC_k), LC_r)
/-- a board's part of the class's memory -/
def g_vw (o : Nat) (μ : gMem) : gMem := (fun c i => μ.1 (o + c) i, fun c i => μ.2 (o + c) i)
def g_pt (o : Nat) (μ ν : gMem) : gMem := (fun c i => if o ≤ c ∧ c < o + 59 then ν.1 (c - o) i else μ.1 c i, fun c i => if o ≤ c ∧ c < o + 59 then ν.2 (c - o) i else μ.2 c i)
def g_sb (o : Nat) : Value → Value
  | .ref c => .ref (c - o)
  | v => v
def g_ib (o : Nat) : Value → Bool
  | .ref c => Nat.ble o c && Nat.blt c (o + 59)
  | _ => true
def g_nr : Option Value → Bool
  | some (.ref _) => false
  | _ => true
def g_lf (o : Nat) (m : gF) : gF := fun as μ => match as.all (g_ib o) with
  | true => match m (as.map (g_sb o)) (g_vw o μ) with
    | some r => match g_nr r.1 with
      | true => some (r.1, g_pt o μ r.2)
      | false => none
    | none => none
  | false => none
