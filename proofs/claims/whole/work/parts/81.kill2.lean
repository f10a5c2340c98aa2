section KILL2
variable {b u b' u' : gMem} {n a r p t B : Nat} {Q : List Nat}
def hel (b : gMem) (x k : Nat) : Bool := decide (b.1 9 k = 0) && decide (b.1 8 k = nI x)
/-- those held by a job, from a number on -/
def rm (b : gMem) (x : Nat) : Nat → Nat → List Nat
  | 0, _ => []
  | m + 1, k => if hel b x k then k :: rm b x m (k + 1) else rm b x m (k + 1)
theorem rm_m {x : Nat} : ∀ m k z, z ∈ rm b x m k ↔ k ≤ z ∧ z < k + m ∧ hel b x z = true
  | 0, k, z => by simp [rm]; omega
  | m + 1, k, z => by
    unfold rm
    by_cases q : hel b x k = true
    · rw [if_pos q, List.mem_cons, rm_m m (k + 1) z]
      constructor
      · rintro (w | w)
        · subst w; exact ⟨Nat.le_refl _, by omega, q⟩
        · exact ⟨by omega, by omega, w.2.2⟩
      · rintro ⟨w1, w2, w3⟩
        rcases (show z = k ∨ k + 1 ≤ z by omega) with v | v
        · exact Or.inl v
        · exact Or.inr ⟨v, by omega, w3⟩
    · rw [if_neg q, rm_m m (k + 1) z]
      constructor
      · rintro ⟨w1, w2, w3⟩; exact ⟨by omega, by omega, w3⟩
      · rintro ⟨w1, w2, w3⟩
        exact ⟨by
          rcases (show z = k ∨ k + 1 ≤ z by omega) with v | v
          · rw [v] at w3; exact absurd w3 q
          · exact v, by omega, w3⟩
theorem rm_nd {x : Nat} : ∀ m k, (rm b x m k).Nodup
  | 0, _ => List.nodup_nil
  | m + 1, k => by
    unfold rm
    by_cases q : hel b x k = true
    · rw [if_pos q]; exact List.nodup_cons.mpr ⟨fun z => by have := (rm_m m (k + 1) k).mp z; omega, rm_nd m (k + 1)⟩
    · rw [if_neg q]; exact rm_nd m (k + 1)
theorem rm_congr {x : Nat} : ∀ m k, (∀ z, k ≤ z → z < k + m → hel b' x z = hel b x z) → rm b' x m k = rm b x m k
  | 0, _, _ => rfl
  | m + 1, k, h => by
    unfold rm
    rw [h k (Nat.le_refl _) (by omega), rm_congr m (k + 1) (fun z h1 h2 => h z (by omega) (by omega))]
theorem rm_le {x : Nat} : ∀ m k, (rm b x m k).length ≤ m
  | 0, _ => Nat.le_refl _
  | m + 1, k => by
    have := rm_le (x := x) m (k + 1)
    unfold rm
    by_cases q : hel b x k = true
    · rw [if_pos q]; simp; omega
    · rw [if_neg q]; omega
def pend (b : gMem) (n : Nat) : Nat → Nat → List Nat → List Nat
  | x, f, [] => rm b x (n - f) f
  | x, f, y :: ys => rm b x (n - f) f ++ pend b n y (x + 1) ys
/-- the way up from a job -/
def cp (b : gMem) (job : Nat) : Nat → List Nat → Prop
  | x, [] => x = job
  | x, y :: ys => b.1 8 x = nI y ∧ y < x ∧ cp b job y ys
theorem cp_le {job : Nat} : ∀ {ys : List Nat} {x : Nat}, cp b job x ys → job ≤ x ∧ (ys ≠ [] → job < x) ∧ ∀ y ∈ ys, y < x
  | [], x, h => ⟨by rw [show x = job from h]; omega, fun z => absurd rfl z, fun y hy => absurd hy (by simp)⟩
  | y :: ys, x, h => by
    obtain ⟨h1, h2, h3⟩ := h
    obtain ⟨k1, k2, k3⟩ := cp_le h3
    refine ⟨by omega, fun _ => by omega, fun z hz => ?_⟩
    rw [List.mem_cons] at hz
    rcases hz with hz | hz
    · omega
    · have := k3 z hz; omega
theorem cp_congr {job : Nat} (h : ∀ i, b'.1 8 i = b.1 8 i) : ∀ {ys : List Nat} {x : Nat}, cp b job x ys → cp b' job x ys
  | [], _, hc => hc
  | y :: ys, x, hc => ⟨(h x).trans hc.1, hc.2.1, cp_congr h hc.2.2⟩
theorem pend_m {job : Nat} : ∀ {ys : List Nat} {x f : Nat}, cp b job x ys → x < n → n ≤ 60 → ∀ z ∈ pend b n x f ys, z < n ∧ b.1 9 z = 0 ∧ ∃ y, (y = x ∨ y ∈ ys) ∧ b.1 8 z = nI y
  | [], x, f, _, _, _, z, hz => by
    obtain ⟨h1, h2, h3⟩ := (rm_m _ _ _).mp hz
    unfold hel at h3
    simp at h3
    exact ⟨by omega, h3.1, x, Or.inl rfl, h3.2⟩
  | y :: ys, x, f, hc, hx, hn, z, hz => by
    rcases List.mem_append.mp hz with hz | hz
    · obtain ⟨h1, h2, h3⟩ := (rm_m _ _ _).mp hz
      unfold hel at h3
      simp at h3
      exact ⟨by omega, h3.1, x, Or.inl rfl, h3.2⟩
    · obtain ⟨h1, h2, w, h3, h4⟩ := pend_m hc.2.2 (by have := hc.2.1; omega) hn z hz
      refine ⟨h1, h2, w, Or.inr ?_, h4⟩
      rw [List.mem_cons]; exact h3
theorem pend_nd {job : Nat} : ∀ {ys : List Nat} {x f : Nat}, cp b job x ys → x < n → n ≤ 60 → (pend b n x f ys).Nodup
  | [], x, f, _, _, _ => rm_nd _ _
  | y :: ys, x, f, hc, hx, hn => by
    show (rm b x (n - f) f ++ pend b n y (x + 1) ys).Nodup
    rw [List.nodup_append]
    have hy := hc.2.1
    refine ⟨rm_nd _ _, pend_nd hc.2.2 (by omega) hn, fun z hz w hw hzw => ?_⟩
    subst hzw
    obtain ⟨h1, h2, h3⟩ := (rm_m _ _ _).mp hz
    unfold hel at h3
    simp at h3
    obtain ⟨-, -, v, h4, h5⟩ := pend_m hc.2.2 (by omega) hn z hw
    have hv : v < x := by
      rcases h4 with h4 | h4
      · omega
      · have := (cp_le hc.2.2).2.2 v h4; omega
    rw [h3.2, neq (by omega) (by omega)] at h5
    omega
theorem pend_congr {job k at' : Nat} (h9 : ∀ i, b'.1 9 i = if i = k then 4 else b.1 9 i) (h8 : ∀ i, b'.1 8 i = b.1 8 i) (hk : b.1 8 k = nI at') (hat : at' < 60) : ∀ {ys : List Nat} {x f : Nat}, cp b job x ys → x < at' → pend b' n x f ys = pend b n x f ys
  | [], x, f, _, hx => rm_congr _ _ (fun z _ _ => by
      unfold hel
      rw [h9, h8]
      by_cases q : z = k
      · rw [q, hk]
        have : ¬ nI at' = nI x := by rw [neq (by omega) (by omega)]; omega
        simp [this]
      · rw [if_neg q])
  | y :: ys, x, f, hc, hx => by
    show rm b' x (n - f) f ++ pend b' n y (x + 1) ys = rm b x (n - f) f ++ pend b n y (x + 1) ys
    rw [pend_congr h9 h8 hk hat hc.2.2 (by have := hc.2.1; omega)]
    congr 1
    exact rm_congr _ _ (fun z _ _ => by
      unfold hel
      rw [h9, h8]
      by_cases q : z = k
      · rw [q, hk]
        have : ¬ nI at' = nI x := by rw [neq (by omega) (by omega)]; omega
        simp [this]
      · rw [if_neg q])
def hdI : List Nat → Int32
  | [] => -1
  | k :: _ => nI k
theorem c_nextHeld {x : Nat} (h32 : b.1 3 2 = nI n) (hn : n ≤ 60) : ∀ m k, k + m = n → rX2_nextHeldBy_2 (nI x) (nI k) b = some (some (.int (hdI (rm b x m k))), b)
  | 0, k, h => by rw [eX2_nextHeldBy_2, h32, if_pos (nI_le (by omega) (by omega))]; rfl
  | m + 1, k, h => by
    rw [eX2_nextHeldBy_2, h32, if_neg (nI_ge (by omega) (by omega)), c_state (by omega), g_ci_some, gin (show k < 60 by omega) (by omega), if_pos rfl, tn (show k < 2147483648 by omega), nI_1, c_nextHeld h32 hn m (k + 1) (by omega)]
    by_cases q : b.1 9 k = 0
    · rw [if_pos q]
      by_cases q2 : b.1 8 k = nI x
      · rw [if_pos q2]
        unfold rm
        rw [if_pos (by unfold hel; simp [q, q2])]; rfl
      · rw [if_neg q2]
        conv => rhs; unfold rm
        rw [if_neg (by unfold hel; simp [q2])]
    · rw [if_neg q]
      conv => rhs; unfold rm
      rw [if_neg (by unfold hel; simp [q])]
theorem rm_last {x v : Nat} (hv : v < n) : rm b x (n - v) v = if hel b x v then v :: rm b x (n - (v + 1)) (v + 1) else rm b x (n - (v + 1)) (v + 1) := by
  rw [show n - v = (n - (v + 1)) + 1 by omega]
  conv => lhs; unfold rm
theorem m_push {k : Nat} {v3 : Int32} {S : List Nat} (hn : n ≤ 60) (hS : S.length + (rm b k (n - (k + 1)) (k + 1)).length ≤ 60) : ∀ m v, v = k + m → v < n → ∀ ν : gMem, (∀ i, i < n → mA ν i 4 = b.1 9 i ∧ mA ν i 3 = b.1 8 i + 1) → arr ν 6 (S ++ (rm b k (n - (v + 1)) (v + 1)).reverse) → S.length + (rm b k (n - (v + 1)) (v + 1)).length ≤ S.length + (rm b k (n - (k + 1)) (k + 1)).length → ∃ ν', rX10_kills_75 (nI (S.length + (rm b k (n - (v + 1)) (v + 1)).length)) v3 (nI k) (nI v) ν = rX10_kills_11 (nI (S.length + (rm b k (n - (k + 1)) (k + 1)).length)) v3 ν' ∧ arr ν' 6 (S ++ (rm b k (n - (k + 1)) (k + 1)).reverse) ∧ (∀ c i, c ≠ 6 → ν'.1 c i = ν.1 c i) ∧ ν'.2 = ν.2 := by
  intro m
  induction m with
  | zero =>
    intro v hv hvn ν he ha hl
    have : v = k := by omega
    subst this
    exact ⟨ν, by rw [eX10_kills_75, if_pos (nI_le (Nat.le_refl _) (by omega))], ha, fun _ _ _ => rfl, rfl⟩
  | succ m ih =>
    intro v hv hvn ν he ha hl
    obtain ⟨e4, e3⟩ := he v hvn
    have hr := rm_last (b := b) (x := k) hvn
    have e : v - 1 + 1 = v := by omega
    rw [eX10_kills_75, if_neg (nI_ge (by omega) (by omega)), at_4 (by omega), g_ci_some, e4, sub1, nI_s1 (by omega)]
    have mono : ∀ d w, w + d = v → k + 1 ≤ w → (rm b k (n - v) v).length ≤ (rm b k (n - w) w).length := by
      intro d
      induction d with
      | zero => intro w hw _; rw [show w = v by omega]; exact Nat.le_refl _
      | succ d ih3 =>
        intro w hw hk
        have h1 := ih3 (w + 1) (by omega) (by omega)
        rw [rm_last (b := b) (x := k) (show w < n by omega)]
        split
        · simp; omega
        · exact h1
    have hmono := mono (v - (k + 1)) (k + 1) (by omega) (Nat.le_refl _)
    have skip : ¬ hel b k v = true → ∃ ν', rX10_kills_75 (nI (S.length + (rm b k (n - (v + 1)) (v + 1)).length)) v3 (nI k) (nI (v - 1)) ν = rX10_kills_11 (nI (S.length + (rm b k (n - (k + 1)) (k + 1)).length)) v3 ν' ∧ arr ν' 6 (S ++ (rm b k (n - (k + 1)) (k + 1)).reverse) ∧ (∀ c i, c ≠ 6 → ν'.1 c i = ν.1 c i) ∧ ν'.2 = ν.2 := fun q => by
      rw [if_neg q] at hr
      have := ih (v - 1) (by omega) (by omega) ν he (by rw [e, hr]; exact ha) (by rw [e]; omega)
      rw [e, hr] at this
      exact this
    by_cases q : b.1 9 v = 0
    · rw [if_pos q, at_3 (by omega), g_ci_some, e3]
      by_cases q2 : b.1 8 v = nI k
      · have hh : hel b k v = true := by unfold hel; simp [q, q2]
        rw [if_pos hh] at hr
        have hl2 : (rm b k (n - v) v).length = (rm b k (n - (v + 1)) (v + 1)).length + 1 := by rw [hr]; rfl
        rw [if_pos (by rw [q2]), gin (show S.length + (rm b k (n - (v + 1)) (v + 1)).length < 61 by omega) (by omega), if_pos rfl, tn (show S.length + (rm b k (n - (v + 1)) (v + 1)).length < 2147483648 by omega), nI_1]
        have hap := arr_app (x := v) ha
        rw [List.append_assoc, List.length_append, List.length_reverse] at hap
        have hrv : (rm b k (n - (v + 1)) (v + 1)).reverse ++ [v] = (rm b k (n - v) v).reverse := by rw [hr, List.reverse_cons]
        rw [hrv] at hap
        obtain ⟨ν', g1, g2, g3, g4⟩ := ih (v - 1) (by omega) (by omega) (gwI ν 6 (S.length + (rm b k (n - (v + 1)) (v + 1)).length) (nI v)) (fun i hi => by
          rw [mA_c (by omega), mA_c (by omega)]; exact he i hi) (by rw [e]; exact hap) (by rw [e]; omega)
        rw [e, hl2, ← Nat.add_assoc] at g1
        exact ⟨ν', g1, g2, fun c i hc => (g3 c i hc).trans (by rw [gI_r, if_neg (fun z => hc z.1)]), g4⟩
      · have q2' : ¬ b.1 8 v + 1 = nI k + 1 := fun z => q2 (by rwa [i_c1] at z)
        rw [if_neg q2']
        exact skip (by unfold hel; simp [q2])
    · rw [if_neg q]
      exact skip (by unfold hel; simp [q])
end KILL2
