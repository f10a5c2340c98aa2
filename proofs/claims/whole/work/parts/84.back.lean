/-! jobs put back -/
section BACK
variable {b u b' u' : gMem} {n a r p t B : Nat} {Q : List Nat}
theorem lgB_dn {x : Nat} {wh j s c D : Int32} : lgB (gwI b 0 13 D) x wh j s c = gwI (lgB b x wh j s c) 0 13 D := by
  unfold lgB
  rw [show (gwI b 0 13 D).1 0 12 = b.1 0 12 from rfl, gwI_comm (c := 0) (i := 13) (c' := 41) (by omega), gwI_comm (c := 0) (i := 13) (c' := 42) (by omega), gwI_comm (c := 0) (i := 13) (c' := 43) (by omega), gwI_comm (c := 0) (i := 13) (c' := 44) (by omega), gwI_comm (c := 0) (i := 13) (c' := 45) (by omega), gwI_comm (c := 0) (i := 13) (c' := 39) (by omega)]
theorem c_takeOutP {j x : Nat} (hj : j < 60) (hr : b.1 29 3 = nI r) (hr8 : r ≤ 8) (hx : b.1 12 j = nI x) (hxr : x < r) (hJ : IJ1 b p t j) (hc : b.1 13 j = nI (jn b 13 j)) (hc2 : jn b 13 j < 32) : mX2_takeOut [.ref 0, .int (nI j)] b = some (none, gwI (gwI (gwI b 32 x (b.1 32 x &&& (bl b j ^^^ (-1)))) 12 j (-1)) 13 j (-1)) := by
  rw [eX2_takeOut, gin hj (by omega), if_pos rfl, tn (show j < 2147483648 by omega), hx, eX7_has, if_neg (nneg (by omega)), hr, if_neg (nI_ge (by omega) (by omega)), g_ci_some, if_neg (by decide), gin (show x < 8 by omega) (by omega), if_pos rfl, c_block hj hJ hc hc2, g_ci_some, if_pos rfl, if_pos rfl, if_pos rfl, tn (show x < 2147483648 by omega)]
def pT (b : gMem) (j x X : Nat) : gMem := gwI (gwI (gwI (lgB b X 5 (nI j) (b.1 12 j) (b.1 13 j)) 32 x (b.1 32 x &&& (bl b j ^^^ (-1)))) 12 j (-1)) 13 j (-1)
def ls (b : gMem) (j : Nat) : Int32 := b.1 5 j * (b.1 11 j - b.1 10 j)
def pB (b : gMem) (j x X q : Nat) : gMem := gwI (gwI (gwI (gwI (gwI (gwI (gwI (gwI (pT b j x X) 2 5 (b.1 2 5 + ls b j)) 2 8 (b.1 2 8 + 1)) 10 j (b.1 11 j)) 17 j 0) 21 j (b.1 21 j + 1)) 9 j 1) 24 q (nI j)) 3 3 (nI (q + 1))
def pU (u : gMem) (b : gMem) (j X : Nat) : gMem := wA (wA (wA (wH (wH (liU (lgU u X 5 (nI j) (b.1 12 j) (b.1 13 j)) j) 23 (b.1 2 5 + ls b j)) 26 (b.1 2 8 + 1)) j 16 (b.1 21 j + 1)) j 5 (b.1 11 j)) j 12 0
theorem pT_o {j x X c i : Nat} (h : c ∉ [12, 13, 32, 39, 41, 42, 43, 44, 45]) : (pT b j x X).1 c i = b.1 c i := by
  have h2 : c ∉ [39, 41, 42, 43, 44, 45] := fun z => h (by simp at z ⊢; omega)
  simp only [List.mem_cons, not_or, List.not_mem_nil] at h
  unfold pT
  rw [gI_r, if_neg (by omega), gI_r, if_neg (by omega), gI_r, if_neg (by omega), lgB_c h2]
theorem back_rel {D : Int32} {j : Nat} (h : BW (gwI b 0 13 D) u n a r p t Q B) (h9 : B + 2 ≤ 1000000000) (hj : j < n) (h2 : b.1 9 j = 2) (hl : b.1 10 j ≠ 0) : ∃ x X, u.1 1 15 = nI X ∧ b.1 39 1 = nI X ∧ X < 2147483648 ∧ b.1 12 j = nI x ∧ x < r ∧ Q.length + 1 ≤ n ∧ BW (gwI (pB b j x X Q.length) 0 13 D) (pU u b j X) n a r p t (Q ++ [j]) (B + 2) := by
  have hn := h.A.n60
  have hr := h.A.2.2.2.2.1
  have hp := h.A.p32
  have hB9 := h.B.2.2.2.2
  obtain ⟨X, hX, hXB⟩ := h.B.2.2.1
  have hXb : b.1 39 1 = nI X := hX
  obtain ⟨⟨y1, y2⟩, y3, y4, y5, y6⟩ := ip_yes (h.P.1 j hj) h2
  have hx1 : b.1 12 j = nI (jn b 12 j) := y1
  have hx2 : jn b 12 j < r := y2
  have hJ := h.J j hj
  obtain ⟨l1, l2, l3, l4, l5, l6⟩ := hJ.2.2.2.2.1
  have l1' : b.1 10 j = nI (jn b 10 j) := l1
  have hL1 : 1 ≤ jn b 10 j := by
    rcases Nat.eq_zero_or_pos (jn b 10 j) with z | z
    · rw [z] at l1'; exact absurd l1' hl
    · exact z
  have h20 : b.1 20 j = -1 := l6 (show jn b 9 j < 3 by unfold jn; rw [h2]; decide)
  have hjQ : j ∉ Q := fun z => by have := (Q_mem h z).2; rw [show (gwI b 0 13 D).1 9 j = b.1 9 j from rfl, h2] at this; exact absurd this (by decide)
  have hlen : Q.length + 1 ≤ n := by
    have := nodup_le (L := j :: Q) (M := List.range n) (List.nodup_cons.mpr ⟨hjQ, h.Q.2.2.2.1⟩) (fun x hx => by
      rw [List.mem_cons] at hx
      rcases hx with hx | hx
      · rw [hx]; exact List.mem_range.mpr hj
      · exact List.mem_range.mpr (Q_mem h hx).1)
    simpa using this
  refine ⟨jn b 12 j, X, h.e.1.2.1.2.2.2.2.2.1.trans hX, hXb, by omega, hx1, hx2, hlen, ?_⟩
  have hlog := log_rel (wh := 5) (j := nI j) (s := b.1 12 j) (c := b.1 13 j) h hX hXB (by omega)
  rw [lgB_dn] at hlog
  -- out of its slot, into the line
  have hF : ∀ c i, (gwI (gwI (gwI (gwI (pT b j (jn b 12 j) X) 9 j 1) 24 Q.length (nI j)) 3 3 (nI (Q.length + 1))) 0 13 D).1 c i = if c = 0 ∧ i = 13 then D else if c = 3 ∧ i = 3 then nI (Q.length + 1) else if c = 24 ∧ i = Q.length then nI j else if c = 9 ∧ i = j then 1 else if c = 13 ∧ i = j then -1 else if c = 12 ∧ i = j then -1 else if c = 32 ∧ i = jn b 12 j then b.1 32 (jn b 12 j) &&& (bl b j ^^^ (-1)) else (lgB b X 5 (nI j) (b.1 12 j) (b.1 13 j)).1 c i := fun c i => by unfold pT; simp only [gI_r]
  have hLo : ∀ c i, c ∉ [39, 41, 42, 43, 44, 45] → (lgB b X 5 (nI j) (b.1 12 j) (b.1 13 j)).1 c i = b.1 c i := fun c i hc => lgB_c hc
  have hR1 := line_rel (b' := gwI (gwI (gwI (gwI (pT b j (jn b 12 j) X) 9 j 1) 24 Q.length (nI j)) 3 3 (nI (Q.length + 1))) 0 13 D) hlog (by omega) hj (by rw [gI_r, if_neg (by omega), hLo 9 j (by decide), h2]; decide) hL1 ((show (gwI (lgB b X 5 (nI j) (b.1 12 j) (b.1 13 j)) 0 13 D).1 20 j = b.1 20 j from rfl).trans h20) (fun c i hc => by
      simp only [List.mem_cons, not_or, List.not_mem_nil] at hc
      rw [hF, gI_r]
      by_cases q : c = 0 ∧ i = 13
      · rw [if_pos q, if_pos q]
      · rw [if_neg q, if_neg q, if_neg (by omega), if_neg (by omega), if_neg (by omega), if_neg (by omega), if_neg (by omega), if_neg (by omega)]) rfl (by rw [hF]; simp; rfl) (by rw [hF]; simp) (fun i hi => by
      rw [hF]
      have ha := hlog.Q.2.2.1
      by_cases z : i = Q.length
      · subst z; simp
      · have hlt : i < Q.length := by simp at hi; omega
        rw [List.getElem_append_left hlt, if_neg (by omega), if_neg (by omega), if_neg (fun y => z y.2), if_neg (by omega), if_neg (by omega), if_neg (by omega), if_neg (by omega)]
        exact ha i hlt) (fun i => by
      rw [hF, gI_r]
      by_cases z : i = j
      · subst z; simp
      · simp [z]) (fun i => by
      rw [hF, gI_r]
      by_cases z : i = j
      · subst z; simp
      · simp [z]) (fun i => by
      rw [hF, gI_r]
      by_cases z : i = j
      · subst z; simp
      · simp [z]) (fun s hs => by
      rw [hF, if_neg (by omega), if_neg (by omega), if_neg (by omega), if_neg (by omega), if_neg (by omega), if_neg (by omega)]
      have e1 : (gwI (lgB b X 5 (nI j) (b.1 12 j) (b.1 13 j)) 0 13 D).1 12 j = nI (jn b 12 j) := hx1
      have e2 : bl (gwI (lgB b X 5 (nI j) (b.1 12 j) (b.1 13 j)) 0 13 D) j = bl b j := rfl
      have e3 : (gwI (lgB b X 5 (nI j) (b.1 12 j) (b.1 13 j)) 0 13 D).1 32 s = b.1 32 s := rfl
      rw [e1, e2, e3]
      by_cases z : s = jn b 12 j
      · rw [if_pos ⟨rfl, z⟩, if_pos (by rw [z]), z]
      · rw [if_neg (fun y => z y.2), if_neg (by rw [neq (by omega) (by omega)]; exact fun y => z y.symm)]; rfl)
  have hR2 := tal_rel (k := 5) (x := b.1 2 5 + ls b j) hR1 (by omega)
  have hR3 := tal_rel (k := 8) (x := b.1 2 8 + 1) hR2 (by omega)
  have hR4 := fld_rel (w := 16) (x := b.1 21 j + 1) hR3 hj (by decide)
  have hJ4 := hR4.J j hj
  have hk : b.1 11 j = nI (jn b 11 j) := l2
  have hm4 := hJ4.2.2.2.2.1
  have hI5 : IJ1 (gwI (gwI (gwI (gwI (gwI (gwI (gwI (gwI (pT b j (jn b 12 j) X) 9 j 1) 24 Q.length (nI j)) 3 3 (nI (Q.length + 1))) 0 13 D) 2 5 (b.1 2 5 + ls b j)) 2 8 (b.1 2 8 + 1)) (5 + 16) j (b.1 21 j + 1)) (5 + 5) j (b.1 11 j)) p t j := by
    obtain ⟨j1, j2, j3, j4, j5, j6, j7, j8⟩ := hJ4
    have l3' : jn b 10 j ≤ jn b 11 j := l3
    have l4' : jn b 11 j ≤ 9999 := l4
    have e10 : ∀ μ : gMem, (gwI μ (5 + 5) j (b.1 11 j)).1 10 j = b.1 11 j := fun μ => by rw [gI_r, if_pos ⟨rfl, rfl⟩]
    have e11 : (gwI (gwI (gwI (gwI (gwI (gwI (gwI (gwI (pT b j (jn b 12 j) X) 9 j 1) 24 Q.length (nI j)) 3 3 (nI (Q.length + 1))) 0 13 D) 2 5 (b.1 2 5 + ls b j)) 2 8 (b.1 2 8 + 1)) (5 + 16) j (b.1 21 j + 1)) (5 + 5) j (b.1 11 j)).1 11 j = b.1 11 j := rfl
    unfold IJ1 jn at *
    rw [e10, e11]
    exact ⟨j1, j2, j3, j4, ⟨l2, l2, Nat.le_refl _, l4', fun _ => by omega, j5.2.2.2.2.2⟩, j6, j7, j8⟩
  have hR5 := jf_rel (w := 5) (x := b.1 11 j) hR4 hj (by decide) hI5
  have hR6 := jf_rel (w := 12) (x := nI 0) hR5 hj (by decide) (IJ1_17 (hR5.J j hj) (by omega))
  refine (hR6.mono (by omega) (by omega)).bs ⟨rfl, fun c i hc => ?_⟩
  unfold pB
  simp only [gI_r]
  by_cases c0 : c = 0
  · subst c0; simp
  · by_cases c2 : c = 2
    · subst c2; simp
    · by_cases c3 : c = 3
      · subst c3; simp
      · by_cases c9 : c = 9
        · subst c9; simp
        · by_cases c10 : c = 10
          · subst c10; simp
          · by_cases c17 : c = 17
            · subst c17; simp; rfl
            · by_cases c21 : c = 21
              · subst c21; simp
              · by_cases c24 : c = 24
                · subst c24; simp
                · simp [c0, c2, c3, c9, c10, c17, c21, c24]
end BACK
