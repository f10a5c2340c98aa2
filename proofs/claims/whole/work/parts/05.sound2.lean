/-! soundness, second half: numbers, branches, cells, calls, ends -/
section OK2
variable {w : gWo} {l : Launch} {M : gMi} {pc : Nat}
theorem ok_iadd (hd : decode M.1 pc = .ok (.iadd, 1)) : gOk w l M pc (i_bin (fun x y => x + y)) := by
  intro p e R s m args below meth c hC r lv st μ k hf hk H locs ls hP hS hl
  unfold i_bin at hf
  split at hf
  · exact lv_iadd hC.1 hC.2.1 hd (hk _ _ _ _ hf H locs ls hP hS hl)
  · cases hf
theorem ok_isub (hd : decode M.1 pc = .ok (.isub, 1)) : gOk w l M pc (i_bin (fun x y => x - y)) := by
  intro p e R s m args below meth c hC r lv st μ k hf hk H locs ls hP hS hl
  unfold i_bin at hf
  split at hf
  · exact lv_isub hC.1 hC.2.1 hd (hk _ _ _ _ hf H locs ls hP hS hl)
  · cases hf
theorem ok_imul (hd : decode M.1 pc = .ok (.imul, 1)) : gOk w l M pc (i_bin (fun x y => x * y)) := by
  intro p e R s m args below meth c hC r lv st μ k hf hk H locs ls hP hS hl
  unfold i_bin at hf
  split at hf
  · exact lv_imul hC.1 hC.2.1 hd (hk _ _ _ _ hf H locs ls hP hS hl)
  · cases hf
theorem ok_iand (hd : decode M.1 pc = .ok (.iand, 1)) : gOk w l M pc (i_bin (fun x y => x &&& y)) := by
  intro p e R s m args below meth c hC r lv st μ k hf hk H locs ls hP hS hl
  unfold i_bin at hf
  split at hf
  · exact lv_iand hC.1 hC.2.1 hd (hk _ _ _ _ hf H locs ls hP hS hl)
  · cases hf
theorem ok_ior (hd : decode M.1 pc = .ok (.ior, 1)) : gOk w l M pc (i_bin (fun x y => x ||| y)) := by
  intro p e R s m args below meth c hC r lv st μ k hf hk H locs ls hP hS hl
  unfold i_bin at hf
  split at hf
  · exact lv_ior hC.1 hC.2.1 hd (hk _ _ _ _ hf H locs ls hP hS hl)
  · cases hf
theorem ok_ixor (hd : decode M.1 pc = .ok (.ixor, 1)) : gOk w l M pc (i_bin (fun x y => x ^^^ y)) := by
  intro p e R s m args below meth c hC r lv st μ k hf hk H locs ls hP hS hl
  unfold i_bin at hf
  split at hf
  · exact lv_ixor hC.1 hC.2.1 hd (hk _ _ _ _ hf H locs ls hP hS hl)
  · cases hf
theorem ok_ishl (hd : decode M.1 pc = .ok (.ishl, 1)) : gOk w l M pc (i_bin (fun x y => x <<< (y &&& 31))) := by
  intro p e R s m args below meth c hC r lv st μ k hf hk H locs ls hP hS hl
  unfold i_bin at hf
  split at hf
  · exact lv_ishl hC.1 hC.2.1 hd (hk _ _ _ _ hf H locs ls hP hS hl)
  · cases hf
theorem ok_ishr (hd : decode M.1 pc = .ok (.ishr, 1)) : gOk w l M pc (i_bin (fun x y => x >>> (y &&& 31))) := by
  intro p e R s m args below meth c hC r lv st μ k hf hk H locs ls hP hS hl
  unfold i_bin at hf
  split at hf
  · exact lv_ishr hC.1 hC.2.1 hd (hk _ _ _ _ hf H locs ls hP hS hl)
  · cases hf
theorem ok_iushr (hd : decode M.1 pc = .ok (.iushr, 1)) : gOk w l M pc (i_bin (fun x y => g_ushr x y)) := by
  intro p e R s m args below meth c hC r lv st μ k hf hk H locs ls hP hS hl
  unfold i_bin at hf
  split at hf
  · exact lv_iushr hC.1 hC.2.1 hd rfl (hk _ _ _ _ hf H locs ls hP hS hl)
  · cases hf
theorem ok_idiv (hd : decode M.1 pc = .ok (.idiv, 1)) : gOk w l M pc (i_dvr (fun x y => x / y)) := by
  intro p e R s m args below meth c hC r lv st μ k hf hk H locs ls hP hS hl
  unfold i_dvr at hf
  split at hf
  · split at hf
    · cases hf
    · rename_i hne
      exact lv_idiv hC.1 hC.2.1 hd hne (hk _ _ _ _ hf H locs ls hP hS hl)
  · cases hf
theorem ok_irem (hd : decode M.1 pc = .ok (.irem, 1)) : gOk w l M pc (i_dvr (fun x y => x - x / y * y)) := by
  intro p e R s m args below meth c hC r lv st μ k hf hk H locs ls hP hS hl
  unfold i_dvr at hf
  split at hf
  · split at hf
    · cases hf
    · rename_i hne
      exact lv_irem hC.1 hC.2.1 hd hne (hk _ _ _ _ hf H locs ls hP hS hl)
  · cases hf
theorem ok_ineg (hd : decode M.1 pc = .ok (.ineg, 1)) : gOk w l M pc i_neg := by
  intro p e R s m args below meth c hC r lv st μ k hf hk H locs ls hP hS hl
  unfold i_neg at hf
  split at hf
  · exact lv_ineg hC.1 hC.2.1 hd (hk _ _ _ _ hf H locs ls hP hS hl)
  · cases hf
theorem ok_ladd (hd : decode M.1 pc = .ok (.ladd, 1)) : gOk w l M pc (i_lbn (fun x y => x + y)) := by
  intro p e R s m args below meth c hC r lv st μ k hf hk H locs ls hP hS hl
  unfold i_lbn at hf
  split at hf
  · exact lv_ladd hC.1 hC.2.1 hd (hk _ _ _ _ hf H locs ls hP hS hl)
  · cases hf
theorem ok_lsub (hd : decode M.1 pc = .ok (.lsub, 1)) : gOk w l M pc (i_lbn (fun x y => x - y)) := by
  intro p e R s m args below meth c hC r lv st μ k hf hk H locs ls hP hS hl
  unfold i_lbn at hf
  split at hf
  · exact lv_lsub hC.1 hC.2.1 hd (hk _ _ _ _ hf H locs ls hP hS hl)
  · cases hf
theorem ok_lmul (hd : decode M.1 pc = .ok (.lmul, 1)) : gOk w l M pc (i_lbn (fun x y => x * y)) := by
  intro p e R s m args below meth c hC r lv st μ k hf hk H locs ls hP hS hl
  unfold i_lbn at hf
  split at hf
  · exact lv_lmul hC.1 hC.2.1 hd (hk _ _ _ _ hf H locs ls hP hS hl)
  · cases hf
theorem ok_land (hd : decode M.1 pc = .ok (.land, 1)) : gOk w l M pc (i_lbn (fun x y => x &&& y)) := by
  intro p e R s m args below meth c hC r lv st μ k hf hk H locs ls hP hS hl
  unfold i_lbn at hf
  split at hf
  · exact lv_land hC.1 hC.2.1 hd (hk _ _ _ _ hf H locs ls hP hS hl)
  · cases hf
theorem ok_lor (hd : decode M.1 pc = .ok (.lor, 1)) : gOk w l M pc (i_lbn (fun x y => x ||| y)) := by
  intro p e R s m args below meth c hC r lv st μ k hf hk H locs ls hP hS hl
  unfold i_lbn at hf
  split at hf
  · exact lv_lor hC.1 hC.2.1 hd (hk _ _ _ _ hf H locs ls hP hS hl)
  · cases hf
theorem ok_ldiv (hd : decode M.1 pc = .ok (.ldiv, 1)) : gOk w l M pc i_ldv := by
  intro p e R s m args below meth c hC r lv st μ k hf hk H locs ls hP hS hl
  unfold i_ldv at hf
  split at hf
  · split at hf
    · cases hf
    · rename_i hne
      exact lv_ldiv hC.1 hC.2.1 hd hne (hk _ _ _ _ hf H locs ls hP hS hl)
  · cases hf
theorem ok_lshl (hd : decode M.1 pc = .ok (.lshl, 1)) : gOk w l M pc (i_lsh (fun x y => x <<< (y.toInt64 &&& 63))) := by
  intro p e R s m args below meth c hC r lv st μ k hf hk H locs ls hP hS hl
  unfold i_lsh at hf
  split at hf
  · exact lv_lshl hC.1 hC.2.1 hd rfl (hk _ _ _ _ hf H locs ls hP hS hl)
  · cases hf
theorem ok_lushr (hd : decode M.1 pc = .ok (.lushr, 1)) : gOk w l M pc (i_lsh (fun x y => g_lushr x y)) := by
  intro p e R s m args below meth c hC r lv st μ k hf hk H locs ls hP hS hl
  unfold i_lsh at hf
  split at hf
  · exact lv_lushr hC.1 hC.2.1 hd rfl (hk _ _ _ _ hf H locs ls hP hS hl)
  · cases hf
theorem ok_i2l (hd : decode M.1 pc = .ok (.i2l, 1)) : gOk w l M pc i_i2l := by
  intro p e R s m args below meth c hC r lv st μ k hf hk H locs ls hP hS hl
  unfold i_i2l at hf
  split at hf
  · exact lv_i2l hC.1 hC.2.1 hd rfl (hk _ _ _ _ hf H locs ls hP hS hl)
  · cases hf
theorem ok_l2i (hd : decode M.1 pc = .ok (.l2i, 1)) : gOk w l M pc i_l2i := by
  intro p e R s m args below meth c hC r lv st μ k hf hk H locs ls hP hS hl
  unfold i_l2i at hf
  split at hf
  · exact lv_l2i hC.1 hC.2.1 hd rfl (hk _ _ _ _ hf H locs ls hP hS hl)
  · cases hf
theorem ok_lcmp (hd : decode M.1 pc = .ok (.lcmp, 1)) : gOk w l M pc i_lcm := by
  intro p e R s m args below meth c hC r lv st μ k hf hk H locs ls hP hS hl
  unfold i_lcm at hf
  split at hf
  · exact W.lcmp hC.1 hC.2.1 hd (hk _ _ _ _ hf H locs ls hP hS hl)
  · cases hf
theorem ok_dup (hd : decode M.1 pc = .ok (.dup, 1)) : gOk w l M pc i_dup := by
  intro p e R s m args below meth c hC r lv st μ k hf hk H locs ls hP hS hl
  unfold i_dup at hf
  split at hf
  · split at hf
    · rename_i hv
      exact lv_dup hC.1 hC.2.1 hd (by rw [gv_cat]; exact Nat.eq_of_beq_eq_true hv) (hk _ _ _ _ hf H locs ls hP hS hl)
    · cases hf
  · cases hf
theorem ok_dup2 (hd : decode M.1 pc = .ok (.dup2, 1)) : gOk w l M pc i_du2 := by
  intro p e R s m args below meth c hC r lv st μ k hf hk H locs ls hP hS hl
  unfold i_du2 at hf
  split at hf
  · split at hf
    · rename_i hv
      obtain ⟨hv, hu⟩ := (Bool.and_eq_true _ _).mp hv
      exact lv_dup2_11 hC.1 hC.2.1 hd (by rw [gv_cat]; exact Nat.eq_of_beq_eq_true hv) (by rw [gv_cat]; exact Nat.eq_of_beq_eq_true hu) (hk _ _ _ _ hf H locs ls hP hS hl)
    · cases hf
  · cases hf
theorem ok_pop (hd : decode M.1 pc = .ok (.pop, 1)) : gOk w l M pc i_pop := by
  intro p e R s m args below meth c hC r lv st μ k hf hk H locs ls hP hS hl
  unfold i_pop at hf
  split at hf
  · split at hf
    · rename_i hv
      exact lv_pop hC.1 hC.2.1 hd (by rw [gv_cat]; exact Nat.eq_of_beq_eq_true hv) (hk _ _ _ _ hf H locs ls hP hS hl)
    · cases hf
  · cases hf
theorem ok_goto {off : Int} {t : Nat} (hd : decode M.1 pc = .ok (.goto off, 3)) (ht : (pc : Int) + off = (t : Int)) : gOk w l M pc (i_gto t) := by
  intro p e R s m args below meth c hC r lv st μ k hf hk H locs ls hP hS hl
  exact lv_goto hC.1 hC.2.1 hd ht (hk _ _ _ _ hf H locs ls hP hS hl)
theorem ok_ifeq {off : Int} {t : Nat} (hd : decode M.1 pc = .ok (.ifCond .eq off, 3)) (ht : (pc : Int) + off = (t : Int)) : gOk w l M pc (i_feq t) := by
  intro p e R s m args below meth c hC r lv st μ k hf hk H locs ls hP hS hl
  unfold i_feq at hf
  split at hf
  · exact lv_if_eq hC.1 hC.2.1 hd ht (fun hc => hk _ _ _ _ (by rw [if_pos hc] at hf; exact hf) H locs ls hP hS hl) (fun hc => hk _ _ _ _ (by rw [if_neg hc] at hf; exact hf) H locs ls hP hS hl)
  · cases hf
theorem ok_icmpeq {off : Int} {t : Nat} (hd : decode M.1 pc = .ok (.if_icmp .eq off, 3)) (ht : (pc : Int) + off = (t : Int)) : gOk w l M pc (i_ceq t) := by
  intro p e R s m args below meth c hC r lv st μ k hf hk H locs ls hP hS hl
  unfold i_ceq at hf
  split at hf
  · exact lv_icmp_eq hC.1 hC.2.1 hd ht (fun hc => hk _ _ _ _ (by rw [if_pos hc] at hf; exact hf) H locs ls hP hS hl) (fun hc => hk _ _ _ _ (by rw [if_neg hc] at hf; exact hf) H locs ls hP hS hl)
  · cases hf
theorem ok_ifne {off : Int} {t : Nat} (hd : decode M.1 pc = .ok (.ifCond .ne off, 3)) (ht : (pc : Int) + off = (t : Int)) : gOk w l M pc (i_fne t) := by
  intro p e R s m args below meth c hC r lv st μ k hf hk H locs ls hP hS hl
  unfold i_fne at hf
  split at hf
  · exact lv_if_ne hC.1 hC.2.1 hd ht (fun hc => hk _ _ _ _ (by rw [if_neg hc] at hf; exact hf) H locs ls hP hS hl) (fun hc => hk _ _ _ _ (by rw [if_pos hc] at hf; exact hf) H locs ls hP hS hl)
  · cases hf
theorem ok_icmpne {off : Int} {t : Nat} (hd : decode M.1 pc = .ok (.if_icmp .ne off, 3)) (ht : (pc : Int) + off = (t : Int)) : gOk w l M pc (i_cne t) := by
  intro p e R s m args below meth c hC r lv st μ k hf hk H locs ls hP hS hl
  unfold i_cne at hf
  split at hf
  · exact lv_icmp_ne hC.1 hC.2.1 hd ht (fun hc => hk _ _ _ _ (by rw [if_neg hc] at hf; exact hf) H locs ls hP hS hl) (fun hc => hk _ _ _ _ (by rw [if_pos hc] at hf; exact hf) H locs ls hP hS hl)
  · cases hf
theorem ok_iflt {off : Int} {t : Nat} (hd : decode M.1 pc = .ok (.ifCond .lt off, 3)) (ht : (pc : Int) + off = (t : Int)) : gOk w l M pc (i_flt t) := by
  intro p e R s m args below meth c hC r lv st μ k hf hk H locs ls hP hS hl
  unfold i_flt at hf
  split at hf
  · exact lv_if_lt hC.1 hC.2.1 hd ht (fun hc => hk _ _ _ _ (by rw [if_pos hc] at hf; exact hf) H locs ls hP hS hl) (fun hc => hk _ _ _ _ (by rw [if_neg hc] at hf; exact hf) H locs ls hP hS hl)
  · cases hf
theorem ok_icmplt {off : Int} {t : Nat} (hd : decode M.1 pc = .ok (.if_icmp .lt off, 3)) (ht : (pc : Int) + off = (t : Int)) : gOk w l M pc (i_clt t) := by
  intro p e R s m args below meth c hC r lv st μ k hf hk H locs ls hP hS hl
  unfold i_clt at hf
  split at hf
  · exact lv_icmp_lt hC.1 hC.2.1 hd ht (fun hc => hk _ _ _ _ (by rw [if_pos hc] at hf; exact hf) H locs ls hP hS hl) (fun hc => hk _ _ _ _ (by rw [if_neg hc] at hf; exact hf) H locs ls hP hS hl)
  · cases hf
theorem ok_ifge {off : Int} {t : Nat} (hd : decode M.1 pc = .ok (.ifCond .ge off, 3)) (ht : (pc : Int) + off = (t : Int)) : gOk w l M pc (i_fge t) := by
  intro p e R s m args below meth c hC r lv st μ k hf hk H locs ls hP hS hl
  unfold i_fge at hf
  split at hf
  · exact lv_if_ge hC.1 hC.2.1 hd ht (fun hc => hk _ _ _ _ (by rw [if_pos hc] at hf; exact hf) H locs ls hP hS hl) (fun hc => hk _ _ _ _ (by rw [if_neg hc] at hf; exact hf) H locs ls hP hS hl)
  · cases hf
theorem ok_icmpge {off : Int} {t : Nat} (hd : decode M.1 pc = .ok (.if_icmp .ge off, 3)) (ht : (pc : Int) + off = (t : Int)) : gOk w l M pc (i_cge t) := by
  intro p e R s m args below meth c hC r lv st μ k hf hk H locs ls hP hS hl
  unfold i_cge at hf
  split at hf
  · exact lv_icmp_ge hC.1 hC.2.1 hd ht (fun hc => hk _ _ _ _ (by rw [if_pos hc] at hf; exact hf) H locs ls hP hS hl) (fun hc => hk _ _ _ _ (by rw [if_neg hc] at hf; exact hf) H locs ls hP hS hl)
  · cases hf
theorem ok_ifgt {off : Int} {t : Nat} (hd : decode M.1 pc = .ok (.ifCond .gt off, 3)) (ht : (pc : Int) + off = (t : Int)) : gOk w l M pc (i_fgt t) := by
  intro p e R s m args below meth c hC r lv st μ k hf hk H locs ls hP hS hl
  unfold i_fgt at hf
  split at hf
  · exact lv_if_gt hC.1 hC.2.1 hd ht (fun hc => hk _ _ _ _ (by rw [if_pos hc] at hf; exact hf) H locs ls hP hS hl) (fun hc => hk _ _ _ _ (by rw [if_neg hc] at hf; exact hf) H locs ls hP hS hl)
  · cases hf
theorem ok_icmpgt {off : Int} {t : Nat} (hd : decode M.1 pc = .ok (.if_icmp .gt off, 3)) (ht : (pc : Int) + off = (t : Int)) : gOk w l M pc (i_cgt t) := by
  intro p e R s m args below meth c hC r lv st μ k hf hk H locs ls hP hS hl
  unfold i_cgt at hf
  split at hf
  · exact lv_icmp_gt hC.1 hC.2.1 hd ht (fun hc => hk _ _ _ _ (by rw [if_pos hc] at hf; exact hf) H locs ls hP hS hl) (fun hc => hk _ _ _ _ (by rw [if_neg hc] at hf; exact hf) H locs ls hP hS hl)
  · cases hf
theorem ok_ifle {off : Int} {t : Nat} (hd : decode M.1 pc = .ok (.ifCond .le off, 3)) (ht : (pc : Int) + off = (t : Int)) : gOk w l M pc (i_fle t) := by
  intro p e R s m args below meth c hC r lv st μ k hf hk H locs ls hP hS hl
  unfold i_fle at hf
  split at hf
  · exact lv_if_le hC.1 hC.2.1 hd ht (fun hc => hk _ _ _ _ (by rw [if_pos hc] at hf; exact hf) H locs ls hP hS hl) (fun hc => hk _ _ _ _ (by rw [if_neg hc] at hf; exact hf) H locs ls hP hS hl)
  · cases hf
theorem ok_icmple {off : Int} {t : Nat} (hd : decode M.1 pc = .ok (.if_icmp .le off, 3)) (ht : (pc : Int) + off = (t : Int)) : gOk w l M pc (i_cle t) := by
  intro p e R s m args below meth c hC r lv st μ k hf hk H locs ls hP hS hl
  unfold i_cle at hf
  split at hf
  · exact lv_icmp_le hC.1 hC.2.1 hd ht (fun hc => hk _ _ _ _ (by rw [if_pos hc] at hf; exact hf) H locs ls hP hS hl) (fun hc => hk _ _ _ _ (by rw [if_neg hc] at hf; exact hf) H locs ls hP hS hl)
  · cases hf
def g_swo (pc : Nat) (dflt lo : Int) : List Int → Nat → List (Int32 × Nat) → Nat → Bool
  | [], _, [], d => decide ((pc : Int) + dflt = (d : Int))
  | o :: os, j, (v, t) :: ps, d => decide (v.toInt = lo + (j : Int)) && (decide ((pc : Int) + o = (t : Int)) && g_swo pc dflt lo os (j + 1) ps d)
  | _, _, _, _ => false
theorem g_swo_spec {pc : Nat} {dflt lo : Int} {κ : Nat → Option gR} {x : Int32} {r : gR} {d : Nat} : ∀ (os : List Int) (j : Nat) (ps : List (Int32 × Nat)), g_swo pc dflt lo os j ps d = true → g_swk κ x ps d = some r →
    (κ d = some r ∧ (pc : Int) + dflt = (d : Int) ∧ (x.toInt < lo + j ∨ lo + j + os.length ≤ x.toInt)) ∨ ∃ (i t : Nat) (o : Int), κ t = some r ∧ os[i]? = some o ∧ (pc : Int) + o = (t : Int) ∧ x.toInt = lo + j + i
  | [], j, [], h, hk => Or.inl ⟨hk, of_decide_eq_true h, by simp; omega⟩
  | o :: os, j, (v, t) :: ps, h, hk => by
    simp only [g_swo, Bool.and_eq_true, decide_eq_true_eq] at h
    unfold g_swk at hk
    by_cases hx : x = v
    · rw [if_pos hx] at hk
      exact Or.inr ⟨0, t, o, hk, rfl, h.2.1, by rw [hx, h.1]; simp⟩
    · rw [if_neg hx] at hk
      have hne : ¬ x.toInt = lo + j := fun q => hx (Int32.toInt_inj.mp (by rw [q, h.1]))
      rcases g_swo_spec os (j + 1) ps h.2.2 hk with ⟨h1, h2, h3⟩ | ⟨i, t', o', h1, h2, h3, h4⟩
      · refine Or.inl ⟨h1, h2, ?_⟩
        simp only [List.length_cons]
        push_cast at h3 ⊢
        omega
      · refine Or.inr ⟨i + 1, t', o', h1, by simpa using h2, h3, ?_⟩
        push_cast at h4 ⊢
        omega
  | [], _, _ :: _, h, _ => by simp [g_swo] at h
  | _ :: _, _, [], h, _ => by simp [g_swo] at h
theorem ok_tsw {dflt lo hi : Int} {offs : Array Int} {len d : Nat} {ps : List (Int32 × Nat)} (hd : decode M.1 pc = .ok (.tableswitch dflt lo hi offs, len)) (ht : g_swo pc dflt lo offs.toList 0 ps d = true) (hn : hi = lo + offs.size - 1) : gOk w l M pc (i_swt ps d) := by
  intro p e R s m args below meth c hC r lv st μ k hf hk H locs ls hP hS hl
  unfold i_swt at hf
  split at hf
  · rename_i x rr
    rcases g_swo_spec _ _ _ ht hf with ⟨h1, h2, h3⟩ | ⟨i, t, o, h1, h2, h3, h4⟩
    · refine lv_tableOut hC.1 hC.2.1 hd ?_ h2 (hk _ _ _ _ h1 H locs ls hP hS hl)
      rw [Array.length_toList] at h3
      simp at h3
      omega
    · have hi1 : i < offs.size := by
        have := (List.getElem?_eq_some_iff.mp h2).1
        rwa [Array.length_toList] at this
      simp at h4
      refine lv_tableIn hC.1 hC.2.1 hd (by omega) (by omega) ?_ h3 (hk _ _ _ _ h1 H locs ls hP hS hl)
      rw [show (x.toInt - lo).toNat = i by omega, ← Array.getElem?_toList]
      exact h2
  · cases hf
end OK2
