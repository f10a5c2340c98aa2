section MNA
variable {p : Program} {l : Launch} {e : Env} {R : Room} {s : State} {m : MethodId} {args : Array Value} {below : List Frame} {meth : Method} {c : Code} {H H0 : Heap} {locs : List Loc} {cells slots : Nat} {Q : State → Prop}
variable {cc : ByteArray} {pc : Nat} {ls : Array Slot} {rest : List Value} {D : va_G} {b : Nat} {es : List va_E}
/-- new int[N][60] -/
theorem gmna {τ : ClassId × ClassId × ClassId × ClassId} {own : String} {index n N : Nat} {k1 : Int32} (hexec : p.tables.exec = Jvm.exec) (hb : c.code = cc) (hts : ∀ w ∈ gtb, w.before args s = true) (hown : s.vm.findClass own = some m.cls) (hK : va_K D gcl [(τ.1, .int), (τ.2.1, .long), (τ.2.2.1, .boolean), (τ.2.2.2, .array .int)] s) (hX : gX τ s) (hG : gc D b es H) (hS : va_S (fun q => b ≤ q) H0 H locs) (hclink : Cond.classLink own index "[[I" ∈ gtb) (hk : ¬ k1 < 0) (hN : k1.toNatClampNeg = N) (hN2 : N ≤ 60) (hn : es.length = n) (hcells : cells + (1 + N) ≤ R.cells) (hslots : slots + (N + N * 60) ≤ R.slots) (hdg : decode cc pc = .ok (.multianewarray index 2, 4))
    (kk : ∀ H1 : Heap, gc D b (es ++ (.inl (τ.2.2.2, N, .inr (.inr (.inr (.inr (fun i => if i < N then some (b + n + 1 + i) else none))))) :: List.replicate N (.inl (τ.1, 60, .inl (fun _ => 0))))) H1 → va_S (fun q => b ≤ q) H0 H1 locs → W p l e R s m args below meth c H1 locs (cells + (1 + N)) (slots + (N + N * 60)) Q (F0 m (pc + 4) ls (.ref (b + n) :: rest))) : W p l e R s m args below meth c H locs cells slots Q (F0 m pc ls (.int 60 :: .int k1 :: rest)) := by
  sorry
end MNA
