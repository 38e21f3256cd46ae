/-! making arrays: their classes are the known ones -/
section JN
variable {p : Program} {l : Launch} {e : Env} {R : Room} {s : State} {m : MethodId} {args : Array Value} {below : List Frame} {meth : Method} {c : Code} {H : Heap} {locs : List Loc} {cells slots : Nat} {Q : State → Prop}
variable {cc : ByteArray} {pc : Nat} {ls : Array Slot} {rest : List Value} {D : va_G} {cy : Nat → ClassId} {A : Nat → Prop} {ws : va_W} {H0 : Heap}
theorem j_newI (hx : p.tables.exec = Jvm.exec) (hb : c.code = cc) (harr : (Cond.arrayClass .int).before args s = true) (hK : va_K D vwCl (tyA cy) s) (hP : va_P D vwCl ws H) (hD : va_D A ws) (hS : va_S A H0 H locs) (hA : ∀ q, H0.size ≤ q → A q)
    {n : Int32} {N' : Nat} (hn : ¬ n < 0) (hN : n.toNatClampNeg = N') (hbd : N' ≤ 134217728) (hcells : cells + 1 ≤ R.cells) (hslots : slots + N' ≤ R.slots) (hdg : decode cc pc = .ok (.newarray .int, 2))
    (kk : ∀ (q : Nat) (H1 : Heap), va_P D vwCl (ws ++ [(q, .inl (cy 0, N', .inl (fun _ => 0)))]) H1 → va_D A (ws ++ [(q, .inl (cy 0, N', .inl (fun _ => 0)))]) → va_S A H0 H1 locs → W p l e R s m args below meth c H1 locs (cells + 1) (slots + N') Q (F0 m (pc + 2) ls (.ref q :: rest))) : W p l e R s m args below meth c H locs cells slots Q (F0 m pc ls (.int n :: rest)) := by
  refine va_newa (atype := .int) (ty := .int) (a0 := (N', .inl (fun _ => 0))) hx hb harr rfl hK hP hD hS hA (fun cA => rfl) hn hN (by show N' * 4 ≤ _; omega) hcells hslots hdg (fun q cA H1 hK1 hP1 hD1 hS1 => ?_)
  have e1 : cA = cy 0 := Option.some.inj ((hK1.2 4 (cA, .int) rfl).2.symm.trans (hK.2 0 (cy 0, .int) rfl).2)
  subst e1
  exact kk q H1 hP1 hD1 hS1
theorem j_newC (hx : p.tables.exec = Jvm.exec) (hb : c.code = cc) (harr : (Cond.arrayClass .char).before args s = true) (hK : va_K D vwCl (tyA cy) s) (hP : va_P D vwCl ws H) (hD : va_D A ws) (hS : va_S A H0 H locs) (hA : ∀ q, H0.size ≤ q → A q)
    {n : Int32} {N' : Nat} (hn : ¬ n < 0) (hN : n.toNatClampNeg = N') (hbd : N' ≤ 134217728) (hcells : cells + 1 ≤ R.cells) (hslots : slots + N' ≤ R.slots) (hdg : decode cc pc = .ok (.newarray .char, 2))
    (kk : ∀ (q : Nat) (H1 : Heap), va_P D vwCl (ws ++ [(q, .inl (cy 1, N', .inl (fun _ => 0)))]) H1 → va_D A (ws ++ [(q, .inl (cy 1, N', .inl (fun _ => 0)))]) → va_S A H0 H1 locs → W p l e R s m args below meth c H1 locs (cells + 1) (slots + N') Q (F0 m (pc + 2) ls (.ref q :: rest))) : W p l e R s m args below meth c H locs cells slots Q (F0 m pc ls (.int n :: rest)) := by
  refine va_newa (atype := .char) (ty := .char) (a0 := (N', .inl (fun _ => 0))) hx hb harr rfl hK hP hD hS hA (fun cA => rfl) hn hN (by show N' * 2 ≤ _; omega) hcells hslots hdg (fun q cA H1 hK1 hP1 hD1 hS1 => ?_)
  have e1 : cA = cy 1 := Option.some.inj ((hK1.2 4 (cA, .char) rfl).2.symm.trans (hK.2 1 (cy 1, .char) rfl).2)
  subst e1
  exact kk q H1 hP1 hD1 hS1
theorem j_newJ (hx : p.tables.exec = Jvm.exec) (hb : c.code = cc) (harr : (Cond.arrayClass .long).before args s = true) (hK : va_K D vwCl (tyA cy) s) (hP : va_P D vwCl ws H) (hD : va_D A ws) (hS : va_S A H0 H locs) (hA : ∀ q, H0.size ≤ q → A q)
    {n : Int32} {N' : Nat} (hn : ¬ n < 0) (hN : n.toNatClampNeg = N') (hbd : N' ≤ 67108864) (hcells : cells + 1 ≤ R.cells) (hslots : slots + N' ≤ R.slots) (hdg : decode cc pc = .ok (.newarray .long, 2))
    (kk : ∀ (q : Nat) (H1 : Heap), va_P D vwCl (ws ++ [(q, .inl (cy 2, N', .inr (.inl (fun _ => 0))))]) H1 → va_D A (ws ++ [(q, .inl (cy 2, N', .inr (.inl (fun _ => 0))))]) → va_S A H0 H1 locs → W p l e R s m args below meth c H1 locs (cells + 1) (slots + N') Q (F0 m (pc + 2) ls (.ref q :: rest))) : W p l e R s m args below meth c H locs cells slots Q (F0 m pc ls (.int n :: rest)) := by
  refine va_newa (atype := .long) (ty := .long) (a0 := (N', .inr (.inl (fun _ => 0)))) hx hb harr rfl hK hP hD hS hA (fun cA => rfl) hn hN (by show N' * 8 ≤ _; omega) hcells hslots hdg (fun q cA H1 hK1 hP1 hD1 hS1 => ?_)
  have e1 : cA = cy 2 := Option.some.inj ((hK1.2 4 (cA, .long) rfl).2.symm.trans (hK.2 2 (cy 2, .long) rfl).2)
  subst e1
  exact kk q H1 hP1 hD1 hS1
theorem j_rowsW0 (c : ClassId) (r : Nat → Nat) (n : Nat) (f : Nat → va_E) : va_pl ([] ++ (List.range 12).map r) (vr_up f ((List.range 12).map r) (.inl (c, n, .inl (fun _ => 0)))) = rowsW c r n (fun _ _ => 0) := by
  rw [List.nil_append]
  have h : va_pl ((List.range 12).map r) (vr_up f ((List.range 12).map r) (.inl (c, n, .inl (fun _ => 0)))) = ((List.range 12).map r).map (fun a => ((a, .inl (c, n, .inl (fun _ => 0))) : Nat × va_E)) := by
    unfold va_pl
    exact List.map_congr_left fun a ha => by rw [vr_up_in ha]
  rw [h]
  rfl
theorem j_mna {X : va_W} (hx : p.tables.exec = Jvm.exec) (hb : c.code = cc) {own : String} {index : Nat} (hown : s.vm.findClass own = some m.cls) (hclink : (Cond.classLink own index "[[I").before args s = true) (hover : va_AOA .int s) (harr : (Cond.arrayClass .int).before args s = true) (hK : va_K D vwCl (tyA cy) s) (hP : va_P D vwCl X H) (hD : va_D A X) (hS : va_S A H0 H locs) (hA : ∀ q, H0.size ≤ q → A q)
    {k : Int32} {K' : Nat} (hk : ¬ k < 0) (hM : k.toNatClampNeg = K') (hbd : K' ≤ 134217728) (hcells : cells + 13 ≤ R.cells) (hslots : slots + (12 + 12 * K') ≤ R.slots) (hdg : decode cc pc = .ok (.multianewarray index 2, 4))
    (kk : ∀ (q : Nat) (r : Nat → Nat) (H1 : Heap), va_P D vwCl ((X ++ [(q, .inl (cy 3, 12, .inr (.inr (.inr (.inr (rowsF r))))))]) ++ rowsW (cy 0) r K' (fun _ _ => 0)) H1 → va_D A ((X ++ [(q, .inl (cy 3, 12, .inr (.inr (.inr (.inr (rowsF r))))))]) ++ rowsW (cy 0) r K' (fun _ _ => 0)) → va_S A H0 H1 locs → W p l e R s m args below meth c H1 locs (cells + 13) (slots + (12 + 12 * K')) Q (F0 m (pc + 4) ls (.ref q :: rest))) : W p l e R s m args below meth c H locs cells slots Q (F0 m pc ls (.int k :: .int 12 :: rest)) := by
  have hcy : s.vm.findClass (FieldType.array .int).toString = some (cy 0) := (hK.2 0 (cy 0, .int) rfl).2
  have e0 : X ++ va_pl [] (fun _ => (.inr (0, []) : va_E)) = X := List.append_nil X
  refine va_mna (X := X) (L := []) (f := fun _ => .inr (0, [])) (ty := .int) (N' := 12) (z := (K', .inl (fun _ => 0))) hx hb hown hclink hover harr hcy hK (by rw [e0]; exact hP) (by rw [e0]; exact hD) hS hA (by decide) hk rfl hM (by decide) (by show K' * 4 ≤ _; omega) (by omega) rfl rfl hcells hslots (fun cA => arrV_new cA K' (.int 0)) hdg (fun q r cA H1 _ _ hK1 hP1 hD1 hS1 => ?_)
  have e1 : cA = cy 3 := Option.some.inj ((hK1.2 4 (cA, .array .int) rfl).2.symm.trans (hK.2 3 (cy 3, .array .int) rfl).2)
  subst e1
  rw [j_rowsW0] at hP1 hD1
  have k1 := kk q r H1 hP1 hD1 hS1
  rwa [show cells + 13 = cells + 1 + 12 by omega, show slots + (12 + 12 * K') = slots + 12 + 12 * K' by omega] at k1
end JN
/-- a constructor: its name, too -/
theorem j_metN {l : Launch} {y : MethodName} {ws ws' : List Cond} {rm : Room} {Qc : (Nat → Prop) → Array Value → State → Outcome → State → Prop} {mc ms : Nat} {cc : ByteArray} {maxL : Nat} {ret : Option FieldType} {D : va_G} {cy : Nat → ClassId} {Wd : va_W} {av : List Value} {sz : Nat} (hy : plainName y.cls = true) (hw : ws = Cond.code y cc maxL ret :: ws') (hlen : (lg_sl av).length ≤ maxL)
    (body : ∀ (p : Program) (e : Env) (s : State) (m : MethodId) (below : List Frame) (meth : Method) (c : Code) (A : Nat → Prop) (ls : Array Slot), Cx p s m av.toArray c cc y.cls maxL ws D cy A → meth.sig.returnType = ret → meth.locks = false → va_P D vwCl Wd s.heap → va_D A Wd → va_S A s.heap s.heap [] → lv_has ls maxL (lv_args 0 av) → meth.name = y.name →
      W p l e rm s m av.toArray below meth c s.heap [] 0 0 (MQ below (Qc A) av.toArray s mc ms A) (F0 m 0 ls [])) : Met l y ws rm (va_Pc av (PreW D cy Wd sz)) (Qc (va_A Wd sz)) mc ms (va_A Wd sz) := by
  refine Met.ofW hy hw ?_
  intro p e s m args below meth c s₁ B hml hv
  obtain ⟨rfl, hsz, hP, hK, hD0⟩ := hv
  have hts := atoms_spec (ws := ws) B.pre
  subst hsz
  have hD := hD0.self (sz := s.heap.size)
  have hl := lv_entry av (n := maxL) hlen
  rw [lg_entry_eq]
  exact body p e s m below meth c _ _ ⟨B.exec, B.bytes, hml, findClass_of_methodNamed B.named, hts, hK, fun q h => Or.inr h⟩ B.returns B.notSynchronized hP hD va_S.rf hl (name_of_methodNamed B.named B.method).1
