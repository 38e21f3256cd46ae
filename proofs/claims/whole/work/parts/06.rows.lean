/-! rows of my own over the kit's: arrays of twelve rows, contracts over worlds, calls with the frame -/
/-- the arrays' types, by their places: int, char, long, arrays of int -/
abbrev tyA (cy : Nat → ClassId) : List (ClassId × FieldType) := [(cy 0, .int), (cy 1, .char), (cy 2, .long), (cy 3, .array .int)]
/-- an array of twelve rows: what it refers to -/
def rowsF (r : Nat → Nat) : Nat → Option Nat := fun i => if i < 12 then some (r i) else none
/-- .. and the rows -/
def rowsW (c : ClassId) (r : Nat → Nat) (n : Nat) (M : Nat → Nat → Int32) : va_W := [(r 0, .inl (c, n, .inl (M 0))), (r 1, .inl (c, n, .inl (M 1))), (r 2, .inl (c, n, .inl (M 2))), (r 3, .inl (c, n, .inl (M 3))), (r 4, .inl (c, n, .inl (M 4))), (r 5, .inl (c, n, .inl (M 5))), (r 6, .inl (c, n, .inl (M 6))), (r 7, .inl (c, n, .inl (M 7))), (r 8, .inl (c, n, .inl (M 8))), (r 9, .inl (c, n, .inl (M 9))), (r 10, .inl (c, n, .inl (M 10))), (r 11, .inl (c, n, .inl (M 11)))]
def rowsU (M : Nat → Nat → Int32) (i : Nat) (f : Nat → Int32) : Nat → Nat → Int32 := fun k => if k = i then f else M k
theorem rowsU_same (M : Nat → Nat → Int32) (i : Nat) (f : Nat → Int32) : rowsU M i f i = f := if_pos rfl
theorem rowsU_ne (M : Nat → Nat → Int32) {i k : Nat} (f : Nat → Int32) (h : k ≠ i) : rowsU M i f k = M k := if_neg h
theorem rowsF_lt {r : Nat → Nat} {i : Nat} (h : i < 12) : rowsF r i = some (r i) := if_pos h
theorem j_12 {P : Nat → Prop} (h0 : P 0) (h1 : P 1) (h2 : P 2) (h3 : P 3) (h4 : P 4) (h5 : P 5) (h6 : P 6) (h7 : P 7) (h8 : P 8) (h9 : P 9) (h10 : P 10) (h11 : P 11) : ∀ {i : Nat}, i < 12 → P i := by
  intro i hi
  match i, hi with
  | 0, _ => exact h0
  | 1, _ => exact h1
  | 2, _ => exact h2
  | 3, _ => exact h3
  | 4, _ => exact h4
  | 5, _ => exact h5
  | 6, _ => exact h6
  | 7, _ => exact h7
  | 8, _ => exact h8
  | 9, _ => exact h9
  | 10, _ => exact h10
  | 11, _ => exact h11
  | n + 12, hi => exact absurd hi (by omega)
theorem rowsW_len (c : ClassId) (r : Nat → Nat) (n : Nat) (M : Nat → Nat → Int32) : (rowsW c r n M).length = 12 := rfl
theorem rowsW_at (c : ClassId) (r : Nat → Nat) (n : Nat) (M : Nat → Nat → Int32) {i : Nat} (h : i < 12) : (rowsW c r n M)[i]? = some (r i, .inl (c, n, .inl (M i))) :=
  j_12 (P := fun i => (rowsW c r n M)[i]? = some (r i, .inl (c, n, .inl (M i)))) rfl rfl rfl rfl rfl rfl rfl rfl rfl rfl rfl rfl h
theorem rowsW_put (c : ClassId) (r : Nat → Nat) (n : Nat) (M : Nat → Nat → Int32) (f : Nat → Int32) {i : Nat} (h : i < 12) : (rowsW c r n M).set i (r i, .inl (c, n, .inl f)) = rowsW c r n (rowsU M i f) :=
  j_12 (P := fun i => (rowsW c r n M).set i (r i, .inl (c, n, .inl f)) = rowsW c r n (rowsU M i f)) rfl rfl rfl rfl rfl rfl rfl rfl rfl rfl rfl rfl h
theorem rowsW_get (X : va_W) (c : ClassId) (r : Nat → Nat) (n : Nat) (M : Nat → Nat → Int32) {i : Nat} (h : i < 12) : (X ++ rowsW c r n M)[X.length + i]? = some (r i, .inl (c, n, .inl (M i))) := by
  rw [List.getElem?_append_right (by omega), Nat.add_sub_cancel_left]
  exact rowsW_at c r n M h
theorem rowsW_set (X : va_W) (c : ClassId) (r : Nat → Nat) (n : Nat) (M : Nat → Nat → Int32) (f : Nat → Int32) {i : Nat} (h : i < 12) : (X ++ rowsW c r n M).set (X.length + i) (r i, .inl (c, n, .inl f)) = X ++ rowsW c r n (rowsU M i f) := by
  rw [List.set_append_right _ _ (by omega), Nat.add_sub_cancel_left, rowsW_put c r n M f h]
theorem rowsW_get2 (X Y : va_W) (c : ClassId) (r : Nat → Nat) (n : Nat) (M : Nat → Nat → Int32) {i : Nat} (h : i < 12) : ((X ++ rowsW c r n M) ++ Y)[X.length + i]? = some (r i, .inl (c, n, .inl (M i))) := by
  rw [List.getElem?_append_left (by rw [List.length_append, rowsW_len]; omega)]
  exact rowsW_get X c r n M h
theorem rowsW_set2 (X Y : va_W) (c : ClassId) (r : Nat → Nat) (n : Nat) (M : Nat → Nat → Int32) (f : Nat → Int32) {i : Nat} (h : i < 12) : ((X ++ rowsW c r n M) ++ Y).set (X.length + i) (r i, .inl (c, n, .inl f)) = (X ++ rowsW c r n (rowsU M i f)) ++ Y := by
  rw [List.set_append_left _ _ (by rw [List.length_append, rowsW_len]; omega), rowsW_set X c r n M f h]
theorem j_places {ws wc : va_W} {is : List Nat} (h : is.map (fun i => ws[i]?) = wc.map some) : is.filterMap (fun i => ws[i]?) = wc := by
  have e : is.filterMap (fun i => ws[i]?) = (is.map (fun i => ws[i]?)).filterMap id := by rw [List.filterMap_map]; rfl
  rw [e, h, List.filterMap_map]
  induction wc with
  | nil => rfl
  | cons a t ih => simp
/-! the state's own facts: the tables' words that aren't good ones, two fields of Throwable, the table of factorials, the texts -/
def ev_face : List Cond := [.castable "java/lang/IllegalArgumentException" "java/lang/IllegalArgumentException", .castable "java/lang/IndexOutOfBoundsException" "java/lang/IndexOutOfBoundsException", .castable "java/lang/IllegalStateException" "java/lang/IllegalStateException", .declares ⟨"java/lang/RuntimeException", "<init>", "()V"⟩, .declares ⟨"java/lang/RuntimeException", "<init>", "(Ljava/lang/String;)V"⟩, .declares ⟨"java/lang/Exception", "<init>", "()V"⟩, .declares ⟨"java/lang/Exception", "<init>", "(Ljava/lang/String;)V"⟩, .declares ⟨"java/lang/Throwable", "<init>", "()V"⟩, .declares ⟨"java/lang/Throwable", "<init>", "(Ljava/lang/String;)V"⟩]
def ev_nc : List (String × String) := [("java/lang/IllegalArgumentException", "java/lang/IndexOutOfBoundsException"), ("java/lang/IllegalStateException", "java/lang/IndexOutOfBoundsException"), ("java/lang/IllegalStateException", "java/lang/IllegalArgumentException")]
def ev_strs : List (Nat × String) := [(226, "what is not 0 to 4"), (157, "what is not 0 to 3"), (177, "the place does not exist"), (47, "places is out of range"), (73, "one of the places does not exist"), (76, "kind is not 0 to 2, or last is not greater than first"), (80, "there are 6 turns"), (94, "there are no turns"), (96, "moves is negative, or has a bit that stands for no move"), (101, "the move does not exist"), (106, "the move is forbidden"), (116, "code is not 32 to 126"), (121, "the buffer has 60 characters"), (133, "the buffer is not a text of turns"), (138, "the buffer is not a word"), (144, "one of the moves is forbidden"), (204, "moves or what is out of range"), (218, "what is not 0 or 1"), (220, "the move is forbidden already"), (222, "the move or the place does not exist"), (224, "one of the moves does not exist")]
def ev_fact : Nat → Int32 := fun j => match j with
  | 0 => 1
  | 1 => 1
  | 2 => 2
  | 3 => 6
  | 4 => 24
  | 5 => 120
  | 6 => 720
  | 7 => 5040
  | _ => 40320
def EV (A : Nat → Prop) (U : State) (H : Heap) : Prop :=
  (∀ w ∈ ev_face, va_Nw w U) ∧ va_Nw (.methodLinkNest "TwistedRow$Graph" 61 yX2_setSolved "TwistedRow") U ∧ va_Nw (.methodLinkNest "TwistedRow$Graph" 65 yX2_codeOf "TwistedRow") U ∧ va_Nw (.fieldLinkNest "TwistedRow$Graph" 9 "TwistedRow" "FACTORIALS" "[I" "TwistedRow") U ∧ va_AOA .int U ∧ (∀ q ∈ ev_nc, va_Nc q.1 q.2 U) ∧ (∀ q ∈ ev_strs, ∃ a, vk_R "TwistedRow" q.1 q.2 a U) ∧ vx_Zq Bundle.tN "UNASSIGNED_STACK" Bundle.steD A U H ∧ vx_Zq Bundle.tN "SUPPRESSED_SENTINEL" Bundle.listD A U H ∧ ∃ t, va_Z "TwistedRow" "FACTORIALS" "[I" (.ref t) A U H ∧ va_T .int t 9 (fun j => .int (ev_fact j)) A U H
theorem ev_face_moved {w : Cond} (hw : w.onTables = true) (hf : w.faceAtom = true) {u U : State} (hvm : u.vm.Alike U.vm) (h : va_Nw w u) : va_Nw w U :=
  va_tabs hw (rfl : (u.setVm U.vm).vm = U.vm) (Cond.faceAtom_setVm (args := #[]) hvm w hf h)
theorem EV.to {A B : Nat → Prop} {s U : State} {H : Heap} {locs : List Loc} (h : EV A s s.heap) (hS : va_S A s.heap H locs) (hAB : ∀ q, B q → A q) (hW : s.WarmedH U.vm) : EV B U H := by
  obtain ⟨h1, h2, h3, h4, h5, h6, h7, h8, h9, t, h10, h11⟩ := h
  have hvm := hW.alike
  refine ⟨fun w hw => ?_, va_Nw.warmM hW h2, va_Nw.warmM hW h3, va_Nw.warmF hW h4, over_moved (a := #[]) (a' := #[]) hvm h5, fun q hq => va_Nc.moved hvm (h6 q hq), fun q hq => ?_, ((vx_Zq.moved hvm h8).kept hS.2.1).narrow hAB, ((vx_Zq.moved hvm h9).kept hS.2.1).narrow hAB, t, ((va_Z.moved hvm h10).kept hS.2.1).narrow hAB, ((va_T.moved hvm h11).kept hS.2.1).narrow hAB⟩
  · have hh := h1 w hw
    simp only [ev_face, List.mem_cons, List.not_mem_nil, or_false] at hw
    rcases hw with rfl | rfl | rfl | rfl | rfl | rfl | rfl | rfl | rfl <;> exact ev_face_moved rfl rfl hvm hh
  · obtain ⟨a, ha⟩ := h7 q hq
    exact ⟨a, ha.warm hW⟩
theorem EV.blind {A : Nat → Prop} {U : State} {H : Heap} {a : Array Value} {g : JFrame} {mk : MethodId} (h : EV A U H) : EV A (U.calling g mk a) H := by
  obtain ⟨h1, h2, h3, h4, h5, h6, h7, h8, h9, t, h10, h11⟩ := h
  have hvm : U.vm.Alike (U.calling g mk a).vm := Vm.Alike.refl U.vm
  refine ⟨fun w hw => ?_, va_Nw.same rfl rfl h2, va_Nw.same rfl rfl h3, va_Nw.same rfl rfl h4, over_moved (a := #[]) (a' := #[]) hvm h5, fun q hq => va_Nc.moved hvm (h6 q hq), fun q hq => (h7 q hq).imp fun a ha => vk_R.same rfl ha, vx_Zq.moved hvm h8, vx_Zq.moved hvm h9, t, va_Z.moved hvm h10, va_T.moved hvm h11⟩
  have hh := h1 w hw
  simp only [ev_face, List.mem_cons, List.not_mem_nil, or_false] at hw
  rcases hw with rfl | rfl | rfl | rfl | rfl | rfl | rfl | rfl | rfl <;> exact va_Nw.same (u := U) rfl rfl hh
/-! contracts over a world: what holds at the start, what holds at the end -/
def PreW (D : va_G) (cy : Nat → ClassId) (W : va_W) (sz : Nat) (U : State) : Prop := U.heap.size = sz ∧ va_P D vwCl W U.heap ∧ va_K D vwCl (tyA cy) U ∧ va_D (fun _ => True) W
def PreE (D : va_G) (cy : Nat → ClassId) (W : va_W) (sz : Nat) (U : State) : Prop := PreW D cy W sz U ∧ EV (va_A W sz) U U.heap
def PostW (D : va_G) (cy : Nat → ClassId) (A : Nat → Prop) (W : va_W) (t : State) : Prop := va_P D vwCl W t.heap ∧ va_K D vwCl (tyA cy) t ∧ va_D A W
theorem PreW.blind {av : List Value} {D : va_G} {cy : Nat → ClassId} {W : va_W} {sz : Nat} : FrameBlind (va_Pc av (PreW D cy W sz)) :=
  fun a U g mk q => ⟨q.1, q.2.1, q.2.2.1, va_K.moved (u := U) (U := U.calling g mk a) (Vm.Alike.refl U.vm) q.2.2.2.1, q.2.2.2.2⟩
theorem PreE.blind {av : List Value} {D : va_G} {cy : Nat → ClassId} {W : va_W} {sz : Nat} : FrameBlind (va_Pc av (PreE D cy W sz)) :=
  fun a U g mk q => ⟨q.1, ⟨q.2.1.1, q.2.1.2.1, va_K.moved (u := U) (U := U.calling g mk a) (Vm.Alike.refl U.vm) q.2.1.2.2.1, q.2.1.2.2.2⟩, EV.blind (a := a) (g := g) (mk := mk) q.2.2⟩
section JR
variable {p : Program} {l : Launch} {e : Env} {R : Room} {s : State} {m : MethodId} {args : Array Value} {below : List Frame} {meth : Method} {c : Code} {H : Heap} {locs : List Loc} {cells slots : Nat} {Q : State → Prop}
variable {cc : ByteArray} {pc : Nat} {ls : Array Slot} {rest st0 : List Value} {D : va_G} {cy : Nat → ClassId} {A : Nat → Prop} {a : Array Value} {ws : va_W} {H0 : Heap} {mc ms : Nat}
theorem j_preS {As : List Value} {wc : va_W} {isC : List Nat} (hK : va_K D vwCl (tyA cy) s) (hP : va_P D vwCl ws H) (hD : va_D A ws) (hC : isC.map (fun i => ws[i]?) = wc.map some) (hn : va_nd isC = true) : PreS s H (va_Pc As (PreW D cy wc H.size)) As :=
  ⟨PreW.blind, fun U hU hW => ⟨rfl, by rw [hU], by rw [hU]; exact hP.sub isC (j_places hC), va_K.moved hW.alike hK, (hD.sub isC hn hC).weaken (fun _ _ _ _ => trivial)⟩⟩
theorem j_preSE {As : List Value} {wc : va_W} {isC : List Nat} (hK : va_K D vwCl (tyA cy) s) (hP : va_P D vwCl ws H) (hD : va_D A ws) (hC : isC.map (fun i => ws[i]?) = wc.map some) (hn : va_nd isC = true) (hE : EV A s s.heap) (hS : va_S A s.heap H locs) (hA : ∀ q, s.heap.size ≤ q → A q) : PreS s H (va_Pc As (PreE D cy wc H.size)) As :=
  ⟨PreE.blind, fun U hU hW => ⟨rfl, ⟨by rw [hU], by rw [hU]; exact hP.sub isC (j_places hC), va_K.moved hW.alike hK, (hD.sub isC hn hC).weaken (fun _ _ _ _ => trivial)⟩, by
    rw [hU]
    exact hE.to hS (va_free hD hS hA isC hC) hW⟩⟩
theorem j_preV {b : Nat} {As : List Value} {wc : va_W} {isC : List Nat} {q0 ci : Nat} {qc : vw_C} {fs : List Value} (hK : va_K D vwCl (tyA cy) s) (hP : va_P D vwCl ws H) (hD : va_D A ws) (hC : isC.map (fun i => ws[i]?) = wc.map some) (hn : va_nd isC = true) (hc : vwCl[ci]? = some qc) (he : ws[q0]? = some (b, .inr (ci, fs))) : PreV s H qc.1 b (va_Pc (.ref b :: As) (PreW D cy wc H.size)) As :=
  ⟨(j_preS (As := .ref b :: As) hK hP hD hC hn).1, va_recv hK hP hc he, (j_preS (As := .ref b :: As) hK hP hD hC hn).2⟩
theorem j_preVE {b : Nat} {As : List Value} {wc : va_W} {isC : List Nat} {q0 ci : Nat} {qc : vw_C} {fs : List Value} (hK : va_K D vwCl (tyA cy) s) (hP : va_P D vwCl ws H) (hD : va_D A ws) (hC : isC.map (fun i => ws[i]?) = wc.map some) (hn : va_nd isC = true) (hE : EV A s s.heap) (hS : va_S A s.heap H locs) (hA : ∀ q, s.heap.size ≤ q → A q) (hc : vwCl[ci]? = some qc) (he : ws[q0]? = some (b, .inr (ci, fs))) : PreV s H qc.1 b (va_Pc (.ref b :: As) (PreE D cy wc H.size)) As :=
  ⟨(j_preSE (As := .ref b :: As) hK hP hD hC hn hE hS hA).1, va_recv hK hP hc he, (j_preSE (As := .ref b :: As) hK hP hD hC hn hE hS hA).2⟩
/-- what stands behind a call: the callee's world as it left it, beside the rest, in an order -/
theorem j_after {S : Type} {wc wr : va_W} {Wu : S → va_W} {H1 : Heap} (hP : va_P D vwCl ws H) (hD : va_D A ws) (hS : va_S A H0 H locs) (hA : ∀ q, H0.size ≤ q → A q) (isC isR : List Nat) (hC : isC.map (fun i => ws[i]?) = wc.map some) (hR : isR.map (fun i => ws[i]?) = wr.map some) (hn : va_nd isR = true) (hdis : ∀ i ∈ isR, i ∉ isC)
    (W' : S → va_W) (isO : List Nat) (hnO : va_nd isO = true) (hO : ∀ u, isO.map (fun i => (wr ++ Wu u)[i]?) = (W' u).map some) {u : S} {t : State} (ht : t.heap = H1) (hk : ∀ q : Nat, q < H.size → ¬ va_A wc H.size q → H1[q]? = H[q]?) (hB : PostW D cy (va_A wc H.size) (Wu u) t) : va_P D vwCl (W' u) H1 ∧ va_D A (W' u) := by
  obtain ⟨hP1, hK1, hD1⟩ := hB
  rw [ht] at hP1
  obtain ⟨hP2, hD2⟩ := va_join hP hD isC isR hC hR hn hdis hk (va_free hD hS hA isC hC) hP1 hD1
  exact ⟨hP2.sub isO (j_places (hO u)), hD2.sub isO hnO (hO u)⟩
theorem j_calli {S : Type} {post : Int32 → S → Prop} {wc wr : va_W} {Wu : S → va_W} (hr : va_Run p l e R s m args below meth c H locs cells slots mc ms (F0 m pc ls st0) rest (va_Qi post (fun u t => PostW D cy (va_A wc H.size) (Wu u) t) (va_A wc H.size) a) (va_A wc H.size)) (hP : va_P D vwCl ws H) (hD : va_D A ws) (hS : va_S A H0 H locs) (hA : ∀ q, H0.size ≤ q → A q) (isC isR : List Nat) (hC : isC.map (fun i => ws[i]?) = wc.map some) (hR : isR.map (fun i => ws[i]?) = wr.map some) (hn : va_nd isR = true) (hdis : ∀ i ∈ isR, i ∉ isC)
    (W' : S → va_W) (isO : List Nat) (hnO : va_nd isO = true) (hO : ∀ u, isO.map (fun i => (wr ++ Wu u)[i]?) = (W' u).map some)
    (kk : ∀ (r : Int32) (u : S) (H1 : Heap) (locs1 : List Loc), post r u → va_P D vwCl (W' u) H1 → va_D A (W' u) → va_S A H0 H1 locs1 → W p l e R s m args below meth c H1 locs1 (cells + mc) (slots + ms) Q (F0 m (pc + 3) ls (.int r :: rest))) : W p l e R s m args below meth c H locs cells slots Q (F0 m pc ls st0) :=
  va_calli hr hS (fun q _ h => va_free hD hS hA isC hC q h) (va_free hD hS hA isC hC) (fun r u t H1 locs1 ht _ hw hB _ hk hS1 =>
    have h := j_after hP hD hS hA isC isR hC hR hn hdis W' isO hnO hO ht hk hB
    kk r u H1 locs1 hw h.1 h.2 hS1)
theorem j_calll {S : Type} {post : Int64 → S → Prop} {wc wr : va_W} {Wu : S → va_W} (hr : va_Run p l e R s m args below meth c H locs cells slots mc ms (F0 m pc ls st0) rest (va_Ql post (fun u t => PostW D cy (va_A wc H.size) (Wu u) t) (va_A wc H.size) a) (va_A wc H.size)) (hP : va_P D vwCl ws H) (hD : va_D A ws) (hS : va_S A H0 H locs) (hA : ∀ q, H0.size ≤ q → A q) (isC isR : List Nat) (hC : isC.map (fun i => ws[i]?) = wc.map some) (hR : isR.map (fun i => ws[i]?) = wr.map some) (hn : va_nd isR = true) (hdis : ∀ i ∈ isR, i ∉ isC)
    (W' : S → va_W) (isO : List Nat) (hnO : va_nd isO = true) (hO : ∀ u, isO.map (fun i => (wr ++ Wu u)[i]?) = (W' u).map some)
    (kk : ∀ (r : Int64) (u : S) (H1 : Heap) (locs1 : List Loc), post r u → va_P D vwCl (W' u) H1 → va_D A (W' u) → va_S A H0 H1 locs1 → W p l e R s m args below meth c H1 locs1 (cells + mc) (slots + ms) Q (F0 m (pc + 3) ls (.long r :: rest))) : W p l e R s m args below meth c H locs cells slots Q (F0 m pc ls st0) :=
  va_calll hr hS (fun q _ h => va_free hD hS hA isC hC q h) (va_free hD hS hA isC hC) (fun r u t H1 locs1 ht _ hw hB _ hk hS1 =>
    have h := j_after hP hD hS hA isC isR hC hR hn hdis W' isO hnO hO ht hk hB
    kk r u H1 locs1 hw h.1 h.2 hS1)
theorem j_calld {S : Type} {post : UInt64 → S → Prop} {wc wr : va_W} {Wu : S → va_W} (hr : va_Run p l e R s m args below meth c H locs cells slots mc ms (F0 m pc ls st0) rest (va_Qd post (fun u t => PostW D cy (va_A wc H.size) (Wu u) t) (va_A wc H.size) a) (va_A wc H.size)) (hP : va_P D vwCl ws H) (hD : va_D A ws) (hS : va_S A H0 H locs) (hA : ∀ q, H0.size ≤ q → A q) (isC isR : List Nat) (hC : isC.map (fun i => ws[i]?) = wc.map some) (hR : isR.map (fun i => ws[i]?) = wr.map some) (hn : va_nd isR = true) (hdis : ∀ i ∈ isR, i ∉ isC)
    (W' : S → va_W) (isO : List Nat) (hnO : va_nd isO = true) (hO : ∀ u, isO.map (fun i => (wr ++ Wu u)[i]?) = (W' u).map some)
    (kk : ∀ (r : UInt64) (u : S) (H1 : Heap) (locs1 : List Loc), post r u → va_P D vwCl (W' u) H1 → va_D A (W' u) → va_S A H0 H1 locs1 → W p l e R s m args below meth c H1 locs1 (cells + mc) (slots + ms) Q (F0 m (pc + 3) ls (.double r :: rest))) : W p l e R s m args below meth c H locs cells slots Q (F0 m pc ls st0) :=
  va_calld hr hS (fun q _ h => va_free hD hS hA isC hC q h) (va_free hD hS hA isC hC) (fun r u t H1 locs1 ht _ hw hB _ hk hS1 =>
    have h := j_after hP hD hS hA isC isR hC hR hn hdis W' isO hnO hO ht hk hB
    kk r u H1 locs1 hw h.1 h.2 hS1)
theorem j_callv {S : Type} {post : S → Prop} {wc wr : va_W} {Wu : S → va_W} (hr : va_Run p l e R s m args below meth c H locs cells slots mc ms (F0 m pc ls st0) rest (va_Qv post (fun u t => PostW D cy (va_A wc H.size) (Wu u) t) (va_A wc H.size) a) (va_A wc H.size)) (hP : va_P D vwCl ws H) (hD : va_D A ws) (hS : va_S A H0 H locs) (hA : ∀ q, H0.size ≤ q → A q) (isC isR : List Nat) (hC : isC.map (fun i => ws[i]?) = wc.map some) (hR : isR.map (fun i => ws[i]?) = wr.map some) (hn : va_nd isR = true) (hdis : ∀ i ∈ isR, i ∉ isC)
    (W' : S → va_W) (isO : List Nat) (hnO : va_nd isO = true) (hO : ∀ u, isO.map (fun i => (wr ++ Wu u)[i]?) = (W' u).map some)
    (kk : ∀ (u : S) (H1 : Heap) (locs1 : List Loc), post u → va_P D vwCl (W' u) H1 → va_D A (W' u) → va_S A H0 H1 locs1 → W p l e R s m args below meth c H1 locs1 (cells + mc) (slots + ms) Q (F0 m (pc + 3) ls rest)) : W p l e R s m args below meth c H locs cells slots Q (F0 m pc ls st0) :=
  va_callv hr hS (fun q _ h => va_free hD hS hA isC hC q h) (va_free hD hS hA isC hC) (fun u t H1 locs1 ht _ hw hB _ hk hS1 =>
    have h := j_after hP hD hS hA isC isR hC hR hn hdis W' isO hnO hO ht hk hB
    kk u H1 locs1 hw h.1 h.2 hS1)
/-- a call that answers a thing at a known place -/
theorem j_callr {S : Type} {post : S → Prop} {ra : Nat} {wc wr : va_W} {Wu : S → va_W} (hr : va_Run p l e R s m args below meth c H locs cells slots mc ms (F0 m pc ls st0) rest (va_Qr post (fun u a t => a = ra ∧ PostW D cy (va_A wc H.size) (Wu u) t) (va_A wc H.size) a) (va_A wc H.size)) (hP : va_P D vwCl ws H) (hD : va_D A ws) (hS : va_S A H0 H locs) (hA : ∀ q, H0.size ≤ q → A q) (isC isR : List Nat) (hC : isC.map (fun i => ws[i]?) = wc.map some) (hR : isR.map (fun i => ws[i]?) = wr.map some) (hn : va_nd isR = true) (hdis : ∀ i ∈ isR, i ∉ isC)
    (W' : S → va_W) (isO : List Nat) (hnO : va_nd isO = true) (hO : ∀ u, isO.map (fun i => (wr ++ Wu u)[i]?) = (W' u).map some)
    (kk : ∀ (u : S) (H1 : Heap) (locs1 : List Loc), post u → va_P D vwCl (W' u) H1 → va_D A (W' u) → va_S A H0 H1 locs1 → W p l e R s m args below meth c H1 locs1 (cells + mc) (slots + ms) Q (F0 m (pc + 3) ls (.ref ra :: rest))) : W p l e R s m args below meth c H locs cells slots Q (F0 m pc ls st0) :=
  va_callr hr hS (fun q _ h => va_free hD hS hA isC hC q h) (va_free hD hS hA isC hC) (fun u ra' t H1 locs1 ht _ hw hB _ hk hS1 => by
    obtain ⟨rfl, hB⟩ := hB
    have h := j_after hP hD hS hA isC isR hC hR hn hdis W' isO hnO hO ht hk hB
    exact kk u H1 locs1 hw h.1 h.2 hS1)
/-- reading and writing in a row of an array of rows -/
theorem j_aald (hx : p.tables.exec = Jvm.exec) (hb : c.code = cc) {tys : List (ClassId × FieldType)} {cl : List vw_C} {a0 : Nat} (hK : va_K D cl tys s) (hP : va_P D cl ws H) (q0 t0 : Nat) {cA : ClassId} {ty : FieldType} {r : Nat → Nat} (ha : ws[q0]? = some (a0, .inl (cA, 12, .inr (.inr (.inr (.inr (rowsF r))))))) (ht : tys[t0]? = some (cA, .array ty)) {i : Int32} (hin : vp_in i 12) (hdg : decode cc pc = .ok (.aaload, 1))
    (kk : W p l e R s m args below meth c H locs cells slots Q (F0 m (pc + 1) ls (.ref (r i.toNatClampNeg) :: rest))) : W p l e R s m args below meth c H locs cells slots Q (F0 m pc ls (.int i :: .ref a0 :: rest)) := by
  have hlt : i.toNatClampNeg < 12 := Nat.not_le.mp fun q => hin (Or.inr q)
  refine W.aald (v := va_rf (rowsF r i.toNatClampNeg)) (ty := .array ty) hx hb (hP q0 _ ha) ((hK.2 t0 _ ht).1 12 (fun j => va_rf (rowsF r j))) rfl (fun q => by cases q) (by show ¬ (i < 0 ∨ (arrV _ _ _).slots.size ≤ _); rw [arrV_size]; exact hin) (by show (arrV _ _ _).slots[_]? = _; rw [arrV_read _ _ hlt]) rfl rfl hdg ?_
  rw [rowsF_lt hlt]
  exact kk
theorem j_lt12 {i : Int32} (h : vp_in i 12) : i.toNatClampNeg < 12 := Nat.not_le.mp fun q => h (Or.inr q)
end JR
