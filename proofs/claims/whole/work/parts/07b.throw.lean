/-! throwing: the words of a throw out of the method's list and the state's own facts -/
abbrev jx_names : List String := ["java/lang/RuntimeException", "java/lang/Exception"]
theorem jx_face {args : Array Value} {s : State} (h : ∀ w ∈ ev_face, va_Nw w s) {B : List Cond} (hB : ∀ w ∈ B, w ∈ ev_face) : ∀ w ∈ B, w.before args s = true := by
  intro w hw
  have h1 := hB w hw
  have h2 := h w h1
  simp only [ev_face, List.mem_cons, List.not_mem_nil, or_false] at h1
  rcases h1 with rfl | rfl | rfl | rfl | rfl | rfl | rfl | rfl | rfl <;> exact va_Nw.use rfl h2
theorem jx_hat_A {args : Array Value} {s : State} (hf : ∀ w ∈ ev_face, va_Nw w s) (h1 : ∀ w ∈ (vx_atS RX2 49 "java/lang/IllegalArgumentException" ["java/lang/RuntimeException", "java/lang/Exception"]).filter goodWord, w.before args s = true) : ∀ w ∈ vx_atS RX2 49 "java/lang/IllegalArgumentException" jx_names, w.before args s = true :=
  vx_hat h1 (B := ev_face) (by decide +kernel) (jx_face hf (fun _ h => h))
theorem jx_hat_O {args : Array Value} {s : State} (hf : ∀ w ∈ ev_face, va_Nw w s) (h1 : ∀ w ∈ (vx_atS RX2 75 "java/lang/IndexOutOfBoundsException" ["java/lang/RuntimeException", "java/lang/Exception"]).filter goodWord, w.before args s = true) : ∀ w ∈ vx_atS RX2 75 "java/lang/IndexOutOfBoundsException" jx_names, w.before args s = true :=
  vx_hat h1 (B := ev_face) (by decide +kernel) (jx_face hf (fun _ h => h))
theorem jx_hat_S {args : Array Value} {s : State} (hf : ∀ w ∈ ev_face, va_Nw w s) (h1 : ∀ w ∈ (vx_atS RX2 82 "java/lang/IllegalStateException" ["java/lang/RuntimeException", "java/lang/Exception"]).filter goodWord, w.before args s = true) : ∀ w ∈ vx_atS RX2 82 "java/lang/IllegalStateException" jx_names, w.before args s = true :=
  vx_hat h1 (B := ev_face) (by decide +kernel) (jx_face hf (fun _ h => h))
theorem jx_good_A : ∀ w ∈ Cond.classLink RX2 45 "java/lang/IllegalArgumentException" :: Cond.initialized "java/lang/IllegalArgumentException" :: vx_atS RX2 49 "java/lang/IllegalArgumentException" jx_names, vx_ot w = true := by decide +kernel
theorem jx_good_O : ∀ w ∈ Cond.classLink RX2 71 "java/lang/IndexOutOfBoundsException" :: Cond.initialized "java/lang/IndexOutOfBoundsException" :: vx_atS RX2 75 "java/lang/IndexOutOfBoundsException" jx_names, vx_ot w = true := by decide +kernel
theorem jx_good_S : ∀ w ∈ Cond.classLink RX2 78 "java/lang/IllegalStateException" :: Cond.initialized "java/lang/IllegalStateException" :: vx_atS RX2 82 "java/lang/IllegalStateException" jx_names, vx_ot w = true := by decide +kernel
theorem jx_post {D : va_G} {cy : Nat → ClassId} {A : Nat → Prop} {ws : va_W} {H : Heap} {s t : State} (hP : va_P D vwCl ws H) (hD : va_D A ws) (hK : va_K D vwCl (tyA cy) s) (hvm : s.vm.Alike t.vm) (hq : ∀ q : Nat, q < H.size → t.heap[q]? = H[q]?) : PostW D cy A ws t :=
  ⟨hP.kept (fun k q h => hq q.1 (hP k q h).lt), va_K.moved hvm hK, hD⟩
theorem jx_frame {A : Nat → Prop} {s t : State} {H : Heap} {locs : List Loc} (hS : va_S A s.heap H locs) (hsz : H.size ≤ t.heap.size) (hq : ∀ q : Nat, q < H.size → t.heap[q]? = H[q]?) : va_F A s t :=
  ⟨Nat.le_trans hS.1 hsz, fun q h1 h2 => (hq q (Nat.lt_of_lt_of_le h1 hS.1)).trans (hS.2.1 q h1 h2)⟩
