/-- the class of the arrays of a type, out of the tables' word -/
theorem j_rc {args : Array Value} {s : State} {t : FieldType} (h : (Cond.arrayClass t).before args s = true) (ho : ∀ C, t ≠ .object C) : ∃ c : ClassId, ArrOfT s c t ∧ va_RA s c t := by
  obtain ⟨c, k, comp, h1, h2, h3⟩ := Cond.arrayClass_spec h
  refine ⟨c, fun N z => ⟨(fun q hq => by cases hq), k, h2, comp, h3⟩, ?_⟩
  cases t <;> first | exact h1 | exact absurd rfl (ho _)
theorem j_rcA {args : Array Value} {s : State} {t : FieldType} (h : (Cond.arrayOver (.array t)).before args s = true) : ∃ c : ClassId, ArrOfT s c (.array t) ∧ va_RA s c (.array t) := by
  obtain ⟨comp, c, k, h1, h2, h3, h4, h5⟩ := arrayOverA_spec h
  exact ⟨c, fun N z => ⟨(fun q hq => by cases hq), k, h3, comp, h4⟩, h5⟩

set_option maxHeartbeats 4000000 in
set_option maxRecDepth 100000 in
theorem ev_start {s : State} {b : Nat} (hts0 : ∀ w ∈ lw_tbl, w.before #[Value.ref b] s = true) (hgv : (Jvm.Cond.and given_1 narrow_1).before #[Value.ref b] s = true) : EV (fun q : Nat => s.heap.size ≤ q) s s.heap := by
  have hs := flat_of_before _ hgv
  have hA : ∀ a : Nat, a < s.heap.size → ¬ (fun q : Nat => s.heap.size ≤ q) a := fun a h => Nat.not_le.mpr h
  refine ⟨fun w hw => ?_, va_Nw.of rfl (hts0 _ (List.mem_of_getElem? (i := 522) (by decide +kernel))), va_Nw.of rfl (hts0 _ (List.mem_of_getElem? (i := 523) (by decide +kernel))), va_Nw.of rfl (hts0 _ (List.mem_of_getElem? (i := 97) (by decide +kernel))), over_moved (a := #[Value.ref b]) (a' := #[]) (Vm.Alike.refl s.vm) (hts0 _ (List.mem_of_getElem? (i := 90) (by decide +kernel))), fun q hq => ?_, fun q hq => ?_, vx_Zqof (hts0 _ (List.mem_of_getElem? (i := 341) (by decide +kernel))) (hts0 _ (List.mem_of_getElem? (i := 73) (by decide +kernel))) (hs _ (by decide +kernel)) hA, vx_Zqof (hts0 _ (List.mem_of_getElem? (i := 343) (by decide +kernel))) (hts0 _ (List.mem_of_getElem? (i := 73) (by decide +kernel))) (hs _ (by decide +kernel)) hA, ?_⟩
  · simp only [ev_face, List.mem_cons, List.not_mem_nil, or_false] at hw
    rcases hw with rfl | rfl | rfl | rfl | rfl | rfl | rfl | rfl | rfl
    · exact va_Nw.of rfl (hts0 _ (List.mem_of_getElem? (i := 316) (by decide +kernel)))
    · exact va_Nw.of rfl (hts0 _ (List.mem_of_getElem? (i := 437) (by decide +kernel)))
    · exact va_Nw.of rfl (hts0 _ (List.mem_of_getElem? (i := 493) (by decide +kernel)))
    · exact va_Nw.of rfl (hts0 _ (List.mem_of_getElem? (i := 317) (by decide +kernel)))
    · exact va_Nw.of rfl (hts0 _ (List.mem_of_getElem? (i := 318) (by decide +kernel)))
    · exact va_Nw.of rfl (hts0 _ (List.mem_of_getElem? (i := 319) (by decide +kernel)))
    · exact va_Nw.of rfl (hts0 _ (List.mem_of_getElem? (i := 320) (by decide +kernel)))
    · exact va_Nw.of rfl (hts0 _ (List.mem_of_getElem? (i := 321) (by decide +kernel)))
    · exact va_Nw.of rfl (hts0 _ (List.mem_of_getElem? (i := 322) (by decide +kernel)))
  · simp only [ev_nc, List.mem_cons, List.not_mem_nil, or_false] at hq
    rcases hq with rfl | rfl | rfl <;> exact va_Nc.of (hs _ (by decide +kernel))
  · simp only [ev_strs, List.mem_cons, List.not_mem_nil, or_false] at hq
    rcases hq with rfl | rfl | rfl | rfl | rfl | rfl | rfl | rfl | rfl | rfl | rfl | rfl | rfl | rfl | rfl | rfl | rfl | rfl | rfl | rfl | rfl
    · obtain ⟨a, _, _, _, ha, -⟩ := Cond.exactly_spec (args := #[Value.ref b]) (first := s) (o := none) (s := s) (idx := []) (t := .string "TwistedRow" 226) (cls := "java/lang/String") (hs _ (by decide +kernel))
      exact ⟨a, vk_R.of (hts0 _ (List.mem_of_getElem? (i := 355) (by decide +kernel))) ha⟩
    · obtain ⟨a, _, _, _, ha, -⟩ := Cond.exactly_spec (args := #[Value.ref b]) (first := s) (o := none) (s := s) (idx := []) (t := .string "TwistedRow" 157) (cls := "java/lang/String") (hs _ (by decide +kernel))
      exact ⟨a, vk_R.of (hts0 _ (List.mem_of_getElem? (i := 402) (by decide +kernel))) ha⟩
    · obtain ⟨a, _, _, _, ha, -⟩ := Cond.exactly_spec (args := #[Value.ref b]) (first := s) (o := none) (s := s) (idx := []) (t := .string "TwistedRow" 177) (cls := "java/lang/String") (hs _ (by decide +kernel))
      exact ⟨a, vk_R.of (hts0 _ (List.mem_of_getElem? (i := 444) (by decide +kernel))) ha⟩
    · obtain ⟨a, _, _, _, ha, -⟩ := Cond.exactly_spec (args := #[Value.ref b]) (first := s) (o := none) (s := s) (idx := []) (t := .string "TwistedRow" 47) (cls := "java/lang/String") (hs _ (by decide +kernel))
      exact ⟨a, vk_R.of (hts0 _ (List.mem_of_getElem? (i := 478) (by decide +kernel))) ha⟩
    · obtain ⟨a, _, _, _, ha, -⟩ := Cond.exactly_spec (args := #[Value.ref b]) (first := s) (o := none) (s := s) (idx := []) (t := .string "TwistedRow" 73) (cls := "java/lang/String") (hs _ (by decide +kernel))
      exact ⟨a, vk_R.of (hts0 _ (List.mem_of_getElem? (i := 489) (by decide +kernel))) ha⟩
    · obtain ⟨a, _, _, _, ha, -⟩ := Cond.exactly_spec (args := #[Value.ref b]) (first := s) (o := none) (s := s) (idx := []) (t := .string "TwistedRow" 76) (cls := "java/lang/String") (hs _ (by decide +kernel))
      exact ⟨a, vk_R.of (hts0 _ (List.mem_of_getElem? (i := 490) (by decide +kernel))) ha⟩
    · obtain ⟨a, _, _, _, ha, -⟩ := Cond.exactly_spec (args := #[Value.ref b]) (first := s) (o := none) (s := s) (idx := []) (t := .string "TwistedRow" 80) (cls := "java/lang/String") (hs _ (by decide +kernel))
      exact ⟨a, vk_R.of (hts0 _ (List.mem_of_getElem? (i := 500) (by decide +kernel))) ha⟩
    · obtain ⟨a, _, _, _, ha, -⟩ := Cond.exactly_spec (args := #[Value.ref b]) (first := s) (o := none) (s := s) (idx := []) (t := .string "TwistedRow" 94) (cls := "java/lang/String") (hs _ (by decide +kernel))
      exact ⟨a, vk_R.of (hts0 _ (List.mem_of_getElem? (i := 539) (by decide +kernel))) ha⟩
    · obtain ⟨a, _, _, _, ha, -⟩ := Cond.exactly_spec (args := #[Value.ref b]) (first := s) (o := none) (s := s) (idx := []) (t := .string "TwistedRow" 96) (cls := "java/lang/String") (hs _ (by decide +kernel))
      exact ⟨a, vk_R.of (hts0 _ (List.mem_of_getElem? (i := 547) (by decide +kernel))) ha⟩
    · obtain ⟨a, _, _, _, ha, -⟩ := Cond.exactly_spec (args := #[Value.ref b]) (first := s) (o := none) (s := s) (idx := []) (t := .string "TwistedRow" 101) (cls := "java/lang/String") (hs _ (by decide +kernel))
      exact ⟨a, vk_R.of (hts0 _ (List.mem_of_getElem? (i := 562) (by decide +kernel))) ha⟩
    · obtain ⟨a, _, _, _, ha, -⟩ := Cond.exactly_spec (args := #[Value.ref b]) (first := s) (o := none) (s := s) (idx := []) (t := .string "TwistedRow" 106) (cls := "java/lang/String") (hs _ (by decide +kernel))
      exact ⟨a, vk_R.of (hts0 _ (List.mem_of_getElem? (i := 563) (by decide +kernel))) ha⟩
    · obtain ⟨a, _, _, _, ha, -⟩ := Cond.exactly_spec (args := #[Value.ref b]) (first := s) (o := none) (s := s) (idx := []) (t := .string "TwistedRow" 116) (cls := "java/lang/String") (hs _ (by decide +kernel))
      exact ⟨a, vk_R.of (hts0 _ (List.mem_of_getElem? (i := 575) (by decide +kernel))) ha⟩
    · obtain ⟨a, _, _, _, ha, -⟩ := Cond.exactly_spec (args := #[Value.ref b]) (first := s) (o := none) (s := s) (idx := []) (t := .string "TwistedRow" 121) (cls := "java/lang/String") (hs _ (by decide +kernel))
      exact ⟨a, vk_R.of (hts0 _ (List.mem_of_getElem? (i := 576) (by decide +kernel))) ha⟩
    · obtain ⟨a, _, _, _, ha, -⟩ := Cond.exactly_spec (args := #[Value.ref b]) (first := s) (o := none) (s := s) (idx := []) (t := .string "TwistedRow" 133) (cls := "java/lang/String") (hs _ (by decide +kernel))
      exact ⟨a, vk_R.of (hts0 _ (List.mem_of_getElem? (i := 588) (by decide +kernel))) ha⟩
    · obtain ⟨a, _, _, _, ha, -⟩ := Cond.exactly_spec (args := #[Value.ref b]) (first := s) (o := none) (s := s) (idx := []) (t := .string "TwistedRow" 138) (cls := "java/lang/String") (hs _ (by decide +kernel))
      exact ⟨a, vk_R.of (hts0 _ (List.mem_of_getElem? (i := 600) (by decide +kernel))) ha⟩
    · obtain ⟨a, _, _, _, ha, -⟩ := Cond.exactly_spec (args := #[Value.ref b]) (first := s) (o := none) (s := s) (idx := []) (t := .string "TwistedRow" 144) (cls := "java/lang/String") (hs _ (by decide +kernel))
      exact ⟨a, vk_R.of (hts0 _ (List.mem_of_getElem? (i := 601) (by decide +kernel))) ha⟩
    · obtain ⟨a, _, _, _, ha, -⟩ := Cond.exactly_spec (args := #[Value.ref b]) (first := s) (o := none) (s := s) (idx := []) (t := .string "TwistedRow" 204) (cls := "java/lang/String") (hs _ (by decide +kernel))
      exact ⟨a, vk_R.of (hts0 _ (List.mem_of_getElem? (i := 629) (by decide +kernel))) ha⟩
    · obtain ⟨a, _, _, _, ha, -⟩ := Cond.exactly_spec (args := #[Value.ref b]) (first := s) (o := none) (s := s) (idx := []) (t := .string "TwistedRow" 218) (cls := "java/lang/String") (hs _ (by decide +kernel))
      exact ⟨a, vk_R.of (hts0 _ (List.mem_of_getElem? (i := 645) (by decide +kernel))) ha⟩
    · obtain ⟨a, _, _, _, ha, -⟩ := Cond.exactly_spec (args := #[Value.ref b]) (first := s) (o := none) (s := s) (idx := []) (t := .string "TwistedRow" 220) (cls := "java/lang/String") (hs _ (by decide +kernel))
      exact ⟨a, vk_R.of (hts0 _ (List.mem_of_getElem? (i := 646) (by decide +kernel))) ha⟩
    · obtain ⟨a, _, _, _, ha, -⟩ := Cond.exactly_spec (args := #[Value.ref b]) (first := s) (o := none) (s := s) (idx := []) (t := .string "TwistedRow" 222) (cls := "java/lang/String") (hs _ (by decide +kernel))
      exact ⟨a, vk_R.of (hts0 _ (List.mem_of_getElem? (i := 661) (by decide +kernel))) ha⟩
    · obtain ⟨a, _, _, _, ha, -⟩ := Cond.exactly_spec (args := #[Value.ref b]) (first := s) (o := none) (s := s) (idx := []) (t := .string "TwistedRow" 224) (cls := "java/lang/String") (hs _ (by decide +kernel))
      exact ⟨a, vk_R.of (hts0 _ (List.mem_of_getElem? (i := 669) (by decide +kernel))) ha⟩
  · obtain ⟨t, ht, hT⟩ := va_Tof (tm := .static "TwistedRow" "FACTORIALS" "[I") (ty := .int) (N := 9) (f := fun j => .int (ev_fact j)) (A := fun q : Nat => s.heap.size ≤ q) (args := #[Value.ref b]) (s := s) (by decide) (hs _ (by decide +kernel)) (va_eqt (hs _ (by decide +kernel))) (fun j hj => by
      match j, hj with
      | 0, _ => exact va_eqt (z := 1) (hs _ (by decide +kernel))
      | 1, _ => exact va_eqt (z := 1) (hs _ (by decide +kernel))
      | 2, _ => exact va_eqt (z := 2) (hs _ (by decide +kernel))
      | 3, _ => exact va_eqt (z := 6) (hs _ (by decide +kernel))
      | 4, _ => exact va_eqt (z := 24) (hs _ (by decide +kernel))
      | 5, _ => exact va_eqt (z := 120) (hs _ (by decide +kernel))
      | 6, _ => exact va_eqt (z := 720) (hs _ (by decide +kernel))
      | 7, _ => exact va_eqt (z := 5040) (hs _ (by decide +kernel))
      | 8, _ => exact va_eqt (z := 40320) (hs _ (by decide +kernel))
      | n + 9, h => exact absurd h (by omega)) hA
    exact ⟨t, va_Zref (hts0 _ (List.mem_of_getElem? (i := 98) (by decide +kernel))) (hts0 _ (List.mem_of_getElem? (i := 69) (by decide +kernel))) ht hA, hT⟩
/-- the classes and the arrays' classes, as they stand at the entry -/
theorem k_start {s : State} {b : Nat} (hts0 : ∀ w ∈ lw_tbl, w.before #[Value.ref b] s = true) : ∃ (D : va_G) (cy : Nat → ClassId), va_K D vwCl (tyA cy) s := by
  obtain ⟨c0, iS0, hKn0⟩ := u_known (C := RX0) (T := TX0) (N := 10) (n := 10) hts0 inX0 (hts0 _ (List.mem_of_getElem? (i := 92) (by decide +kernel)))
  obtain ⟨c1, iS1, hKn1⟩ := u_known (C := RX1) (T := TX1) (N := 4) (n := 4) hts0 inX1 (hts0 _ (List.mem_of_getElem? (i := 101) (by decide +kernel)))
  obtain ⟨c2, iS2, hKn2⟩ := u_known (C := RX2) (T := TX2) (N := 10) (n := 10) hts0 inX2 (hts0 _ (List.mem_of_getElem? (i := 82) (by decide +kernel)))
  obtain ⟨c3, iS3, hKn3⟩ := u_known (C := RX3) (T := TX3) (N := 19) (n := 19) hts0 inX3 (hts0 _ (List.mem_of_getElem? (i := 675) (by decide +kernel)))
  obtain ⟨e0, hI⟩ := j_rc (t := .int) (hts0 _ (List.mem_of_getElem? (i := 122) (by decide +kernel))) (fun C h => by cases h)
  obtain ⟨e1, hC⟩ := j_rc (t := .char) (hts0 _ (List.mem_of_getElem? (i := 123) (by decide +kernel))) (fun C h => by cases h)
  obtain ⟨e2, hJ⟩ := j_rc (t := .long) (hts0 _ (List.mem_of_getElem? (i := 124) (by decide +kernel))) (fun C h => by cases h)
  obtain ⟨e3, hAA⟩ := j_rcA (t := .int) (hts0 _ (List.mem_of_getElem? (i := 90) (by decide +kernel)))
  refine ⟨(fun k => if k = 0 then c0 else if k = 1 then c1 else if k = 2 then c2 else c3, fun k => if k = 0 then iS0 else if k = 1 then iS1 else if k = 2 then iS2 else iS3), fun k => if k = 0 then e0 else if k = 1 then e1 else if k = 2 then e2 else e3, ?_, ?_⟩
  · intro k q hq
    match k, hq with
    | 0, hq => cases hq; exact hKn0
    | 1, hq => cases hq; exact hKn1
    | 2, hq => cases hq; exact hKn2
    | 3, hq => cases hq; exact hKn3
    | k + 4, hq => simp [vwCl] at hq
  · intro k q hq
    match k, hq with
    | 0, hq => cases hq; exact hI
    | 1, hq => cases hq; exact hC
    | 2, hq => cases hq; exact hJ
    | 3, hq => cases hq; exact hAA
    | k + 4, hq => simp [tyA] at hq
