def wp_X3_within (p_0 : Int32) (p_1 : Int32) (p_2 : Int32) (post : Int32 → Unit → Prop) : Prop := ((p_0 < p_1 → (post 0 ())) ∧ (¬ p_0 < p_1 → ((p_2 < p_0 → (post 0 ())) ∧ (¬ p_2 < p_0 → (post 1 ())))))
set_option maxHeartbeats 4000000 in
set_option maxRecDepth 100000 in
theorem c_X3_within (l : Launch) (D : va_G) (cy : Nat → ClassId) (p_0 : Int32) (p_1 : Int32) (p_2 : Int32) {post : Int32 → Unit → Prop} (hw : wp_X3_within p_0 p_1 p_2 post) (sz : Nat) : Met l yX3_within wsX3_within ({ frames := 0, cells := 0, slots := 0, locals := 0 }) (va_Pc [.int p_0, .int p_1, .int p_2] (PreW D cy ([]) sz)) (va_Qi post (fun u t => PostW D cy (va_A ([]) sz) ([]) t) (va_A ([]) sz)) 0 0 (va_A ([]) sz) := by
  refine j_met (Qc := fun A => va_Qi post (fun u t => PostW D cy A ([]) t) A) (by decide +kernel) rfl (Nat.le_of_ble_eq_true rfl) ?_
  intro p e s m below meth c A ls C0 hr hlocks hP hD hS hl
  obtain ⟨hx, hb, hml, hown, hts, hK, hA⟩ := id C0
  have hown : s.vm.findClass RX3 = some m.cls := hown
  have hl : lv_has ls 3 [(0, .int p_0), (1, .int p_1), (2, .int p_2)] := hl
  unfold wp_X3_within at hw
  refine lv_iload_n hx hb dX3_within_0 rfl (lv_at hl 0 rfl) ?_
  refine lv_iload_n hx hb dX3_within_1 rfl (lv_at hl 1 rfl) ?_
  refine lv_icmp_lt (tgt := 14) hx hb dX3_within_2 (by decide) (fun c_1 => ?_) (fun c_1 => ?_)
  · replace hw := hw.1 c_1
    refine lv_iconst (v := 0) hx hb dX3_within_14 (by decide) ?_
    exact j_zret (fun u => []) (() : Unit) hx hb hr rfl hlocks hK hP hD hS hw dX3_within_15
  · replace hw := hw.2 c_1
    refine lv_iload_n hx hb dX3_within_5 rfl (lv_at hl 0 rfl) ?_
    refine lv_iload_n hx hb dX3_within_6 rfl (lv_at hl 2 rfl) ?_
    refine lv_icmp_gt (tgt := 14) hx hb dX3_within_7 (by decide) (fun c_2 => ?_) (fun c_2 => ?_)
    · replace hw := hw.1 c_2
      refine lv_iconst (v := 0) hx hb dX3_within_14 (by decide) ?_
      exact j_zret (fun u => []) (() : Unit) hx hb hr rfl hlocks hK hP hD hS hw dX3_within_15
    · replace hw := hw.2 c_2
      refine lv_iconst (v := 1) hx hb dX3_within_10 (by decide) ?_
      refine lv_goto (tgt := 15) hx hb dX3_within_11 (by decide) ?_
      exact j_zret (fun u => []) (() : Unit) hx hb hr rfl hlocks hK hP hD hS hw dX3_within_15
def wp_X3_has (p_0 : Int32) (p_1 : Int32) (post : Int32 → Unit → Prop) : Prop := ((¬ ((p_0 >>> (p_1 &&& 31)) &&& 1) = 1 → (post 0 ())) ∧ (((p_0 >>> (p_1 &&& 31)) &&& 1) = 1 → (post 1 ())))
set_option maxHeartbeats 4000000 in
set_option maxRecDepth 100000 in
theorem c_X3_has (l : Launch) (D : va_G) (cy : Nat → ClassId) (p_0 : Int32) (p_1 : Int32) {post : Int32 → Unit → Prop} (hw : wp_X3_has p_0 p_1 post) (sz : Nat) : Met l yX3_has wsX3_has ({ frames := 0, cells := 0, slots := 0, locals := 0 }) (va_Pc [.int p_0, .int p_1] (PreW D cy ([]) sz)) (va_Qi post (fun u t => PostW D cy (va_A ([]) sz) ([]) t) (va_A ([]) sz)) 0 0 (va_A ([]) sz) := by
  refine j_met (Qc := fun A => va_Qi post (fun u t => PostW D cy A ([]) t) A) (by decide +kernel) rfl (Nat.le_of_ble_eq_true rfl) ?_
  intro p e s m below meth c A ls C0 hr hlocks hP hD hS hl
  obtain ⟨hx, hb, hml, hown, hts, hK, hA⟩ := id C0
  have hown : s.vm.findClass RX3 = some m.cls := hown
  have hl : lv_has ls 2 [(0, .int p_0), (1, .int p_1)] := hl
  unfold wp_X3_has at hw
  refine lv_iload_n hx hb dX3_has_0 rfl (lv_at hl 0 rfl) ?_
  refine lv_iload_n hx hb dX3_has_1 rfl (lv_at hl 1 rfl) ?_
  refine lv_ishr hx hb dX3_has_2 ?_
  refine lv_iconst (v := 1) hx hb dX3_has_3 (by decide) ?_
  refine lv_iand hx hb dX3_has_4 ?_
  refine lv_iconst (v := 1) hx hb dX3_has_5 (by decide) ?_
  refine lv_icmp_ne (tgt := 13) hx hb dX3_has_6 (by decide) (fun c_1 => ?_) (fun c_1 => ?_)
  · replace hw := hw.1 c_1
    refine lv_iconst (v := 0) hx hb dX3_has_13 (by decide) ?_
    exact j_zret (fun u => []) (() : Unit) hx hb hr rfl hlocks hK hP hD hS hw dX3_has_14
  · replace hw := hw.2 c_1
    refine lv_iconst (v := 1) hx hb dX3_has_9 (by decide) ?_
    refine lv_goto (tgt := 14) hx hb dX3_has_10 (by decide) ?_
    exact j_zret (fun u => []) (() : Unit) hx hb hr rfl hlocks hK hP hD hS hw dX3_has_14
theorem q_X3_isPlace_1 : Cond.fieldLink RX3 7 "TwistedRowModel" "n" "I" ∈ wsX3_isPlace := List.mem_of_getElem? (i := 1) rfl
theorem k_X3_isPlace_X3 : ∀ w ∈ wsX30, w ∈ wsX3_isPlace := my_in _ [6, 7, 8, 9, 10, 11, 12, 13, 14, 15, 16, 17, 18, 19, 20, 21, 22, 23, 24] (by decide +kernel)
def wp_X3_isPlace (c_n : Int32) (p_1 : Int32) (post : Int32 → Unit → Prop) : Prop := (wp_X3_within p_1 (0 : Int32) (c_n - 1) (fun r_2 u_1 => (narrow .boolean (.int r_2) = .int r_2 ∧ (post r_2 ()))))
set_option maxHeartbeats 4000000 in
set_option maxRecDepth 100000 in
theorem c_X3_isPlace (l : Launch) (D : va_G) (cy : Nat → ClassId) (a_this : Nat) (a_ro : Nat) (a_fr : Nat) (a_bu : Nat) (a_no : Nat) (a_te : Nat) (a_fa : Nat) (a_li : Nat) (a_wy : Nat) (a_su : Nat) (c_th : Int32) (c_n : Int32) (c_tu : Int32) (c_al : Int32) (c_le : Int32) (c_wa : Int32) (c_re : Int32) (c_us : Int32) (c_di : Int32) (c_ha : Int64) (p_1 : Int32) {post : Int32 → Unit → Prop} (hw : wp_X3_isPlace c_n p_1 post) (sz : Nat) : Met l yX3_isPlace wsX3_isPlace ({ frames := 1, cells := 0, slots := 0, locals := 22 }) (va_Pc [.ref a_this, .int p_1] (PreW D cy ([(a_this, .inr (3, [.int c_th, .int c_n, .int c_tu, .int c_al, .ref a_ro, .ref a_fr, .int c_le, .ref a_bu, .ref a_no, .ref a_te, .ref a_fa, .ref a_li, .int c_wa, .int c_re, .int c_us, .int c_di, .ref a_wy, .ref a_su, .long c_ha]))]) sz)) (va_Qi post (fun u t => PostW D cy (va_A ([(a_this, .inr (3, [.int c_th, .int c_n, .int c_tu, .int c_al, .ref a_ro, .ref a_fr, .int c_le, .ref a_bu, .ref a_no, .ref a_te, .ref a_fa, .ref a_li, .int c_wa, .int c_re, .int c_us, .int c_di, .ref a_wy, .ref a_su, .long c_ha]))]) sz) ([(a_this, .inr (3, [.int c_th, .int c_n, .int c_tu, .int c_al, .ref a_ro, .ref a_fr, .int c_le, .ref a_bu, .ref a_no, .ref a_te, .ref a_fa, .ref a_li, .int c_wa, .int c_re, .int c_us, .int c_di, .ref a_wy, .ref a_su, .long c_ha]))]) t) (va_A ([(a_this, .inr (3, [.int c_th, .int c_n, .int c_tu, .int c_al, .ref a_ro, .ref a_fr, .int c_le, .ref a_bu, .ref a_no, .ref a_te, .ref a_fa, .ref a_li, .int c_wa, .int c_re, .int c_us, .int c_di, .ref a_wy, .ref a_su, .long c_ha]))]) sz)) 0 0 (va_A ([(a_this, .inr (3, [.int c_th, .int c_n, .int c_tu, .int c_al, .ref a_ro, .ref a_fr, .int c_le, .ref a_bu, .ref a_no, .ref a_te, .ref a_fa, .ref a_li, .int c_wa, .int c_re, .int c_us, .int c_di, .ref a_wy, .ref a_su, .long c_ha]))]) sz) := by
  refine j_met (Qc := fun A => va_Qi post (fun u t => PostW D cy A ([(a_this, .inr (3, [.int c_th, .int c_n, .int c_tu, .int c_al, .ref a_ro, .ref a_fr, .int c_le, .ref a_bu, .ref a_no, .ref a_te, .ref a_fa, .ref a_li, .int c_wa, .int c_re, .int c_us, .int c_di, .ref a_wy, .ref a_su, .long c_ha]))]) t) A) (by decide +kernel) rfl (Nat.le_of_ble_eq_true rfl) ?_
  intro p e s m below meth c A ls C0 hr hlocks hP hD hS hl
  obtain ⟨hx, hb, hml, hown, hts, hK, hA⟩ := id C0
  have hown : s.vm.findClass RX3 = some m.cls := hown
  have hl : lv_has ls 2 [(0, .ref a_this), (1, .int p_1)] := hl
  unfold wp_X3_isPlace at hw
  refine lv_iload_n hx hb dX3_isPlace_0 rfl (lv_at hl 1 rfl) ?_
  refine lv_iconst (v := 0) hx hb dX3_isPlace_1 (by decide) ?_
  refine lv_aload_n hx hb dX3_isPlace_2 rfl (lv_at hl 0 rfl) ?_
  refine va_get (D := D) (ci := 3) (v := .int c_n) (C := RX3) (T := TX3) (N := 19) hx hb hts k_X3_isPlace_X3 hown hK hP 0 rfl rfl 1 (by decide) (hts _ q_X3_isPlace_1) (fun _ h9 => h9) rfl dX3_isPlace_3 ?_
  refine lv_iconst (v := 1) hx hb dX3_isPlace_6 (by decide) ?_
  refine lv_isub hx hb dX3_isPlace_7 ?_
  refine j_calli (wr := [(a_this, .inr (3, [.int c_th, .int c_n, .int c_tu, .int c_al, .ref a_ro, .ref a_fr, .int c_le, .ref a_bu, .ref a_no, .ref a_te, .ref a_fa, .ref a_li, .int c_wa, .int c_re, .int c_us, .int c_di, .ref a_wy, .ref a_su, .long c_ha]))]) (va_runS (As := [.int p_1, .int 0, .int (c_n - 1)]) (rest := []) ⟨hx, hb, hml, hown, hts⟩ (c_X3_within l D cy p_1 (0 : Int32) (c_n - 1) hw s.heap.size) (va_cwS 3 hts gX3_isPlace_X3_within rfl rfl rfl (by decide +kernel) ⟨Nat.le_of_ble_eq_true rfl, Nat.le_of_ble_eq_true rfl⟩) (j_preS hK hP hD (isC := []) rfl (by decide +kernel)) rfl rfl hl.1 rfl (lv_room (Nat.le_of_ble_eq_true rfl)) dX3_isPlace_8 ⟨Nat.le_of_ble_eq_true rfl, Nat.le_of_ble_eq_true rfl⟩) hP hD hS hA [] [0] rfl rfl (by decide +kernel) (by decide +kernel) (fun u_1 => [(a_this, .inr (3, [.int c_th, .int c_n, .int c_tu, .int c_al, .ref a_ro, .ref a_fr, .int c_le, .ref a_bu, .ref a_no, .ref a_te, .ref a_fa, .ref a_li, .int c_wa, .int c_re, .int c_us, .int c_di, .ref a_wy, .ref a_su, .long c_ha]))]) [0] (by decide +kernel) (fun u => rfl) (fun r_2 u_1 H locs hw hP hD hS => ?_)
  have hP : va_P D vwCl ([(a_this, .inr (3, [.int c_th, .int c_n, .int c_tu, .int c_al, .ref a_ro, .ref a_fr, .int c_le, .ref a_bu, .ref a_no, .ref a_te, .ref a_fa, .ref a_li, .int c_wa, .int c_re, .int c_us, .int c_di, .ref a_wy, .ref a_su, .long c_ha]))]) H := hP
  have hD : va_D A ([(a_this, .inr (3, [.int c_th, .int c_n, .int c_tu, .int c_al, .ref a_ro, .ref a_fr, .int c_le, .ref a_bu, .ref a_no, .ref a_te, .ref a_fa, .ref a_li, .int c_wa, .int c_re, .int c_us, .int c_di, .ref a_wy, .ref a_su, .long c_ha]))]) := hD
  obtain ⟨h_3, hw⟩ := hw
  exact j_zret (fun u => [(a_this, .inr (3, [.int c_th, .int c_n, .int c_tu, .int c_al, .ref a_ro, .ref a_fr, .int c_le, .ref a_bu, .ref a_no, .ref a_te, .ref a_fa, .ref a_li, .int c_wa, .int c_re, .int c_us, .int c_di, .ref a_wy, .ref a_su, .long c_ha]))]) (() : Unit) hx hb hr h_3 hlocks hK hP hD hS hw dX3_isPlace_11
theorem q_X3_numberOf_1 : Cond.fieldLink RX3 7 "TwistedRowModel" "n" "I" ∈ wsX3_numberOf := List.mem_of_getElem? (i := 1) rfl
theorem k_X3_numberOf_X3 : ∀ w ∈ wsX30, w ∈ wsX3_numberOf := my_in _ [2, 3, 4, 5, 6, 7, 8, 9, 10, 11, 12, 13, 14, 15, 16, 17, 18, 19, 20] (by decide +kernel)
def lp_X3_numberOf_25 (c_a1 : Nat → Int32) (v_3 : Int32) (v_4 : Int32) (K51 : Int32 → Int32 → Prop) : Nat → Int32 → Int32 → Prop
  | 0, _, _ => False
  | N + 1, v_5, v_6 => (vp_in v_4 8 ∧ (((c_a1 (v_4 : Int32).toNatClampNeg) ≤ v_6 → (K51 v_5 v_6)) ∧ (¬ (c_a1 (v_4 : Int32).toNatClampNeg) ≤ v_6 → (∀ x_6 : Int32, x_6 = v_5 - ((v_3 >>> (v_6 &&& 31)) &&& 1) → (lp_X3_numberOf_25 c_a1 v_3 v_4 K51 N x_6 (v_6 + 1))))))
set_option maxHeartbeats 4000000 in
set_option maxRecDepth 100000 in
theorem l_X3_numberOf_25 {p : Program} {l : Launch} {e : Env} {s : State} {m : MethodId} {args : Array Value} {below : List Frame} {meth : Method} {c : Code} {A : Nat → Prop} {D : va_G} {cy : Nat → ClassId} {Q : State → Prop} {a_this : Nat} {a_ro : Nat} {a_fr : Nat} {a_bu : Nat} {a_no : Nat} {a_te : Nat} {a_fa : Nat} {a_li : Nat} {a_wy : Nat} {a_su : Nat} {a_a1 : Nat} {c_th : Int32} {c_n : Int32} {c_tu : Int32} {c_al : Int32} {c_le : Int32} {c_wa : Int32} {c_re : Int32} {c_us : Int32} {c_di : Int32} {c_ha : Int64} {c_a1 : Nat → Int32} {v_2 : Int32} {v_3 : Int32} {v_4 : Int32} {K51 : Int32 → Int32 → Prop} (C0 : Cx p s m args c cX3_numberOf yX3_numberOf.cls 7 wsX3_numberOf D cy A)
    (k51 : ∀ (v_5 : Int32) (v_6 : Int32) (H : Heap) (locs : List Loc) (ls : Array Slot), K51 v_5 v_6 → va_P D vwCl ([(a_this, .inr (3, [.int c_th, .int c_n, .int c_tu, .int c_al, .ref a_ro, .ref a_fr, .int c_le, .ref a_bu, .ref a_no, .ref a_te, .ref a_fa, .ref a_li, .int c_wa, .int c_re, .int c_us, .int c_di, .ref a_wy, .ref a_su, .long c_ha])), (a_a1, .inl (cy 0, 8, .inl c_a1))]) H → va_D A ([(a_this, .inr (3, [.int c_th, .int c_n, .int c_tu, .int c_al, .ref a_ro, .ref a_fr, .int c_le, .ref a_bu, .ref a_no, .ref a_te, .ref a_fa, .ref a_li, .int c_wa, .int c_re, .int c_us, .int c_di, .ref a_wy, .ref a_su, .long c_ha])), (a_a1, .inl (cy 0, 8, .inl c_a1))]) → va_S A s.heap H locs → lv_has ls 7 [(0, .ref a_this), (1, .ref a_a1), (2, .int v_2), (3, .int v_3), (4, .int v_4), (5, .int v_5)] → W p l e (({ frames := 0, cells := 0, slots := 0, locals := 0 } : Room)) s m args below meth c H locs 0 0 Q (F0 m 51 ls [])) :
    ∀ (N : Nat) (v_5 : Int32) (v_6 : Int32) (H : Heap) (locs : List Loc) (ls : Array Slot), lp_X3_numberOf_25 c_a1 v_3 v_4 K51 N v_5 v_6 → va_P D vwCl ([(a_this, .inr (3, [.int c_th, .int c_n, .int c_tu, .int c_al, .ref a_ro, .ref a_fr, .int c_le, .ref a_bu, .ref a_no, .ref a_te, .ref a_fa, .ref a_li, .int c_wa, .int c_re, .int c_us, .int c_di, .ref a_wy, .ref a_su, .long c_ha])), (a_a1, .inl (cy 0, 8, .inl c_a1))]) H → va_D A ([(a_this, .inr (3, [.int c_th, .int c_n, .int c_tu, .int c_al, .ref a_ro, .ref a_fr, .int c_le, .ref a_bu, .ref a_no, .ref a_te, .ref a_fa, .ref a_li, .int c_wa, .int c_re, .int c_us, .int c_di, .ref a_wy, .ref a_su, .long c_ha])), (a_a1, .inl (cy 0, 8, .inl c_a1))]) → va_S A s.heap H locs → lv_has ls 7 [(0, .ref a_this), (1, .ref a_a1), (2, .int v_2), (3, .int v_3), (4, .int v_4), (5, .int v_5), (6, .int v_6)] → W p l e (({ frames := 0, cells := 0, slots := 0, locals := 0 } : Room)) s m args below meth c H locs 0 0 Q (F0 m 25 ls []) := by
  obtain ⟨hx, hb, hml, hown, hts, hK, hA⟩ := id C0
  intro N
  induction N with
  | zero =>
    intro v_5 v_6 H locs ls hw
    exact False.elim hw
  | succ N ih =>
    intro v_5 v_6 H locs ls hw hP hD hS hl
    rw [lp_X3_numberOf_25] at hw
    refine lv_iload hx hb dX3_numberOf_25 (lv_at hl 6 rfl) ?_
    refine lv_aload_n hx hb dX3_numberOf_27 rfl (lv_at hl 1 rfl) ?_
    refine lv_iload hx hb dX3_numberOf_28 (lv_at hl 4 rfl) ?_
    obtain ⟨h_4, hw⟩ := hw
    refine va_iald hx hb hK hP 1 0 rfl rfl h_4 dX3_numberOf_30 ?_
    refine lv_icmp_ge (tgt := 51) hx hb dX3_numberOf_31 (by decide) (fun c_5 => ?_) (fun c_5 => ?_)
    · replace hw := hw.1 c_5
      exact k51 _ _ _ _ _ hw hP hD hS (lv_sub hl [0, 1, 2, 3, 4, 5] rfl)
    · replace hw := hw.2 c_5
      refine lv_iload hx hb dX3_numberOf_34 (lv_at hl 5 rfl) ?_
      refine lv_iload_n hx hb dX3_numberOf_36 rfl (lv_at hl 3 rfl) ?_
      refine lv_iload hx hb dX3_numberOf_37 (lv_at hl 6 rfl) ?_
      refine lv_ishr hx hb dX3_numberOf_39 ?_
      refine lv_iconst (v := 1) hx hb dX3_numberOf_40 (by decide) ?_
      refine lv_iand hx hb dX3_numberOf_41 ?_
      refine lv_isub hx hb dX3_numberOf_42 ?_
      refine lv_topi (fun x_6 ex_6 => ?_)
      replace hw := hw x_6 ex_6
      refine lv_istore (lv' := [(5, .int x_6), (0, .ref a_this), (1, .ref a_a1), (2, .int v_2), (3, .int v_3), (4, .int v_4), (6, .int v_6)]) hx hb dX3_numberOf_43 hl (by decide) rfl (fun ls hl => ?_)
      refine lv_iinc (v := v_6 + 1) (lv' := [(6, .int (v_6 + 1)), (5, .int x_6), (0, .ref a_this), (1, .ref a_a1), (2, .int v_2), (3, .int v_3), (4, .int v_4)]) hx hb dX3_numberOf_45 hl (k := 6) rfl rfl (by decide) rfl (fun ls hl => ?_)
      refine lv_goto (tgt := 25) hx hb dX3_numberOf_48 (by decide) ?_
      exact ih _ _ _ _ _ hw hP hD hS (lv_sub hl [2, 3, 4, 5, 6, 1, 0] rfl)
def lp_X3_numberOf_7 (c_a1 : Nat → Int32) (c_n : Int32) (K79 : Int32 → Int32 → Int32 → Prop) : Nat → Int32 → Int32 → Int32 → Prop
  | 0, _, _, _ => False
  | N + 1, v_2, v_3, v_4 => ((c_n ≤ v_4 → (K79 v_2 v_3 v_4)) ∧ (¬ c_n ≤ v_4 → (vp_in v_4 8 ∧ (∀ x_3 : Int32, x_3 = c_a1 (v_4 : Int32).toNatClampNeg → (∃ N_7 : Nat, lp_X3_numberOf_25 c_a1 v_3 v_4 (fun (v_8 : Int32) (v_9 : Int32) => (∀ x_10 : Int32, x_10 = (v_2 * (c_n - v_4)) + v_8 → (vp_in v_4 8 ∧ (∀ x_12 : Int32, x_12 = v_3 ||| (1 <<< ((c_a1 (v_4 : Int32).toNatClampNeg) &&& 31)) → (lp_X3_numberOf_7 c_a1 c_n K79 N x_10 x_12 (v_4 + 1)))))) N_7 x_3 0)))))
set_option maxHeartbeats 4000000 in
set_option maxRecDepth 100000 in
theorem l_X3_numberOf_7 {p : Program} {l : Launch} {e : Env} {s : State} {m : MethodId} {args : Array Value} {below : List Frame} {meth : Method} {c : Code} {A : Nat → Prop} {D : va_G} {cy : Nat → ClassId} {Q : State → Prop} {a_this : Nat} {a_ro : Nat} {a_fr : Nat} {a_bu : Nat} {a_no : Nat} {a_te : Nat} {a_fa : Nat} {a_li : Nat} {a_wy : Nat} {a_su : Nat} {a_a1 : Nat} {c_th : Int32} {c_n : Int32} {c_tu : Int32} {c_al : Int32} {c_le : Int32} {c_wa : Int32} {c_re : Int32} {c_us : Int32} {c_di : Int32} {c_ha : Int64} {c_a1 : Nat → Int32} {K79 : Int32 → Int32 → Int32 → Prop} (C0 : Cx p s m args c cX3_numberOf yX3_numberOf.cls 7 wsX3_numberOf D cy A)
    (k79 : ∀ (v_2 : Int32) (v_3 : Int32) (v_4 : Int32) (H : Heap) (locs : List Loc) (ls : Array Slot), K79 v_2 v_3 v_4 → va_P D vwCl ([(a_this, .inr (3, [.int c_th, .int c_n, .int c_tu, .int c_al, .ref a_ro, .ref a_fr, .int c_le, .ref a_bu, .ref a_no, .ref a_te, .ref a_fa, .ref a_li, .int c_wa, .int c_re, .int c_us, .int c_di, .ref a_wy, .ref a_su, .long c_ha])), (a_a1, .inl (cy 0, 8, .inl c_a1))]) H → va_D A ([(a_this, .inr (3, [.int c_th, .int c_n, .int c_tu, .int c_al, .ref a_ro, .ref a_fr, .int c_le, .ref a_bu, .ref a_no, .ref a_te, .ref a_fa, .ref a_li, .int c_wa, .int c_re, .int c_us, .int c_di, .ref a_wy, .ref a_su, .long c_ha])), (a_a1, .inl (cy 0, 8, .inl c_a1))]) → va_S A s.heap H locs → lv_has ls 7 [(2, .int v_2)] → W p l e (({ frames := 0, cells := 0, slots := 0, locals := 0 } : Room)) s m args below meth c H locs 0 0 Q (F0 m 79 ls [])) :
    ∀ (N : Nat) (v_2 : Int32) (v_3 : Int32) (v_4 : Int32) (H : Heap) (locs : List Loc) (ls : Array Slot), lp_X3_numberOf_7 c_a1 c_n K79 N v_2 v_3 v_4 → va_P D vwCl ([(a_this, .inr (3, [.int c_th, .int c_n, .int c_tu, .int c_al, .ref a_ro, .ref a_fr, .int c_le, .ref a_bu, .ref a_no, .ref a_te, .ref a_fa, .ref a_li, .int c_wa, .int c_re, .int c_us, .int c_di, .ref a_wy, .ref a_su, .long c_ha])), (a_a1, .inl (cy 0, 8, .inl c_a1))]) H → va_D A ([(a_this, .inr (3, [.int c_th, .int c_n, .int c_tu, .int c_al, .ref a_ro, .ref a_fr, .int c_le, .ref a_bu, .ref a_no, .ref a_te, .ref a_fa, .ref a_li, .int c_wa, .int c_re, .int c_us, .int c_di, .ref a_wy, .ref a_su, .long c_ha])), (a_a1, .inl (cy 0, 8, .inl c_a1))]) → va_S A s.heap H locs → lv_has ls 7 [(0, .ref a_this), (1, .ref a_a1), (2, .int v_2), (3, .int v_3), (4, .int v_4)] → W p l e (({ frames := 0, cells := 0, slots := 0, locals := 0 } : Room)) s m args below meth c H locs 0 0 Q (F0 m 7 ls []) := by
  obtain ⟨hx, hb, hml, hown, hts, hK, hA⟩ := id C0
  intro N
  induction N with
  | zero =>
    intro v_2 v_3 v_4 H locs ls hw
    exact False.elim hw
  | succ N ih =>
    intro v_2 v_3 v_4 H locs ls hw hP hD hS hl
    rw [lp_X3_numberOf_7] at hw
    refine lv_iload hx hb dX3_numberOf_7 (lv_at hl 4 rfl) ?_
    refine lv_aload_n hx hb dX3_numberOf_9 rfl (lv_at hl 0 rfl) ?_
    refine va_get (D := D) (ci := 3) (v := .int c_n) (C := RX3) (T := TX3) (N := 19) hx hb hts k_X3_numberOf_X3 hown hK hP 0 rfl rfl 1 (by decide) (hts _ q_X3_numberOf_1) (fun _ h9 => h9) rfl dX3_numberOf_10 ?_
    refine lv_icmp_ge (tgt := 79) hx hb dX3_numberOf_13 (by decide) (fun c_1 => ?_) (fun c_1 => ?_)
    · replace hw := hw.1 c_1
      exact k79 _ _ _ _ _ _ hw hP hD hS (lv_sub hl [2] rfl)
    · replace hw := hw.2 c_1
      refine lv_aload_n hx hb dX3_numberOf_16 rfl (lv_at hl 1 rfl) ?_
      refine lv_iload hx hb dX3_numberOf_17 (lv_at hl 4 rfl) ?_
      obtain ⟨h_2, hw⟩ := hw
      refine va_iald hx hb hK hP 1 0 rfl rfl h_2 dX3_numberOf_19 ?_
      refine lv_topi (fun x_3 ex_3 => ?_)
      replace hw := hw x_3 ex_3
      refine lv_istore (lv' := [(5, .int x_3), (0, .ref a_this), (1, .ref a_a1), (2, .int v_2), (3, .int v_3), (4, .int v_4)]) hx hb dX3_numberOf_20 hl (by decide) rfl (fun ls hl => ?_)
      refine lv_iconst (v := 0) hx hb dX3_numberOf_22 (by decide) ?_
      refine lv_istore (lv' := [(6, .int 0), (5, .int x_3), (0, .ref a_this), (1, .ref a_a1), (2, .int v_2), (3, .int v_3), (4, .int v_4)]) hx hb dX3_numberOf_23 hl (by decide) rfl (fun ls hl => ?_)
      obtain ⟨N_7, hw⟩ := hw
      refine l_X3_numberOf_25 C0 (fun v_8 v_9 H locs ls hw hP hD hS hl => ?_) _ _ _ _ _ _ hw hP hD hS (lv_sub hl [2, 3, 4, 5, 6, 1, 0] rfl)
      refine lv_iload_n hx hb dX3_numberOf_51 rfl (lv_at hl 2 rfl) ?_
      refine lv_aload_n hx hb dX3_numberOf_52 rfl (lv_at hl 0 rfl) ?_
      refine va_get (D := D) (ci := 3) (v := .int c_n) (C := RX3) (T := TX3) (N := 19) hx hb hts k_X3_numberOf_X3 hown hK hP 0 rfl rfl 1 (by decide) (hts _ q_X3_numberOf_1) (fun _ h9 => h9) rfl dX3_numberOf_53 ?_
      refine lv_iload hx hb dX3_numberOf_56 (lv_at hl 4 rfl) ?_
      refine lv_isub hx hb dX3_numberOf_58 ?_
      refine lv_imul hx hb dX3_numberOf_59 ?_
      refine lv_iload hx hb dX3_numberOf_60 (lv_at hl 5 rfl) ?_
      refine lv_iadd hx hb dX3_numberOf_62 ?_
      refine lv_topi (fun x_10 ex_10 => ?_)
      replace hw := hw x_10 ex_10
      refine lv_istore_n (lv' := [(2, .int x_10), (0, .ref a_this), (1, .ref a_a1), (3, .int v_3), (4, .int v_4), (5, .int v_8)]) hx hb dX3_numberOf_63 rfl hl (by decide) rfl (fun ls hl => ?_)
      refine lv_iload_n hx hb dX3_numberOf_64 rfl (lv_at hl 3 rfl) ?_
      refine lv_iconst (v := 1) hx hb dX3_numberOf_65 (by decide) ?_
      refine lv_aload_n hx hb dX3_numberOf_66 rfl (lv_at hl 2 rfl) ?_
      refine lv_iload hx hb dX3_numberOf_67 (lv_at hl 4 rfl) ?_
      obtain ⟨h_11, hw⟩ := hw
      refine va_iald hx hb hK hP 1 0 rfl rfl h_11 dX3_numberOf_69 ?_
      refine lv_ishl hx hb dX3_numberOf_70 ?_
      refine lv_ior hx hb dX3_numberOf_71 ?_
      refine lv_topi (fun x_12 ex_12 => ?_)
      replace hw := hw x_12 ex_12
      refine lv_istore_n (lv' := [(3, .int x_12), (2, .int x_10), (0, .ref a_this), (1, .ref a_a1), (4, .int v_4), (5, .int v_8)]) hx hb dX3_numberOf_72 rfl hl (by decide) rfl (fun ls hl => ?_)
      refine lv_iinc (v := v_4 + 1) (lv' := [(4, .int (v_4 + 1)), (3, .int x_12), (2, .int x_10), (0, .ref a_this), (1, .ref a_a1), (5, .int v_8)]) hx hb dX3_numberOf_73 hl (k := 4) rfl rfl (by decide) rfl (fun ls hl => ?_)
      refine lv_goto (tgt := 7) hx hb dX3_numberOf_76 (by decide) ?_
      exact ih _ _ _ _ _ _ hw hP hD hS (lv_sub hl [3, 4, 2, 1, 0] rfl)
def wp_X3_numberOf (c_n : Int32) (c_a1 : Nat → Int32) (post : Int32 → Unit → Prop) : Prop := (∃ N_13 : Nat, lp_X3_numberOf_7 c_a1 c_n (fun (v_14 : Int32) (v_15 : Int32) (v_16 : Int32) => (post v_14 ())) N_13 0 0 0)
set_option maxHeartbeats 4000000 in
set_option maxRecDepth 100000 in
theorem c_X3_numberOf (l : Launch) (D : va_G) (cy : Nat → ClassId) (a_this : Nat) (a_ro : Nat) (a_fr : Nat) (a_bu : Nat) (a_no : Nat) (a_te : Nat) (a_fa : Nat) (a_li : Nat) (a_wy : Nat) (a_su : Nat) (a_a1 : Nat) (c_th : Int32) (c_n : Int32) (c_tu : Int32) (c_al : Int32) (c_le : Int32) (c_wa : Int32) (c_re : Int32) (c_us : Int32) (c_di : Int32) (c_ha : Int64) (c_a1 : Nat → Int32) {post : Int32 → Unit → Prop} (hw : wp_X3_numberOf c_n c_a1 post) (sz : Nat) : Met l yX3_numberOf wsX3_numberOf ({ frames := 0, cells := 0, slots := 0, locals := 0 }) (va_Pc [.ref a_this, .ref a_a1] (PreW D cy ([(a_this, .inr (3, [.int c_th, .int c_n, .int c_tu, .int c_al, .ref a_ro, .ref a_fr, .int c_le, .ref a_bu, .ref a_no, .ref a_te, .ref a_fa, .ref a_li, .int c_wa, .int c_re, .int c_us, .int c_di, .ref a_wy, .ref a_su, .long c_ha])), (a_a1, .inl (cy 0, 8, .inl c_a1))]) sz)) (va_Qi post (fun u t => PostW D cy (va_A ([(a_this, .inr (3, [.int c_th, .int c_n, .int c_tu, .int c_al, .ref a_ro, .ref a_fr, .int c_le, .ref a_bu, .ref a_no, .ref a_te, .ref a_fa, .ref a_li, .int c_wa, .int c_re, .int c_us, .int c_di, .ref a_wy, .ref a_su, .long c_ha])), (a_a1, .inl (cy 0, 8, .inl c_a1))]) sz) ([(a_this, .inr (3, [.int c_th, .int c_n, .int c_tu, .int c_al, .ref a_ro, .ref a_fr, .int c_le, .ref a_bu, .ref a_no, .ref a_te, .ref a_fa, .ref a_li, .int c_wa, .int c_re, .int c_us, .int c_di, .ref a_wy, .ref a_su, .long c_ha])), (a_a1, .inl (cy 0, 8, .inl c_a1))]) t) (va_A ([(a_this, .inr (3, [.int c_th, .int c_n, .int c_tu, .int c_al, .ref a_ro, .ref a_fr, .int c_le, .ref a_bu, .ref a_no, .ref a_te, .ref a_fa, .ref a_li, .int c_wa, .int c_re, .int c_us, .int c_di, .ref a_wy, .ref a_su, .long c_ha])), (a_a1, .inl (cy 0, 8, .inl c_a1))]) sz)) 0 0 (va_A ([(a_this, .inr (3, [.int c_th, .int c_n, .int c_tu, .int c_al, .ref a_ro, .ref a_fr, .int c_le, .ref a_bu, .ref a_no, .ref a_te, .ref a_fa, .ref a_li, .int c_wa, .int c_re, .int c_us, .int c_di, .ref a_wy, .ref a_su, .long c_ha])), (a_a1, .inl (cy 0, 8, .inl c_a1))]) sz) := by
  refine j_met (Qc := fun A => va_Qi post (fun u t => PostW D cy A ([(a_this, .inr (3, [.int c_th, .int c_n, .int c_tu, .int c_al, .ref a_ro, .ref a_fr, .int c_le, .ref a_bu, .ref a_no, .ref a_te, .ref a_fa, .ref a_li, .int c_wa, .int c_re, .int c_us, .int c_di, .ref a_wy, .ref a_su, .long c_ha])), (a_a1, .inl (cy 0, 8, .inl c_a1))]) t) A) (by decide +kernel) rfl (Nat.le_of_ble_eq_true rfl) ?_
  intro p e s m below meth c A ls C0 hr hlocks hP hD hS hl
  obtain ⟨hx, hb, hml, hown, hts, hK, hA⟩ := id C0
  have hown : s.vm.findClass RX3 = some m.cls := hown
  have hl : lv_has ls 7 [(0, .ref a_this), (1, .ref a_a1)] := hl
  unfold wp_X3_numberOf at hw
  refine lv_iconst (v := 0) hx hb dX3_numberOf_0 (by decide) ?_
  refine lv_istore_n (lv' := [(2, .int 0), (0, .ref a_this), (1, .ref a_a1)]) hx hb dX3_numberOf_1 rfl hl (by decide) rfl (fun ls hl => ?_)
  refine lv_iconst (v := 0) hx hb dX3_numberOf_2 (by decide) ?_
  refine lv_istore_n (lv' := [(3, .int 0), (2, .int 0), (0, .ref a_this), (1, .ref a_a1)]) hx hb dX3_numberOf_3 rfl hl (by decide) rfl (fun ls hl => ?_)
  refine lv_iconst (v := 0) hx hb dX3_numberOf_4 (by decide) ?_
  refine lv_istore (lv' := [(4, .int 0), (3, .int 0), (2, .int 0), (0, .ref a_this), (1, .ref a_a1)]) hx hb dX3_numberOf_5 hl (by decide) rfl (fun ls hl => ?_)
  obtain ⟨N_13, hw⟩ := hw
  refine l_X3_numberOf_7 C0 (fun v_14 v_15 v_16 H locs ls hw hP hD hS hl => ?_) _ _ _ _ _ _ _ hw hP hD hS (lv_sub hl [3, 4, 2, 1, 0] rfl)
  refine lv_iload_n hx hb dX3_numberOf_79 rfl (lv_at hl 0 rfl) ?_
  exact j_iret (fun u => [(a_this, .inr (3, [.int c_th, .int c_n, .int c_tu, .int c_al, .ref a_ro, .ref a_fr, .int c_le, .ref a_bu, .ref a_no, .ref a_te, .ref a_fa, .ref a_li, .int c_wa, .int c_re, .int c_us, .int c_di, .ref a_wy, .ref a_su, .long c_ha])), (a_a1, .inl (cy 0, 8, .inl c_a1))]) (() : Unit) hx hb hr hlocks hK hP hD hS hw dX3_numberOf_80
def lp_X3_factorial_4 (v_1 : Int32) (K19 : Int32 → Int32 → Prop) : Nat → Int32 → Int32 → Prop
  | 0, _, _ => False
  | N + 1, v_2, v_3 => ((v_1 < v_3 → (K19 v_2 v_3)) ∧ (¬ v_1 < v_3 → (∀ x_2 : Int32, x_2 = v_2 * v_3 → (lp_X3_factorial_4 v_1 K19 N x_2 (v_3 + 1)))))
set_option maxHeartbeats 4000000 in
set_option maxRecDepth 100000 in
theorem l_X3_factorial_4 {p : Program} {l : Launch} {e : Env} {s : State} {m : MethodId} {args : Array Value} {below : List Frame} {meth : Method} {c : Code} {A : Nat → Prop} {D : va_G} {cy : Nat → ClassId} {Q : State → Prop} {a_this : Nat} {a_ro : Nat} {a_fr : Nat} {a_bu : Nat} {a_no : Nat} {a_te : Nat} {a_fa : Nat} {a_li : Nat} {a_wy : Nat} {a_su : Nat} {c_th : Int32} {c_n : Int32} {c_tu : Int32} {c_al : Int32} {c_le : Int32} {c_wa : Int32} {c_re : Int32} {c_us : Int32} {c_di : Int32} {c_ha : Int64} {v_1 : Int32} {K19 : Int32 → Int32 → Prop} (C0 : Cx p s m args c cX3_factorial yX3_factorial.cls 4 wsX3_factorial D cy A)
    (k19 : ∀ (v_2 : Int32) (v_3 : Int32) (H : Heap) (locs : List Loc) (ls : Array Slot), K19 v_2 v_3 → va_P D vwCl ([(a_this, .inr (3, [.int c_th, .int c_n, .int c_tu, .int c_al, .ref a_ro, .ref a_fr, .int c_le, .ref a_bu, .ref a_no, .ref a_te, .ref a_fa, .ref a_li, .int c_wa, .int c_re, .int c_us, .int c_di, .ref a_wy, .ref a_su, .long c_ha]))]) H → va_D A ([(a_this, .inr (3, [.int c_th, .int c_n, .int c_tu, .int c_al, .ref a_ro, .ref a_fr, .int c_le, .ref a_bu, .ref a_no, .ref a_te, .ref a_fa, .ref a_li, .int c_wa, .int c_re, .int c_us, .int c_di, .ref a_wy, .ref a_su, .long c_ha]))]) → va_S A s.heap H locs → lv_has ls 4 [(2, .int v_2)] → W p l e (({ frames := 0, cells := 0, slots := 0, locals := 0 } : Room)) s m args below meth c H locs 0 0 Q (F0 m 19 ls [])) :
    ∀ (N : Nat) (v_2 : Int32) (v_3 : Int32) (H : Heap) (locs : List Loc) (ls : Array Slot), lp_X3_factorial_4 v_1 K19 N v_2 v_3 → va_P D vwCl ([(a_this, .inr (3, [.int c_th, .int c_n, .int c_tu, .int c_al, .ref a_ro, .ref a_fr, .int c_le, .ref a_bu, .ref a_no, .ref a_te, .ref a_fa, .ref a_li, .int c_wa, .int c_re, .int c_us, .int c_di, .ref a_wy, .ref a_su, .long c_ha]))]) H → va_D A ([(a_this, .inr (3, [.int c_th, .int c_n, .int c_tu, .int c_al, .ref a_ro, .ref a_fr, .int c_le, .ref a_bu, .ref a_no, .ref a_te, .ref a_fa, .ref a_li, .int c_wa, .int c_re, .int c_us, .int c_di, .ref a_wy, .ref a_su, .long c_ha]))]) → va_S A s.heap H locs → lv_has ls 4 [(1, .int v_1), (2, .int v_2), (3, .int v_3)] → W p l e (({ frames := 0, cells := 0, slots := 0, locals := 0 } : Room)) s m args below meth c H locs 0 0 Q (F0 m 4 ls []) := by
  obtain ⟨hx, hb, hml, hown, hts, hK, hA⟩ := id C0
  intro N
  induction N with
  | zero =>
    intro v_2 v_3 H locs ls hw
    exact False.elim hw
  | succ N ih =>
    intro v_2 v_3 H locs ls hw hP hD hS hl
    rw [lp_X3_factorial_4] at hw
    refine lv_iload_n hx hb dX3_factorial_4 rfl (lv_at hl 2 rfl) ?_
    refine lv_iload_n hx hb dX3_factorial_5 rfl (lv_at hl 0 rfl) ?_
    refine lv_icmp_gt (tgt := 19) hx hb dX3_factorial_6 (by decide) (fun c_1 => ?_) (fun c_1 => ?_)
    · replace hw := hw.1 c_1
      exact k19 _ _ _ _ _ hw hP hD hS (lv_sub hl [1] rfl)
    · replace hw := hw.2 c_1
      refine lv_iload_n hx hb dX3_factorial_9 rfl (lv_at hl 1 rfl) ?_
      refine lv_iload_n hx hb dX3_factorial_10 rfl (lv_at hl 2 rfl) ?_
      refine lv_imul hx hb dX3_factorial_11 ?_
      refine lv_topi (fun x_2 ex_2 => ?_)
      replace hw := hw x_2 ex_2
      refine lv_istore_n (lv' := [(2, .int x_2), (1, .int v_1), (3, .int v_3)]) hx hb dX3_factorial_12 rfl hl (by decide) rfl (fun ls hl => ?_)
      refine lv_iinc (v := v_3 + 1) (lv' := [(3, .int (v_3 + 1)), (2, .int x_2), (1, .int v_1)]) hx hb dX3_factorial_13 hl (k := 2) rfl rfl (by decide) rfl (fun ls hl => ?_)
      refine lv_goto (tgt := 4) hx hb dX3_factorial_16 (by decide) ?_
      exact ih _ _ _ _ _ hw hP hD hS (lv_sub hl [2, 1, 0] rfl)
def wp_X3_factorial (p_1 : Int32) (post : Int32 → Unit → Prop) : Prop := (∃ N_3 : Nat, lp_X3_factorial_4 p_1 (fun (v_4 : Int32) (v_5 : Int32) => (post v_4 ())) N_3 1 2)
set_option maxHeartbeats 4000000 in
set_option maxRecDepth 100000 in
theorem c_X3_factorial (l : Launch) (D : va_G) (cy : Nat → ClassId) (a_this : Nat) (a_ro : Nat) (a_fr : Nat) (a_bu : Nat) (a_no : Nat) (a_te : Nat) (a_fa : Nat) (a_li : Nat) (a_wy : Nat) (a_su : Nat) (c_th : Int32) (c_n : Int32) (c_tu : Int32) (c_al : Int32) (c_le : Int32) (c_wa : Int32) (c_re : Int32) (c_us : Int32) (c_di : Int32) (c_ha : Int64) (p_1 : Int32) {post : Int32 → Unit → Prop} (hw : wp_X3_factorial p_1 post) (sz : Nat) : Met l yX3_factorial wsX3_factorial ({ frames := 0, cells := 0, slots := 0, locals := 0 }) (va_Pc [.ref a_this, .int p_1] (PreW D cy ([(a_this, .inr (3, [.int c_th, .int c_n, .int c_tu, .int c_al, .ref a_ro, .ref a_fr, .int c_le, .ref a_bu, .ref a_no, .ref a_te, .ref a_fa, .ref a_li, .int c_wa, .int c_re, .int c_us, .int c_di, .ref a_wy, .ref a_su, .long c_ha]))]) sz)) (va_Qi post (fun u t => PostW D cy (va_A ([(a_this, .inr (3, [.int c_th, .int c_n, .int c_tu, .int c_al, .ref a_ro, .ref a_fr, .int c_le, .ref a_bu, .ref a_no, .ref a_te, .ref a_fa, .ref a_li, .int c_wa, .int c_re, .int c_us, .int c_di, .ref a_wy, .ref a_su, .long c_ha]))]) sz) ([(a_this, .inr (3, [.int c_th, .int c_n, .int c_tu, .int c_al, .ref a_ro, .ref a_fr, .int c_le, .ref a_bu, .ref a_no, .ref a_te, .ref a_fa, .ref a_li, .int c_wa, .int c_re, .int c_us, .int c_di, .ref a_wy, .ref a_su, .long c_ha]))]) t) (va_A ([(a_this, .inr (3, [.int c_th, .int c_n, .int c_tu, .int c_al, .ref a_ro, .ref a_fr, .int c_le, .ref a_bu, .ref a_no, .ref a_te, .ref a_fa, .ref a_li, .int c_wa, .int c_re, .int c_us, .int c_di, .ref a_wy, .ref a_su, .long c_ha]))]) sz)) 0 0 (va_A ([(a_this, .inr (3, [.int c_th, .int c_n, .int c_tu, .int c_al, .ref a_ro, .ref a_fr, .int c_le, .ref a_bu, .ref a_no, .ref a_te, .ref a_fa, .ref a_li, .int c_wa, .int c_re, .int c_us, .int c_di, .ref a_wy, .ref a_su, .long c_ha]))]) sz) := by
  refine j_met (Qc := fun A => va_Qi post (fun u t => PostW D cy A ([(a_this, .inr (3, [.int c_th, .int c_n, .int c_tu, .int c_al, .ref a_ro, .ref a_fr, .int c_le, .ref a_bu, .ref a_no, .ref a_te, .ref a_fa, .ref a_li, .int c_wa, .int c_re, .int c_us, .int c_di, .ref a_wy, .ref a_su, .long c_ha]))]) t) A) (by decide +kernel) rfl (Nat.le_of_ble_eq_true rfl) ?_
  intro p e s m below meth c A ls C0 hr hlocks hP hD hS hl
  obtain ⟨hx, hb, hml, hown, hts, hK, hA⟩ := id C0
  have hown : s.vm.findClass RX3 = some m.cls := hown
  have hl : lv_has ls 4 [(0, .ref a_this), (1, .int p_1)] := hl
  unfold wp_X3_factorial at hw
  refine lv_iconst (v := 1) hx hb dX3_factorial_0 (by decide) ?_
  refine lv_istore_n (lv' := [(2, .int 1), (0, .ref a_this), (1, .int p_1)]) hx hb dX3_factorial_1 rfl hl (by decide) rfl (fun ls hl => ?_)
  refine lv_iconst (v := 2) hx hb dX3_factorial_2 (by decide) ?_
  refine lv_istore_n (lv' := [(3, .int 2), (2, .int 1), (0, .ref a_this), (1, .int p_1)]) hx hb dX3_factorial_3 rfl hl (by decide) rfl (fun ls hl => ?_)
  obtain ⟨N_3, hw⟩ := hw
  refine l_X3_factorial_4 C0 (fun v_4 v_5 H locs ls hw hP hD hS hl => ?_) _ _ _ _ _ _ hw hP hD hS (lv_sub hl [3, 1, 0] rfl)
  refine lv_iload_n hx hb dX3_factorial_19 rfl (lv_at hl 0 rfl) ?_
  exact j_iret (fun u => [(a_this, .inr (3, [.int c_th, .int c_n, .int c_tu, .int c_al, .ref a_ro, .ref a_fr, .int c_le, .ref a_bu, .ref a_no, .ref a_te, .ref a_fa, .ref a_li, .int c_wa, .int c_re, .int c_us, .int c_di, .ref a_wy, .ref a_su, .long c_ha]))]) (() : Unit) hx hb hr hlocks hK hP hD hS hw dX3_factorial_20
theorem q_X3_read_1 : Cond.fieldLink RX3 7 "TwistedRowModel" "n" "I" ∈ wsX3_read := List.mem_of_getElem? (i := 1) rfl
theorem k_X3_read_X3 : ∀ w ∈ wsX30, w ∈ wsX3_read := my_in _ [10, 11, 12, 13, 14, 15, 16, 17, 18, 19, 20, 21, 22, 23, 24, 25, 26, 27, 28] (by decide +kernel)
def lp_X3_read_53 (v_4 : Int32) (K86 : Int32 → Int32 → Prop) : Nat → Int32 → Int32 → Prop
  | 0, _, _ => False
  | N + 1, v_7, v_8 => ((0 < v_7 → (∀ x_10 : Int32, x_10 = v_7 - ((v_4 >>> (v_8 &&& 31)) &&& 1) → (lp_X3_read_53 v_4 K86 N x_10 (v_8 + 1)))) ∧ (¬ 0 < v_7 → (wp_X3_has v_4 v_8 (fun r_12 u_11 => ((¬ r_12 = 0 → (K86 v_7 v_8)) ∧ (r_12 = 0 → (∀ x_14 : Int32, x_14 = v_7 - ((v_4 >>> (v_8 &&& 31)) &&& 1) → (lp_X3_read_53 v_4 K86 N x_14 (v_8 + 1)))))))))
set_option maxHeartbeats 4000000 in
set_option maxRecDepth 100000 in
theorem l_X3_read_53 {p : Program} {l : Launch} {e : Env} {s : State} {m : MethodId} {args : Array Value} {below : List Frame} {meth : Method} {c : Code} {A : Nat → Prop} {D : va_G} {cy : Nat → ClassId} {Q : State → Prop} {a_this : Nat} {a_ro : Nat} {a_fr : Nat} {a_bu : Nat} {a_no : Nat} {a_te : Nat} {a_fa : Nat} {a_li : Nat} {a_wy : Nat} {a_su : Nat} {a_a2 : Nat} {c_th : Int32} {c_n : Int32} {c_tu : Int32} {c_al : Int32} {c_le : Int32} {c_wa : Int32} {c_re : Int32} {c_us : Int32} {c_di : Int32} {c_ha : Int64} {c_a2 : Nat → Int32} {v_3 : Int32} {v_4 : Int32} {v_5 : Int32} {K86 : Int32 → Int32 → Prop} (C0 : Cx p s m args c cX3_read yX3_read.cls 9 wsX3_read D cy A)
    (k86 : ∀ (v_7 : Int32) (v_8 : Int32) (H : Heap) (locs : List Loc) (ls : Array Slot), K86 v_7 v_8 → va_P D vwCl ([(a_this, .inr (3, [.int c_th, .int c_n, .int c_tu, .int c_al, .ref a_ro, .ref a_fr, .int c_le, .ref a_bu, .ref a_no, .ref a_te, .ref a_fa, .ref a_li, .int c_wa, .int c_re, .int c_us, .int c_di, .ref a_wy, .ref a_su, .long c_ha])), (a_a2, .inl (cy 0, 8, .inl c_a2))]) H → va_D A ([(a_this, .inr (3, [.int c_th, .int c_n, .int c_tu, .int c_al, .ref a_ro, .ref a_fr, .int c_le, .ref a_bu, .ref a_no, .ref a_te, .ref a_fa, .ref a_li, .int c_wa, .int c_re, .int c_us, .int c_di, .ref a_wy, .ref a_su, .long c_ha])), (a_a2, .inl (cy 0, 8, .inl c_a2))]) → va_S A s.heap H locs → lv_has ls 9 [(0, .ref a_this), (2, .ref a_a2), (3, .int v_3), (4, .int v_4), (5, .int v_5), (8, .int v_8)] → W p l e (({ frames := 1, cells := 0, slots := 0, locals := 23 } : Room)) s m args below meth c H locs 0 0 Q (F0 m 86 ls [])) :
    ∀ (N : Nat) (v_7 : Int32) (v_8 : Int32) (H : Heap) (locs : List Loc) (ls : Array Slot), lp_X3_read_53 v_4 K86 N v_7 v_8 → va_P D vwCl ([(a_this, .inr (3, [.int c_th, .int c_n, .int c_tu, .int c_al, .ref a_ro, .ref a_fr, .int c_le, .ref a_bu, .ref a_no, .ref a_te, .ref a_fa, .ref a_li, .int c_wa, .int c_re, .int c_us, .int c_di, .ref a_wy, .ref a_su, .long c_ha])), (a_a2, .inl (cy 0, 8, .inl c_a2))]) H → va_D A ([(a_this, .inr (3, [.int c_th, .int c_n, .int c_tu, .int c_al, .ref a_ro, .ref a_fr, .int c_le, .ref a_bu, .ref a_no, .ref a_te, .ref a_fa, .ref a_li, .int c_wa, .int c_re, .int c_us, .int c_di, .ref a_wy, .ref a_su, .long c_ha])), (a_a2, .inl (cy 0, 8, .inl c_a2))]) → va_S A s.heap H locs → lv_has ls 9 [(0, .ref a_this), (2, .ref a_a2), (3, .int v_3), (4, .int v_4), (5, .int v_5), (7, .int v_7), (8, .int v_8)] → W p l e (({ frames := 1, cells := 0, slots := 0, locals := 23 } : Room)) s m args below meth c H locs 0 0 Q (F0 m 53 ls []) := by
  obtain ⟨hx, hb, hml, hown, hts, hK, hA⟩ := id C0
  intro N
  induction N with
  | zero =>
    intro v_7 v_8 H locs ls hw
    exact False.elim hw
  | succ N ih =>
    intro v_7 v_8 H locs ls hw hP hD hS hl
    rw [lp_X3_read_53] at hw
    refine lv_iload hx hb dX3_read_53 (lv_at hl 5 rfl) ?_
    refine lv_if_gt (tgt := 68) hx hb dX3_read_55 (by decide) (fun c_9 => ?_) (fun c_9 => ?_)
    · replace hw := hw.1 c_9
      refine lv_iload hx hb dX3_read_68 (lv_at hl 5 rfl) ?_
      refine lv_iload hx hb dX3_read_70 (lv_at hl 3 rfl) ?_
      refine lv_iload hx hb dX3_read_72 (lv_at hl 6 rfl) ?_
      refine lv_ishr hx hb dX3_read_74 ?_
      refine lv_iconst (v := 1) hx hb dX3_read_75 (by decide) ?_
      refine lv_iand hx hb dX3_read_76 ?_
      refine lv_isub hx hb dX3_read_77 ?_
      refine lv_topi (fun x_10 ex_10 => ?_)
      replace hw := hw x_10 ex_10
      refine lv_istore (lv' := [(7, .int x_10), (0, .ref a_this), (2, .ref a_a2), (3, .int v_3), (4, .int v_4), (5, .int v_5), (8, .int v_8)]) hx hb dX3_read_78 hl (by decide) rfl (fun ls hl => ?_)
      refine lv_iinc (v := v_8 + 1) (lv' := [(8, .int (v_8 + 1)), (7, .int x_10), (0, .ref a_this), (2, .ref a_a2), (3, .int v_3), (4, .int v_4), (5, .int v_5)]) hx hb dX3_read_80 hl (k := 6) rfl rfl (by decide) rfl (fun ls hl => ?_)
      refine lv_goto (tgt := 53) hx hb dX3_read_83 (by decide) ?_
      exact ih _ _ _ _ _ hw hP hD hS (lv_sub hl [2, 3, 4, 5, 6, 1, 0] rfl)
    · replace hw := hw.2 c_9
      refine lv_iload hx hb dX3_read_58 (lv_at hl 3 rfl) ?_
      refine lv_iload hx hb dX3_read_60 (lv_at hl 6 rfl) ?_
      refine j_calli (wr := [(a_this, .inr (3, [.int c_th, .int c_n, .int c_tu, .int c_al, .ref a_ro, .ref a_fr, .int c_le, .ref a_bu, .ref a_no, .ref a_te, .ref a_fa, .ref a_li, .int c_wa, .int c_re, .int c_us, .int c_di, .ref a_wy, .ref a_su, .long c_ha])), (a_a2, .inl (cy 0, 8, .inl c_a2))]) (va_runS (As := [.int v_4, .int v_8]) (rest := []) ⟨hx, hb, hml, hown, hts⟩ (c_X3_has l D cy v_4 v_8 hw H.size) (va_cwS 2 hts gX3_read_X3_has rfl rfl rfl (by decide +kernel) ⟨Nat.le_of_ble_eq_true rfl, Nat.le_of_ble_eq_true rfl⟩) (j_preS hK hP hD (isC := []) rfl (by decide +kernel)) rfl rfl hl.1 rfl (lv_room (Nat.le_of_ble_eq_true rfl)) dX3_read_62 ⟨Nat.le_of_ble_eq_true rfl, Nat.le_of_ble_eq_true rfl⟩) hP hD hS hA [] [0, 1] rfl rfl (by decide +kernel) (by decide +kernel) (fun u_11 => [(a_this, .inr (3, [.int c_th, .int c_n, .int c_tu, .int c_al, .ref a_ro, .ref a_fr, .int c_le, .ref a_bu, .ref a_no, .ref a_te, .ref a_fa, .ref a_li, .int c_wa, .int c_re, .int c_us, .int c_di, .ref a_wy, .ref a_su, .long c_ha])), (a_a2, .inl (cy 0, 8, .inl c_a2))]) [0, 1] (by decide +kernel) (fun u => rfl) (fun r_12 u_11 H locs hw hP hD hS => ?_)
      have hP : va_P D vwCl ([(a_this, .inr (3, [.int c_th, .int c_n, .int c_tu, .int c_al, .ref a_ro, .ref a_fr, .int c_le, .ref a_bu, .ref a_no, .ref a_te, .ref a_fa, .ref a_li, .int c_wa, .int c_re, .int c_us, .int c_di, .ref a_wy, .ref a_su, .long c_ha])), (a_a2, .inl (cy 0, 8, .inl c_a2))]) H := hP
      have hD : va_D A ([(a_this, .inr (3, [.int c_th, .int c_n, .int c_tu, .int c_al, .ref a_ro, .ref a_fr, .int c_le, .ref a_bu, .ref a_no, .ref a_te, .ref a_fa, .ref a_li, .int c_wa, .int c_re, .int c_us, .int c_di, .ref a_wy, .ref a_su, .long c_ha])), (a_a2, .inl (cy 0, 8, .inl c_a2))]) := hD
      refine lv_if_ne (tgt := 86) hx hb dX3_read_65 (by decide) (fun c_13 => ?_) (fun c_13 => ?_)
      · replace hw := hw.1 c_13
        exact k86 _ _ _ _ _ hw hP hD hS (lv_sub hl [0, 1, 2, 3, 4, 6] rfl)
      · replace hw := hw.2 c_13
        refine lv_iload hx hb dX3_read_68 (lv_at hl 5 rfl) ?_
        refine lv_iload hx hb dX3_read_70 (lv_at hl 3 rfl) ?_
        refine lv_iload hx hb dX3_read_72 (lv_at hl 6 rfl) ?_
        refine lv_ishr hx hb dX3_read_74 ?_
        refine lv_iconst (v := 1) hx hb dX3_read_75 (by decide) ?_
        refine lv_iand hx hb dX3_read_76 ?_
        refine lv_isub hx hb dX3_read_77 ?_
        refine lv_topi (fun x_14 ex_14 => ?_)
        replace hw := hw x_14 ex_14
        refine lv_istore (lv' := [(7, .int x_14), (0, .ref a_this), (2, .ref a_a2), (3, .int v_3), (4, .int v_4), (5, .int v_5), (8, .int v_8)]) hx hb dX3_read_78 hl (by decide) rfl (fun ls hl => ?_)
        refine lv_iinc (v := v_8 + 1) (lv' := [(8, .int (v_8 + 1)), (7, .int x_14), (0, .ref a_this), (2, .ref a_a2), (3, .int v_3), (4, .int v_4), (5, .int v_5)]) hx hb dX3_read_80 hl (k := 6) rfl rfl (by decide) rfl (fun ls hl => ?_)
        refine lv_goto (tgt := 53) hx hb dX3_read_83 (by decide) ?_
        exact ih _ _ _ _ _ hw hP hD hS (lv_sub hl [2, 3, 4, 5, 6, 1, 0] rfl)
def lp_X3_read_15 (c_n : Int32) (K109 : Int32 → Int32 → Int32 → (Nat → Int32) → Prop) : Nat → Int32 → Int32 → Int32 → (Nat → Int32) → Prop
  | 0, _, _, _, _ => False
  | N + 1, v_3, v_4, v_5, c_a2 => ((c_n ≤ v_5 → (K109 v_3 v_4 v_5 c_a2)) ∧ (¬ c_n ≤ v_5 → (wp_X3_factorial ((c_n - 1) - v_5) (fun r_4 u_3 => (¬ (r_4 : Int32) = 0 ∧ (∀ x_6 : Int32, x_6 = v_3 / r_4 → (¬ (r_4 : Int32) = 0 ∧ (∀ x_8 : Int32, x_8 = v_3 - v_3 / r_4 * r_4 → (∃ N_15 : Nat, lp_X3_read_53 v_4 (fun (v_16 : Int32) (v_17 : Int32) => (vp_in v_5 8 ∧ (∀ x_19 : Int32, x_19 = v_4 &&& ((1 <<< (v_17 &&& 31)) ^^^ (-1)) → (lp_X3_read_15 c_n K109 N x_8 x_19 (v_5 + 1) (upd c_a2 ((v_5 : Int32).toNatClampNeg) v_17))))) N_15 x_6 0)))))))))
set_option maxHeartbeats 4000000 in
set_option maxRecDepth 100000 in
theorem l_X3_read_15 {p : Program} {l : Launch} {e : Env} {s : State} {m : MethodId} {args : Array Value} {below : List Frame} {meth : Method} {c : Code} {A : Nat → Prop} {D : va_G} {cy : Nat → ClassId} {Q : State → Prop} {a_this : Nat} {a_ro : Nat} {a_fr : Nat} {a_bu : Nat} {a_no : Nat} {a_te : Nat} {a_fa : Nat} {a_li : Nat} {a_wy : Nat} {a_su : Nat} {a_a2 : Nat} {c_th : Int32} {c_n : Int32} {c_tu : Int32} {c_al : Int32} {c_le : Int32} {c_wa : Int32} {c_re : Int32} {c_us : Int32} {c_di : Int32} {c_ha : Int64} {K109 : Int32 → Int32 → Int32 → (Nat → Int32) → Prop} (C0 : Cx p s m args c cX3_read yX3_read.cls 9 wsX3_read D cy A)
    (k109 : ∀ (v_3 : Int32) (v_4 : Int32) (v_5 : Int32) (c_a2 : Nat → Int32) (H : Heap) (locs : List Loc) (ls : Array Slot), K109 v_3 v_4 v_5 c_a2 → va_P D vwCl ([(a_this, .inr (3, [.int c_th, .int c_n, .int c_tu, .int c_al, .ref a_ro, .ref a_fr, .int c_le, .ref a_bu, .ref a_no, .ref a_te, .ref a_fa, .ref a_li, .int c_wa, .int c_re, .int c_us, .int c_di, .ref a_wy, .ref a_su, .long c_ha])), (a_a2, .inl (cy 0, 8, .inl c_a2))]) H → va_D A ([(a_this, .inr (3, [.int c_th, .int c_n, .int c_tu, .int c_al, .ref a_ro, .ref a_fr, .int c_le, .ref a_bu, .ref a_no, .ref a_te, .ref a_fa, .ref a_li, .int c_wa, .int c_re, .int c_us, .int c_di, .ref a_wy, .ref a_su, .long c_ha])), (a_a2, .inl (cy 0, 8, .inl c_a2))]) → va_S A s.heap H locs → lv_has ls 9 [] → W p l e (({ frames := 1, cells := 0, slots := 0, locals := 23 } : Room)) s m args below meth c H locs 0 0 Q (F0 m 109 ls [])) :
    ∀ (N : Nat) (v_3 : Int32) (v_4 : Int32) (v_5 : Int32) (c_a2 : Nat → Int32) (H : Heap) (locs : List Loc) (ls : Array Slot), lp_X3_read_15 c_n K109 N v_3 v_4 v_5 c_a2 → va_P D vwCl ([(a_this, .inr (3, [.int c_th, .int c_n, .int c_tu, .int c_al, .ref a_ro, .ref a_fr, .int c_le, .ref a_bu, .ref a_no, .ref a_te, .ref a_fa, .ref a_li, .int c_wa, .int c_re, .int c_us, .int c_di, .ref a_wy, .ref a_su, .long c_ha])), (a_a2, .inl (cy 0, 8, .inl c_a2))]) H → va_D A ([(a_this, .inr (3, [.int c_th, .int c_n, .int c_tu, .int c_al, .ref a_ro, .ref a_fr, .int c_le, .ref a_bu, .ref a_no, .ref a_te, .ref a_fa, .ref a_li, .int c_wa, .int c_re, .int c_us, .int c_di, .ref a_wy, .ref a_su, .long c_ha])), (a_a2, .inl (cy 0, 8, .inl c_a2))]) → va_S A s.heap H locs → lv_has ls 9 [(0, .ref a_this), (2, .ref a_a2), (3, .int v_3), (4, .int v_4), (5, .int v_5)] → W p l e (({ frames := 1, cells := 0, slots := 0, locals := 23 } : Room)) s m args below meth c H locs 0 0 Q (F0 m 15 ls []) := by
  obtain ⟨hx, hb, hml, hown, hts, hK, hA⟩ := id C0
  intro N
  induction N with
  | zero =>
    intro v_3 v_4 v_5 c_a2 H locs ls hw
    exact False.elim hw
  | succ N ih =>
    intro v_3 v_4 v_5 c_a2 H locs ls hw hP hD hS hl
    rw [lp_X3_read_15] at hw
    refine lv_iload hx hb dX3_read_15 (lv_at hl 4 rfl) ?_
    refine lv_aload_n hx hb dX3_read_17 rfl (lv_at hl 0 rfl) ?_
    refine va_get (D := D) (ci := 3) (v := .int c_n) (C := RX3) (T := TX3) (N := 19) hx hb hts k_X3_read_X3 hown hK hP 0 rfl rfl 1 (by decide) (hts _ q_X3_read_1) (fun _ h9 => h9) rfl dX3_read_18 ?_
    refine lv_icmp_ge (tgt := 109) hx hb dX3_read_21 (by decide) (fun c_2 => ?_) (fun c_2 => ?_)
    · replace hw := hw.1 c_2
      exact k109 _ _ _ _ _ _ _ hw hP hD hS (lv_sub hl [] rfl)
    · replace hw := hw.2 c_2
      refine lv_aload_n hx hb dX3_read_24 rfl (lv_at hl 0 rfl) ?_
      refine lv_aload_n hx hb dX3_read_25 rfl (lv_at hl 0 rfl) ?_
      refine va_get (D := D) (ci := 3) (v := .int c_n) (C := RX3) (T := TX3) (N := 19) hx hb hts k_X3_read_X3 hown hK hP 0 rfl rfl 1 (by decide) (hts _ q_X3_read_1) (fun _ h9 => h9) rfl dX3_read_26 ?_
      refine lv_iconst (v := 1) hx hb dX3_read_29 (by decide) ?_
      refine lv_isub hx hb dX3_read_30 ?_
      refine lv_iload hx hb dX3_read_31 (lv_at hl 4 rfl) ?_
      refine lv_isub hx hb dX3_read_33 ?_
      refine j_calli (wr := [(a_a2, .inl (cy 0, 8, .inl c_a2))]) (va_runV (As := [.int ((c_n - 1) - v_5)]) (rest := []) ⟨hx, hb, hml, hown, hts⟩ (c_X3_factorial l D cy a_this a_ro a_fr a_bu a_no a_te a_fa a_li a_wy a_su c_th c_n c_tu c_al c_le c_wa c_re c_us c_di c_ha ((c_n - 1) - v_5) hw H.size) (cwV 1 hts gX3_read_X3_factorial rfl rfl rfl (by decide +kernel) ⟨Nat.le_of_ble_eq_true rfl, Nat.le_of_ble_eq_true rfl⟩) (j_preV hK hP hD (isC := [0]) rfl (by decide +kernel) (ci := 3) (q0 := 0) rfl rfl) rfl rfl hl.1 rfl (lv_room (Nat.le_of_ble_eq_true rfl)) dX3_read_34 ⟨Nat.le_of_ble_eq_true rfl, Nat.le_of_ble_eq_true rfl⟩) hP hD hS hA [0] [1] rfl rfl (by decide +kernel) (by decide +kernel) (fun u_3 => [(a_this, .inr (3, [.int c_th, .int c_n, .int c_tu, .int c_al, .ref a_ro, .ref a_fr, .int c_le, .ref a_bu, .ref a_no, .ref a_te, .ref a_fa, .ref a_li, .int c_wa, .int c_re, .int c_us, .int c_di, .ref a_wy, .ref a_su, .long c_ha])), (a_a2, .inl (cy 0, 8, .inl c_a2))]) [1, 0] (by decide +kernel) (fun u => rfl) (fun r_4 u_3 H locs hw hP hD hS => ?_)
      have hP : va_P D vwCl ([(a_this, .inr (3, [.int c_th, .int c_n, .int c_tu, .int c_al, .ref a_ro, .ref a_fr, .int c_le, .ref a_bu, .ref a_no, .ref a_te, .ref a_fa, .ref a_li, .int c_wa, .int c_re, .int c_us, .int c_di, .ref a_wy, .ref a_su, .long c_ha])), (a_a2, .inl (cy 0, 8, .inl c_a2))]) H := hP
      have hD : va_D A ([(a_this, .inr (3, [.int c_th, .int c_n, .int c_tu, .int c_al, .ref a_ro, .ref a_fr, .int c_le, .ref a_bu, .ref a_no, .ref a_te, .ref a_fa, .ref a_li, .int c_wa, .int c_re, .int c_us, .int c_di, .ref a_wy, .ref a_su, .long c_ha])), (a_a2, .inl (cy 0, 8, .inl c_a2))]) := hD
      refine lv_istore (lv' := [(6, .int r_4), (0, .ref a_this), (2, .ref a_a2), (3, .int v_3), (4, .int v_4), (5, .int v_5)]) hx hb dX3_read_37 hl (by decide) rfl (fun ls hl => ?_)
      refine lv_iload_n hx hb dX3_read_39 rfl (lv_at hl 3 rfl) ?_
      refine lv_iload hx hb dX3_read_40 (lv_at hl 0 rfl) ?_
      obtain ⟨h_5, hw⟩ := hw
      refine lv_idiv hx hb dX3_read_42 h_5 ?_
      refine lv_topi (fun x_6 ex_6 => ?_)
      replace hw := hw x_6 ex_6
      refine lv_istore (lv' := [(7, .int x_6), (6, .int r_4), (0, .ref a_this), (2, .ref a_a2), (3, .int v_3), (4, .int v_4), (5, .int v_5)]) hx hb dX3_read_43 hl (by decide) rfl (fun ls hl => ?_)
      refine lv_iload_n hx hb dX3_read_45 rfl (lv_at hl 4 rfl) ?_
      refine lv_iload hx hb dX3_read_46 (lv_at hl 1 rfl) ?_
      obtain ⟨h_7, hw⟩ := hw
      refine lv_irem hx hb dX3_read_48 h_7 ?_
      refine lv_topi (fun x_8 ex_8 => ?_)
      replace hw := hw x_8 ex_8
      refine lv_istore_n (lv' := [(3, .int x_8), (7, .int x_6), (6, .int r_4), (0, .ref a_this), (2, .ref a_a2), (4, .int v_4), (5, .int v_5)]) hx hb dX3_read_49 rfl hl (by decide) rfl (fun ls hl => ?_)
      refine lv_iconst (v := 0) hx hb dX3_read_50 (by decide) ?_
      refine lv_istore (lv' := [(8, .int 0), (3, .int x_8), (7, .int x_6), (6, .int r_4), (0, .ref a_this), (2, .ref a_a2), (4, .int v_4), (5, .int v_5)]) hx hb dX3_read_51 hl (by decide) rfl (fun ls hl => ?_)
      obtain ⟨N_15, hw⟩ := hw
      refine l_X3_read_53 C0 (fun v_16 v_17 H locs ls hw hP hD hS hl => ?_) _ _ _ _ _ _ hw hP hD hS (lv_sub hl [4, 5, 1, 6, 7, 2, 0] rfl)
      refine lv_aload_n hx hb dX3_read_86 rfl (lv_at hl 1 rfl) ?_
      refine lv_iload hx hb dX3_read_87 (lv_at hl 4 rfl) ?_
      refine lv_iload hx hb dX3_read_89 (lv_at hl 5 rfl) ?_
      obtain ⟨h_18, hw⟩ := hw
      refine va_iast hx hb hK hP hD hS 1 0 rfl rfl h_18 dX3_read_91 (fun H locs hP hD hS => ?_)
      have hP : va_P D vwCl ([(a_this, .inr (3, [.int c_th, .int c_n, .int c_tu, .int c_al, .ref a_ro, .ref a_fr, .int c_le, .ref a_bu, .ref a_no, .ref a_te, .ref a_fa, .ref a_li, .int c_wa, .int c_re, .int c_us, .int c_di, .ref a_wy, .ref a_su, .long c_ha])), (a_a2, .inl (cy 0, 8, .inl (upd c_a2 ((v_5 : Int32).toNatClampNeg) v_17)))]) H := hP
      have hD : va_D A ([(a_this, .inr (3, [.int c_th, .int c_n, .int c_tu, .int c_al, .ref a_ro, .ref a_fr, .int c_le, .ref a_bu, .ref a_no, .ref a_te, .ref a_fa, .ref a_li, .int c_wa, .int c_re, .int c_us, .int c_di, .ref a_wy, .ref a_su, .long c_ha])), (a_a2, .inl (cy 0, 8, .inl (upd c_a2 ((v_5 : Int32).toNatClampNeg) v_17)))]) := hD
      refine lv_iload hx hb dX3_read_92 (lv_at hl 3 rfl) ?_
      refine lv_iconst (v := 1) hx hb dX3_read_94 (by decide) ?_
      refine lv_iload hx hb dX3_read_95 (lv_at hl 5 rfl) ?_
      refine lv_ishl hx hb dX3_read_97 ?_
      refine lv_iconst (v := (-1)) hx hb dX3_read_98 (by decide) ?_
      refine lv_ixor hx hb dX3_read_99 ?_
      refine lv_iand hx hb dX3_read_100 ?_
      refine lv_topi (fun x_19 ex_19 => ?_)
      replace hw := hw x_19 ex_19
      refine lv_istore (lv' := [(4, .int x_19), (0, .ref a_this), (2, .ref a_a2), (3, .int x_8), (5, .int v_5), (8, .int v_17)]) hx hb dX3_read_101 hl (by decide) rfl (fun ls hl => ?_)
      refine lv_iinc (v := v_5 + 1) (lv' := [(5, .int (v_5 + 1)), (4, .int x_19), (0, .ref a_this), (2, .ref a_a2), (3, .int x_8), (8, .int v_17)]) hx hb dX3_read_103 hl (k := 4) rfl rfl (by decide) rfl (fun ls hl => ?_)
      refine lv_goto (tgt := 15) hx hb dX3_read_106 (by decide) ?_
      exact ih _ _ _ _ _ _ _ hw hP hD hS (lv_sub hl [2, 3, 4, 1, 0] rfl)
def wp_X3_read (c_n : Int32) (c_a2 : Nat → Int32) (p_1 : Int32) (post : (Nat → Int32) → Prop) : Prop := (∀ x_1 : Int32, x_1 = (1 <<< (c_n &&& 31)) - 1 → (∃ N_20 : Nat, lp_X3_read_15 c_n (fun (v_21 : Int32) (v_22 : Int32) (v_23 : Int32) (c_24 : Nat → Int32) => (post c_24)) N_20 p_1 x_1 0 c_a2))
set_option maxHeartbeats 4000000 in
set_option maxRecDepth 100000 in
theorem c_X3_read (l : Launch) (D : va_G) (cy : Nat → ClassId) (a_this : Nat) (a_ro : Nat) (a_fr : Nat) (a_bu : Nat) (a_no : Nat) (a_te : Nat) (a_fa : Nat) (a_li : Nat) (a_wy : Nat) (a_su : Nat) (a_a2 : Nat) (c_th : Int32) (c_n : Int32) (c_tu : Int32) (c_al : Int32) (c_le : Int32) (c_wa : Int32) (c_re : Int32) (c_us : Int32) (c_di : Int32) (c_ha : Int64) (c_a2 : Nat → Int32) (p_1 : Int32) {post : (Nat → Int32) → Prop} (hw : wp_X3_read c_n c_a2 p_1 post) (sz : Nat) : Met l yX3_read wsX3_read ({ frames := 1, cells := 0, slots := 0, locals := 23 }) (va_Pc [.ref a_this, .int p_1, .ref a_a2] (PreW D cy ([(a_this, .inr (3, [.int c_th, .int c_n, .int c_tu, .int c_al, .ref a_ro, .ref a_fr, .int c_le, .ref a_bu, .ref a_no, .ref a_te, .ref a_fa, .ref a_li, .int c_wa, .int c_re, .int c_us, .int c_di, .ref a_wy, .ref a_su, .long c_ha])), (a_a2, .inl (cy 0, 8, .inl c_a2))]) sz)) (va_Qv post (fun u t => PostW D cy (va_A ([(a_this, .inr (3, [.int c_th, .int c_n, .int c_tu, .int c_al, .ref a_ro, .ref a_fr, .int c_le, .ref a_bu, .ref a_no, .ref a_te, .ref a_fa, .ref a_li, .int c_wa, .int c_re, .int c_us, .int c_di, .ref a_wy, .ref a_su, .long c_ha])), (a_a2, .inl (cy 0, 8, .inl c_a2))]) sz) ([(a_this, .inr (3, [.int c_th, .int c_n, .int c_tu, .int c_al, .ref a_ro, .ref a_fr, .int c_le, .ref a_bu, .ref a_no, .ref a_te, .ref a_fa, .ref a_li, .int c_wa, .int c_re, .int c_us, .int c_di, .ref a_wy, .ref a_su, .long c_ha])), (a_a2, .inl (cy 0, 8, .inl u))]) t) (va_A ([(a_this, .inr (3, [.int c_th, .int c_n, .int c_tu, .int c_al, .ref a_ro, .ref a_fr, .int c_le, .ref a_bu, .ref a_no, .ref a_te, .ref a_fa, .ref a_li, .int c_wa, .int c_re, .int c_us, .int c_di, .ref a_wy, .ref a_su, .long c_ha])), (a_a2, .inl (cy 0, 8, .inl c_a2))]) sz)) 0 0 (va_A ([(a_this, .inr (3, [.int c_th, .int c_n, .int c_tu, .int c_al, .ref a_ro, .ref a_fr, .int c_le, .ref a_bu, .ref a_no, .ref a_te, .ref a_fa, .ref a_li, .int c_wa, .int c_re, .int c_us, .int c_di, .ref a_wy, .ref a_su, .long c_ha])), (a_a2, .inl (cy 0, 8, .inl c_a2))]) sz) := by
  refine j_met (Qc := fun A => va_Qv post (fun u t => PostW D cy A ([(a_this, .inr (3, [.int c_th, .int c_n, .int c_tu, .int c_al, .ref a_ro, .ref a_fr, .int c_le, .ref a_bu, .ref a_no, .ref a_te, .ref a_fa, .ref a_li, .int c_wa, .int c_re, .int c_us, .int c_di, .ref a_wy, .ref a_su, .long c_ha])), (a_a2, .inl (cy 0, 8, .inl u))]) t) A) (by decide +kernel) rfl (Nat.le_of_ble_eq_true rfl) ?_
  intro p e s m below meth c A ls C0 hr hlocks hP hD hS hl
  obtain ⟨hx, hb, hml, hown, hts, hK, hA⟩ := id C0
  have hown : s.vm.findClass RX3 = some m.cls := hown
  have hl : lv_has ls 9 [(0, .ref a_this), (1, .int p_1), (2, .ref a_a2)] := hl
  unfold wp_X3_read at hw
  refine lv_iload_n hx hb dX3_read_0 rfl (lv_at hl 1 rfl) ?_
  refine lv_istore_n (lv' := [(3, .int p_1), (0, .ref a_this), (1, .int p_1), (2, .ref a_a2)]) hx hb dX3_read_1 rfl hl (by decide) rfl (fun ls hl => ?_)
  refine lv_iconst (v := 1) hx hb dX3_read_2 (by decide) ?_
  refine lv_aload_n hx hb dX3_read_3 rfl (lv_at hl 1 rfl) ?_
  refine va_get (D := D) (ci := 3) (v := .int c_n) (C := RX3) (T := TX3) (N := 19) hx hb hts k_X3_read_X3 hown hK hP 0 rfl rfl 1 (by decide) (hts _ q_X3_read_1) (fun _ h9 => h9) rfl dX3_read_4 ?_
  refine lv_ishl hx hb dX3_read_7 ?_
  refine lv_iconst (v := 1) hx hb dX3_read_8 (by decide) ?_
  refine lv_isub hx hb dX3_read_9 ?_
  refine lv_topi (fun x_1 ex_1 => ?_)
  replace hw := hw x_1 ex_1
  refine lv_istore (lv' := [(4, .int x_1), (3, .int p_1), (0, .ref a_this), (1, .int p_1), (2, .ref a_a2)]) hx hb dX3_read_10 hl (by decide) rfl (fun ls hl => ?_)
  refine lv_iconst (v := 0) hx hb dX3_read_12 (by decide) ?_
  refine lv_istore (lv' := [(5, .int 0), (4, .int x_1), (3, .int p_1), (0, .ref a_this), (1, .int p_1), (2, .ref a_a2)]) hx hb dX3_read_13 hl (by decide) rfl (fun ls hl => ?_)
  obtain ⟨N_20, hw⟩ := hw
  refine l_X3_read_15 C0 (fun v_21 v_22 v_23 c_24 H locs ls hw hP hD hS hl => ?_) _ _ _ _ _ _ _ _ hw hP hD hS (lv_sub hl [3, 5, 2, 1, 0] rfl)
  exact j_vret (fun u => [(a_this, .inr (3, [.int c_th, .int c_n, .int c_tu, .int c_al, .ref a_ro, .ref a_fr, .int c_le, .ref a_bu, .ref a_no, .ref a_te, .ref a_fa, .ref a_li, .int c_wa, .int c_re, .int c_us, .int c_di, .ref a_wy, .ref a_su, .long c_ha])), (a_a2, .inl (cy 0, 8, .inl u))]) (c_24 : (Nat → Int32)) hx hb hr hlocks hK hP hD hS hw dX3_read_109
theorem q_X3_shift_1 : Cond.fieldLink RX3 7 "TwistedRowModel" "n" "I" ∈ wsX3_shift := List.mem_of_getElem? (i := 1) rfl
theorem k_X3_shift_X3 : ∀ w ∈ wsX30, w ∈ wsX3_shift := my_in _ [3, 4, 5, 6, 7, 8, 9, 10, 11, 12, 13, 14, 15, 16, 17, 18, 19, 20, 21] (by decide +kernel)
theorem q_X3_shift_2 : Cond.fieldLink RX3 17 "TwistedRowModel" "from" "[I" ∈ wsX3_shift := List.mem_of_getElem? (i := 2) rfl
def lp_X3_shift_3 (c_a2 : Nat → Int32) (c_fr : Nat → Int32) (c_n : Int32) (v_1 : Int32) (K36 : Int32 → (Nat → Int32) → Prop) : Nat → Int32 → (Nat → Int32) → Prop
  | 0, _, _ => False
  | N + 1, v_4, c_a3 => ((c_n ≤ v_4 → (K36 v_4 c_a3)) ∧ (¬ c_n ≤ v_4 → (vp_in ((8 * v_1) + v_4) 96 ∧ (vp_in (c_fr ((8 * v_1) + v_4 : Int32).toNatClampNeg) 8 ∧ (vp_in v_4 8 ∧ (lp_X3_shift_3 c_a2 c_fr c_n v_1 K36 N (v_4 + 1) (upd c_a3 ((v_4 : Int32).toNatClampNeg) (c_a2 (c_fr ((8 * v_1) + v_4 : Int32).toNatClampNeg : Int32).toNatClampNeg))))))))
set_option maxHeartbeats 4000000 in
set_option maxRecDepth 100000 in
theorem l_X3_shift_3 {p : Program} {l : Launch} {e : Env} {s : State} {m : MethodId} {args : Array Value} {below : List Frame} {meth : Method} {c : Code} {A : Nat → Prop} {D : va_G} {cy : Nat → ClassId} {Q : State → Prop} {a_this : Nat} {a_ro : Nat} {a_fr : Nat} {a_bu : Nat} {a_no : Nat} {a_te : Nat} {a_fa : Nat} {a_li : Nat} {a_wy : Nat} {a_su : Nat} {a_a2 : Nat} {a_a3 : Nat} {c_th : Int32} {c_n : Int32} {c_tu : Int32} {c_al : Int32} {c_le : Int32} {c_wa : Int32} {c_re : Int32} {c_us : Int32} {c_di : Int32} {c_ha : Int64} {c_fr : Nat → Int32} {c_a2 : Nat → Int32} {v_1 : Int32} {K36 : Int32 → (Nat → Int32) → Prop} (C0 : Cx p s m args c cX3_shift yX3_shift.cls 5 wsX3_shift D cy A)
    (k36 : ∀ (v_4 : Int32) (c_a3 : Nat → Int32) (H : Heap) (locs : List Loc) (ls : Array Slot), K36 v_4 c_a3 → va_P D vwCl ([(a_this, .inr (3, [.int c_th, .int c_n, .int c_tu, .int c_al, .ref a_ro, .ref a_fr, .int c_le, .ref a_bu, .ref a_no, .ref a_te, .ref a_fa, .ref a_li, .int c_wa, .int c_re, .int c_us, .int c_di, .ref a_wy, .ref a_su, .long c_ha])), (a_fr, .inl (cy 0, 96, .inl c_fr)), (a_a2, .inl (cy 0, 8, .inl c_a2)), (a_a3, .inl (cy 0, 8, .inl c_a3))]) H → va_D A ([(a_this, .inr (3, [.int c_th, .int c_n, .int c_tu, .int c_al, .ref a_ro, .ref a_fr, .int c_le, .ref a_bu, .ref a_no, .ref a_te, .ref a_fa, .ref a_li, .int c_wa, .int c_re, .int c_us, .int c_di, .ref a_wy, .ref a_su, .long c_ha])), (a_fr, .inl (cy 0, 96, .inl c_fr)), (a_a2, .inl (cy 0, 8, .inl c_a2)), (a_a3, .inl (cy 0, 8, .inl c_a3))]) → va_S A s.heap H locs → lv_has ls 5 [] → W p l e (({ frames := 0, cells := 0, slots := 0, locals := 0 } : Room)) s m args below meth c H locs 0 0 Q (F0 m 36 ls [])) :
    ∀ (N : Nat) (v_4 : Int32) (c_a3 : Nat → Int32) (H : Heap) (locs : List Loc) (ls : Array Slot), lp_X3_shift_3 c_a2 c_fr c_n v_1 K36 N v_4 c_a3 → va_P D vwCl ([(a_this, .inr (3, [.int c_th, .int c_n, .int c_tu, .int c_al, .ref a_ro, .ref a_fr, .int c_le, .ref a_bu, .ref a_no, .ref a_te, .ref a_fa, .ref a_li, .int c_wa, .int c_re, .int c_us, .int c_di, .ref a_wy, .ref a_su, .long c_ha])), (a_fr, .inl (cy 0, 96, .inl c_fr)), (a_a2, .inl (cy 0, 8, .inl c_a2)), (a_a3, .inl (cy 0, 8, .inl c_a3))]) H → va_D A ([(a_this, .inr (3, [.int c_th, .int c_n, .int c_tu, .int c_al, .ref a_ro, .ref a_fr, .int c_le, .ref a_bu, .ref a_no, .ref a_te, .ref a_fa, .ref a_li, .int c_wa, .int c_re, .int c_us, .int c_di, .ref a_wy, .ref a_su, .long c_ha])), (a_fr, .inl (cy 0, 96, .inl c_fr)), (a_a2, .inl (cy 0, 8, .inl c_a2)), (a_a3, .inl (cy 0, 8, .inl c_a3))]) → va_S A s.heap H locs → lv_has ls 5 [(0, .ref a_this), (1, .int v_1), (2, .ref a_a2), (3, .ref a_a3), (4, .int v_4)] → W p l e (({ frames := 0, cells := 0, slots := 0, locals := 0 } : Room)) s m args below meth c H locs 0 0 Q (F0 m 3 ls []) := by
  obtain ⟨hx, hb, hml, hown, hts, hK, hA⟩ := id C0
  intro N
  induction N with
  | zero =>
    intro v_4 c_a3 H locs ls hw
    exact False.elim hw
  | succ N ih =>
    intro v_4 c_a3 H locs ls hw hP hD hS hl
    rw [lp_X3_shift_3] at hw
    refine lv_iload hx hb dX3_shift_3 (lv_at hl 4 rfl) ?_
    refine lv_aload_n hx hb dX3_shift_5 rfl (lv_at hl 0 rfl) ?_
    refine va_get (D := D) (ci := 3) (v := .int c_n) (C := RX3) (T := TX3) (N := 19) hx hb hts k_X3_shift_X3 hown hK hP 0 rfl rfl 1 (by decide) (hts _ q_X3_shift_1) (fun _ h9 => h9) rfl dX3_shift_6 ?_
    refine lv_icmp_ge (tgt := 36) hx hb dX3_shift_9 (by decide) (fun c_1 => ?_) (fun c_1 => ?_)
    · replace hw := hw.1 c_1
      exact k36 _ _ _ _ _ hw hP hD hS (lv_sub hl [] rfl)
    · replace hw := hw.2 c_1
      refine lv_aload_n hx hb dX3_shift_12 rfl (lv_at hl 3 rfl) ?_
      refine lv_iload hx hb dX3_shift_13 (lv_at hl 4 rfl) ?_
      refine lv_aload_n hx hb dX3_shift_15 rfl (lv_at hl 2 rfl) ?_
      refine lv_aload_n hx hb dX3_shift_16 rfl (lv_at hl 0 rfl) ?_
      refine va_get (D := D) (ci := 3) (v := .ref a_fr) (C := RX3) (T := TX3) (N := 19) hx hb hts k_X3_shift_X3 hown hK hP 0 rfl rfl 5 (by decide) (hts _ q_X3_shift_2) (fun _ h9 => h9) rfl dX3_shift_17 ?_
      refine lv_bipush (v := 8) hx hb dX3_shift_20 (by decide) ?_
      refine lv_iload_n hx hb dX3_shift_22 rfl (lv_at hl 1 rfl) ?_
      refine lv_imul hx hb dX3_shift_23 ?_
      refine lv_iload hx hb dX3_shift_24 (lv_at hl 4 rfl) ?_
      refine lv_iadd hx hb dX3_shift_26 ?_
      obtain ⟨h_2, hw⟩ := hw
      refine va_iald hx hb hK hP 1 0 rfl rfl h_2 dX3_shift_27 ?_
      obtain ⟨h_3, hw⟩ := hw
      refine va_iald hx hb hK hP 2 0 rfl rfl h_3 dX3_shift_28 ?_
      obtain ⟨h_4, hw⟩ := hw
      refine va_iast hx hb hK hP hD hS 3 0 rfl rfl h_4 dX3_shift_29 (fun H locs hP hD hS => ?_)
      have hP : va_P D vwCl ([(a_this, .inr (3, [.int c_th, .int c_n, .int c_tu, .int c_al, .ref a_ro, .ref a_fr, .int c_le, .ref a_bu, .ref a_no, .ref a_te, .ref a_fa, .ref a_li, .int c_wa, .int c_re, .int c_us, .int c_di, .ref a_wy, .ref a_su, .long c_ha])), (a_fr, .inl (cy 0, 96, .inl c_fr)), (a_a2, .inl (cy 0, 8, .inl c_a2)), (a_a3, .inl (cy 0, 8, .inl (upd c_a3 ((v_4 : Int32).toNatClampNeg) (c_a2 (c_fr ((8 * v_1) + v_4 : Int32).toNatClampNeg : Int32).toNatClampNeg))))]) H := hP
      have hD : va_D A ([(a_this, .inr (3, [.int c_th, .int c_n, .int c_tu, .int c_al, .ref a_ro, .ref a_fr, .int c_le, .ref a_bu, .ref a_no, .ref a_te, .ref a_fa, .ref a_li, .int c_wa, .int c_re, .int c_us, .int c_di, .ref a_wy, .ref a_su, .long c_ha])), (a_fr, .inl (cy 0, 96, .inl c_fr)), (a_a2, .inl (cy 0, 8, .inl c_a2)), (a_a3, .inl (cy 0, 8, .inl (upd c_a3 ((v_4 : Int32).toNatClampNeg) (c_a2 (c_fr ((8 * v_1) + v_4 : Int32).toNatClampNeg : Int32).toNatClampNeg))))]) := hD
      refine lv_iinc (v := v_4 + 1) (lv' := [(4, .int (v_4 + 1)), (0, .ref a_this), (1, .int v_1), (2, .ref a_a2), (3, .ref a_a3)]) hx hb dX3_shift_30 hl (k := 4) rfl rfl (by decide) rfl (fun ls hl => ?_)
      refine lv_goto (tgt := 3) hx hb dX3_shift_33 (by decide) ?_
      exact ih _ _ _ _ _ hw hP hD hS (lv_sub hl [1, 2, 3, 4, 0] rfl)
def wp_X3_shift (c_n : Int32) (c_fr : Nat → Int32) (c_a2 : Nat → Int32) (c_a3 : Nat → Int32) (p_1 : Int32) (post : (Nat → Int32) → Prop) : Prop := (∃ N_5 : Nat, lp_X3_shift_3 c_a2 c_fr c_n p_1 (fun (v_6 : Int32) (c_7 : Nat → Int32) => (post c_7)) N_5 0 c_a3)
set_option maxHeartbeats 4000000 in
set_option maxRecDepth 100000 in
theorem c_X3_shift (l : Launch) (D : va_G) (cy : Nat → ClassId) (a_this : Nat) (a_ro : Nat) (a_fr : Nat) (a_bu : Nat) (a_no : Nat) (a_te : Nat) (a_fa : Nat) (a_li : Nat) (a_wy : Nat) (a_su : Nat) (a_a2 : Nat) (a_a3 : Nat) (c_th : Int32) (c_n : Int32) (c_tu : Int32) (c_al : Int32) (c_le : Int32) (c_wa : Int32) (c_re : Int32) (c_us : Int32) (c_di : Int32) (c_ha : Int64) (c_fr : Nat → Int32) (c_a2 : Nat → Int32) (c_a3 : Nat → Int32) (p_1 : Int32) {post : (Nat → Int32) → Prop} (hw : wp_X3_shift c_n c_fr c_a2 c_a3 p_1 post) (sz : Nat) : Met l yX3_shift wsX3_shift ({ frames := 0, cells := 0, slots := 0, locals := 0 }) (va_Pc [.ref a_this, .int p_1, .ref a_a2, .ref a_a3] (PreW D cy ([(a_this, .inr (3, [.int c_th, .int c_n, .int c_tu, .int c_al, .ref a_ro, .ref a_fr, .int c_le, .ref a_bu, .ref a_no, .ref a_te, .ref a_fa, .ref a_li, .int c_wa, .int c_re, .int c_us, .int c_di, .ref a_wy, .ref a_su, .long c_ha])), (a_fr, .inl (cy 0, 96, .inl c_fr)), (a_a2, .inl (cy 0, 8, .inl c_a2)), (a_a3, .inl (cy 0, 8, .inl c_a3))]) sz)) (va_Qv post (fun u t => PostW D cy (va_A ([(a_this, .inr (3, [.int c_th, .int c_n, .int c_tu, .int c_al, .ref a_ro, .ref a_fr, .int c_le, .ref a_bu, .ref a_no, .ref a_te, .ref a_fa, .ref a_li, .int c_wa, .int c_re, .int c_us, .int c_di, .ref a_wy, .ref a_su, .long c_ha])), (a_fr, .inl (cy 0, 96, .inl c_fr)), (a_a2, .inl (cy 0, 8, .inl c_a2)), (a_a3, .inl (cy 0, 8, .inl c_a3))]) sz) ([(a_this, .inr (3, [.int c_th, .int c_n, .int c_tu, .int c_al, .ref a_ro, .ref a_fr, .int c_le, .ref a_bu, .ref a_no, .ref a_te, .ref a_fa, .ref a_li, .int c_wa, .int c_re, .int c_us, .int c_di, .ref a_wy, .ref a_su, .long c_ha])), (a_fr, .inl (cy 0, 96, .inl c_fr)), (a_a2, .inl (cy 0, 8, .inl c_a2)), (a_a3, .inl (cy 0, 8, .inl u))]) t) (va_A ([(a_this, .inr (3, [.int c_th, .int c_n, .int c_tu, .int c_al, .ref a_ro, .ref a_fr, .int c_le, .ref a_bu, .ref a_no, .ref a_te, .ref a_fa, .ref a_li, .int c_wa, .int c_re, .int c_us, .int c_di, .ref a_wy, .ref a_su, .long c_ha])), (a_fr, .inl (cy 0, 96, .inl c_fr)), (a_a2, .inl (cy 0, 8, .inl c_a2)), (a_a3, .inl (cy 0, 8, .inl c_a3))]) sz)) 0 0 (va_A ([(a_this, .inr (3, [.int c_th, .int c_n, .int c_tu, .int c_al, .ref a_ro, .ref a_fr, .int c_le, .ref a_bu, .ref a_no, .ref a_te, .ref a_fa, .ref a_li, .int c_wa, .int c_re, .int c_us, .int c_di, .ref a_wy, .ref a_su, .long c_ha])), (a_fr, .inl (cy 0, 96, .inl c_fr)), (a_a2, .inl (cy 0, 8, .inl c_a2)), (a_a3, .inl (cy 0, 8, .inl c_a3))]) sz) := by
  refine j_met (Qc := fun A => va_Qv post (fun u t => PostW D cy A ([(a_this, .inr (3, [.int c_th, .int c_n, .int c_tu, .int c_al, .ref a_ro, .ref a_fr, .int c_le, .ref a_bu, .ref a_no, .ref a_te, .ref a_fa, .ref a_li, .int c_wa, .int c_re, .int c_us, .int c_di, .ref a_wy, .ref a_su, .long c_ha])), (a_fr, .inl (cy 0, 96, .inl c_fr)), (a_a2, .inl (cy 0, 8, .inl c_a2)), (a_a3, .inl (cy 0, 8, .inl u))]) t) A) (by decide +kernel) rfl (Nat.le_of_ble_eq_true rfl) ?_
  intro p e s m below meth c A ls C0 hr hlocks hP hD hS hl
  obtain ⟨hx, hb, hml, hown, hts, hK, hA⟩ := id C0
  have hown : s.vm.findClass RX3 = some m.cls := hown
  have hl : lv_has ls 5 [(0, .ref a_this), (1, .int p_1), (2, .ref a_a2), (3, .ref a_a3)] := hl
  unfold wp_X3_shift at hw
  refine lv_iconst (v := 0) hx hb dX3_shift_0 (by decide) ?_
  refine lv_istore (lv' := [(4, .int 0), (0, .ref a_this), (1, .int p_1), (2, .ref a_a2), (3, .ref a_a3)]) hx hb dX3_shift_1 hl (by decide) rfl (fun ls hl => ?_)
  obtain ⟨N_5, hw⟩ := hw
  refine l_X3_shift_3 C0 (fun v_6 c_7 H locs ls hw hP hD hS hl => ?_) _ _ _ _ _ _ hw hP hD hS (lv_sub hl [1, 2, 3, 4, 0] rfl)
  exact j_vret (fun u => [(a_this, .inr (3, [.int c_th, .int c_n, .int c_tu, .int c_al, .ref a_ro, .ref a_fr, .int c_le, .ref a_bu, .ref a_no, .ref a_te, .ref a_fa, .ref a_li, .int c_wa, .int c_re, .int c_us, .int c_di, .ref a_wy, .ref a_su, .long c_ha])), (a_fr, .inl (cy 0, 96, .inl c_fr)), (a_a2, .inl (cy 0, 8, .inl c_a2)), (a_a3, .inl (cy 0, 8, .inl u))]) (c_7 : (Nat → Int32)) hx hb hr hlocks hK hP hD hS hw dX3_shift_36
