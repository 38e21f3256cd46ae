theorem q_X3_thrown_1 : Cond.fieldLink RX3 46 "TwistedRowModel" "thrown" "I" ∈ wsX3_thrown := List.mem_of_getElem? (i := 1) rfl
theorem k_X3_thrown_X3 : ∀ w ∈ wsX30, w ∈ wsX3_thrown := my_in _ [2, 3, 4, 5, 6, 7, 8, 9, 10, 11, 12, 13, 14, 15, 16, 17, 18, 19, 20] (by decide +kernel)
def wp_X3_thrown (c_th : Int32) (post : Int32 → Unit → Prop) : Prop := (post c_th ())
set_option maxHeartbeats 4000000 in
set_option maxRecDepth 100000 in
theorem c_X3_thrown (l : Launch) (D : va_G) (cy : Nat → ClassId) (a_this : Nat) (a_ro : Nat) (a_fr : Nat) (a_bu : Nat) (a_no : Nat) (a_te : Nat) (a_fa : Nat) (a_li : Nat) (a_wy : Nat) (a_su : Nat) (c_th : Int32) (c_n : Int32) (c_tu : Int32) (c_al : Int32) (c_le : Int32) (c_wa : Int32) (c_re : Int32) (c_us : Int32) (c_di : Int32) (c_ha : Int64) {post : Int32 → Unit → Prop} (hw : wp_X3_thrown c_th post) (sz : Nat) : Met l yX3_thrown wsX3_thrown ({ frames := 0, cells := 0, slots := 0, locals := 0 }) (va_Pc [.ref a_this] (PreW D cy ([(a_this, .inr (3, [.int c_th, .int c_n, .int c_tu, .int c_al, .ref a_ro, .ref a_fr, .int c_le, .ref a_bu, .ref a_no, .ref a_te, .ref a_fa, .ref a_li, .int c_wa, .int c_re, .int c_us, .int c_di, .ref a_wy, .ref a_su, .long c_ha]))]) sz)) (va_Qi post (fun u t => PostW D cy (va_A ([(a_this, .inr (3, [.int c_th, .int c_n, .int c_tu, .int c_al, .ref a_ro, .ref a_fr, .int c_le, .ref a_bu, .ref a_no, .ref a_te, .ref a_fa, .ref a_li, .int c_wa, .int c_re, .int c_us, .int c_di, .ref a_wy, .ref a_su, .long c_ha]))]) sz) ([(a_this, .inr (3, [.int c_th, .int c_n, .int c_tu, .int c_al, .ref a_ro, .ref a_fr, .int c_le, .ref a_bu, .ref a_no, .ref a_te, .ref a_fa, .ref a_li, .int c_wa, .int c_re, .int c_us, .int c_di, .ref a_wy, .ref a_su, .long c_ha]))]) t) (va_A ([(a_this, .inr (3, [.int c_th, .int c_n, .int c_tu, .int c_al, .ref a_ro, .ref a_fr, .int c_le, .ref a_bu, .ref a_no, .ref a_te, .ref a_fa, .ref a_li, .int c_wa, .int c_re, .int c_us, .int c_di, .ref a_wy, .ref a_su, .long c_ha]))]) sz)) 0 0 (va_A ([(a_this, .inr (3, [.int c_th, .int c_n, .int c_tu, .int c_al, .ref a_ro, .ref a_fr, .int c_le, .ref a_bu, .ref a_no, .ref a_te, .ref a_fa, .ref a_li, .int c_wa, .int c_re, .int c_us, .int c_di, .ref a_wy, .ref a_su, .long c_ha]))]) sz) := by
  refine j_met (Qc := fun A => va_Qi post (fun u t => PostW D cy A ([(a_this, .inr (3, [.int c_th, .int c_n, .int c_tu, .int c_al, .ref a_ro, .ref a_fr, .int c_le, .ref a_bu, .ref a_no, .ref a_te, .ref a_fa, .ref a_li, .int c_wa, .int c_re, .int c_us, .int c_di, .ref a_wy, .ref a_su, .long c_ha]))]) t) A) (by decide +kernel) rfl (Nat.le_of_ble_eq_true rfl) ?_
  intro p e s m below meth c A ls C0 hr hlocks hP hD hS hl
  obtain ⟨hx, hb, hml, hown, hts, hK, hA⟩ := id C0
  have hown : s.vm.findClass RX3 = some m.cls := hown
  have hl : lv_has ls 1 [(0, .ref a_this)] := hl
  unfold wp_X3_thrown at hw
  refine lv_aload_n hx hb dX3_thrown_0 rfl (lv_at hl 0 rfl) ?_
  refine va_get (D := D) (ci := 3) (v := .int c_th) (C := RX3) (T := TX3) (N := 19) hx hb hts k_X3_thrown_X3 hown hK hP 0 rfl rfl 0 (by decide) (hts _ q_X3_thrown_1) (fun _ h9 => h9) rfl dX3_thrown_1 ?_
  exact j_iret (fun u => [(a_this, .inr (3, [.int c_th, .int c_n, .int c_tu, .int c_al, .ref a_ro, .ref a_fr, .int c_le, .ref a_bu, .ref a_no, .ref a_te, .ref a_fa, .ref a_li, .int c_wa, .int c_re, .int c_us, .int c_di, .ref a_wy, .ref a_su, .long c_ha]))]) (() : Unit) hx hb hr hlocks hK hP hD hS hw dX3_thrown_4
def wp_X3_within (p_0 : Int32) (p_1 : Int32) (p_2 : Int32) (post : Int32 → Unit → Prop) : Prop := ((p_0 < p_1 → (post 0 ())) ∧ (¬ p_0 < p_1 → ((p_2 < p_0 → (post 0 ())) ∧ (¬ p_2 < p_0 → (post 1 ())))))
set_option maxHeartbeats 4000000 in
set_option maxRecDepth 100000 in
theorem c_X3_within (l : Launch) (D : va_G) (cy : Nat → ClassId) (p_0 : Int32) (p_1 : Int32) (p_2 : Int32) {post : Int32 → Unit → Prop} (hw : wp_X3_within p_0 p_1 p_2 post) (sz : Nat) : Met l yX3_within wsX3_within ({ frames := 0, cells := 0, slots := 0, locals := 0 }) (va_Pc [.int p_0, .int p_1, .int p_2] (PreW D cy ([]) sz)) (va_Qi post (fun u t => PostW D cy (va_A ([]) sz) ([]) t) (va_A ([]) sz)) 0 0 (va_A ([]) sz) := by
  refine j_met (Qc := fun A => va_Qi post (fun u t => PostW D cy A ([]) t) A) (by decide +kernel) rfl (Nat.le_of_ble_eq_true rfl) ?_
  intro p e s m below meth c A ls C0 hr hlocks hP hD hS hl
  obtain ⟨hx, hb, hml, hown, hts, hK, hA⟩ := id C0
  have hown : s.vm.findClass RX3 = some m.cls := hown
  have hl : lv_has ls 3 [(0, .int p_0), (1, .int p_1), (2, .int p_2)] := hl
  unfold wp_X3_within at hw
  refine lv_iload_n hx hb dX3_within_0 rfl (lv_at hl 0 rfl) ?_
  refine lv_iload_n hx hb dX3_within_1 rfl (lv_at hl 1 rfl) ?_
  refine lv_icmp_lt (tgt := 14) hx hb dX3_within_2 (by decide) (fun c_1 => ?_) (fun c_1 => ?_)
  · replace hw := hw.1 c_1
    refine lv_iconst (v := 0) hx hb dX3_within_14 (by decide) ?_
    exact j_zret (fun u => []) (() : Unit) hx hb hr rfl hlocks hK hP hD hS hw dX3_within_15
  · replace hw := hw.2 c_1
    refine lv_iload_n hx hb dX3_within_5 rfl (lv_at hl 0 rfl) ?_
    refine lv_iload_n hx hb dX3_within_6 rfl (lv_at hl 2 rfl) ?_
    refine lv_icmp_gt (tgt := 14) hx hb dX3_within_7 (by decide) (fun c_2 => ?_) (fun c_2 => ?_)
    · replace hw := hw.1 c_2
      refine lv_iconst (v := 0) hx hb dX3_within_14 (by decide) ?_
      exact j_zret (fun u => []) (() : Unit) hx hb hr rfl hlocks hK hP hD hS hw dX3_within_15
    · replace hw := hw.2 c_2
      refine lv_iconst (v := 1) hx hb dX3_within_10 (by decide) ?_
      refine lv_goto (tgt := 15) hx hb dX3_within_11 (by decide) ?_
      exact j_zret (fun u => []) (() : Unit) hx hb hr rfl hlocks hK hP hD hS hw dX3_within_15
def wp_X3_has (p_0 : Int32) (p_1 : Int32) (post : Int32 → Unit → Prop) : Prop := ((¬ ((p_0 >>> (p_1 &&& 31)) &&& 1) = 1 → (post 0 ())) ∧ (((p_0 >>> (p_1 &&& 31)) &&& 1) = 1 → (post 1 ())))
set_option maxHeartbeats 4000000 in
set_option maxRecDepth 100000 in
theorem c_X3_has (l : Launch) (D : va_G) (cy : Nat → ClassId) (p_0 : Int32) (p_1 : Int32) {post : Int32 → Unit → Prop} (hw : wp_X3_has p_0 p_1 post) (sz : Nat) : Met l yX3_has wsX3_has ({ frames := 0, cells := 0, slots := 0, locals := 0 }) (va_Pc [.int p_0, .int p_1] (PreW D cy ([]) sz)) (va_Qi post (fun u t => PostW D cy (va_A ([]) sz) ([]) t) (va_A ([]) sz)) 0 0 (va_A ([]) sz) := by
  refine j_met (Qc := fun A => va_Qi post (fun u t => PostW D cy A ([]) t) A) (by decide +kernel) rfl (Nat.le_of_ble_eq_true rfl) ?_
  intro p e s m below meth c A ls C0 hr hlocks hP hD hS hl
  obtain ⟨hx, hb, hml, hown, hts, hK, hA⟩ := id C0
  have hown : s.vm.findClass RX3 = some m.cls := hown
  have hl : lv_has ls 2 [(0, .int p_0), (1, .int p_1)] := hl
  unfold wp_X3_has at hw
  refine lv_iload_n hx hb dX3_has_0 rfl (lv_at hl 0 rfl) ?_
  refine lv_iload_n hx hb dX3_has_1 rfl (lv_at hl 1 rfl) ?_
  refine lv_ishr hx hb dX3_has_2 ?_
  refine lv_iconst (v := 1) hx hb dX3_has_3 (by decide) ?_
  refine lv_iand hx hb dX3_has_4 ?_
  refine lv_iconst (v := 1) hx hb dX3_has_5 (by decide) ?_
  refine lv_icmp_ne (tgt := 13) hx hb dX3_has_6 (by decide) (fun c_1 => ?_) (fun c_1 => ?_)
  · replace hw := hw.1 c_1
    refine lv_iconst (v := 0) hx hb dX3_has_13 (by decide) ?_
    exact j_zret (fun u => []) (() : Unit) hx hb hr rfl hlocks hK hP hD hS hw dX3_has_14
  · replace hw := hw.2 c_1
    refine lv_iconst (v := 1) hx hb dX3_has_9 (by decide) ?_
    refine lv_goto (tgt := 14) hx hb dX3_has_10 (by decide) ?_
    exact j_zret (fun u => []) (() : Unit) hx hb hr rfl hlocks hK hP hD hS hw dX3_has_14
theorem q_X3_isPlace_1 : Cond.fieldLink RX3 7 "TwistedRowModel" "n" "I" ∈ wsX3_isPlace := List.mem_of_getElem? (i := 1) rfl
theorem k_X3_isPlace_X3 : ∀ w ∈ wsX30, w ∈ wsX3_isPlace := my_in _ [6, 7, 8, 9, 10, 11, 12, 13, 14, 15, 16, 17, 18, 19, 20, 21, 22, 23, 24] (by decide +kernel)
def wp_X3_isPlace (c_n : Int32) (p_1 : Int32) (post : Int32 → Unit → Prop) : Prop := (wp_X3_within p_1 (0 : Int32) (c_n - 1) (fun r_2 u_1 => (narrow .boolean (.int r_2) = .int r_2 ∧ (post r_2 ()))))
set_option maxHeartbeats 4000000 in
set_option maxRecDepth 100000 in
theorem c_X3_isPlace (l : Launch) (D : va_G) (cy : Nat → ClassId) (a_this : Nat) (a_ro : Nat) (a_fr : Nat) (a_bu : Nat) (a_no : Nat) (a_te : Nat) (a_fa : Nat) (a_li : Nat) (a_wy : Nat) (a_su : Nat) (c_th : Int32) (c_n : Int32) (c_tu : Int32) (c_al : Int32) (c_le : Int32) (c_wa : Int32) (c_re : Int32) (c_us : Int32) (c_di : Int32) (c_ha : Int64) (p_1 : Int32) {post : Int32 → Unit → Prop} (hw : wp_X3_isPlace c_n p_1 post) (sz : Nat) : Met l yX3_isPlace wsX3_isPlace ({ frames := 1, cells := 0, slots := 0, locals := 22 }) (va_Pc [.ref a_this, .int p_1] (PreW D cy ([(a_this, .inr (3, [.int c_th, .int c_n, .int c_tu, .int c_al, .ref a_ro, .ref a_fr, .int c_le, .ref a_bu, .ref a_no, .ref a_te, .ref a_fa, .ref a_li, .int c_wa, .int c_re, .int c_us, .int c_di, .ref a_wy, .ref a_su, .long c_ha]))]) sz)) (va_Qi post (fun u t => PostW D cy (va_A ([(a_this, .inr (3, [.int c_th, .int c_n, .int c_tu, .int c_al, .ref a_ro, .ref a_fr, .int c_le, .ref a_bu, .ref a_no, .ref a_te, .ref a_fa, .ref a_li, .int c_wa, .int c_re, .int c_us, .int c_di, .ref a_wy, .ref a_su, .long c_ha]))]) sz) ([(a_this, .inr (3, [.int c_th, .int c_n, .int c_tu, .int c_al, .ref a_ro, .ref a_fr, .int c_le, .ref a_bu, .ref a_no, .ref a_te, .ref a_fa, .ref a_li, .int c_wa, .int c_re, .int c_us, .int c_di, .ref a_wy, .ref a_su, .long c_ha]))]) t) (va_A ([(a_this, .inr (3, [.int c_th, .int c_n, .int c_tu, .int c_al, .ref a_ro, .ref a_fr, .int c_le, .ref a_bu, .ref a_no, .ref a_te, .ref a_fa, .ref a_li, .int c_wa, .int c_re, .int c_us, .int c_di, .ref a_wy, .ref a_su, .long c_ha]))]) sz)) 0 0 (va_A ([(a_this, .inr (3, [.int c_th, .int c_n, .int c_tu, .int c_al, .ref a_ro, .ref a_fr, .int c_le, .ref a_bu, .ref a_no, .ref a_te, .ref a_fa, .ref a_li, .int c_wa, .int c_re, .int c_us, .int c_di, .ref a_wy, .ref a_su, .long c_ha]))]) sz) := by
  refine j_met (Qc := fun A => va_Qi post (fun u t => PostW D cy A ([(a_this, .inr (3, [.int c_th, .int c_n, .int c_tu, .int c_al, .ref a_ro, .ref a_fr, .int c_le, .ref a_bu, .ref a_no, .ref a_te, .ref a_fa, .ref a_li, .int c_wa, .int c_re, .int c_us, .int c_di, .ref a_wy, .ref a_su, .long c_ha]))]) t) A) (by decide +kernel) rfl (Nat.le_of_ble_eq_true rfl) ?_
  intro p e s m below meth c A ls C0 hr hlocks hP hD hS hl
  obtain ⟨hx, hb, hml, hown, hts, hK, hA⟩ := id C0
  have hown : s.vm.findClass RX3 = some m.cls := hown
  have hl : lv_has ls 2 [(0, .ref a_this), (1, .int p_1)] := hl
  unfold wp_X3_isPlace at hw
  refine lv_iload_n hx hb dX3_isPlace_0 rfl (lv_at hl 1 rfl) ?_
  refine lv_iconst (v := 0) hx hb dX3_isPlace_1 (by decide) ?_
  refine lv_aload_n hx hb dX3_isPlace_2 rfl (lv_at hl 0 rfl) ?_
  refine va_get (D := D) (ci := 3) (v := .int c_n) (C := RX3) (T := TX3) (N := 19) hx hb hts k_X3_isPlace_X3 hown hK hP 0 rfl rfl 1 (by decide) (hts _ q_X3_isPlace_1) (fun _ h9 => h9) rfl dX3_isPlace_3 ?_
  refine lv_iconst (v := 1) hx hb dX3_isPlace_6 (by decide) ?_
  refine lv_isub hx hb dX3_isPlace_7 ?_
  refine j_calli (wr := [(a_this, .inr (3, [.int c_th, .int c_n, .int c_tu, .int c_al, .ref a_ro, .ref a_fr, .int c_le, .ref a_bu, .ref a_no, .ref a_te, .ref a_fa, .ref a_li, .int c_wa, .int c_re, .int c_us, .int c_di, .ref a_wy, .ref a_su, .long c_ha]))]) (va_runS (As := [.int p_1, .int 0, .int (c_n - 1)]) (rest := []) ⟨hx, hb, hml, hown, hts⟩ (c_X3_within l D cy p_1 (0 : Int32) (c_n - 1) hw s.heap.size) (va_cwS 3 hts gX3_isPlace_X3_within rfl rfl rfl (by decide +kernel) ⟨Nat.le_of_ble_eq_true rfl, Nat.le_of_ble_eq_true rfl⟩) (j_preS hK hP hD (isC := []) rfl (by decide +kernel)) rfl rfl hl.1 rfl (lv_room (Nat.le_of_ble_eq_true rfl)) dX3_isPlace_8 ⟨Nat.le_of_ble_eq_true rfl, Nat.le_of_ble_eq_true rfl⟩) hP hD hS hA [] [0] rfl rfl (by decide +kernel) (by decide +kernel) (fun u_1 => [(a_this, .inr (3, [.int c_th, .int c_n, .int c_tu, .int c_al, .ref a_ro, .ref a_fr, .int c_le, .ref a_bu, .ref a_no, .ref a_te, .ref a_fa, .ref a_li, .int c_wa, .int c_re, .int c_us, .int c_di, .ref a_wy, .ref a_su, .long c_ha]))]) [0] (by decide +kernel) (fun u => rfl) (fun r_2 u_1 H locs hw hP hD hS => ?_)
  have hP : va_P D vwCl ([(a_this, .inr (3, [.int c_th, .int c_n, .int c_tu, .int c_al, .ref a_ro, .ref a_fr, .int c_le, .ref a_bu, .ref a_no, .ref a_te, .ref a_fa, .ref a_li, .int c_wa, .int c_re, .int c_us, .int c_di, .ref a_wy, .ref a_su, .long c_ha]))]) H := hP
  have hD : va_D A ([(a_this, .inr (3, [.int c_th, .int c_n, .int c_tu, .int c_al, .ref a_ro, .ref a_fr, .int c_le, .ref a_bu, .ref a_no, .ref a_te, .ref a_fa, .ref a_li, .int c_wa, .int c_re, .int c_us, .int c_di, .ref a_wy, .ref a_su, .long c_ha]))]) := hD
  obtain ⟨h_3, hw⟩ := hw
  exact j_zret (fun u => [(a_this, .inr (3, [.int c_th, .int c_n, .int c_tu, .int c_al, .ref a_ro, .ref a_fr, .int c_le, .ref a_bu, .ref a_no, .ref a_te, .ref a_fa, .ref a_li, .int c_wa, .int c_re, .int c_us, .int c_di, .ref a_wy, .ref a_su, .long c_ha]))]) (() : Unit) hx hb hr h_3 hlocks hK hP hD hS hw dX3_isPlace_11
theorem q_X3_isMove_1 : Cond.fieldLink RX3 53 "TwistedRowModel" "turns" "I" ∈ wsX3_isMove := List.mem_of_getElem? (i := 1) rfl
theorem k_X3_isMove_X3 : ∀ w ∈ wsX30, w ∈ wsX3_isMove := my_in _ [6, 7, 8, 9, 10, 11, 12, 13, 14, 15, 16, 17, 18, 19, 20, 21, 22, 23, 24] (by decide +kernel)
def wp_X3_isMove (c_tu : Int32) (p_1 : Int32) (post : Int32 → Unit → Prop) : Prop := (wp_X3_within p_1 (0 : Int32) ((2 * c_tu) - 1) (fun r_2 u_1 => (narrow .boolean (.int r_2) = .int r_2 ∧ (post r_2 ()))))
set_option maxHeartbeats 4000000 in
set_option maxRecDepth 100000 in
theorem c_X3_isMove (l : Launch) (D : va_G) (cy : Nat → ClassId) (a_this : Nat) (a_ro : Nat) (a_fr : Nat) (a_bu : Nat) (a_no : Nat) (a_te : Nat) (a_fa : Nat) (a_li : Nat) (a_wy : Nat) (a_su : Nat) (c_th : Int32) (c_n : Int32) (c_tu : Int32) (c_al : Int32) (c_le : Int32) (c_wa : Int32) (c_re : Int32) (c_us : Int32) (c_di : Int32) (c_ha : Int64) (p_1 : Int32) {post : Int32 → Unit → Prop} (hw : wp_X3_isMove c_tu p_1 post) (sz : Nat) : Met l yX3_isMove wsX3_isMove ({ frames := 1, cells := 0, slots := 0, locals := 22 }) (va_Pc [.ref a_this, .int p_1] (PreW D cy ([(a_this, .inr (3, [.int c_th, .int c_n, .int c_tu, .int c_al, .ref a_ro, .ref a_fr, .int c_le, .ref a_bu, .ref a_no, .ref a_te, .ref a_fa, .ref a_li, .int c_wa, .int c_re, .int c_us, .int c_di, .ref a_wy, .ref a_su, .long c_ha]))]) sz)) (va_Qi post (fun u t => PostW D cy (va_A ([(a_this, .inr (3, [.int c_th, .int c_n, .int c_tu, .int c_al, .ref a_ro, .ref a_fr, .int c_le, .ref a_bu, .ref a_no, .ref a_te, .ref a_fa, .ref a_li, .int c_wa, .int c_re, .int c_us, .int c_di, .ref a_wy, .ref a_su, .long c_ha]))]) sz) ([(a_this, .inr (3, [.int c_th, .int c_n, .int c_tu, .int c_al, .ref a_ro, .ref a_fr, .int c_le, .ref a_bu, .ref a_no, .ref a_te, .ref a_fa, .ref a_li, .int c_wa, .int c_re, .int c_us, .int c_di, .ref a_wy, .ref a_su, .long c_ha]))]) t) (va_A ([(a_this, .inr (3, [.int c_th, .int c_n, .int c_tu, .int c_al, .ref a_ro, .ref a_fr, .int c_le, .ref a_bu, .ref a_no, .ref a_te, .ref a_fa, .ref a_li, .int c_wa, .int c_re, .int c_us, .int c_di, .ref a_wy, .ref a_su, .long c_ha]))]) sz)) 0 0 (va_A ([(a_this, .inr (3, [.int c_th, .int c_n, .int c_tu, .int c_al, .ref a_ro, .ref a_fr, .int c_le, .ref a_bu, .ref a_no, .ref a_te, .ref a_fa, .ref a_li, .int c_wa, .int c_re, .int c_us, .int c_di, .ref a_wy, .ref a_su, .long c_ha]))]) sz) := by
  refine j_met (Qc := fun A => va_Qi post (fun u t => PostW D cy A ([(a_this, .inr (3, [.int c_th, .int c_n, .int c_tu, .int c_al, .ref a_ro, .ref a_fr, .int c_le, .ref a_bu, .ref a_no, .ref a_te, .ref a_fa, .ref a_li, .int c_wa, .int c_re, .int c_us, .int c_di, .ref a_wy, .ref a_su, .long c_ha]))]) t) A) (by decide +kernel) rfl (Nat.le_of_ble_eq_true rfl) ?_
  intro p e s m below meth c A ls C0 hr hlocks hP hD hS hl
  obtain ⟨hx, hb, hml, hown, hts, hK, hA⟩ := id C0
  have hown : s.vm.findClass RX3 = some m.cls := hown
  have hl : lv_has ls 2 [(0, .ref a_this), (1, .int p_1)] := hl
  unfold wp_X3_isMove at hw
  refine lv_iload_n hx hb dX3_isMove_0 rfl (lv_at hl 1 rfl) ?_
  refine lv_iconst (v := 0) hx hb dX3_isMove_1 (by decide) ?_
  refine lv_iconst (v := 2) hx hb dX3_isMove_2 (by decide) ?_
  refine lv_aload_n hx hb dX3_isMove_3 rfl (lv_at hl 0 rfl) ?_
  refine va_get (D := D) (ci := 3) (v := .int c_tu) (C := RX3) (T := TX3) (N := 19) hx hb hts k_X3_isMove_X3 hown hK hP 0 rfl rfl 2 (by decide) (hts _ q_X3_isMove_1) (fun _ h9 => h9) rfl dX3_isMove_4 ?_
  refine lv_imul hx hb dX3_isMove_7 ?_
  refine lv_iconst (v := 1) hx hb dX3_isMove_8 (by decide) ?_
  refine lv_isub hx hb dX3_isMove_9 ?_
  refine j_calli (wr := [(a_this, .inr (3, [.int c_th, .int c_n, .int c_tu, .int c_al, .ref a_ro, .ref a_fr, .int c_le, .ref a_bu, .ref a_no, .ref a_te, .ref a_fa, .ref a_li, .int c_wa, .int c_re, .int c_us, .int c_di, .ref a_wy, .ref a_su, .long c_ha]))]) (va_runS (As := [.int p_1, .int 0, .int ((2 * c_tu) - 1)]) (rest := []) ⟨hx, hb, hml, hown, hts⟩ (c_X3_within l D cy p_1 (0 : Int32) ((2 * c_tu) - 1) hw s.heap.size) (va_cwS 3 hts gX3_isMove_X3_within rfl rfl rfl (by decide +kernel) ⟨Nat.le_of_ble_eq_true rfl, Nat.le_of_ble_eq_true rfl⟩) (j_preS hK hP hD (isC := []) rfl (by decide +kernel)) rfl rfl hl.1 rfl (lv_room (Nat.le_of_ble_eq_true rfl)) dX3_isMove_10 ⟨Nat.le_of_ble_eq_true rfl, Nat.le_of_ble_eq_true rfl⟩) hP hD hS hA [] [0] rfl rfl (by decide +kernel) (by decide +kernel) (fun u_1 => [(a_this, .inr (3, [.int c_th, .int c_n, .int c_tu, .int c_al, .ref a_ro, .ref a_fr, .int c_le, .ref a_bu, .ref a_no, .ref a_te, .ref a_fa, .ref a_li, .int c_wa, .int c_re, .int c_us, .int c_di, .ref a_wy, .ref a_su, .long c_ha]))]) [0] (by decide +kernel) (fun u => rfl) (fun r_2 u_1 H locs hw hP hD hS => ?_)
  have hP : va_P D vwCl ([(a_this, .inr (3, [.int c_th, .int c_n, .int c_tu, .int c_al, .ref a_ro, .ref a_fr, .int c_le, .ref a_bu, .ref a_no, .ref a_te, .ref a_fa, .ref a_li, .int c_wa, .int c_re, .int c_us, .int c_di, .ref a_wy, .ref a_su, .long c_ha]))]) H := hP
  have hD : va_D A ([(a_this, .inr (3, [.int c_th, .int c_n, .int c_tu, .int c_al, .ref a_ro, .ref a_fr, .int c_le, .ref a_bu, .ref a_no, .ref a_te, .ref a_fa, .ref a_li, .int c_wa, .int c_re, .int c_us, .int c_di, .ref a_wy, .ref a_su, .long c_ha]))]) := hD
  obtain ⟨h_3, hw⟩ := hw
  exact j_zret (fun u => [(a_this, .inr (3, [.int c_th, .int c_n, .int c_tu, .int c_al, .ref a_ro, .ref a_fr, .int c_le, .ref a_bu, .ref a_no, .ref a_te, .ref a_fa, .ref a_li, .int c_wa, .int c_re, .int c_us, .int c_di, .ref a_wy, .ref a_su, .long c_ha]))]) (() : Unit) hx hb hr h_3 hlocks hK hP hD hS hw dX3_isMove_13
theorem q_X3_straighten_1 : Cond.fieldLink RX3 13 "TwistedRowModel" "row" "[I" ∈ wsX3_straighten := List.mem_of_getElem? (i := 1) rfl
theorem k_X3_straighten_X3 : ∀ w ∈ wsX30, w ∈ wsX3_straighten := my_in _ [2, 3, 4, 5, 6, 7, 8, 9, 10, 11, 12, 13, 14, 15, 16, 17, 18, 19, 20] (by decide +kernel)
def lp_X3_straighten_2 (K21 : Int32 → (Nat → Int32) → Prop) : Nat → Int32 → (Nat → Int32) → Prop
  | 0, _, _ => False
  | N + 1, v_1, c_ro => ((8 ≤ v_1 → (K21 v_1 c_ro)) ∧ (¬ 8 ≤ v_1 → (vp_in v_1 8 ∧ (lp_X3_straighten_2 K21 N (v_1 + 1) (upd c_ro ((v_1 : Int32).toNatClampNeg) v_1)))))
set_option maxHeartbeats 4000000 in
set_option maxRecDepth 100000 in
theorem l_X3_straighten_2 {p : Program} {l : Launch} {e : Env} {s : State} {m : MethodId} {args : Array Value} {below : List Frame} {meth : Method} {c : Code} {A : Nat → Prop} {D : va_G} {cy : Nat → ClassId} {Q : State → Prop} {a_this : Nat} {a_ro : Nat} {a_fr : Nat} {a_bu : Nat} {a_no : Nat} {a_te : Nat} {a_fa : Nat} {a_li : Nat} {a_wy : Nat} {a_su : Nat} {c_th : Int32} {c_n : Int32} {c_tu : Int32} {c_al : Int32} {c_le : Int32} {c_wa : Int32} {c_re : Int32} {c_us : Int32} {c_di : Int32} {c_ha : Int64} {K21 : Int32 → (Nat → Int32) → Prop} (C0 : Cx p s m args c cX3_straighten yX3_straighten.cls 2 wsX3_straighten D cy A)
    (k21 : ∀ (v_1 : Int32) (c_ro : Nat → Int32) (H : Heap) (locs : List Loc) (ls : Array Slot), K21 v_1 c_ro → va_P D vwCl ([(a_this, .inr (3, [.int c_th, .int c_n, .int c_tu, .int c_al, .ref a_ro, .ref a_fr, .int c_le, .ref a_bu, .ref a_no, .ref a_te, .ref a_fa, .ref a_li, .int c_wa, .int c_re, .int c_us, .int c_di, .ref a_wy, .ref a_su, .long c_ha])), (a_ro, .inl (cy 0, 8, .inl c_ro))]) H → va_D A ([(a_this, .inr (3, [.int c_th, .int c_n, .int c_tu, .int c_al, .ref a_ro, .ref a_fr, .int c_le, .ref a_bu, .ref a_no, .ref a_te, .ref a_fa, .ref a_li, .int c_wa, .int c_re, .int c_us, .int c_di, .ref a_wy, .ref a_su, .long c_ha])), (a_ro, .inl (cy 0, 8, .inl c_ro))]) → va_S A s.heap H locs → lv_has ls 2 [] → W p l e (({ frames := 0, cells := 0, slots := 0, locals := 0 } : Room)) s m args below meth c H locs 0 0 Q (F0 m 21 ls [])) :
    ∀ (N : Nat) (v_1 : Int32) (c_ro : Nat → Int32) (H : Heap) (locs : List Loc) (ls : Array Slot), lp_X3_straighten_2 K21 N v_1 c_ro → va_P D vwCl ([(a_this, .inr (3, [.int c_th, .int c_n, .int c_tu, .int c_al, .ref a_ro, .ref a_fr, .int c_le, .ref a_bu, .ref a_no, .ref a_te, .ref a_fa, .ref a_li, .int c_wa, .int c_re, .int c_us, .int c_di, .ref a_wy, .ref a_su, .long c_ha])), (a_ro, .inl (cy 0, 8, .inl c_ro))]) H → va_D A ([(a_this, .inr (3, [.int c_th, .int c_n, .int c_tu, .int c_al, .ref a_ro, .ref a_fr, .int c_le, .ref a_bu, .ref a_no, .ref a_te, .ref a_fa, .ref a_li, .int c_wa, .int c_re, .int c_us, .int c_di, .ref a_wy, .ref a_su, .long c_ha])), (a_ro, .inl (cy 0, 8, .inl c_ro))]) → va_S A s.heap H locs → lv_has ls 2 [(0, .ref a_this), (1, .int v_1)] → W p l e (({ frames := 0, cells := 0, slots := 0, locals := 0 } : Room)) s m args below meth c H locs 0 0 Q (F0 m 2 ls []) := by
  obtain ⟨hx, hb, hml, hown, hts, hK, hA⟩ := id C0
  intro N
  induction N with
  | zero =>
    intro v_1 c_ro H locs ls hw
    exact False.elim hw
  | succ N ih =>
    intro v_1 c_ro H locs ls hw hP hD hS hl
    rw [lp_X3_straighten_2] at hw
    refine lv_iload_n hx hb dX3_straighten_2 rfl (lv_at hl 1 rfl) ?_
    refine lv_bipush (v := 8) hx hb dX3_straighten_3 (by decide) ?_
    refine lv_icmp_ge (tgt := 21) hx hb dX3_straighten_5 (by decide) (fun c_1 => ?_) (fun c_1 => ?_)
    · replace hw := hw.1 c_1
      exact k21 _ _ _ _ _ hw hP hD hS (lv_sub hl [] rfl)
    · replace hw := hw.2 c_1
      refine lv_aload_n hx hb dX3_straighten_8 rfl (lv_at hl 0 rfl) ?_
      refine va_get (D := D) (ci := 3) (v := .ref a_ro) (C := RX3) (T := TX3) (N := 19) hx hb hts k_X3_straighten_X3 hown hK hP 0 rfl rfl 4 (by decide) (hts _ q_X3_straighten_1) (fun _ h9 => h9) rfl dX3_straighten_9 ?_
      refine lv_iload_n hx hb dX3_straighten_12 rfl (lv_at hl 1 rfl) ?_
      refine lv_iload_n hx hb dX3_straighten_13 rfl (lv_at hl 1 rfl) ?_
      obtain ⟨h_2, hw⟩ := hw
      refine va_iast hx hb hK hP hD hS 1 0 rfl rfl h_2 dX3_straighten_14 (fun H locs hP hD hS => ?_)
      have hP : va_P D vwCl ([(a_this, .inr (3, [.int c_th, .int c_n, .int c_tu, .int c_al, .ref a_ro, .ref a_fr, .int c_le, .ref a_bu, .ref a_no, .ref a_te, .ref a_fa, .ref a_li, .int c_wa, .int c_re, .int c_us, .int c_di, .ref a_wy, .ref a_su, .long c_ha])), (a_ro, .inl (cy 0, 8, .inl (upd c_ro ((v_1 : Int32).toNatClampNeg) v_1)))]) H := hP
      have hD : va_D A ([(a_this, .inr (3, [.int c_th, .int c_n, .int c_tu, .int c_al, .ref a_ro, .ref a_fr, .int c_le, .ref a_bu, .ref a_no, .ref a_te, .ref a_fa, .ref a_li, .int c_wa, .int c_re, .int c_us, .int c_di, .ref a_wy, .ref a_su, .long c_ha])), (a_ro, .inl (cy 0, 8, .inl (upd c_ro ((v_1 : Int32).toNatClampNeg) v_1)))]) := hD
      refine lv_iinc (v := v_1 + 1) (lv' := [(1, .int (v_1 + 1)), (0, .ref a_this)]) hx hb dX3_straighten_15 hl (k := 1) rfl rfl (by decide) rfl (fun ls hl => ?_)
      refine lv_goto (tgt := 2) hx hb dX3_straighten_18 (by decide) ?_
      exact ih _ _ _ _ _ hw hP hD hS (lv_sub hl [1, 0] rfl)
def wp_X3_straighten (c_ro : Nat → Int32) (post : (Nat → Int32) → Prop) : Prop := (∃ N_3 : Nat, lp_X3_straighten_2 (fun (v_4 : Int32) (c_5 : Nat → Int32) => (post c_5)) N_3 0 c_ro)
set_option maxHeartbeats 4000000 in
set_option maxRecDepth 100000 in
theorem c_X3_straighten (l : Launch) (D : va_G) (cy : Nat → ClassId) (a_this : Nat) (a_ro : Nat) (a_fr : Nat) (a_bu : Nat) (a_no : Nat) (a_te : Nat) (a_fa : Nat) (a_li : Nat) (a_wy : Nat) (a_su : Nat) (c_th : Int32) (c_n : Int32) (c_tu : Int32) (c_al : Int32) (c_le : Int32) (c_wa : Int32) (c_re : Int32) (c_us : Int32) (c_di : Int32) (c_ha : Int64) (c_ro : Nat → Int32) {post : (Nat → Int32) → Prop} (hw : wp_X3_straighten c_ro post) (sz : Nat) : Met l yX3_straighten wsX3_straighten ({ frames := 0, cells := 0, slots := 0, locals := 0 }) (va_Pc [.ref a_this] (PreW D cy ([(a_this, .inr (3, [.int c_th, .int c_n, .int c_tu, .int c_al, .ref a_ro, .ref a_fr, .int c_le, .ref a_bu, .ref a_no, .ref a_te, .ref a_fa, .ref a_li, .int c_wa, .int c_re, .int c_us, .int c_di, .ref a_wy, .ref a_su, .long c_ha])), (a_ro, .inl (cy 0, 8, .inl c_ro))]) sz)) (va_Qv post (fun u t => PostW D cy (va_A ([(a_this, .inr (3, [.int c_th, .int c_n, .int c_tu, .int c_al, .ref a_ro, .ref a_fr, .int c_le, .ref a_bu, .ref a_no, .ref a_te, .ref a_fa, .ref a_li, .int c_wa, .int c_re, .int c_us, .int c_di, .ref a_wy, .ref a_su, .long c_ha])), (a_ro, .inl (cy 0, 8, .inl c_ro))]) sz) ([(a_this, .inr (3, [.int c_th, .int c_n, .int c_tu, .int c_al, .ref a_ro, .ref a_fr, .int c_le, .ref a_bu, .ref a_no, .ref a_te, .ref a_fa, .ref a_li, .int c_wa, .int c_re, .int c_us, .int c_di, .ref a_wy, .ref a_su, .long c_ha])), (a_ro, .inl (cy 0, 8, .inl u))]) t) (va_A ([(a_this, .inr (3, [.int c_th, .int c_n, .int c_tu, .int c_al, .ref a_ro, .ref a_fr, .int c_le, .ref a_bu, .ref a_no, .ref a_te, .ref a_fa, .ref a_li, .int c_wa, .int c_re, .int c_us, .int c_di, .ref a_wy, .ref a_su, .long c_ha])), (a_ro, .inl (cy 0, 8, .inl c_ro))]) sz)) 0 0 (va_A ([(a_this, .inr (3, [.int c_th, .int c_n, .int c_tu, .int c_al, .ref a_ro, .ref a_fr, .int c_le, .ref a_bu, .ref a_no, .ref a_te, .ref a_fa, .ref a_li, .int c_wa, .int c_re, .int c_us, .int c_di, .ref a_wy, .ref a_su, .long c_ha])), (a_ro, .inl (cy 0, 8, .inl c_ro))]) sz) := by
  refine j_met (Qc := fun A => va_Qv post (fun u t => PostW D cy A ([(a_this, .inr (3, [.int c_th, .int c_n, .int c_tu, .int c_al, .ref a_ro, .ref a_fr, .int c_le, .ref a_bu, .ref a_no, .ref a_te, .ref a_fa, .ref a_li, .int c_wa, .int c_re, .int c_us, .int c_di, .ref a_wy, .ref a_su, .long c_ha])), (a_ro, .inl (cy 0, 8, .inl u))]) t) A) (by decide +kernel) rfl (Nat.le_of_ble_eq_true rfl) ?_
  intro p e s m below meth c A ls C0 hr hlocks hP hD hS hl
  obtain ⟨hx, hb, hml, hown, hts, hK, hA⟩ := id C0
  have hown : s.vm.findClass RX3 = some m.cls := hown
  have hl : lv_has ls 2 [(0, .ref a_this)] := hl
  unfold wp_X3_straighten at hw
  refine lv_iconst (v := 0) hx hb dX3_straighten_0 (by decide) ?_
  refine lv_istore_n (lv' := [(1, .int 0), (0, .ref a_this)]) hx hb dX3_straighten_1 rfl hl (by decide) rfl (fun ls hl => ?_)
  obtain ⟨N_3, hw⟩ := hw
  refine l_X3_straighten_2 C0 (fun v_4 c_5 H locs ls hw hP hD hS hl => ?_) _ _ _ _ _ _ hw hP hD hS (lv_sub hl [1, 0] rfl)
  exact j_vret (fun u => [(a_this, .inr (3, [.int c_th, .int c_n, .int c_tu, .int c_al, .ref a_ro, .ref a_fr, .int c_le, .ref a_bu, .ref a_no, .ref a_te, .ref a_fa, .ref a_li, .int c_wa, .int c_re, .int c_us, .int c_di, .ref a_wy, .ref a_su, .long c_ha])), (a_ro, .inl (cy 0, 8, .inl u))]) (c_5 : (Nat → Int32)) hx hb hr hlocks hK hP hD hS hw dX3_straighten_21
def lp_X3_factorial_4 (v_1 : Int32) (K19 : Int32 → Int32 → Prop) : Nat → Int32 → Int32 → Prop
  | 0, _, _ => False
  | N + 1, v_2, v_3 => ((v_1 < v_3 → (K19 v_2 v_3)) ∧ (¬ v_1 < v_3 → (∀ x_2 : Int32, x_2 = v_2 * v_3 → (lp_X3_factorial_4 v_1 K19 N x_2 (v_3 + 1)))))
set_option maxHeartbeats 4000000 in
set_option maxRecDepth 100000 in
theorem l_X3_factorial_4 {p : Program} {l : Launch} {e : Env} {s : State} {m : MethodId} {args : Array Value} {below : List Frame} {meth : Method} {c : Code} {A : Nat → Prop} {D : va_G} {cy : Nat → ClassId} {Q : State → Prop} {a_this : Nat} {a_ro : Nat} {a_fr : Nat} {a_bu : Nat} {a_no : Nat} {a_te : Nat} {a_fa : Nat} {a_li : Nat} {a_wy : Nat} {a_su : Nat} {c_th : Int32} {c_n : Int32} {c_tu : Int32} {c_al : Int32} {c_le : Int32} {c_wa : Int32} {c_re : Int32} {c_us : Int32} {c_di : Int32} {c_ha : Int64} {v_1 : Int32} {K19 : Int32 → Int32 → Prop} (C0 : Cx p s m args c cX3_factorial yX3_factorial.cls 4 wsX3_factorial D cy A)
    (k19 : ∀ (v_2 : Int32) (v_3 : Int32) (H : Heap) (locs : List Loc) (ls : Array Slot), K19 v_2 v_3 → va_P D vwCl ([(a_this, .inr (3, [.int c_th, .int c_n, .int c_tu, .int c_al, .ref a_ro, .ref a_fr, .int c_le, .ref a_bu, .ref a_no, .ref a_te, .ref a_fa, .ref a_li, .int c_wa, .int c_re, .int c_us, .int c_di, .ref a_wy, .ref a_su, .long c_ha]))]) H → va_D A ([(a_this, .inr (3, [.int c_th, .int c_n, .int c_tu, .int c_al, .ref a_ro, .ref a_fr, .int c_le, .ref a_bu, .ref a_no, .ref a_te, .ref a_fa, .ref a_li, .int c_wa, .int c_re, .int c_us, .int c_di, .ref a_wy, .ref a_su, .long c_ha]))]) → va_S A s.heap H locs → lv_has ls 4 [(2, .int v_2)] → W p l e (({ frames := 0, cells := 0, slots := 0, locals := 0 } : Room)) s m args below meth c H locs 0 0 Q (F0 m 19 ls [])) :
    ∀ (N : Nat) (v_2 : Int32) (v_3 : Int32) (H : Heap) (locs : List Loc) (ls : Array Slot), lp_X3_factorial_4 v_1 K19 N v_2 v_3 → va_P D vwCl ([(a_this, .inr (3, [.int c_th, .int c_n, .int c_tu, .int c_al, .ref a_ro, .ref a_fr, .int c_le, .ref a_bu, .ref a_no, .ref a_te, .ref a_fa, .ref a_li, .int c_wa, .int c_re, .int c_us, .int c_di, .ref a_wy, .ref a_su, .long c_ha]))]) H → va_D A ([(a_this, .inr (3, [.int c_th, .int c_n, .int c_tu, .int c_al, .ref a_ro, .ref a_fr, .int c_le, .ref a_bu, .ref a_no, .ref a_te, .ref a_fa, .ref a_li, .int c_wa, .int c_re, .int c_us, .int c_di, .ref a_wy, .ref a_su, .long c_ha]))]) → va_S A s.heap H locs → lv_has ls 4 [(1, .int v_1), (2, .int v_2), (3, .int v_3)] → W p l e (({ frames := 0, cells := 0, slots := 0, locals := 0 } : Room)) s m args below meth c H locs 0 0 Q (F0 m 4 ls []) := by
  obtain ⟨hx, hb, hml, hown, hts, hK, hA⟩ := id C0
  intro N
  induction N with
  | zero =>
    intro v_2 v_3 H locs ls hw
    exact False.elim hw
  | succ N ih =>
    intro v_2 v_3 H locs ls hw hP hD hS hl
    rw [lp_X3_factorial_4] at hw
    refine lv_iload_n hx hb dX3_factorial_4 rfl (lv_at hl 2 rfl) ?_
    refine lv_iload_n hx hb dX3_factorial_5 rfl (lv_at hl 0 rfl) ?_
    refine lv_icmp_gt (tgt := 19) hx hb dX3_factorial_6 (by decide) (fun c_1 => ?_) (fun c_1 => ?_)
    · replace hw := hw.1 c_1
      exact k19 _ _ _ _ _ hw hP hD hS (lv_sub hl [1] rfl)
    · replace hw := hw.2 c_1
      refine lv_iload_n hx hb dX3_factorial_9 rfl (lv_at hl 1 rfl) ?_
      refine lv_iload_n hx hb dX3_factorial_10 rfl (lv_at hl 2 rfl) ?_
      refine lv_imul hx hb dX3_factorial_11 ?_
      refine lv_topi (fun x_2 ex_2 => ?_)
      replace hw := hw x_2 ex_2
      refine lv_istore_n (lv' := [(2, .int x_2), (1, .int v_1), (3, .int v_3)]) hx hb dX3_factorial_12 rfl hl (by decide) rfl (fun ls hl => ?_)
      refine lv_iinc (v := v_3 + 1) (lv' := [(3, .int (v_3 + 1)), (2, .int x_2), (1, .int v_1)]) hx hb dX3_factorial_13 hl (k := 2) rfl rfl (by decide) rfl (fun ls hl => ?_)
      refine lv_goto (tgt := 4) hx hb dX3_factorial_16 (by decide) ?_
      exact ih _ _ _ _ _ hw hP hD hS (lv_sub hl [2, 1, 0] rfl)
def wp_X3_factorial (p_1 : Int32) (post : Int32 → Unit → Prop) : Prop := (∃ N_3 : Nat, lp_X3_factorial_4 p_1 (fun (v_4 : Int32) (v_5 : Int32) => (post v_4 ())) N_3 1 2)
set_option maxHeartbeats 4000000 in
set_option maxRecDepth 100000 in
theorem c_X3_factorial (l : Launch) (D : va_G) (cy : Nat → ClassId) (a_this : Nat) (a_ro : Nat) (a_fr : Nat) (a_bu : Nat) (a_no : Nat) (a_te : Nat) (a_fa : Nat) (a_li : Nat) (a_wy : Nat) (a_su : Nat) (c_th : Int32) (c_n : Int32) (c_tu : Int32) (c_al : Int32) (c_le : Int32) (c_wa : Int32) (c_re : Int32) (c_us : Int32) (c_di : Int32) (c_ha : Int64) (p_1 : Int32) {post : Int32 → Unit → Prop} (hw : wp_X3_factorial p_1 post) (sz : Nat) : Met l yX3_factorial wsX3_factorial ({ frames := 0, cells := 0, slots := 0, locals := 0 }) (va_Pc [.ref a_this, .int p_1] (PreW D cy ([(a_this, .inr (3, [.int c_th, .int c_n, .int c_tu, .int c_al, .ref a_ro, .ref a_fr, .int c_le, .ref a_bu, .ref a_no, .ref a_te, .ref a_fa, .ref a_li, .int c_wa, .int c_re, .int c_us, .int c_di, .ref a_wy, .ref a_su, .long c_ha]))]) sz)) (va_Qi post (fun u t => PostW D cy (va_A ([(a_this, .inr (3, [.int c_th, .int c_n, .int c_tu, .int c_al, .ref a_ro, .ref a_fr, .int c_le, .ref a_bu, .ref a_no, .ref a_te, .ref a_fa, .ref a_li, .int c_wa, .int c_re, .int c_us, .int c_di, .ref a_wy, .ref a_su, .long c_ha]))]) sz) ([(a_this, .inr (3, [.int c_th, .int c_n, .int c_tu, .int c_al, .ref a_ro, .ref a_fr, .int c_le, .ref a_bu, .ref a_no, .ref a_te, .ref a_fa, .ref a_li, .int c_wa, .int c_re, .int c_us, .int c_di, .ref a_wy, .ref a_su, .long c_ha]))]) t) (va_A ([(a_this, .inr (3, [.int c_th, .int c_n, .int c_tu, .int c_al, .ref a_ro, .ref a_fr, .int c_le, .ref a_bu, .ref a_no, .ref a_te, .ref a_fa, .ref a_li, .int c_wa, .int c_re, .int c_us, .int c_di, .ref a_wy, .ref a_su, .long c_ha]))]) sz)) 0 0 (va_A ([(a_this, .inr (3, [.int c_th, .int c_n, .int c_tu, .int c_al, .ref a_ro, .ref a_fr, .int c_le, .ref a_bu, .ref a_no, .ref a_te, .ref a_fa, .ref a_li, .int c_wa, .int c_re, .int c_us, .int c_di, .ref a_wy, .ref a_su, .long c_ha]))]) sz) := by
  refine j_met (Qc := fun A => va_Qi post (fun u t => PostW D cy A ([(a_this, .inr (3, [.int c_th, .int c_n, .int c_tu, .int c_al, .ref a_ro, .ref a_fr, .int c_le, .ref a_bu, .ref a_no, .ref a_te, .ref a_fa, .ref a_li, .int c_wa, .int c_re, .int c_us, .int c_di, .ref a_wy, .ref a_su, .long c_ha]))]) t) A) (by decide +kernel) rfl (Nat.le_of_ble_eq_true rfl) ?_
  intro p e s m below meth c A ls C0 hr hlocks hP hD hS hl
  obtain ⟨hx, hb, hml, hown, hts, hK, hA⟩ := id C0
  have hown : s.vm.findClass RX3 = some m.cls := hown
  have hl : lv_has ls 4 [(0, .ref a_this), (1, .int p_1)] := hl
  unfold wp_X3_factorial at hw
  refine lv_iconst (v := 1) hx hb dX3_factorial_0 (by decide) ?_
  refine lv_istore_n (lv' := [(2, .int 1), (0, .ref a_this), (1, .int p_1)]) hx hb dX3_factorial_1 rfl hl (by decide) rfl (fun ls hl => ?_)
  refine lv_iconst (v := 2) hx hb dX3_factorial_2 (by decide) ?_
  refine lv_istore_n (lv' := [(3, .int 2), (2, .int 1), (0, .ref a_this), (1, .int p_1)]) hx hb dX3_factorial_3 rfl hl (by decide) rfl (fun ls hl => ?_)
  obtain ⟨N_3, hw⟩ := hw
  refine l_X3_factorial_4 C0 (fun v_4 v_5 H locs ls hw hP hD hS hl => ?_) _ _ _ _ _ _ hw hP hD hS (lv_sub hl [3, 1, 0] rfl)
  refine lv_iload_n hx hb dX3_factorial_19 rfl (lv_at hl 0 rfl) ?_
  exact j_iret (fun u => [(a_this, .inr (3, [.int c_th, .int c_n, .int c_tu, .int c_al, .ref a_ro, .ref a_fr, .int c_le, .ref a_bu, .ref a_no, .ref a_te, .ref a_fa, .ref a_li, .int c_wa, .int c_re, .int c_us, .int c_di, .ref a_wy, .ref a_su, .long c_ha]))]) (() : Unit) hx hb hr hlocks hK hP hD hS hw dX3_factorial_20
theorem q_X3_numberOf_1 : Cond.fieldLink RX3 7 "TwistedRowModel" "n" "I" ∈ wsX3_numberOf := List.mem_of_getElem? (i := 1) rfl
theorem k_X3_numberOf_X3 : ∀ w ∈ wsX30, w ∈ wsX3_numberOf := my_in _ [2, 3, 4, 5, 6, 7, 8, 9, 10, 11, 12, 13, 14, 15, 16, 17, 18, 19, 20] (by decide +kernel)
def lp_X3_numberOf_25 (c_a1 : Nat → Int32) (v_3 : Int32) (v_4 : Int32) (K51 : Int32 → Int32 → Prop) : Nat → Int32 → Int32 → Prop
  | 0, _, _ => False
  | N + 1, v_5, v_6 => (vp_in v_4 8 ∧ (((c_a1 (v_4 : Int32).toNatClampNeg) ≤ v_6 → (K51 v_5 v_6)) ∧ (¬ (c_a1 (v_4 : Int32).toNatClampNeg) ≤ v_6 → (∀ x_6 : Int32, x_6 = v_5 - ((v_3 >>> (v_6 &&& 31)) &&& 1) → (lp_X3_numberOf_25 c_a1 v_3 v_4 K51 N x_6 (v_6 + 1))))))
set_option maxHeartbeats 4000000 in
set_option maxRecDepth 100000 in
theorem l_X3_numberOf_25 {p : Program} {l : Launch} {e : Env} {s : State} {m : MethodId} {args : Array Value} {below : List Frame} {meth : Method} {c : Code} {A : Nat → Prop} {D : va_G} {cy : Nat → ClassId} {Q : State → Prop} {a_this : Nat} {a_ro : Nat} {a_fr : Nat} {a_bu : Nat} {a_no : Nat} {a_te : Nat} {a_fa : Nat} {a_li : Nat} {a_wy : Nat} {a_su : Nat} {a_a1 : Nat} {c_th : Int32} {c_n : Int32} {c_tu : Int32} {c_al : Int32} {c_le : Int32} {c_wa : Int32} {c_re : Int32} {c_us : Int32} {c_di : Int32} {c_ha : Int64} {c_a1 : Nat → Int32} {v_2 : Int32} {v_3 : Int32} {v_4 : Int32} {K51 : Int32 → Int32 → Prop} (C0 : Cx p s m args c cX3_numberOf yX3_numberOf.cls 7 wsX3_numberOf D cy A)
    (k51 : ∀ (v_5 : Int32) (v_6 : Int32) (H : Heap) (locs : List Loc) (ls : Array Slot), K51 v_5 v_6 → va_P D vwCl ([(a_this, .inr (3, [.int c_th, .int c_n, .int c_tu, .int c_al, .ref a_ro, .ref a_fr, .int c_le, .ref a_bu, .ref a_no, .ref a_te, .ref a_fa, .ref a_li, .int c_wa, .int c_re, .int c_us, .int c_di, .ref a_wy, .ref a_su, .long c_ha])), (a_a1, .inl (cy 0, 8, .inl c_a1))]) H → va_D A ([(a_this, .inr (3, [.int c_th, .int c_n, .int c_tu, .int c_al, .ref a_ro, .ref a_fr, .int c_le, .ref a_bu, .ref a_no, .ref a_te, .ref a_fa, .ref a_li, .int c_wa, .int c_re, .int c_us, .int c_di, .ref a_wy, .ref a_su, .long c_ha])), (a_a1, .inl (cy 0, 8, .inl c_a1))]) → va_S A s.heap H locs → lv_has ls 7 [(0, .ref a_this), (1, .ref a_a1), (2, .int v_2), (3, .int v_3), (4, .int v_4), (5, .int v_5)] → W p l e (({ frames := 0, cells := 0, slots := 0, locals := 0 } : Room)) s m args below meth c H locs 0 0 Q (F0 m 51 ls [])) :
    ∀ (N : Nat) (v_5 : Int32) (v_6 : Int32) (H : Heap) (locs : List Loc) (ls : Array Slot), lp_X3_numberOf_25 c_a1 v_3 v_4 K51 N v_5 v_6 → va_P D vwCl ([(a_this, .inr (3, [.int c_th, .int c_n, .int c_tu, .int c_al, .ref a_ro, .ref a_fr, .int c_le, .ref a_bu, .ref a_no, .ref a_te, .ref a_fa, .ref a_li, .int c_wa, .int c_re, .int c_us, .int c_di, .ref a_wy, .ref a_su, .long c_ha])), (a_a1, .inl (cy 0, 8, .inl c_a1))]) H → va_D A ([(a_this, .inr (3, [.int c_th, .int c_n, .int c_tu, .int c_al, .ref a_ro, .ref a_fr, .int c_le, .ref a_bu, .ref a_no, .ref a_te, .ref a_fa, .ref a_li, .int c_wa, .int c_re, .int c_us, .int c_di, .ref a_wy, .ref a_su, .long c_ha])), (a_a1, .inl (cy 0, 8, .inl c_a1))]) → va_S A s.heap H locs → lv_has ls 7 [(0, .ref a_this), (1, .ref a_a1), (2, .int v_2), (3, .int v_3), (4, .int v_4), (5, .int v_5), (6, .int v_6)] → W p l e (({ frames := 0, cells := 0, slots := 0, locals := 0 } : Room)) s m args below meth c H locs 0 0 Q (F0 m 25 ls []) := by
  obtain ⟨hx, hb, hml, hown, hts, hK, hA⟩ := id C0
  intro N
  induction N with
  | zero =>
    intro v_5 v_6 H locs ls hw
    exact False.elim hw
  | succ N ih =>
    intro v_5 v_6 H locs ls hw hP hD hS hl
    rw [lp_X3_numberOf_25] at hw
    refine lv_iload hx hb dX3_numberOf_25 (lv_at hl 6 rfl) ?_
    refine lv_aload_n hx hb dX3_numberOf_27 rfl (lv_at hl 1 rfl) ?_
    refine lv_iload hx hb dX3_numberOf_28 (lv_at hl 4 rfl) ?_
    obtain ⟨h_4, hw⟩ := hw
    refine va_iald hx hb hK hP 1 0 rfl rfl h_4 dX3_numberOf_30 ?_
    refine lv_icmp_ge (tgt := 51) hx hb dX3_numberOf_31 (by decide) (fun c_5 => ?_) (fun c_5 => ?_)
    · replace hw := hw.1 c_5
      exact k51 _ _ _ _ _ hw hP hD hS (lv_sub hl [0, 1, 2, 3, 4, 5] rfl)
    · replace hw := hw.2 c_5
      refine lv_iload hx hb dX3_numberOf_34 (lv_at hl 5 rfl) ?_
      refine lv_iload_n hx hb dX3_numberOf_36 rfl (lv_at hl 3 rfl) ?_
      refine lv_iload hx hb dX3_numberOf_37 (lv_at hl 6 rfl) ?_
      refine lv_ishr hx hb dX3_numberOf_39 ?_
      refine lv_iconst (v := 1) hx hb dX3_numberOf_40 (by decide) ?_
      refine lv_iand hx hb dX3_numberOf_41 ?_
      refine lv_isub hx hb dX3_numberOf_42 ?_
      refine lv_topi (fun x_6 ex_6 => ?_)
      replace hw := hw x_6 ex_6
      refine lv_istore (lv' := [(5, .int x_6), (0, .ref a_this), (1, .ref a_a1), (2, .int v_2), (3, .int v_3), (4, .int v_4), (6, .int v_6)]) hx hb dX3_numberOf_43 hl (by decide) rfl (fun ls hl => ?_)
      refine lv_iinc (v := v_6 + 1) (lv' := [(6, .int (v_6 + 1)), (5, .int x_6), (0, .ref a_this), (1, .ref a_a1), (2, .int v_2), (3, .int v_3), (4, .int v_4)]) hx hb dX3_numberOf_45 hl (k := 6) rfl rfl (by decide) rfl (fun ls hl => ?_)
      refine lv_goto (tgt := 25) hx hb dX3_numberOf_48 (by decide) ?_
      exact ih _ _ _ _ _ hw hP hD hS (lv_sub hl [2, 3, 4, 5, 6, 1, 0] rfl)
def lp_X3_numberOf_7 (c_a1 : Nat → Int32) (c_n : Int32) (K79 : Int32 → Int32 → Int32 → Prop) : Nat → Int32 → Int32 → Int32 → Prop
  | 0, _, _, _ => False
  | N + 1, v_2, v_3, v_4 => ((c_n ≤ v_4 → (K79 v_2 v_3 v_4)) ∧ (¬ c_n ≤ v_4 → (vp_in v_4 8 ∧ (∀ x_3 : Int32, x_3 = c_a1 (v_4 : Int32).toNatClampNeg → (∃ N_7 : Nat, lp_X3_numberOf_25 c_a1 v_3 v_4 (fun (v_8 : Int32) (v_9 : Int32) => (∀ x_10 : Int32, x_10 = (v_2 * (c_n - v_4)) + v_8 → (vp_in v_4 8 ∧ (∀ x_12 : Int32, x_12 = v_3 ||| (1 <<< ((c_a1 (v_4 : Int32).toNatClampNeg) &&& 31)) → (lp_X3_numberOf_7 c_a1 c_n K79 N x_10 x_12 (v_4 + 1)))))) N_7 x_3 0)))))
set_option maxHeartbeats 4000000 in
set_option maxRecDepth 100000 in
theorem l_X3_numberOf_7 {p : Program} {l : Launch} {e : Env} {s : State} {m : MethodId} {args : Array Value} {below : List Frame} {meth : Method} {c : Code} {A : Nat → Prop} {D : va_G} {cy : Nat → ClassId} {Q : State → Prop} {a_this : Nat} {a_ro : Nat} {a_fr : Nat} {a_bu : Nat} {a_no : Nat} {a_te : Nat} {a_fa : Nat} {a_li : Nat} {a_wy : Nat} {a_su : Nat} {a_a1 : Nat} {c_th : Int32} {c_n : Int32} {c_tu : Int32} {c_al : Int32} {c_le : Int32} {c_wa : Int32} {c_re : Int32} {c_us : Int32} {c_di : Int32} {c_ha : Int64} {c_a1 : Nat → Int32} {K79 : Int32 → Int32 → Int32 → Prop} (C0 : Cx p s m args c cX3_numberOf yX3_numberOf.cls 7 wsX3_numberOf D cy A)
    (k79 : ∀ (v_2 : Int32) (v_3 : Int32) (v_4 : Int32) (H : Heap) (locs : List Loc) (ls : Array Slot), K79 v_2 v_3 v_4 → va_P D vwCl ([(a_this, .inr (3, [.int c_th, .int c_n, .int c_tu, .int c_al, .ref a_ro, .ref a_fr, .int c_le, .ref a_bu, .ref a_no, .ref a_te, .ref a_fa, .ref a_li, .int c_wa, .int c_re, .int c_us, .int c_di, .ref a_wy, .ref a_su, .long c_ha])), (a_a1, .inl (cy 0, 8, .inl c_a1))]) H → va_D A ([(a_this, .inr (3, [.int c_th, .int c_n, .int c_tu, .int c_al, .ref a_ro, .ref a_fr, .int c_le, .ref a_bu, .ref a_no, .ref a_te, .ref a_fa, .ref a_li, .int c_wa, .int c_re, .int c_us, .int c_di, .ref a_wy, .ref a_su, .long c_ha])), (a_a1, .inl (cy 0, 8, .inl c_a1))]) → va_S A s.heap H locs → lv_has ls 7 [(2, .int v_2)] → W p l e (({ frames := 0, cells := 0, slots := 0, locals := 0 } : Room)) s m args below meth c H locs 0 0 Q (F0 m 79 ls [])) :
    ∀ (N : Nat) (v_2 : Int32) (v_3 : Int32) (v_4 : Int32) (H : Heap) (locs : List Loc) (ls : Array Slot), lp_X3_numberOf_7 c_a1 c_n K79 N v_2 v_3 v_4 → va_P D vwCl ([(a_this, .inr (3, [.int c_th, .int c_n, .int c_tu, .int c_al, .ref a_ro, .ref a_fr, .int c_le, .ref a_bu, .ref a_no, .ref a_te, .ref a_fa, .ref a_li, .int c_wa, .int c_re, .int c_us, .int c_di, .ref a_wy, .ref a_su, .long c_ha])), (a_a1, .inl (cy 0, 8, .inl c_a1))]) H → va_D A ([(a_this, .inr (3, [.int c_th, .int c_n, .int c_tu, .int c_al, .ref a_ro, .ref a_fr, .int c_le, .ref a_bu, .ref a_no, .ref a_te, .ref a_fa, .ref a_li, .int c_wa, .int c_re, .int c_us, .int c_di, .ref a_wy, .ref a_su, .long c_ha])), (a_a1, .inl (cy 0, 8, .inl c_a1))]) → va_S A s.heap H locs → lv_has ls 7 [(0, .ref a_this), (1, .ref a_a1), (2, .int v_2), (3, .int v_3), (4, .int v_4)] → W p l e (({ frames := 0, cells := 0, slots := 0, locals := 0 } : Room)) s m args below meth c H locs 0 0 Q (F0 m 7 ls []) := by
  obtain ⟨hx, hb, hml, hown, hts, hK, hA⟩ := id C0
  intro N
  induction N with
  | zero =>
    intro v_2 v_3 v_4 H locs ls hw
    exact False.elim hw
  | succ N ih =>
    intro v_2 v_3 v_4 H locs ls hw hP hD hS hl
    rw [lp_X3_numberOf_7] at hw
    refine lv_iload hx hb dX3_numberOf_7 (lv_at hl 4 rfl) ?_
    refine lv_aload_n hx hb dX3_numberOf_9 rfl (lv_at hl 0 rfl) ?_
    refine va_get (D := D) (ci := 3) (v := .int c_n) (C := RX3) (T := TX3) (N := 19) hx hb hts k_X3_numberOf_X3 hown hK hP 0 rfl rfl 1 (by decide) (hts _ q_X3_numberOf_1) (fun _ h9 => h9) rfl dX3_numberOf_10 ?_
    refine lv_icmp_ge (tgt := 79) hx hb dX3_numberOf_13 (by decide) (fun c_1 => ?_) (fun c_1 => ?_)
    · replace hw := hw.1 c_1
      exact k79 _ _ _ _ _ _ hw hP hD hS (lv_sub hl [2] rfl)
    · replace hw := hw.2 c_1
      refine lv_aload_n hx hb dX3_numberOf_16 rfl (lv_at hl 1 rfl) ?_
      refine lv_iload hx hb dX3_numberOf_17 (lv_at hl 4 rfl) ?_
      obtain ⟨h_2, hw⟩ := hw
      refine va_iald hx hb hK hP 1 0 rfl rfl h_2 dX3_numberOf_19 ?_
      refine lv_topi (fun x_3 ex_3 => ?_)
      replace hw := hw x_3 ex_3
      refine lv_istore (lv' := [(5, .int x_3), (0, .ref a_this), (1, .ref a_a1), (2, .int v_2), (3, .int v_3), (4, .int v_4)]) hx hb dX3_numberOf_20 hl (by decide) rfl (fun ls hl => ?_)
      refine lv_iconst (v := 0) hx hb dX3_numberOf_22 (by decide) ?_
      refine lv_istore (lv' := [(6, .int 0), (5, .int x_3), (0, .ref a_this), (1, .ref a_a1), (2, .int v_2), (3, .int v_3), (4, .int v_4)]) hx hb dX3_numberOf_23 hl (by decide) rfl (fun ls hl => ?_)
      obtain ⟨N_7, hw⟩ := hw
      refine l_X3_numberOf_25 C0 (fun v_8 v_9 H locs ls hw hP hD hS hl => ?_) _ _ _ _ _ _ hw hP hD hS (lv_sub hl [2, 3, 4, 5, 6, 1, 0] rfl)
      refine lv_iload_n hx hb dX3_numberOf_51 rfl (lv_at hl 2 rfl) ?_
      refine lv_aload_n hx hb dX3_numberOf_52 rfl (lv_at hl 0 rfl) ?_
      refine va_get (D := D) (ci := 3) (v := .int c_n) (C := RX3) (T := TX3) (N := 19) hx hb hts k_X3_numberOf_X3 hown hK hP 0 rfl rfl 1 (by decide) (hts _ q_X3_numberOf_1) (fun _ h9 => h9) rfl dX3_numberOf_53 ?_
      refine lv_iload hx hb dX3_numberOf_56 (lv_at hl 4 rfl) ?_
      refine lv_isub hx hb dX3_numberOf_58 ?_
      refine lv_imul hx hb dX3_numberOf_59 ?_
      refine lv_iload hx hb dX3_numberOf_60 (lv_at hl 5 rfl) ?_
      refine lv_iadd hx hb dX3_numberOf_62 ?_
      refine lv_topi (fun x_10 ex_10 => ?_)
      replace hw := hw x_10 ex_10
      refine lv_istore_n (lv' := [(2, .int x_10), (0, .ref a_this), (1, .ref a_a1), (3, .int v_3), (4, .int v_4), (5, .int v_8)]) hx hb dX3_numberOf_63 rfl hl (by decide) rfl (fun ls hl => ?_)
      refine lv_iload_n hx hb dX3_numberOf_64 rfl (lv_at hl 3 rfl) ?_
      refine lv_iconst (v := 1) hx hb dX3_numberOf_65 (by decide) ?_
      refine lv_aload_n hx hb dX3_numberOf_66 rfl (lv_at hl 2 rfl) ?_
      refine lv_iload hx hb dX3_numberOf_67 (lv_at hl 4 rfl) ?_
      obtain ⟨h_11, hw⟩ := hw
      refine va_iald hx hb hK hP 1 0 rfl rfl h_11 dX3_numberOf_69 ?_
      refine lv_ishl hx hb dX3_numberOf_70 ?_
      refine lv_ior hx hb dX3_numberOf_71 ?_
      refine lv_topi (fun x_12 ex_12 => ?_)
      replace hw := hw x_12 ex_12
      refine lv_istore_n (lv' := [(3, .int x_12), (2, .int x_10), (0, .ref a_this), (1, .ref a_a1), (4, .int v_4), (5, .int v_8)]) hx hb dX3_numberOf_72 rfl hl (by decide) rfl (fun ls hl => ?_)
      refine lv_iinc (v := v_4 + 1) (lv' := [(4, .int (v_4 + 1)), (3, .int x_12), (2, .int x_10), (0, .ref a_this), (1, .ref a_a1), (5, .int v_8)]) hx hb dX3_numberOf_73 hl (k := 4) rfl rfl (by decide) rfl (fun ls hl => ?_)
      refine lv_goto (tgt := 7) hx hb dX3_numberOf_76 (by decide) ?_
      exact ih _ _ _ _ _ _ hw hP hD hS (lv_sub hl [3, 4, 2, 1, 0] rfl)
def wp_X3_numberOf (c_n : Int32) (c_a1 : Nat → Int32) (post : Int32 → Unit → Prop) : Prop := (∃ N_13 : Nat, lp_X3_numberOf_7 c_a1 c_n (fun (v_14 : Int32) (v_15 : Int32) (v_16 : Int32) => (post v_14 ())) N_13 0 0 0)
set_option maxHeartbeats 4000000 in
set_option maxRecDepth 100000 in
theorem c_X3_numberOf (l : Launch) (D : va_G) (cy : Nat → ClassId) (a_this : Nat) (a_ro : Nat) (a_fr : Nat) (a_bu : Nat) (a_no : Nat) (a_te : Nat) (a_fa : Nat) (a_li : Nat) (a_wy : Nat) (a_su : Nat) (a_a1 : Nat) (c_th : Int32) (c_n : Int32) (c_tu : Int32) (c_al : Int32) (c_le : Int32) (c_wa : Int32) (c_re : Int32) (c_us : Int32) (c_di : Int32) (c_ha : Int64) (c_a1 : Nat → Int32) {post : Int32 → Unit → Prop} (hw : wp_X3_numberOf c_n c_a1 post) (sz : Nat) : Met l yX3_numberOf wsX3_numberOf ({ frames := 0, cells := 0, slots := 0, locals := 0 }) (va_Pc [.ref a_this, .ref a_a1] (PreW D cy ([(a_this, .inr (3, [.int c_th, .int c_n, .int c_tu, .int c_al, .ref a_ro, .ref a_fr, .int c_le, .ref a_bu, .ref a_no, .ref a_te, .ref a_fa, .ref a_li, .int c_wa, .int c_re, .int c_us, .int c_di, .ref a_wy, .ref a_su, .long c_ha])), (a_a1, .inl (cy 0, 8, .inl c_a1))]) sz)) (va_Qi post (fun u t => PostW D cy (va_A ([(a_this, .inr (3, [.int c_th, .int c_n, .int c_tu, .int c_al, .ref a_ro, .ref a_fr, .int c_le, .ref a_bu, .ref a_no, .ref a_te, .ref a_fa, .ref a_li, .int c_wa, .int c_re, .int c_us, .int c_di, .ref a_wy, .ref a_su, .long c_ha])), (a_a1, .inl (cy 0, 8, .inl c_a1))]) sz) ([(a_this, .inr (3, [.int c_th, .int c_n, .int c_tu, .int c_al, .ref a_ro, .ref a_fr, .int c_le, .ref a_bu, .ref a_no, .ref a_te, .ref a_fa, .ref a_li, .int c_wa, .int c_re, .int c_us, .int c_di, .ref a_wy, .ref a_su, .long c_ha])), (a_a1, .inl (cy 0, 8, .inl c_a1))]) t) (va_A ([(a_this, .inr (3, [.int c_th, .int c_n, .int c_tu, .int c_al, .ref a_ro, .ref a_fr, .int c_le, .ref a_bu, .ref a_no, .ref a_te, .ref a_fa, .ref a_li, .int c_wa, .int c_re, .int c_us, .int c_di, .ref a_wy, .ref a_su, .long c_ha])), (a_a1, .inl (cy 0, 8, .inl c_a1))]) sz)) 0 0 (va_A ([(a_this, .inr (3, [.int c_th, .int c_n, .int c_tu, .int c_al, .ref a_ro, .ref a_fr, .int c_le, .ref a_bu, .ref a_no, .ref a_te, .ref a_fa, .ref a_li, .int c_wa, .int c_re, .int c_us, .int c_di, .ref a_wy, .ref a_su, .long c_ha])), (a_a1, .inl (cy 0, 8, .inl c_a1))]) sz) := by
  refine j_met (Qc := fun A => va_Qi post (fun u t => PostW D cy A ([(a_this, .inr (3, [.int c_th, .int c_n, .int c_tu, .int c_al, .ref a_ro, .ref a_fr, .int c_le, .ref a_bu, .ref a_no, .ref a_te, .ref a_fa, .ref a_li, .int c_wa, .int c_re, .int c_us, .int c_di, .ref a_wy, .ref a_su, .long c_ha])), (a_a1, .inl (cy 0, 8, .inl c_a1))]) t) A) (by decide +kernel) rfl (Nat.le_of_ble_eq_true rfl) ?_
  intro p e s m below meth c A ls C0 hr hlocks hP hD hS hl
  obtain ⟨hx, hb, hml, hown, hts, hK, hA⟩ := id C0
  have hown : s.vm.findClass RX3 = some m.cls := hown
  have hl : lv_has ls 7 [(0, .ref a_this), (1, .ref a_a1)] := hl
  unfold wp_X3_numberOf at hw
  refine lv_iconst (v := 0) hx hb dX3_numberOf_0 (by decide) ?_
  refine lv_istore_n (lv' := [(2, .int 0), (0, .ref a_this), (1, .ref a_a1)]) hx hb dX3_numberOf_1 rfl hl (by decide) rfl (fun ls hl => ?_)
  refine lv_iconst (v := 0) hx hb dX3_numberOf_2 (by decide) ?_
  refine lv_istore_n (lv' := [(3, .int 0), (2, .int 0), (0, .ref a_this), (1, .ref a_a1)]) hx hb dX3_numberOf_3 rfl hl (by decide) rfl (fun ls hl => ?_)
  refine lv_iconst (v := 0) hx hb dX3_numberOf_4 (by decide) ?_
  refine lv_istore (lv' := [(4, .int 0), (3, .int 0), (2, .int 0), (0, .ref a_this), (1, .ref a_a1)]) hx hb dX3_numberOf_5 hl (by decide) rfl (fun ls hl => ?_)
  obtain ⟨N_13, hw⟩ := hw
  refine l_X3_numberOf_7 C0 (fun v_14 v_15 v_16 H locs ls hw hP hD hS hl => ?_) _ _ _ _ _ _ _ hw hP hD hS (lv_sub hl [3, 4, 2, 1, 0] rfl)
  refine lv_iload_n hx hb dX3_numberOf_79 rfl (lv_at hl 0 rfl) ?_
  exact j_iret (fun u => [(a_this, .inr (3, [.int c_th, .int c_n, .int c_tu, .int c_al, .ref a_ro, .ref a_fr, .int c_le, .ref a_bu, .ref a_no, .ref a_te, .ref a_fa, .ref a_li, .int c_wa, .int c_re, .int c_us, .int c_di, .ref a_wy, .ref a_su, .long c_ha])), (a_a1, .inl (cy 0, 8, .inl c_a1))]) (() : Unit) hx hb hr hlocks hK hP hD hS hw dX3_numberOf_80
theorem q_X3_read_1 : Cond.fieldLink RX3 7 "TwistedRowModel" "n" "I" ∈ wsX3_read := List.mem_of_getElem? (i := 1) rfl
theorem k_X3_read_X3 : ∀ w ∈ wsX30, w ∈ wsX3_read := my_in _ [10, 11, 12, 13, 14, 15, 16, 17, 18, 19, 20, 21, 22, 23, 24, 25, 26, 27, 28] (by decide +kernel)
def lp_X3_read_53 (v_4 : Int32) (K86 : Int32 → Int32 → Prop) : Nat → Int32 → Int32 → Prop
  | 0, _, _ => False
  | N + 1, v_7, v_8 => ((0 < v_7 → (∀ x_10 : Int32, x_10 = v_7 - ((v_4 >>> (v_8 &&& 31)) &&& 1) → (lp_X3_read_53 v_4 K86 N x_10 (v_8 + 1)))) ∧ (¬ 0 < v_7 → (wp_X3_has v_4 v_8 (fun r_12 u_11 => ((¬ r_12 = 0 → (K86 v_7 v_8)) ∧ (r_12 = 0 → (∀ x_14 : Int32, x_14 = v_7 - ((v_4 >>> (v_8 &&& 31)) &&& 1) → (lp_X3_read_53 v_4 K86 N x_14 (v_8 + 1)))))))))
set_option maxHeartbeats 4000000 in
set_option maxRecDepth 100000 in
theorem l_X3_read_53 {p : Program} {l : Launch} {e : Env} {s : State} {m : MethodId} {args : Array Value} {below : List Frame} {meth : Method} {c : Code} {A : Nat → Prop} {D : va_G} {cy : Nat → ClassId} {Q : State → Prop} {a_this : Nat} {a_ro : Nat} {a_fr : Nat} {a_bu : Nat} {a_no : Nat} {a_te : Nat} {a_fa : Nat} {a_li : Nat} {a_wy : Nat} {a_su : Nat} {a_a2 : Nat} {c_th : Int32} {c_n : Int32} {c_tu : Int32} {c_al : Int32} {c_le : Int32} {c_wa : Int32} {c_re : Int32} {c_us : Int32} {c_di : Int32} {c_ha : Int64} {c_a2 : Nat → Int32} {v_3 : Int32} {v_4 : Int32} {v_5 : Int32} {K86 : Int32 → Int32 → Prop} (C0 : Cx p s m args c cX3_read yX3_read.cls 9 wsX3_read D cy A)
    (k86 : ∀ (v_7 : Int32) (v_8 : Int32) (H : Heap) (locs : List Loc) (ls : Array Slot), K86 v_7 v_8 → va_P D vwCl ([(a_this, .inr (3, [.int c_th, .int c_n, .int c_tu, .int c_al, .ref a_ro, .ref a_fr, .int c_le, .ref a_bu, .ref a_no, .ref a_te, .ref a_fa, .ref a_li, .int c_wa, .int c_re, .int c_us, .int c_di, .ref a_wy, .ref a_su, .long c_ha])), (a_a2, .inl (cy 0, 8, .inl c_a2))]) H → va_D A ([(a_this, .inr (3, [.int c_th, .int c_n, .int c_tu, .int c_al, .ref a_ro, .ref a_fr, .int c_le, .ref a_bu, .ref a_no, .ref a_te, .ref a_fa, .ref a_li, .int c_wa, .int c_re, .int c_us, .int c_di, .ref a_wy, .ref a_su, .long c_ha])), (a_a2, .inl (cy 0, 8, .inl c_a2))]) → va_S A s.heap H locs → lv_has ls 9 [(0, .ref a_this), (2, .ref a_a2), (3, .int v_3), (4, .int v_4), (5, .int v_5), (8, .int v_8)] → W p l e (({ frames := 1, cells := 0, slots := 0, locals := 23 } : Room)) s m args below meth c H locs 0 0 Q (F0 m 86 ls [])) :
    ∀ (N : Nat) (v_7 : Int32) (v_8 : Int32) (H : Heap) (locs : List Loc) (ls : Array Slot), lp_X3_read_53 v_4 K86 N v_7 v_8 → va_P D vwCl ([(a_this, .inr (3, [.int c_th, .int c_n, .int c_tu, .int c_al, .ref a_ro, .ref a_fr, .int c_le, .ref a_bu, .ref a_no, .ref a_te, .ref a_fa, .ref a_li, .int c_wa, .int c_re, .int c_us, .int c_di, .ref a_wy, .ref a_su, .long c_ha])), (a_a2, .inl (cy 0, 8, .inl c_a2))]) H → va_D A ([(a_this, .inr (3, [.int c_th, .int c_n, .int c_tu, .int c_al, .ref a_ro, .ref a_fr, .int c_le, .ref a_bu, .ref a_no, .ref a_te, .ref a_fa, .ref a_li, .int c_wa, .int c_re, .int c_us, .int c_di, .ref a_wy, .ref a_su, .long c_ha])), (a_a2, .inl (cy 0, 8, .inl c_a2))]) → va_S A s.heap H locs → lv_has ls 9 [(0, .ref a_this), (2, .ref a_a2), (3, .int v_3), (4, .int v_4), (5, .int v_5), (7, .int v_7), (8, .int v_8)] → W p l e (({ frames := 1, cells := 0, slots := 0, locals := 23 } : Room)) s m args below meth c H locs 0 0 Q (F0 m 53 ls []) := by
  obtain ⟨hx, hb, hml, hown, hts, hK, hA⟩ := id C0
  intro N
  induction N with
  | zero =>
    intro v_7 v_8 H locs ls hw
    exact False.elim hw
  | succ N ih =>
    intro v_7 v_8 H locs ls hw hP hD hS hl
    rw [lp_X3_read_53] at hw
    refine lv_iload hx hb dX3_read_53 (lv_at hl 5 rfl) ?_
    refine lv_if_gt (tgt := 68) hx hb dX3_read_55 (by decide) (fun c_9 => ?_) (fun c_9 => ?_)
    · replace hw := hw.1 c_9
      refine lv_iload hx hb dX3_read_68 (lv_at hl 5 rfl) ?_
      refine lv_iload hx hb dX3_read_70 (lv_at hl 3 rfl) ?_
      refine lv_iload hx hb dX3_read_72 (lv_at hl 6 rfl) ?_
      refine lv_ishr hx hb dX3_read_74 ?_
      refine lv_iconst (v := 1) hx hb dX3_read_75 (by decide) ?_
      refine lv_iand hx hb dX3_read_76 ?_
      refine lv_isub hx hb dX3_read_77 ?_
      refine lv_topi (fun x_10 ex_10 => ?_)
      replace hw := hw x_10 ex_10
      refine lv_istore (lv' := [(7, .int x_10), (0, .ref a_this), (2, .ref a_a2), (3, .int v_3), (4, .int v_4), (5, .int v_5), (8, .int v_8)]) hx hb dX3_read_78 hl (by decide) rfl (fun ls hl => ?_)
      refine lv_iinc (v := v_8 + 1) (lv' := [(8, .int (v_8 + 1)), (7, .int x_10), (0, .ref a_this), (2, .ref a_a2), (3, .int v_3), (4, .int v_4), (5, .int v_5)]) hx hb dX3_read_80 hl (k := 6) rfl rfl (by decide) rfl (fun ls hl => ?_)
      refine lv_goto (tgt := 53) hx hb dX3_read_83 (by decide) ?_
      exact ih _ _ _ _ _ hw hP hD hS (lv_sub hl [2, 3, 4, 5, 6, 1, 0] rfl)
    · replace hw := hw.2 c_9
      refine lv_iload hx hb dX3_read_58 (lv_at hl 3 rfl) ?_
      refine lv_iload hx hb dX3_read_60 (lv_at hl 6 rfl) ?_
      refine j_calli (wr := [(a_this, .inr (3, [.int c_th, .int c_n, .int c_tu, .int c_al, .ref a_ro, .ref a_fr, .int c_le, .ref a_bu, .ref a_no, .ref a_te, .ref a_fa, .ref a_li, .int c_wa, .int c_re, .int c_us, .int c_di, .ref a_wy, .ref a_su, .long c_ha])), (a_a2, .inl (cy 0, 8, .inl c_a2))]) (va_runS (As := [.int v_4, .int v_8]) (rest := []) ⟨hx, hb, hml, hown, hts⟩ (c_X3_has l D cy v_4 v_8 hw H.size) (va_cwS 2 hts gX3_read_X3_has rfl rfl rfl (by decide +kernel) ⟨Nat.le_of_ble_eq_true rfl, Nat.le_of_ble_eq_true rfl⟩) (j_preS hK hP hD (isC := []) rfl (by decide +kernel)) rfl rfl hl.1 rfl (lv_room (Nat.le_of_ble_eq_true rfl)) dX3_read_62 ⟨Nat.le_of_ble_eq_true rfl, Nat.le_of_ble_eq_true rfl⟩) hP hD hS hA [] [0, 1] rfl rfl (by decide +kernel) (by decide +kernel) (fun u_11 => [(a_this, .inr (3, [.int c_th, .int c_n, .int c_tu, .int c_al, .ref a_ro, .ref a_fr, .int c_le, .ref a_bu, .ref a_no, .ref a_te, .ref a_fa, .ref a_li, .int c_wa, .int c_re, .int c_us, .int c_di, .ref a_wy, .ref a_su, .long c_ha])), (a_a2, .inl (cy 0, 8, .inl c_a2))]) [0, 1] (by decide +kernel) (fun u => rfl) (fun r_12 u_11 H locs hw hP hD hS => ?_)
      have hP : va_P D vwCl ([(a_this, .inr (3, [.int c_th, .int c_n, .int c_tu, .int c_al, .ref a_ro, .ref a_fr, .int c_le, .ref a_bu, .ref a_no, .ref a_te, .ref a_fa, .ref a_li, .int c_wa, .int c_re, .int c_us, .int c_di, .ref a_wy, .ref a_su, .long c_ha])), (a_a2, .inl (cy 0, 8, .inl c_a2))]) H := hP
      have hD : va_D A ([(a_this, .inr (3, [.int c_th, .int c_n, .int c_tu, .int c_al, .ref a_ro, .ref a_fr, .int c_le, .ref a_bu, .ref a_no, .ref a_te, .ref a_fa, .ref a_li, .int c_wa, .int c_re, .int c_us, .int c_di, .ref a_wy, .ref a_su, .long c_ha])), (a_a2, .inl (cy 0, 8, .inl c_a2))]) := hD
      refine lv_if_ne (tgt := 86) hx hb dX3_read_65 (by decide) (fun c_13 => ?_) (fun c_13 => ?_)
      · replace hw := hw.1 c_13
        exact k86 _ _ _ _ _ hw hP hD hS (lv_sub hl [0, 1, 2, 3, 4, 6] rfl)
      · replace hw := hw.2 c_13
        refine lv_iload hx hb dX3_read_68 (lv_at hl 5 rfl) ?_
        refine lv_iload hx hb dX3_read_70 (lv_at hl 3 rfl) ?_
        refine lv_iload hx hb dX3_read_72 (lv_at hl 6 rfl) ?_
        refine lv_ishr hx hb dX3_read_74 ?_
        refine lv_iconst (v := 1) hx hb dX3_read_75 (by decide) ?_
        refine lv_iand hx hb dX3_read_76 ?_
        refine lv_isub hx hb dX3_read_77 ?_
        refine lv_topi (fun x_14 ex_14 => ?_)
        replace hw := hw x_14 ex_14
        refine lv_istore (lv' := [(7, .int x_14), (0, .ref a_this), (2, .ref a_a2), (3, .int v_3), (4, .int v_4), (5, .int v_5), (8, .int v_8)]) hx hb dX3_read_78 hl (by decide) rfl (fun ls hl => ?_)
        refine lv_iinc (v := v_8 + 1) (lv' := [(8, .int (v_8 + 1)), (7, .int x_14), (0, .ref a_this), (2, .ref a_a2), (3, .int v_3), (4, .int v_4), (5, .int v_5)]) hx hb dX3_read_80 hl (k := 6) rfl rfl (by decide) rfl (fun ls hl => ?_)
        refine lv_goto (tgt := 53) hx hb dX3_read_83 (by decide) ?_
        exact ih _ _ _ _ _ hw hP hD hS (lv_sub hl [2, 3, 4, 5, 6, 1, 0] rfl)
def lp_X3_read_15 (c_n : Int32) (K109 : Int32 → Int32 → Int32 → (Nat → Int32) → Prop) : Nat → Int32 → Int32 → Int32 → (Nat → Int32) → Prop
  | 0, _, _, _, _ => False
  | N + 1, v_3, v_4, v_5, c_a2 => ((c_n ≤ v_5 → (K109 v_3 v_4 v_5 c_a2)) ∧ (¬ c_n ≤ v_5 → (wp_X3_factorial ((c_n - 1) - v_5) (fun r_4 u_3 => (¬ (r_4 : Int32) = 0 ∧ (∀ x_6 : Int32, x_6 = v_3 / r_4 → (¬ (r_4 : Int32) = 0 ∧ (∀ x_8 : Int32, x_8 = v_3 - v_3 / r_4 * r_4 → (∃ N_15 : Nat, lp_X3_read_53 v_4 (fun (v_16 : Int32) (v_17 : Int32) => (vp_in v_5 8 ∧ (∀ x_19 : Int32, x_19 = v_4 &&& ((1 <<< (v_17 &&& 31)) ^^^ (-1)) → (lp_X3_read_15 c_n K109 N x_8 x_19 (v_5 + 1) (upd c_a2 ((v_5 : Int32).toNatClampNeg) v_17))))) N_15 x_6 0)))))))))
set_option maxHeartbeats 4000000 in
set_option maxRecDepth 100000 in
theorem l_X3_read_15 {p : Program} {l : Launch} {e : Env} {s : State} {m : MethodId} {args : Array Value} {below : List Frame} {meth : Method} {c : Code} {A : Nat → Prop} {D : va_G} {cy : Nat → ClassId} {Q : State → Prop} {a_this : Nat} {a_ro : Nat} {a_fr : Nat} {a_bu : Nat} {a_no : Nat} {a_te : Nat} {a_fa : Nat} {a_li : Nat} {a_wy : Nat} {a_su : Nat} {a_a2 : Nat} {c_th : Int32} {c_n : Int32} {c_tu : Int32} {c_al : Int32} {c_le : Int32} {c_wa : Int32} {c_re : Int32} {c_us : Int32} {c_di : Int32} {c_ha : Int64} {K109 : Int32 → Int32 → Int32 → (Nat → Int32) → Prop} (C0 : Cx p s m args c cX3_read yX3_read.cls 9 wsX3_read D cy A)
    (k109 : ∀ (v_3 : Int32) (v_4 : Int32) (v_5 : Int32) (c_a2 : Nat → Int32) (H : Heap) (locs : List Loc) (ls : Array Slot), K109 v_3 v_4 v_5 c_a2 → va_P D vwCl ([(a_this, .inr (3, [.int c_th, .int c_n, .int c_tu, .int c_al, .ref a_ro, .ref a_fr, .int c_le, .ref a_bu, .ref a_no, .ref a_te, .ref a_fa, .ref a_li, .int c_wa, .int c_re, .int c_us, .int c_di, .ref a_wy, .ref a_su, .long c_ha])), (a_a2, .inl (cy 0, 8, .inl c_a2))]) H → va_D A ([(a_this, .inr (3, [.int c_th, .int c_n, .int c_tu, .int c_al, .ref a_ro, .ref a_fr, .int c_le, .ref a_bu, .ref a_no, .ref a_te, .ref a_fa, .ref a_li, .int c_wa, .int c_re, .int c_us, .int c_di, .ref a_wy, .ref a_su, .long c_ha])), (a_a2, .inl (cy 0, 8, .inl c_a2))]) → va_S A s.heap H locs → lv_has ls 9 [] → W p l e (({ frames := 1, cells := 0, slots := 0, locals := 23 } : Room)) s m args below meth c H locs 0 0 Q (F0 m 109 ls [])) :
    ∀ (N : Nat) (v_3 : Int32) (v_4 : Int32) (v_5 : Int32) (c_a2 : Nat → Int32) (H : Heap) (locs : List Loc) (ls : Array Slot), lp_X3_read_15 c_n K109 N v_3 v_4 v_5 c_a2 → va_P D vwCl ([(a_this, .inr (3, [.int c_th, .int c_n, .int c_tu, .int c_al, .ref a_ro, .ref a_fr, .int c_le, .ref a_bu, .ref a_no, .ref a_te, .ref a_fa, .ref a_li, .int c_wa, .int c_re, .int c_us, .int c_di, .ref a_wy, .ref a_su, .long c_ha])), (a_a2, .inl (cy 0, 8, .inl c_a2))]) H → va_D A ([(a_this, .inr (3, [.int c_th, .int c_n, .int c_tu, .int c_al, .ref a_ro, .ref a_fr, .int c_le, .ref a_bu, .ref a_no, .ref a_te, .ref a_fa, .ref a_li, .int c_wa, .int c_re, .int c_us, .int c_di, .ref a_wy, .ref a_su, .long c_ha])), (a_a2, .inl (cy 0, 8, .inl c_a2))]) → va_S A s.heap H locs → lv_has ls 9 [(0, .ref a_this), (2, .ref a_a2), (3, .int v_3), (4, .int v_4), (5, .int v_5)] → W p l e (({ frames := 1, cells := 0, slots := 0, locals := 23 } : Room)) s m args below meth c H locs 0 0 Q (F0 m 15 ls []) := by
  obtain ⟨hx, hb, hml, hown, hts, hK, hA⟩ := id C0
  intro N
  induction N with
  | zero =>
    intro v_3 v_4 v_5 c_a2 H locs ls hw
    exact False.elim hw
  | succ N ih =>
    intro v_3 v_4 v_5 c_a2 H locs ls hw hP hD hS hl
    rw [lp_X3_read_15] at hw
    refine lv_iload hx hb dX3_read_15 (lv_at hl 4 rfl) ?_
    refine lv_aload_n hx hb dX3_read_17 rfl (lv_at hl 0 rfl) ?_
    refine va_get (D := D) (ci := 3) (v := .int c_n) (C := RX3) (T := TX3) (N := 19) hx hb hts k_X3_read_X3 hown hK hP 0 rfl rfl 1 (by decide) (hts _ q_X3_read_1) (fun _ h9 => h9) rfl dX3_read_18 ?_
    refine lv_icmp_ge (tgt := 109) hx hb dX3_read_21 (by decide) (fun c_2 => ?_) (fun c_2 => ?_)
    · replace hw := hw.1 c_2
      exact k109 _ _ _ _ _ _ _ hw hP hD hS (lv_sub hl [] rfl)
    · replace hw := hw.2 c_2
      refine lv_aload_n hx hb dX3_read_24 rfl (lv_at hl 0 rfl) ?_
      refine lv_aload_n hx hb dX3_read_25 rfl (lv_at hl 0 rfl) ?_
      refine va_get (D := D) (ci := 3) (v := .int c_n) (C := RX3) (T := TX3) (N := 19) hx hb hts k_X3_read_X3 hown hK hP 0 rfl rfl 1 (by decide) (hts _ q_X3_read_1) (fun _ h9 => h9) rfl dX3_read_26 ?_
      refine lv_iconst (v := 1) hx hb dX3_read_29 (by decide) ?_
      refine lv_isub hx hb dX3_read_30 ?_
      refine lv_iload hx hb dX3_read_31 (lv_at hl 4 rfl) ?_
      refine lv_isub hx hb dX3_read_33 ?_
      refine j_calli (wr := [(a_a2, .inl (cy 0, 8, .inl c_a2))]) (va_runV (As := [.int ((c_n - 1) - v_5)]) (rest := []) ⟨hx, hb, hml, hown, hts⟩ (c_X3_factorial l D cy a_this a_ro a_fr a_bu a_no a_te a_fa a_li a_wy a_su c_th c_n c_tu c_al c_le c_wa c_re c_us c_di c_ha ((c_n - 1) - v_5) hw H.size) (cwV 1 hts gX3_read_X3_factorial rfl rfl rfl (by decide +kernel) ⟨Nat.le_of_ble_eq_true rfl, Nat.le_of_ble_eq_true rfl⟩) (j_preV hK hP hD (isC := [0]) rfl (by decide +kernel) (ci := 3) (q0 := 0) rfl rfl) rfl rfl hl.1 rfl (lv_room (Nat.le_of_ble_eq_true rfl)) dX3_read_34 ⟨Nat.le_of_ble_eq_true rfl, Nat.le_of_ble_eq_true rfl⟩) hP hD hS hA [0] [1] rfl rfl (by decide +kernel) (by decide +kernel) (fun u_3 => [(a_this, .inr (3, [.int c_th, .int c_n, .int c_tu, .int c_al, .ref a_ro, .ref a_fr, .int c_le, .ref a_bu, .ref a_no, .ref a_te, .ref a_fa, .ref a_li, .int c_wa, .int c_re, .int c_us, .int c_di, .ref a_wy, .ref a_su, .long c_ha])), (a_a2, .inl (cy 0, 8, .inl c_a2))]) [1, 0] (by decide +kernel) (fun u => rfl) (fun r_4 u_3 H locs hw hP hD hS => ?_)
      have hP : va_P D vwCl ([(a_this, .inr (3, [.int c_th, .int c_n, .int c_tu, .int c_al, .ref a_ro, .ref a_fr, .int c_le, .ref a_bu, .ref a_no, .ref a_te, .ref a_fa, .ref a_li, .int c_wa, .int c_re, .int c_us, .int c_di, .ref a_wy, .ref a_su, .long c_ha])), (a_a2, .inl (cy 0, 8, .inl c_a2))]) H := hP
      have hD : va_D A ([(a_this, .inr (3, [.int c_th, .int c_n, .int c_tu, .int c_al, .ref a_ro, .ref a_fr, .int c_le, .ref a_bu, .ref a_no, .ref a_te, .ref a_fa, .ref a_li, .int c_wa, .int c_re, .int c_us, .int c_di, .ref a_wy, .ref a_su, .long c_ha])), (a_a2, .inl (cy 0, 8, .inl c_a2))]) := hD
      refine lv_istore (lv' := [(6, .int r_4), (0, .ref a_this), (2, .ref a_a2), (3, .int v_3), (4, .int v_4), (5, .int v_5)]) hx hb dX3_read_37 hl (by decide) rfl (fun ls hl => ?_)
      refine lv_iload_n hx hb dX3_read_39 rfl (lv_at hl 3 rfl) ?_
      refine lv_iload hx hb dX3_read_40 (lv_at hl 0 rfl) ?_
      obtain ⟨h_5, hw⟩ := hw
      refine lv_idiv hx hb dX3_read_42 h_5 ?_
      refine lv_topi (fun x_6 ex_6 => ?_)
      replace hw := hw x_6 ex_6
      refine lv_istore (lv' := [(7, .int x_6), (6, .int r_4), (0, .ref a_this), (2, .ref a_a2), (3, .int v_3), (4, .int v_4), (5, .int v_5)]) hx hb dX3_read_43 hl (by decide) rfl (fun ls hl => ?_)
      refine lv_iload_n hx hb dX3_read_45 rfl (lv_at hl 4 rfl) ?_
      refine lv_iload hx hb dX3_read_46 (lv_at hl 1 rfl) ?_
      obtain ⟨h_7, hw⟩ := hw
      refine lv_irem hx hb dX3_read_48 h_7 ?_
      refine lv_topi (fun x_8 ex_8 => ?_)
      replace hw := hw x_8 ex_8
      refine lv_istore_n (lv' := [(3, .int x_8), (7, .int x_6), (6, .int r_4), (0, .ref a_this), (2, .ref a_a2), (4, .int v_4), (5, .int v_5)]) hx hb dX3_read_49 rfl hl (by decide) rfl (fun ls hl => ?_)
      refine lv_iconst (v := 0) hx hb dX3_read_50 (by decide) ?_
      refine lv_istore (lv' := [(8, .int 0), (3, .int x_8), (7, .int x_6), (6, .int r_4), (0, .ref a_this), (2, .ref a_a2), (4, .int v_4), (5, .int v_5)]) hx hb dX3_read_51 hl (by decide) rfl (fun ls hl => ?_)
      obtain ⟨N_15, hw⟩ := hw
      refine l_X3_read_53 C0 (fun v_16 v_17 H locs ls hw hP hD hS hl => ?_) _ _ _ _ _ _ hw hP hD hS (lv_sub hl [4, 5, 1, 6, 7, 2, 0] rfl)
      refine lv_aload_n hx hb dX3_read_86 rfl (lv_at hl 1 rfl) ?_
      refine lv_iload hx hb dX3_read_87 (lv_at hl 4 rfl) ?_
      refine lv_iload hx hb dX3_read_89 (lv_at hl 5 rfl) ?_
      obtain ⟨h_18, hw⟩ := hw
      refine va_iast hx hb hK hP hD hS 1 0 rfl rfl h_18 dX3_read_91 (fun H locs hP hD hS => ?_)
      have hP : va_P D vwCl ([(a_this, .inr (3, [.int c_th, .int c_n, .int c_tu, .int c_al, .ref a_ro, .ref a_fr, .int c_le, .ref a_bu, .ref a_no, .ref a_te, .ref a_fa, .ref a_li, .int c_wa, .int c_re, .int c_us, .int c_di, .ref a_wy, .ref a_su, .long c_ha])), (a_a2, .inl (cy 0, 8, .inl (upd c_a2 ((v_5 : Int32).toNatClampNeg) v_17)))]) H := hP
      have hD : va_D A ([(a_this, .inr (3, [.int c_th, .int c_n, .int c_tu, .int c_al, .ref a_ro, .ref a_fr, .int c_le, .ref a_bu, .ref a_no, .ref a_te, .ref a_fa, .ref a_li, .int c_wa, .int c_re, .int c_us, .int c_di, .ref a_wy, .ref a_su, .long c_ha])), (a_a2, .inl (cy 0, 8, .inl (upd c_a2 ((v_5 : Int32).toNatClampNeg) v_17)))]) := hD
      refine lv_iload hx hb dX3_read_92 (lv_at hl 3 rfl) ?_
      refine lv_iconst (v := 1) hx hb dX3_read_94 (by decide) ?_
      refine lv_iload hx hb dX3_read_95 (lv_at hl 5 rfl) ?_
      refine lv_ishl hx hb dX3_read_97 ?_
      refine lv_iconst (v := (-1)) hx hb dX3_read_98 (by decide) ?_
      refine lv_ixor hx hb dX3_read_99 ?_
      refine lv_iand hx hb dX3_read_100 ?_
      refine lv_topi (fun x_19 ex_19 => ?_)
      replace hw := hw x_19 ex_19
      refine lv_istore (lv' := [(4, .int x_19), (0, .ref a_this), (2, .ref a_a2), (3, .int x_8), (5, .int v_5), (8, .int v_17)]) hx hb dX3_read_101 hl (by decide) rfl (fun ls hl => ?_)
      refine lv_iinc (v := v_5 + 1) (lv' := [(5, .int (v_5 + 1)), (4, .int x_19), (0, .ref a_this), (2, .ref a_a2), (3, .int x_8), (8, .int v_17)]) hx hb dX3_read_103 hl (k := 4) rfl rfl (by decide) rfl (fun ls hl => ?_)
      refine lv_goto (tgt := 15) hx hb dX3_read_106 (by decide) ?_
      exact ih _ _ _ _ _ _ _ hw hP hD hS (lv_sub hl [2, 3, 4, 1, 0] rfl)
def wp_X3_read (c_n : Int32) (c_a2 : Nat → Int32) (p_1 : Int32) (post : (Nat → Int32) → Prop) : Prop := (∀ x_1 : Int32, x_1 = (1 <<< (c_n &&& 31)) - 1 → (∃ N_20 : Nat, lp_X3_read_15 c_n (fun (v_21 : Int32) (v_22 : Int32) (v_23 : Int32) (c_24 : Nat → Int32) => (post c_24)) N_20 p_1 x_1 0 c_a2))
set_option maxHeartbeats 4000000 in
set_option maxRecDepth 100000 in
theorem c_X3_read (l : Launch) (D : va_G) (cy : Nat → ClassId) (a_this : Nat) (a_ro : Nat) (a_fr : Nat) (a_bu : Nat) (a_no : Nat) (a_te : Nat) (a_fa : Nat) (a_li : Nat) (a_wy : Nat) (a_su : Nat) (a_a2 : Nat) (c_th : Int32) (c_n : Int32) (c_tu : Int32) (c_al : Int32) (c_le : Int32) (c_wa : Int32) (c_re : Int32) (c_us : Int32) (c_di : Int32) (c_ha : Int64) (c_a2 : Nat → Int32) (p_1 : Int32) {post : (Nat → Int32) → Prop} (hw : wp_X3_read c_n c_a2 p_1 post) (sz : Nat) : Met l yX3_read wsX3_read ({ frames := 1, cells := 0, slots := 0, locals := 23 }) (va_Pc [.ref a_this, .int p_1, .ref a_a2] (PreW D cy ([(a_this, .inr (3, [.int c_th, .int c_n, .int c_tu, .int c_al, .ref a_ro, .ref a_fr, .int c_le, .ref a_bu, .ref a_no, .ref a_te, .ref a_fa, .ref a_li, .int c_wa, .int c_re, .int c_us, .int c_di, .ref a_wy, .ref a_su, .long c_ha])), (a_a2, .inl (cy 0, 8, .inl c_a2))]) sz)) (va_Qv post (fun u t => PostW D cy (va_A ([(a_this, .inr (3, [.int c_th, .int c_n, .int c_tu, .int c_al, .ref a_ro, .ref a_fr, .int c_le, .ref a_bu, .ref a_no, .ref a_te, .ref a_fa, .ref a_li, .int c_wa, .int c_re, .int c_us, .int c_di, .ref a_wy, .ref a_su, .long c_ha])), (a_a2, .inl (cy 0, 8, .inl c_a2))]) sz) ([(a_this, .inr (3, [.int c_th, .int c_n, .int c_tu, .int c_al, .ref a_ro, .ref a_fr, .int c_le, .ref a_bu, .ref a_no, .ref a_te, .ref a_fa, .ref a_li, .int c_wa, .int c_re, .int c_us, .int c_di, .ref a_wy, .ref a_su, .long c_ha])), (a_a2, .inl (cy 0, 8, .inl u))]) t) (va_A ([(a_this, .inr (3, [.int c_th, .int c_n, .int c_tu, .int c_al, .ref a_ro, .ref a_fr, .int c_le, .ref a_bu, .ref a_no, .ref a_te, .ref a_fa, .ref a_li, .int c_wa, .int c_re, .int c_us, .int c_di, .ref a_wy, .ref a_su, .long c_ha])), (a_a2, .inl (cy 0, 8, .inl c_a2))]) sz)) 0 0 (va_A ([(a_this, .inr (3, [.int c_th, .int c_n, .int c_tu, .int c_al, .ref a_ro, .ref a_fr, .int c_le, .ref a_bu, .ref a_no, .ref a_te, .ref a_fa, .ref a_li, .int c_wa, .int c_re, .int c_us, .int c_di, .ref a_wy, .ref a_su, .long c_ha])), (a_a2, .inl (cy 0, 8, .inl c_a2))]) sz) := by
  refine j_met (Qc := fun A => va_Qv post (fun u t => PostW D cy A ([(a_this, .inr (3, [.int c_th, .int c_n, .int c_tu, .int c_al, .ref a_ro, .ref a_fr, .int c_le, .ref a_bu, .ref a_no, .ref a_te, .ref a_fa, .ref a_li, .int c_wa, .int c_re, .int c_us, .int c_di, .ref a_wy, .ref a_su, .long c_ha])), (a_a2, .inl (cy 0, 8, .inl u))]) t) A) (by decide +kernel) rfl (Nat.le_of_ble_eq_true rfl) ?_
  intro p e s m below meth c A ls C0 hr hlocks hP hD hS hl
  obtain ⟨hx, hb, hml, hown, hts, hK, hA⟩ := id C0
  have hown : s.vm.findClass RX3 = some m.cls := hown
  have hl : lv_has ls 9 [(0, .ref a_this), (1, .int p_1), (2, .ref a_a2)] := hl
  unfold wp_X3_read at hw
  refine lv_iload_n hx hb dX3_read_0 rfl (lv_at hl 1 rfl) ?_
  refine lv_istore_n (lv' := [(3, .int p_1), (0, .ref a_this), (1, .int p_1), (2, .ref a_a2)]) hx hb dX3_read_1 rfl hl (by decide) rfl (fun ls hl => ?_)
  refine lv_iconst (v := 1) hx hb dX3_read_2 (by decide) ?_
  refine lv_aload_n hx hb dX3_read_3 rfl (lv_at hl 1 rfl) ?_
  refine va_get (D := D) (ci := 3) (v := .int c_n) (C := RX3) (T := TX3) (N := 19) hx hb hts k_X3_read_X3 hown hK hP 0 rfl rfl 1 (by decide) (hts _ q_X3_read_1) (fun _ h9 => h9) rfl dX3_read_4 ?_
  refine lv_ishl hx hb dX3_read_7 ?_
  refine lv_iconst (v := 1) hx hb dX3_read_8 (by decide) ?_
  refine lv_isub hx hb dX3_read_9 ?_
  refine lv_topi (fun x_1 ex_1 => ?_)
  replace hw := hw x_1 ex_1
  refine lv_istore (lv' := [(4, .int x_1), (3, .int p_1), (0, .ref a_this), (1, .int p_1), (2, .ref a_a2)]) hx hb dX3_read_10 hl (by decide) rfl (fun ls hl => ?_)
  refine lv_iconst (v := 0) hx hb dX3_read_12 (by decide) ?_
  refine lv_istore (lv' := [(5, .int 0), (4, .int x_1), (3, .int p_1), (0, .ref a_this), (1, .int p_1), (2, .ref a_a2)]) hx hb dX3_read_13 hl (by decide) rfl (fun ls hl => ?_)
  obtain ⟨N_20, hw⟩ := hw
  refine l_X3_read_15 C0 (fun v_21 v_22 v_23 c_24 H locs ls hw hP hD hS hl => ?_) _ _ _ _ _ _ _ _ hw hP hD hS (lv_sub hl [3, 5, 2, 1, 0] rfl)
  exact j_vret (fun u => [(a_this, .inr (3, [.int c_th, .int c_n, .int c_tu, .int c_al, .ref a_ro, .ref a_fr, .int c_le, .ref a_bu, .ref a_no, .ref a_te, .ref a_fa, .ref a_li, .int c_wa, .int c_re, .int c_us, .int c_di, .ref a_wy, .ref a_su, .long c_ha])), (a_a2, .inl (cy 0, 8, .inl u))]) (c_24 : (Nat → Int32)) hx hb hr hlocks hK hP hD hS hw dX3_read_109
theorem q_X3_shift_1 : Cond.fieldLink RX3 7 "TwistedRowModel" "n" "I" ∈ wsX3_shift := List.mem_of_getElem? (i := 1) rfl
theorem k_X3_shift_X3 : ∀ w ∈ wsX30, w ∈ wsX3_shift := my_in _ [3, 4, 5, 6, 7, 8, 9, 10, 11, 12, 13, 14, 15, 16, 17, 18, 19, 20, 21] (by decide +kernel)
theorem q_X3_shift_2 : Cond.fieldLink RX3 17 "TwistedRowModel" "from" "[I" ∈ wsX3_shift := List.mem_of_getElem? (i := 2) rfl
def lp_X3_shift_3 (c_a2 : Nat → Int32) (c_fr : Nat → Int32) (c_n : Int32) (v_1 : Int32) (K36 : Int32 → (Nat → Int32) → Prop) : Nat → Int32 → (Nat → Int32) → Prop
  | 0, _, _ => False
  | N + 1, v_4, c_a3 => ((c_n ≤ v_4 → (K36 v_4 c_a3)) ∧ (¬ c_n ≤ v_4 → (vp_in ((8 * v_1) + v_4) 96 ∧ (vp_in (c_fr ((8 * v_1) + v_4 : Int32).toNatClampNeg) 8 ∧ (vp_in v_4 8 ∧ (lp_X3_shift_3 c_a2 c_fr c_n v_1 K36 N (v_4 + 1) (upd c_a3 ((v_4 : Int32).toNatClampNeg) (c_a2 (c_fr ((8 * v_1) + v_4 : Int32).toNatClampNeg : Int32).toNatClampNeg))))))))
set_option maxHeartbeats 4000000 in
set_option maxRecDepth 100000 in
theorem l_X3_shift_3 {p : Program} {l : Launch} {e : Env} {s : State} {m : MethodId} {args : Array Value} {below : List Frame} {meth : Method} {c : Code} {A : Nat → Prop} {D : va_G} {cy : Nat → ClassId} {Q : State → Prop} {a_this : Nat} {a_ro : Nat} {a_fr : Nat} {a_bu : Nat} {a_no : Nat} {a_te : Nat} {a_fa : Nat} {a_li : Nat} {a_wy : Nat} {a_su : Nat} {a_a2 : Nat} {a_a3 : Nat} {c_th : Int32} {c_n : Int32} {c_tu : Int32} {c_al : Int32} {c_le : Int32} {c_wa : Int32} {c_re : Int32} {c_us : Int32} {c_di : Int32} {c_ha : Int64} {c_fr : Nat → Int32} {c_a2 : Nat → Int32} {v_1 : Int32} {K36 : Int32 → (Nat → Int32) → Prop} (C0 : Cx p s m args c cX3_shift yX3_shift.cls 5 wsX3_shift D cy A)
    (k36 : ∀ (v_4 : Int32) (c_a3 : Nat → Int32) (H : Heap) (locs : List Loc) (ls : Array Slot), K36 v_4 c_a3 → va_P D vwCl ([(a_this, .inr (3, [.int c_th, .int c_n, .int c_tu, .int c_al, .ref a_ro, .ref a_fr, .int c_le, .ref a_bu, .ref a_no, .ref a_te, .ref a_fa, .ref a_li, .int c_wa, .int c_re, .int c_us, .int c_di, .ref a_wy, .ref a_su, .long c_ha])), (a_fr, .inl (cy 0, 96, .inl c_fr)), (a_a2, .inl (cy 0, 8, .inl c_a2)), (a_a3, .inl (cy 0, 8, .inl c_a3))]) H → va_D A ([(a_this, .inr (3, [.int c_th, .int c_n, .int c_tu, .int c_al, .ref a_ro, .ref a_fr, .int c_le, .ref a_bu, .ref a_no, .ref a_te, .ref a_fa, .ref a_li, .int c_wa, .int c_re, .int c_us, .int c_di, .ref a_wy, .ref a_su, .long c_ha])), (a_fr, .inl (cy 0, 96, .inl c_fr)), (a_a2, .inl (cy 0, 8, .inl c_a2)), (a_a3, .inl (cy 0, 8, .inl c_a3))]) → va_S A s.heap H locs → lv_has ls 5 [] → W p l e (({ frames := 0, cells := 0, slots := 0, locals := 0 } : Room)) s m args below meth c H locs 0 0 Q (F0 m 36 ls [])) :
    ∀ (N : Nat) (v_4 : Int32) (c_a3 : Nat → Int32) (H : Heap) (locs : List Loc) (ls : Array Slot), lp_X3_shift_3 c_a2 c_fr c_n v_1 K36 N v_4 c_a3 → va_P D vwCl ([(a_this, .inr (3, [.int c_th, .int c_n, .int c_tu, .int c_al, .ref a_ro, .ref a_fr, .int c_le, .ref a_bu, .ref a_no, .ref a_te, .ref a_fa, .ref a_li, .int c_wa, .int c_re, .int c_us, .int c_di, .ref a_wy, .ref a_su, .long c_ha])), (a_fr, .inl (cy 0, 96, .inl c_fr)), (a_a2, .inl (cy 0, 8, .inl c_a2)), (a_a3, .inl (cy 0, 8, .inl c_a3))]) H → va_D A ([(a_this, .inr (3, [.int c_th, .int c_n, .int c_tu, .int c_al, .ref a_ro, .ref a_fr, .int c_le, .ref a_bu, .ref a_no, .ref a_te, .ref a_fa, .ref a_li, .int c_wa, .int c_re, .int c_us, .int c_di, .ref a_wy, .ref a_su, .long c_ha])), (a_fr, .inl (cy 0, 96, .inl c_fr)), (a_a2, .inl (cy 0, 8, .inl c_a2)), (a_a3, .inl (cy 0, 8, .inl c_a3))]) → va_S A s.heap H locs → lv_has ls 5 [(0, .ref a_this), (1, .int v_1), (2, .ref a_a2), (3, .ref a_a3), (4, .int v_4)] → W p l e (({ frames := 0, cells := 0, slots := 0, locals := 0 } : Room)) s m args below meth c H locs 0 0 Q (F0 m 3 ls []) := by
  obtain ⟨hx, hb, hml, hown, hts, hK, hA⟩ := id C0
  intro N
  induction N with
  | zero =>
    intro v_4 c_a3 H locs ls hw
    exact False.elim hw
  | succ N ih =>
    intro v_4 c_a3 H locs ls hw hP hD hS hl
    rw [lp_X3_shift_3] at hw
    refine lv_iload hx hb dX3_shift_3 (lv_at hl 4 rfl) ?_
    refine lv_aload_n hx hb dX3_shift_5 rfl (lv_at hl 0 rfl) ?_
    refine va_get (D := D) (ci := 3) (v := .int c_n) (C := RX3) (T := TX3) (N := 19) hx hb hts k_X3_shift_X3 hown hK hP 0 rfl rfl 1 (by decide) (hts _ q_X3_shift_1) (fun _ h9 => h9) rfl dX3_shift_6 ?_
    refine lv_icmp_ge (tgt := 36) hx hb dX3_shift_9 (by decide) (fun c_1 => ?_) (fun c_1 => ?_)
    · replace hw := hw.1 c_1
      exact k36 _ _ _ _ _ hw hP hD hS (lv_sub hl [] rfl)
    · replace hw := hw.2 c_1
      refine lv_aload_n hx hb dX3_shift_12 rfl (lv_at hl 3 rfl) ?_
      refine lv_iload hx hb dX3_shift_13 (lv_at hl 4 rfl) ?_
      refine lv_aload_n hx hb dX3_shift_15 rfl (lv_at hl 2 rfl) ?_
      refine lv_aload_n hx hb dX3_shift_16 rfl (lv_at hl 0 rfl) ?_
      refine va_get (D := D) (ci := 3) (v := .ref a_fr) (C := RX3) (T := TX3) (N := 19) hx hb hts k_X3_shift_X3 hown hK hP 0 rfl rfl 5 (by decide) (hts _ q_X3_shift_2) (fun _ h9 => h9) rfl dX3_shift_17 ?_
      refine lv_bipush (v := 8) hx hb dX3_shift_20 (by decide) ?_
      refine lv_iload_n hx hb dX3_shift_22 rfl (lv_at hl 1 rfl) ?_
      refine lv_imul hx hb dX3_shift_23 ?_
      refine lv_iload hx hb dX3_shift_24 (lv_at hl 4 rfl) ?_
      refine lv_iadd hx hb dX3_shift_26 ?_
      obtain ⟨h_2, hw⟩ := hw
      refine va_iald hx hb hK hP 1 0 rfl rfl h_2 dX3_shift_27 ?_
      obtain ⟨h_3, hw⟩ := hw
      refine va_iald hx hb hK hP 2 0 rfl rfl h_3 dX3_shift_28 ?_
      obtain ⟨h_4, hw⟩ := hw
      refine va_iast hx hb hK hP hD hS 3 0 rfl rfl h_4 dX3_shift_29 (fun H locs hP hD hS => ?_)
      have hP : va_P D vwCl ([(a_this, .inr (3, [.int c_th, .int c_n, .int c_tu, .int c_al, .ref a_ro, .ref a_fr, .int c_le, .ref a_bu, .ref a_no, .ref a_te, .ref a_fa, .ref a_li, .int c_wa, .int c_re, .int c_us, .int c_di, .ref a_wy, .ref a_su, .long c_ha])), (a_fr, .inl (cy 0, 96, .inl c_fr)), (a_a2, .inl (cy 0, 8, .inl c_a2)), (a_a3, .inl (cy 0, 8, .inl (upd c_a3 ((v_4 : Int32).toNatClampNeg) (c_a2 (c_fr ((8 * v_1) + v_4 : Int32).toNatClampNeg : Int32).toNatClampNeg))))]) H := hP
      have hD : va_D A ([(a_this, .inr (3, [.int c_th, .int c_n, .int c_tu, .int c_al, .ref a_ro, .ref a_fr, .int c_le, .ref a_bu, .ref a_no, .ref a_te, .ref a_fa, .ref a_li, .int c_wa, .int c_re, .int c_us, .int c_di, .ref a_wy, .ref a_su, .long c_ha])), (a_fr, .inl (cy 0, 96, .inl c_fr)), (a_a2, .inl (cy 0, 8, .inl c_a2)), (a_a3, .inl (cy 0, 8, .inl (upd c_a3 ((v_4 : Int32).toNatClampNeg) (c_a2 (c_fr ((8 * v_1) + v_4 : Int32).toNatClampNeg : Int32).toNatClampNeg))))]) := hD
      refine lv_iinc (v := v_4 + 1) (lv' := [(4, .int (v_4 + 1)), (0, .ref a_this), (1, .int v_1), (2, .ref a_a2), (3, .ref a_a3)]) hx hb dX3_shift_30 hl (k := 4) rfl rfl (by decide) rfl (fun ls hl => ?_)
      refine lv_goto (tgt := 3) hx hb dX3_shift_33 (by decide) ?_
      exact ih _ _ _ _ _ hw hP hD hS (lv_sub hl [1, 2, 3, 4, 0] rfl)
def wp_X3_shift (c_n : Int32) (c_fr : Nat → Int32) (c_a2 : Nat → Int32) (c_a3 : Nat → Int32) (p_1 : Int32) (post : (Nat → Int32) → Prop) : Prop := (∃ N_5 : Nat, lp_X3_shift_3 c_a2 c_fr c_n p_1 (fun (v_6 : Int32) (c_7 : Nat → Int32) => (post c_7)) N_5 0 c_a3)
set_option maxHeartbeats 4000000 in
set_option maxRecDepth 100000 in
theorem c_X3_shift (l : Launch) (D : va_G) (cy : Nat → ClassId) (a_this : Nat) (a_ro : Nat) (a_fr : Nat) (a_bu : Nat) (a_no : Nat) (a_te : Nat) (a_fa : Nat) (a_li : Nat) (a_wy : Nat) (a_su : Nat) (a_a2 : Nat) (a_a3 : Nat) (c_th : Int32) (c_n : Int32) (c_tu : Int32) (c_al : Int32) (c_le : Int32) (c_wa : Int32) (c_re : Int32) (c_us : Int32) (c_di : Int32) (c_ha : Int64) (c_fr : Nat → Int32) (c_a2 : Nat → Int32) (c_a3 : Nat → Int32) (p_1 : Int32) {post : (Nat → Int32) → Prop} (hw : wp_X3_shift c_n c_fr c_a2 c_a3 p_1 post) (sz : Nat) : Met l yX3_shift wsX3_shift ({ frames := 0, cells := 0, slots := 0, locals := 0 }) (va_Pc [.ref a_this, .int p_1, .ref a_a2, .ref a_a3] (PreW D cy ([(a_this, .inr (3, [.int c_th, .int c_n, .int c_tu, .int c_al, .ref a_ro, .ref a_fr, .int c_le, .ref a_bu, .ref a_no, .ref a_te, .ref a_fa, .ref a_li, .int c_wa, .int c_re, .int c_us, .int c_di, .ref a_wy, .ref a_su, .long c_ha])), (a_fr, .inl (cy 0, 96, .inl c_fr)), (a_a2, .inl (cy 0, 8, .inl c_a2)), (a_a3, .inl (cy 0, 8, .inl c_a3))]) sz)) (va_Qv post (fun u t => PostW D cy (va_A ([(a_this, .inr (3, [.int c_th, .int c_n, .int c_tu, .int c_al, .ref a_ro, .ref a_fr, .int c_le, .ref a_bu, .ref a_no, .ref a_te, .ref a_fa, .ref a_li, .int c_wa, .int c_re, .int c_us, .int c_di, .ref a_wy, .ref a_su, .long c_ha])), (a_fr, .inl (cy 0, 96, .inl c_fr)), (a_a2, .inl (cy 0, 8, .inl c_a2)), (a_a3, .inl (cy 0, 8, .inl c_a3))]) sz) ([(a_this, .inr (3, [.int c_th, .int c_n, .int c_tu, .int c_al, .ref a_ro, .ref a_fr, .int c_le, .ref a_bu, .ref a_no, .ref a_te, .ref a_fa, .ref a_li, .int c_wa, .int c_re, .int c_us, .int c_di, .ref a_wy, .ref a_su, .long c_ha])), (a_fr, .inl (cy 0, 96, .inl c_fr)), (a_a2, .inl (cy 0, 8, .inl c_a2)), (a_a3, .inl (cy 0, 8, .inl u))]) t) (va_A ([(a_this, .inr (3, [.int c_th, .int c_n, .int c_tu, .int c_al, .ref a_ro, .ref a_fr, .int c_le, .ref a_bu, .ref a_no, .ref a_te, .ref a_fa, .ref a_li, .int c_wa, .int c_re, .int c_us, .int c_di, .ref a_wy, .ref a_su, .long c_ha])), (a_fr, .inl (cy 0, 96, .inl c_fr)), (a_a2, .inl (cy 0, 8, .inl c_a2)), (a_a3, .inl (cy 0, 8, .inl c_a3))]) sz)) 0 0 (va_A ([(a_this, .inr (3, [.int c_th, .int c_n, .int c_tu, .int c_al, .ref a_ro, .ref a_fr, .int c_le, .ref a_bu, .ref a_no, .ref a_te, .ref a_fa, .ref a_li, .int c_wa, .int c_re, .int c_us, .int c_di, .ref a_wy, .ref a_su, .long c_ha])), (a_fr, .inl (cy 0, 96, .inl c_fr)), (a_a2, .inl (cy 0, 8, .inl c_a2)), (a_a3, .inl (cy 0, 8, .inl c_a3))]) sz) := by
  refine j_met (Qc := fun A => va_Qv post (fun u t => PostW D cy A ([(a_this, .inr (3, [.int c_th, .int c_n, .int c_tu, .int c_al, .ref a_ro, .ref a_fr, .int c_le, .ref a_bu, .ref a_no, .ref a_te, .ref a_fa, .ref a_li, .int c_wa, .int c_re, .int c_us, .int c_di, .ref a_wy, .ref a_su, .long c_ha])), (a_fr, .inl (cy 0, 96, .inl c_fr)), (a_a2, .inl (cy 0, 8, .inl c_a2)), (a_a3, .inl (cy 0, 8, .inl u))]) t) A) (by decide +kernel) rfl (Nat.le_of_ble_eq_true rfl) ?_
  intro p e s m below meth c A ls C0 hr hlocks hP hD hS hl
  obtain ⟨hx, hb, hml, hown, hts, hK, hA⟩ := id C0
  have hown : s.vm.findClass RX3 = some m.cls := hown
  have hl : lv_has ls 5 [(0, .ref a_this), (1, .int p_1), (2, .ref a_a2), (3, .ref a_a3)] := hl
  unfold wp_X3_shift at hw
  refine lv_iconst (v := 0) hx hb dX3_shift_0 (by decide) ?_
  refine lv_istore (lv' := [(4, .int 0), (0, .ref a_this), (1, .int p_1), (2, .ref a_a2), (3, .ref a_a3)]) hx hb dX3_shift_1 hl (by decide) rfl (fun ls hl => ?_)
  obtain ⟨N_5, hw⟩ := hw
  refine l_X3_shift_3 C0 (fun v_6 c_7 H locs ls hw hP hD hS hl => ?_) _ _ _ _ _ _ hw hP hD hS (lv_sub hl [1, 2, 3, 4, 0] rfl)
  exact j_vret (fun u => [(a_this, .inr (3, [.int c_th, .int c_n, .int c_tu, .int c_al, .ref a_ro, .ref a_fr, .int c_le, .ref a_bu, .ref a_no, .ref a_te, .ref a_fa, .ref a_li, .int c_wa, .int c_re, .int c_us, .int c_di, .ref a_wy, .ref a_su, .long c_ha])), (a_fr, .inl (cy 0, 96, .inl c_fr)), (a_a2, .inl (cy 0, 8, .inl c_a2)), (a_a3, .inl (cy 0, 8, .inl u))]) (c_7 : (Nat → Int32)) hx hb hr hlocks hK hP hD hS hw dX3_shift_36
def wp_X3_inverse (p_0 : Int32) (post : Int32 → Unit → Prop) : Prop := ((¬ (p_0 - p_0 / 2 * 2) = 0 → (post (p_0 - 1) ())) ∧ ((p_0 - p_0 / 2 * 2) = 0 → (post (p_0 + 1) ())))
set_option maxHeartbeats 4000000 in
set_option maxRecDepth 100000 in
theorem c_X3_inverse (l : Launch) (D : va_G) (cy : Nat → ClassId) (p_0 : Int32) {post : Int32 → Unit → Prop} (hw : wp_X3_inverse p_0 post) (sz : Nat) : Met l yX3_inverse wsX3_inverse ({ frames := 0, cells := 0, slots := 0, locals := 0 }) (va_Pc [.int p_0] (PreW D cy ([]) sz)) (va_Qi post (fun u t => PostW D cy (va_A ([]) sz) ([]) t) (va_A ([]) sz)) 0 0 (va_A ([]) sz) := by
  refine j_met (Qc := fun A => va_Qi post (fun u t => PostW D cy A ([]) t) A) (by decide +kernel) rfl (Nat.le_of_ble_eq_true rfl) ?_
  intro p e s m below meth c A ls C0 hr hlocks hP hD hS hl
  obtain ⟨hx, hb, hml, hown, hts, hK, hA⟩ := id C0
  have hown : s.vm.findClass RX3 = some m.cls := hown
  have hl : lv_has ls 1 [(0, .int p_0)] := hl
  unfold wp_X3_inverse at hw
  refine lv_iload_n hx hb dX3_inverse_0 rfl (lv_at hl 0 rfl) ?_
  refine lv_iconst (v := 2) hx hb dX3_inverse_1 (by decide) ?_
  refine lv_irem hx hb dX3_inverse_2 (by decide) ?_
  refine lv_if_ne (tgt := 12) hx hb dX3_inverse_3 (by decide) (fun c_1 => ?_) (fun c_1 => ?_)
  · replace hw := hw.1 c_1
    refine lv_iload_n hx hb dX3_inverse_12 rfl (lv_at hl 0 rfl) ?_
    refine lv_iconst (v := 1) hx hb dX3_inverse_13 (by decide) ?_
    refine lv_isub hx hb dX3_inverse_14 ?_
    exact j_iret (fun u => []) (() : Unit) hx hb hr hlocks hK hP hD hS hw dX3_inverse_15
  · replace hw := hw.2 c_1
    refine lv_iload_n hx hb dX3_inverse_6 rfl (lv_at hl 0 rfl) ?_
    refine lv_iconst (v := 1) hx hb dX3_inverse_7 (by decide) ?_
    refine lv_iadd hx hb dX3_inverse_8 ?_
    refine lv_goto (tgt := 15) hx hb dX3_inverse_9 (by decide) ?_
    exact j_iret (fun u => []) (() : Unit) hx hb hr hlocks hK hP hD hS hw dX3_inverse_15
theorem q_X3_after_1 : Cond.fieldLink RX3 23 "TwistedRowModel" "now" "[I" ∈ wsX3_after := List.mem_of_getElem? (i := 1) rfl
theorem k_X3_after_X3 : ∀ w ∈ wsX30, w ∈ wsX3_after := my_in _ [25, 26, 27, 28, 29, 30, 31, 32, 33, 34, 35, 36, 37, 38, 39, 40, 41, 42, 43] (by decide +kernel)
theorem q_X3_after_2 : Cond.fieldLink RX3 26 "TwistedRowModel" "then" "[I" ∈ wsX3_after := List.mem_of_getElem? (i := 2) rfl
def wp_X3_after (c_n : Int32) (c_fr : Nat → Int32) (c_no : Nat → Int32) (c_te : Nat → Int32) (p_1 : Int32) (p_2 : Int32) (post : Int32 → ((Nat → Int32) × (Nat → Int32)) → Prop) : Prop := (wp_X3_read c_n c_no p_1 (fun u_1 => (wp_X3_shift c_n c_fr u_1 c_te p_2 (fun u_2 => (wp_X3_numberOf c_n u_2 (fun r_4 u_3 => (post r_4 (u_1, u_2))))))))
set_option maxHeartbeats 4000000 in
set_option maxRecDepth 100000 in
theorem c_X3_after (l : Launch) (D : va_G) (cy : Nat → ClassId) (a_this : Nat) (a_ro : Nat) (a_fr : Nat) (a_bu : Nat) (a_no : Nat) (a_te : Nat) (a_fa : Nat) (a_li : Nat) (a_wy : Nat) (a_su : Nat) (c_th : Int32) (c_n : Int32) (c_tu : Int32) (c_al : Int32) (c_le : Int32) (c_wa : Int32) (c_re : Int32) (c_us : Int32) (c_di : Int32) (c_ha : Int64) (c_fr : Nat → Int32) (c_no : Nat → Int32) (c_te : Nat → Int32) (p_1 : Int32) (p_2 : Int32) {post : Int32 → ((Nat → Int32) × (Nat → Int32)) → Prop} (hw : wp_X3_after c_n c_fr c_no c_te p_1 p_2 post) (sz : Nat) : Met l yX3_after wsX3_after ({ frames := 2, cells := 0, slots := 0, locals := 51 }) (va_Pc [.ref a_this, .int p_1, .int p_2] (PreW D cy ([(a_this, .inr (3, [.int c_th, .int c_n, .int c_tu, .int c_al, .ref a_ro, .ref a_fr, .int c_le, .ref a_bu, .ref a_no, .ref a_te, .ref a_fa, .ref a_li, .int c_wa, .int c_re, .int c_us, .int c_di, .ref a_wy, .ref a_su, .long c_ha])), (a_fr, .inl (cy 0, 96, .inl c_fr)), (a_no, .inl (cy 0, 8, .inl c_no)), (a_te, .inl (cy 0, 8, .inl c_te))]) sz)) (va_Qi post (fun u t => PostW D cy (va_A ([(a_this, .inr (3, [.int c_th, .int c_n, .int c_tu, .int c_al, .ref a_ro, .ref a_fr, .int c_le, .ref a_bu, .ref a_no, .ref a_te, .ref a_fa, .ref a_li, .int c_wa, .int c_re, .int c_us, .int c_di, .ref a_wy, .ref a_su, .long c_ha])), (a_fr, .inl (cy 0, 96, .inl c_fr)), (a_no, .inl (cy 0, 8, .inl c_no)), (a_te, .inl (cy 0, 8, .inl c_te))]) sz) ([(a_this, .inr (3, [.int c_th, .int c_n, .int c_tu, .int c_al, .ref a_ro, .ref a_fr, .int c_le, .ref a_bu, .ref a_no, .ref a_te, .ref a_fa, .ref a_li, .int c_wa, .int c_re, .int c_us, .int c_di, .ref a_wy, .ref a_su, .long c_ha])), (a_fr, .inl (cy 0, 96, .inl c_fr)), (a_no, .inl (cy 0, 8, .inl u.1)), (a_te, .inl (cy 0, 8, .inl u.2))]) t) (va_A ([(a_this, .inr (3, [.int c_th, .int c_n, .int c_tu, .int c_al, .ref a_ro, .ref a_fr, .int c_le, .ref a_bu, .ref a_no, .ref a_te, .ref a_fa, .ref a_li, .int c_wa, .int c_re, .int c_us, .int c_di, .ref a_wy, .ref a_su, .long c_ha])), (a_fr, .inl (cy 0, 96, .inl c_fr)), (a_no, .inl (cy 0, 8, .inl c_no)), (a_te, .inl (cy 0, 8, .inl c_te))]) sz)) 0 0 (va_A ([(a_this, .inr (3, [.int c_th, .int c_n, .int c_tu, .int c_al, .ref a_ro, .ref a_fr, .int c_le, .ref a_bu, .ref a_no, .ref a_te, .ref a_fa, .ref a_li, .int c_wa, .int c_re, .int c_us, .int c_di, .ref a_wy, .ref a_su, .long c_ha])), (a_fr, .inl (cy 0, 96, .inl c_fr)), (a_no, .inl (cy 0, 8, .inl c_no)), (a_te, .inl (cy 0, 8, .inl c_te))]) sz) := by
  refine j_met (Qc := fun A => va_Qi post (fun u t => PostW D cy A ([(a_this, .inr (3, [.int c_th, .int c_n, .int c_tu, .int c_al, .ref a_ro, .ref a_fr, .int c_le, .ref a_bu, .ref a_no, .ref a_te, .ref a_fa, .ref a_li, .int c_wa, .int c_re, .int c_us, .int c_di, .ref a_wy, .ref a_su, .long c_ha])), (a_fr, .inl (cy 0, 96, .inl c_fr)), (a_no, .inl (cy 0, 8, .inl u.1)), (a_te, .inl (cy 0, 8, .inl u.2))]) t) A) (by decide +kernel) rfl (Nat.le_of_ble_eq_true rfl) ?_
  intro p e s m below meth c A ls C0 hr hlocks hP hD hS hl
  obtain ⟨hx, hb, hml, hown, hts, hK, hA⟩ := id C0
  have hown : s.vm.findClass RX3 = some m.cls := hown
  have hl : lv_has ls 3 [(0, .ref a_this), (1, .int p_1), (2, .int p_2)] := hl
  unfold wp_X3_after at hw
  refine lv_aload_n hx hb dX3_after_0 rfl (lv_at hl 0 rfl) ?_
  refine lv_iload_n hx hb dX3_after_1 rfl (lv_at hl 1 rfl) ?_
  refine lv_aload_n hx hb dX3_after_2 rfl (lv_at hl 0 rfl) ?_
  refine va_get (D := D) (ci := 3) (v := .ref a_no) (C := RX3) (T := TX3) (N := 19) hx hb hts k_X3_after_X3 hown hK hP 0 rfl rfl 8 (by decide) (hts _ q_X3_after_1) (fun _ h9 => h9) rfl dX3_after_3 ?_
  refine j_callv (wr := [(a_fr, .inl (cy 0, 96, .inl c_fr)), (a_te, .inl (cy 0, 8, .inl c_te))]) (va_runV (As := [.int p_1, .ref a_no]) (rest := []) ⟨hx, hb, hml, hown, hts⟩ (c_X3_read l D cy a_this a_ro a_fr a_bu a_no a_te a_fa a_li a_wy a_su a_no c_th c_n c_tu c_al c_le c_wa c_re c_us c_di c_ha c_no p_1 hw s.heap.size) (cwV 2 hts gX3_after_X3_read rfl rfl rfl (by decide +kernel) ⟨Nat.le_of_ble_eq_true rfl, Nat.le_of_ble_eq_true rfl⟩) (j_preV hK hP hD (isC := [0, 2]) rfl (by decide +kernel) (ci := 3) (q0 := 0) rfl rfl) rfl rfl hl.1 rfl (lv_room (Nat.le_of_ble_eq_true rfl)) dX3_after_6 ⟨Nat.le_of_ble_eq_true rfl, Nat.le_of_ble_eq_true rfl⟩) hP hD hS hA [0, 2] [1, 3] rfl rfl (by decide +kernel) (by decide +kernel) (fun u_1 => [(a_this, .inr (3, [.int c_th, .int c_n, .int c_tu, .int c_al, .ref a_ro, .ref a_fr, .int c_le, .ref a_bu, .ref a_no, .ref a_te, .ref a_fa, .ref a_li, .int c_wa, .int c_re, .int c_us, .int c_di, .ref a_wy, .ref a_su, .long c_ha])), (a_fr, .inl (cy 0, 96, .inl c_fr)), (a_no, .inl (cy 0, 8, .inl u_1)), (a_te, .inl (cy 0, 8, .inl c_te))]) [2, 0, 3, 1] (by decide +kernel) (fun u => rfl) (fun u_1 H locs hw hP hD hS => ?_)
  have hP : va_P D vwCl ([(a_this, .inr (3, [.int c_th, .int c_n, .int c_tu, .int c_al, .ref a_ro, .ref a_fr, .int c_le, .ref a_bu, .ref a_no, .ref a_te, .ref a_fa, .ref a_li, .int c_wa, .int c_re, .int c_us, .int c_di, .ref a_wy, .ref a_su, .long c_ha])), (a_fr, .inl (cy 0, 96, .inl c_fr)), (a_no, .inl (cy 0, 8, .inl u_1)), (a_te, .inl (cy 0, 8, .inl c_te))]) H := hP
  have hD : va_D A ([(a_this, .inr (3, [.int c_th, .int c_n, .int c_tu, .int c_al, .ref a_ro, .ref a_fr, .int c_le, .ref a_bu, .ref a_no, .ref a_te, .ref a_fa, .ref a_li, .int c_wa, .int c_re, .int c_us, .int c_di, .ref a_wy, .ref a_su, .long c_ha])), (a_fr, .inl (cy 0, 96, .inl c_fr)), (a_no, .inl (cy 0, 8, .inl u_1)), (a_te, .inl (cy 0, 8, .inl c_te))]) := hD
  refine lv_aload_n hx hb dX3_after_9 rfl (lv_at hl 0 rfl) ?_
  refine lv_iload_n hx hb dX3_after_10 rfl (lv_at hl 2 rfl) ?_
  refine lv_aload_n hx hb dX3_after_11 rfl (lv_at hl 0 rfl) ?_
  refine va_get (D := D) (ci := 3) (v := .ref a_no) (C := RX3) (T := TX3) (N := 19) hx hb hts k_X3_after_X3 hown hK hP 0 rfl rfl 8 (by decide) (hts _ q_X3_after_1) (fun _ h9 => h9) rfl dX3_after_12 ?_
  refine lv_aload_n hx hb dX3_after_15 rfl (lv_at hl 0 rfl) ?_
  refine va_get (D := D) (ci := 3) (v := .ref a_te) (C := RX3) (T := TX3) (N := 19) hx hb hts k_X3_after_X3 hown hK hP 0 rfl rfl 9 (by decide) (hts _ q_X3_after_2) (fun _ h9 => h9) rfl dX3_after_16 ?_
  refine j_callv (wr := []) (va_runV (As := [.int p_2, .ref a_no, .ref a_te]) (rest := []) ⟨hx, hb, hml, hown, hts⟩ (c_X3_shift l D cy a_this a_ro a_fr a_bu a_no a_te a_fa a_li a_wy a_su a_no a_te c_th c_n c_tu c_al c_le c_wa c_re c_us c_di c_ha c_fr u_1 c_te p_2 hw H.size) (cwV 3 hts gX3_after_X3_shift rfl rfl rfl (by decide +kernel) ⟨Nat.le_of_ble_eq_true rfl, Nat.le_of_ble_eq_true rfl⟩) (j_preV hK hP hD (isC := [0, 1, 2, 3]) rfl (by decide +kernel) (ci := 3) (q0 := 0) rfl rfl) rfl rfl hl.1 rfl (lv_room (Nat.le_of_ble_eq_true rfl)) dX3_after_19 ⟨Nat.le_of_ble_eq_true rfl, Nat.le_of_ble_eq_true rfl⟩) hP hD hS hA [0, 1, 2, 3] [] rfl rfl (by decide +kernel) (by decide +kernel) (fun u_2 => [(a_this, .inr (3, [.int c_th, .int c_n, .int c_tu, .int c_al, .ref a_ro, .ref a_fr, .int c_le, .ref a_bu, .ref a_no, .ref a_te, .ref a_fa, .ref a_li, .int c_wa, .int c_re, .int c_us, .int c_di, .ref a_wy, .ref a_su, .long c_ha])), (a_fr, .inl (cy 0, 96, .inl c_fr)), (a_no, .inl (cy 0, 8, .inl u_1)), (a_te, .inl (cy 0, 8, .inl u_2))]) [0, 1, 2, 3] (by decide +kernel) (fun u => rfl) (fun u_2 H locs hw hP hD hS => ?_)
  have hP : va_P D vwCl ([(a_this, .inr (3, [.int c_th, .int c_n, .int c_tu, .int c_al, .ref a_ro, .ref a_fr, .int c_le, .ref a_bu, .ref a_no, .ref a_te, .ref a_fa, .ref a_li, .int c_wa, .int c_re, .int c_us, .int c_di, .ref a_wy, .ref a_su, .long c_ha])), (a_fr, .inl (cy 0, 96, .inl c_fr)), (a_no, .inl (cy 0, 8, .inl u_1)), (a_te, .inl (cy 0, 8, .inl u_2))]) H := hP
  have hD : va_D A ([(a_this, .inr (3, [.int c_th, .int c_n, .int c_tu, .int c_al, .ref a_ro, .ref a_fr, .int c_le, .ref a_bu, .ref a_no, .ref a_te, .ref a_fa, .ref a_li, .int c_wa, .int c_re, .int c_us, .int c_di, .ref a_wy, .ref a_su, .long c_ha])), (a_fr, .inl (cy 0, 96, .inl c_fr)), (a_no, .inl (cy 0, 8, .inl u_1)), (a_te, .inl (cy 0, 8, .inl u_2))]) := hD
  refine lv_aload_n hx hb dX3_after_22 rfl (lv_at hl 0 rfl) ?_
  refine lv_aload_n hx hb dX3_after_23 rfl (lv_at hl 0 rfl) ?_
  refine va_get (D := D) (ci := 3) (v := .ref a_te) (C := RX3) (T := TX3) (N := 19) hx hb hts k_X3_after_X3 hown hK hP 0 rfl rfl 9 (by decide) (hts _ q_X3_after_2) (fun _ h9 => h9) rfl dX3_after_24 ?_
  refine j_calli (wr := [(a_fr, .inl (cy 0, 96, .inl c_fr)), (a_no, .inl (cy 0, 8, .inl u_1))]) (va_runV (As := [.ref a_te]) (rest := []) ⟨hx, hb, hml, hown, hts⟩ (c_X3_numberOf l D cy a_this a_ro a_fr a_bu a_no a_te a_fa a_li a_wy a_su a_te c_th c_n c_tu c_al c_le c_wa c_re c_us c_di c_ha u_2 hw H.size) (cwV 1 hts gX3_after_X3_numberOf rfl rfl rfl (by decide +kernel) ⟨Nat.le_of_ble_eq_true rfl, Nat.le_of_ble_eq_true rfl⟩) (j_preV hK hP hD (isC := [0, 3]) rfl (by decide +kernel) (ci := 3) (q0 := 0) rfl rfl) rfl rfl hl.1 rfl (lv_room (Nat.le_of_ble_eq_true rfl)) dX3_after_27 ⟨Nat.le_of_ble_eq_true rfl, Nat.le_of_ble_eq_true rfl⟩) hP hD hS hA [0, 3] [1, 2] rfl rfl (by decide +kernel) (by decide +kernel) (fun u_3 => [(a_this, .inr (3, [.int c_th, .int c_n, .int c_tu, .int c_al, .ref a_ro, .ref a_fr, .int c_le, .ref a_bu, .ref a_no, .ref a_te, .ref a_fa, .ref a_li, .int c_wa, .int c_re, .int c_us, .int c_di, .ref a_wy, .ref a_su, .long c_ha])), (a_fr, .inl (cy 0, 96, .inl c_fr)), (a_no, .inl (cy 0, 8, .inl u_1)), (a_te, .inl (cy 0, 8, .inl u_2))]) [2, 0, 1, 3] (by decide +kernel) (fun u => rfl) (fun r_4 u_3 H locs hw hP hD hS => ?_)
  have hP : va_P D vwCl ([(a_this, .inr (3, [.int c_th, .int c_n, .int c_tu, .int c_al, .ref a_ro, .ref a_fr, .int c_le, .ref a_bu, .ref a_no, .ref a_te, .ref a_fa, .ref a_li, .int c_wa, .int c_re, .int c_us, .int c_di, .ref a_wy, .ref a_su, .long c_ha])), (a_fr, .inl (cy 0, 96, .inl c_fr)), (a_no, .inl (cy 0, 8, .inl u_1)), (a_te, .inl (cy 0, 8, .inl u_2))]) H := hP
  have hD : va_D A ([(a_this, .inr (3, [.int c_th, .int c_n, .int c_tu, .int c_al, .ref a_ro, .ref a_fr, .int c_le, .ref a_bu, .ref a_no, .ref a_te, .ref a_fa, .ref a_li, .int c_wa, .int c_re, .int c_us, .int c_di, .ref a_wy, .ref a_su, .long c_ha])), (a_fr, .inl (cy 0, 96, .inl c_fr)), (a_no, .inl (cy 0, 8, .inl u_1)), (a_te, .inl (cy 0, 8, .inl u_2))]) := hD
  exact j_iret (fun u => [(a_this, .inr (3, [.int c_th, .int c_n, .int c_tu, .int c_al, .ref a_ro, .ref a_fr, .int c_le, .ref a_bu, .ref a_no, .ref a_te, .ref a_fa, .ref a_li, .int c_wa, .int c_re, .int c_us, .int c_di, .ref a_wy, .ref a_su, .long c_ha])), (a_fr, .inl (cy 0, 96, .inl c_fr)), (a_no, .inl (cy 0, 8, .inl u.1)), (a_te, .inl (cy 0, 8, .inl u.2))]) ((u_1, u_2) : (Nat → Int32) × (Nat → Int32)) hx hb hr hlocks hK hP hD hS hw dX3_after_30
theorem q_X3_begins_1 : Cond.fieldLink RX3 7 "TwistedRowModel" "n" "I" ∈ wsX3_begins := List.mem_of_getElem? (i := 1) rfl
theorem k_X3_begins_X3 : ∀ w ∈ wsX30, w ∈ wsX3_begins := my_in _ [9, 10, 11, 12, 13, 14, 15, 16, 17, 18, 19, 20, 21, 22, 23, 24, 25, 26, 27] (by decide +kernel)
theorem q_X3_begins_2 : Cond.fieldLink RX3 30 "TwistedRowModel" "far" "[I" ∈ wsX3_begins := List.mem_of_getElem? (i := 2) rfl
theorem q_X3_begins_3 : Cond.fieldLink RX3 76 "TwistedRowModel" "waiting" "I" ∈ wsX3_begins := List.mem_of_getElem? (i := 3) rfl
def lp_X3_begins_2 (c_n : Int32) (K27 : Int32 → (Nat → Int32) → Prop) : Nat → Int32 → (Nat → Int32) → Prop
  | 0, _, _ => False
  | N + 1, v_1, c_fa => (wp_X3_factorial c_n (fun r_2 u_1 => ((r_2 ≤ v_1 → (K27 v_1 c_fa)) ∧ (¬ r_2 ≤ v_1 → (vp_in v_1 40320 ∧ (lp_X3_begins_2 c_n K27 N (v_1 + 1) (upd c_fa ((v_1 : Int32).toNatClampNeg) (-1))))))))
set_option maxHeartbeats 4000000 in
set_option maxRecDepth 100000 in
theorem l_X3_begins_2 {p : Program} {l : Launch} {e : Env} {s : State} {m : MethodId} {args : Array Value} {below : List Frame} {meth : Method} {c : Code} {A : Nat → Prop} {D : va_G} {cy : Nat → ClassId} {Q : State → Prop} {a_this : Nat} {a_ro : Nat} {a_fr : Nat} {a_bu : Nat} {a_no : Nat} {a_te : Nat} {a_fa : Nat} {a_li : Nat} {a_wy : Nat} {a_su : Nat} {c_th : Int32} {c_n : Int32} {c_tu : Int32} {c_al : Int32} {c_le : Int32} {c_wa : Int32} {c_re : Int32} {c_us : Int32} {c_di : Int32} {c_ha : Int64} {K27 : Int32 → (Nat → Int32) → Prop} (C0 : Cx p s m args c cX3_begins yX3_begins.cls 2 wsX3_begins D cy A)
    (k27 : ∀ (v_1 : Int32) (c_fa : Nat → Int32) (H : Heap) (locs : List Loc) (ls : Array Slot), K27 v_1 c_fa → va_P D vwCl ([(a_this, .inr (3, [.int c_th, .int c_n, .int c_tu, .int c_al, .ref a_ro, .ref a_fr, .int c_le, .ref a_bu, .ref a_no, .ref a_te, .ref a_fa, .ref a_li, .int c_wa, .int c_re, .int c_us, .int c_di, .ref a_wy, .ref a_su, .long c_ha])), (a_fa, .inl (cy 0, 40320, .inl c_fa))]) H → va_D A ([(a_this, .inr (3, [.int c_th, .int c_n, .int c_tu, .int c_al, .ref a_ro, .ref a_fr, .int c_le, .ref a_bu, .ref a_no, .ref a_te, .ref a_fa, .ref a_li, .int c_wa, .int c_re, .int c_us, .int c_di, .ref a_wy, .ref a_su, .long c_ha])), (a_fa, .inl (cy 0, 40320, .inl c_fa))]) → va_S A s.heap H locs → lv_has ls 2 [(0, .ref a_this)] → W p l e (({ frames := 1, cells := 0, slots := 0, locals := 23 } : Room)) s m args below meth c H locs 0 0 Q (F0 m 27 ls [])) :
    ∀ (N : Nat) (v_1 : Int32) (c_fa : Nat → Int32) (H : Heap) (locs : List Loc) (ls : Array Slot), lp_X3_begins_2 c_n K27 N v_1 c_fa → va_P D vwCl ([(a_this, .inr (3, [.int c_th, .int c_n, .int c_tu, .int c_al, .ref a_ro, .ref a_fr, .int c_le, .ref a_bu, .ref a_no, .ref a_te, .ref a_fa, .ref a_li, .int c_wa, .int c_re, .int c_us, .int c_di, .ref a_wy, .ref a_su, .long c_ha])), (a_fa, .inl (cy 0, 40320, .inl c_fa))]) H → va_D A ([(a_this, .inr (3, [.int c_th, .int c_n, .int c_tu, .int c_al, .ref a_ro, .ref a_fr, .int c_le, .ref a_bu, .ref a_no, .ref a_te, .ref a_fa, .ref a_li, .int c_wa, .int c_re, .int c_us, .int c_di, .ref a_wy, .ref a_su, .long c_ha])), (a_fa, .inl (cy 0, 40320, .inl c_fa))]) → va_S A s.heap H locs → lv_has ls 2 [(0, .ref a_this), (1, .int v_1)] → W p l e (({ frames := 1, cells := 0, slots := 0, locals := 23 } : Room)) s m args below meth c H locs 0 0 Q (F0 m 2 ls []) := by
  obtain ⟨hx, hb, hml, hown, hts, hK, hA⟩ := id C0
  intro N
  induction N with
  | zero =>
    intro v_1 c_fa H locs ls hw
    exact False.elim hw
  | succ N ih =>
    intro v_1 c_fa H locs ls hw hP hD hS hl
    rw [lp_X3_begins_2] at hw
    refine lv_iload_n hx hb dX3_begins_2 rfl (lv_at hl 1 rfl) ?_
    refine lv_aload_n hx hb dX3_begins_3 rfl (lv_at hl 0 rfl) ?_
    refine lv_aload_n hx hb dX3_begins_4 rfl (lv_at hl 0 rfl) ?_
    refine va_get (D := D) (ci := 3) (v := .int c_n) (C := RX3) (T := TX3) (N := 19) hx hb hts k_X3_begins_X3 hown hK hP 0 rfl rfl 1 (by decide) (hts _ q_X3_begins_1) (fun _ h9 => h9) rfl dX3_begins_5 ?_
    refine j_calli (wr := [(a_fa, .inl (cy 0, 40320, .inl c_fa))]) (va_runV (As := [.int c_n]) (rest := [.int v_1]) ⟨hx, hb, hml, hown, hts⟩ (c_X3_factorial l D cy a_this a_ro a_fr a_bu a_no a_te a_fa a_li a_wy a_su c_th c_n c_tu c_al c_le c_wa c_re c_us c_di c_ha c_n hw H.size) (cwV 1 hts gX3_begins_X3_factorial rfl rfl rfl (by decide +kernel) ⟨Nat.le_of_ble_eq_true rfl, Nat.le_of_ble_eq_true rfl⟩) (j_preV hK hP hD (isC := [0]) rfl (by decide +kernel) (ci := 3) (q0 := 0) rfl rfl) rfl rfl hl.1 rfl (lv_room (Nat.le_of_ble_eq_true rfl)) dX3_begins_8 ⟨Nat.le_of_ble_eq_true rfl, Nat.le_of_ble_eq_true rfl⟩) hP hD hS hA [0] [1] rfl rfl (by decide +kernel) (by decide +kernel) (fun u_1 => [(a_this, .inr (3, [.int c_th, .int c_n, .int c_tu, .int c_al, .ref a_ro, .ref a_fr, .int c_le, .ref a_bu, .ref a_no, .ref a_te, .ref a_fa, .ref a_li, .int c_wa, .int c_re, .int c_us, .int c_di, .ref a_wy, .ref a_su, .long c_ha])), (a_fa, .inl (cy 0, 40320, .inl c_fa))]) [1, 0] (by decide +kernel) (fun u => rfl) (fun r_2 u_1 H locs hw hP hD hS => ?_)
    have hP : va_P D vwCl ([(a_this, .inr (3, [.int c_th, .int c_n, .int c_tu, .int c_al, .ref a_ro, .ref a_fr, .int c_le, .ref a_bu, .ref a_no, .ref a_te, .ref a_fa, .ref a_li, .int c_wa, .int c_re, .int c_us, .int c_di, .ref a_wy, .ref a_su, .long c_ha])), (a_fa, .inl (cy 0, 40320, .inl c_fa))]) H := hP
    have hD : va_D A ([(a_this, .inr (3, [.int c_th, .int c_n, .int c_tu, .int c_al, .ref a_ro, .ref a_fr, .int c_le, .ref a_bu, .ref a_no, .ref a_te, .ref a_fa, .ref a_li, .int c_wa, .int c_re, .int c_us, .int c_di, .ref a_wy, .ref a_su, .long c_ha])), (a_fa, .inl (cy 0, 40320, .inl c_fa))]) := hD
    refine lv_icmp_ge (tgt := 27) hx hb dX3_begins_11 (by decide) (fun c_3 => ?_) (fun c_3 => ?_)
    · replace hw := hw.1 c_3
      exact k27 _ _ _ _ _ hw hP hD hS (lv_sub hl [0] rfl)
    · replace hw := hw.2 c_3
      refine lv_aload_n hx hb dX3_begins_14 rfl (lv_at hl 0 rfl) ?_
      refine va_get (D := D) (ci := 3) (v := .ref a_fa) (C := RX3) (T := TX3) (N := 19) hx hb hts k_X3_begins_X3 hown hK hP 0 rfl rfl 10 (by decide) (hts _ q_X3_begins_2) (fun _ h9 => h9) rfl dX3_begins_15 ?_
      refine lv_iload_n hx hb dX3_begins_18 rfl (lv_at hl 1 rfl) ?_
      refine lv_iconst (v := (-1)) hx hb dX3_begins_19 (by decide) ?_
      obtain ⟨h_4, hw⟩ := hw
      refine va_iast hx hb hK hP hD hS 1 0 rfl rfl h_4 dX3_begins_20 (fun H locs hP hD hS => ?_)
      have hP : va_P D vwCl ([(a_this, .inr (3, [.int c_th, .int c_n, .int c_tu, .int c_al, .ref a_ro, .ref a_fr, .int c_le, .ref a_bu, .ref a_no, .ref a_te, .ref a_fa, .ref a_li, .int c_wa, .int c_re, .int c_us, .int c_di, .ref a_wy, .ref a_su, .long c_ha])), (a_fa, .inl (cy 0, 40320, .inl (upd c_fa ((v_1 : Int32).toNatClampNeg) (-1))))]) H := hP
      have hD : va_D A ([(a_this, .inr (3, [.int c_th, .int c_n, .int c_tu, .int c_al, .ref a_ro, .ref a_fr, .int c_le, .ref a_bu, .ref a_no, .ref a_te, .ref a_fa, .ref a_li, .int c_wa, .int c_re, .int c_us, .int c_di, .ref a_wy, .ref a_su, .long c_ha])), (a_fa, .inl (cy 0, 40320, .inl (upd c_fa ((v_1 : Int32).toNatClampNeg) (-1))))]) := hD
      refine lv_iinc (v := v_1 + 1) (lv' := [(1, .int (v_1 + 1)), (0, .ref a_this)]) hx hb dX3_begins_21 hl (k := 1) rfl rfl (by decide) rfl (fun ls hl => ?_)
      refine lv_goto (tgt := 2) hx hb dX3_begins_24 (by decide) ?_
      exact ih _ _ _ _ _ hw hP hD hS (lv_sub hl [1, 0] rfl)
def wp_X3_begins (c_n : Int32) (c_fa : Nat → Int32) (post : (Int32 × (Nat → Int32)) → Prop) : Prop := (∃ N_5 : Nat, lp_X3_begins_2 c_n (fun (v_6 : Int32) (c_7 : Nat → Int32) => (post ((0 : Int32), c_7))) N_5 0 c_fa)
set_option maxHeartbeats 4000000 in
set_option maxRecDepth 100000 in
theorem c_X3_begins (l : Launch) (D : va_G) (cy : Nat → ClassId) (a_this : Nat) (a_ro : Nat) (a_fr : Nat) (a_bu : Nat) (a_no : Nat) (a_te : Nat) (a_fa : Nat) (a_li : Nat) (a_wy : Nat) (a_su : Nat) (c_th : Int32) (c_n : Int32) (c_tu : Int32) (c_al : Int32) (c_le : Int32) (c_wa : Int32) (c_re : Int32) (c_us : Int32) (c_di : Int32) (c_ha : Int64) (c_fa : Nat → Int32) {post : (Int32 × (Nat → Int32)) → Prop} (hw : wp_X3_begins c_n c_fa post) (sz : Nat) : Met l yX3_begins wsX3_begins ({ frames := 1, cells := 0, slots := 0, locals := 23 }) (va_Pc [.ref a_this] (PreW D cy ([(a_this, .inr (3, [.int c_th, .int c_n, .int c_tu, .int c_al, .ref a_ro, .ref a_fr, .int c_le, .ref a_bu, .ref a_no, .ref a_te, .ref a_fa, .ref a_li, .int c_wa, .int c_re, .int c_us, .int c_di, .ref a_wy, .ref a_su, .long c_ha])), (a_fa, .inl (cy 0, 40320, .inl c_fa))]) sz)) (va_Qv post (fun u t => PostW D cy (va_A ([(a_this, .inr (3, [.int c_th, .int c_n, .int c_tu, .int c_al, .ref a_ro, .ref a_fr, .int c_le, .ref a_bu, .ref a_no, .ref a_te, .ref a_fa, .ref a_li, .int c_wa, .int c_re, .int c_us, .int c_di, .ref a_wy, .ref a_su, .long c_ha])), (a_fa, .inl (cy 0, 40320, .inl c_fa))]) sz) ([(a_this, .inr (3, [.int c_th, .int c_n, .int c_tu, .int c_al, .ref a_ro, .ref a_fr, .int c_le, .ref a_bu, .ref a_no, .ref a_te, .ref a_fa, .ref a_li, .int u.1, .int c_re, .int c_us, .int c_di, .ref a_wy, .ref a_su, .long c_ha])), (a_fa, .inl (cy 0, 40320, .inl u.2))]) t) (va_A ([(a_this, .inr (3, [.int c_th, .int c_n, .int c_tu, .int c_al, .ref a_ro, .ref a_fr, .int c_le, .ref a_bu, .ref a_no, .ref a_te, .ref a_fa, .ref a_li, .int c_wa, .int c_re, .int c_us, .int c_di, .ref a_wy, .ref a_su, .long c_ha])), (a_fa, .inl (cy 0, 40320, .inl c_fa))]) sz)) 0 0 (va_A ([(a_this, .inr (3, [.int c_th, .int c_n, .int c_tu, .int c_al, .ref a_ro, .ref a_fr, .int c_le, .ref a_bu, .ref a_no, .ref a_te, .ref a_fa, .ref a_li, .int c_wa, .int c_re, .int c_us, .int c_di, .ref a_wy, .ref a_su, .long c_ha])), (a_fa, .inl (cy 0, 40320, .inl c_fa))]) sz) := by
  refine j_met (Qc := fun A => va_Qv post (fun u t => PostW D cy A ([(a_this, .inr (3, [.int c_th, .int c_n, .int c_tu, .int c_al, .ref a_ro, .ref a_fr, .int c_le, .ref a_bu, .ref a_no, .ref a_te, .ref a_fa, .ref a_li, .int u.1, .int c_re, .int c_us, .int c_di, .ref a_wy, .ref a_su, .long c_ha])), (a_fa, .inl (cy 0, 40320, .inl u.2))]) t) A) (by decide +kernel) rfl (Nat.le_of_ble_eq_true rfl) ?_
  intro p e s m below meth c A ls C0 hr hlocks hP hD hS hl
  obtain ⟨hx, hb, hml, hown, hts, hK, hA⟩ := id C0
  have hown : s.vm.findClass RX3 = some m.cls := hown
  have hl : lv_has ls 2 [(0, .ref a_this)] := hl
  unfold wp_X3_begins at hw
  refine lv_iconst (v := 0) hx hb dX3_begins_0 (by decide) ?_
  refine lv_istore_n (lv' := [(1, .int 0), (0, .ref a_this)]) hx hb dX3_begins_1 rfl hl (by decide) rfl (fun ls hl => ?_)
  obtain ⟨N_5, hw⟩ := hw
  refine l_X3_begins_2 C0 (fun v_6 c_7 H locs ls hw hP hD hS hl => ?_) _ _ _ _ _ _ hw hP hD hS (lv_sub hl [1, 0] rfl)
  refine lv_aload_n hx hb dX3_begins_27 rfl (lv_at hl 0 rfl) ?_
  refine lv_iconst (v := 0) hx hb dX3_begins_28 (by decide) ?_
  refine va_put (D := D) (ci := 3) (v := .int 0) (ty := .int) (C := RX3) (T := TX3) (N := 19) hx hb hts k_X3_begins_X3 tyX3 tyX3_ok nmX3 hown hK hP hD hS 0 rfl rfl 12 (by decide) (hts _ q_X3_begins_3) (fun _ h9 => h9) rfl (by decide +kernel) rfl rfl (Nat.le_of_ble_eq_true rfl) dX3_begins_29 (fun H locs hP hD hS => ?_)
  have hP : va_P D vwCl ([(a_this, .inr (3, [.int c_th, .int c_n, .int c_tu, .int c_al, .ref a_ro, .ref a_fr, .int c_le, .ref a_bu, .ref a_no, .ref a_te, .ref a_fa, .ref a_li, .int (0 : Int32), .int c_re, .int c_us, .int c_di, .ref a_wy, .ref a_su, .long c_ha])), (a_fa, .inl (cy 0, 40320, .inl c_7))]) H := hP
  have hD : va_D A ([(a_this, .inr (3, [.int c_th, .int c_n, .int c_tu, .int c_al, .ref a_ro, .ref a_fr, .int c_le, .ref a_bu, .ref a_no, .ref a_te, .ref a_fa, .ref a_li, .int (0 : Int32), .int c_re, .int c_us, .int c_di, .ref a_wy, .ref a_su, .long c_ha])), (a_fa, .inl (cy 0, 40320, .inl c_7))]) := hD
  exact j_vret (fun u => [(a_this, .inr (3, [.int c_th, .int c_n, .int c_tu, .int c_al, .ref a_ro, .ref a_fr, .int c_le, .ref a_bu, .ref a_no, .ref a_te, .ref a_fa, .ref a_li, .int u.1, .int c_re, .int c_us, .int c_di, .ref a_wy, .ref a_su, .long c_ha])), (a_fa, .inl (cy 0, 40320, .inl u.2))]) (((0 : Int32), c_7) : Int32 × (Nat → Int32)) hx hb hr hlocks hK hP hD hS hw dX3_begins_32
theorem q_X3_aim_1 : Cond.fieldLink RX3 30 "TwistedRowModel" "far" "[I" ∈ wsX3_aim := List.mem_of_getElem? (i := 1) rfl
theorem k_X3_aim_X3 : ∀ w ∈ wsX30, w ∈ wsX3_aim := my_in _ [4, 5, 6, 7, 8, 9, 10, 11, 12, 13, 14, 15, 16, 17, 18, 19, 20, 21, 22] (by decide +kernel)
theorem q_X3_aim_2 : Cond.fieldLink RX3 33 "TwistedRowModel" "line" "[I" ∈ wsX3_aim := List.mem_of_getElem? (i := 2) rfl
theorem q_X3_aim_3 : Cond.fieldLink RX3 76 "TwistedRowModel" "waiting" "I" ∈ wsX3_aim := List.mem_of_getElem? (i := 3) rfl
def wp_X3_aim (c_wa : Int32) (c_fa : Nat → Int32) (c_li : Nat → Int32) (p_1 : Int32) (post : (Int32 × (Nat → Int32) × (Nat → Int32)) → Prop) : Prop := (vp_in p_1 40320 ∧ (vp_in c_wa 40320 ∧ (∀ x_3 : Int32, x_3 = c_wa + 1 → (post (x_3, upd c_fa ((p_1 : Int32).toNatClampNeg) 0, upd c_li ((c_wa : Int32).toNatClampNeg) p_1)))))
set_option maxHeartbeats 4000000 in
set_option maxRecDepth 100000 in
theorem c_X3_aim (l : Launch) (D : va_G) (cy : Nat → ClassId) (a_this : Nat) (a_ro : Nat) (a_fr : Nat) (a_bu : Nat) (a_no : Nat) (a_te : Nat) (a_fa : Nat) (a_li : Nat) (a_wy : Nat) (a_su : Nat) (c_th : Int32) (c_n : Int32) (c_tu : Int32) (c_al : Int32) (c_le : Int32) (c_wa : Int32) (c_re : Int32) (c_us : Int32) (c_di : Int32) (c_ha : Int64) (c_fa : Nat → Int32) (c_li : Nat → Int32) (p_1 : Int32) {post : (Int32 × (Nat → Int32) × (Nat → Int32)) → Prop} (hw : wp_X3_aim c_wa c_fa c_li p_1 post) (sz : Nat) : Met l yX3_aim wsX3_aim ({ frames := 0, cells := 0, slots := 0, locals := 0 }) (va_Pc [.ref a_this, .int p_1] (PreW D cy ([(a_this, .inr (3, [.int c_th, .int c_n, .int c_tu, .int c_al, .ref a_ro, .ref a_fr, .int c_le, .ref a_bu, .ref a_no, .ref a_te, .ref a_fa, .ref a_li, .int c_wa, .int c_re, .int c_us, .int c_di, .ref a_wy, .ref a_su, .long c_ha])), (a_fa, .inl (cy 0, 40320, .inl c_fa)), (a_li, .inl (cy 0, 40320, .inl c_li))]) sz)) (va_Qv post (fun u t => PostW D cy (va_A ([(a_this, .inr (3, [.int c_th, .int c_n, .int c_tu, .int c_al, .ref a_ro, .ref a_fr, .int c_le, .ref a_bu, .ref a_no, .ref a_te, .ref a_fa, .ref a_li, .int c_wa, .int c_re, .int c_us, .int c_di, .ref a_wy, .ref a_su, .long c_ha])), (a_fa, .inl (cy 0, 40320, .inl c_fa)), (a_li, .inl (cy 0, 40320, .inl c_li))]) sz) ([(a_this, .inr (3, [.int c_th, .int c_n, .int c_tu, .int c_al, .ref a_ro, .ref a_fr, .int c_le, .ref a_bu, .ref a_no, .ref a_te, .ref a_fa, .ref a_li, .int u.1, .int c_re, .int c_us, .int c_di, .ref a_wy, .ref a_su, .long c_ha])), (a_fa, .inl (cy 0, 40320, .inl u.2.1)), (a_li, .inl (cy 0, 40320, .inl u.2.2))]) t) (va_A ([(a_this, .inr (3, [.int c_th, .int c_n, .int c_tu, .int c_al, .ref a_ro, .ref a_fr, .int c_le, .ref a_bu, .ref a_no, .ref a_te, .ref a_fa, .ref a_li, .int c_wa, .int c_re, .int c_us, .int c_di, .ref a_wy, .ref a_su, .long c_ha])), (a_fa, .inl (cy 0, 40320, .inl c_fa)), (a_li, .inl (cy 0, 40320, .inl c_li))]) sz)) 0 0 (va_A ([(a_this, .inr (3, [.int c_th, .int c_n, .int c_tu, .int c_al, .ref a_ro, .ref a_fr, .int c_le, .ref a_bu, .ref a_no, .ref a_te, .ref a_fa, .ref a_li, .int c_wa, .int c_re, .int c_us, .int c_di, .ref a_wy, .ref a_su, .long c_ha])), (a_fa, .inl (cy 0, 40320, .inl c_fa)), (a_li, .inl (cy 0, 40320, .inl c_li))]) sz) := by
  refine j_met (Qc := fun A => va_Qv post (fun u t => PostW D cy A ([(a_this, .inr (3, [.int c_th, .int c_n, .int c_tu, .int c_al, .ref a_ro, .ref a_fr, .int c_le, .ref a_bu, .ref a_no, .ref a_te, .ref a_fa, .ref a_li, .int u.1, .int c_re, .int c_us, .int c_di, .ref a_wy, .ref a_su, .long c_ha])), (a_fa, .inl (cy 0, 40320, .inl u.2.1)), (a_li, .inl (cy 0, 40320, .inl u.2.2))]) t) A) (by decide +kernel) rfl (Nat.le_of_ble_eq_true rfl) ?_
  intro p e s m below meth c A ls C0 hr hlocks hP hD hS hl
  obtain ⟨hx, hb, hml, hown, hts, hK, hA⟩ := id C0
  have hown : s.vm.findClass RX3 = some m.cls := hown
  have hl : lv_has ls 2 [(0, .ref a_this), (1, .int p_1)] := hl
  unfold wp_X3_aim at hw
  refine lv_aload_n hx hb dX3_aim_0 rfl (lv_at hl 0 rfl) ?_
  refine va_get (D := D) (ci := 3) (v := .ref a_fa) (C := RX3) (T := TX3) (N := 19) hx hb hts k_X3_aim_X3 hown hK hP 0 rfl rfl 10 (by decide) (hts _ q_X3_aim_1) (fun _ h9 => h9) rfl dX3_aim_1 ?_
  refine lv_iload_n hx hb dX3_aim_4 rfl (lv_at hl 1 rfl) ?_
  refine lv_iconst (v := 0) hx hb dX3_aim_5 (by decide) ?_
  obtain ⟨h_1, hw⟩ := hw
  refine va_iast hx hb hK hP hD hS 1 0 rfl rfl h_1 dX3_aim_6 (fun H locs hP hD hS => ?_)
  have hP : va_P D vwCl ([(a_this, .inr (3, [.int c_th, .int c_n, .int c_tu, .int c_al, .ref a_ro, .ref a_fr, .int c_le, .ref a_bu, .ref a_no, .ref a_te, .ref a_fa, .ref a_li, .int c_wa, .int c_re, .int c_us, .int c_di, .ref a_wy, .ref a_su, .long c_ha])), (a_fa, .inl (cy 0, 40320, .inl (upd c_fa ((p_1 : Int32).toNatClampNeg) 0))), (a_li, .inl (cy 0, 40320, .inl c_li))]) H := hP
  have hD : va_D A ([(a_this, .inr (3, [.int c_th, .int c_n, .int c_tu, .int c_al, .ref a_ro, .ref a_fr, .int c_le, .ref a_bu, .ref a_no, .ref a_te, .ref a_fa, .ref a_li, .int c_wa, .int c_re, .int c_us, .int c_di, .ref a_wy, .ref a_su, .long c_ha])), (a_fa, .inl (cy 0, 40320, .inl (upd c_fa ((p_1 : Int32).toNatClampNeg) 0))), (a_li, .inl (cy 0, 40320, .inl c_li))]) := hD
  refine lv_aload_n hx hb dX3_aim_7 rfl (lv_at hl 0 rfl) ?_
  refine va_get (D := D) (ci := 3) (v := .ref a_li) (C := RX3) (T := TX3) (N := 19) hx hb hts k_X3_aim_X3 hown hK hP 0 rfl rfl 11 (by decide) (hts _ q_X3_aim_2) (fun _ h9 => h9) rfl dX3_aim_8 ?_
  refine lv_aload_n hx hb dX3_aim_11 rfl (lv_at hl 0 rfl) ?_
  refine va_get (D := D) (ci := 3) (v := .int c_wa) (C := RX3) (T := TX3) (N := 19) hx hb hts k_X3_aim_X3 hown hK hP 0 rfl rfl 12 (by decide) (hts _ q_X3_aim_3) (fun _ h9 => h9) rfl dX3_aim_12 ?_
  refine lv_iload_n hx hb dX3_aim_15 rfl (lv_at hl 1 rfl) ?_
  obtain ⟨h_2, hw⟩ := hw
  refine va_iast hx hb hK hP hD hS 2 0 rfl rfl h_2 dX3_aim_16 (fun H locs hP hD hS => ?_)
  have hP : va_P D vwCl ([(a_this, .inr (3, [.int c_th, .int c_n, .int c_tu, .int c_al, .ref a_ro, .ref a_fr, .int c_le, .ref a_bu, .ref a_no, .ref a_te, .ref a_fa, .ref a_li, .int c_wa, .int c_re, .int c_us, .int c_di, .ref a_wy, .ref a_su, .long c_ha])), (a_fa, .inl (cy 0, 40320, .inl (upd c_fa ((p_1 : Int32).toNatClampNeg) 0))), (a_li, .inl (cy 0, 40320, .inl (upd c_li ((c_wa : Int32).toNatClampNeg) p_1)))]) H := hP
  have hD : va_D A ([(a_this, .inr (3, [.int c_th, .int c_n, .int c_tu, .int c_al, .ref a_ro, .ref a_fr, .int c_le, .ref a_bu, .ref a_no, .ref a_te, .ref a_fa, .ref a_li, .int c_wa, .int c_re, .int c_us, .int c_di, .ref a_wy, .ref a_su, .long c_ha])), (a_fa, .inl (cy 0, 40320, .inl (upd c_fa ((p_1 : Int32).toNatClampNeg) 0))), (a_li, .inl (cy 0, 40320, .inl (upd c_li ((c_wa : Int32).toNatClampNeg) p_1)))]) := hD
  refine lv_aload_n hx hb dX3_aim_17 rfl (lv_at hl 0 rfl) ?_
  refine lv_dup hx hb dX3_aim_18 rfl ?_
  refine va_get (D := D) (ci := 3) (v := .int c_wa) (C := RX3) (T := TX3) (N := 19) hx hb hts k_X3_aim_X3 hown hK hP 0 rfl rfl 12 (by decide) (hts _ q_X3_aim_3) (fun _ h9 => h9) rfl dX3_aim_19 ?_
  refine lv_iconst (v := 1) hx hb dX3_aim_22 (by decide) ?_
  refine lv_iadd hx hb dX3_aim_23 ?_
  refine lv_topi (fun x_3 ex_3 => ?_)
  replace hw := hw x_3 ex_3
  refine va_put (D := D) (ci := 3) (v := .int x_3) (ty := .int) (C := RX3) (T := TX3) (N := 19) hx hb hts k_X3_aim_X3 tyX3 tyX3_ok nmX3 hown hK hP hD hS 0 rfl rfl 12 (by decide) (hts _ q_X3_aim_3) (fun _ h9 => h9) rfl (by decide +kernel) rfl rfl (Nat.le_of_ble_eq_true rfl) dX3_aim_24 (fun H locs hP hD hS => ?_)
  have hP : va_P D vwCl ([(a_this, .inr (3, [.int c_th, .int c_n, .int c_tu, .int c_al, .ref a_ro, .ref a_fr, .int c_le, .ref a_bu, .ref a_no, .ref a_te, .ref a_fa, .ref a_li, .int x_3, .int c_re, .int c_us, .int c_di, .ref a_wy, .ref a_su, .long c_ha])), (a_fa, .inl (cy 0, 40320, .inl (upd c_fa ((p_1 : Int32).toNatClampNeg) 0))), (a_li, .inl (cy 0, 40320, .inl (upd c_li ((c_wa : Int32).toNatClampNeg) p_1)))]) H := hP
  have hD : va_D A ([(a_this, .inr (3, [.int c_th, .int c_n, .int c_tu, .int c_al, .ref a_ro, .ref a_fr, .int c_le, .ref a_bu, .ref a_no, .ref a_te, .ref a_fa, .ref a_li, .int x_3, .int c_re, .int c_us, .int c_di, .ref a_wy, .ref a_su, .long c_ha])), (a_fa, .inl (cy 0, 40320, .inl (upd c_fa ((p_1 : Int32).toNatClampNeg) 0))), (a_li, .inl (cy 0, 40320, .inl (upd c_li ((c_wa : Int32).toNatClampNeg) p_1)))]) := hD
  exact j_vret (fun u => [(a_this, .inr (3, [.int c_th, .int c_n, .int c_tu, .int c_al, .ref a_ro, .ref a_fr, .int c_le, .ref a_bu, .ref a_no, .ref a_te, .ref a_fa, .ref a_li, .int u.1, .int c_re, .int c_us, .int c_di, .ref a_wy, .ref a_su, .long c_ha])), (a_fa, .inl (cy 0, 40320, .inl u.2.1)), (a_li, .inl (cy 0, 40320, .inl u.2.2))]) ((x_3, upd c_fa ((p_1 : Int32).toNatClampNeg) 0, upd c_li ((c_wa : Int32).toNatClampNeg) p_1) : Int32 × (Nat → Int32) × (Nat → Int32)) hx hb hr hlocks hK hP hD hS hw dX3_aim_27
theorem q_X3_spread_1 : Cond.fieldLink RX3 76 "TwistedRowModel" "waiting" "I" ∈ wsX3_spread := List.mem_of_getElem? (i := 1) rfl
theorem k_X3_spread_X3 : ∀ w ∈ wsX30, w ∈ wsX3_spread := my_in _ [32, 33, 34, 35, 36, 37, 38, 39, 40, 41, 42, 43, 44, 45, 46, 47, 48, 49, 50] (by decide +kernel)
theorem q_X3_spread_2 : Cond.fieldLink RX3 33 "TwistedRowModel" "line" "[I" ∈ wsX3_spread := List.mem_of_getElem? (i := 2) rfl
theorem q_X3_spread_3 : Cond.fieldLink RX3 23 "TwistedRowModel" "now" "[I" ∈ wsX3_spread := List.mem_of_getElem? (i := 3) rfl
theorem q_X3_spread_4 : Cond.fieldLink RX3 53 "TwistedRowModel" "turns" "I" ∈ wsX3_spread := List.mem_of_getElem? (i := 4) rfl
theorem q_X3_spread_5 : Cond.fieldLink RX3 26 "TwistedRowModel" "then" "[I" ∈ wsX3_spread := List.mem_of_getElem? (i := 5) rfl
theorem q_X3_spread_6 : Cond.fieldLink RX3 30 "TwistedRowModel" "far" "[I" ∈ wsX3_spread := List.mem_of_getElem? (i := 6) rfl
def lp_X3_spread_26 (c_fr : Nat → Int32) (c_n : Int32) (c_no : Nat → Int32) (c_tu : Int32) (v_1 : Int32) (v_2 : Int32) (K128 : Int32 → Int32 → (Nat → Int32) → (Nat → Int32) → (Nat → Int32) → Prop) : Nat → Int32 → Int32 → (Nat → Int32) → (Nat → Int32) → (Nat → Int32) → Prop
  | 0, _, _, _, _, _ => False
  | N + 1, v_3, c_wa, c_te, c_fa, c_li => (((2 * c_tu) ≤ v_3 → (K128 v_3 c_wa c_te c_fa c_li)) ∧ (¬ (2 * c_tu) ≤ v_3 → (wp_X3_has v_1 v_3 (fun r_6 u_5 => ((r_6 = 0 → (lp_X3_spread_26 c_fr c_n c_no c_tu v_1 v_2 K128 N (v_3 + 1) c_wa c_te c_fa c_li)) ∧ (¬ r_6 = 0 → (wp_X3_inverse v_3 (fun r_9 u_8 => (wp_X3_shift c_n c_fr c_no c_te r_9 (fun u_10 => (wp_X3_numberOf c_n u_10 (fun r_12 u_11 => (vp_in r_12 40320 ∧ ((¬ (c_fa (r_12 : Int32).toNatClampNeg) = (-1) → (lp_X3_spread_26 c_fr c_n c_no c_tu v_1 v_2 K128 N (v_3 + 1) c_wa u_10 c_fa c_li)) ∧ ((c_fa (r_12 : Int32).toNatClampNeg) = (-1) → (vp_in v_2 40320 ∧ (vp_in (c_li (v_2 : Int32).toNatClampNeg) 40320 ∧ (vp_in r_12 40320 ∧ (vp_in c_wa 40320 ∧ (∀ x_19 : Int32, x_19 = c_wa + 1 → (lp_X3_spread_26 c_fr c_n c_no c_tu v_1 v_2 K128 N (v_3 + 1) x_19 u_10 (upd c_fa ((r_12 : Int32).toNatClampNeg) ((c_fa (c_li (v_2 : Int32).toNatClampNeg : Int32).toNatClampNeg) + 1)) (upd c_li ((c_wa : Int32).toNatClampNeg) r_12))))))))))))))))))))))
set_option maxHeartbeats 4000000 in
set_option maxRecDepth 100000 in
theorem l_X3_spread_26 {p : Program} {l : Launch} {e : Env} {s : State} {m : MethodId} {args : Array Value} {below : List Frame} {meth : Method} {c : Code} {A : Nat → Prop} {D : va_G} {cy : Nat → ClassId} {Q : State → Prop} {a_this : Nat} {a_ro : Nat} {a_fr : Nat} {a_bu : Nat} {a_no : Nat} {a_te : Nat} {a_fa : Nat} {a_li : Nat} {a_wy : Nat} {a_su : Nat} {c_th : Int32} {c_n : Int32} {c_tu : Int32} {c_al : Int32} {c_le : Int32} {c_re : Int32} {c_us : Int32} {c_di : Int32} {c_ha : Int64} {c_fr : Nat → Int32} {c_no : Nat → Int32} {v_1 : Int32} {v_2 : Int32} {K128 : Int32 → Int32 → (Nat → Int32) → (Nat → Int32) → (Nat → Int32) → Prop} (C0 : Cx p s m args c cX3_spread yX3_spread.cls 5 wsX3_spread D cy A)
    (k128 : ∀ (v_3 : Int32) (c_wa : Int32) (c_te : Nat → Int32) (c_fa : Nat → Int32) (c_li : Nat → Int32) (H : Heap) (locs : List Loc) (ls : Array Slot), K128 v_3 c_wa c_te c_fa c_li → va_P D vwCl ([(a_this, .inr (3, [.int c_th, .int c_n, .int c_tu, .int c_al, .ref a_ro, .ref a_fr, .int c_le, .ref a_bu, .ref a_no, .ref a_te, .ref a_fa, .ref a_li, .int c_wa, .int c_re, .int c_us, .int c_di, .ref a_wy, .ref a_su, .long c_ha])), (a_fr, .inl (cy 0, 96, .inl c_fr)), (a_no, .inl (cy 0, 8, .inl c_no)), (a_te, .inl (cy 0, 8, .inl c_te)), (a_fa, .inl (cy 0, 40320, .inl c_fa)), (a_li, .inl (cy 0, 40320, .inl c_li))]) H → va_D A ([(a_this, .inr (3, [.int c_th, .int c_n, .int c_tu, .int c_al, .ref a_ro, .ref a_fr, .int c_le, .ref a_bu, .ref a_no, .ref a_te, .ref a_fa, .ref a_li, .int c_wa, .int c_re, .int c_us, .int c_di, .ref a_wy, .ref a_su, .long c_ha])), (a_fr, .inl (cy 0, 96, .inl c_fr)), (a_no, .inl (cy 0, 8, .inl c_no)), (a_te, .inl (cy 0, 8, .inl c_te)), (a_fa, .inl (cy 0, 40320, .inl c_fa)), (a_li, .inl (cy 0, 40320, .inl c_li))]) → va_S A s.heap H locs → lv_has ls 5 [(0, .ref a_this), (1, .int v_1), (2, .int v_2)] → W p l e (({ frames := 2, cells := 0, slots := 0, locals := 51 } : Room)) s m args below meth c H locs 0 0 Q (F0 m 128 ls [])) :
    ∀ (N : Nat) (v_3 : Int32) (c_wa : Int32) (c_te : Nat → Int32) (c_fa : Nat → Int32) (c_li : Nat → Int32) (H : Heap) (locs : List Loc) (ls : Array Slot), lp_X3_spread_26 c_fr c_n c_no c_tu v_1 v_2 K128 N v_3 c_wa c_te c_fa c_li → va_P D vwCl ([(a_this, .inr (3, [.int c_th, .int c_n, .int c_tu, .int c_al, .ref a_ro, .ref a_fr, .int c_le, .ref a_bu, .ref a_no, .ref a_te, .ref a_fa, .ref a_li, .int c_wa, .int c_re, .int c_us, .int c_di, .ref a_wy, .ref a_su, .long c_ha])), (a_fr, .inl (cy 0, 96, .inl c_fr)), (a_no, .inl (cy 0, 8, .inl c_no)), (a_te, .inl (cy 0, 8, .inl c_te)), (a_fa, .inl (cy 0, 40320, .inl c_fa)), (a_li, .inl (cy 0, 40320, .inl c_li))]) H → va_D A ([(a_this, .inr (3, [.int c_th, .int c_n, .int c_tu, .int c_al, .ref a_ro, .ref a_fr, .int c_le, .ref a_bu, .ref a_no, .ref a_te, .ref a_fa, .ref a_li, .int c_wa, .int c_re, .int c_us, .int c_di, .ref a_wy, .ref a_su, .long c_ha])), (a_fr, .inl (cy 0, 96, .inl c_fr)), (a_no, .inl (cy 0, 8, .inl c_no)), (a_te, .inl (cy 0, 8, .inl c_te)), (a_fa, .inl (cy 0, 40320, .inl c_fa)), (a_li, .inl (cy 0, 40320, .inl c_li))]) → va_S A s.heap H locs → lv_has ls 5 [(0, .ref a_this), (1, .int v_1), (2, .int v_2), (3, .int v_3)] → W p l e (({ frames := 2, cells := 0, slots := 0, locals := 51 } : Room)) s m args below meth c H locs 0 0 Q (F0 m 26 ls []) := by
  obtain ⟨hx, hb, hml, hown, hts, hK, hA⟩ := id C0
  intro N
  induction N with
  | zero =>
    intro v_3 c_wa c_te c_fa c_li H locs ls hw
    exact False.elim hw
  | succ N ih =>
    intro v_3 c_wa c_te c_fa c_li H locs ls hw hP hD hS hl
    rw [lp_X3_spread_26] at hw
    refine lv_iload_n hx hb dX3_spread_26 rfl (lv_at hl 3 rfl) ?_
    refine lv_iconst (v := 2) hx hb dX3_spread_27 (by decide) ?_
    refine lv_aload_n hx hb dX3_spread_28 rfl (lv_at hl 0 rfl) ?_
    refine va_get (D := D) (ci := 3) (v := .int c_tu) (C := RX3) (T := TX3) (N := 19) hx hb hts k_X3_spread_X3 hown hK hP 0 rfl rfl 2 (by decide) (hts _ q_X3_spread_4) (fun _ h9 => h9) rfl dX3_spread_29 ?_
    refine lv_imul hx hb dX3_spread_32 ?_
    refine lv_icmp_ge (tgt := 128) hx hb dX3_spread_33 (by decide) (fun c_4 => ?_) (fun c_4 => ?_)
    · replace hw := hw.1 c_4
      exact k128 _ _ _ _ _ _ _ _ hw hP hD hS (lv_sub hl [0, 1, 2] rfl)
    · replace hw := hw.2 c_4
      refine lv_iload_n hx hb dX3_spread_36 rfl (lv_at hl 1 rfl) ?_
      refine lv_iload_n hx hb dX3_spread_37 rfl (lv_at hl 3 rfl) ?_
      refine j_calli (wr := [(a_this, .inr (3, [.int c_th, .int c_n, .int c_tu, .int c_al, .ref a_ro, .ref a_fr, .int c_le, .ref a_bu, .ref a_no, .ref a_te, .ref a_fa, .ref a_li, .int c_wa, .int c_re, .int c_us, .int c_di, .ref a_wy, .ref a_su, .long c_ha])), (a_fr, .inl (cy 0, 96, .inl c_fr)), (a_no, .inl (cy 0, 8, .inl c_no)), (a_te, .inl (cy 0, 8, .inl c_te)), (a_fa, .inl (cy 0, 40320, .inl c_fa)), (a_li, .inl (cy 0, 40320, .inl c_li))]) (va_runS (As := [.int v_1, .int v_3]) (rest := []) ⟨hx, hb, hml, hown, hts⟩ (c_X3_has l D cy v_1 v_3 hw H.size) (va_cwS 2 hts gX3_spread_X3_has rfl rfl rfl (by decide +kernel) ⟨Nat.le_of_ble_eq_true rfl, Nat.le_of_ble_eq_true rfl⟩) (j_preS hK hP hD (isC := []) rfl (by decide +kernel)) rfl rfl hl.1 rfl (lv_room (Nat.le_of_ble_eq_true rfl)) dX3_spread_38 ⟨Nat.le_of_ble_eq_true rfl, Nat.le_of_ble_eq_true rfl⟩) hP hD hS hA [] [0, 1, 2, 3, 4, 5] rfl rfl (by decide +kernel) (by decide +kernel) (fun u_5 => [(a_this, .inr (3, [.int c_th, .int c_n, .int c_tu, .int c_al, .ref a_ro, .ref a_fr, .int c_le, .ref a_bu, .ref a_no, .ref a_te, .ref a_fa, .ref a_li, .int c_wa, .int c_re, .int c_us, .int c_di, .ref a_wy, .ref a_su, .long c_ha])), (a_fr, .inl (cy 0, 96, .inl c_fr)), (a_no, .inl (cy 0, 8, .inl c_no)), (a_te, .inl (cy 0, 8, .inl c_te)), (a_fa, .inl (cy 0, 40320, .inl c_fa)), (a_li, .inl (cy 0, 40320, .inl c_li))]) [0, 1, 2, 3, 4, 5] (by decide +kernel) (fun u => rfl) (fun r_6 u_5 H locs hw hP hD hS => ?_)
      have hP : va_P D vwCl ([(a_this, .inr (3, [.int c_th, .int c_n, .int c_tu, .int c_al, .ref a_ro, .ref a_fr, .int c_le, .ref a_bu, .ref a_no, .ref a_te, .ref a_fa, .ref a_li, .int c_wa, .int c_re, .int c_us, .int c_di, .ref a_wy, .ref a_su, .long c_ha])), (a_fr, .inl (cy 0, 96, .inl c_fr)), (a_no, .inl (cy 0, 8, .inl c_no)), (a_te, .inl (cy 0, 8, .inl c_te)), (a_fa, .inl (cy 0, 40320, .inl c_fa)), (a_li, .inl (cy 0, 40320, .inl c_li))]) H := hP
      have hD : va_D A ([(a_this, .inr (3, [.int c_th, .int c_n, .int c_tu, .int c_al, .ref a_ro, .ref a_fr, .int c_le, .ref a_bu, .ref a_no, .ref a_te, .ref a_fa, .ref a_li, .int c_wa, .int c_re, .int c_us, .int c_di, .ref a_wy, .ref a_su, .long c_ha])), (a_fr, .inl (cy 0, 96, .inl c_fr)), (a_no, .inl (cy 0, 8, .inl c_no)), (a_te, .inl (cy 0, 8, .inl c_te)), (a_fa, .inl (cy 0, 40320, .inl c_fa)), (a_li, .inl (cy 0, 40320, .inl c_li))]) := hD
      refine lv_if_eq (tgt := 122) hx hb dX3_spread_41 (by decide) (fun c_7 => ?_) (fun c_7 => ?_)
      · replace hw := hw.1 c_7
        refine lv_iinc (v := v_3 + 1) (lv' := [(3, .int (v_3 + 1)), (0, .ref a_this), (1, .int v_1), (2, .int v_2)]) hx hb dX3_spread_122 hl (k := 3) rfl rfl (by decide) rfl (fun ls hl => ?_)
        refine lv_goto (tgt := 26) hx hb dX3_spread_125 (by decide) ?_
        exact ih _ _ _ _ _ _ _ _ hw hP hD hS (lv_sub hl [1, 2, 3, 0] rfl)
      · replace hw := hw.2 c_7
        refine lv_aload_n hx hb dX3_spread_44 rfl (lv_at hl 0 rfl) ?_
        refine lv_iload_n hx hb dX3_spread_45 rfl (lv_at hl 3 rfl) ?_
        refine j_calli (wr := [(a_this, .inr (3, [.int c_th, .int c_n, .int c_tu, .int c_al, .ref a_ro, .ref a_fr, .int c_le, .ref a_bu, .ref a_no, .ref a_te, .ref a_fa, .ref a_li, .int c_wa, .int c_re, .int c_us, .int c_di, .ref a_wy, .ref a_su, .long c_ha])), (a_fr, .inl (cy 0, 96, .inl c_fr)), (a_no, .inl (cy 0, 8, .inl c_no)), (a_te, .inl (cy 0, 8, .inl c_te)), (a_fa, .inl (cy 0, 40320, .inl c_fa)), (a_li, .inl (cy 0, 40320, .inl c_li))]) (va_runS (As := [.int v_3]) (rest := [.ref a_this]) ⟨hx, hb, hml, hown, hts⟩ (c_X3_inverse l D cy v_3 hw H.size) (va_cwS 1 hts gX3_spread_X3_inverse rfl rfl rfl (by decide +kernel) ⟨Nat.le_of_ble_eq_true rfl, Nat.le_of_ble_eq_true rfl⟩) (j_preS hK hP hD (isC := []) rfl (by decide +kernel)) rfl rfl hl.1 rfl (lv_room (Nat.le_of_ble_eq_true rfl)) dX3_spread_46 ⟨Nat.le_of_ble_eq_true rfl, Nat.le_of_ble_eq_true rfl⟩) hP hD hS hA [] [0, 1, 2, 3, 4, 5] rfl rfl (by decide +kernel) (by decide +kernel) (fun u_8 => [(a_this, .inr (3, [.int c_th, .int c_n, .int c_tu, .int c_al, .ref a_ro, .ref a_fr, .int c_le, .ref a_bu, .ref a_no, .ref a_te, .ref a_fa, .ref a_li, .int c_wa, .int c_re, .int c_us, .int c_di, .ref a_wy, .ref a_su, .long c_ha])), (a_fr, .inl (cy 0, 96, .inl c_fr)), (a_no, .inl (cy 0, 8, .inl c_no)), (a_te, .inl (cy 0, 8, .inl c_te)), (a_fa, .inl (cy 0, 40320, .inl c_fa)), (a_li, .inl (cy 0, 40320, .inl c_li))]) [0, 1, 2, 3, 4, 5] (by decide +kernel) (fun u => rfl) (fun r_9 u_8 H locs hw hP hD hS => ?_)
        have hP : va_P D vwCl ([(a_this, .inr (3, [.int c_th, .int c_n, .int c_tu, .int c_al, .ref a_ro, .ref a_fr, .int c_le, .ref a_bu, .ref a_no, .ref a_te, .ref a_fa, .ref a_li, .int c_wa, .int c_re, .int c_us, .int c_di, .ref a_wy, .ref a_su, .long c_ha])), (a_fr, .inl (cy 0, 96, .inl c_fr)), (a_no, .inl (cy 0, 8, .inl c_no)), (a_te, .inl (cy 0, 8, .inl c_te)), (a_fa, .inl (cy 0, 40320, .inl c_fa)), (a_li, .inl (cy 0, 40320, .inl c_li))]) H := hP
        have hD : va_D A ([(a_this, .inr (3, [.int c_th, .int c_n, .int c_tu, .int c_al, .ref a_ro, .ref a_fr, .int c_le, .ref a_bu, .ref a_no, .ref a_te, .ref a_fa, .ref a_li, .int c_wa, .int c_re, .int c_us, .int c_di, .ref a_wy, .ref a_su, .long c_ha])), (a_fr, .inl (cy 0, 96, .inl c_fr)), (a_no, .inl (cy 0, 8, .inl c_no)), (a_te, .inl (cy 0, 8, .inl c_te)), (a_fa, .inl (cy 0, 40320, .inl c_fa)), (a_li, .inl (cy 0, 40320, .inl c_li))]) := hD
        refine lv_aload_n hx hb dX3_spread_49 rfl (lv_at hl 0 rfl) ?_
        refine va_get (D := D) (ci := 3) (v := .ref a_no) (C := RX3) (T := TX3) (N := 19) hx hb hts k_X3_spread_X3 hown hK hP 0 rfl rfl 8 (by decide) (hts _ q_X3_spread_3) (fun _ h9 => h9) rfl dX3_spread_50 ?_
        refine lv_aload_n hx hb dX3_spread_53 rfl (lv_at hl 0 rfl) ?_
        refine va_get (D := D) (ci := 3) (v := .ref a_te) (C := RX3) (T := TX3) (N := 19) hx hb hts k_X3_spread_X3 hown hK hP 0 rfl rfl 9 (by decide) (hts _ q_X3_spread_5) (fun _ h9 => h9) rfl dX3_spread_54 ?_
        refine j_callv (wr := [(a_fa, .inl (cy 0, 40320, .inl c_fa)), (a_li, .inl (cy 0, 40320, .inl c_li))]) (va_runV (As := [.int r_9, .ref a_no, .ref a_te]) (rest := []) ⟨hx, hb, hml, hown, hts⟩ (c_X3_shift l D cy a_this a_ro a_fr a_bu a_no a_te a_fa a_li a_wy a_su a_no a_te c_th c_n c_tu c_al c_le c_wa c_re c_us c_di c_ha c_fr c_no c_te r_9 hw H.size) (cwV 3 hts gX3_spread_X3_shift rfl rfl rfl (by decide +kernel) ⟨Nat.le_of_ble_eq_true rfl, Nat.le_of_ble_eq_true rfl⟩) (j_preV hK hP hD (isC := [0, 1, 2, 3]) rfl (by decide +kernel) (ci := 3) (q0 := 0) rfl rfl) rfl rfl hl.1 rfl (lv_room (Nat.le_of_ble_eq_true rfl)) dX3_spread_57 ⟨Nat.le_of_ble_eq_true rfl, Nat.le_of_ble_eq_true rfl⟩) hP hD hS hA [0, 1, 2, 3] [4, 5] rfl rfl (by decide +kernel) (by decide +kernel) (fun u_10 => [(a_this, .inr (3, [.int c_th, .int c_n, .int c_tu, .int c_al, .ref a_ro, .ref a_fr, .int c_le, .ref a_bu, .ref a_no, .ref a_te, .ref a_fa, .ref a_li, .int c_wa, .int c_re, .int c_us, .int c_di, .ref a_wy, .ref a_su, .long c_ha])), (a_fr, .inl (cy 0, 96, .inl c_fr)), (a_no, .inl (cy 0, 8, .inl c_no)), (a_te, .inl (cy 0, 8, .inl u_10)), (a_fa, .inl (cy 0, 40320, .inl c_fa)), (a_li, .inl (cy 0, 40320, .inl c_li))]) [2, 3, 4, 5, 0, 1] (by decide +kernel) (fun u => rfl) (fun u_10 H locs hw hP hD hS => ?_)
        have hP : va_P D vwCl ([(a_this, .inr (3, [.int c_th, .int c_n, .int c_tu, .int c_al, .ref a_ro, .ref a_fr, .int c_le, .ref a_bu, .ref a_no, .ref a_te, .ref a_fa, .ref a_li, .int c_wa, .int c_re, .int c_us, .int c_di, .ref a_wy, .ref a_su, .long c_ha])), (a_fr, .inl (cy 0, 96, .inl c_fr)), (a_no, .inl (cy 0, 8, .inl c_no)), (a_te, .inl (cy 0, 8, .inl u_10)), (a_fa, .inl (cy 0, 40320, .inl c_fa)), (a_li, .inl (cy 0, 40320, .inl c_li))]) H := hP
        have hD : va_D A ([(a_this, .inr (3, [.int c_th, .int c_n, .int c_tu, .int c_al, .ref a_ro, .ref a_fr, .int c_le, .ref a_bu, .ref a_no, .ref a_te, .ref a_fa, .ref a_li, .int c_wa, .int c_re, .int c_us, .int c_di, .ref a_wy, .ref a_su, .long c_ha])), (a_fr, .inl (cy 0, 96, .inl c_fr)), (a_no, .inl (cy 0, 8, .inl c_no)), (a_te, .inl (cy 0, 8, .inl u_10)), (a_fa, .inl (cy 0, 40320, .inl c_fa)), (a_li, .inl (cy 0, 40320, .inl c_li))]) := hD
        refine lv_aload_n hx hb dX3_spread_60 rfl (lv_at hl 0 rfl) ?_
        refine lv_aload_n hx hb dX3_spread_61 rfl (lv_at hl 0 rfl) ?_
        refine va_get (D := D) (ci := 3) (v := .ref a_te) (C := RX3) (T := TX3) (N := 19) hx hb hts k_X3_spread_X3 hown hK hP 0 rfl rfl 9 (by decide) (hts _ q_X3_spread_5) (fun _ h9 => h9) rfl dX3_spread_62 ?_
        refine j_calli (wr := [(a_fr, .inl (cy 0, 96, .inl c_fr)), (a_no, .inl (cy 0, 8, .inl c_no)), (a_fa, .inl (cy 0, 40320, .inl c_fa)), (a_li, .inl (cy 0, 40320, .inl c_li))]) (va_runV (As := [.ref a_te]) (rest := []) ⟨hx, hb, hml, hown, hts⟩ (c_X3_numberOf l D cy a_this a_ro a_fr a_bu a_no a_te a_fa a_li a_wy a_su a_te c_th c_n c_tu c_al c_le c_wa c_re c_us c_di c_ha u_10 hw H.size) (cwV 1 hts gX3_spread_X3_numberOf rfl rfl rfl (by decide +kernel) ⟨Nat.le_of_ble_eq_true rfl, Nat.le_of_ble_eq_true rfl⟩) (j_preV hK hP hD (isC := [0, 3]) rfl (by decide +kernel) (ci := 3) (q0 := 0) rfl rfl) rfl rfl hl.1 rfl (lv_room (Nat.le_of_ble_eq_true rfl)) dX3_spread_65 ⟨Nat.le_of_ble_eq_true rfl, Nat.le_of_ble_eq_true rfl⟩) hP hD hS hA [0, 3] [1, 2, 4, 5] rfl rfl (by decide +kernel) (by decide +kernel) (fun u_11 => [(a_this, .inr (3, [.int c_th, .int c_n, .int c_tu, .int c_al, .ref a_ro, .ref a_fr, .int c_le, .ref a_bu, .ref a_no, .ref a_te, .ref a_fa, .ref a_li, .int c_wa, .int c_re, .int c_us, .int c_di, .ref a_wy, .ref a_su, .long c_ha])), (a_fr, .inl (cy 0, 96, .inl c_fr)), (a_no, .inl (cy 0, 8, .inl c_no)), (a_te, .inl (cy 0, 8, .inl u_10)), (a_fa, .inl (cy 0, 40320, .inl c_fa)), (a_li, .inl (cy 0, 40320, .inl c_li))]) [4, 0, 1, 5, 2, 3] (by decide +kernel) (fun u => rfl) (fun r_12 u_11 H locs hw hP hD hS => ?_)
        have hP : va_P D vwCl ([(a_this, .inr (3, [.int c_th, .int c_n, .int c_tu, .int c_al, .ref a_ro, .ref a_fr, .int c_le, .ref a_bu, .ref a_no, .ref a_te, .ref a_fa, .ref a_li, .int c_wa, .int c_re, .int c_us, .int c_di, .ref a_wy, .ref a_su, .long c_ha])), (a_fr, .inl (cy 0, 96, .inl c_fr)), (a_no, .inl (cy 0, 8, .inl c_no)), (a_te, .inl (cy 0, 8, .inl u_10)), (a_fa, .inl (cy 0, 40320, .inl c_fa)), (a_li, .inl (cy 0, 40320, .inl c_li))]) H := hP
        have hD : va_D A ([(a_this, .inr (3, [.int c_th, .int c_n, .int c_tu, .int c_al, .ref a_ro, .ref a_fr, .int c_le, .ref a_bu, .ref a_no, .ref a_te, .ref a_fa, .ref a_li, .int c_wa, .int c_re, .int c_us, .int c_di, .ref a_wy, .ref a_su, .long c_ha])), (a_fr, .inl (cy 0, 96, .inl c_fr)), (a_no, .inl (cy 0, 8, .inl c_no)), (a_te, .inl (cy 0, 8, .inl u_10)), (a_fa, .inl (cy 0, 40320, .inl c_fa)), (a_li, .inl (cy 0, 40320, .inl c_li))]) := hD
        refine lv_istore (lv' := [(4, .int r_12), (0, .ref a_this), (1, .int v_1), (2, .int v_2), (3, .int v_3)]) hx hb dX3_spread_68 hl (by decide) rfl (fun ls hl => ?_)
        refine lv_aload_n hx hb dX3_spread_70 rfl (lv_at hl 1 rfl) ?_
        refine va_get (D := D) (ci := 3) (v := .ref a_fa) (C := RX3) (T := TX3) (N := 19) hx hb hts k_X3_spread_X3 hown hK hP 0 rfl rfl 10 (by decide) (hts _ q_X3_spread_6) (fun _ h9 => h9) rfl dX3_spread_71 ?_
        refine lv_iload hx hb dX3_spread_74 (lv_at hl 0 rfl) ?_
        obtain ⟨h_13, hw⟩ := hw
        refine va_iald hx hb hK hP 4 0 rfl rfl h_13 dX3_spread_76 ?_
        refine lv_iconst (v := (-1)) hx hb dX3_spread_77 (by decide) ?_
        refine lv_icmp_ne (tgt := 122) hx hb dX3_spread_78 (by decide) (fun c_14 => ?_) (fun c_14 => ?_)
        · replace hw := hw.1 c_14
          refine lv_iinc (v := v_3 + 1) (lv' := [(3, .int (v_3 + 1)), (4, .int r_12), (0, .ref a_this), (1, .int v_1), (2, .int v_2)]) hx hb dX3_spread_122 hl (k := 4) rfl rfl (by decide) rfl (fun ls hl => ?_)
          refine lv_goto (tgt := 26) hx hb dX3_spread_125 (by decide) ?_
          exact ih _ _ _ _ _ _ _ _ hw hP hD hS (lv_sub hl [2, 3, 4, 0] rfl)
        · replace hw := hw.2 c_14
          refine lv_aload_n hx hb dX3_spread_81 rfl (lv_at hl 1 rfl) ?_
          refine va_get (D := D) (ci := 3) (v := .ref a_fa) (C := RX3) (T := TX3) (N := 19) hx hb hts k_X3_spread_X3 hown hK hP 0 rfl rfl 10 (by decide) (hts _ q_X3_spread_6) (fun _ h9 => h9) rfl dX3_spread_82 ?_
          refine lv_iload hx hb dX3_spread_85 (lv_at hl 0 rfl) ?_
          refine lv_aload_n hx hb dX3_spread_87 rfl (lv_at hl 1 rfl) ?_
          refine va_get (D := D) (ci := 3) (v := .ref a_fa) (C := RX3) (T := TX3) (N := 19) hx hb hts k_X3_spread_X3 hown hK hP 0 rfl rfl 10 (by decide) (hts _ q_X3_spread_6) (fun _ h9 => h9) rfl dX3_spread_88 ?_
          refine lv_aload_n hx hb dX3_spread_91 rfl (lv_at hl 1 rfl) ?_
          refine va_get (D := D) (ci := 3) (v := .ref a_li) (C := RX3) (T := TX3) (N := 19) hx hb hts k_X3_spread_X3 hown hK hP 0 rfl rfl 11 (by decide) (hts _ q_X3_spread_2) (fun _ h9 => h9) rfl dX3_spread_92 ?_
          refine lv_iload_n hx hb dX3_spread_95 rfl (lv_at hl 3 rfl) ?_
          obtain ⟨h_15, hw⟩ := hw
          refine va_iald hx hb hK hP 5 0 rfl rfl h_15 dX3_spread_96 ?_
          obtain ⟨h_16, hw⟩ := hw
          refine va_iald hx hb hK hP 4 0 rfl rfl h_16 dX3_spread_97 ?_
          refine lv_iconst (v := 1) hx hb dX3_spread_98 (by decide) ?_
          refine lv_iadd hx hb dX3_spread_99 ?_
          obtain ⟨h_17, hw⟩ := hw
          refine va_iast hx hb hK hP hD hS 4 0 rfl rfl h_17 dX3_spread_100 (fun H locs hP hD hS => ?_)
          have hP : va_P D vwCl ([(a_this, .inr (3, [.int c_th, .int c_n, .int c_tu, .int c_al, .ref a_ro, .ref a_fr, .int c_le, .ref a_bu, .ref a_no, .ref a_te, .ref a_fa, .ref a_li, .int c_wa, .int c_re, .int c_us, .int c_di, .ref a_wy, .ref a_su, .long c_ha])), (a_fr, .inl (cy 0, 96, .inl c_fr)), (a_no, .inl (cy 0, 8, .inl c_no)), (a_te, .inl (cy 0, 8, .inl u_10)), (a_fa, .inl (cy 0, 40320, .inl (upd c_fa ((r_12 : Int32).toNatClampNeg) ((c_fa (c_li (v_2 : Int32).toNatClampNeg : Int32).toNatClampNeg) + 1)))), (a_li, .inl (cy 0, 40320, .inl c_li))]) H := hP
          have hD : va_D A ([(a_this, .inr (3, [.int c_th, .int c_n, .int c_tu, .int c_al, .ref a_ro, .ref a_fr, .int c_le, .ref a_bu, .ref a_no, .ref a_te, .ref a_fa, .ref a_li, .int c_wa, .int c_re, .int c_us, .int c_di, .ref a_wy, .ref a_su, .long c_ha])), (a_fr, .inl (cy 0, 96, .inl c_fr)), (a_no, .inl (cy 0, 8, .inl c_no)), (a_te, .inl (cy 0, 8, .inl u_10)), (a_fa, .inl (cy 0, 40320, .inl (upd c_fa ((r_12 : Int32).toNatClampNeg) ((c_fa (c_li (v_2 : Int32).toNatClampNeg : Int32).toNatClampNeg) + 1)))), (a_li, .inl (cy 0, 40320, .inl c_li))]) := hD
          refine lv_aload_n hx hb dX3_spread_101 rfl (lv_at hl 1 rfl) ?_
          refine va_get (D := D) (ci := 3) (v := .ref a_li) (C := RX3) (T := TX3) (N := 19) hx hb hts k_X3_spread_X3 hown hK hP 0 rfl rfl 11 (by decide) (hts _ q_X3_spread_2) (fun _ h9 => h9) rfl dX3_spread_102 ?_
          refine lv_aload_n hx hb dX3_spread_105 rfl (lv_at hl 1 rfl) ?_
          refine va_get (D := D) (ci := 3) (v := .int c_wa) (C := RX3) (T := TX3) (N := 19) hx hb hts k_X3_spread_X3 hown hK hP 0 rfl rfl 12 (by decide) (hts _ q_X3_spread_1) (fun _ h9 => h9) rfl dX3_spread_106 ?_
          refine lv_iload hx hb dX3_spread_109 (lv_at hl 0 rfl) ?_
          obtain ⟨h_18, hw⟩ := hw
          refine va_iast hx hb hK hP hD hS 5 0 rfl rfl h_18 dX3_spread_111 (fun H locs hP hD hS => ?_)
          have hP : va_P D vwCl ([(a_this, .inr (3, [.int c_th, .int c_n, .int c_tu, .int c_al, .ref a_ro, .ref a_fr, .int c_le, .ref a_bu, .ref a_no, .ref a_te, .ref a_fa, .ref a_li, .int c_wa, .int c_re, .int c_us, .int c_di, .ref a_wy, .ref a_su, .long c_ha])), (a_fr, .inl (cy 0, 96, .inl c_fr)), (a_no, .inl (cy 0, 8, .inl c_no)), (a_te, .inl (cy 0, 8, .inl u_10)), (a_fa, .inl (cy 0, 40320, .inl (upd c_fa ((r_12 : Int32).toNatClampNeg) ((c_fa (c_li (v_2 : Int32).toNatClampNeg : Int32).toNatClampNeg) + 1)))), (a_li, .inl (cy 0, 40320, .inl (upd c_li ((c_wa : Int32).toNatClampNeg) r_12)))]) H := hP
          have hD : va_D A ([(a_this, .inr (3, [.int c_th, .int c_n, .int c_tu, .int c_al, .ref a_ro, .ref a_fr, .int c_le, .ref a_bu, .ref a_no, .ref a_te, .ref a_fa, .ref a_li, .int c_wa, .int c_re, .int c_us, .int c_di, .ref a_wy, .ref a_su, .long c_ha])), (a_fr, .inl (cy 0, 96, .inl c_fr)), (a_no, .inl (cy 0, 8, .inl c_no)), (a_te, .inl (cy 0, 8, .inl u_10)), (a_fa, .inl (cy 0, 40320, .inl (upd c_fa ((r_12 : Int32).toNatClampNeg) ((c_fa (c_li (v_2 : Int32).toNatClampNeg : Int32).toNatClampNeg) + 1)))), (a_li, .inl (cy 0, 40320, .inl (upd c_li ((c_wa : Int32).toNatClampNeg) r_12)))]) := hD
          refine lv_aload_n hx hb dX3_spread_112 rfl (lv_at hl 1 rfl) ?_
          refine lv_dup hx hb dX3_spread_113 rfl ?_
          refine va_get (D := D) (ci := 3) (v := .int c_wa) (C := RX3) (T := TX3) (N := 19) hx hb hts k_X3_spread_X3 hown hK hP 0 rfl rfl 12 (by decide) (hts _ q_X3_spread_1) (fun _ h9 => h9) rfl dX3_spread_114 ?_
          refine lv_iconst (v := 1) hx hb dX3_spread_117 (by decide) ?_
          refine lv_iadd hx hb dX3_spread_118 ?_
          refine lv_topi (fun x_19 ex_19 => ?_)
          replace hw := hw x_19 ex_19
          refine va_put (D := D) (ci := 3) (v := .int x_19) (ty := .int) (C := RX3) (T := TX3) (N := 19) hx hb hts k_X3_spread_X3 tyX3 tyX3_ok nmX3 hown hK hP hD hS 0 rfl rfl 12 (by decide) (hts _ q_X3_spread_1) (fun _ h9 => h9) rfl (by decide +kernel) rfl rfl (Nat.le_of_ble_eq_true rfl) dX3_spread_119 (fun H locs hP hD hS => ?_)
          have hP : va_P D vwCl ([(a_this, .inr (3, [.int c_th, .int c_n, .int c_tu, .int c_al, .ref a_ro, .ref a_fr, .int c_le, .ref a_bu, .ref a_no, .ref a_te, .ref a_fa, .ref a_li, .int x_19, .int c_re, .int c_us, .int c_di, .ref a_wy, .ref a_su, .long c_ha])), (a_fr, .inl (cy 0, 96, .inl c_fr)), (a_no, .inl (cy 0, 8, .inl c_no)), (a_te, .inl (cy 0, 8, .inl u_10)), (a_fa, .inl (cy 0, 40320, .inl (upd c_fa ((r_12 : Int32).toNatClampNeg) ((c_fa (c_li (v_2 : Int32).toNatClampNeg : Int32).toNatClampNeg) + 1)))), (a_li, .inl (cy 0, 40320, .inl (upd c_li ((c_wa : Int32).toNatClampNeg) r_12)))]) H := hP
          have hD : va_D A ([(a_this, .inr (3, [.int c_th, .int c_n, .int c_tu, .int c_al, .ref a_ro, .ref a_fr, .int c_le, .ref a_bu, .ref a_no, .ref a_te, .ref a_fa, .ref a_li, .int x_19, .int c_re, .int c_us, .int c_di, .ref a_wy, .ref a_su, .long c_ha])), (a_fr, .inl (cy 0, 96, .inl c_fr)), (a_no, .inl (cy 0, 8, .inl c_no)), (a_te, .inl (cy 0, 8, .inl u_10)), (a_fa, .inl (cy 0, 40320, .inl (upd c_fa ((r_12 : Int32).toNatClampNeg) ((c_fa (c_li (v_2 : Int32).toNatClampNeg : Int32).toNatClampNeg) + 1)))), (a_li, .inl (cy 0, 40320, .inl (upd c_li ((c_wa : Int32).toNatClampNeg) r_12)))]) := hD
          refine lv_iinc (v := v_3 + 1) (lv' := [(3, .int (v_3 + 1)), (4, .int r_12), (0, .ref a_this), (1, .int v_1), (2, .int v_2)]) hx hb dX3_spread_122 hl (k := 4) rfl rfl (by decide) rfl (fun ls hl => ?_)
          refine lv_goto (tgt := 26) hx hb dX3_spread_125 (by decide) ?_
          exact ih _ _ _ _ _ _ _ _ hw hP hD hS (lv_sub hl [2, 3, 4, 0] rfl)
def lp_X3_spread_2 (c_fr : Nat → Int32) (c_n : Int32) (c_tu : Int32) (v_1 : Int32) (K134 : Int32 → Int32 → (Nat → Int32) → (Nat → Int32) → (Nat → Int32) → (Nat → Int32) → Prop) : Nat → Int32 → Int32 → (Nat → Int32) → (Nat → Int32) → (Nat → Int32) → (Nat → Int32) → Prop
  | 0, _, _, _, _, _, _ => False
  | N + 1, v_2, c_wa, c_no, c_te, c_fa, c_li => ((c_wa ≤ v_2 → (K134 v_2 c_wa c_no c_te c_fa c_li)) ∧ (¬ c_wa ≤ v_2 → (vp_in v_2 40320 ∧ (wp_X3_read c_n c_no (c_li (v_2 : Int32).toNatClampNeg) (fun u_3 => (∃ N_20 : Nat, lp_X3_spread_26 c_fr c_n u_3 c_tu v_1 v_2 (fun (v_21 : Int32) (c_22 : Int32) (c_23 : Nat → Int32) (c_24 : Nat → Int32) (c_25 : Nat → Int32) => (lp_X3_spread_2 c_fr c_n c_tu v_1 K134 N (v_2 + 1) c_22 u_3 c_23 c_24 c_25)) N_20 0 c_wa c_te c_fa c_li))))))
set_option maxHeartbeats 4000000 in
set_option maxRecDepth 100000 in
theorem l_X3_spread_2 {p : Program} {l : Launch} {e : Env} {s : State} {m : MethodId} {args : Array Value} {below : List Frame} {meth : Method} {c : Code} {A : Nat → Prop} {D : va_G} {cy : Nat → ClassId} {Q : State → Prop} {a_this : Nat} {a_ro : Nat} {a_fr : Nat} {a_bu : Nat} {a_no : Nat} {a_te : Nat} {a_fa : Nat} {a_li : Nat} {a_wy : Nat} {a_su : Nat} {c_th : Int32} {c_n : Int32} {c_tu : Int32} {c_al : Int32} {c_le : Int32} {c_re : Int32} {c_us : Int32} {c_di : Int32} {c_ha : Int64} {c_fr : Nat → Int32} {v_1 : Int32} {K134 : Int32 → Int32 → (Nat → Int32) → (Nat → Int32) → (Nat → Int32) → (Nat → Int32) → Prop} (C0 : Cx p s m args c cX3_spread yX3_spread.cls 5 wsX3_spread D cy A)
    (k134 : ∀ (v_2 : Int32) (c_wa : Int32) (c_no : Nat → Int32) (c_te : Nat → Int32) (c_fa : Nat → Int32) (c_li : Nat → Int32) (H : Heap) (locs : List Loc) (ls : Array Slot), K134 v_2 c_wa c_no c_te c_fa c_li → va_P D vwCl ([(a_this, .inr (3, [.int c_th, .int c_n, .int c_tu, .int c_al, .ref a_ro, .ref a_fr, .int c_le, .ref a_bu, .ref a_no, .ref a_te, .ref a_fa, .ref a_li, .int c_wa, .int c_re, .int c_us, .int c_di, .ref a_wy, .ref a_su, .long c_ha])), (a_fr, .inl (cy 0, 96, .inl c_fr)), (a_no, .inl (cy 0, 8, .inl c_no)), (a_te, .inl (cy 0, 8, .inl c_te)), (a_fa, .inl (cy 0, 40320, .inl c_fa)), (a_li, .inl (cy 0, 40320, .inl c_li))]) H → va_D A ([(a_this, .inr (3, [.int c_th, .int c_n, .int c_tu, .int c_al, .ref a_ro, .ref a_fr, .int c_le, .ref a_bu, .ref a_no, .ref a_te, .ref a_fa, .ref a_li, .int c_wa, .int c_re, .int c_us, .int c_di, .ref a_wy, .ref a_su, .long c_ha])), (a_fr, .inl (cy 0, 96, .inl c_fr)), (a_no, .inl (cy 0, 8, .inl c_no)), (a_te, .inl (cy 0, 8, .inl c_te)), (a_fa, .inl (cy 0, 40320, .inl c_fa)), (a_li, .inl (cy 0, 40320, .inl c_li))]) → va_S A s.heap H locs → lv_has ls 5 [] → W p l e (({ frames := 2, cells := 0, slots := 0, locals := 51 } : Room)) s m args below meth c H locs 0 0 Q (F0 m 134 ls [])) :
    ∀ (N : Nat) (v_2 : Int32) (c_wa : Int32) (c_no : Nat → Int32) (c_te : Nat → Int32) (c_fa : Nat → Int32) (c_li : Nat → Int32) (H : Heap) (locs : List Loc) (ls : Array Slot), lp_X3_spread_2 c_fr c_n c_tu v_1 K134 N v_2 c_wa c_no c_te c_fa c_li → va_P D vwCl ([(a_this, .inr (3, [.int c_th, .int c_n, .int c_tu, .int c_al, .ref a_ro, .ref a_fr, .int c_le, .ref a_bu, .ref a_no, .ref a_te, .ref a_fa, .ref a_li, .int c_wa, .int c_re, .int c_us, .int c_di, .ref a_wy, .ref a_su, .long c_ha])), (a_fr, .inl (cy 0, 96, .inl c_fr)), (a_no, .inl (cy 0, 8, .inl c_no)), (a_te, .inl (cy 0, 8, .inl c_te)), (a_fa, .inl (cy 0, 40320, .inl c_fa)), (a_li, .inl (cy 0, 40320, .inl c_li))]) H → va_D A ([(a_this, .inr (3, [.int c_th, .int c_n, .int c_tu, .int c_al, .ref a_ro, .ref a_fr, .int c_le, .ref a_bu, .ref a_no, .ref a_te, .ref a_fa, .ref a_li, .int c_wa, .int c_re, .int c_us, .int c_di, .ref a_wy, .ref a_su, .long c_ha])), (a_fr, .inl (cy 0, 96, .inl c_fr)), (a_no, .inl (cy 0, 8, .inl c_no)), (a_te, .inl (cy 0, 8, .inl c_te)), (a_fa, .inl (cy 0, 40320, .inl c_fa)), (a_li, .inl (cy 0, 40320, .inl c_li))]) → va_S A s.heap H locs → lv_has ls 5 [(0, .ref a_this), (1, .int v_1), (2, .int v_2)] → W p l e (({ frames := 2, cells := 0, slots := 0, locals := 51 } : Room)) s m args below meth c H locs 0 0 Q (F0 m 2 ls []) := by
  obtain ⟨hx, hb, hml, hown, hts, hK, hA⟩ := id C0
  intro N
  induction N with
  | zero =>
    intro v_2 c_wa c_no c_te c_fa c_li H locs ls hw
    exact False.elim hw
  | succ N ih =>
    intro v_2 c_wa c_no c_te c_fa c_li H locs ls hw hP hD hS hl
    rw [lp_X3_spread_2] at hw
    refine lv_iload_n hx hb dX3_spread_2 rfl (lv_at hl 2 rfl) ?_
    refine lv_aload_n hx hb dX3_spread_3 rfl (lv_at hl 0 rfl) ?_
    refine va_get (D := D) (ci := 3) (v := .int c_wa) (C := RX3) (T := TX3) (N := 19) hx hb hts k_X3_spread_X3 hown hK hP 0 rfl rfl 12 (by decide) (hts _ q_X3_spread_1) (fun _ h9 => h9) rfl dX3_spread_4 ?_
    refine lv_icmp_ge (tgt := 134) hx hb dX3_spread_7 (by decide) (fun c_1 => ?_) (fun c_1 => ?_)
    · replace hw := hw.1 c_1
      exact k134 _ _ _ _ _ _ _ _ _ hw hP hD hS (lv_sub hl [] rfl)
    · replace hw := hw.2 c_1
      refine lv_aload_n hx hb dX3_spread_10 rfl (lv_at hl 0 rfl) ?_
      refine lv_aload_n hx hb dX3_spread_11 rfl (lv_at hl 0 rfl) ?_
      refine va_get (D := D) (ci := 3) (v := .ref a_li) (C := RX3) (T := TX3) (N := 19) hx hb hts k_X3_spread_X3 hown hK hP 0 rfl rfl 11 (by decide) (hts _ q_X3_spread_2) (fun _ h9 => h9) rfl dX3_spread_12 ?_
      refine lv_iload_n hx hb dX3_spread_15 rfl (lv_at hl 2 rfl) ?_
      obtain ⟨h_2, hw⟩ := hw
      refine va_iald hx hb hK hP 5 0 rfl rfl h_2 dX3_spread_16 ?_
      refine lv_aload_n hx hb dX3_spread_17 rfl (lv_at hl 0 rfl) ?_
      refine va_get (D := D) (ci := 3) (v := .ref a_no) (C := RX3) (T := TX3) (N := 19) hx hb hts k_X3_spread_X3 hown hK hP 0 rfl rfl 8 (by decide) (hts _ q_X3_spread_3) (fun _ h9 => h9) rfl dX3_spread_18 ?_
      refine j_callv (wr := [(a_fr, .inl (cy 0, 96, .inl c_fr)), (a_te, .inl (cy 0, 8, .inl c_te)), (a_fa, .inl (cy 0, 40320, .inl c_fa)), (a_li, .inl (cy 0, 40320, .inl c_li))]) (va_runV (As := [.int (c_li (v_2 : Int32).toNatClampNeg), .ref a_no]) (rest := []) ⟨hx, hb, hml, hown, hts⟩ (c_X3_read l D cy a_this a_ro a_fr a_bu a_no a_te a_fa a_li a_wy a_su a_no c_th c_n c_tu c_al c_le c_wa c_re c_us c_di c_ha c_no (c_li (v_2 : Int32).toNatClampNeg) hw H.size) (cwV 2 hts gX3_spread_X3_read rfl rfl rfl (by decide +kernel) ⟨Nat.le_of_ble_eq_true rfl, Nat.le_of_ble_eq_true rfl⟩) (j_preV hK hP hD (isC := [0, 2]) rfl (by decide +kernel) (ci := 3) (q0 := 0) rfl rfl) rfl rfl hl.1 rfl (lv_room (Nat.le_of_ble_eq_true rfl)) dX3_spread_21 ⟨Nat.le_of_ble_eq_true rfl, Nat.le_of_ble_eq_true rfl⟩) hP hD hS hA [0, 2] [1, 3, 4, 5] rfl rfl (by decide +kernel) (by decide +kernel) (fun u_3 => [(a_this, .inr (3, [.int c_th, .int c_n, .int c_tu, .int c_al, .ref a_ro, .ref a_fr, .int c_le, .ref a_bu, .ref a_no, .ref a_te, .ref a_fa, .ref a_li, .int c_wa, .int c_re, .int c_us, .int c_di, .ref a_wy, .ref a_su, .long c_ha])), (a_fr, .inl (cy 0, 96, .inl c_fr)), (a_no, .inl (cy 0, 8, .inl u_3)), (a_te, .inl (cy 0, 8, .inl c_te)), (a_fa, .inl (cy 0, 40320, .inl c_fa)), (a_li, .inl (cy 0, 40320, .inl c_li))]) [4, 0, 5, 1, 2, 3] (by decide +kernel) (fun u => rfl) (fun u_3 H locs hw hP hD hS => ?_)
      have hP : va_P D vwCl ([(a_this, .inr (3, [.int c_th, .int c_n, .int c_tu, .int c_al, .ref a_ro, .ref a_fr, .int c_le, .ref a_bu, .ref a_no, .ref a_te, .ref a_fa, .ref a_li, .int c_wa, .int c_re, .int c_us, .int c_di, .ref a_wy, .ref a_su, .long c_ha])), (a_fr, .inl (cy 0, 96, .inl c_fr)), (a_no, .inl (cy 0, 8, .inl u_3)), (a_te, .inl (cy 0, 8, .inl c_te)), (a_fa, .inl (cy 0, 40320, .inl c_fa)), (a_li, .inl (cy 0, 40320, .inl c_li))]) H := hP
      have hD : va_D A ([(a_this, .inr (3, [.int c_th, .int c_n, .int c_tu, .int c_al, .ref a_ro, .ref a_fr, .int c_le, .ref a_bu, .ref a_no, .ref a_te, .ref a_fa, .ref a_li, .int c_wa, .int c_re, .int c_us, .int c_di, .ref a_wy, .ref a_su, .long c_ha])), (a_fr, .inl (cy 0, 96, .inl c_fr)), (a_no, .inl (cy 0, 8, .inl u_3)), (a_te, .inl (cy 0, 8, .inl c_te)), (a_fa, .inl (cy 0, 40320, .inl c_fa)), (a_li, .inl (cy 0, 40320, .inl c_li))]) := hD
      refine lv_iconst (v := 0) hx hb dX3_spread_24 (by decide) ?_
      refine lv_istore_n (lv' := [(3, .int 0), (0, .ref a_this), (1, .int v_1), (2, .int v_2)]) hx hb dX3_spread_25 rfl hl (by decide) rfl (fun ls hl => ?_)
      obtain ⟨N_20, hw⟩ := hw
      refine l_X3_spread_26 C0 (fun v_21 c_22 c_23 c_24 c_25 H locs ls hw hP hD hS hl => ?_) _ _ _ _ _ _ _ _ _ hw hP hD hS (lv_sub hl [1, 2, 3, 0] rfl)
      refine lv_iinc (v := v_2 + 1) (lv' := [(2, .int (v_2 + 1)), (0, .ref a_this), (1, .int v_1)]) hx hb dX3_spread_128 hl (k := 2) rfl rfl (by decide) rfl (fun ls hl => ?_)
      refine lv_goto (tgt := 2) hx hb dX3_spread_131 (by decide) ?_
      exact ih _ _ _ _ _ _ _ _ _ hw hP hD hS (lv_sub hl [1, 2, 0] rfl)
def wp_X3_spread (c_n : Int32) (c_tu : Int32) (c_wa : Int32) (c_fr : Nat → Int32) (c_no : Nat → Int32) (c_te : Nat → Int32) (c_fa : Nat → Int32) (c_li : Nat → Int32) (p_1 : Int32) (post : (Int32 × (Nat → Int32) × (Nat → Int32) × (Nat → Int32) × (Nat → Int32)) → Prop) : Prop := (∃ N_26 : Nat, lp_X3_spread_2 c_fr c_n c_tu p_1 (fun (v_27 : Int32) (c_28 : Int32) (c_29 : Nat → Int32) (c_30 : Nat → Int32) (c_31 : Nat → Int32) (c_32 : Nat → Int32) => (post (c_28, c_29, c_30, c_31, c_32))) N_26 0 c_wa c_no c_te c_fa c_li)
set_option maxHeartbeats 4000000 in
set_option maxRecDepth 100000 in
theorem c_X3_spread (l : Launch) (D : va_G) (cy : Nat → ClassId) (a_this : Nat) (a_ro : Nat) (a_fr : Nat) (a_bu : Nat) (a_no : Nat) (a_te : Nat) (a_fa : Nat) (a_li : Nat) (a_wy : Nat) (a_su : Nat) (c_th : Int32) (c_n : Int32) (c_tu : Int32) (c_al : Int32) (c_le : Int32) (c_wa : Int32) (c_re : Int32) (c_us : Int32) (c_di : Int32) (c_ha : Int64) (c_fr : Nat → Int32) (c_no : Nat → Int32) (c_te : Nat → Int32) (c_fa : Nat → Int32) (c_li : Nat → Int32) (p_1 : Int32) {post : (Int32 × (Nat → Int32) × (Nat → Int32) × (Nat → Int32) × (Nat → Int32)) → Prop} (hw : wp_X3_spread c_n c_tu c_wa c_fr c_no c_te c_fa c_li p_1 post) (sz : Nat) : Met l yX3_spread wsX3_spread ({ frames := 2, cells := 0, slots := 0, locals := 51 }) (va_Pc [.ref a_this, .int p_1] (PreW D cy ([(a_this, .inr (3, [.int c_th, .int c_n, .int c_tu, .int c_al, .ref a_ro, .ref a_fr, .int c_le, .ref a_bu, .ref a_no, .ref a_te, .ref a_fa, .ref a_li, .int c_wa, .int c_re, .int c_us, .int c_di, .ref a_wy, .ref a_su, .long c_ha])), (a_fr, .inl (cy 0, 96, .inl c_fr)), (a_no, .inl (cy 0, 8, .inl c_no)), (a_te, .inl (cy 0, 8, .inl c_te)), (a_fa, .inl (cy 0, 40320, .inl c_fa)), (a_li, .inl (cy 0, 40320, .inl c_li))]) sz)) (va_Qv post (fun u t => PostW D cy (va_A ([(a_this, .inr (3, [.int c_th, .int c_n, .int c_tu, .int c_al, .ref a_ro, .ref a_fr, .int c_le, .ref a_bu, .ref a_no, .ref a_te, .ref a_fa, .ref a_li, .int c_wa, .int c_re, .int c_us, .int c_di, .ref a_wy, .ref a_su, .long c_ha])), (a_fr, .inl (cy 0, 96, .inl c_fr)), (a_no, .inl (cy 0, 8, .inl c_no)), (a_te, .inl (cy 0, 8, .inl c_te)), (a_fa, .inl (cy 0, 40320, .inl c_fa)), (a_li, .inl (cy 0, 40320, .inl c_li))]) sz) ([(a_this, .inr (3, [.int c_th, .int c_n, .int c_tu, .int c_al, .ref a_ro, .ref a_fr, .int c_le, .ref a_bu, .ref a_no, .ref a_te, .ref a_fa, .ref a_li, .int u.1, .int c_re, .int c_us, .int c_di, .ref a_wy, .ref a_su, .long c_ha])), (a_fr, .inl (cy 0, 96, .inl c_fr)), (a_no, .inl (cy 0, 8, .inl u.2.1)), (a_te, .inl (cy 0, 8, .inl u.2.2.1)), (a_fa, .inl (cy 0, 40320, .inl u.2.2.2.1)), (a_li, .inl (cy 0, 40320, .inl u.2.2.2.2))]) t) (va_A ([(a_this, .inr (3, [.int c_th, .int c_n, .int c_tu, .int c_al, .ref a_ro, .ref a_fr, .int c_le, .ref a_bu, .ref a_no, .ref a_te, .ref a_fa, .ref a_li, .int c_wa, .int c_re, .int c_us, .int c_di, .ref a_wy, .ref a_su, .long c_ha])), (a_fr, .inl (cy 0, 96, .inl c_fr)), (a_no, .inl (cy 0, 8, .inl c_no)), (a_te, .inl (cy 0, 8, .inl c_te)), (a_fa, .inl (cy 0, 40320, .inl c_fa)), (a_li, .inl (cy 0, 40320, .inl c_li))]) sz)) 0 0 (va_A ([(a_this, .inr (3, [.int c_th, .int c_n, .int c_tu, .int c_al, .ref a_ro, .ref a_fr, .int c_le, .ref a_bu, .ref a_no, .ref a_te, .ref a_fa, .ref a_li, .int c_wa, .int c_re, .int c_us, .int c_di, .ref a_wy, .ref a_su, .long c_ha])), (a_fr, .inl (cy 0, 96, .inl c_fr)), (a_no, .inl (cy 0, 8, .inl c_no)), (a_te, .inl (cy 0, 8, .inl c_te)), (a_fa, .inl (cy 0, 40320, .inl c_fa)), (a_li, .inl (cy 0, 40320, .inl c_li))]) sz) := by
  refine j_met (Qc := fun A => va_Qv post (fun u t => PostW D cy A ([(a_this, .inr (3, [.int c_th, .int c_n, .int c_tu, .int c_al, .ref a_ro, .ref a_fr, .int c_le, .ref a_bu, .ref a_no, .ref a_te, .ref a_fa, .ref a_li, .int u.1, .int c_re, .int c_us, .int c_di, .ref a_wy, .ref a_su, .long c_ha])), (a_fr, .inl (cy 0, 96, .inl c_fr)), (a_no, .inl (cy 0, 8, .inl u.2.1)), (a_te, .inl (cy 0, 8, .inl u.2.2.1)), (a_fa, .inl (cy 0, 40320, .inl u.2.2.2.1)), (a_li, .inl (cy 0, 40320, .inl u.2.2.2.2))]) t) A) (by decide +kernel) rfl (Nat.le_of_ble_eq_true rfl) ?_
  intro p e s m below meth c A ls C0 hr hlocks hP hD hS hl
  obtain ⟨hx, hb, hml, hown, hts, hK, hA⟩ := id C0
  have hown : s.vm.findClass RX3 = some m.cls := hown
  have hl : lv_has ls 5 [(0, .ref a_this), (1, .int p_1)] := hl
  unfold wp_X3_spread at hw
  refine lv_iconst (v := 0) hx hb dX3_spread_0 (by decide) ?_
  refine lv_istore_n (lv' := [(2, .int 0), (0, .ref a_this), (1, .int p_1)]) hx hb dX3_spread_1 rfl hl (by decide) rfl (fun ls hl => ?_)
  obtain ⟨N_26, hw⟩ := hw
  refine l_X3_spread_2 C0 (fun v_27 c_28 c_29 c_30 c_31 c_32 H locs ls hw hP hD hS hl => ?_) _ _ _ _ _ _ _ _ _ _ hw hP hD hS (lv_sub hl [1, 2, 0] rfl)
  exact j_vret (fun u => [(a_this, .inr (3, [.int c_th, .int c_n, .int c_tu, .int c_al, .ref a_ro, .ref a_fr, .int c_le, .ref a_bu, .ref a_no, .ref a_te, .ref a_fa, .ref a_li, .int u.1, .int c_re, .int c_us, .int c_di, .ref a_wy, .ref a_su, .long c_ha])), (a_fr, .inl (cy 0, 96, .inl c_fr)), (a_no, .inl (cy 0, 8, .inl u.2.1)), (a_te, .inl (cy 0, 8, .inl u.2.2.1)), (a_fa, .inl (cy 0, 40320, .inl u.2.2.2.1)), (a_li, .inl (cy 0, 40320, .inl u.2.2.2.2))]) ((c_28, c_29, c_30, c_31, c_32) : Int32 × (Nat → Int32) × (Nat → Int32) × (Nat → Int32) × (Nat → Int32)) hx hb hr hlocks hK hP hD hS hw dX3_spread_134
def wp_X3_layFor (c_n : Int32) (c_tu : Int32) (c_fr : Nat → Int32) (c_no : Nat → Int32) (c_te : Nat → Int32) (c_fa : Nat → Int32) (c_li : Nat → Int32) (p_1 : Int32) (post : (Int32 × (Nat → Int32) × (Nat → Int32) × (Nat → Int32) × (Nat → Int32)) → Prop) : Prop := (wp_X3_begins c_n c_fa (fun u_1 => (wp_X3_aim u_1.1 u_1.2 c_li (0 : Int32) (fun u_2 => (wp_X3_spread c_n c_tu u_2.1 c_fr c_no c_te u_2.2.1 u_2.2.2 p_1 (fun u_3 => (post (u_3.1, u_3.2.1, u_3.2.2.1, u_3.2.2.2.1, u_3.2.2.2.2))))))))
set_option maxHeartbeats 4000000 in
set_option maxRecDepth 100000 in
theorem c_X3_layFor (l : Launch) (D : va_G) (cy : Nat → ClassId) (a_this : Nat) (a_ro : Nat) (a_fr : Nat) (a_bu : Nat) (a_no : Nat) (a_te : Nat) (a_fa : Nat) (a_li : Nat) (a_wy : Nat) (a_su : Nat) (c_th : Int32) (c_n : Int32) (c_tu : Int32) (c_al : Int32) (c_le : Int32) (c_wa : Int32) (c_re : Int32) (c_us : Int32) (c_di : Int32) (c_ha : Int64) (c_fr : Nat → Int32) (c_no : Nat → Int32) (c_te : Nat → Int32) (c_fa : Nat → Int32) (c_li : Nat → Int32) (p_1 : Int32) {post : (Int32 × (Nat → Int32) × (Nat → Int32) × (Nat → Int32) × (Nat → Int32)) → Prop} (hw : wp_X3_layFor c_n c_tu c_fr c_no c_te c_fa c_li p_1 post) (sz : Nat) : Met l yX3_layFor wsX3_layFor ({ frames := 3, cells := 0, slots := 0, locals := 75 }) (va_Pc [.ref a_this, .int p_1] (PreW D cy ([(a_this, .inr (3, [.int c_th, .int c_n, .int c_tu, .int c_al, .ref a_ro, .ref a_fr, .int c_le, .ref a_bu, .ref a_no, .ref a_te, .ref a_fa, .ref a_li, .int c_wa, .int c_re, .int c_us, .int c_di, .ref a_wy, .ref a_su, .long c_ha])), (a_fr, .inl (cy 0, 96, .inl c_fr)), (a_no, .inl (cy 0, 8, .inl c_no)), (a_te, .inl (cy 0, 8, .inl c_te)), (a_fa, .inl (cy 0, 40320, .inl c_fa)), (a_li, .inl (cy 0, 40320, .inl c_li))]) sz)) (va_Qv post (fun u t => PostW D cy (va_A ([(a_this, .inr (3, [.int c_th, .int c_n, .int c_tu, .int c_al, .ref a_ro, .ref a_fr, .int c_le, .ref a_bu, .ref a_no, .ref a_te, .ref a_fa, .ref a_li, .int c_wa, .int c_re, .int c_us, .int c_di, .ref a_wy, .ref a_su, .long c_ha])), (a_fr, .inl (cy 0, 96, .inl c_fr)), (a_no, .inl (cy 0, 8, .inl c_no)), (a_te, .inl (cy 0, 8, .inl c_te)), (a_fa, .inl (cy 0, 40320, .inl c_fa)), (a_li, .inl (cy 0, 40320, .inl c_li))]) sz) ([(a_this, .inr (3, [.int c_th, .int c_n, .int c_tu, .int c_al, .ref a_ro, .ref a_fr, .int c_le, .ref a_bu, .ref a_no, .ref a_te, .ref a_fa, .ref a_li, .int u.1, .int c_re, .int c_us, .int c_di, .ref a_wy, .ref a_su, .long c_ha])), (a_fr, .inl (cy 0, 96, .inl c_fr)), (a_no, .inl (cy 0, 8, .inl u.2.1)), (a_te, .inl (cy 0, 8, .inl u.2.2.1)), (a_fa, .inl (cy 0, 40320, .inl u.2.2.2.1)), (a_li, .inl (cy 0, 40320, .inl u.2.2.2.2))]) t) (va_A ([(a_this, .inr (3, [.int c_th, .int c_n, .int c_tu, .int c_al, .ref a_ro, .ref a_fr, .int c_le, .ref a_bu, .ref a_no, .ref a_te, .ref a_fa, .ref a_li, .int c_wa, .int c_re, .int c_us, .int c_di, .ref a_wy, .ref a_su, .long c_ha])), (a_fr, .inl (cy 0, 96, .inl c_fr)), (a_no, .inl (cy 0, 8, .inl c_no)), (a_te, .inl (cy 0, 8, .inl c_te)), (a_fa, .inl (cy 0, 40320, .inl c_fa)), (a_li, .inl (cy 0, 40320, .inl c_li))]) sz)) 0 0 (va_A ([(a_this, .inr (3, [.int c_th, .int c_n, .int c_tu, .int c_al, .ref a_ro, .ref a_fr, .int c_le, .ref a_bu, .ref a_no, .ref a_te, .ref a_fa, .ref a_li, .int c_wa, .int c_re, .int c_us, .int c_di, .ref a_wy, .ref a_su, .long c_ha])), (a_fr, .inl (cy 0, 96, .inl c_fr)), (a_no, .inl (cy 0, 8, .inl c_no)), (a_te, .inl (cy 0, 8, .inl c_te)), (a_fa, .inl (cy 0, 40320, .inl c_fa)), (a_li, .inl (cy 0, 40320, .inl c_li))]) sz) := by
  refine j_met (Qc := fun A => va_Qv post (fun u t => PostW D cy A ([(a_this, .inr (3, [.int c_th, .int c_n, .int c_tu, .int c_al, .ref a_ro, .ref a_fr, .int c_le, .ref a_bu, .ref a_no, .ref a_te, .ref a_fa, .ref a_li, .int u.1, .int c_re, .int c_us, .int c_di, .ref a_wy, .ref a_su, .long c_ha])), (a_fr, .inl (cy 0, 96, .inl c_fr)), (a_no, .inl (cy 0, 8, .inl u.2.1)), (a_te, .inl (cy 0, 8, .inl u.2.2.1)), (a_fa, .inl (cy 0, 40320, .inl u.2.2.2.1)), (a_li, .inl (cy 0, 40320, .inl u.2.2.2.2))]) t) A) (by decide +kernel) rfl (Nat.le_of_ble_eq_true rfl) ?_
  intro p e s m below meth c A ls C0 hr hlocks hP hD hS hl
  obtain ⟨hx, hb, hml, hown, hts, hK, hA⟩ := id C0
  have hown : s.vm.findClass RX3 = some m.cls := hown
  have hl : lv_has ls 2 [(0, .ref a_this), (1, .int p_1)] := hl
  unfold wp_X3_layFor at hw
  refine lv_aload_n hx hb dX3_layFor_0 rfl (lv_at hl 0 rfl) ?_
  refine j_callv (wr := [(a_fr, .inl (cy 0, 96, .inl c_fr)), (a_no, .inl (cy 0, 8, .inl c_no)), (a_te, .inl (cy 0, 8, .inl c_te)), (a_li, .inl (cy 0, 40320, .inl c_li))]) (va_runV (As := []) (rest := []) ⟨hx, hb, hml, hown, hts⟩ (c_X3_begins l D cy a_this a_ro a_fr a_bu a_no a_te a_fa a_li a_wy a_su c_th c_n c_tu c_al c_le c_wa c_re c_us c_di c_ha c_fa hw s.heap.size) (cwV 0 hts gX3_layFor_X3_begins rfl rfl rfl (by decide +kernel) ⟨Nat.le_of_ble_eq_true rfl, Nat.le_of_ble_eq_true rfl⟩) (j_preV hK hP hD (isC := [0, 4]) rfl (by decide +kernel) (ci := 3) (q0 := 0) rfl rfl) rfl rfl hl.1 rfl (lv_room (Nat.le_of_ble_eq_true rfl)) dX3_layFor_1 ⟨Nat.le_of_ble_eq_true rfl, Nat.le_of_ble_eq_true rfl⟩) hP hD hS hA [0, 4] [1, 2, 3, 5] rfl rfl (by decide +kernel) (by decide +kernel) (fun u_1 => [(a_this, .inr (3, [.int c_th, .int c_n, .int c_tu, .int c_al, .ref a_ro, .ref a_fr, .int c_le, .ref a_bu, .ref a_no, .ref a_te, .ref a_fa, .ref a_li, .int u_1.1, .int c_re, .int c_us, .int c_di, .ref a_wy, .ref a_su, .long c_ha])), (a_fr, .inl (cy 0, 96, .inl c_fr)), (a_no, .inl (cy 0, 8, .inl c_no)), (a_te, .inl (cy 0, 8, .inl c_te)), (a_fa, .inl (cy 0, 40320, .inl u_1.2)), (a_li, .inl (cy 0, 40320, .inl c_li))]) [4, 0, 1, 2, 5, 3] (by decide +kernel) (fun u => rfl) (fun u_1 H locs hw hP hD hS => ?_)
  have hP : va_P D vwCl ([(a_this, .inr (3, [.int c_th, .int c_n, .int c_tu, .int c_al, .ref a_ro, .ref a_fr, .int c_le, .ref a_bu, .ref a_no, .ref a_te, .ref a_fa, .ref a_li, .int u_1.1, .int c_re, .int c_us, .int c_di, .ref a_wy, .ref a_su, .long c_ha])), (a_fr, .inl (cy 0, 96, .inl c_fr)), (a_no, .inl (cy 0, 8, .inl c_no)), (a_te, .inl (cy 0, 8, .inl c_te)), (a_fa, .inl (cy 0, 40320, .inl u_1.2)), (a_li, .inl (cy 0, 40320, .inl c_li))]) H := hP
  have hD : va_D A ([(a_this, .inr (3, [.int c_th, .int c_n, .int c_tu, .int c_al, .ref a_ro, .ref a_fr, .int c_le, .ref a_bu, .ref a_no, .ref a_te, .ref a_fa, .ref a_li, .int u_1.1, .int c_re, .int c_us, .int c_di, .ref a_wy, .ref a_su, .long c_ha])), (a_fr, .inl (cy 0, 96, .inl c_fr)), (a_no, .inl (cy 0, 8, .inl c_no)), (a_te, .inl (cy 0, 8, .inl c_te)), (a_fa, .inl (cy 0, 40320, .inl u_1.2)), (a_li, .inl (cy 0, 40320, .inl c_li))]) := hD
  refine lv_aload_n hx hb dX3_layFor_4 rfl (lv_at hl 0 rfl) ?_
  refine lv_iconst (v := 0) hx hb dX3_layFor_5 (by decide) ?_
  refine j_callv (wr := [(a_fr, .inl (cy 0, 96, .inl c_fr)), (a_no, .inl (cy 0, 8, .inl c_no)), (a_te, .inl (cy 0, 8, .inl c_te))]) (va_runV (As := [.int 0]) (rest := []) ⟨hx, hb, hml, hown, hts⟩ (c_X3_aim l D cy a_this a_ro a_fr a_bu a_no a_te a_fa a_li a_wy a_su c_th c_n c_tu c_al c_le u_1.1 c_re c_us c_di c_ha u_1.2 c_li (0 : Int32) hw H.size) (cwV 1 hts gX3_layFor_X3_aim rfl rfl rfl (by decide +kernel) ⟨Nat.le_of_ble_eq_true rfl, Nat.le_of_ble_eq_true rfl⟩) (j_preV hK hP hD (isC := [0, 4, 5]) rfl (by decide +kernel) (ci := 3) (q0 := 0) rfl rfl) rfl rfl hl.1 rfl (lv_room (Nat.le_of_ble_eq_true rfl)) dX3_layFor_6 ⟨Nat.le_of_ble_eq_true rfl, Nat.le_of_ble_eq_true rfl⟩) hP hD hS hA [0, 4, 5] [1, 2, 3] rfl rfl (by decide +kernel) (by decide +kernel) (fun u_2 => [(a_this, .inr (3, [.int c_th, .int c_n, .int c_tu, .int c_al, .ref a_ro, .ref a_fr, .int c_le, .ref a_bu, .ref a_no, .ref a_te, .ref a_fa, .ref a_li, .int u_2.1, .int c_re, .int c_us, .int c_di, .ref a_wy, .ref a_su, .long c_ha])), (a_fr, .inl (cy 0, 96, .inl c_fr)), (a_no, .inl (cy 0, 8, .inl c_no)), (a_te, .inl (cy 0, 8, .inl c_te)), (a_fa, .inl (cy 0, 40320, .inl u_2.2.1)), (a_li, .inl (cy 0, 40320, .inl u_2.2.2))]) [3, 0, 1, 2, 4, 5] (by decide +kernel) (fun u => rfl) (fun u_2 H locs hw hP hD hS => ?_)
  have hP : va_P D vwCl ([(a_this, .inr (3, [.int c_th, .int c_n, .int c_tu, .int c_al, .ref a_ro, .ref a_fr, .int c_le, .ref a_bu, .ref a_no, .ref a_te, .ref a_fa, .ref a_li, .int u_2.1, .int c_re, .int c_us, .int c_di, .ref a_wy, .ref a_su, .long c_ha])), (a_fr, .inl (cy 0, 96, .inl c_fr)), (a_no, .inl (cy 0, 8, .inl c_no)), (a_te, .inl (cy 0, 8, .inl c_te)), (a_fa, .inl (cy 0, 40320, .inl u_2.2.1)), (a_li, .inl (cy 0, 40320, .inl u_2.2.2))]) H := hP
  have hD : va_D A ([(a_this, .inr (3, [.int c_th, .int c_n, .int c_tu, .int c_al, .ref a_ro, .ref a_fr, .int c_le, .ref a_bu, .ref a_no, .ref a_te, .ref a_fa, .ref a_li, .int u_2.1, .int c_re, .int c_us, .int c_di, .ref a_wy, .ref a_su, .long c_ha])), (a_fr, .inl (cy 0, 96, .inl c_fr)), (a_no, .inl (cy 0, 8, .inl c_no)), (a_te, .inl (cy 0, 8, .inl c_te)), (a_fa, .inl (cy 0, 40320, .inl u_2.2.1)), (a_li, .inl (cy 0, 40320, .inl u_2.2.2))]) := hD
  refine lv_aload_n hx hb dX3_layFor_9 rfl (lv_at hl 0 rfl) ?_
  refine lv_iload_n hx hb dX3_layFor_10 rfl (lv_at hl 1 rfl) ?_
  refine j_callv (wr := []) (va_runV (As := [.int p_1]) (rest := []) ⟨hx, hb, hml, hown, hts⟩ (c_X3_spread l D cy a_this a_ro a_fr a_bu a_no a_te a_fa a_li a_wy a_su c_th c_n c_tu c_al c_le u_2.1 c_re c_us c_di c_ha c_fr c_no c_te u_2.2.1 u_2.2.2 p_1 hw H.size) (cwV 1 hts gX3_layFor_X3_spread rfl rfl rfl (by decide +kernel) ⟨Nat.le_of_ble_eq_true rfl, Nat.le_of_ble_eq_true rfl⟩) (j_preV hK hP hD (isC := [0, 1, 2, 3, 4, 5]) rfl (by decide +kernel) (ci := 3) (q0 := 0) rfl rfl) rfl rfl hl.1 rfl (lv_room (Nat.le_of_ble_eq_true rfl)) dX3_layFor_11 ⟨Nat.le_of_ble_eq_true rfl, Nat.le_of_ble_eq_true rfl⟩) hP hD hS hA [0, 1, 2, 3, 4, 5] [] rfl rfl (by decide +kernel) (by decide +kernel) (fun u_3 => [(a_this, .inr (3, [.int c_th, .int c_n, .int c_tu, .int c_al, .ref a_ro, .ref a_fr, .int c_le, .ref a_bu, .ref a_no, .ref a_te, .ref a_fa, .ref a_li, .int u_3.1, .int c_re, .int c_us, .int c_di, .ref a_wy, .ref a_su, .long c_ha])), (a_fr, .inl (cy 0, 96, .inl c_fr)), (a_no, .inl (cy 0, 8, .inl u_3.2.1)), (a_te, .inl (cy 0, 8, .inl u_3.2.2.1)), (a_fa, .inl (cy 0, 40320, .inl u_3.2.2.2.1)), (a_li, .inl (cy 0, 40320, .inl u_3.2.2.2.2))]) [0, 1, 2, 3, 4, 5] (by decide +kernel) (fun u => rfl) (fun u_3 H locs hw hP hD hS => ?_)
  have hP : va_P D vwCl ([(a_this, .inr (3, [.int c_th, .int c_n, .int c_tu, .int c_al, .ref a_ro, .ref a_fr, .int c_le, .ref a_bu, .ref a_no, .ref a_te, .ref a_fa, .ref a_li, .int u_3.1, .int c_re, .int c_us, .int c_di, .ref a_wy, .ref a_su, .long c_ha])), (a_fr, .inl (cy 0, 96, .inl c_fr)), (a_no, .inl (cy 0, 8, .inl u_3.2.1)), (a_te, .inl (cy 0, 8, .inl u_3.2.2.1)), (a_fa, .inl (cy 0, 40320, .inl u_3.2.2.2.1)), (a_li, .inl (cy 0, 40320, .inl u_3.2.2.2.2))]) H := hP
  have hD : va_D A ([(a_this, .inr (3, [.int c_th, .int c_n, .int c_tu, .int c_al, .ref a_ro, .ref a_fr, .int c_le, .ref a_bu, .ref a_no, .ref a_te, .ref a_fa, .ref a_li, .int u_3.1, .int c_re, .int c_us, .int c_di, .ref a_wy, .ref a_su, .long c_ha])), (a_fr, .inl (cy 0, 96, .inl c_fr)), (a_no, .inl (cy 0, 8, .inl u_3.2.1)), (a_te, .inl (cy 0, 8, .inl u_3.2.2.1)), (a_fa, .inl (cy 0, 40320, .inl u_3.2.2.2.1)), (a_li, .inl (cy 0, 40320, .inl u_3.2.2.2.2))]) := hD
  exact j_vret (fun u => [(a_this, .inr (3, [.int c_th, .int c_n, .int c_tu, .int c_al, .ref a_ro, .ref a_fr, .int c_le, .ref a_bu, .ref a_no, .ref a_te, .ref a_fa, .ref a_li, .int u.1, .int c_re, .int c_us, .int c_di, .ref a_wy, .ref a_su, .long c_ha])), (a_fr, .inl (cy 0, 96, .inl c_fr)), (a_no, .inl (cy 0, 8, .inl u.2.1)), (a_te, .inl (cy 0, 8, .inl u.2.2.1)), (a_fa, .inl (cy 0, 40320, .inl u.2.2.2.1)), (a_li, .inl (cy 0, 40320, .inl u.2.2.2.2))]) ((u_3.1, u_3.2.1, u_3.2.2.1, u_3.2.2.2.1, u_3.2.2.2.2) : Int32 × (Nat → Int32) × (Nat → Int32) × (Nat → Int32) × (Nat → Int32)) hx hb hr hlocks hK hP hD hS hw dX3_layFor_14
theorem q_X3_present_1 : Cond.fieldLink RX3 13 "TwistedRowModel" "row" "[I" ∈ wsX3_present := List.mem_of_getElem? (i := 1) rfl
theorem k_X3_present_X3 : ∀ w ∈ wsX30, w ∈ wsX3_present := my_in _ [8, 9, 10, 11, 12, 13, 14, 15, 16, 17, 18, 19, 20, 21, 22, 23, 24, 25, 26] (by decide +kernel)
def wp_X3_present (c_n : Int32) (c_ro : Nat → Int32) (post : Int32 → Unit → Prop) : Prop := (wp_X3_numberOf c_n c_ro (fun r_2 u_1 => (post r_2 ())))
set_option maxHeartbeats 4000000 in
set_option maxRecDepth 100000 in
theorem c_X3_present (l : Launch) (D : va_G) (cy : Nat → ClassId) (a_this : Nat) (a_ro : Nat) (a_fr : Nat) (a_bu : Nat) (a_no : Nat) (a_te : Nat) (a_fa : Nat) (a_li : Nat) (a_wy : Nat) (a_su : Nat) (c_th : Int32) (c_n : Int32) (c_tu : Int32) (c_al : Int32) (c_le : Int32) (c_wa : Int32) (c_re : Int32) (c_us : Int32) (c_di : Int32) (c_ha : Int64) (c_ro : Nat → Int32) {post : Int32 → Unit → Prop} (hw : wp_X3_present c_n c_ro post) (sz : Nat) : Met l yX3_present wsX3_present ({ frames := 1, cells := 0, slots := 0, locals := 26 }) (va_Pc [.ref a_this] (PreW D cy ([(a_this, .inr (3, [.int c_th, .int c_n, .int c_tu, .int c_al, .ref a_ro, .ref a_fr, .int c_le, .ref a_bu, .ref a_no, .ref a_te, .ref a_fa, .ref a_li, .int c_wa, .int c_re, .int c_us, .int c_di, .ref a_wy, .ref a_su, .long c_ha])), (a_ro, .inl (cy 0, 8, .inl c_ro))]) sz)) (va_Qi post (fun u t => PostW D cy (va_A ([(a_this, .inr (3, [.int c_th, .int c_n, .int c_tu, .int c_al, .ref a_ro, .ref a_fr, .int c_le, .ref a_bu, .ref a_no, .ref a_te, .ref a_fa, .ref a_li, .int c_wa, .int c_re, .int c_us, .int c_di, .ref a_wy, .ref a_su, .long c_ha])), (a_ro, .inl (cy 0, 8, .inl c_ro))]) sz) ([(a_this, .inr (3, [.int c_th, .int c_n, .int c_tu, .int c_al, .ref a_ro, .ref a_fr, .int c_le, .ref a_bu, .ref a_no, .ref a_te, .ref a_fa, .ref a_li, .int c_wa, .int c_re, .int c_us, .int c_di, .ref a_wy, .ref a_su, .long c_ha])), (a_ro, .inl (cy 0, 8, .inl c_ro))]) t) (va_A ([(a_this, .inr (3, [.int c_th, .int c_n, .int c_tu, .int c_al, .ref a_ro, .ref a_fr, .int c_le, .ref a_bu, .ref a_no, .ref a_te, .ref a_fa, .ref a_li, .int c_wa, .int c_re, .int c_us, .int c_di, .ref a_wy, .ref a_su, .long c_ha])), (a_ro, .inl (cy 0, 8, .inl c_ro))]) sz)) 0 0 (va_A ([(a_this, .inr (3, [.int c_th, .int c_n, .int c_tu, .int c_al, .ref a_ro, .ref a_fr, .int c_le, .ref a_bu, .ref a_no, .ref a_te, .ref a_fa, .ref a_li, .int c_wa, .int c_re, .int c_us, .int c_di, .ref a_wy, .ref a_su, .long c_ha])), (a_ro, .inl (cy 0, 8, .inl c_ro))]) sz) := by
  refine j_met (Qc := fun A => va_Qi post (fun u t => PostW D cy A ([(a_this, .inr (3, [.int c_th, .int c_n, .int c_tu, .int c_al, .ref a_ro, .ref a_fr, .int c_le, .ref a_bu, .ref a_no, .ref a_te, .ref a_fa, .ref a_li, .int c_wa, .int c_re, .int c_us, .int c_di, .ref a_wy, .ref a_su, .long c_ha])), (a_ro, .inl (cy 0, 8, .inl c_ro))]) t) A) (by decide +kernel) rfl (Nat.le_of_ble_eq_true rfl) ?_
  intro p e s m below meth c A ls C0 hr hlocks hP hD hS hl
  obtain ⟨hx, hb, hml, hown, hts, hK, hA⟩ := id C0
  have hown : s.vm.findClass RX3 = some m.cls := hown
  have hl : lv_has ls 1 [(0, .ref a_this)] := hl
  unfold wp_X3_present at hw
  refine lv_aload_n hx hb dX3_present_0 rfl (lv_at hl 0 rfl) ?_
  refine lv_aload_n hx hb dX3_present_1 rfl (lv_at hl 0 rfl) ?_
  refine va_get (D := D) (ci := 3) (v := .ref a_ro) (C := RX3) (T := TX3) (N := 19) hx hb hts k_X3_present_X3 hown hK hP 0 rfl rfl 4 (by decide) (hts _ q_X3_present_1) (fun _ h9 => h9) rfl dX3_present_2 ?_
  refine j_calli (wr := []) (va_runV (As := [.ref a_ro]) (rest := []) ⟨hx, hb, hml, hown, hts⟩ (c_X3_numberOf l D cy a_this a_ro a_fr a_bu a_no a_te a_fa a_li a_wy a_su a_ro c_th c_n c_tu c_al c_le c_wa c_re c_us c_di c_ha c_ro hw s.heap.size) (cwV 1 hts gX3_present_X3_numberOf rfl rfl rfl (by decide +kernel) ⟨Nat.le_of_ble_eq_true rfl, Nat.le_of_ble_eq_true rfl⟩) (j_preV hK hP hD (isC := [0, 1]) rfl (by decide +kernel) (ci := 3) (q0 := 0) rfl rfl) rfl rfl hl.1 rfl (lv_room (Nat.le_of_ble_eq_true rfl)) dX3_present_5 ⟨Nat.le_of_ble_eq_true rfl, Nat.le_of_ble_eq_true rfl⟩) hP hD hS hA [0, 1] [] rfl rfl (by decide +kernel) (by decide +kernel) (fun u_1 => [(a_this, .inr (3, [.int c_th, .int c_n, .int c_tu, .int c_al, .ref a_ro, .ref a_fr, .int c_le, .ref a_bu, .ref a_no, .ref a_te, .ref a_fa, .ref a_li, .int c_wa, .int c_re, .int c_us, .int c_di, .ref a_wy, .ref a_su, .long c_ha])), (a_ro, .inl (cy 0, 8, .inl c_ro))]) [0, 1] (by decide +kernel) (fun u => rfl) (fun r_2 u_1 H locs hw hP hD hS => ?_)
  have hP : va_P D vwCl ([(a_this, .inr (3, [.int c_th, .int c_n, .int c_tu, .int c_al, .ref a_ro, .ref a_fr, .int c_le, .ref a_bu, .ref a_no, .ref a_te, .ref a_fa, .ref a_li, .int c_wa, .int c_re, .int c_us, .int c_di, .ref a_wy, .ref a_su, .long c_ha])), (a_ro, .inl (cy 0, 8, .inl c_ro))]) H := hP
  have hD : va_D A ([(a_this, .inr (3, [.int c_th, .int c_n, .int c_tu, .int c_al, .ref a_ro, .ref a_fr, .int c_le, .ref a_bu, .ref a_no, .ref a_te, .ref a_fa, .ref a_li, .int c_wa, .int c_re, .int c_us, .int c_di, .ref a_wy, .ref a_su, .long c_ha])), (a_ro, .inl (cy 0, 8, .inl c_ro))]) := hD
  exact j_iret (fun u => [(a_this, .inr (3, [.int c_th, .int c_n, .int c_tu, .int c_al, .ref a_ro, .ref a_fr, .int c_le, .ref a_bu, .ref a_no, .ref a_te, .ref a_fa, .ref a_li, .int c_wa, .int c_re, .int c_us, .int c_di, .ref a_wy, .ref a_su, .long c_ha])), (a_ro, .inl (cy 0, 8, .inl c_ro))]) (() : Unit) hx hb hr hlocks hK hP hD hS hw dX3_present_8
theorem q_X3_nearer_1 : Cond.fieldLink RX3 53 "TwistedRowModel" "turns" "I" ∈ wsX3_nearer := List.mem_of_getElem? (i := 1) rfl
theorem k_X3_nearer_X3 : ∀ w ∈ wsX30, w ∈ wsX3_nearer := my_in _ [31, 32, 33, 34, 35, 36, 37, 38, 39, 40, 41, 42, 43, 44, 45, 46, 47, 48, 49] (by decide +kernel)
theorem q_X3_nearer_2 : Cond.fieldLink RX3 30 "TwistedRowModel" "far" "[I" ∈ wsX3_nearer := List.mem_of_getElem? (i := 2) rfl
def lp_X3_nearer_2 (c_fa : Nat → Int32) (c_fr : Nat → Int32) (c_n : Int32) (c_tu : Int32) (v_1 : Int32) (v_2 : Int32) (K57 : Int32 → (Nat → Int32) → (Nat → Int32) → Prop) : Nat → Int32 → (Nat → Int32) → (Nat → Int32) → Prop
  | 0, _, _, _ => False
  | N + 1, v_3, c_no, c_te => (((2 * c_tu) ≤ v_3 → (K57 v_3 c_no c_te)) ∧ (¬ (2 * c_tu) ≤ v_3 → (wp_X3_has v_2 v_3 (fun r_3 u_2 => ((r_3 = 0 → (lp_X3_nearer_2 c_fa c_fr c_n c_tu v_1 v_2 K57 N (v_3 + 1) c_no c_te)) ∧ (¬ r_3 = 0 → (vp_in v_1 40320 ∧ (((c_fa (v_1 : Int32).toNatClampNeg) ≤ 0 → (lp_X3_nearer_2 c_fa c_fr c_n c_tu v_1 v_2 K57 N (v_3 + 1) c_no c_te)) ∧ (¬ (c_fa (v_1 : Int32).toNatClampNeg) ≤ 0 → (wp_X3_after c_n c_fr c_no c_te v_1 v_3 (fun r_8 u_7 => (vp_in r_8 40320 ∧ (vp_in v_1 40320 ∧ (((c_fa (r_8 : Int32).toNatClampNeg) = ((c_fa (v_1 : Int32).toNatClampNeg) - 1) → (K57 v_3 u_7.1 u_7.2)) ∧ (¬ (c_fa (r_8 : Int32).toNatClampNeg) = ((c_fa (v_1 : Int32).toNatClampNeg) - 1) → (lp_X3_nearer_2 c_fa c_fr c_n c_tu v_1 v_2 K57 N (v_3 + 1) u_7.1 u_7.2))))))))))))))))
set_option maxHeartbeats 4000000 in
set_option maxRecDepth 100000 in
theorem l_X3_nearer_2 {p : Program} {l : Launch} {e : Env} {s : State} {m : MethodId} {args : Array Value} {below : List Frame} {meth : Method} {c : Code} {A : Nat → Prop} {D : va_G} {cy : Nat → ClassId} {Q : State → Prop} {a_this : Nat} {a_ro : Nat} {a_fr : Nat} {a_bu : Nat} {a_no : Nat} {a_te : Nat} {a_fa : Nat} {a_li : Nat} {a_wy : Nat} {a_su : Nat} {c_th : Int32} {c_n : Int32} {c_tu : Int32} {c_al : Int32} {c_le : Int32} {c_wa : Int32} {c_re : Int32} {c_us : Int32} {c_di : Int32} {c_ha : Int64} {c_fr : Nat → Int32} {c_fa : Nat → Int32} {v_1 : Int32} {v_2 : Int32} {K57 : Int32 → (Nat → Int32) → (Nat → Int32) → Prop} (C0 : Cx p s m args c cX3_nearer yX3_nearer.cls 4 wsX3_nearer D cy A)
    (k57 : ∀ (v_3 : Int32) (c_no : Nat → Int32) (c_te : Nat → Int32) (H : Heap) (locs : List Loc) (ls : Array Slot), K57 v_3 c_no c_te → va_P D vwCl ([(a_this, .inr (3, [.int c_th, .int c_n, .int c_tu, .int c_al, .ref a_ro, .ref a_fr, .int c_le, .ref a_bu, .ref a_no, .ref a_te, .ref a_fa, .ref a_li, .int c_wa, .int c_re, .int c_us, .int c_di, .ref a_wy, .ref a_su, .long c_ha])), (a_fr, .inl (cy 0, 96, .inl c_fr)), (a_no, .inl (cy 0, 8, .inl c_no)), (a_te, .inl (cy 0, 8, .inl c_te)), (a_fa, .inl (cy 0, 40320, .inl c_fa))]) H → va_D A ([(a_this, .inr (3, [.int c_th, .int c_n, .int c_tu, .int c_al, .ref a_ro, .ref a_fr, .int c_le, .ref a_bu, .ref a_no, .ref a_te, .ref a_fa, .ref a_li, .int c_wa, .int c_re, .int c_us, .int c_di, .ref a_wy, .ref a_su, .long c_ha])), (a_fr, .inl (cy 0, 96, .inl c_fr)), (a_no, .inl (cy 0, 8, .inl c_no)), (a_te, .inl (cy 0, 8, .inl c_te)), (a_fa, .inl (cy 0, 40320, .inl c_fa))]) → va_S A s.heap H locs → lv_has ls 4 [(0, .ref a_this), (3, .int v_3)] → W p l e (({ frames := 3, cells := 0, slots := 0, locals := 73 } : Room)) s m args below meth c H locs 0 0 Q (F0 m 57 ls [])) :
    ∀ (N : Nat) (v_3 : Int32) (c_no : Nat → Int32) (c_te : Nat → Int32) (H : Heap) (locs : List Loc) (ls : Array Slot), lp_X3_nearer_2 c_fa c_fr c_n c_tu v_1 v_2 K57 N v_3 c_no c_te → va_P D vwCl ([(a_this, .inr (3, [.int c_th, .int c_n, .int c_tu, .int c_al, .ref a_ro, .ref a_fr, .int c_le, .ref a_bu, .ref a_no, .ref a_te, .ref a_fa, .ref a_li, .int c_wa, .int c_re, .int c_us, .int c_di, .ref a_wy, .ref a_su, .long c_ha])), (a_fr, .inl (cy 0, 96, .inl c_fr)), (a_no, .inl (cy 0, 8, .inl c_no)), (a_te, .inl (cy 0, 8, .inl c_te)), (a_fa, .inl (cy 0, 40320, .inl c_fa))]) H → va_D A ([(a_this, .inr (3, [.int c_th, .int c_n, .int c_tu, .int c_al, .ref a_ro, .ref a_fr, .int c_le, .ref a_bu, .ref a_no, .ref a_te, .ref a_fa, .ref a_li, .int c_wa, .int c_re, .int c_us, .int c_di, .ref a_wy, .ref a_su, .long c_ha])), (a_fr, .inl (cy 0, 96, .inl c_fr)), (a_no, .inl (cy 0, 8, .inl c_no)), (a_te, .inl (cy 0, 8, .inl c_te)), (a_fa, .inl (cy 0, 40320, .inl c_fa))]) → va_S A s.heap H locs → lv_has ls 4 [(0, .ref a_this), (1, .int v_1), (2, .int v_2), (3, .int v_3)] → W p l e (({ frames := 3, cells := 0, slots := 0, locals := 73 } : Room)) s m args below meth c H locs 0 0 Q (F0 m 2 ls []) := by
  obtain ⟨hx, hb, hml, hown, hts, hK, hA⟩ := id C0
  intro N
  induction N with
  | zero =>
    intro v_3 c_no c_te H locs ls hw
    exact False.elim hw
  | succ N ih =>
    intro v_3 c_no c_te H locs ls hw hP hD hS hl
    rw [lp_X3_nearer_2] at hw
    refine lv_iload_n hx hb dX3_nearer_2 rfl (lv_at hl 3 rfl) ?_
    refine lv_iconst (v := 2) hx hb dX3_nearer_3 (by decide) ?_
    refine lv_aload_n hx hb dX3_nearer_4 rfl (lv_at hl 0 rfl) ?_
    refine va_get (D := D) (ci := 3) (v := .int c_tu) (C := RX3) (T := TX3) (N := 19) hx hb hts k_X3_nearer_X3 hown hK hP 0 rfl rfl 2 (by decide) (hts _ q_X3_nearer_1) (fun _ h9 => h9) rfl dX3_nearer_5 ?_
    refine lv_imul hx hb dX3_nearer_8 ?_
    refine lv_icmp_ge (tgt := 57) hx hb dX3_nearer_9 (by decide) (fun c_1 => ?_) (fun c_1 => ?_)
    · replace hw := hw.1 c_1
      exact k57 _ _ _ _ _ _ hw hP hD hS (lv_sub hl [0, 3] rfl)
    · replace hw := hw.2 c_1
      refine lv_iload_n hx hb dX3_nearer_12 rfl (lv_at hl 2 rfl) ?_
      refine lv_iload_n hx hb dX3_nearer_13 rfl (lv_at hl 3 rfl) ?_
      refine j_calli (wr := [(a_this, .inr (3, [.int c_th, .int c_n, .int c_tu, .int c_al, .ref a_ro, .ref a_fr, .int c_le, .ref a_bu, .ref a_no, .ref a_te, .ref a_fa, .ref a_li, .int c_wa, .int c_re, .int c_us, .int c_di, .ref a_wy, .ref a_su, .long c_ha])), (a_fr, .inl (cy 0, 96, .inl c_fr)), (a_no, .inl (cy 0, 8, .inl c_no)), (a_te, .inl (cy 0, 8, .inl c_te)), (a_fa, .inl (cy 0, 40320, .inl c_fa))]) (va_runS (As := [.int v_2, .int v_3]) (rest := []) ⟨hx, hb, hml, hown, hts⟩ (c_X3_has l D cy v_2 v_3 hw H.size) (va_cwS 2 hts gX3_nearer_X3_has rfl rfl rfl (by decide +kernel) ⟨Nat.le_of_ble_eq_true rfl, Nat.le_of_ble_eq_true rfl⟩) (j_preS hK hP hD (isC := []) rfl (by decide +kernel)) rfl rfl hl.1 rfl (lv_room (Nat.le_of_ble_eq_true rfl)) dX3_nearer_14 ⟨Nat.le_of_ble_eq_true rfl, Nat.le_of_ble_eq_true rfl⟩) hP hD hS hA [] [0, 1, 2, 3, 4] rfl rfl (by decide +kernel) (by decide +kernel) (fun u_2 => [(a_this, .inr (3, [.int c_th, .int c_n, .int c_tu, .int c_al, .ref a_ro, .ref a_fr, .int c_le, .ref a_bu, .ref a_no, .ref a_te, .ref a_fa, .ref a_li, .int c_wa, .int c_re, .int c_us, .int c_di, .ref a_wy, .ref a_su, .long c_ha])), (a_fr, .inl (cy 0, 96, .inl c_fr)), (a_no, .inl (cy 0, 8, .inl c_no)), (a_te, .inl (cy 0, 8, .inl c_te)), (a_fa, .inl (cy 0, 40320, .inl c_fa))]) [0, 1, 2, 3, 4] (by decide +kernel) (fun u => rfl) (fun r_3 u_2 H locs hw hP hD hS => ?_)
      have hP : va_P D vwCl ([(a_this, .inr (3, [.int c_th, .int c_n, .int c_tu, .int c_al, .ref a_ro, .ref a_fr, .int c_le, .ref a_bu, .ref a_no, .ref a_te, .ref a_fa, .ref a_li, .int c_wa, .int c_re, .int c_us, .int c_di, .ref a_wy, .ref a_su, .long c_ha])), (a_fr, .inl (cy 0, 96, .inl c_fr)), (a_no, .inl (cy 0, 8, .inl c_no)), (a_te, .inl (cy 0, 8, .inl c_te)), (a_fa, .inl (cy 0, 40320, .inl c_fa))]) H := hP
      have hD : va_D A ([(a_this, .inr (3, [.int c_th, .int c_n, .int c_tu, .int c_al, .ref a_ro, .ref a_fr, .int c_le, .ref a_bu, .ref a_no, .ref a_te, .ref a_fa, .ref a_li, .int c_wa, .int c_re, .int c_us, .int c_di, .ref a_wy, .ref a_su, .long c_ha])), (a_fr, .inl (cy 0, 96, .inl c_fr)), (a_no, .inl (cy 0, 8, .inl c_no)), (a_te, .inl (cy 0, 8, .inl c_te)), (a_fa, .inl (cy 0, 40320, .inl c_fa))]) := hD
      refine lv_if_eq (tgt := 51) hx hb dX3_nearer_17 (by decide) (fun c_4 => ?_) (fun c_4 => ?_)
      · replace hw := hw.1 c_4
        refine lv_iinc (v := v_3 + 1) (lv' := [(3, .int (v_3 + 1)), (0, .ref a_this), (1, .int v_1), (2, .int v_2)]) hx hb dX3_nearer_51 hl (k := 3) rfl rfl (by decide) rfl (fun ls hl => ?_)
        refine lv_goto (tgt := 2) hx hb dX3_nearer_54 (by decide) ?_
        exact ih _ _ _ _ _ _ hw hP hD hS (lv_sub hl [1, 2, 3, 0] rfl)
      · replace hw := hw.2 c_4
        refine lv_aload_n hx hb dX3_nearer_20 rfl (lv_at hl 0 rfl) ?_
        refine va_get (D := D) (ci := 3) (v := .ref a_fa) (C := RX3) (T := TX3) (N := 19) hx hb hts k_X3_nearer_X3 hown hK hP 0 rfl rfl 10 (by decide) (hts _ q_X3_nearer_2) (fun _ h9 => h9) rfl dX3_nearer_21 ?_
        refine lv_iload_n hx hb dX3_nearer_24 rfl (lv_at hl 1 rfl) ?_
        obtain ⟨h_5, hw⟩ := hw
        refine va_iald hx hb hK hP 4 0 rfl rfl h_5 dX3_nearer_25 ?_
        refine lv_if_le (tgt := 51) hx hb dX3_nearer_26 (by decide) (fun c_6 => ?_) (fun c_6 => ?_)
        · replace hw := hw.1 c_6
          refine lv_iinc (v := v_3 + 1) (lv' := [(3, .int (v_3 + 1)), (0, .ref a_this), (1, .int v_1), (2, .int v_2)]) hx hb dX3_nearer_51 hl (k := 3) rfl rfl (by decide) rfl (fun ls hl => ?_)
          refine lv_goto (tgt := 2) hx hb dX3_nearer_54 (by decide) ?_
          exact ih _ _ _ _ _ _ hw hP hD hS (lv_sub hl [1, 2, 3, 0] rfl)
        · replace hw := hw.2 c_6
          refine lv_aload_n hx hb dX3_nearer_29 rfl (lv_at hl 0 rfl) ?_
          refine va_get (D := D) (ci := 3) (v := .ref a_fa) (C := RX3) (T := TX3) (N := 19) hx hb hts k_X3_nearer_X3 hown hK hP 0 rfl rfl 10 (by decide) (hts _ q_X3_nearer_2) (fun _ h9 => h9) rfl dX3_nearer_30 ?_
          refine lv_aload_n hx hb dX3_nearer_33 rfl (lv_at hl 0 rfl) ?_
          refine lv_iload_n hx hb dX3_nearer_34 rfl (lv_at hl 1 rfl) ?_
          refine lv_iload_n hx hb dX3_nearer_35 rfl (lv_at hl 3 rfl) ?_
          refine j_calli (wr := [(a_fa, .inl (cy 0, 40320, .inl c_fa))]) (va_runV (As := [.int v_1, .int v_3]) (rest := [.ref a_fa]) ⟨hx, hb, hml, hown, hts⟩ (c_X3_after l D cy a_this a_ro a_fr a_bu a_no a_te a_fa a_li a_wy a_su c_th c_n c_tu c_al c_le c_wa c_re c_us c_di c_ha c_fr c_no c_te v_1 v_3 hw H.size) (cwV 2 hts gX3_nearer_X3_after rfl rfl rfl (by decide +kernel) ⟨Nat.le_of_ble_eq_true rfl, Nat.le_of_ble_eq_true rfl⟩) (j_preV hK hP hD (isC := [0, 1, 2, 3]) rfl (by decide +kernel) (ci := 3) (q0 := 0) rfl rfl) rfl rfl hl.1 rfl (lv_room (Nat.le_of_ble_eq_true rfl)) dX3_nearer_36 ⟨Nat.le_of_ble_eq_true rfl, Nat.le_of_ble_eq_true rfl⟩) hP hD hS hA [0, 1, 2, 3] [4] rfl rfl (by decide +kernel) (by decide +kernel) (fun u_7 => [(a_this, .inr (3, [.int c_th, .int c_n, .int c_tu, .int c_al, .ref a_ro, .ref a_fr, .int c_le, .ref a_bu, .ref a_no, .ref a_te, .ref a_fa, .ref a_li, .int c_wa, .int c_re, .int c_us, .int c_di, .ref a_wy, .ref a_su, .long c_ha])), (a_fr, .inl (cy 0, 96, .inl c_fr)), (a_no, .inl (cy 0, 8, .inl u_7.1)), (a_te, .inl (cy 0, 8, .inl u_7.2)), (a_fa, .inl (cy 0, 40320, .inl c_fa))]) [1, 2, 3, 4, 0] (by decide +kernel) (fun u => rfl) (fun r_8 u_7 H locs hw hP hD hS => ?_)
          have hP : va_P D vwCl ([(a_this, .inr (3, [.int c_th, .int c_n, .int c_tu, .int c_al, .ref a_ro, .ref a_fr, .int c_le, .ref a_bu, .ref a_no, .ref a_te, .ref a_fa, .ref a_li, .int c_wa, .int c_re, .int c_us, .int c_di, .ref a_wy, .ref a_su, .long c_ha])), (a_fr, .inl (cy 0, 96, .inl c_fr)), (a_no, .inl (cy 0, 8, .inl u_7.1)), (a_te, .inl (cy 0, 8, .inl u_7.2)), (a_fa, .inl (cy 0, 40320, .inl c_fa))]) H := hP
          have hD : va_D A ([(a_this, .inr (3, [.int c_th, .int c_n, .int c_tu, .int c_al, .ref a_ro, .ref a_fr, .int c_le, .ref a_bu, .ref a_no, .ref a_te, .ref a_fa, .ref a_li, .int c_wa, .int c_re, .int c_us, .int c_di, .ref a_wy, .ref a_su, .long c_ha])), (a_fr, .inl (cy 0, 96, .inl c_fr)), (a_no, .inl (cy 0, 8, .inl u_7.1)), (a_te, .inl (cy 0, 8, .inl u_7.2)), (a_fa, .inl (cy 0, 40320, .inl c_fa))]) := hD
          obtain ⟨h_9, hw⟩ := hw
          refine va_iald hx hb hK hP 4 0 rfl rfl h_9 dX3_nearer_39 ?_
          refine lv_aload_n hx hb dX3_nearer_40 rfl (lv_at hl 0 rfl) ?_
          refine va_get (D := D) (ci := 3) (v := .ref a_fa) (C := RX3) (T := TX3) (N := 19) hx hb hts k_X3_nearer_X3 hown hK hP 0 rfl rfl 10 (by decide) (hts _ q_X3_nearer_2) (fun _ h9 => h9) rfl dX3_nearer_41 ?_
          refine lv_iload_n hx hb dX3_nearer_44 rfl (lv_at hl 1 rfl) ?_
          obtain ⟨h_10, hw⟩ := hw
          refine va_iald hx hb hK hP 4 0 rfl rfl h_10 dX3_nearer_45 ?_
          refine lv_iconst (v := 1) hx hb dX3_nearer_46 (by decide) ?_
          refine lv_isub hx hb dX3_nearer_47 ?_
          refine lv_icmp_eq (tgt := 57) hx hb dX3_nearer_48 (by decide) (fun c_11 => ?_) (fun c_11 => ?_)
          · replace hw := hw.1 c_11
            exact k57 _ _ _ _ _ _ hw hP hD hS (lv_sub hl [0, 3] rfl)
          · replace hw := hw.2 c_11
            refine lv_iinc (v := v_3 + 1) (lv' := [(3, .int (v_3 + 1)), (0, .ref a_this), (1, .int v_1), (2, .int v_2)]) hx hb dX3_nearer_51 hl (k := 3) rfl rfl (by decide) rfl (fun ls hl => ?_)
            refine lv_goto (tgt := 2) hx hb dX3_nearer_54 (by decide) ?_
            exact ih _ _ _ _ _ _ hw hP hD hS (lv_sub hl [1, 2, 3, 0] rfl)
def wp_X3_nearer (c_n : Int32) (c_tu : Int32) (c_fr : Nat → Int32) (c_no : Nat → Int32) (c_te : Nat → Int32) (c_fa : Nat → Int32) (p_1 : Int32) (p_2 : Int32) (post : Int32 → ((Nat → Int32) × (Nat → Int32)) → Prop) : Prop := (∃ N_12 : Nat, lp_X3_nearer_2 c_fa c_fr c_n c_tu p_1 p_2 (fun (v_13 : Int32) (c_14 : Nat → Int32) (c_15 : Nat → Int32) => (((2 * c_tu) ≤ v_13 → (post (-1) (c_14, c_15))) ∧ (¬ (2 * c_tu) ≤ v_13 → (post v_13 (c_14, c_15))))) N_12 0 c_no c_te)
set_option maxHeartbeats 4000000 in
set_option maxRecDepth 100000 in
theorem c_X3_nearer (l : Launch) (D : va_G) (cy : Nat → ClassId) (a_this : Nat) (a_ro : Nat) (a_fr : Nat) (a_bu : Nat) (a_no : Nat) (a_te : Nat) (a_fa : Nat) (a_li : Nat) (a_wy : Nat) (a_su : Nat) (c_th : Int32) (c_n : Int32) (c_tu : Int32) (c_al : Int32) (c_le : Int32) (c_wa : Int32) (c_re : Int32) (c_us : Int32) (c_di : Int32) (c_ha : Int64) (c_fr : Nat → Int32) (c_no : Nat → Int32) (c_te : Nat → Int32) (c_fa : Nat → Int32) (p_1 : Int32) (p_2 : Int32) {post : Int32 → ((Nat → Int32) × (Nat → Int32)) → Prop} (hw : wp_X3_nearer c_n c_tu c_fr c_no c_te c_fa p_1 p_2 post) (sz : Nat) : Met l yX3_nearer wsX3_nearer ({ frames := 3, cells := 0, slots := 0, locals := 73 }) (va_Pc [.ref a_this, .int p_1, .int p_2] (PreW D cy ([(a_this, .inr (3, [.int c_th, .int c_n, .int c_tu, .int c_al, .ref a_ro, .ref a_fr, .int c_le, .ref a_bu, .ref a_no, .ref a_te, .ref a_fa, .ref a_li, .int c_wa, .int c_re, .int c_us, .int c_di, .ref a_wy, .ref a_su, .long c_ha])), (a_fr, .inl (cy 0, 96, .inl c_fr)), (a_no, .inl (cy 0, 8, .inl c_no)), (a_te, .inl (cy 0, 8, .inl c_te)), (a_fa, .inl (cy 0, 40320, .inl c_fa))]) sz)) (va_Qi post (fun u t => PostW D cy (va_A ([(a_this, .inr (3, [.int c_th, .int c_n, .int c_tu, .int c_al, .ref a_ro, .ref a_fr, .int c_le, .ref a_bu, .ref a_no, .ref a_te, .ref a_fa, .ref a_li, .int c_wa, .int c_re, .int c_us, .int c_di, .ref a_wy, .ref a_su, .long c_ha])), (a_fr, .inl (cy 0, 96, .inl c_fr)), (a_no, .inl (cy 0, 8, .inl c_no)), (a_te, .inl (cy 0, 8, .inl c_te)), (a_fa, .inl (cy 0, 40320, .inl c_fa))]) sz) ([(a_this, .inr (3, [.int c_th, .int c_n, .int c_tu, .int c_al, .ref a_ro, .ref a_fr, .int c_le, .ref a_bu, .ref a_no, .ref a_te, .ref a_fa, .ref a_li, .int c_wa, .int c_re, .int c_us, .int c_di, .ref a_wy, .ref a_su, .long c_ha])), (a_fr, .inl (cy 0, 96, .inl c_fr)), (a_no, .inl (cy 0, 8, .inl u.1)), (a_te, .inl (cy 0, 8, .inl u.2)), (a_fa, .inl (cy 0, 40320, .inl c_fa))]) t) (va_A ([(a_this, .inr (3, [.int c_th, .int c_n, .int c_tu, .int c_al, .ref a_ro, .ref a_fr, .int c_le, .ref a_bu, .ref a_no, .ref a_te, .ref a_fa, .ref a_li, .int c_wa, .int c_re, .int c_us, .int c_di, .ref a_wy, .ref a_su, .long c_ha])), (a_fr, .inl (cy 0, 96, .inl c_fr)), (a_no, .inl (cy 0, 8, .inl c_no)), (a_te, .inl (cy 0, 8, .inl c_te)), (a_fa, .inl (cy 0, 40320, .inl c_fa))]) sz)) 0 0 (va_A ([(a_this, .inr (3, [.int c_th, .int c_n, .int c_tu, .int c_al, .ref a_ro, .ref a_fr, .int c_le, .ref a_bu, .ref a_no, .ref a_te, .ref a_fa, .ref a_li, .int c_wa, .int c_re, .int c_us, .int c_di, .ref a_wy, .ref a_su, .long c_ha])), (a_fr, .inl (cy 0, 96, .inl c_fr)), (a_no, .inl (cy 0, 8, .inl c_no)), (a_te, .inl (cy 0, 8, .inl c_te)), (a_fa, .inl (cy 0, 40320, .inl c_fa))]) sz) := by
  refine j_met (Qc := fun A => va_Qi post (fun u t => PostW D cy A ([(a_this, .inr (3, [.int c_th, .int c_n, .int c_tu, .int c_al, .ref a_ro, .ref a_fr, .int c_le, .ref a_bu, .ref a_no, .ref a_te, .ref a_fa, .ref a_li, .int c_wa, .int c_re, .int c_us, .int c_di, .ref a_wy, .ref a_su, .long c_ha])), (a_fr, .inl (cy 0, 96, .inl c_fr)), (a_no, .inl (cy 0, 8, .inl u.1)), (a_te, .inl (cy 0, 8, .inl u.2)), (a_fa, .inl (cy 0, 40320, .inl c_fa))]) t) A) (by decide +kernel) rfl (Nat.le_of_ble_eq_true rfl) ?_
  intro p e s m below meth c A ls C0 hr hlocks hP hD hS hl
  obtain ⟨hx, hb, hml, hown, hts, hK, hA⟩ := id C0
  have hown : s.vm.findClass RX3 = some m.cls := hown
  have hl : lv_has ls 4 [(0, .ref a_this), (1, .int p_1), (2, .int p_2)] := hl
  unfold wp_X3_nearer at hw
  refine lv_iconst (v := 0) hx hb dX3_nearer_0 (by decide) ?_
  refine lv_istore_n (lv' := [(3, .int 0), (0, .ref a_this), (1, .int p_1), (2, .int p_2)]) hx hb dX3_nearer_1 rfl hl (by decide) rfl (fun ls hl => ?_)
  obtain ⟨N_12, hw⟩ := hw
  refine l_X3_nearer_2 C0 (fun v_13 c_14 c_15 H locs ls hw hP hD hS hl => ?_) _ _ _ _ _ _ _ hw hP hD hS (lv_sub hl [1, 2, 3, 0] rfl)
  refine lv_iload_n hx hb dX3_nearer_57 rfl (lv_at hl 1 rfl) ?_
  refine lv_iconst (v := 2) hx hb dX3_nearer_58 (by decide) ?_
  refine lv_aload_n hx hb dX3_nearer_59 rfl (lv_at hl 0 rfl) ?_
  refine va_get (D := D) (ci := 3) (v := .int c_tu) (C := RX3) (T := TX3) (N := 19) hx hb hts k_X3_nearer_X3 hown hK hP 0 rfl rfl 2 (by decide) (hts _ q_X3_nearer_1) (fun _ h9 => h9) rfl dX3_nearer_60 ?_
  refine lv_imul hx hb dX3_nearer_63 ?_
  refine lv_icmp_ge (tgt := 71) hx hb dX3_nearer_64 (by decide) (fun c_16 => ?_) (fun c_16 => ?_)
  · replace hw := hw.1 c_16
    refine lv_iconst (v := (-1)) hx hb dX3_nearer_71 (by decide) ?_
    exact j_iret (fun u => [(a_this, .inr (3, [.int c_th, .int c_n, .int c_tu, .int c_al, .ref a_ro, .ref a_fr, .int c_le, .ref a_bu, .ref a_no, .ref a_te, .ref a_fa, .ref a_li, .int c_wa, .int c_re, .int c_us, .int c_di, .ref a_wy, .ref a_su, .long c_ha])), (a_fr, .inl (cy 0, 96, .inl c_fr)), (a_no, .inl (cy 0, 8, .inl u.1)), (a_te, .inl (cy 0, 8, .inl u.2)), (a_fa, .inl (cy 0, 40320, .inl c_fa))]) ((c_14, c_15) : (Nat → Int32) × (Nat → Int32)) hx hb hr hlocks hK hP hD hS hw dX3_nearer_72
  · replace hw := hw.2 c_16
    refine lv_iload_n hx hb dX3_nearer_67 rfl (lv_at hl 1 rfl) ?_
    refine lv_goto (tgt := 72) hx hb dX3_nearer_68 (by decide) ?_
    exact j_iret (fun u => [(a_this, .inr (3, [.int c_th, .int c_n, .int c_tu, .int c_al, .ref a_ro, .ref a_fr, .int c_le, .ref a_bu, .ref a_no, .ref a_te, .ref a_fa, .ref a_li, .int c_wa, .int c_re, .int c_us, .int c_di, .ref a_wy, .ref a_su, .long c_ha])), (a_fr, .inl (cy 0, 96, .inl c_fr)), (a_no, .inl (cy 0, 8, .inl u.1)), (a_te, .inl (cy 0, 8, .inl u.2)), (a_fa, .inl (cy 0, 40320, .inl c_fa))]) ((c_14, c_15) : (Nat → Int32) × (Nat → Int32)) hx hb hr hlocks hK hP hD hS hw dX3_nearer_72
theorem q_X3_isEven_1 : Cond.fieldLink RX3 7 "TwistedRowModel" "n" "I" ∈ wsX3_isEven := List.mem_of_getElem? (i := 1) rfl
theorem k_X3_isEven_X3 : ∀ w ∈ wsX30, w ∈ wsX3_isEven := my_in _ [2, 3, 4, 5, 6, 7, 8, 9, 10, 11, 12, 13, 14, 15, 16, 17, 18, 19, 20] (by decide +kernel)
def lp_X3_isEven_17 (c_a1 : Nat → Int32) (c_n : Int32) (v_3 : Int32) (K50 : Int32 → Int32 → Prop) : Nat → Int32 → Int32 → Prop
  | 0, _, _ => False
  | N + 1, v_2, v_4 => ((c_n ≤ v_4 → (K50 v_2 v_4)) ∧ (¬ c_n ≤ v_4 → (vp_in v_3 8 ∧ (vp_in v_4 8 ∧ (((c_a1 (v_3 : Int32).toNatClampNeg) ≤ (c_a1 (v_4 : Int32).toNatClampNeg) → (∀ x_7 : Int32, x_7 = v_2 + 0 → (lp_X3_isEven_17 c_a1 c_n v_3 K50 N x_7 (v_4 + 1)))) ∧ (¬ (c_a1 (v_3 : Int32).toNatClampNeg) ≤ (c_a1 (v_4 : Int32).toNatClampNeg) → (∀ x_8 : Int32, x_8 = v_2 + 1 → (lp_X3_isEven_17 c_a1 c_n v_3 K50 N x_8 (v_4 + 1)))))))))
set_option maxHeartbeats 4000000 in
set_option maxRecDepth 100000 in
theorem l_X3_isEven_17 {p : Program} {l : Launch} {e : Env} {s : State} {m : MethodId} {args : Array Value} {below : List Frame} {meth : Method} {c : Code} {A : Nat → Prop} {D : va_G} {cy : Nat → ClassId} {Q : State → Prop} {a_this : Nat} {a_ro : Nat} {a_fr : Nat} {a_bu : Nat} {a_no : Nat} {a_te : Nat} {a_fa : Nat} {a_li : Nat} {a_wy : Nat} {a_su : Nat} {a_a1 : Nat} {c_th : Int32} {c_n : Int32} {c_tu : Int32} {c_al : Int32} {c_le : Int32} {c_wa : Int32} {c_re : Int32} {c_us : Int32} {c_di : Int32} {c_ha : Int64} {c_a1 : Nat → Int32} {v_3 : Int32} {K50 : Int32 → Int32 → Prop} (C0 : Cx p s m args c cX3_isEven yX3_isEven.cls 5 wsX3_isEven D cy A)
    (k50 : ∀ (v_2 : Int32) (v_4 : Int32) (H : Heap) (locs : List Loc) (ls : Array Slot), K50 v_2 v_4 → va_P D vwCl ([(a_this, .inr (3, [.int c_th, .int c_n, .int c_tu, .int c_al, .ref a_ro, .ref a_fr, .int c_le, .ref a_bu, .ref a_no, .ref a_te, .ref a_fa, .ref a_li, .int c_wa, .int c_re, .int c_us, .int c_di, .ref a_wy, .ref a_su, .long c_ha])), (a_a1, .inl (cy 0, 8, .inl c_a1))]) H → va_D A ([(a_this, .inr (3, [.int c_th, .int c_n, .int c_tu, .int c_al, .ref a_ro, .ref a_fr, .int c_le, .ref a_bu, .ref a_no, .ref a_te, .ref a_fa, .ref a_li, .int c_wa, .int c_re, .int c_us, .int c_di, .ref a_wy, .ref a_su, .long c_ha])), (a_a1, .inl (cy 0, 8, .inl c_a1))]) → va_S A s.heap H locs → lv_has ls 5 [(0, .ref a_this), (1, .ref a_a1), (2, .int v_2), (3, .int v_3)] → W p l e (({ frames := 0, cells := 0, slots := 0, locals := 0 } : Room)) s m args below meth c H locs 0 0 Q (F0 m 50 ls [])) :
    ∀ (N : Nat) (v_2 : Int32) (v_4 : Int32) (H : Heap) (locs : List Loc) (ls : Array Slot), lp_X3_isEven_17 c_a1 c_n v_3 K50 N v_2 v_4 → va_P D vwCl ([(a_this, .inr (3, [.int c_th, .int c_n, .int c_tu, .int c_al, .ref a_ro, .ref a_fr, .int c_le, .ref a_bu, .ref a_no, .ref a_te, .ref a_fa, .ref a_li, .int c_wa, .int c_re, .int c_us, .int c_di, .ref a_wy, .ref a_su, .long c_ha])), (a_a1, .inl (cy 0, 8, .inl c_a1))]) H → va_D A ([(a_this, .inr (3, [.int c_th, .int c_n, .int c_tu, .int c_al, .ref a_ro, .ref a_fr, .int c_le, .ref a_bu, .ref a_no, .ref a_te, .ref a_fa, .ref a_li, .int c_wa, .int c_re, .int c_us, .int c_di, .ref a_wy, .ref a_su, .long c_ha])), (a_a1, .inl (cy 0, 8, .inl c_a1))]) → va_S A s.heap H locs → lv_has ls 5 [(0, .ref a_this), (1, .ref a_a1), (2, .int v_2), (3, .int v_3), (4, .int v_4)] → W p l e (({ frames := 0, cells := 0, slots := 0, locals := 0 } : Room)) s m args below meth c H locs 0 0 Q (F0 m 17 ls []) := by
  obtain ⟨hx, hb, hml, hown, hts, hK, hA⟩ := id C0
  intro N
  induction N with
  | zero =>
    intro v_2 v_4 H locs ls hw
    exact False.elim hw
  | succ N ih =>
    intro v_2 v_4 H locs ls hw hP hD hS hl
    rw [lp_X3_isEven_17] at hw
    refine lv_iload hx hb dX3_isEven_17 (lv_at hl 4 rfl) ?_
    refine lv_aload_n hx hb dX3_isEven_19 rfl (lv_at hl 0 rfl) ?_
    refine va_get (D := D) (ci := 3) (v := .int c_n) (C := RX3) (T := TX3) (N := 19) hx hb hts k_X3_isEven_X3 hown hK hP 0 rfl rfl 1 (by decide) (hts _ q_X3_isEven_1) (fun _ h9 => h9) rfl dX3_isEven_20 ?_
    refine lv_icmp_ge (tgt := 50) hx hb dX3_isEven_23 (by decide) (fun c_3 => ?_) (fun c_3 => ?_)
    · replace hw := hw.1 c_3
      exact k50 _ _ _ _ _ hw hP hD hS (lv_sub hl [0, 1, 2, 3] rfl)
    · replace hw := hw.2 c_3
      refine lv_iload_n hx hb dX3_isEven_26 rfl (lv_at hl 2 rfl) ?_
      refine lv_aload_n hx hb dX3_isEven_27 rfl (lv_at hl 1 rfl) ?_
      refine lv_iload_n hx hb dX3_isEven_28 rfl (lv_at hl 3 rfl) ?_
      obtain ⟨h_4, hw⟩ := hw
      refine va_iald hx hb hK hP 1 0 rfl rfl h_4 dX3_isEven_29 ?_
      refine lv_aload_n hx hb dX3_isEven_30 rfl (lv_at hl 1 rfl) ?_
      refine lv_iload hx hb dX3_isEven_31 (lv_at hl 4 rfl) ?_
      obtain ⟨h_5, hw⟩ := hw
      refine va_iald hx hb hK hP 1 0 rfl rfl h_5 dX3_isEven_33 ?_
      refine lv_icmp_le (tgt := 41) hx hb dX3_isEven_34 (by decide) (fun c_6 => ?_) (fun c_6 => ?_)
      · replace hw := hw.1 c_6
        refine lv_iconst (v := 0) hx hb dX3_isEven_41 (by decide) ?_
        refine lv_iadd hx hb dX3_isEven_42 ?_
        refine lv_topi (fun x_7 ex_7 => ?_)
        replace hw := hw x_7 ex_7
        refine lv_istore_n (lv' := [(2, .int x_7), (0, .ref a_this), (1, .ref a_a1), (3, .int v_3), (4, .int v_4)]) hx hb dX3_isEven_43 rfl hl (by decide) rfl (fun ls hl => ?_)
        refine lv_iinc (v := v_4 + 1) (lv' := [(4, .int (v_4 + 1)), (2, .int x_7), (0, .ref a_this), (1, .ref a_a1), (3, .int v_3)]) hx hb dX3_isEven_44 hl (k := 4) rfl rfl (by decide) rfl (fun ls hl => ?_)
        refine lv_goto (tgt := 17) hx hb dX3_isEven_47 (by decide) ?_
        exact ih _ _ _ _ _ hw hP hD hS (lv_sub hl [2, 3, 1, 4, 0] rfl)
      · replace hw := hw.2 c_6
        refine lv_iconst (v := 1) hx hb dX3_isEven_37 (by decide) ?_
        refine lv_goto (tgt := 42) hx hb dX3_isEven_38 (by decide) ?_
        refine lv_iadd hx hb dX3_isEven_42 ?_
        refine lv_topi (fun x_8 ex_8 => ?_)
        replace hw := hw x_8 ex_8
        refine lv_istore_n (lv' := [(2, .int x_8), (0, .ref a_this), (1, .ref a_a1), (3, .int v_3), (4, .int v_4)]) hx hb dX3_isEven_43 rfl hl (by decide) rfl (fun ls hl => ?_)
        refine lv_iinc (v := v_4 + 1) (lv' := [(4, .int (v_4 + 1)), (2, .int x_8), (0, .ref a_this), (1, .ref a_a1), (3, .int v_3)]) hx hb dX3_isEven_44 hl (k := 4) rfl rfl (by decide) rfl (fun ls hl => ?_)
        refine lv_goto (tgt := 17) hx hb dX3_isEven_47 (by decide) ?_
        exact ih _ _ _ _ _ hw hP hD hS (lv_sub hl [2, 3, 1, 4, 0] rfl)
def lp_X3_isEven_4 (c_a1 : Nat → Int32) (c_n : Int32) (K56 : Int32 → Int32 → Prop) : Nat → Int32 → Int32 → Prop
  | 0, _, _ => False
  | N + 1, v_2, v_3 => ((c_n ≤ v_3 → (K56 v_2 v_3)) ∧ (¬ c_n ≤ v_3 → (∀ x_2 : Int32, x_2 = v_3 + 1 → (∃ N_9 : Nat, lp_X3_isEven_17 c_a1 c_n v_3 (fun (v_10 : Int32) (v_11 : Int32) => (lp_X3_isEven_4 c_a1 c_n K56 N v_10 (v_3 + 1))) N_9 v_2 x_2))))
set_option maxHeartbeats 4000000 in
set_option maxRecDepth 100000 in
theorem l_X3_isEven_4 {p : Program} {l : Launch} {e : Env} {s : State} {m : MethodId} {args : Array Value} {below : List Frame} {meth : Method} {c : Code} {A : Nat → Prop} {D : va_G} {cy : Nat → ClassId} {Q : State → Prop} {a_this : Nat} {a_ro : Nat} {a_fr : Nat} {a_bu : Nat} {a_no : Nat} {a_te : Nat} {a_fa : Nat} {a_li : Nat} {a_wy : Nat} {a_su : Nat} {a_a1 : Nat} {c_th : Int32} {c_n : Int32} {c_tu : Int32} {c_al : Int32} {c_le : Int32} {c_wa : Int32} {c_re : Int32} {c_us : Int32} {c_di : Int32} {c_ha : Int64} {c_a1 : Nat → Int32} {K56 : Int32 → Int32 → Prop} (C0 : Cx p s m args c cX3_isEven yX3_isEven.cls 5 wsX3_isEven D cy A)
    (k56 : ∀ (v_2 : Int32) (v_3 : Int32) (H : Heap) (locs : List Loc) (ls : Array Slot), K56 v_2 v_3 → va_P D vwCl ([(a_this, .inr (3, [.int c_th, .int c_n, .int c_tu, .int c_al, .ref a_ro, .ref a_fr, .int c_le, .ref a_bu, .ref a_no, .ref a_te, .ref a_fa, .ref a_li, .int c_wa, .int c_re, .int c_us, .int c_di, .ref a_wy, .ref a_su, .long c_ha])), (a_a1, .inl (cy 0, 8, .inl c_a1))]) H → va_D A ([(a_this, .inr (3, [.int c_th, .int c_n, .int c_tu, .int c_al, .ref a_ro, .ref a_fr, .int c_le, .ref a_bu, .ref a_no, .ref a_te, .ref a_fa, .ref a_li, .int c_wa, .int c_re, .int c_us, .int c_di, .ref a_wy, .ref a_su, .long c_ha])), (a_a1, .inl (cy 0, 8, .inl c_a1))]) → va_S A s.heap H locs → lv_has ls 5 [(2, .int v_2)] → W p l e (({ frames := 0, cells := 0, slots := 0, locals := 0 } : Room)) s m args below meth c H locs 0 0 Q (F0 m 56 ls [])) :
    ∀ (N : Nat) (v_2 : Int32) (v_3 : Int32) (H : Heap) (locs : List Loc) (ls : Array Slot), lp_X3_isEven_4 c_a1 c_n K56 N v_2 v_3 → va_P D vwCl ([(a_this, .inr (3, [.int c_th, .int c_n, .int c_tu, .int c_al, .ref a_ro, .ref a_fr, .int c_le, .ref a_bu, .ref a_no, .ref a_te, .ref a_fa, .ref a_li, .int c_wa, .int c_re, .int c_us, .int c_di, .ref a_wy, .ref a_su, .long c_ha])), (a_a1, .inl (cy 0, 8, .inl c_a1))]) H → va_D A ([(a_this, .inr (3, [.int c_th, .int c_n, .int c_tu, .int c_al, .ref a_ro, .ref a_fr, .int c_le, .ref a_bu, .ref a_no, .ref a_te, .ref a_fa, .ref a_li, .int c_wa, .int c_re, .int c_us, .int c_di, .ref a_wy, .ref a_su, .long c_ha])), (a_a1, .inl (cy 0, 8, .inl c_a1))]) → va_S A s.heap H locs → lv_has ls 5 [(0, .ref a_this), (1, .ref a_a1), (2, .int v_2), (3, .int v_3)] → W p l e (({ frames := 0, cells := 0, slots := 0, locals := 0 } : Room)) s m args below meth c H locs 0 0 Q (F0 m 4 ls []) := by
  obtain ⟨hx, hb, hml, hown, hts, hK, hA⟩ := id C0
  intro N
  induction N with
  | zero =>
    intro v_2 v_3 H locs ls hw
    exact False.elim hw
  | succ N ih =>
    intro v_2 v_3 H locs ls hw hP hD hS hl
    rw [lp_X3_isEven_4] at hw
    refine lv_iload_n hx hb dX3_isEven_4 rfl (lv_at hl 3 rfl) ?_
    refine lv_aload_n hx hb dX3_isEven_5 rfl (lv_at hl 0 rfl) ?_
    refine va_get (D := D) (ci := 3) (v := .int c_n) (C := RX3) (T := TX3) (N := 19) hx hb hts k_X3_isEven_X3 hown hK hP 0 rfl rfl 1 (by decide) (hts _ q_X3_isEven_1) (fun _ h9 => h9) rfl dX3_isEven_6 ?_
    refine lv_icmp_ge (tgt := 56) hx hb dX3_isEven_9 (by decide) (fun c_1 => ?_) (fun c_1 => ?_)
    · replace hw := hw.1 c_1
      exact k56 _ _ _ _ _ hw hP hD hS (lv_sub hl [2] rfl)
    · replace hw := hw.2 c_1
      refine lv_iload_n hx hb dX3_isEven_12 rfl (lv_at hl 3 rfl) ?_
      refine lv_iconst (v := 1) hx hb dX3_isEven_13 (by decide) ?_
      refine lv_iadd hx hb dX3_isEven_14 ?_
      refine lv_topi (fun x_2 ex_2 => ?_)
      replace hw := hw x_2 ex_2
      refine lv_istore (lv' := [(4, .int x_2), (0, .ref a_this), (1, .ref a_a1), (2, .int v_2), (3, .int v_3)]) hx hb dX3_isEven_15 hl (by decide) rfl (fun ls hl => ?_)
      obtain ⟨N_9, hw⟩ := hw
      refine l_X3_isEven_17 C0 (fun v_10 v_11 H locs ls hw hP hD hS hl => ?_) _ _ _ _ _ _ hw hP hD hS (lv_sub hl [1, 2, 3, 4, 0] rfl)
      refine lv_iinc (v := v_3 + 1) (lv' := [(3, .int (v_3 + 1)), (0, .ref a_this), (1, .ref a_a1), (2, .int v_10)]) hx hb dX3_isEven_50 hl (k := 3) rfl rfl (by decide) rfl (fun ls hl => ?_)
      refine lv_goto (tgt := 4) hx hb dX3_isEven_53 (by decide) ?_
      exact ih _ _ _ _ _ hw hP hD hS (lv_sub hl [1, 2, 3, 0] rfl)
def wp_X3_isEven (c_n : Int32) (c_a1 : Nat → Int32) (post : Int32 → Unit → Prop) : Prop := (∃ N_12 : Nat, lp_X3_isEven_4 c_a1 c_n (fun (v_13 : Int32) (v_14 : Int32) => ((¬ (v_13 - v_13 / 2 * 2) = 0 → (post 0 ())) ∧ ((v_13 - v_13 / 2 * 2) = 0 → (post 1 ())))) N_12 0 0)
set_option maxHeartbeats 4000000 in
set_option maxRecDepth 100000 in
theorem c_X3_isEven (l : Launch) (D : va_G) (cy : Nat → ClassId) (a_this : Nat) (a_ro : Nat) (a_fr : Nat) (a_bu : Nat) (a_no : Nat) (a_te : Nat) (a_fa : Nat) (a_li : Nat) (a_wy : Nat) (a_su : Nat) (a_a1 : Nat) (c_th : Int32) (c_n : Int32) (c_tu : Int32) (c_al : Int32) (c_le : Int32) (c_wa : Int32) (c_re : Int32) (c_us : Int32) (c_di : Int32) (c_ha : Int64) (c_a1 : Nat → Int32) {post : Int32 → Unit → Prop} (hw : wp_X3_isEven c_n c_a1 post) (sz : Nat) : Met l yX3_isEven wsX3_isEven ({ frames := 0, cells := 0, slots := 0, locals := 0 }) (va_Pc [.ref a_this, .ref a_a1] (PreW D cy ([(a_this, .inr (3, [.int c_th, .int c_n, .int c_tu, .int c_al, .ref a_ro, .ref a_fr, .int c_le, .ref a_bu, .ref a_no, .ref a_te, .ref a_fa, .ref a_li, .int c_wa, .int c_re, .int c_us, .int c_di, .ref a_wy, .ref a_su, .long c_ha])), (a_a1, .inl (cy 0, 8, .inl c_a1))]) sz)) (va_Qi post (fun u t => PostW D cy (va_A ([(a_this, .inr (3, [.int c_th, .int c_n, .int c_tu, .int c_al, .ref a_ro, .ref a_fr, .int c_le, .ref a_bu, .ref a_no, .ref a_te, .ref a_fa, .ref a_li, .int c_wa, .int c_re, .int c_us, .int c_di, .ref a_wy, .ref a_su, .long c_ha])), (a_a1, .inl (cy 0, 8, .inl c_a1))]) sz) ([(a_this, .inr (3, [.int c_th, .int c_n, .int c_tu, .int c_al, .ref a_ro, .ref a_fr, .int c_le, .ref a_bu, .ref a_no, .ref a_te, .ref a_fa, .ref a_li, .int c_wa, .int c_re, .int c_us, .int c_di, .ref a_wy, .ref a_su, .long c_ha])), (a_a1, .inl (cy 0, 8, .inl c_a1))]) t) (va_A ([(a_this, .inr (3, [.int c_th, .int c_n, .int c_tu, .int c_al, .ref a_ro, .ref a_fr, .int c_le, .ref a_bu, .ref a_no, .ref a_te, .ref a_fa, .ref a_li, .int c_wa, .int c_re, .int c_us, .int c_di, .ref a_wy, .ref a_su, .long c_ha])), (a_a1, .inl (cy 0, 8, .inl c_a1))]) sz)) 0 0 (va_A ([(a_this, .inr (3, [.int c_th, .int c_n, .int c_tu, .int c_al, .ref a_ro, .ref a_fr, .int c_le, .ref a_bu, .ref a_no, .ref a_te, .ref a_fa, .ref a_li, .int c_wa, .int c_re, .int c_us, .int c_di, .ref a_wy, .ref a_su, .long c_ha])), (a_a1, .inl (cy 0, 8, .inl c_a1))]) sz) := by
  refine j_met (Qc := fun A => va_Qi post (fun u t => PostW D cy A ([(a_this, .inr (3, [.int c_th, .int c_n, .int c_tu, .int c_al, .ref a_ro, .ref a_fr, .int c_le, .ref a_bu, .ref a_no, .ref a_te, .ref a_fa, .ref a_li, .int c_wa, .int c_re, .int c_us, .int c_di, .ref a_wy, .ref a_su, .long c_ha])), (a_a1, .inl (cy 0, 8, .inl c_a1))]) t) A) (by decide +kernel) rfl (Nat.le_of_ble_eq_true rfl) ?_
  intro p e s m below meth c A ls C0 hr hlocks hP hD hS hl
  obtain ⟨hx, hb, hml, hown, hts, hK, hA⟩ := id C0
  have hown : s.vm.findClass RX3 = some m.cls := hown
  have hl : lv_has ls 5 [(0, .ref a_this), (1, .ref a_a1)] := hl
  unfold wp_X3_isEven at hw
  refine lv_iconst (v := 0) hx hb dX3_isEven_0 (by decide) ?_
  refine lv_istore_n (lv' := [(2, .int 0), (0, .ref a_this), (1, .ref a_a1)]) hx hb dX3_isEven_1 rfl hl (by decide) rfl (fun ls hl => ?_)
  refine lv_iconst (v := 0) hx hb dX3_isEven_2 (by decide) ?_
  refine lv_istore_n (lv' := [(3, .int 0), (2, .int 0), (0, .ref a_this), (1, .ref a_a1)]) hx hb dX3_isEven_3 rfl hl (by decide) rfl (fun ls hl => ?_)
  obtain ⟨N_12, hw⟩ := hw
  refine l_X3_isEven_4 C0 (fun v_13 v_14 H locs ls hw hP hD hS hl => ?_) _ _ _ _ _ _ hw hP hD hS (lv_sub hl [2, 3, 1, 0] rfl)
  refine lv_iload_n hx hb dX3_isEven_56 rfl (lv_at hl 0 rfl) ?_
  refine lv_iconst (v := 2) hx hb dX3_isEven_57 (by decide) ?_
  refine lv_irem hx hb dX3_isEven_58 (by decide) ?_
  refine lv_if_ne (tgt := 66) hx hb dX3_isEven_59 (by decide) (fun c_15 => ?_) (fun c_15 => ?_)
  · replace hw := hw.1 c_15
    refine lv_iconst (v := 0) hx hb dX3_isEven_66 (by decide) ?_
    exact j_zret (fun u => [(a_this, .inr (3, [.int c_th, .int c_n, .int c_tu, .int c_al, .ref a_ro, .ref a_fr, .int c_le, .ref a_bu, .ref a_no, .ref a_te, .ref a_fa, .ref a_li, .int c_wa, .int c_re, .int c_us, .int c_di, .ref a_wy, .ref a_su, .long c_ha])), (a_a1, .inl (cy 0, 8, .inl c_a1))]) (() : Unit) hx hb hr rfl hlocks hK hP hD hS hw dX3_isEven_67
  · replace hw := hw.2 c_15
    refine lv_iconst (v := 1) hx hb dX3_isEven_62 (by decide) ?_
    refine lv_goto (tgt := 67) hx hb dX3_isEven_63 (by decide) ?_
    exact j_zret (fun u => [(a_this, .inr (3, [.int c_th, .int c_n, .int c_tu, .int c_al, .ref a_ro, .ref a_fr, .int c_le, .ref a_bu, .ref a_no, .ref a_te, .ref a_fa, .ref a_li, .int c_wa, .int c_re, .int c_us, .int c_di, .ref a_wy, .ref a_su, .long c_ha])), (a_a1, .inl (cy 0, 8, .inl c_a1))]) (() : Unit) hx hb hr rfl hlocks hK hP hD hS hw dX3_isEven_67
theorem q_X3_begin_1 : Cond.fieldLink RX3 46 "TwistedRowModel" "thrown" "I" ∈ wsX3_begin := List.mem_of_getElem? (i := 1) rfl
theorem k_X3_begin_X3 : ∀ w ∈ wsX30, w ∈ wsX3_begin := my_in _ [14, 15, 16, 17, 18, 19, 20, 21, 22, 23, 24, 25, 26, 27, 28, 29, 30, 31, 32] (by decide +kernel)
theorem q_X3_begin_2 : Cond.fieldLink RX3 7 "TwistedRowModel" "n" "I" ∈ wsX3_begin := List.mem_of_getElem? (i := 2) rfl
theorem q_X3_begin_3 : Cond.fieldLink RX3 53 "TwistedRowModel" "turns" "I" ∈ wsX3_begin := List.mem_of_getElem? (i := 3) rfl
theorem q_X3_begin_4 : Cond.fieldLink RX3 96 "TwistedRowModel" "allowed" "I" ∈ wsX3_begin := List.mem_of_getElem? (i := 4) rfl
def wp_X3_begin (c_n : Int32) (c_tu : Int32) (c_al : Int32) (c_ro : Nat → Int32) (p_1 : Int32) (post : Int32 → (Int32 × Int32 × Int32 × Int32 × (Nat → Int32)) → Prop) : Prop := (wp_X3_within p_1 (3 : Int32) (8 : Int32) (fun r_2 u_1 => ((r_2 = 0 → (((1 : Int32) ≤ 0 → (wp_X3_straighten c_ro (fun u_5 => (post c_n ((1 : Int32), p_1, (0 : Int32), (0 : Int32), u_5))))) ∧ (¬ (1 : Int32) ≤ 0 → (post 0 ((1 : Int32), c_n, c_tu, c_al, c_ro))))) ∧ (¬ r_2 = 0 → (((0 : Int32) ≤ 0 → (wp_X3_straighten c_ro (fun u_7 => (post c_n ((0 : Int32), p_1, (0 : Int32), (0 : Int32), u_7))))) ∧ (¬ (0 : Int32) ≤ 0 → (post 0 ((0 : Int32), c_n, c_tu, c_al, c_ro))))))))
set_option maxHeartbeats 4000000 in
set_option maxRecDepth 100000 in
theorem c_X3_begin (l : Launch) (D : va_G) (cy : Nat → ClassId) (a_this : Nat) (a_ro : Nat) (a_fr : Nat) (a_bu : Nat) (a_no : Nat) (a_te : Nat) (a_fa : Nat) (a_li : Nat) (a_wy : Nat) (a_su : Nat) (c_th : Int32) (c_n : Int32) (c_tu : Int32) (c_al : Int32) (c_le : Int32) (c_wa : Int32) (c_re : Int32) (c_us : Int32) (c_di : Int32) (c_ha : Int64) (c_ro : Nat → Int32) (p_1 : Int32) {post : Int32 → (Int32 × Int32 × Int32 × Int32 × (Nat → Int32)) → Prop} (hw : wp_X3_begin c_n c_tu c_al c_ro p_1 post) (sz : Nat) : Met l yX3_begin wsX3_begin ({ frames := 1, cells := 0, slots := 0, locals := 22 }) (va_Pc [.ref a_this, .int p_1] (PreW D cy ([(a_this, .inr (3, [.int c_th, .int c_n, .int c_tu, .int c_al, .ref a_ro, .ref a_fr, .int c_le, .ref a_bu, .ref a_no, .ref a_te, .ref a_fa, .ref a_li, .int c_wa, .int c_re, .int c_us, .int c_di, .ref a_wy, .ref a_su, .long c_ha])), (a_ro, .inl (cy 0, 8, .inl c_ro))]) sz)) (va_Qi post (fun u t => PostW D cy (va_A ([(a_this, .inr (3, [.int c_th, .int c_n, .int c_tu, .int c_al, .ref a_ro, .ref a_fr, .int c_le, .ref a_bu, .ref a_no, .ref a_te, .ref a_fa, .ref a_li, .int c_wa, .int c_re, .int c_us, .int c_di, .ref a_wy, .ref a_su, .long c_ha])), (a_ro, .inl (cy 0, 8, .inl c_ro))]) sz) ([(a_this, .inr (3, [.int u.1, .int u.2.1, .int u.2.2.1, .int u.2.2.2.1, .ref a_ro, .ref a_fr, .int c_le, .ref a_bu, .ref a_no, .ref a_te, .ref a_fa, .ref a_li, .int c_wa, .int c_re, .int c_us, .int c_di, .ref a_wy, .ref a_su, .long c_ha])), (a_ro, .inl (cy 0, 8, .inl u.2.2.2.2))]) t) (va_A ([(a_this, .inr (3, [.int c_th, .int c_n, .int c_tu, .int c_al, .ref a_ro, .ref a_fr, .int c_le, .ref a_bu, .ref a_no, .ref a_te, .ref a_fa, .ref a_li, .int c_wa, .int c_re, .int c_us, .int c_di, .ref a_wy, .ref a_su, .long c_ha])), (a_ro, .inl (cy 0, 8, .inl c_ro))]) sz)) 0 0 (va_A ([(a_this, .inr (3, [.int c_th, .int c_n, .int c_tu, .int c_al, .ref a_ro, .ref a_fr, .int c_le, .ref a_bu, .ref a_no, .ref a_te, .ref a_fa, .ref a_li, .int c_wa, .int c_re, .int c_us, .int c_di, .ref a_wy, .ref a_su, .long c_ha])), (a_ro, .inl (cy 0, 8, .inl c_ro))]) sz) := by
  refine j_met (Qc := fun A => va_Qi post (fun u t => PostW D cy A ([(a_this, .inr (3, [.int u.1, .int u.2.1, .int u.2.2.1, .int u.2.2.2.1, .ref a_ro, .ref a_fr, .int c_le, .ref a_bu, .ref a_no, .ref a_te, .ref a_fa, .ref a_li, .int c_wa, .int c_re, .int c_us, .int c_di, .ref a_wy, .ref a_su, .long c_ha])), (a_ro, .inl (cy 0, 8, .inl u.2.2.2.2))]) t) A) (by decide +kernel) rfl (Nat.le_of_ble_eq_true rfl) ?_
  intro p e s m below meth c A ls C0 hr hlocks hP hD hS hl
  obtain ⟨hx, hb, hml, hown, hts, hK, hA⟩ := id C0
  have hown : s.vm.findClass RX3 = some m.cls := hown
  have hl : lv_has ls 3 [(0, .ref a_this), (1, .int p_1)] := hl
  unfold wp_X3_begin at hw
  refine lv_aload_n hx hb dX3_begin_0 rfl (lv_at hl 0 rfl) ?_
  refine lv_iload_n hx hb dX3_begin_1 rfl (lv_at hl 1 rfl) ?_
  refine lv_iconst (v := 3) hx hb dX3_begin_2 (by decide) ?_
  refine lv_bipush (v := 8) hx hb dX3_begin_3 (by decide) ?_
  refine j_calli (wr := [(a_this, .inr (3, [.int c_th, .int c_n, .int c_tu, .int c_al, .ref a_ro, .ref a_fr, .int c_le, .ref a_bu, .ref a_no, .ref a_te, .ref a_fa, .ref a_li, .int c_wa, .int c_re, .int c_us, .int c_di, .ref a_wy, .ref a_su, .long c_ha])), (a_ro, .inl (cy 0, 8, .inl c_ro))]) (va_runS (As := [.int p_1, .int 3, .int 8]) (rest := [.ref a_this]) ⟨hx, hb, hml, hown, hts⟩ (c_X3_within l D cy p_1 (3 : Int32) (8 : Int32) hw s.heap.size) (va_cwS 3 hts gX3_begin_X3_within rfl rfl rfl (by decide +kernel) ⟨Nat.le_of_ble_eq_true rfl, Nat.le_of_ble_eq_true rfl⟩) (j_preS hK hP hD (isC := []) rfl (by decide +kernel)) rfl rfl hl.1 rfl (lv_room (Nat.le_of_ble_eq_true rfl)) dX3_begin_5 ⟨Nat.le_of_ble_eq_true rfl, Nat.le_of_ble_eq_true rfl⟩) hP hD hS hA [] [0, 1] rfl rfl (by decide +kernel) (by decide +kernel) (fun u_1 => [(a_this, .inr (3, [.int c_th, .int c_n, .int c_tu, .int c_al, .ref a_ro, .ref a_fr, .int c_le, .ref a_bu, .ref a_no, .ref a_te, .ref a_fa, .ref a_li, .int c_wa, .int c_re, .int c_us, .int c_di, .ref a_wy, .ref a_su, .long c_ha])), (a_ro, .inl (cy 0, 8, .inl c_ro))]) [0, 1] (by decide +kernel) (fun u => rfl) (fun r_2 u_1 H locs hw hP hD hS => ?_)
  have hP : va_P D vwCl ([(a_this, .inr (3, [.int c_th, .int c_n, .int c_tu, .int c_al, .ref a_ro, .ref a_fr, .int c_le, .ref a_bu, .ref a_no, .ref a_te, .ref a_fa, .ref a_li, .int c_wa, .int c_re, .int c_us, .int c_di, .ref a_wy, .ref a_su, .long c_ha])), (a_ro, .inl (cy 0, 8, .inl c_ro))]) H := hP
  have hD : va_D A ([(a_this, .inr (3, [.int c_th, .int c_n, .int c_tu, .int c_al, .ref a_ro, .ref a_fr, .int c_le, .ref a_bu, .ref a_no, .ref a_te, .ref a_fa, .ref a_li, .int c_wa, .int c_re, .int c_us, .int c_di, .ref a_wy, .ref a_su, .long c_ha])), (a_ro, .inl (cy 0, 8, .inl c_ro))]) := hD
  refine lv_if_eq (tgt := 15) hx hb dX3_begin_8 (by decide) (fun c_3 => ?_) (fun c_3 => ?_)
  · replace hw := hw.1 c_3
    refine lv_iconst (v := 1) hx hb dX3_begin_15 (by decide) ?_
    refine va_put (D := D) (ci := 3) (v := .int 1) (ty := .int) (C := RX3) (T := TX3) (N := 19) hx hb hts k_X3_begin_X3 tyX3 tyX3_ok nmX3 hown hK hP hD hS 0 rfl rfl 0 (by decide) (hts _ q_X3_begin_1) (fun _ h9 => h9) rfl (by decide +kernel) rfl rfl (Nat.le_of_ble_eq_true rfl) dX3_begin_16 (fun H locs hP hD hS => ?_)
    have hP : va_P D vwCl ([(a_this, .inr (3, [.int (1 : Int32), .int c_n, .int c_tu, .int c_al, .ref a_ro, .ref a_fr, .int c_le, .ref a_bu, .ref a_no, .ref a_te, .ref a_fa, .ref a_li, .int c_wa, .int c_re, .int c_us, .int c_di, .ref a_wy, .ref a_su, .long c_ha])), (a_ro, .inl (cy 0, 8, .inl c_ro))]) H := hP
    have hD : va_D A ([(a_this, .inr (3, [.int (1 : Int32), .int c_n, .int c_tu, .int c_al, .ref a_ro, .ref a_fr, .int c_le, .ref a_bu, .ref a_no, .ref a_te, .ref a_fa, .ref a_li, .int c_wa, .int c_re, .int c_us, .int c_di, .ref a_wy, .ref a_su, .long c_ha])), (a_ro, .inl (cy 0, 8, .inl c_ro))]) := hD
    refine lv_aload_n hx hb dX3_begin_19 rfl (lv_at hl 0 rfl) ?_
    refine va_get (D := D) (ci := 3) (v := .int (1 : Int32)) (C := RX3) (T := TX3) (N := 19) hx hb hts k_X3_begin_X3 hown hK hP 0 rfl rfl 0 (by decide) (hts _ q_X3_begin_1) (fun _ h9 => h9) rfl dX3_begin_20 ?_
    refine lv_if_le (tgt := 28) hx hb dX3_begin_23 (by decide) (fun c_4 => ?_) (fun c_4 => ?_)
    · replace hw := hw.1 c_4
      refine lv_aload_n hx hb dX3_begin_28 rfl (lv_at hl 0 rfl) ?_
      refine va_get (D := D) (ci := 3) (v := .int c_n) (C := RX3) (T := TX3) (N := 19) hx hb hts k_X3_begin_X3 hown hK hP 0 rfl rfl 1 (by decide) (hts _ q_X3_begin_2) (fun _ h9 => h9) rfl dX3_begin_29 ?_
      refine lv_istore_n (lv' := [(2, .int c_n), (0, .ref a_this), (1, .int p_1)]) hx hb dX3_begin_32 rfl hl (by decide) rfl (fun ls hl => ?_)
      refine lv_aload_n hx hb dX3_begin_33 rfl (lv_at hl 1 rfl) ?_
      refine lv_iload_n hx hb dX3_begin_34 rfl (lv_at hl 2 rfl) ?_
      refine va_put (D := D) (ci := 3) (v := .int p_1) (ty := .int) (C := RX3) (T := TX3) (N := 19) hx hb hts k_X3_begin_X3 tyX3 tyX3_ok nmX3 hown hK hP hD hS 0 rfl rfl 1 (by decide) (hts _ q_X3_begin_2) (fun _ h9 => h9) rfl (by decide +kernel) rfl rfl (Nat.le_of_ble_eq_true rfl) dX3_begin_35 (fun H locs hP hD hS => ?_)
      have hP : va_P D vwCl ([(a_this, .inr (3, [.int (1 : Int32), .int p_1, .int c_tu, .int c_al, .ref a_ro, .ref a_fr, .int c_le, .ref a_bu, .ref a_no, .ref a_te, .ref a_fa, .ref a_li, .int c_wa, .int c_re, .int c_us, .int c_di, .ref a_wy, .ref a_su, .long c_ha])), (a_ro, .inl (cy 0, 8, .inl c_ro))]) H := hP
      have hD : va_D A ([(a_this, .inr (3, [.int (1 : Int32), .int p_1, .int c_tu, .int c_al, .ref a_ro, .ref a_fr, .int c_le, .ref a_bu, .ref a_no, .ref a_te, .ref a_fa, .ref a_li, .int c_wa, .int c_re, .int c_us, .int c_di, .ref a_wy, .ref a_su, .long c_ha])), (a_ro, .inl (cy 0, 8, .inl c_ro))]) := hD
      refine lv_aload_n hx hb dX3_begin_38 rfl (lv_at hl 1 rfl) ?_
      refine lv_iconst (v := 0) hx hb dX3_begin_39 (by decide) ?_
      refine va_put (D := D) (ci := 3) (v := .int 0) (ty := .int) (C := RX3) (T := TX3) (N := 19) hx hb hts k_X3_begin_X3 tyX3 tyX3_ok nmX3 hown hK hP hD hS 0 rfl rfl 2 (by decide) (hts _ q_X3_begin_3) (fun _ h9 => h9) rfl (by decide +kernel) rfl rfl (Nat.le_of_ble_eq_true rfl) dX3_begin_40 (fun H locs hP hD hS => ?_)
      have hP : va_P D vwCl ([(a_this, .inr (3, [.int (1 : Int32), .int p_1, .int (0 : Int32), .int c_al, .ref a_ro, .ref a_fr, .int c_le, .ref a_bu, .ref a_no, .ref a_te, .ref a_fa, .ref a_li, .int c_wa, .int c_re, .int c_us, .int c_di, .ref a_wy, .ref a_su, .long c_ha])), (a_ro, .inl (cy 0, 8, .inl c_ro))]) H := hP
      have hD : va_D A ([(a_this, .inr (3, [.int (1 : Int32), .int p_1, .int (0 : Int32), .int c_al, .ref a_ro, .ref a_fr, .int c_le, .ref a_bu, .ref a_no, .ref a_te, .ref a_fa, .ref a_li, .int c_wa, .int c_re, .int c_us, .int c_di, .ref a_wy, .ref a_su, .long c_ha])), (a_ro, .inl (cy 0, 8, .inl c_ro))]) := hD
      refine lv_aload_n hx hb dX3_begin_43 rfl (lv_at hl 1 rfl) ?_
      refine lv_iconst (v := 0) hx hb dX3_begin_44 (by decide) ?_
      refine va_put (D := D) (ci := 3) (v := .int 0) (ty := .int) (C := RX3) (T := TX3) (N := 19) hx hb hts k_X3_begin_X3 tyX3 tyX3_ok nmX3 hown hK hP hD hS 0 rfl rfl 3 (by decide) (hts _ q_X3_begin_4) (fun _ h9 => h9) rfl (by decide +kernel) rfl rfl (Nat.le_of_ble_eq_true rfl) dX3_begin_45 (fun H locs hP hD hS => ?_)
      have hP : va_P D vwCl ([(a_this, .inr (3, [.int (1 : Int32), .int p_1, .int (0 : Int32), .int (0 : Int32), .ref a_ro, .ref a_fr, .int c_le, .ref a_bu, .ref a_no, .ref a_te, .ref a_fa, .ref a_li, .int c_wa, .int c_re, .int c_us, .int c_di, .ref a_wy, .ref a_su, .long c_ha])), (a_ro, .inl (cy 0, 8, .inl c_ro))]) H := hP
      have hD : va_D A ([(a_this, .inr (3, [.int (1 : Int32), .int p_1, .int (0 : Int32), .int (0 : Int32), .ref a_ro, .ref a_fr, .int c_le, .ref a_bu, .ref a_no, .ref a_te, .ref a_fa, .ref a_li, .int c_wa, .int c_re, .int c_us, .int c_di, .ref a_wy, .ref a_su, .long c_ha])), (a_ro, .inl (cy 0, 8, .inl c_ro))]) := hD
      refine lv_aload_n hx hb dX3_begin_48 rfl (lv_at hl 1 rfl) ?_
      refine j_callv (wr := []) (va_runV (As := []) (rest := []) ⟨hx, hb, hml, hown, hts⟩ (c_X3_straighten l D cy a_this a_ro a_fr a_bu a_no a_te a_fa a_li a_wy a_su (1 : Int32) p_1 (0 : Int32) (0 : Int32) c_le c_wa c_re c_us c_di c_ha c_ro hw H.size) (cwV 0 hts gX3_begin_X3_straighten rfl rfl rfl (by decide +kernel) ⟨Nat.le_of_ble_eq_true rfl, Nat.le_of_ble_eq_true rfl⟩) (j_preV hK hP hD (isC := [0, 1]) rfl (by decide +kernel) (ci := 3) (q0 := 0) rfl rfl) rfl rfl hl.1 rfl (lv_room (Nat.le_of_ble_eq_true rfl)) dX3_begin_49 ⟨Nat.le_of_ble_eq_true rfl, Nat.le_of_ble_eq_true rfl⟩) hP hD hS hA [0, 1] [] rfl rfl (by decide +kernel) (by decide +kernel) (fun u_5 => [(a_this, .inr (3, [.int (1 : Int32), .int p_1, .int (0 : Int32), .int (0 : Int32), .ref a_ro, .ref a_fr, .int c_le, .ref a_bu, .ref a_no, .ref a_te, .ref a_fa, .ref a_li, .int c_wa, .int c_re, .int c_us, .int c_di, .ref a_wy, .ref a_su, .long c_ha])), (a_ro, .inl (cy 0, 8, .inl u_5))]) [0, 1] (by decide +kernel) (fun u => rfl) (fun u_5 H locs hw hP hD hS => ?_)
      have hP : va_P D vwCl ([(a_this, .inr (3, [.int (1 : Int32), .int p_1, .int (0 : Int32), .int (0 : Int32), .ref a_ro, .ref a_fr, .int c_le, .ref a_bu, .ref a_no, .ref a_te, .ref a_fa, .ref a_li, .int c_wa, .int c_re, .int c_us, .int c_di, .ref a_wy, .ref a_su, .long c_ha])), (a_ro, .inl (cy 0, 8, .inl u_5))]) H := hP
      have hD : va_D A ([(a_this, .inr (3, [.int (1 : Int32), .int p_1, .int (0 : Int32), .int (0 : Int32), .ref a_ro, .ref a_fr, .int c_le, .ref a_bu, .ref a_no, .ref a_te, .ref a_fa, .ref a_li, .int c_wa, .int c_re, .int c_us, .int c_di, .ref a_wy, .ref a_su, .long c_ha])), (a_ro, .inl (cy 0, 8, .inl u_5))]) := hD
      refine lv_iload_n hx hb dX3_begin_52 rfl (lv_at hl 0 rfl) ?_
      exact j_iret (fun u => [(a_this, .inr (3, [.int u.1, .int u.2.1, .int u.2.2.1, .int u.2.2.2.1, .ref a_ro, .ref a_fr, .int c_le, .ref a_bu, .ref a_no, .ref a_te, .ref a_fa, .ref a_li, .int c_wa, .int c_re, .int c_us, .int c_di, .ref a_wy, .ref a_su, .long c_ha])), (a_ro, .inl (cy 0, 8, .inl u.2.2.2.2))]) (((1 : Int32), p_1, (0 : Int32), (0 : Int32), u_5) : Int32 × Int32 × Int32 × Int32 × (Nat → Int32)) hx hb hr hlocks hK hP hD hS hw dX3_begin_53
    · replace hw := hw.2 c_4
      refine lv_iconst (v := 0) hx hb dX3_begin_26 (by decide) ?_
      exact j_iret (fun u => [(a_this, .inr (3, [.int u.1, .int u.2.1, .int u.2.2.1, .int u.2.2.2.1, .ref a_ro, .ref a_fr, .int c_le, .ref a_bu, .ref a_no, .ref a_te, .ref a_fa, .ref a_li, .int c_wa, .int c_re, .int c_us, .int c_di, .ref a_wy, .ref a_su, .long c_ha])), (a_ro, .inl (cy 0, 8, .inl u.2.2.2.2))]) (((1 : Int32), c_n, c_tu, c_al, c_ro) : Int32 × Int32 × Int32 × Int32 × (Nat → Int32)) hx hb hr hlocks hK hP hD hS hw dX3_begin_27
  · replace hw := hw.2 c_3
    refine lv_iconst (v := 0) hx hb dX3_begin_11 (by decide) ?_
    refine lv_goto (tgt := 16) hx hb dX3_begin_12 (by decide) ?_
    refine va_put (D := D) (ci := 3) (v := .int 0) (ty := .int) (C := RX3) (T := TX3) (N := 19) hx hb hts k_X3_begin_X3 tyX3 tyX3_ok nmX3 hown hK hP hD hS 0 rfl rfl 0 (by decide) (hts _ q_X3_begin_1) (fun _ h9 => h9) rfl (by decide +kernel) rfl rfl (Nat.le_of_ble_eq_true rfl) dX3_begin_16 (fun H locs hP hD hS => ?_)
    have hP : va_P D vwCl ([(a_this, .inr (3, [.int (0 : Int32), .int c_n, .int c_tu, .int c_al, .ref a_ro, .ref a_fr, .int c_le, .ref a_bu, .ref a_no, .ref a_te, .ref a_fa, .ref a_li, .int c_wa, .int c_re, .int c_us, .int c_di, .ref a_wy, .ref a_su, .long c_ha])), (a_ro, .inl (cy 0, 8, .inl c_ro))]) H := hP
    have hD : va_D A ([(a_this, .inr (3, [.int (0 : Int32), .int c_n, .int c_tu, .int c_al, .ref a_ro, .ref a_fr, .int c_le, .ref a_bu, .ref a_no, .ref a_te, .ref a_fa, .ref a_li, .int c_wa, .int c_re, .int c_us, .int c_di, .ref a_wy, .ref a_su, .long c_ha])), (a_ro, .inl (cy 0, 8, .inl c_ro))]) := hD
    refine lv_aload_n hx hb dX3_begin_19 rfl (lv_at hl 0 rfl) ?_
    refine va_get (D := D) (ci := 3) (v := .int (0 : Int32)) (C := RX3) (T := TX3) (N := 19) hx hb hts k_X3_begin_X3 hown hK hP 0 rfl rfl 0 (by decide) (hts _ q_X3_begin_1) (fun _ h9 => h9) rfl dX3_begin_20 ?_
    refine lv_if_le (tgt := 28) hx hb dX3_begin_23 (by decide) (fun c_6 => ?_) (fun c_6 => ?_)
    · replace hw := hw.1 c_6
      refine lv_aload_n hx hb dX3_begin_28 rfl (lv_at hl 0 rfl) ?_
      refine va_get (D := D) (ci := 3) (v := .int c_n) (C := RX3) (T := TX3) (N := 19) hx hb hts k_X3_begin_X3 hown hK hP 0 rfl rfl 1 (by decide) (hts _ q_X3_begin_2) (fun _ h9 => h9) rfl dX3_begin_29 ?_
      refine lv_istore_n (lv' := [(2, .int c_n), (0, .ref a_this), (1, .int p_1)]) hx hb dX3_begin_32 rfl hl (by decide) rfl (fun ls hl => ?_)
      refine lv_aload_n hx hb dX3_begin_33 rfl (lv_at hl 1 rfl) ?_
      refine lv_iload_n hx hb dX3_begin_34 rfl (lv_at hl 2 rfl) ?_
      refine va_put (D := D) (ci := 3) (v := .int p_1) (ty := .int) (C := RX3) (T := TX3) (N := 19) hx hb hts k_X3_begin_X3 tyX3 tyX3_ok nmX3 hown hK hP hD hS 0 rfl rfl 1 (by decide) (hts _ q_X3_begin_2) (fun _ h9 => h9) rfl (by decide +kernel) rfl rfl (Nat.le_of_ble_eq_true rfl) dX3_begin_35 (fun H locs hP hD hS => ?_)
      have hP : va_P D vwCl ([(a_this, .inr (3, [.int (0 : Int32), .int p_1, .int c_tu, .int c_al, .ref a_ro, .ref a_fr, .int c_le, .ref a_bu, .ref a_no, .ref a_te, .ref a_fa, .ref a_li, .int c_wa, .int c_re, .int c_us, .int c_di, .ref a_wy, .ref a_su, .long c_ha])), (a_ro, .inl (cy 0, 8, .inl c_ro))]) H := hP
      have hD : va_D A ([(a_this, .inr (3, [.int (0 : Int32), .int p_1, .int c_tu, .int c_al, .ref a_ro, .ref a_fr, .int c_le, .ref a_bu, .ref a_no, .ref a_te, .ref a_fa, .ref a_li, .int c_wa, .int c_re, .int c_us, .int c_di, .ref a_wy, .ref a_su, .long c_ha])), (a_ro, .inl (cy 0, 8, .inl c_ro))]) := hD
      refine lv_aload_n hx hb dX3_begin_38 rfl (lv_at hl 1 rfl) ?_
      refine lv_iconst (v := 0) hx hb dX3_begin_39 (by decide) ?_
      refine va_put (D := D) (ci := 3) (v := .int 0) (ty := .int) (C := RX3) (T := TX3) (N := 19) hx hb hts k_X3_begin_X3 tyX3 tyX3_ok nmX3 hown hK hP hD hS 0 rfl rfl 2 (by decide) (hts _ q_X3_begin_3) (fun _ h9 => h9) rfl (by decide +kernel) rfl rfl (Nat.le_of_ble_eq_true rfl) dX3_begin_40 (fun H locs hP hD hS => ?_)
      have hP : va_P D vwCl ([(a_this, .inr (3, [.int (0 : Int32), .int p_1, .int (0 : Int32), .int c_al, .ref a_ro, .ref a_fr, .int c_le, .ref a_bu, .ref a_no, .ref a_te, .ref a_fa, .ref a_li, .int c_wa, .int c_re, .int c_us, .int c_di, .ref a_wy, .ref a_su, .long c_ha])), (a_ro, .inl (cy 0, 8, .inl c_ro))]) H := hP
      have hD : va_D A ([(a_this, .inr (3, [.int (0 : Int32), .int p_1, .int (0 : Int32), .int c_al, .ref a_ro, .ref a_fr, .int c_le, .ref a_bu, .ref a_no, .ref a_te, .ref a_fa, .ref a_li, .int c_wa, .int c_re, .int c_us, .int c_di, .ref a_wy, .ref a_su, .long c_ha])), (a_ro, .inl (cy 0, 8, .inl c_ro))]) := hD
      refine lv_aload_n hx hb dX3_begin_43 rfl (lv_at hl 1 rfl) ?_
      refine lv_iconst (v := 0) hx hb dX3_begin_44 (by decide) ?_
      refine va_put (D := D) (ci := 3) (v := .int 0) (ty := .int) (C := RX3) (T := TX3) (N := 19) hx hb hts k_X3_begin_X3 tyX3 tyX3_ok nmX3 hown hK hP hD hS 0 rfl rfl 3 (by decide) (hts _ q_X3_begin_4) (fun _ h9 => h9) rfl (by decide +kernel) rfl rfl (Nat.le_of_ble_eq_true rfl) dX3_begin_45 (fun H locs hP hD hS => ?_)
      have hP : va_P D vwCl ([(a_this, .inr (3, [.int (0 : Int32), .int p_1, .int (0 : Int32), .int (0 : Int32), .ref a_ro, .ref a_fr, .int c_le, .ref a_bu, .ref a_no, .ref a_te, .ref a_fa, .ref a_li, .int c_wa, .int c_re, .int c_us, .int c_di, .ref a_wy, .ref a_su, .long c_ha])), (a_ro, .inl (cy 0, 8, .inl c_ro))]) H := hP
      have hD : va_D A ([(a_this, .inr (3, [.int (0 : Int32), .int p_1, .int (0 : Int32), .int (0 : Int32), .ref a_ro, .ref a_fr, .int c_le, .ref a_bu, .ref a_no, .ref a_te, .ref a_fa, .ref a_li, .int c_wa, .int c_re, .int c_us, .int c_di, .ref a_wy, .ref a_su, .long c_ha])), (a_ro, .inl (cy 0, 8, .inl c_ro))]) := hD
      refine lv_aload_n hx hb dX3_begin_48 rfl (lv_at hl 1 rfl) ?_
      refine j_callv (wr := []) (va_runV (As := []) (rest := []) ⟨hx, hb, hml, hown, hts⟩ (c_X3_straighten l D cy a_this a_ro a_fr a_bu a_no a_te a_fa a_li a_wy a_su (0 : Int32) p_1 (0 : Int32) (0 : Int32) c_le c_wa c_re c_us c_di c_ha c_ro hw H.size) (cwV 0 hts gX3_begin_X3_straighten rfl rfl rfl (by decide +kernel) ⟨Nat.le_of_ble_eq_true rfl, Nat.le_of_ble_eq_true rfl⟩) (j_preV hK hP hD (isC := [0, 1]) rfl (by decide +kernel) (ci := 3) (q0 := 0) rfl rfl) rfl rfl hl.1 rfl (lv_room (Nat.le_of_ble_eq_true rfl)) dX3_begin_49 ⟨Nat.le_of_ble_eq_true rfl, Nat.le_of_ble_eq_true rfl⟩) hP hD hS hA [0, 1] [] rfl rfl (by decide +kernel) (by decide +kernel) (fun u_7 => [(a_this, .inr (3, [.int (0 : Int32), .int p_1, .int (0 : Int32), .int (0 : Int32), .ref a_ro, .ref a_fr, .int c_le, .ref a_bu, .ref a_no, .ref a_te, .ref a_fa, .ref a_li, .int c_wa, .int c_re, .int c_us, .int c_di, .ref a_wy, .ref a_su, .long c_ha])), (a_ro, .inl (cy 0, 8, .inl u_7))]) [0, 1] (by decide +kernel) (fun u => rfl) (fun u_7 H locs hw hP hD hS => ?_)
      have hP : va_P D vwCl ([(a_this, .inr (3, [.int (0 : Int32), .int p_1, .int (0 : Int32), .int (0 : Int32), .ref a_ro, .ref a_fr, .int c_le, .ref a_bu, .ref a_no, .ref a_te, .ref a_fa, .ref a_li, .int c_wa, .int c_re, .int c_us, .int c_di, .ref a_wy, .ref a_su, .long c_ha])), (a_ro, .inl (cy 0, 8, .inl u_7))]) H := hP
      have hD : va_D A ([(a_this, .inr (3, [.int (0 : Int32), .int p_1, .int (0 : Int32), .int (0 : Int32), .ref a_ro, .ref a_fr, .int c_le, .ref a_bu, .ref a_no, .ref a_te, .ref a_fa, .ref a_li, .int c_wa, .int c_re, .int c_us, .int c_di, .ref a_wy, .ref a_su, .long c_ha])), (a_ro, .inl (cy 0, 8, .inl u_7))]) := hD
      refine lv_iload_n hx hb dX3_begin_52 rfl (lv_at hl 0 rfl) ?_
      exact j_iret (fun u => [(a_this, .inr (3, [.int u.1, .int u.2.1, .int u.2.2.1, .int u.2.2.2.1, .ref a_ro, .ref a_fr, .int c_le, .ref a_bu, .ref a_no, .ref a_te, .ref a_fa, .ref a_li, .int c_wa, .int c_re, .int c_us, .int c_di, .ref a_wy, .ref a_su, .long c_ha])), (a_ro, .inl (cy 0, 8, .inl u.2.2.2.2))]) (((0 : Int32), p_1, (0 : Int32), (0 : Int32), u_7) : Int32 × Int32 × Int32 × Int32 × (Nat → Int32)) hx hb hr hlocks hK hP hD hS hw dX3_begin_53
    · replace hw := hw.2 c_6
      refine lv_iconst (v := 0) hx hb dX3_begin_26 (by decide) ?_
      exact j_iret (fun u => [(a_this, .inr (3, [.int u.1, .int u.2.1, .int u.2.2.1, .int u.2.2.2.1, .ref a_ro, .ref a_fr, .int c_le, .ref a_bu, .ref a_no, .ref a_te, .ref a_fa, .ref a_li, .int c_wa, .int c_re, .int c_us, .int c_di, .ref a_wy, .ref a_su, .long c_ha])), (a_ro, .inl (cy 0, 8, .inl u.2.2.2.2))]) (((0 : Int32), c_n, c_tu, c_al, c_ro) : Int32 × Int32 × Int32 × Int32 × (Nat → Int32)) hx hb hr hlocks hK hP hD hS hw dX3_begin_27
