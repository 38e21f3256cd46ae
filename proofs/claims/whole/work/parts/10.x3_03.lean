theorem q_X3_clearInput_1 : Cond.fieldLink RX3 46 "TwistedRowModel" "thrown" "I" ∈ wsX3_clearInput := List.mem_of_getElem? (i := 1) rfl
theorem k_X3_clearInput_X3 : ∀ w ∈ wsX30, w ∈ wsX3_clearInput := my_in _ [3, 4, 5, 6, 7, 8, 9, 10, 11, 12, 13, 14, 15, 16, 17, 18, 19, 20, 21] (by decide +kernel)
theorem q_X3_clearInput_2 : Cond.fieldLink RX3 122 "TwistedRowModel" "length" "I" ∈ wsX3_clearInput := List.mem_of_getElem? (i := 2) rfl
def wp_X3_clearInput (c_le : Int32) (post : Int32 → (Int32 × Int32) → Prop) : Prop := (post c_le ((0 : Int32), (0 : Int32)))
set_option maxHeartbeats 4000000 in
set_option maxRecDepth 100000 in
theorem c_X3_clearInput (l : Launch) (D : va_G) (cy : Nat → ClassId) (a_this : Nat) (a_ro : Nat) (a_fr : Nat) (a_bu : Nat) (a_no : Nat) (a_te : Nat) (a_fa : Nat) (a_li : Nat) (a_wy : Nat) (a_su : Nat) (c_th : Int32) (c_n : Int32) (c_tu : Int32) (c_al : Int32) (c_le : Int32) (c_wa : Int32) (c_re : Int32) (c_us : Int32) (c_di : Int32) (c_ha : Int64) {post : Int32 → (Int32 × Int32) → Prop} (hw : wp_X3_clearInput c_le post) (sz : Nat) : Met l yX3_clearInput wsX3_clearInput ({ frames := 0, cells := 0, slots := 0, locals := 0 }) (va_Pc [.ref a_this] (PreW D cy ([(a_this, .inr (3, [.int c_th, .int c_n, .int c_tu, .int c_al, .ref a_ro, .ref a_fr, .int c_le, .ref a_bu, .ref a_no, .ref a_te, .ref a_fa, .ref a_li, .int c_wa, .int c_re, .int c_us, .int c_di, .ref a_wy, .ref a_su, .long c_ha]))]) sz)) (va_Qi post (fun u t => PostW D cy (va_A ([(a_this, .inr (3, [.int c_th, .int c_n, .int c_tu, .int c_al, .ref a_ro, .ref a_fr, .int c_le, .ref a_bu, .ref a_no, .ref a_te, .ref a_fa, .ref a_li, .int c_wa, .int c_re, .int c_us, .int c_di, .ref a_wy, .ref a_su, .long c_ha]))]) sz) ([(a_this, .inr (3, [.int u.1, .int c_n, .int c_tu, .int c_al, .ref a_ro, .ref a_fr, .int u.2, .ref a_bu, .ref a_no, .ref a_te, .ref a_fa, .ref a_li, .int c_wa, .int c_re, .int c_us, .int c_di, .ref a_wy, .ref a_su, .long c_ha]))]) t) (va_A ([(a_this, .inr (3, [.int c_th, .int c_n, .int c_tu, .int c_al, .ref a_ro, .ref a_fr, .int c_le, .ref a_bu, .ref a_no, .ref a_te, .ref a_fa, .ref a_li, .int c_wa, .int c_re, .int c_us, .int c_di, .ref a_wy, .ref a_su, .long c_ha]))]) sz)) 0 0 (va_A ([(a_this, .inr (3, [.int c_th, .int c_n, .int c_tu, .int c_al, .ref a_ro, .ref a_fr, .int c_le, .ref a_bu, .ref a_no, .ref a_te, .ref a_fa, .ref a_li, .int c_wa, .int c_re, .int c_us, .int c_di, .ref a_wy, .ref a_su, .long c_ha]))]) sz) := by
  refine j_met (Qc := fun A => va_Qi post (fun u t => PostW D cy A ([(a_this, .inr (3, [.int u.1, .int c_n, .int c_tu, .int c_al, .ref a_ro, .ref a_fr, .int u.2, .ref a_bu, .ref a_no, .ref a_te, .ref a_fa, .ref a_li, .int c_wa, .int c_re, .int c_us, .int c_di, .ref a_wy, .ref a_su, .long c_ha]))]) t) A) (by decide +kernel) rfl (Nat.le_of_ble_eq_true rfl) ?_
  intro p e s m below meth c A ls C0 hr hlocks hP hD hS hl
  obtain ⟨hx, hb, hml, hown, hts, hK, hA⟩ := id C0
  have hown : s.vm.findClass RX3 = some m.cls := hown
  have hl : lv_has ls 2 [(0, .ref a_this)] := hl
  unfold wp_X3_clearInput at hw
  refine lv_aload_n hx hb dX3_clearInput_0 rfl (lv_at hl 0 rfl) ?_
  refine lv_iconst (v := 0) hx hb dX3_clearInput_1 (by decide) ?_
  refine va_put (D := D) (ci := 3) (v := .int 0) (ty := .int) (C := RX3) (T := TX3) (N := 19) hx hb hts k_X3_clearInput_X3 tyX3 tyX3_ok nmX3 hown hK hP hD hS 0 rfl rfl 0 (by decide) (hts _ q_X3_clearInput_1) (fun _ h9 => h9) rfl (by decide +kernel) rfl rfl (Nat.le_of_ble_eq_true rfl) dX3_clearInput_2 (fun H locs hP hD hS => ?_)
  have hP : va_P D vwCl ([(a_this, .inr (3, [.int (0 : Int32), .int c_n, .int c_tu, .int c_al, .ref a_ro, .ref a_fr, .int c_le, .ref a_bu, .ref a_no, .ref a_te, .ref a_fa, .ref a_li, .int c_wa, .int c_re, .int c_us, .int c_di, .ref a_wy, .ref a_su, .long c_ha]))]) H := hP
  have hD : va_D A ([(a_this, .inr (3, [.int (0 : Int32), .int c_n, .int c_tu, .int c_al, .ref a_ro, .ref a_fr, .int c_le, .ref a_bu, .ref a_no, .ref a_te, .ref a_fa, .ref a_li, .int c_wa, .int c_re, .int c_us, .int c_di, .ref a_wy, .ref a_su, .long c_ha]))]) := hD
  refine lv_aload_n hx hb dX3_clearInput_5 rfl (lv_at hl 0 rfl) ?_
  refine va_get (D := D) (ci := 3) (v := .int c_le) (C := RX3) (T := TX3) (N := 19) hx hb hts k_X3_clearInput_X3 hown hK hP 0 rfl rfl 6 (by decide) (hts _ q_X3_clearInput_2) (fun _ h9 => h9) rfl dX3_clearInput_6 ?_
  refine lv_istore_n (lv' := [(1, .int c_le), (0, .ref a_this)]) hx hb dX3_clearInput_9 rfl hl (by decide) rfl (fun ls hl => ?_)
  refine lv_aload_n hx hb dX3_clearInput_10 rfl (lv_at hl 1 rfl) ?_
  refine lv_iconst (v := 0) hx hb dX3_clearInput_11 (by decide) ?_
  refine va_put (D := D) (ci := 3) (v := .int 0) (ty := .int) (C := RX3) (T := TX3) (N := 19) hx hb hts k_X3_clearInput_X3 tyX3 tyX3_ok nmX3 hown hK hP hD hS 0 rfl rfl 6 (by decide) (hts _ q_X3_clearInput_2) (fun _ h9 => h9) rfl (by decide +kernel) rfl rfl (Nat.le_of_ble_eq_true rfl) dX3_clearInput_12 (fun H locs hP hD hS => ?_)
  have hP : va_P D vwCl ([(a_this, .inr (3, [.int (0 : Int32), .int c_n, .int c_tu, .int c_al, .ref a_ro, .ref a_fr, .int (0 : Int32), .ref a_bu, .ref a_no, .ref a_te, .ref a_fa, .ref a_li, .int c_wa, .int c_re, .int c_us, .int c_di, .ref a_wy, .ref a_su, .long c_ha]))]) H := hP
  have hD : va_D A ([(a_this, .inr (3, [.int (0 : Int32), .int c_n, .int c_tu, .int c_al, .ref a_ro, .ref a_fr, .int (0 : Int32), .ref a_bu, .ref a_no, .ref a_te, .ref a_fa, .ref a_li, .int c_wa, .int c_re, .int c_us, .int c_di, .ref a_wy, .ref a_su, .long c_ha]))]) := hD
  refine lv_iload_n hx hb dX3_clearInput_15 rfl (lv_at hl 0 rfl) ?_
  exact j_iret (fun u => [(a_this, .inr (3, [.int u.1, .int c_n, .int c_tu, .int c_al, .ref a_ro, .ref a_fr, .int u.2, .ref a_bu, .ref a_no, .ref a_te, .ref a_fa, .ref a_li, .int c_wa, .int c_re, .int c_us, .int c_di, .ref a_wy, .ref a_su, .long c_ha]))]) (((0 : Int32), (0 : Int32)) : Int32 × Int32) hx hb hr hlocks hK hP hD hS hw dX3_clearInput_16
def wp_X3_moveBy (c_tu : Int32) (p_1 : Int32) (post : Int32 → Unit → Prop) : Prop := (wp_X3_within p_1 (97 : Int32) (122 : Int32) (fun r_2 u_1 => ((r_2 = 0 → (wp_X3_within p_1 (65 : Int32) (90 : Int32) (fun r_5 u_4 => ((r_5 = 0 → (wp_X3_isMove c_tu ((-1) : Int32) (fun r_8 u_7 => ((r_8 = 0 → (post (-1) ())) ∧ (¬ r_8 = 0 → (post (-1) ())))))) ∧ (¬ r_5 = 0 → (∀ x_10 : Int32, x_10 = (2 * (p_1 - 65)) + 1 → (wp_X3_isMove c_tu x_10 (fun r_12 u_11 => ((r_12 = 0 → (post (-1) ())) ∧ (¬ r_12 = 0 → (post x_10 ()))))))))))) ∧ (¬ r_2 = 0 → (∀ x_14 : Int32, x_14 = 2 * (p_1 - 97) → (wp_X3_isMove c_tu x_14 (fun r_16 u_15 => ((r_16 = 0 → (post (-1) ())) ∧ (¬ r_16 = 0 → (post x_14 ()))))))))))
set_option maxHeartbeats 4000000 in
set_option maxRecDepth 100000 in
theorem c_X3_moveBy (l : Launch) (D : va_G) (cy : Nat → ClassId) (a_this : Nat) (a_ro : Nat) (a_fr : Nat) (a_bu : Nat) (a_no : Nat) (a_te : Nat) (a_fa : Nat) (a_li : Nat) (a_wy : Nat) (a_su : Nat) (c_th : Int32) (c_n : Int32) (c_tu : Int32) (c_al : Int32) (c_le : Int32) (c_wa : Int32) (c_re : Int32) (c_us : Int32) (c_di : Int32) (c_ha : Int64) (p_1 : Int32) {post : Int32 → Unit → Prop} (hw : wp_X3_moveBy c_tu p_1 post) (sz : Nat) : Met l yX3_moveBy wsX3_moveBy ({ frames := 2, cells := 0, slots := 0, locals := 43 }) (va_Pc [.ref a_this, .int p_1] (PreW D cy ([(a_this, .inr (3, [.int c_th, .int c_n, .int c_tu, .int c_al, .ref a_ro, .ref a_fr, .int c_le, .ref a_bu, .ref a_no, .ref a_te, .ref a_fa, .ref a_li, .int c_wa, .int c_re, .int c_us, .int c_di, .ref a_wy, .ref a_su, .long c_ha]))]) sz)) (va_Qi post (fun u t => PostW D cy (va_A ([(a_this, .inr (3, [.int c_th, .int c_n, .int c_tu, .int c_al, .ref a_ro, .ref a_fr, .int c_le, .ref a_bu, .ref a_no, .ref a_te, .ref a_fa, .ref a_li, .int c_wa, .int c_re, .int c_us, .int c_di, .ref a_wy, .ref a_su, .long c_ha]))]) sz) ([(a_this, .inr (3, [.int c_th, .int c_n, .int c_tu, .int c_al, .ref a_ro, .ref a_fr, .int c_le, .ref a_bu, .ref a_no, .ref a_te, .ref a_fa, .ref a_li, .int c_wa, .int c_re, .int c_us, .int c_di, .ref a_wy, .ref a_su, .long c_ha]))]) t) (va_A ([(a_this, .inr (3, [.int c_th, .int c_n, .int c_tu, .int c_al, .ref a_ro, .ref a_fr, .int c_le, .ref a_bu, .ref a_no, .ref a_te, .ref a_fa, .ref a_li, .int c_wa, .int c_re, .int c_us, .int c_di, .ref a_wy, .ref a_su, .long c_ha]))]) sz)) 0 0 (va_A ([(a_this, .inr (3, [.int c_th, .int c_n, .int c_tu, .int c_al, .ref a_ro, .ref a_fr, .int c_le, .ref a_bu, .ref a_no, .ref a_te, .ref a_fa, .ref a_li, .int c_wa, .int c_re, .int c_us, .int c_di, .ref a_wy, .ref a_su, .long c_ha]))]) sz) := by
  refine j_met (Qc := fun A => va_Qi post (fun u t => PostW D cy A ([(a_this, .inr (3, [.int c_th, .int c_n, .int c_tu, .int c_al, .ref a_ro, .ref a_fr, .int c_le, .ref a_bu, .ref a_no, .ref a_te, .ref a_fa, .ref a_li, .int c_wa, .int c_re, .int c_us, .int c_di, .ref a_wy, .ref a_su, .long c_ha]))]) t) A) (by decide +kernel) rfl (Nat.le_of_ble_eq_true rfl) ?_
  intro p e s m below meth c A ls C0 hr hlocks hP hD hS hl
  obtain ⟨hx, hb, hml, hown, hts, hK, hA⟩ := id C0
  have hown : s.vm.findClass RX3 = some m.cls := hown
  have hl : lv_has ls 3 [(0, .ref a_this), (1, .int p_1)] := hl
  unfold wp_X3_moveBy at hw
  refine lv_iload_n hx hb dX3_moveBy_0 rfl (lv_at hl 1 rfl) ?_
  refine lv_bipush (v := 97) hx hb dX3_moveBy_1 (by decide) ?_
  refine lv_bipush (v := 122) hx hb dX3_moveBy_3 (by decide) ?_
  refine j_calli (wr := [(a_this, .inr (3, [.int c_th, .int c_n, .int c_tu, .int c_al, .ref a_ro, .ref a_fr, .int c_le, .ref a_bu, .ref a_no, .ref a_te, .ref a_fa, .ref a_li, .int c_wa, .int c_re, .int c_us, .int c_di, .ref a_wy, .ref a_su, .long c_ha]))]) (va_runS (As := [.int p_1, .int 97, .int 122]) (rest := []) ⟨hx, hb, hml, hown, hts⟩ (c_X3_within l D cy p_1 (97 : Int32) (122 : Int32) hw s.heap.size) (va_cwS 3 hts gX3_moveBy_X3_within rfl rfl rfl (by decide +kernel) ⟨Nat.le_of_ble_eq_true rfl, Nat.le_of_ble_eq_true rfl⟩) (j_preS hK hP hD (isC := []) rfl (by decide +kernel)) rfl rfl hl.1 rfl (lv_room (Nat.le_of_ble_eq_true rfl)) dX3_moveBy_5 ⟨Nat.le_of_ble_eq_true rfl, Nat.le_of_ble_eq_true rfl⟩) hP hD hS hA [] [0] rfl rfl (by decide +kernel) (by decide +kernel) (fun u_1 => [(a_this, .inr (3, [.int c_th, .int c_n, .int c_tu, .int c_al, .ref a_ro, .ref a_fr, .int c_le, .ref a_bu, .ref a_no, .ref a_te, .ref a_fa, .ref a_li, .int c_wa, .int c_re, .int c_us, .int c_di, .ref a_wy, .ref a_su, .long c_ha]))]) [0] (by decide +kernel) (fun u => rfl) (fun r_2 u_1 H locs hw hP hD hS => ?_)
  have hP : va_P D vwCl ([(a_this, .inr (3, [.int c_th, .int c_n, .int c_tu, .int c_al, .ref a_ro, .ref a_fr, .int c_le, .ref a_bu, .ref a_no, .ref a_te, .ref a_fa, .ref a_li, .int c_wa, .int c_re, .int c_us, .int c_di, .ref a_wy, .ref a_su, .long c_ha]))]) H := hP
  have hD : va_D A ([(a_this, .inr (3, [.int c_th, .int c_n, .int c_tu, .int c_al, .ref a_ro, .ref a_fr, .int c_le, .ref a_bu, .ref a_no, .ref a_te, .ref a_fa, .ref a_li, .int c_wa, .int c_re, .int c_us, .int c_di, .ref a_wy, .ref a_su, .long c_ha]))]) := hD
  refine lv_if_eq (tgt := 20) hx hb dX3_moveBy_8 (by decide) (fun c_3 => ?_) (fun c_3 => ?_)
  · replace hw := hw.1 c_3
    refine lv_iload_n hx hb dX3_moveBy_20 rfl (lv_at hl 1 rfl) ?_
    refine lv_bipush (v := 65) hx hb dX3_moveBy_21 (by decide) ?_
    refine lv_bipush (v := 90) hx hb dX3_moveBy_23 (by decide) ?_
    refine j_calli (wr := [(a_this, .inr (3, [.int c_th, .int c_n, .int c_tu, .int c_al, .ref a_ro, .ref a_fr, .int c_le, .ref a_bu, .ref a_no, .ref a_te, .ref a_fa, .ref a_li, .int c_wa, .int c_re, .int c_us, .int c_di, .ref a_wy, .ref a_su, .long c_ha]))]) (va_runS (As := [.int p_1, .int 65, .int 90]) (rest := []) ⟨hx, hb, hml, hown, hts⟩ (c_X3_within l D cy p_1 (65 : Int32) (90 : Int32) hw H.size) (va_cwS 3 hts gX3_moveBy_X3_within rfl rfl rfl (by decide +kernel) ⟨Nat.le_of_ble_eq_true rfl, Nat.le_of_ble_eq_true rfl⟩) (j_preS hK hP hD (isC := []) rfl (by decide +kernel)) rfl rfl hl.1 rfl (lv_room (Nat.le_of_ble_eq_true rfl)) dX3_moveBy_25 ⟨Nat.le_of_ble_eq_true rfl, Nat.le_of_ble_eq_true rfl⟩) hP hD hS hA [] [0] rfl rfl (by decide +kernel) (by decide +kernel) (fun u_4 => [(a_this, .inr (3, [.int c_th, .int c_n, .int c_tu, .int c_al, .ref a_ro, .ref a_fr, .int c_le, .ref a_bu, .ref a_no, .ref a_te, .ref a_fa, .ref a_li, .int c_wa, .int c_re, .int c_us, .int c_di, .ref a_wy, .ref a_su, .long c_ha]))]) [0] (by decide +kernel) (fun u => rfl) (fun r_5 u_4 H locs hw hP hD hS => ?_)
    have hP : va_P D vwCl ([(a_this, .inr (3, [.int c_th, .int c_n, .int c_tu, .int c_al, .ref a_ro, .ref a_fr, .int c_le, .ref a_bu, .ref a_no, .ref a_te, .ref a_fa, .ref a_li, .int c_wa, .int c_re, .int c_us, .int c_di, .ref a_wy, .ref a_su, .long c_ha]))]) H := hP
    have hD : va_D A ([(a_this, .inr (3, [.int c_th, .int c_n, .int c_tu, .int c_al, .ref a_ro, .ref a_fr, .int c_le, .ref a_bu, .ref a_no, .ref a_te, .ref a_fa, .ref a_li, .int c_wa, .int c_re, .int c_us, .int c_di, .ref a_wy, .ref a_su, .long c_ha]))]) := hD
    refine lv_if_eq (tgt := 42) hx hb dX3_moveBy_28 (by decide) (fun c_6 => ?_) (fun c_6 => ?_)
    · replace hw := hw.1 c_6
      refine lv_iconst (v := (-1)) hx hb dX3_moveBy_42 (by decide) ?_
      refine lv_istore_n (lv' := [(2, .int (-1)), (0, .ref a_this), (1, .int p_1)]) hx hb dX3_moveBy_43 rfl hl (by decide) rfl (fun ls hl => ?_)
      refine lv_aload_n hx hb dX3_moveBy_44 rfl (lv_at hl 1 rfl) ?_
      refine lv_iload_n hx hb dX3_moveBy_45 rfl (lv_at hl 0 rfl) ?_
      refine j_calli (wr := []) (va_runV (As := [.int (-1)]) (rest := []) ⟨hx, hb, hml, hown, hts⟩ (c_X3_isMove l D cy a_this a_ro a_fr a_bu a_no a_te a_fa a_li a_wy a_su c_th c_n c_tu c_al c_le c_wa c_re c_us c_di c_ha ((-1) : Int32) hw H.size) (cwV 1 hts gX3_moveBy_X3_isMove rfl rfl rfl (by decide +kernel) ⟨Nat.le_of_ble_eq_true rfl, Nat.le_of_ble_eq_true rfl⟩) (j_preV hK hP hD (isC := [0]) rfl (by decide +kernel) (ci := 3) (q0 := 0) rfl rfl) rfl rfl hl.1 rfl (lv_room (Nat.le_of_ble_eq_true rfl)) dX3_moveBy_46 ⟨Nat.le_of_ble_eq_true rfl, Nat.le_of_ble_eq_true rfl⟩) hP hD hS hA [0] [] rfl rfl (by decide +kernel) (by decide +kernel) (fun u_7 => [(a_this, .inr (3, [.int c_th, .int c_n, .int c_tu, .int c_al, .ref a_ro, .ref a_fr, .int c_le, .ref a_bu, .ref a_no, .ref a_te, .ref a_fa, .ref a_li, .int c_wa, .int c_re, .int c_us, .int c_di, .ref a_wy, .ref a_su, .long c_ha]))]) [0] (by decide +kernel) (fun u => rfl) (fun r_8 u_7 H locs hw hP hD hS => ?_)
      have hP : va_P D vwCl ([(a_this, .inr (3, [.int c_th, .int c_n, .int c_tu, .int c_al, .ref a_ro, .ref a_fr, .int c_le, .ref a_bu, .ref a_no, .ref a_te, .ref a_fa, .ref a_li, .int c_wa, .int c_re, .int c_us, .int c_di, .ref a_wy, .ref a_su, .long c_ha]))]) H := hP
      have hD : va_D A ([(a_this, .inr (3, [.int c_th, .int c_n, .int c_tu, .int c_al, .ref a_ro, .ref a_fr, .int c_le, .ref a_bu, .ref a_no, .ref a_te, .ref a_fa, .ref a_li, .int c_wa, .int c_re, .int c_us, .int c_di, .ref a_wy, .ref a_su, .long c_ha]))]) := hD
      refine lv_if_eq (tgt := 56) hx hb dX3_moveBy_49 (by decide) (fun c_9 => ?_) (fun c_9 => ?_)
      · replace hw := hw.1 c_9
        refine lv_iconst (v := (-1)) hx hb dX3_moveBy_56 (by decide) ?_
        exact j_iret (fun u => [(a_this, .inr (3, [.int c_th, .int c_n, .int c_tu, .int c_al, .ref a_ro, .ref a_fr, .int c_le, .ref a_bu, .ref a_no, .ref a_te, .ref a_fa, .ref a_li, .int c_wa, .int c_re, .int c_us, .int c_di, .ref a_wy, .ref a_su, .long c_ha]))]) (() : Unit) hx hb hr hlocks hK hP hD hS hw dX3_moveBy_57
      · replace hw := hw.2 c_9
        refine lv_iload_n hx hb dX3_moveBy_52 rfl (lv_at hl 0 rfl) ?_
        refine lv_goto (tgt := 57) hx hb dX3_moveBy_53 (by decide) ?_
        exact j_iret (fun u => [(a_this, .inr (3, [.int c_th, .int c_n, .int c_tu, .int c_al, .ref a_ro, .ref a_fr, .int c_le, .ref a_bu, .ref a_no, .ref a_te, .ref a_fa, .ref a_li, .int c_wa, .int c_re, .int c_us, .int c_di, .ref a_wy, .ref a_su, .long c_ha]))]) (() : Unit) hx hb hr hlocks hK hP hD hS hw dX3_moveBy_57
    · replace hw := hw.2 c_6
      refine lv_iconst (v := 2) hx hb dX3_moveBy_31 (by decide) ?_
      refine lv_iload_n hx hb dX3_moveBy_32 rfl (lv_at hl 1 rfl) ?_
      refine lv_bipush (v := 65) hx hb dX3_moveBy_33 (by decide) ?_
      refine lv_isub hx hb dX3_moveBy_35 ?_
      refine lv_imul hx hb dX3_moveBy_36 ?_
      refine lv_iconst (v := 1) hx hb dX3_moveBy_37 (by decide) ?_
      refine lv_iadd hx hb dX3_moveBy_38 ?_
      refine lv_goto (tgt := 43) hx hb dX3_moveBy_39 (by decide) ?_
      refine lv_topi (fun x_10 ex_10 => ?_)
      replace hw := hw x_10 ex_10
      refine lv_istore_n (lv' := [(2, .int x_10), (0, .ref a_this), (1, .int p_1)]) hx hb dX3_moveBy_43 rfl hl (by decide) rfl (fun ls hl => ?_)
      refine lv_aload_n hx hb dX3_moveBy_44 rfl (lv_at hl 1 rfl) ?_
      refine lv_iload_n hx hb dX3_moveBy_45 rfl (lv_at hl 0 rfl) ?_
      refine j_calli (wr := []) (va_runV (As := [.int x_10]) (rest := []) ⟨hx, hb, hml, hown, hts⟩ (c_X3_isMove l D cy a_this a_ro a_fr a_bu a_no a_te a_fa a_li a_wy a_su c_th c_n c_tu c_al c_le c_wa c_re c_us c_di c_ha x_10 hw H.size) (cwV 1 hts gX3_moveBy_X3_isMove rfl rfl rfl (by decide +kernel) ⟨Nat.le_of_ble_eq_true rfl, Nat.le_of_ble_eq_true rfl⟩) (j_preV hK hP hD (isC := [0]) rfl (by decide +kernel) (ci := 3) (q0 := 0) rfl rfl) rfl rfl hl.1 rfl (lv_room (Nat.le_of_ble_eq_true rfl)) dX3_moveBy_46 ⟨Nat.le_of_ble_eq_true rfl, Nat.le_of_ble_eq_true rfl⟩) hP hD hS hA [0] [] rfl rfl (by decide +kernel) (by decide +kernel) (fun u_11 => [(a_this, .inr (3, [.int c_th, .int c_n, .int c_tu, .int c_al, .ref a_ro, .ref a_fr, .int c_le, .ref a_bu, .ref a_no, .ref a_te, .ref a_fa, .ref a_li, .int c_wa, .int c_re, .int c_us, .int c_di, .ref a_wy, .ref a_su, .long c_ha]))]) [0] (by decide +kernel) (fun u => rfl) (fun r_12 u_11 H locs hw hP hD hS => ?_)
      have hP : va_P D vwCl ([(a_this, .inr (3, [.int c_th, .int c_n, .int c_tu, .int c_al, .ref a_ro, .ref a_fr, .int c_le, .ref a_bu, .ref a_no, .ref a_te, .ref a_fa, .ref a_li, .int c_wa, .int c_re, .int c_us, .int c_di, .ref a_wy, .ref a_su, .long c_ha]))]) H := hP
      have hD : va_D A ([(a_this, .inr (3, [.int c_th, .int c_n, .int c_tu, .int c_al, .ref a_ro, .ref a_fr, .int c_le, .ref a_bu, .ref a_no, .ref a_te, .ref a_fa, .ref a_li, .int c_wa, .int c_re, .int c_us, .int c_di, .ref a_wy, .ref a_su, .long c_ha]))]) := hD
      refine lv_if_eq (tgt := 56) hx hb dX3_moveBy_49 (by decide) (fun c_13 => ?_) (fun c_13 => ?_)
      · replace hw := hw.1 c_13
        refine lv_iconst (v := (-1)) hx hb dX3_moveBy_56 (by decide) ?_
        exact j_iret (fun u => [(a_this, .inr (3, [.int c_th, .int c_n, .int c_tu, .int c_al, .ref a_ro, .ref a_fr, .int c_le, .ref a_bu, .ref a_no, .ref a_te, .ref a_fa, .ref a_li, .int c_wa, .int c_re, .int c_us, .int c_di, .ref a_wy, .ref a_su, .long c_ha]))]) (() : Unit) hx hb hr hlocks hK hP hD hS hw dX3_moveBy_57
      · replace hw := hw.2 c_13
        refine lv_iload_n hx hb dX3_moveBy_52 rfl (lv_at hl 0 rfl) ?_
        refine lv_goto (tgt := 57) hx hb dX3_moveBy_53 (by decide) ?_
        exact j_iret (fun u => [(a_this, .inr (3, [.int c_th, .int c_n, .int c_tu, .int c_al, .ref a_ro, .ref a_fr, .int c_le, .ref a_bu, .ref a_no, .ref a_te, .ref a_fa, .ref a_li, .int c_wa, .int c_re, .int c_us, .int c_di, .ref a_wy, .ref a_su, .long c_ha]))]) (() : Unit) hx hb hr hlocks hK hP hD hS hw dX3_moveBy_57
  · replace hw := hw.2 c_3
    refine lv_iconst (v := 2) hx hb dX3_moveBy_11 (by decide) ?_
    refine lv_iload_n hx hb dX3_moveBy_12 rfl (lv_at hl 1 rfl) ?_
    refine lv_bipush (v := 97) hx hb dX3_moveBy_13 (by decide) ?_
    refine lv_isub hx hb dX3_moveBy_15 ?_
    refine lv_imul hx hb dX3_moveBy_16 ?_
    refine lv_goto (tgt := 43) hx hb dX3_moveBy_17 (by decide) ?_
    refine lv_topi (fun x_14 ex_14 => ?_)
    replace hw := hw x_14 ex_14
    refine lv_istore_n (lv' := [(2, .int x_14), (0, .ref a_this), (1, .int p_1)]) hx hb dX3_moveBy_43 rfl hl (by decide) rfl (fun ls hl => ?_)
    refine lv_aload_n hx hb dX3_moveBy_44 rfl (lv_at hl 1 rfl) ?_
    refine lv_iload_n hx hb dX3_moveBy_45 rfl (lv_at hl 0 rfl) ?_
    refine j_calli (wr := []) (va_runV (As := [.int x_14]) (rest := []) ⟨hx, hb, hml, hown, hts⟩ (c_X3_isMove l D cy a_this a_ro a_fr a_bu a_no a_te a_fa a_li a_wy a_su c_th c_n c_tu c_al c_le c_wa c_re c_us c_di c_ha x_14 hw H.size) (cwV 1 hts gX3_moveBy_X3_isMove rfl rfl rfl (by decide +kernel) ⟨Nat.le_of_ble_eq_true rfl, Nat.le_of_ble_eq_true rfl⟩) (j_preV hK hP hD (isC := [0]) rfl (by decide +kernel) (ci := 3) (q0 := 0) rfl rfl) rfl rfl hl.1 rfl (lv_room (Nat.le_of_ble_eq_true rfl)) dX3_moveBy_46 ⟨Nat.le_of_ble_eq_true rfl, Nat.le_of_ble_eq_true rfl⟩) hP hD hS hA [0] [] rfl rfl (by decide +kernel) (by decide +kernel) (fun u_15 => [(a_this, .inr (3, [.int c_th, .int c_n, .int c_tu, .int c_al, .ref a_ro, .ref a_fr, .int c_le, .ref a_bu, .ref a_no, .ref a_te, .ref a_fa, .ref a_li, .int c_wa, .int c_re, .int c_us, .int c_di, .ref a_wy, .ref a_su, .long c_ha]))]) [0] (by decide +kernel) (fun u => rfl) (fun r_16 u_15 H locs hw hP hD hS => ?_)
    have hP : va_P D vwCl ([(a_this, .inr (3, [.int c_th, .int c_n, .int c_tu, .int c_al, .ref a_ro, .ref a_fr, .int c_le, .ref a_bu, .ref a_no, .ref a_te, .ref a_fa, .ref a_li, .int c_wa, .int c_re, .int c_us, .int c_di, .ref a_wy, .ref a_su, .long c_ha]))]) H := hP
    have hD : va_D A ([(a_this, .inr (3, [.int c_th, .int c_n, .int c_tu, .int c_al, .ref a_ro, .ref a_fr, .int c_le, .ref a_bu, .ref a_no, .ref a_te, .ref a_fa, .ref a_li, .int c_wa, .int c_re, .int c_us, .int c_di, .ref a_wy, .ref a_su, .long c_ha]))]) := hD
    refine lv_if_eq (tgt := 56) hx hb dX3_moveBy_49 (by decide) (fun c_17 => ?_) (fun c_17 => ?_)
    · replace hw := hw.1 c_17
      refine lv_iconst (v := (-1)) hx hb dX3_moveBy_56 (by decide) ?_
      exact j_iret (fun u => [(a_this, .inr (3, [.int c_th, .int c_n, .int c_tu, .int c_al, .ref a_ro, .ref a_fr, .int c_le, .ref a_bu, .ref a_no, .ref a_te, .ref a_fa, .ref a_li, .int c_wa, .int c_re, .int c_us, .int c_di, .ref a_wy, .ref a_su, .long c_ha]))]) (() : Unit) hx hb hr hlocks hK hP hD hS hw dX3_moveBy_57
    · replace hw := hw.2 c_17
      refine lv_iload_n hx hb dX3_moveBy_52 rfl (lv_at hl 0 rfl) ?_
      refine lv_goto (tgt := 57) hx hb dX3_moveBy_53 (by decide) ?_
      exact j_iret (fun u => [(a_this, .inr (3, [.int c_th, .int c_n, .int c_tu, .int c_al, .ref a_ro, .ref a_fr, .int c_le, .ref a_bu, .ref a_no, .ref a_te, .ref a_fa, .ref a_li, .int c_wa, .int c_re, .int c_us, .int c_di, .ref a_wy, .ref a_su, .long c_ha]))]) (() : Unit) hx hb hr hlocks hK hP hD hS hw dX3_moveBy_57
theorem q_X3_wordLength_1 : Cond.fieldLink RX3 122 "TwistedRowModel" "length" "I" ∈ wsX3_wordLength := List.mem_of_getElem? (i := 1) rfl
theorem k_X3_wordLength_X3 : ∀ w ∈ wsX30, w ∈ wsX3_wordLength := my_in _ [16, 17, 18, 19, 20, 21, 22, 23, 24, 25, 26, 27, 28, 29, 30, 31, 32, 33, 34] (by decide +kernel)
theorem q_X3_wordLength_2 : Cond.fieldLink RX3 20 "TwistedRowModel" "buffer" "[I" ∈ wsX3_wordLength := List.mem_of_getElem? (i := 2) rfl
def lp_X3_wordLength_2 (c_bu : Nat → Int32) (c_le : Int32) (c_tu : Int32) (K30 : Int32 → Prop) : Nat → Int32 → Prop
  | 0, _ => False
  | N + 1, v_1 => ((c_le ≤ v_1 → (K30 v_1)) ∧ (¬ c_le ≤ v_1 → (vp_in v_1 60 ∧ (wp_X3_moveBy c_tu (c_bu (v_1 : Int32).toNatClampNeg) (fun r_4 u_3 => ((r_4 = (-1) → (K30 v_1)) ∧ (¬ r_4 = (-1) → (lp_X3_wordLength_2 c_bu c_le c_tu K30 N (v_1 + 1)))))))))
set_option maxHeartbeats 4000000 in
set_option maxRecDepth 100000 in
theorem l_X3_wordLength_2 {p : Program} {l : Launch} {e : Env} {s : State} {m : MethodId} {args : Array Value} {below : List Frame} {meth : Method} {c : Code} {A : Nat → Prop} {D : va_G} {cy : Nat → ClassId} {Q : State → Prop} {a_this : Nat} {a_ro : Nat} {a_fr : Nat} {a_bu : Nat} {a_no : Nat} {a_te : Nat} {a_fa : Nat} {a_li : Nat} {a_wy : Nat} {a_su : Nat} {c_th : Int32} {c_n : Int32} {c_tu : Int32} {c_al : Int32} {c_le : Int32} {c_wa : Int32} {c_re : Int32} {c_us : Int32} {c_di : Int32} {c_ha : Int64} {c_bu : Nat → Int32} {K30 : Int32 → Prop} (C0 : Cx p s m args c cX3_wordLength yX3_wordLength.cls 2 wsX3_wordLength D cy A)
    (k30 : ∀ (v_1 : Int32) (H : Heap) (locs : List Loc) (ls : Array Slot), K30 v_1 → va_P D vwCl ([(a_this, .inr (3, [.int c_th, .int c_n, .int c_tu, .int c_al, .ref a_ro, .ref a_fr, .int c_le, .ref a_bu, .ref a_no, .ref a_te, .ref a_fa, .ref a_li, .int c_wa, .int c_re, .int c_us, .int c_di, .ref a_wy, .ref a_su, .long c_ha])), (a_bu, .inl (cy 0, 60, .inl c_bu))]) H → va_D A ([(a_this, .inr (3, [.int c_th, .int c_n, .int c_tu, .int c_al, .ref a_ro, .ref a_fr, .int c_le, .ref a_bu, .ref a_no, .ref a_te, .ref a_fa, .ref a_li, .int c_wa, .int c_re, .int c_us, .int c_di, .ref a_wy, .ref a_su, .long c_ha])), (a_bu, .inl (cy 0, 60, .inl c_bu))]) → va_S A s.heap H locs → lv_has ls 2 [(1, .int v_1)] → W p l e (({ frames := 3, cells := 0, slots := 0, locals := 65 } : Room)) s m args below meth c H locs 0 0 Q (F0 m 30 ls [])) :
    ∀ (N : Nat) (v_1 : Int32) (H : Heap) (locs : List Loc) (ls : Array Slot), lp_X3_wordLength_2 c_bu c_le c_tu K30 N v_1 → va_P D vwCl ([(a_this, .inr (3, [.int c_th, .int c_n, .int c_tu, .int c_al, .ref a_ro, .ref a_fr, .int c_le, .ref a_bu, .ref a_no, .ref a_te, .ref a_fa, .ref a_li, .int c_wa, .int c_re, .int c_us, .int c_di, .ref a_wy, .ref a_su, .long c_ha])), (a_bu, .inl (cy 0, 60, .inl c_bu))]) H → va_D A ([(a_this, .inr (3, [.int c_th, .int c_n, .int c_tu, .int c_al, .ref a_ro, .ref a_fr, .int c_le, .ref a_bu, .ref a_no, .ref a_te, .ref a_fa, .ref a_li, .int c_wa, .int c_re, .int c_us, .int c_di, .ref a_wy, .ref a_su, .long c_ha])), (a_bu, .inl (cy 0, 60, .inl c_bu))]) → va_S A s.heap H locs → lv_has ls 2 [(0, .ref a_this), (1, .int v_1)] → W p l e (({ frames := 3, cells := 0, slots := 0, locals := 65 } : Room)) s m args below meth c H locs 0 0 Q (F0 m 2 ls []) := by
  obtain ⟨hx, hb, hml, hown, hts, hK, hA⟩ := id C0
  intro N
  induction N with
  | zero =>
    intro v_1 H locs ls hw
    exact False.elim hw
  | succ N ih =>
    intro v_1 H locs ls hw hP hD hS hl
    rw [lp_X3_wordLength_2] at hw
    refine lv_iload_n hx hb dX3_wordLength_2 rfl (lv_at hl 1 rfl) ?_
    refine lv_aload_n hx hb dX3_wordLength_3 rfl (lv_at hl 0 rfl) ?_
    refine va_get (D := D) (ci := 3) (v := .int c_le) (C := RX3) (T := TX3) (N := 19) hx hb hts k_X3_wordLength_X3 hown hK hP 0 rfl rfl 6 (by decide) (hts _ q_X3_wordLength_1) (fun _ h9 => h9) rfl dX3_wordLength_4 ?_
    refine lv_icmp_ge (tgt := 30) hx hb dX3_wordLength_7 (by decide) (fun c_1 => ?_) (fun c_1 => ?_)
    · replace hw := hw.1 c_1
      exact k30 _ _ _ _ hw hP hD hS (lv_sub hl [1] rfl)
    · replace hw := hw.2 c_1
      refine lv_aload_n hx hb dX3_wordLength_10 rfl (lv_at hl 0 rfl) ?_
      refine lv_aload_n hx hb dX3_wordLength_11 rfl (lv_at hl 0 rfl) ?_
      refine va_get (D := D) (ci := 3) (v := .ref a_bu) (C := RX3) (T := TX3) (N := 19) hx hb hts k_X3_wordLength_X3 hown hK hP 0 rfl rfl 7 (by decide) (hts _ q_X3_wordLength_2) (fun _ h9 => h9) rfl dX3_wordLength_12 ?_
      refine lv_iload_n hx hb dX3_wordLength_15 rfl (lv_at hl 1 rfl) ?_
      obtain ⟨h_2, hw⟩ := hw
      refine va_iald hx hb hK hP 1 0 rfl rfl h_2 dX3_wordLength_16 ?_
      refine j_calli (wr := [(a_bu, .inl (cy 0, 60, .inl c_bu))]) (va_runV (As := [.int (c_bu (v_1 : Int32).toNatClampNeg)]) (rest := []) ⟨hx, hb, hml, hown, hts⟩ (c_X3_moveBy l D cy a_this a_ro a_fr a_bu a_no a_te a_fa a_li a_wy a_su c_th c_n c_tu c_al c_le c_wa c_re c_us c_di c_ha (c_bu (v_1 : Int32).toNatClampNeg) hw H.size) (cwV 1 hts gX3_wordLength_X3_moveBy rfl rfl rfl (by decide +kernel) ⟨Nat.le_of_ble_eq_true rfl, Nat.le_of_ble_eq_true rfl⟩) (j_preV hK hP hD (isC := [0]) rfl (by decide +kernel) (ci := 3) (q0 := 0) rfl rfl) rfl rfl hl.1 rfl (lv_room (Nat.le_of_ble_eq_true rfl)) dX3_wordLength_17 ⟨Nat.le_of_ble_eq_true rfl, Nat.le_of_ble_eq_true rfl⟩) hP hD hS hA [0] [1] rfl rfl (by decide +kernel) (by decide +kernel) (fun u_3 => [(a_this, .inr (3, [.int c_th, .int c_n, .int c_tu, .int c_al, .ref a_ro, .ref a_fr, .int c_le, .ref a_bu, .ref a_no, .ref a_te, .ref a_fa, .ref a_li, .int c_wa, .int c_re, .int c_us, .int c_di, .ref a_wy, .ref a_su, .long c_ha])), (a_bu, .inl (cy 0, 60, .inl c_bu))]) [1, 0] (by decide +kernel) (fun u => rfl) (fun r_4 u_3 H locs hw hP hD hS => ?_)
      have hP : va_P D vwCl ([(a_this, .inr (3, [.int c_th, .int c_n, .int c_tu, .int c_al, .ref a_ro, .ref a_fr, .int c_le, .ref a_bu, .ref a_no, .ref a_te, .ref a_fa, .ref a_li, .int c_wa, .int c_re, .int c_us, .int c_di, .ref a_wy, .ref a_su, .long c_ha])), (a_bu, .inl (cy 0, 60, .inl c_bu))]) H := hP
      have hD : va_D A ([(a_this, .inr (3, [.int c_th, .int c_n, .int c_tu, .int c_al, .ref a_ro, .ref a_fr, .int c_le, .ref a_bu, .ref a_no, .ref a_te, .ref a_fa, .ref a_li, .int c_wa, .int c_re, .int c_us, .int c_di, .ref a_wy, .ref a_su, .long c_ha])), (a_bu, .inl (cy 0, 60, .inl c_bu))]) := hD
      refine lv_iconst (v := (-1)) hx hb dX3_wordLength_20 (by decide) ?_
      refine lv_icmp_eq (tgt := 30) hx hb dX3_wordLength_21 (by decide) (fun c_5 => ?_) (fun c_5 => ?_)
      · replace hw := hw.1 c_5
        exact k30 _ _ _ _ hw hP hD hS (lv_sub hl [1] rfl)
      · replace hw := hw.2 c_5
        refine lv_iinc (v := v_1 + 1) (lv' := [(1, .int (v_1 + 1)), (0, .ref a_this)]) hx hb dX3_wordLength_24 hl (k := 1) rfl rfl (by decide) rfl (fun ls hl => ?_)
        refine lv_goto (tgt := 2) hx hb dX3_wordLength_27 (by decide) ?_
        exact ih _ _ _ _ hw hP hD hS (lv_sub hl [1, 0] rfl)
def wp_X3_wordLength (c_tu : Int32) (c_le : Int32) (c_bu : Nat → Int32) (post : Int32 → Unit → Prop) : Prop := (∃ N_6 : Nat, lp_X3_wordLength_2 c_bu c_le c_tu (fun (v_7 : Int32) => (post v_7 ())) N_6 0)
set_option maxHeartbeats 4000000 in
set_option maxRecDepth 100000 in
theorem c_X3_wordLength (l : Launch) (D : va_G) (cy : Nat → ClassId) (a_this : Nat) (a_ro : Nat) (a_fr : Nat) (a_bu : Nat) (a_no : Nat) (a_te : Nat) (a_fa : Nat) (a_li : Nat) (a_wy : Nat) (a_su : Nat) (c_th : Int32) (c_n : Int32) (c_tu : Int32) (c_al : Int32) (c_le : Int32) (c_wa : Int32) (c_re : Int32) (c_us : Int32) (c_di : Int32) (c_ha : Int64) (c_bu : Nat → Int32) {post : Int32 → Unit → Prop} (hw : wp_X3_wordLength c_tu c_le c_bu post) (sz : Nat) : Met l yX3_wordLength wsX3_wordLength ({ frames := 3, cells := 0, slots := 0, locals := 65 }) (va_Pc [.ref a_this] (PreW D cy ([(a_this, .inr (3, [.int c_th, .int c_n, .int c_tu, .int c_al, .ref a_ro, .ref a_fr, .int c_le, .ref a_bu, .ref a_no, .ref a_te, .ref a_fa, .ref a_li, .int c_wa, .int c_re, .int c_us, .int c_di, .ref a_wy, .ref a_su, .long c_ha])), (a_bu, .inl (cy 0, 60, .inl c_bu))]) sz)) (va_Qi post (fun u t => PostW D cy (va_A ([(a_this, .inr (3, [.int c_th, .int c_n, .int c_tu, .int c_al, .ref a_ro, .ref a_fr, .int c_le, .ref a_bu, .ref a_no, .ref a_te, .ref a_fa, .ref a_li, .int c_wa, .int c_re, .int c_us, .int c_di, .ref a_wy, .ref a_su, .long c_ha])), (a_bu, .inl (cy 0, 60, .inl c_bu))]) sz) ([(a_this, .inr (3, [.int c_th, .int c_n, .int c_tu, .int c_al, .ref a_ro, .ref a_fr, .int c_le, .ref a_bu, .ref a_no, .ref a_te, .ref a_fa, .ref a_li, .int c_wa, .int c_re, .int c_us, .int c_di, .ref a_wy, .ref a_su, .long c_ha])), (a_bu, .inl (cy 0, 60, .inl c_bu))]) t) (va_A ([(a_this, .inr (3, [.int c_th, .int c_n, .int c_tu, .int c_al, .ref a_ro, .ref a_fr, .int c_le, .ref a_bu, .ref a_no, .ref a_te, .ref a_fa, .ref a_li, .int c_wa, .int c_re, .int c_us, .int c_di, .ref a_wy, .ref a_su, .long c_ha])), (a_bu, .inl (cy 0, 60, .inl c_bu))]) sz)) 0 0 (va_A ([(a_this, .inr (3, [.int c_th, .int c_n, .int c_tu, .int c_al, .ref a_ro, .ref a_fr, .int c_le, .ref a_bu, .ref a_no, .ref a_te, .ref a_fa, .ref a_li, .int c_wa, .int c_re, .int c_us, .int c_di, .ref a_wy, .ref a_su, .long c_ha])), (a_bu, .inl (cy 0, 60, .inl c_bu))]) sz) := by
  refine j_met (Qc := fun A => va_Qi post (fun u t => PostW D cy A ([(a_this, .inr (3, [.int c_th, .int c_n, .int c_tu, .int c_al, .ref a_ro, .ref a_fr, .int c_le, .ref a_bu, .ref a_no, .ref a_te, .ref a_fa, .ref a_li, .int c_wa, .int c_re, .int c_us, .int c_di, .ref a_wy, .ref a_su, .long c_ha])), (a_bu, .inl (cy 0, 60, .inl c_bu))]) t) A) (by decide +kernel) rfl (Nat.le_of_ble_eq_true rfl) ?_
  intro p e s m below meth c A ls C0 hr hlocks hP hD hS hl
  obtain ⟨hx, hb, hml, hown, hts, hK, hA⟩ := id C0
  have hown : s.vm.findClass RX3 = some m.cls := hown
  have hl : lv_has ls 2 [(0, .ref a_this)] := hl
  unfold wp_X3_wordLength at hw
  refine lv_iconst (v := 0) hx hb dX3_wordLength_0 (by decide) ?_
  refine lv_istore_n (lv' := [(1, .int 0), (0, .ref a_this)]) hx hb dX3_wordLength_1 rfl hl (by decide) rfl (fun ls hl => ?_)
  obtain ⟨N_6, hw⟩ := hw
  refine l_X3_wordLength_2 C0 (fun v_7 H locs ls hw hP hD hS hl => ?_) _ _ _ _ _ hw hP hD hS (lv_sub hl [1, 0] rfl)
  refine lv_iload_n hx hb dX3_wordLength_30 rfl (lv_at hl 0 rfl) ?_
  exact j_iret (fun u => [(a_this, .inr (3, [.int c_th, .int c_n, .int c_tu, .int c_al, .ref a_ro, .ref a_fr, .int c_le, .ref a_bu, .ref a_no, .ref a_te, .ref a_fa, .ref a_li, .int c_wa, .int c_re, .int c_us, .int c_di, .ref a_wy, .ref a_su, .long c_ha])), (a_bu, .inl (cy 0, 60, .inl c_bu))]) (() : Unit) hx hb hr hlocks hK hP hD hS hw dX3_wordLength_31
theorem q_X3_isWord_1 : Cond.fieldLink RX3 122 "TwistedRowModel" "length" "I" ∈ wsX3_isWord := List.mem_of_getElem? (i := 1) rfl
theorem k_X3_isWord_X3 : ∀ w ∈ wsX30, w ∈ wsX3_isWord := my_in _ [20, 21, 22, 23, 24, 25, 26, 27, 28, 29, 30, 31, 32, 33, 34, 35, 36, 37, 38] (by decide +kernel)
def wp_X3_isWord (c_tu : Int32) (c_le : Int32) (c_bu : Nat → Int32) (post : Int32 → Unit → Prop) : Prop := ((c_le ≤ 0 → (post 0 ())) ∧ (¬ c_le ≤ 0 → (wp_X3_wordLength c_tu c_le c_bu (fun r_3 u_2 => ((¬ r_3 = c_le → (post 0 ())) ∧ (r_3 = c_le → (post 1 ())))))))
set_option maxHeartbeats 4000000 in
set_option maxRecDepth 100000 in
theorem c_X3_isWord (l : Launch) (D : va_G) (cy : Nat → ClassId) (a_this : Nat) (a_ro : Nat) (a_fr : Nat) (a_bu : Nat) (a_no : Nat) (a_te : Nat) (a_fa : Nat) (a_li : Nat) (a_wy : Nat) (a_su : Nat) (c_th : Int32) (c_n : Int32) (c_tu : Int32) (c_al : Int32) (c_le : Int32) (c_wa : Int32) (c_re : Int32) (c_us : Int32) (c_di : Int32) (c_ha : Int64) (c_bu : Nat → Int32) {post : Int32 → Unit → Prop} (hw : wp_X3_isWord c_tu c_le c_bu post) (sz : Nat) : Met l yX3_isWord wsX3_isWord ({ frames := 4, cells := 0, slots := 0, locals := 86 }) (va_Pc [.ref a_this] (PreW D cy ([(a_this, .inr (3, [.int c_th, .int c_n, .int c_tu, .int c_al, .ref a_ro, .ref a_fr, .int c_le, .ref a_bu, .ref a_no, .ref a_te, .ref a_fa, .ref a_li, .int c_wa, .int c_re, .int c_us, .int c_di, .ref a_wy, .ref a_su, .long c_ha])), (a_bu, .inl (cy 0, 60, .inl c_bu))]) sz)) (va_Qi post (fun u t => PostW D cy (va_A ([(a_this, .inr (3, [.int c_th, .int c_n, .int c_tu, .int c_al, .ref a_ro, .ref a_fr, .int c_le, .ref a_bu, .ref a_no, .ref a_te, .ref a_fa, .ref a_li, .int c_wa, .int c_re, .int c_us, .int c_di, .ref a_wy, .ref a_su, .long c_ha])), (a_bu, .inl (cy 0, 60, .inl c_bu))]) sz) ([(a_this, .inr (3, [.int c_th, .int c_n, .int c_tu, .int c_al, .ref a_ro, .ref a_fr, .int c_le, .ref a_bu, .ref a_no, .ref a_te, .ref a_fa, .ref a_li, .int c_wa, .int c_re, .int c_us, .int c_di, .ref a_wy, .ref a_su, .long c_ha])), (a_bu, .inl (cy 0, 60, .inl c_bu))]) t) (va_A ([(a_this, .inr (3, [.int c_th, .int c_n, .int c_tu, .int c_al, .ref a_ro, .ref a_fr, .int c_le, .ref a_bu, .ref a_no, .ref a_te, .ref a_fa, .ref a_li, .int c_wa, .int c_re, .int c_us, .int c_di, .ref a_wy, .ref a_su, .long c_ha])), (a_bu, .inl (cy 0, 60, .inl c_bu))]) sz)) 0 0 (va_A ([(a_this, .inr (3, [.int c_th, .int c_n, .int c_tu, .int c_al, .ref a_ro, .ref a_fr, .int c_le, .ref a_bu, .ref a_no, .ref a_te, .ref a_fa, .ref a_li, .int c_wa, .int c_re, .int c_us, .int c_di, .ref a_wy, .ref a_su, .long c_ha])), (a_bu, .inl (cy 0, 60, .inl c_bu))]) sz) := by
  refine j_met (Qc := fun A => va_Qi post (fun u t => PostW D cy A ([(a_this, .inr (3, [.int c_th, .int c_n, .int c_tu, .int c_al, .ref a_ro, .ref a_fr, .int c_le, .ref a_bu, .ref a_no, .ref a_te, .ref a_fa, .ref a_li, .int c_wa, .int c_re, .int c_us, .int c_di, .ref a_wy, .ref a_su, .long c_ha])), (a_bu, .inl (cy 0, 60, .inl c_bu))]) t) A) (by decide +kernel) rfl (Nat.le_of_ble_eq_true rfl) ?_
  intro p e s m below meth c A ls C0 hr hlocks hP hD hS hl
  obtain ⟨hx, hb, hml, hown, hts, hK, hA⟩ := id C0
  have hown : s.vm.findClass RX3 = some m.cls := hown
  have hl : lv_has ls 1 [(0, .ref a_this)] := hl
  unfold wp_X3_isWord at hw
  refine lv_aload_n hx hb dX3_isWord_0 rfl (lv_at hl 0 rfl) ?_
  refine va_get (D := D) (ci := 3) (v := .int c_le) (C := RX3) (T := TX3) (N := 19) hx hb hts k_X3_isWord_X3 hown hK hP 0 rfl rfl 6 (by decide) (hts _ q_X3_isWord_1) (fun _ h9 => h9) rfl dX3_isWord_1 ?_
  refine lv_if_le (tgt := 22) hx hb dX3_isWord_4 (by decide) (fun c_1 => ?_) (fun c_1 => ?_)
  · replace hw := hw.1 c_1
    refine lv_iconst (v := 0) hx hb dX3_isWord_22 (by decide) ?_
    exact j_zret (fun u => [(a_this, .inr (3, [.int c_th, .int c_n, .int c_tu, .int c_al, .ref a_ro, .ref a_fr, .int c_le, .ref a_bu, .ref a_no, .ref a_te, .ref a_fa, .ref a_li, .int c_wa, .int c_re, .int c_us, .int c_di, .ref a_wy, .ref a_su, .long c_ha])), (a_bu, .inl (cy 0, 60, .inl c_bu))]) (() : Unit) hx hb hr rfl hlocks hK hP hD hS hw dX3_isWord_23
  · replace hw := hw.2 c_1
    refine lv_aload_n hx hb dX3_isWord_7 rfl (lv_at hl 0 rfl) ?_
    refine j_calli (wr := []) (va_runV (As := []) (rest := []) ⟨hx, hb, hml, hown, hts⟩ (c_X3_wordLength l D cy a_this a_ro a_fr a_bu a_no a_te a_fa a_li a_wy a_su c_th c_n c_tu c_al c_le c_wa c_re c_us c_di c_ha c_bu hw s.heap.size) (cwV 0 hts gX3_isWord_X3_wordLength rfl rfl rfl (by decide +kernel) ⟨Nat.le_of_ble_eq_true rfl, Nat.le_of_ble_eq_true rfl⟩) (j_preV hK hP hD (isC := [0, 1]) rfl (by decide +kernel) (ci := 3) (q0 := 0) rfl rfl) rfl rfl hl.1 rfl (lv_room (Nat.le_of_ble_eq_true rfl)) dX3_isWord_8 ⟨Nat.le_of_ble_eq_true rfl, Nat.le_of_ble_eq_true rfl⟩) hP hD hS hA [0, 1] [] rfl rfl (by decide +kernel) (by decide +kernel) (fun u_2 => [(a_this, .inr (3, [.int c_th, .int c_n, .int c_tu, .int c_al, .ref a_ro, .ref a_fr, .int c_le, .ref a_bu, .ref a_no, .ref a_te, .ref a_fa, .ref a_li, .int c_wa, .int c_re, .int c_us, .int c_di, .ref a_wy, .ref a_su, .long c_ha])), (a_bu, .inl (cy 0, 60, .inl c_bu))]) [0, 1] (by decide +kernel) (fun u => rfl) (fun r_3 u_2 H locs hw hP hD hS => ?_)
    have hP : va_P D vwCl ([(a_this, .inr (3, [.int c_th, .int c_n, .int c_tu, .int c_al, .ref a_ro, .ref a_fr, .int c_le, .ref a_bu, .ref a_no, .ref a_te, .ref a_fa, .ref a_li, .int c_wa, .int c_re, .int c_us, .int c_di, .ref a_wy, .ref a_su, .long c_ha])), (a_bu, .inl (cy 0, 60, .inl c_bu))]) H := hP
    have hD : va_D A ([(a_this, .inr (3, [.int c_th, .int c_n, .int c_tu, .int c_al, .ref a_ro, .ref a_fr, .int c_le, .ref a_bu, .ref a_no, .ref a_te, .ref a_fa, .ref a_li, .int c_wa, .int c_re, .int c_us, .int c_di, .ref a_wy, .ref a_su, .long c_ha])), (a_bu, .inl (cy 0, 60, .inl c_bu))]) := hD
    refine lv_aload_n hx hb dX3_isWord_11 rfl (lv_at hl 0 rfl) ?_
    refine va_get (D := D) (ci := 3) (v := .int c_le) (C := RX3) (T := TX3) (N := 19) hx hb hts k_X3_isWord_X3 hown hK hP 0 rfl rfl 6 (by decide) (hts _ q_X3_isWord_1) (fun _ h9 => h9) rfl dX3_isWord_12 ?_
    refine lv_icmp_ne (tgt := 22) hx hb dX3_isWord_15 (by decide) (fun c_4 => ?_) (fun c_4 => ?_)
    · replace hw := hw.1 c_4
      refine lv_iconst (v := 0) hx hb dX3_isWord_22 (by decide) ?_
      exact j_zret (fun u => [(a_this, .inr (3, [.int c_th, .int c_n, .int c_tu, .int c_al, .ref a_ro, .ref a_fr, .int c_le, .ref a_bu, .ref a_no, .ref a_te, .ref a_fa, .ref a_li, .int c_wa, .int c_re, .int c_us, .int c_di, .ref a_wy, .ref a_su, .long c_ha])), (a_bu, .inl (cy 0, 60, .inl c_bu))]) (() : Unit) hx hb hr rfl hlocks hK hP hD hS hw dX3_isWord_23
    · replace hw := hw.2 c_4
      refine lv_iconst (v := 1) hx hb dX3_isWord_18 (by decide) ?_
      refine lv_goto (tgt := 23) hx hb dX3_isWord_19 (by decide) ?_
      exact j_zret (fun u => [(a_this, .inr (3, [.int c_th, .int c_n, .int c_tu, .int c_al, .ref a_ro, .ref a_fr, .int c_le, .ref a_bu, .ref a_no, .ref a_te, .ref a_fa, .ref a_li, .int c_wa, .int c_re, .int c_us, .int c_di, .ref a_wy, .ref a_su, .long c_ha])), (a_bu, .inl (cy 0, 60, .inl c_bu))]) (() : Unit) hx hb hr rfl hlocks hK hP hD hS hw dX3_isWord_23
theorem q_X3_takes_1 : Cond.fieldLink RX3 131 "TwistedRowModel" "digits" "I" ∈ wsX3_takes := List.mem_of_getElem? (i := 1) rfl
theorem k_X3_takes_X3 : ∀ w ∈ wsX30, w ∈ wsX3_takes := my_in _ [13, 14, 15, 16, 17, 18, 19, 20, 21, 22, 23, 24, 25, 26, 27, 28, 29, 30, 31] (by decide +kernel)
theorem q_X3_takes_2 : Cond.fieldLink RX3 7 "TwistedRowModel" "n" "I" ∈ wsX3_takes := List.mem_of_getElem? (i := 2) rfl
theorem q_X3_takes_3 : Cond.fieldLink RX3 53 "TwistedRowModel" "turns" "I" ∈ wsX3_takes := List.mem_of_getElem? (i := 3) rfl
theorem q_X3_takes_4 : Cond.fieldLink RX3 134 "TwistedRowModel" "read" "I" ∈ wsX3_takes := List.mem_of_getElem? (i := 4) rfl
theorem q_X3_takes_5 : Cond.fieldLink RX3 136 "TwistedRowModel" "used" "I" ∈ wsX3_takes := List.mem_of_getElem? (i := 5) rfl
def wp_X3_takes (c_n : Int32) (c_tu : Int32) (c_re : Int32) (c_us : Int32) (c_di : Int32) (p_1 : Int32) (post : Int32 → (Int32 × Int32 × Int32) → Prop) : Prop := ((¬ c_di = c_n → ((6 ≤ (c_tu + c_re) → (post 0 (c_re, c_us, c_di))) ∧ (¬ 6 ≤ (c_tu + c_re) → (wp_X3_within p_1 (48 : Int32) ((48 + c_n) - 1) (fun r_5 u_4 => ((r_5 = 0 → (post 0 (c_re, c_us, c_di))) ∧ (¬ r_5 = 0 → (wp_X3_has c_us (p_1 - 48) (fun r_9 u_8 => ((¬ r_9 = 0 → (post 0 (c_re, c_us, c_di))) ∧ (r_9 = 0 → (∀ x_13 : Int32, x_13 = c_us ||| (1 <<< ((p_1 - 48) &&& 31)) → (∀ x_14 : Int32, x_14 = c_di + 1 → ((¬ x_14 = c_n → (∀ x_16 : Int32, x_16 = c_re + 0 → (post 1 (x_16, x_13, x_14)))) ∧ (x_14 = c_n → (∀ x_17 : Int32, x_17 = c_re + 1 → (post 1 (x_17, x_13, x_14)))))))))))))))))) ∧ (c_di = c_n → ((¬ p_1 = 59 → (post 0 (c_re, c_us, c_di))) ∧ (p_1 = 59 → ((6 ≤ (c_tu + c_re) → (post 0 (c_re, c_us, c_di))) ∧ (¬ 6 ≤ (c_tu + c_re) → (post 1 (c_re, (0 : Int32), (0 : Int32)))))))))
set_option maxHeartbeats 4000000 in
set_option maxRecDepth 100000 in
theorem c_X3_takes (l : Launch) (D : va_G) (cy : Nat → ClassId) (a_this : Nat) (a_ro : Nat) (a_fr : Nat) (a_bu : Nat) (a_no : Nat) (a_te : Nat) (a_fa : Nat) (a_li : Nat) (a_wy : Nat) (a_su : Nat) (c_th : Int32) (c_n : Int32) (c_tu : Int32) (c_al : Int32) (c_le : Int32) (c_wa : Int32) (c_re : Int32) (c_us : Int32) (c_di : Int32) (c_ha : Int64) (p_1 : Int32) {post : Int32 → (Int32 × Int32 × Int32) → Prop} (hw : wp_X3_takes c_n c_tu c_re c_us c_di p_1 post) (sz : Nat) : Met l yX3_takes wsX3_takes ({ frames := 1, cells := 0, slots := 0, locals := 22 }) (va_Pc [.ref a_this, .int p_1] (PreW D cy ([(a_this, .inr (3, [.int c_th, .int c_n, .int c_tu, .int c_al, .ref a_ro, .ref a_fr, .int c_le, .ref a_bu, .ref a_no, .ref a_te, .ref a_fa, .ref a_li, .int c_wa, .int c_re, .int c_us, .int c_di, .ref a_wy, .ref a_su, .long c_ha]))]) sz)) (va_Qi post (fun u t => PostW D cy (va_A ([(a_this, .inr (3, [.int c_th, .int c_n, .int c_tu, .int c_al, .ref a_ro, .ref a_fr, .int c_le, .ref a_bu, .ref a_no, .ref a_te, .ref a_fa, .ref a_li, .int c_wa, .int c_re, .int c_us, .int c_di, .ref a_wy, .ref a_su, .long c_ha]))]) sz) ([(a_this, .inr (3, [.int c_th, .int c_n, .int c_tu, .int c_al, .ref a_ro, .ref a_fr, .int c_le, .ref a_bu, .ref a_no, .ref a_te, .ref a_fa, .ref a_li, .int c_wa, .int u.1, .int u.2.1, .int u.2.2, .ref a_wy, .ref a_su, .long c_ha]))]) t) (va_A ([(a_this, .inr (3, [.int c_th, .int c_n, .int c_tu, .int c_al, .ref a_ro, .ref a_fr, .int c_le, .ref a_bu, .ref a_no, .ref a_te, .ref a_fa, .ref a_li, .int c_wa, .int c_re, .int c_us, .int c_di, .ref a_wy, .ref a_su, .long c_ha]))]) sz)) 0 0 (va_A ([(a_this, .inr (3, [.int c_th, .int c_n, .int c_tu, .int c_al, .ref a_ro, .ref a_fr, .int c_le, .ref a_bu, .ref a_no, .ref a_te, .ref a_fa, .ref a_li, .int c_wa, .int c_re, .int c_us, .int c_di, .ref a_wy, .ref a_su, .long c_ha]))]) sz) := by
  refine j_met (Qc := fun A => va_Qi post (fun u t => PostW D cy A ([(a_this, .inr (3, [.int c_th, .int c_n, .int c_tu, .int c_al, .ref a_ro, .ref a_fr, .int c_le, .ref a_bu, .ref a_no, .ref a_te, .ref a_fa, .ref a_li, .int c_wa, .int u.1, .int u.2.1, .int u.2.2, .ref a_wy, .ref a_su, .long c_ha]))]) t) A) (by decide +kernel) rfl (Nat.le_of_ble_eq_true rfl) ?_
  intro p e s m below meth c A ls C0 hr hlocks hP hD hS hl
  obtain ⟨hx, hb, hml, hown, hts, hK, hA⟩ := id C0
  have hown : s.vm.findClass RX3 = some m.cls := hown
  have hl : lv_has ls 3 [(0, .ref a_this), (1, .int p_1)] := hl
  unfold wp_X3_takes at hw
  refine lv_aload_n hx hb dX3_takes_0 rfl (lv_at hl 0 rfl) ?_
  refine va_get (D := D) (ci := 3) (v := .int c_di) (C := RX3) (T := TX3) (N := 19) hx hb hts k_X3_takes_X3 hown hK hP 0 rfl rfl 15 (by decide) (hts _ q_X3_takes_1) (fun _ h9 => h9) rfl dX3_takes_1 ?_
  refine lv_aload_n hx hb dX3_takes_4 rfl (lv_at hl 0 rfl) ?_
  refine va_get (D := D) (ci := 3) (v := .int c_n) (C := RX3) (T := TX3) (N := 19) hx hb hts k_X3_takes_X3 hown hK hP 0 rfl rfl 1 (by decide) (hts _ q_X3_takes_2) (fun _ h9 => h9) rfl dX3_takes_5 ?_
  refine lv_icmp_ne (tgt := 71) hx hb dX3_takes_8 (by decide) (fun c_1 => ?_) (fun c_1 => ?_)
  · replace hw := hw.1 c_1
    refine lv_aload_n hx hb dX3_takes_71 rfl (lv_at hl 0 rfl) ?_
    refine va_get (D := D) (ci := 3) (v := .int c_tu) (C := RX3) (T := TX3) (N := 19) hx hb hts k_X3_takes_X3 hown hK hP 0 rfl rfl 2 (by decide) (hts _ q_X3_takes_3) (fun _ h9 => h9) rfl dX3_takes_72 ?_
    refine lv_aload_n hx hb dX3_takes_75 rfl (lv_at hl 0 rfl) ?_
    refine va_get (D := D) (ci := 3) (v := .int c_re) (C := RX3) (T := TX3) (N := 19) hx hb hts k_X3_takes_X3 hown hK hP 0 rfl rfl 13 (by decide) (hts _ q_X3_takes_4) (fun _ h9 => h9) rfl dX3_takes_76 ?_
    refine lv_iadd hx hb dX3_takes_79 ?_
    refine lv_bipush (v := 6) hx hb dX3_takes_80 (by decide) ?_
    refine lv_icmp_ge (tgt := 121) hx hb dX3_takes_82 (by decide) (fun c_2 => ?_) (fun c_2 => ?_)
    · replace hw := hw.1 c_2
      refine lv_iconst (v := 0) hx hb dX3_takes_121 (by decide) ?_
      refine lv_istore_n (lv' := [(2, .int 0), (0, .ref a_this), (1, .int p_1)]) hx hb dX3_takes_122 rfl hl (by decide) rfl (fun ls hl => ?_)
      refine lv_iload_n hx hb dX3_takes_123 rfl (lv_at hl 0 rfl) ?_
      refine lv_if_eq (tgt := 177) hx hb dX3_takes_124 (by decide) (fun _ => ?_) (fun c_3 => absurd c_3 (by decide))
      refine lv_iload_n hx hb dX3_takes_177 rfl (lv_at hl 0 rfl) ?_
      exact j_zret (fun u => [(a_this, .inr (3, [.int c_th, .int c_n, .int c_tu, .int c_al, .ref a_ro, .ref a_fr, .int c_le, .ref a_bu, .ref a_no, .ref a_te, .ref a_fa, .ref a_li, .int c_wa, .int u.1, .int u.2.1, .int u.2.2, .ref a_wy, .ref a_su, .long c_ha]))]) ((c_re, c_us, c_di) : Int32 × Int32 × Int32) hx hb hr rfl hlocks hK hP hD hS hw dX3_takes_178
    · replace hw := hw.2 c_2
      refine lv_iload_n hx hb dX3_takes_85 rfl (lv_at hl 1 rfl) ?_
      refine lv_bipush (v := 48) hx hb dX3_takes_86 (by decide) ?_
      refine lv_bipush (v := 48) hx hb dX3_takes_88 (by decide) ?_
      refine lv_aload_n hx hb dX3_takes_90 rfl (lv_at hl 0 rfl) ?_
      refine va_get (D := D) (ci := 3) (v := .int c_n) (C := RX3) (T := TX3) (N := 19) hx hb hts k_X3_takes_X3 hown hK hP 0 rfl rfl 1 (by decide) (hts _ q_X3_takes_2) (fun _ h9 => h9) rfl dX3_takes_91 ?_
      refine lv_iadd hx hb dX3_takes_94 ?_
      refine lv_iconst (v := 1) hx hb dX3_takes_95 (by decide) ?_
      refine lv_isub hx hb dX3_takes_96 ?_
      refine j_calli (wr := [(a_this, .inr (3, [.int c_th, .int c_n, .int c_tu, .int c_al, .ref a_ro, .ref a_fr, .int c_le, .ref a_bu, .ref a_no, .ref a_te, .ref a_fa, .ref a_li, .int c_wa, .int c_re, .int c_us, .int c_di, .ref a_wy, .ref a_su, .long c_ha]))]) (va_runS (As := [.int p_1, .int 48, .int ((48 + c_n) - 1)]) (rest := []) ⟨hx, hb, hml, hown, hts⟩ (c_X3_within l D cy p_1 (48 : Int32) ((48 + c_n) - 1) hw s.heap.size) (va_cwS 3 hts gX3_takes_X3_within rfl rfl rfl (by decide +kernel) ⟨Nat.le_of_ble_eq_true rfl, Nat.le_of_ble_eq_true rfl⟩) (j_preS hK hP hD (isC := []) rfl (by decide +kernel)) rfl rfl hl.1 rfl (lv_room (Nat.le_of_ble_eq_true rfl)) dX3_takes_97 ⟨Nat.le_of_ble_eq_true rfl, Nat.le_of_ble_eq_true rfl⟩) hP hD hS hA [] [0] rfl rfl (by decide +kernel) (by decide +kernel) (fun u_4 => [(a_this, .inr (3, [.int c_th, .int c_n, .int c_tu, .int c_al, .ref a_ro, .ref a_fr, .int c_le, .ref a_bu, .ref a_no, .ref a_te, .ref a_fa, .ref a_li, .int c_wa, .int c_re, .int c_us, .int c_di, .ref a_wy, .ref a_su, .long c_ha]))]) [0] (by decide +kernel) (fun u => rfl) (fun r_5 u_4 H locs hw hP hD hS => ?_)
      have hP : va_P D vwCl ([(a_this, .inr (3, [.int c_th, .int c_n, .int c_tu, .int c_al, .ref a_ro, .ref a_fr, .int c_le, .ref a_bu, .ref a_no, .ref a_te, .ref a_fa, .ref a_li, .int c_wa, .int c_re, .int c_us, .int c_di, .ref a_wy, .ref a_su, .long c_ha]))]) H := hP
      have hD : va_D A ([(a_this, .inr (3, [.int c_th, .int c_n, .int c_tu, .int c_al, .ref a_ro, .ref a_fr, .int c_le, .ref a_bu, .ref a_no, .ref a_te, .ref a_fa, .ref a_li, .int c_wa, .int c_re, .int c_us, .int c_di, .ref a_wy, .ref a_su, .long c_ha]))]) := hD
      refine lv_if_eq (tgt := 121) hx hb dX3_takes_100 (by decide) (fun c_6 => ?_) (fun c_6 => ?_)
      · replace hw := hw.1 c_6
        refine lv_iconst (v := 0) hx hb dX3_takes_121 (by decide) ?_
        refine lv_istore_n (lv' := [(2, .int 0), (0, .ref a_this), (1, .int p_1)]) hx hb dX3_takes_122 rfl hl (by decide) rfl (fun ls hl => ?_)
        refine lv_iload_n hx hb dX3_takes_123 rfl (lv_at hl 0 rfl) ?_
        refine lv_if_eq (tgt := 177) hx hb dX3_takes_124 (by decide) (fun _ => ?_) (fun c_7 => absurd c_7 (by decide))
        refine lv_iload_n hx hb dX3_takes_177 rfl (lv_at hl 0 rfl) ?_
        exact j_zret (fun u => [(a_this, .inr (3, [.int c_th, .int c_n, .int c_tu, .int c_al, .ref a_ro, .ref a_fr, .int c_le, .ref a_bu, .ref a_no, .ref a_te, .ref a_fa, .ref a_li, .int c_wa, .int u.1, .int u.2.1, .int u.2.2, .ref a_wy, .ref a_su, .long c_ha]))]) ((c_re, c_us, c_di) : Int32 × Int32 × Int32) hx hb hr rfl hlocks hK hP hD hS hw dX3_takes_178
      · replace hw := hw.2 c_6
        refine lv_aload_n hx hb dX3_takes_103 rfl (lv_at hl 0 rfl) ?_
        refine va_get (D := D) (ci := 3) (v := .int c_us) (C := RX3) (T := TX3) (N := 19) hx hb hts k_X3_takes_X3 hown hK hP 0 rfl rfl 14 (by decide) (hts _ q_X3_takes_5) (fun _ h9 => h9) rfl dX3_takes_104 ?_
        refine lv_iload_n hx hb dX3_takes_107 rfl (lv_at hl 1 rfl) ?_
        refine lv_bipush (v := 48) hx hb dX3_takes_108 (by decide) ?_
        refine lv_isub hx hb dX3_takes_110 ?_
        refine j_calli (wr := [(a_this, .inr (3, [.int c_th, .int c_n, .int c_tu, .int c_al, .ref a_ro, .ref a_fr, .int c_le, .ref a_bu, .ref a_no, .ref a_te, .ref a_fa, .ref a_li, .int c_wa, .int c_re, .int c_us, .int c_di, .ref a_wy, .ref a_su, .long c_ha]))]) (va_runS (As := [.int c_us, .int (p_1 - 48)]) (rest := []) ⟨hx, hb, hml, hown, hts⟩ (c_X3_has l D cy c_us (p_1 - 48) hw H.size) (va_cwS 2 hts gX3_takes_X3_has rfl rfl rfl (by decide +kernel) ⟨Nat.le_of_ble_eq_true rfl, Nat.le_of_ble_eq_true rfl⟩) (j_preS hK hP hD (isC := []) rfl (by decide +kernel)) rfl rfl hl.1 rfl (lv_room (Nat.le_of_ble_eq_true rfl)) dX3_takes_111 ⟨Nat.le_of_ble_eq_true rfl, Nat.le_of_ble_eq_true rfl⟩) hP hD hS hA [] [0] rfl rfl (by decide +kernel) (by decide +kernel) (fun u_8 => [(a_this, .inr (3, [.int c_th, .int c_n, .int c_tu, .int c_al, .ref a_ro, .ref a_fr, .int c_le, .ref a_bu, .ref a_no, .ref a_te, .ref a_fa, .ref a_li, .int c_wa, .int c_re, .int c_us, .int c_di, .ref a_wy, .ref a_su, .long c_ha]))]) [0] (by decide +kernel) (fun u => rfl) (fun r_9 u_8 H locs hw hP hD hS => ?_)
        have hP : va_P D vwCl ([(a_this, .inr (3, [.int c_th, .int c_n, .int c_tu, .int c_al, .ref a_ro, .ref a_fr, .int c_le, .ref a_bu, .ref a_no, .ref a_te, .ref a_fa, .ref a_li, .int c_wa, .int c_re, .int c_us, .int c_di, .ref a_wy, .ref a_su, .long c_ha]))]) H := hP
        have hD : va_D A ([(a_this, .inr (3, [.int c_th, .int c_n, .int c_tu, .int c_al, .ref a_ro, .ref a_fr, .int c_le, .ref a_bu, .ref a_no, .ref a_te, .ref a_fa, .ref a_li, .int c_wa, .int c_re, .int c_us, .int c_di, .ref a_wy, .ref a_su, .long c_ha]))]) := hD
        refine lv_if_ne (tgt := 121) hx hb dX3_takes_114 (by decide) (fun c_10 => ?_) (fun c_10 => ?_)
        · replace hw := hw.1 c_10
          refine lv_iconst (v := 0) hx hb dX3_takes_121 (by decide) ?_
          refine lv_istore_n (lv' := [(2, .int 0), (0, .ref a_this), (1, .int p_1)]) hx hb dX3_takes_122 rfl hl (by decide) rfl (fun ls hl => ?_)
          refine lv_iload_n hx hb dX3_takes_123 rfl (lv_at hl 0 rfl) ?_
          refine lv_if_eq (tgt := 177) hx hb dX3_takes_124 (by decide) (fun _ => ?_) (fun c_11 => absurd c_11 (by decide))
          refine lv_iload_n hx hb dX3_takes_177 rfl (lv_at hl 0 rfl) ?_
          exact j_zret (fun u => [(a_this, .inr (3, [.int c_th, .int c_n, .int c_tu, .int c_al, .ref a_ro, .ref a_fr, .int c_le, .ref a_bu, .ref a_no, .ref a_te, .ref a_fa, .ref a_li, .int c_wa, .int u.1, .int u.2.1, .int u.2.2, .ref a_wy, .ref a_su, .long c_ha]))]) ((c_re, c_us, c_di) : Int32 × Int32 × Int32) hx hb hr rfl hlocks hK hP hD hS hw dX3_takes_178
        · replace hw := hw.2 c_10
          refine lv_iconst (v := 1) hx hb dX3_takes_117 (by decide) ?_
          refine lv_goto (tgt := 122) hx hb dX3_takes_118 (by decide) ?_
          refine lv_istore_n (lv' := [(2, .int 1), (0, .ref a_this), (1, .int p_1)]) hx hb dX3_takes_122 rfl hl (by decide) rfl (fun ls hl => ?_)
          refine lv_iload_n hx hb dX3_takes_123 rfl (lv_at hl 0 rfl) ?_
          refine lv_if_eq (tgt := 177) hx hb dX3_takes_124 (by decide) (fun c_12 => absurd c_12 (by decide)) (fun _ => ?_)
          refine lv_aload_n hx hb dX3_takes_127 rfl (lv_at hl 1 rfl) ?_
          refine lv_dup hx hb dX3_takes_128 rfl ?_
          refine va_get (D := D) (ci := 3) (v := .int c_us) (C := RX3) (T := TX3) (N := 19) hx hb hts k_X3_takes_X3 hown hK hP 0 rfl rfl 14 (by decide) (hts _ q_X3_takes_5) (fun _ h9 => h9) rfl dX3_takes_129 ?_
          refine lv_iconst (v := 1) hx hb dX3_takes_132 (by decide) ?_
          refine lv_iload_n hx hb dX3_takes_133 rfl (lv_at hl 2 rfl) ?_
          refine lv_bipush (v := 48) hx hb dX3_takes_134 (by decide) ?_
          refine lv_isub hx hb dX3_takes_136 ?_
          refine lv_ishl hx hb dX3_takes_137 ?_
          refine lv_ior hx hb dX3_takes_138 ?_
          refine lv_topi (fun x_13 ex_13 => ?_)
          replace hw := hw x_13 ex_13
          refine va_put (D := D) (ci := 3) (v := .int x_13) (ty := .int) (C := RX3) (T := TX3) (N := 19) hx hb hts k_X3_takes_X3 tyX3 tyX3_ok nmX3 hown hK hP hD hS 0 rfl rfl 14 (by decide) (hts _ q_X3_takes_5) (fun _ h9 => h9) rfl (by decide +kernel) rfl rfl (Nat.le_of_ble_eq_true rfl) dX3_takes_139 (fun H locs hP hD hS => ?_)
          have hP : va_P D vwCl ([(a_this, .inr (3, [.int c_th, .int c_n, .int c_tu, .int c_al, .ref a_ro, .ref a_fr, .int c_le, .ref a_bu, .ref a_no, .ref a_te, .ref a_fa, .ref a_li, .int c_wa, .int c_re, .int x_13, .int c_di, .ref a_wy, .ref a_su, .long c_ha]))]) H := hP
          have hD : va_D A ([(a_this, .inr (3, [.int c_th, .int c_n, .int c_tu, .int c_al, .ref a_ro, .ref a_fr, .int c_le, .ref a_bu, .ref a_no, .ref a_te, .ref a_fa, .ref a_li, .int c_wa, .int c_re, .int x_13, .int c_di, .ref a_wy, .ref a_su, .long c_ha]))]) := hD
          refine lv_aload_n hx hb dX3_takes_142 rfl (lv_at hl 1 rfl) ?_
          refine lv_dup hx hb dX3_takes_143 rfl ?_
          refine va_get (D := D) (ci := 3) (v := .int c_di) (C := RX3) (T := TX3) (N := 19) hx hb hts k_X3_takes_X3 hown hK hP 0 rfl rfl 15 (by decide) (hts _ q_X3_takes_1) (fun _ h9 => h9) rfl dX3_takes_144 ?_
          refine lv_iconst (v := 1) hx hb dX3_takes_147 (by decide) ?_
          refine lv_iadd hx hb dX3_takes_148 ?_
          refine lv_topi (fun x_14 ex_14 => ?_)
          replace hw := hw x_14 ex_14
          refine va_put (D := D) (ci := 3) (v := .int x_14) (ty := .int) (C := RX3) (T := TX3) (N := 19) hx hb hts k_X3_takes_X3 tyX3 tyX3_ok nmX3 hown hK hP hD hS 0 rfl rfl 15 (by decide) (hts _ q_X3_takes_1) (fun _ h9 => h9) rfl (by decide +kernel) rfl rfl (Nat.le_of_ble_eq_true rfl) dX3_takes_149 (fun H locs hP hD hS => ?_)
          have hP : va_P D vwCl ([(a_this, .inr (3, [.int c_th, .int c_n, .int c_tu, .int c_al, .ref a_ro, .ref a_fr, .int c_le, .ref a_bu, .ref a_no, .ref a_te, .ref a_fa, .ref a_li, .int c_wa, .int c_re, .int x_13, .int x_14, .ref a_wy, .ref a_su, .long c_ha]))]) H := hP
          have hD : va_D A ([(a_this, .inr (3, [.int c_th, .int c_n, .int c_tu, .int c_al, .ref a_ro, .ref a_fr, .int c_le, .ref a_bu, .ref a_no, .ref a_te, .ref a_fa, .ref a_li, .int c_wa, .int c_re, .int x_13, .int x_14, .ref a_wy, .ref a_su, .long c_ha]))]) := hD
          refine lv_aload_n hx hb dX3_takes_152 rfl (lv_at hl 1 rfl) ?_
          refine lv_dup hx hb dX3_takes_153 rfl ?_
          refine va_get (D := D) (ci := 3) (v := .int c_re) (C := RX3) (T := TX3) (N := 19) hx hb hts k_X3_takes_X3 hown hK hP 0 rfl rfl 13 (by decide) (hts _ q_X3_takes_4) (fun _ h9 => h9) rfl dX3_takes_154 ?_
          refine lv_aload_n hx hb dX3_takes_157 rfl (lv_at hl 1 rfl) ?_
          refine va_get (D := D) (ci := 3) (v := .int x_14) (C := RX3) (T := TX3) (N := 19) hx hb hts k_X3_takes_X3 hown hK hP 0 rfl rfl 15 (by decide) (hts _ q_X3_takes_1) (fun _ h9 => h9) rfl dX3_takes_158 ?_
          refine lv_aload_n hx hb dX3_takes_161 rfl (lv_at hl 1 rfl) ?_
          refine va_get (D := D) (ci := 3) (v := .int c_n) (C := RX3) (T := TX3) (N := 19) hx hb hts k_X3_takes_X3 hown hK hP 0 rfl rfl 1 (by decide) (hts _ q_X3_takes_2) (fun _ h9 => h9) rfl dX3_takes_162 ?_
          refine lv_icmp_ne (tgt := 172) hx hb dX3_takes_165 (by decide) (fun c_15 => ?_) (fun c_15 => ?_)
          · replace hw := hw.1 c_15
            refine lv_iconst (v := 0) hx hb dX3_takes_172 (by decide) ?_
            refine lv_iadd hx hb dX3_takes_173 ?_
            refine lv_topi (fun x_16 ex_16 => ?_)
            replace hw := hw x_16 ex_16
            refine va_put (D := D) (ci := 3) (v := .int x_16) (ty := .int) (C := RX3) (T := TX3) (N := 19) hx hb hts k_X3_takes_X3 tyX3 tyX3_ok nmX3 hown hK hP hD hS 0 rfl rfl 13 (by decide) (hts _ q_X3_takes_4) (fun _ h9 => h9) rfl (by decide +kernel) rfl rfl (Nat.le_of_ble_eq_true rfl) dX3_takes_174 (fun H locs hP hD hS => ?_)
            have hP : va_P D vwCl ([(a_this, .inr (3, [.int c_th, .int c_n, .int c_tu, .int c_al, .ref a_ro, .ref a_fr, .int c_le, .ref a_bu, .ref a_no, .ref a_te, .ref a_fa, .ref a_li, .int c_wa, .int x_16, .int x_13, .int x_14, .ref a_wy, .ref a_su, .long c_ha]))]) H := hP
            have hD : va_D A ([(a_this, .inr (3, [.int c_th, .int c_n, .int c_tu, .int c_al, .ref a_ro, .ref a_fr, .int c_le, .ref a_bu, .ref a_no, .ref a_te, .ref a_fa, .ref a_li, .int c_wa, .int x_16, .int x_13, .int x_14, .ref a_wy, .ref a_su, .long c_ha]))]) := hD
            refine lv_iload_n hx hb dX3_takes_177 rfl (lv_at hl 0 rfl) ?_
            exact j_zret (fun u => [(a_this, .inr (3, [.int c_th, .int c_n, .int c_tu, .int c_al, .ref a_ro, .ref a_fr, .int c_le, .ref a_bu, .ref a_no, .ref a_te, .ref a_fa, .ref a_li, .int c_wa, .int u.1, .int u.2.1, .int u.2.2, .ref a_wy, .ref a_su, .long c_ha]))]) ((x_16, x_13, x_14) : Int32 × Int32 × Int32) hx hb hr rfl hlocks hK hP hD hS hw dX3_takes_178
          · replace hw := hw.2 c_15
            refine lv_iconst (v := 1) hx hb dX3_takes_168 (by decide) ?_
            refine lv_goto (tgt := 173) hx hb dX3_takes_169 (by decide) ?_
            refine lv_iadd hx hb dX3_takes_173 ?_
            refine lv_topi (fun x_17 ex_17 => ?_)
            replace hw := hw x_17 ex_17
            refine va_put (D := D) (ci := 3) (v := .int x_17) (ty := .int) (C := RX3) (T := TX3) (N := 19) hx hb hts k_X3_takes_X3 tyX3 tyX3_ok nmX3 hown hK hP hD hS 0 rfl rfl 13 (by decide) (hts _ q_X3_takes_4) (fun _ h9 => h9) rfl (by decide +kernel) rfl rfl (Nat.le_of_ble_eq_true rfl) dX3_takes_174 (fun H locs hP hD hS => ?_)
            have hP : va_P D vwCl ([(a_this, .inr (3, [.int c_th, .int c_n, .int c_tu, .int c_al, .ref a_ro, .ref a_fr, .int c_le, .ref a_bu, .ref a_no, .ref a_te, .ref a_fa, .ref a_li, .int c_wa, .int x_17, .int x_13, .int x_14, .ref a_wy, .ref a_su, .long c_ha]))]) H := hP
            have hD : va_D A ([(a_this, .inr (3, [.int c_th, .int c_n, .int c_tu, .int c_al, .ref a_ro, .ref a_fr, .int c_le, .ref a_bu, .ref a_no, .ref a_te, .ref a_fa, .ref a_li, .int c_wa, .int x_17, .int x_13, .int x_14, .ref a_wy, .ref a_su, .long c_ha]))]) := hD
            refine lv_iload_n hx hb dX3_takes_177 rfl (lv_at hl 0 rfl) ?_
            exact j_zret (fun u => [(a_this, .inr (3, [.int c_th, .int c_n, .int c_tu, .int c_al, .ref a_ro, .ref a_fr, .int c_le, .ref a_bu, .ref a_no, .ref a_te, .ref a_fa, .ref a_li, .int c_wa, .int u.1, .int u.2.1, .int u.2.2, .ref a_wy, .ref a_su, .long c_ha]))]) ((x_17, x_13, x_14) : Int32 × Int32 × Int32) hx hb hr rfl hlocks hK hP hD hS hw dX3_takes_178
  · replace hw := hw.2 c_1
    refine lv_iload_n hx hb dX3_takes_11 rfl (lv_at hl 1 rfl) ?_
    refine lv_bipush (v := 59) hx hb dX3_takes_12 (by decide) ?_
    refine lv_icmp_ne (tgt := 35) hx hb dX3_takes_14 (by decide) (fun c_18 => ?_) (fun c_18 => ?_)
    · replace hw := hw.1 c_18
      refine lv_iconst (v := 0) hx hb dX3_takes_35 (by decide) ?_
      refine lv_istore_n (lv' := [(2, .int 0), (0, .ref a_this), (1, .int p_1)]) hx hb dX3_takes_36 rfl hl (by decide) rfl (fun ls hl => ?_)
      refine lv_aload_n hx hb dX3_takes_37 rfl (lv_at hl 1 rfl) ?_
      refine lv_iload_n hx hb dX3_takes_38 rfl (lv_at hl 0 rfl) ?_
      refine lv_if_eq (tgt := 46) hx hb dX3_takes_39 (by decide) (fun _ => ?_) (fun c_19 => absurd c_19 (by decide))
      refine lv_aload_n hx hb dX3_takes_46 rfl (lv_at hl 1 rfl) ?_
      refine va_get (D := D) (ci := 3) (v := .int c_di) (C := RX3) (T := TX3) (N := 19) hx hb hts k_X3_takes_X3 hown hK hP 0 rfl rfl 15 (by decide) (hts _ q_X3_takes_1) (fun _ h9 => h9) rfl dX3_takes_47 ?_
      refine va_put (D := D) (ci := 3) (v := .int c_di) (ty := .int) (C := RX3) (T := TX3) (N := 19) hx hb hts k_X3_takes_X3 tyX3 tyX3_ok nmX3 hown hK hP hD hS 0 rfl rfl 15 (by decide) (hts _ q_X3_takes_1) (fun _ h9 => h9) rfl (by decide +kernel) rfl rfl (Nat.le_of_ble_eq_true rfl) dX3_takes_50 (fun H locs hP hD hS => ?_)
      have hP : va_P D vwCl ([(a_this, .inr (3, [.int c_th, .int c_n, .int c_tu, .int c_al, .ref a_ro, .ref a_fr, .int c_le, .ref a_bu, .ref a_no, .ref a_te, .ref a_fa, .ref a_li, .int c_wa, .int c_re, .int c_us, .int c_di, .ref a_wy, .ref a_su, .long c_ha]))]) H := hP
      have hD : va_D A ([(a_this, .inr (3, [.int c_th, .int c_n, .int c_tu, .int c_al, .ref a_ro, .ref a_fr, .int c_le, .ref a_bu, .ref a_no, .ref a_te, .ref a_fa, .ref a_li, .int c_wa, .int c_re, .int c_us, .int c_di, .ref a_wy, .ref a_su, .long c_ha]))]) := hD
      refine lv_aload_n hx hb dX3_takes_53 rfl (lv_at hl 1 rfl) ?_
      refine lv_iload_n hx hb dX3_takes_54 rfl (lv_at hl 0 rfl) ?_
      refine lv_if_eq (tgt := 62) hx hb dX3_takes_55 (by decide) (fun _ => ?_) (fun c_20 => absurd c_20 (by decide))
      refine lv_aload_n hx hb dX3_takes_62 rfl (lv_at hl 1 rfl) ?_
      refine va_get (D := D) (ci := 3) (v := .int c_us) (C := RX3) (T := TX3) (N := 19) hx hb hts k_X3_takes_X3 hown hK hP 0 rfl rfl 14 (by decide) (hts _ q_X3_takes_5) (fun _ h9 => h9) rfl dX3_takes_63 ?_
      refine va_put (D := D) (ci := 3) (v := .int c_us) (ty := .int) (C := RX3) (T := TX3) (N := 19) hx hb hts k_X3_takes_X3 tyX3 tyX3_ok nmX3 hown hK hP hD hS 0 rfl rfl 14 (by decide) (hts _ q_X3_takes_5) (fun _ h9 => h9) rfl (by decide +kernel) rfl rfl (Nat.le_of_ble_eq_true rfl) dX3_takes_66 (fun H locs hP hD hS => ?_)
      have hP : va_P D vwCl ([(a_this, .inr (3, [.int c_th, .int c_n, .int c_tu, .int c_al, .ref a_ro, .ref a_fr, .int c_le, .ref a_bu, .ref a_no, .ref a_te, .ref a_fa, .ref a_li, .int c_wa, .int c_re, .int c_us, .int c_di, .ref a_wy, .ref a_su, .long c_ha]))]) H := hP
      have hD : va_D A ([(a_this, .inr (3, [.int c_th, .int c_n, .int c_tu, .int c_al, .ref a_ro, .ref a_fr, .int c_le, .ref a_bu, .ref a_no, .ref a_te, .ref a_fa, .ref a_li, .int c_wa, .int c_re, .int c_us, .int c_di, .ref a_wy, .ref a_su, .long c_ha]))]) := hD
      refine lv_iload_n hx hb dX3_takes_69 rfl (lv_at hl 0 rfl) ?_
      exact j_zret (fun u => [(a_this, .inr (3, [.int c_th, .int c_n, .int c_tu, .int c_al, .ref a_ro, .ref a_fr, .int c_le, .ref a_bu, .ref a_no, .ref a_te, .ref a_fa, .ref a_li, .int c_wa, .int u.1, .int u.2.1, .int u.2.2, .ref a_wy, .ref a_su, .long c_ha]))]) ((c_re, c_us, c_di) : Int32 × Int32 × Int32) hx hb hr rfl hlocks hK hP hD hS hw dX3_takes_70
    · replace hw := hw.2 c_18
      refine lv_aload_n hx hb dX3_takes_17 rfl (lv_at hl 0 rfl) ?_
      refine va_get (D := D) (ci := 3) (v := .int c_tu) (C := RX3) (T := TX3) (N := 19) hx hb hts k_X3_takes_X3 hown hK hP 0 rfl rfl 2 (by decide) (hts _ q_X3_takes_3) (fun _ h9 => h9) rfl dX3_takes_18 ?_
      refine lv_aload_n hx hb dX3_takes_21 rfl (lv_at hl 0 rfl) ?_
      refine va_get (D := D) (ci := 3) (v := .int c_re) (C := RX3) (T := TX3) (N := 19) hx hb hts k_X3_takes_X3 hown hK hP 0 rfl rfl 13 (by decide) (hts _ q_X3_takes_4) (fun _ h9 => h9) rfl dX3_takes_22 ?_
      refine lv_iadd hx hb dX3_takes_25 ?_
      refine lv_bipush (v := 6) hx hb dX3_takes_26 (by decide) ?_
      refine lv_icmp_ge (tgt := 35) hx hb dX3_takes_28 (by decide) (fun c_21 => ?_) (fun c_21 => ?_)
      · replace hw := hw.1 c_21
        refine lv_iconst (v := 0) hx hb dX3_takes_35 (by decide) ?_
        refine lv_istore_n (lv' := [(2, .int 0), (0, .ref a_this), (1, .int p_1)]) hx hb dX3_takes_36 rfl hl (by decide) rfl (fun ls hl => ?_)
        refine lv_aload_n hx hb dX3_takes_37 rfl (lv_at hl 1 rfl) ?_
        refine lv_iload_n hx hb dX3_takes_38 rfl (lv_at hl 0 rfl) ?_
        refine lv_if_eq (tgt := 46) hx hb dX3_takes_39 (by decide) (fun _ => ?_) (fun c_22 => absurd c_22 (by decide))
        refine lv_aload_n hx hb dX3_takes_46 rfl (lv_at hl 1 rfl) ?_
        refine va_get (D := D) (ci := 3) (v := .int c_di) (C := RX3) (T := TX3) (N := 19) hx hb hts k_X3_takes_X3 hown hK hP 0 rfl rfl 15 (by decide) (hts _ q_X3_takes_1) (fun _ h9 => h9) rfl dX3_takes_47 ?_
        refine va_put (D := D) (ci := 3) (v := .int c_di) (ty := .int) (C := RX3) (T := TX3) (N := 19) hx hb hts k_X3_takes_X3 tyX3 tyX3_ok nmX3 hown hK hP hD hS 0 rfl rfl 15 (by decide) (hts _ q_X3_takes_1) (fun _ h9 => h9) rfl (by decide +kernel) rfl rfl (Nat.le_of_ble_eq_true rfl) dX3_takes_50 (fun H locs hP hD hS => ?_)
        have hP : va_P D vwCl ([(a_this, .inr (3, [.int c_th, .int c_n, .int c_tu, .int c_al, .ref a_ro, .ref a_fr, .int c_le, .ref a_bu, .ref a_no, .ref a_te, .ref a_fa, .ref a_li, .int c_wa, .int c_re, .int c_us, .int c_di, .ref a_wy, .ref a_su, .long c_ha]))]) H := hP
        have hD : va_D A ([(a_this, .inr (3, [.int c_th, .int c_n, .int c_tu, .int c_al, .ref a_ro, .ref a_fr, .int c_le, .ref a_bu, .ref a_no, .ref a_te, .ref a_fa, .ref a_li, .int c_wa, .int c_re, .int c_us, .int c_di, .ref a_wy, .ref a_su, .long c_ha]))]) := hD
        refine lv_aload_n hx hb dX3_takes_53 rfl (lv_at hl 1 rfl) ?_
        refine lv_iload_n hx hb dX3_takes_54 rfl (lv_at hl 0 rfl) ?_
        refine lv_if_eq (tgt := 62) hx hb dX3_takes_55 (by decide) (fun _ => ?_) (fun c_23 => absurd c_23 (by decide))
        refine lv_aload_n hx hb dX3_takes_62 rfl (lv_at hl 1 rfl) ?_
        refine va_get (D := D) (ci := 3) (v := .int c_us) (C := RX3) (T := TX3) (N := 19) hx hb hts k_X3_takes_X3 hown hK hP 0 rfl rfl 14 (by decide) (hts _ q_X3_takes_5) (fun _ h9 => h9) rfl dX3_takes_63 ?_
        refine va_put (D := D) (ci := 3) (v := .int c_us) (ty := .int) (C := RX3) (T := TX3) (N := 19) hx hb hts k_X3_takes_X3 tyX3 tyX3_ok nmX3 hown hK hP hD hS 0 rfl rfl 14 (by decide) (hts _ q_X3_takes_5) (fun _ h9 => h9) rfl (by decide +kernel) rfl rfl (Nat.le_of_ble_eq_true rfl) dX3_takes_66 (fun H locs hP hD hS => ?_)
        have hP : va_P D vwCl ([(a_this, .inr (3, [.int c_th, .int c_n, .int c_tu, .int c_al, .ref a_ro, .ref a_fr, .int c_le, .ref a_bu, .ref a_no, .ref a_te, .ref a_fa, .ref a_li, .int c_wa, .int c_re, .int c_us, .int c_di, .ref a_wy, .ref a_su, .long c_ha]))]) H := hP
        have hD : va_D A ([(a_this, .inr (3, [.int c_th, .int c_n, .int c_tu, .int c_al, .ref a_ro, .ref a_fr, .int c_le, .ref a_bu, .ref a_no, .ref a_te, .ref a_fa, .ref a_li, .int c_wa, .int c_re, .int c_us, .int c_di, .ref a_wy, .ref a_su, .long c_ha]))]) := hD
        refine lv_iload_n hx hb dX3_takes_69 rfl (lv_at hl 0 rfl) ?_
        exact j_zret (fun u => [(a_this, .inr (3, [.int c_th, .int c_n, .int c_tu, .int c_al, .ref a_ro, .ref a_fr, .int c_le, .ref a_bu, .ref a_no, .ref a_te, .ref a_fa, .ref a_li, .int c_wa, .int u.1, .int u.2.1, .int u.2.2, .ref a_wy, .ref a_su, .long c_ha]))]) ((c_re, c_us, c_di) : Int32 × Int32 × Int32) hx hb hr rfl hlocks hK hP hD hS hw dX3_takes_70
      · replace hw := hw.2 c_21
        refine lv_iconst (v := 1) hx hb dX3_takes_31 (by decide) ?_
        refine lv_goto (tgt := 36) hx hb dX3_takes_32 (by decide) ?_
        refine lv_istore_n (lv' := [(2, .int 1), (0, .ref a_this), (1, .int p_1)]) hx hb dX3_takes_36 rfl hl (by decide) rfl (fun ls hl => ?_)
        refine lv_aload_n hx hb dX3_takes_37 rfl (lv_at hl 1 rfl) ?_
        refine lv_iload_n hx hb dX3_takes_38 rfl (lv_at hl 0 rfl) ?_
        refine lv_if_eq (tgt := 46) hx hb dX3_takes_39 (by decide) (fun c_24 => absurd c_24 (by decide)) (fun _ => ?_)
        refine lv_iconst (v := 0) hx hb dX3_takes_42 (by decide) ?_
        refine lv_goto (tgt := 50) hx hb dX3_takes_43 (by decide) ?_
        refine va_put (D := D) (ci := 3) (v := .int 0) (ty := .int) (C := RX3) (T := TX3) (N := 19) hx hb hts k_X3_takes_X3 tyX3 tyX3_ok nmX3 hown hK hP hD hS 0 rfl rfl 15 (by decide) (hts _ q_X3_takes_1) (fun _ h9 => h9) rfl (by decide +kernel) rfl rfl (Nat.le_of_ble_eq_true rfl) dX3_takes_50 (fun H locs hP hD hS => ?_)
        have hP : va_P D vwCl ([(a_this, .inr (3, [.int c_th, .int c_n, .int c_tu, .int c_al, .ref a_ro, .ref a_fr, .int c_le, .ref a_bu, .ref a_no, .ref a_te, .ref a_fa, .ref a_li, .int c_wa, .int c_re, .int c_us, .int (0 : Int32), .ref a_wy, .ref a_su, .long c_ha]))]) H := hP
        have hD : va_D A ([(a_this, .inr (3, [.int c_th, .int c_n, .int c_tu, .int c_al, .ref a_ro, .ref a_fr, .int c_le, .ref a_bu, .ref a_no, .ref a_te, .ref a_fa, .ref a_li, .int c_wa, .int c_re, .int c_us, .int (0 : Int32), .ref a_wy, .ref a_su, .long c_ha]))]) := hD
        refine lv_aload_n hx hb dX3_takes_53 rfl (lv_at hl 1 rfl) ?_
        refine lv_iload_n hx hb dX3_takes_54 rfl (lv_at hl 0 rfl) ?_
        refine lv_if_eq (tgt := 62) hx hb dX3_takes_55 (by decide) (fun c_25 => absurd c_25 (by decide)) (fun _ => ?_)
        refine lv_iconst (v := 0) hx hb dX3_takes_58 (by decide) ?_
        refine lv_goto (tgt := 66) hx hb dX3_takes_59 (by decide) ?_
        refine va_put (D := D) (ci := 3) (v := .int 0) (ty := .int) (C := RX3) (T := TX3) (N := 19) hx hb hts k_X3_takes_X3 tyX3 tyX3_ok nmX3 hown hK hP hD hS 0 rfl rfl 14 (by decide) (hts _ q_X3_takes_5) (fun _ h9 => h9) rfl (by decide +kernel) rfl rfl (Nat.le_of_ble_eq_true rfl) dX3_takes_66 (fun H locs hP hD hS => ?_)
        have hP : va_P D vwCl ([(a_this, .inr (3, [.int c_th, .int c_n, .int c_tu, .int c_al, .ref a_ro, .ref a_fr, .int c_le, .ref a_bu, .ref a_no, .ref a_te, .ref a_fa, .ref a_li, .int c_wa, .int c_re, .int (0 : Int32), .int (0 : Int32), .ref a_wy, .ref a_su, .long c_ha]))]) H := hP
        have hD : va_D A ([(a_this, .inr (3, [.int c_th, .int c_n, .int c_tu, .int c_al, .ref a_ro, .ref a_fr, .int c_le, .ref a_bu, .ref a_no, .ref a_te, .ref a_fa, .ref a_li, .int c_wa, .int c_re, .int (0 : Int32), .int (0 : Int32), .ref a_wy, .ref a_su, .long c_ha]))]) := hD
        refine lv_iload_n hx hb dX3_takes_69 rfl (lv_at hl 0 rfl) ?_
        exact j_zret (fun u => [(a_this, .inr (3, [.int c_th, .int c_n, .int c_tu, .int c_al, .ref a_ro, .ref a_fr, .int c_le, .ref a_bu, .ref a_no, .ref a_te, .ref a_fa, .ref a_li, .int c_wa, .int u.1, .int u.2.1, .int u.2.2, .ref a_wy, .ref a_su, .long c_ha]))]) ((c_re, (0 : Int32), (0 : Int32)) : Int32 × Int32 × Int32) hx hb hr rfl hlocks hK hP hD hS hw dX3_takes_70
theorem q_X3_turnsLength_1 : Cond.fieldLink RX3 134 "TwistedRowModel" "read" "I" ∈ wsX3_turnsLength := List.mem_of_getElem? (i := 1) rfl
theorem k_X3_turnsLength_X3 : ∀ w ∈ wsX30, w ∈ wsX3_turnsLength := my_in _ [19, 20, 21, 22, 23, 24, 25, 26, 27, 28, 29, 30, 31, 32, 33, 34, 35, 36, 37] (by decide +kernel)
theorem q_X3_turnsLength_2 : Cond.fieldLink RX3 136 "TwistedRowModel" "used" "I" ∈ wsX3_turnsLength := List.mem_of_getElem? (i := 2) rfl
theorem q_X3_turnsLength_3 : Cond.fieldLink RX3 131 "TwistedRowModel" "digits" "I" ∈ wsX3_turnsLength := List.mem_of_getElem? (i := 3) rfl
theorem q_X3_turnsLength_4 : Cond.fieldLink RX3 122 "TwistedRowModel" "length" "I" ∈ wsX3_turnsLength := List.mem_of_getElem? (i := 4) rfl
theorem q_X3_turnsLength_5 : Cond.fieldLink RX3 20 "TwistedRowModel" "buffer" "[I" ∈ wsX3_turnsLength := List.mem_of_getElem? (i := 5) rfl
def lp_X3_turnsLength_17 (c_bu : Nat → Int32) (c_le : Int32) (c_n : Int32) (c_tu : Int32) (K44 : Int32 → Int32 → Int32 → Int32 → Prop) : Nat → Int32 → Int32 → Int32 → Int32 → Prop
  | 0, _, _, _, _ => False
  | N + 1, v_1, c_re, c_us, c_di => ((c_le ≤ v_1 → (K44 v_1 c_re c_us c_di)) ∧ (¬ c_le ≤ v_1 → (vp_in v_1 60 ∧ (wp_X3_takes c_n c_tu c_re c_us c_di (c_bu (v_1 : Int32).toNatClampNeg) (fun r_4 u_3 => ((r_4 = 0 → (K44 v_1 u_3.1 u_3.2.1 u_3.2.2)) ∧ (¬ r_4 = 0 → (lp_X3_turnsLength_17 c_bu c_le c_n c_tu K44 N (v_1 + 1) u_3.1 u_3.2.1 u_3.2.2))))))))
set_option maxHeartbeats 4000000 in
set_option maxRecDepth 100000 in
theorem l_X3_turnsLength_17 {p : Program} {l : Launch} {e : Env} {s : State} {m : MethodId} {args : Array Value} {below : List Frame} {meth : Method} {c : Code} {A : Nat → Prop} {D : va_G} {cy : Nat → ClassId} {Q : State → Prop} {a_this : Nat} {a_ro : Nat} {a_fr : Nat} {a_bu : Nat} {a_no : Nat} {a_te : Nat} {a_fa : Nat} {a_li : Nat} {a_wy : Nat} {a_su : Nat} {c_th : Int32} {c_n : Int32} {c_tu : Int32} {c_al : Int32} {c_le : Int32} {c_wa : Int32} {c_ha : Int64} {c_bu : Nat → Int32} {K44 : Int32 → Int32 → Int32 → Int32 → Prop} (C0 : Cx p s m args c cX3_turnsLength yX3_turnsLength.cls 2 wsX3_turnsLength D cy A)
    (k44 : ∀ (v_1 : Int32) (c_re : Int32) (c_us : Int32) (c_di : Int32) (H : Heap) (locs : List Loc) (ls : Array Slot), K44 v_1 c_re c_us c_di → va_P D vwCl ([(a_this, .inr (3, [.int c_th, .int c_n, .int c_tu, .int c_al, .ref a_ro, .ref a_fr, .int c_le, .ref a_bu, .ref a_no, .ref a_te, .ref a_fa, .ref a_li, .int c_wa, .int c_re, .int c_us, .int c_di, .ref a_wy, .ref a_su, .long c_ha])), (a_bu, .inl (cy 0, 60, .inl c_bu))]) H → va_D A ([(a_this, .inr (3, [.int c_th, .int c_n, .int c_tu, .int c_al, .ref a_ro, .ref a_fr, .int c_le, .ref a_bu, .ref a_no, .ref a_te, .ref a_fa, .ref a_li, .int c_wa, .int c_re, .int c_us, .int c_di, .ref a_wy, .ref a_su, .long c_ha])), (a_bu, .inl (cy 0, 60, .inl c_bu))]) → va_S A s.heap H locs → lv_has ls 2 [(1, .int v_1)] → W p l e (({ frames := 2, cells := 0, slots := 0, locals := 44 } : Room)) s m args below meth c H locs 0 0 Q (F0 m 44 ls [])) :
    ∀ (N : Nat) (v_1 : Int32) (c_re : Int32) (c_us : Int32) (c_di : Int32) (H : Heap) (locs : List Loc) (ls : Array Slot), lp_X3_turnsLength_17 c_bu c_le c_n c_tu K44 N v_1 c_re c_us c_di → va_P D vwCl ([(a_this, .inr (3, [.int c_th, .int c_n, .int c_tu, .int c_al, .ref a_ro, .ref a_fr, .int c_le, .ref a_bu, .ref a_no, .ref a_te, .ref a_fa, .ref a_li, .int c_wa, .int c_re, .int c_us, .int c_di, .ref a_wy, .ref a_su, .long c_ha])), (a_bu, .inl (cy 0, 60, .inl c_bu))]) H → va_D A ([(a_this, .inr (3, [.int c_th, .int c_n, .int c_tu, .int c_al, .ref a_ro, .ref a_fr, .int c_le, .ref a_bu, .ref a_no, .ref a_te, .ref a_fa, .ref a_li, .int c_wa, .int c_re, .int c_us, .int c_di, .ref a_wy, .ref a_su, .long c_ha])), (a_bu, .inl (cy 0, 60, .inl c_bu))]) → va_S A s.heap H locs → lv_has ls 2 [(0, .ref a_this), (1, .int v_1)] → W p l e (({ frames := 2, cells := 0, slots := 0, locals := 44 } : Room)) s m args below meth c H locs 0 0 Q (F0 m 17 ls []) := by
  obtain ⟨hx, hb, hml, hown, hts, hK, hA⟩ := id C0
  intro N
  induction N with
  | zero =>
    intro v_1 c_re c_us c_di H locs ls hw
    exact False.elim hw
  | succ N ih =>
    intro v_1 c_re c_us c_di H locs ls hw hP hD hS hl
    rw [lp_X3_turnsLength_17] at hw
    refine lv_iload_n hx hb dX3_turnsLength_17 rfl (lv_at hl 1 rfl) ?_
    refine lv_aload_n hx hb dX3_turnsLength_18 rfl (lv_at hl 0 rfl) ?_
    refine va_get (D := D) (ci := 3) (v := .int c_le) (C := RX3) (T := TX3) (N := 19) hx hb hts k_X3_turnsLength_X3 hown hK hP 0 rfl rfl 6 (by decide) (hts _ q_X3_turnsLength_4) (fun _ h9 => h9) rfl dX3_turnsLength_19 ?_
    refine lv_icmp_ge (tgt := 44) hx hb dX3_turnsLength_22 (by decide) (fun c_1 => ?_) (fun c_1 => ?_)
    · replace hw := hw.1 c_1
      exact k44 _ _ _ _ _ _ _ hw hP hD hS (lv_sub hl [1] rfl)
    · replace hw := hw.2 c_1
      refine lv_aload_n hx hb dX3_turnsLength_25 rfl (lv_at hl 0 rfl) ?_
      refine lv_aload_n hx hb dX3_turnsLength_26 rfl (lv_at hl 0 rfl) ?_
      refine va_get (D := D) (ci := 3) (v := .ref a_bu) (C := RX3) (T := TX3) (N := 19) hx hb hts k_X3_turnsLength_X3 hown hK hP 0 rfl rfl 7 (by decide) (hts _ q_X3_turnsLength_5) (fun _ h9 => h9) rfl dX3_turnsLength_27 ?_
      refine lv_iload_n hx hb dX3_turnsLength_30 rfl (lv_at hl 1 rfl) ?_
      obtain ⟨h_2, hw⟩ := hw
      refine va_iald hx hb hK hP 1 0 rfl rfl h_2 dX3_turnsLength_31 ?_
      refine j_calli (wr := [(a_bu, .inl (cy 0, 60, .inl c_bu))]) (va_runV (As := [.int (c_bu (v_1 : Int32).toNatClampNeg)]) (rest := []) ⟨hx, hb, hml, hown, hts⟩ (c_X3_takes l D cy a_this a_ro a_fr a_bu a_no a_te a_fa a_li a_wy a_su c_th c_n c_tu c_al c_le c_wa c_re c_us c_di c_ha (c_bu (v_1 : Int32).toNatClampNeg) hw H.size) (cwV 1 hts gX3_turnsLength_X3_takes rfl rfl rfl (by decide +kernel) ⟨Nat.le_of_ble_eq_true rfl, Nat.le_of_ble_eq_true rfl⟩) (j_preV hK hP hD (isC := [0]) rfl (by decide +kernel) (ci := 3) (q0 := 0) rfl rfl) rfl rfl hl.1 rfl (lv_room (Nat.le_of_ble_eq_true rfl)) dX3_turnsLength_32 ⟨Nat.le_of_ble_eq_true rfl, Nat.le_of_ble_eq_true rfl⟩) hP hD hS hA [0] [1] rfl rfl (by decide +kernel) (by decide +kernel) (fun u_3 => [(a_this, .inr (3, [.int c_th, .int c_n, .int c_tu, .int c_al, .ref a_ro, .ref a_fr, .int c_le, .ref a_bu, .ref a_no, .ref a_te, .ref a_fa, .ref a_li, .int c_wa, .int u_3.1, .int u_3.2.1, .int u_3.2.2, .ref a_wy, .ref a_su, .long c_ha])), (a_bu, .inl (cy 0, 60, .inl c_bu))]) [1, 0] (by decide +kernel) (fun u => rfl) (fun r_4 u_3 H locs hw hP hD hS => ?_)
      have hP : va_P D vwCl ([(a_this, .inr (3, [.int c_th, .int c_n, .int c_tu, .int c_al, .ref a_ro, .ref a_fr, .int c_le, .ref a_bu, .ref a_no, .ref a_te, .ref a_fa, .ref a_li, .int c_wa, .int u_3.1, .int u_3.2.1, .int u_3.2.2, .ref a_wy, .ref a_su, .long c_ha])), (a_bu, .inl (cy 0, 60, .inl c_bu))]) H := hP
      have hD : va_D A ([(a_this, .inr (3, [.int c_th, .int c_n, .int c_tu, .int c_al, .ref a_ro, .ref a_fr, .int c_le, .ref a_bu, .ref a_no, .ref a_te, .ref a_fa, .ref a_li, .int c_wa, .int u_3.1, .int u_3.2.1, .int u_3.2.2, .ref a_wy, .ref a_su, .long c_ha])), (a_bu, .inl (cy 0, 60, .inl c_bu))]) := hD
      refine lv_if_eq (tgt := 44) hx hb dX3_turnsLength_35 (by decide) (fun c_5 => ?_) (fun c_5 => ?_)
      · replace hw := hw.1 c_5
        exact k44 _ _ _ _ _ _ _ hw hP hD hS (lv_sub hl [1] rfl)
      · replace hw := hw.2 c_5
        refine lv_iinc (v := v_1 + 1) (lv' := [(1, .int (v_1 + 1)), (0, .ref a_this)]) hx hb dX3_turnsLength_38 hl (k := 1) rfl rfl (by decide) rfl (fun ls hl => ?_)
        refine lv_goto (tgt := 17) hx hb dX3_turnsLength_41 (by decide) ?_
        exact ih _ _ _ _ _ _ _ hw hP hD hS (lv_sub hl [1, 0] rfl)
def wp_X3_turnsLength (c_n : Int32) (c_tu : Int32) (c_le : Int32) (c_bu : Nat → Int32) (post : Int32 → (Int32 × Int32 × Int32) → Prop) : Prop := (∃ N_6 : Nat, lp_X3_turnsLength_17 c_bu c_le c_n c_tu (fun (v_7 : Int32) (c_8 : Int32) (c_9 : Int32) (c_10 : Int32) => (post v_7 (c_8, c_9, c_10))) N_6 0 (0 : Int32) (0 : Int32) (0 : Int32))
set_option maxHeartbeats 4000000 in
set_option maxRecDepth 100000 in
theorem c_X3_turnsLength (l : Launch) (D : va_G) (cy : Nat → ClassId) (a_this : Nat) (a_ro : Nat) (a_fr : Nat) (a_bu : Nat) (a_no : Nat) (a_te : Nat) (a_fa : Nat) (a_li : Nat) (a_wy : Nat) (a_su : Nat) (c_th : Int32) (c_n : Int32) (c_tu : Int32) (c_al : Int32) (c_le : Int32) (c_wa : Int32) (c_re : Int32) (c_us : Int32) (c_di : Int32) (c_ha : Int64) (c_bu : Nat → Int32) {post : Int32 → (Int32 × Int32 × Int32) → Prop} (hw : wp_X3_turnsLength c_n c_tu c_le c_bu post) (sz : Nat) : Met l yX3_turnsLength wsX3_turnsLength ({ frames := 2, cells := 0, slots := 0, locals := 44 }) (va_Pc [.ref a_this] (PreW D cy ([(a_this, .inr (3, [.int c_th, .int c_n, .int c_tu, .int c_al, .ref a_ro, .ref a_fr, .int c_le, .ref a_bu, .ref a_no, .ref a_te, .ref a_fa, .ref a_li, .int c_wa, .int c_re, .int c_us, .int c_di, .ref a_wy, .ref a_su, .long c_ha])), (a_bu, .inl (cy 0, 60, .inl c_bu))]) sz)) (va_Qi post (fun u t => PostW D cy (va_A ([(a_this, .inr (3, [.int c_th, .int c_n, .int c_tu, .int c_al, .ref a_ro, .ref a_fr, .int c_le, .ref a_bu, .ref a_no, .ref a_te, .ref a_fa, .ref a_li, .int c_wa, .int c_re, .int c_us, .int c_di, .ref a_wy, .ref a_su, .long c_ha])), (a_bu, .inl (cy 0, 60, .inl c_bu))]) sz) ([(a_this, .inr (3, [.int c_th, .int c_n, .int c_tu, .int c_al, .ref a_ro, .ref a_fr, .int c_le, .ref a_bu, .ref a_no, .ref a_te, .ref a_fa, .ref a_li, .int c_wa, .int u.1, .int u.2.1, .int u.2.2, .ref a_wy, .ref a_su, .long c_ha])), (a_bu, .inl (cy 0, 60, .inl c_bu))]) t) (va_A ([(a_this, .inr (3, [.int c_th, .int c_n, .int c_tu, .int c_al, .ref a_ro, .ref a_fr, .int c_le, .ref a_bu, .ref a_no, .ref a_te, .ref a_fa, .ref a_li, .int c_wa, .int c_re, .int c_us, .int c_di, .ref a_wy, .ref a_su, .long c_ha])), (a_bu, .inl (cy 0, 60, .inl c_bu))]) sz)) 0 0 (va_A ([(a_this, .inr (3, [.int c_th, .int c_n, .int c_tu, .int c_al, .ref a_ro, .ref a_fr, .int c_le, .ref a_bu, .ref a_no, .ref a_te, .ref a_fa, .ref a_li, .int c_wa, .int c_re, .int c_us, .int c_di, .ref a_wy, .ref a_su, .long c_ha])), (a_bu, .inl (cy 0, 60, .inl c_bu))]) sz) := by
  refine j_met (Qc := fun A => va_Qi post (fun u t => PostW D cy A ([(a_this, .inr (3, [.int c_th, .int c_n, .int c_tu, .int c_al, .ref a_ro, .ref a_fr, .int c_le, .ref a_bu, .ref a_no, .ref a_te, .ref a_fa, .ref a_li, .int c_wa, .int u.1, .int u.2.1, .int u.2.2, .ref a_wy, .ref a_su, .long c_ha])), (a_bu, .inl (cy 0, 60, .inl c_bu))]) t) A) (by decide +kernel) rfl (Nat.le_of_ble_eq_true rfl) ?_
  intro p e s m below meth c A ls C0 hr hlocks hP hD hS hl
  obtain ⟨hx, hb, hml, hown, hts, hK, hA⟩ := id C0
  have hown : s.vm.findClass RX3 = some m.cls := hown
  have hl : lv_has ls 2 [(0, .ref a_this)] := hl
  unfold wp_X3_turnsLength at hw
  refine lv_aload_n hx hb dX3_turnsLength_0 rfl (lv_at hl 0 rfl) ?_
  refine lv_iconst (v := 0) hx hb dX3_turnsLength_1 (by decide) ?_
  refine va_put (D := D) (ci := 3) (v := .int 0) (ty := .int) (C := RX3) (T := TX3) (N := 19) hx hb hts k_X3_turnsLength_X3 tyX3 tyX3_ok nmX3 hown hK hP hD hS 0 rfl rfl 13 (by decide) (hts _ q_X3_turnsLength_1) (fun _ h9 => h9) rfl (by decide +kernel) rfl rfl (Nat.le_of_ble_eq_true rfl) dX3_turnsLength_2 (fun H locs hP hD hS => ?_)
  have hP : va_P D vwCl ([(a_this, .inr (3, [.int c_th, .int c_n, .int c_tu, .int c_al, .ref a_ro, .ref a_fr, .int c_le, .ref a_bu, .ref a_no, .ref a_te, .ref a_fa, .ref a_li, .int c_wa, .int (0 : Int32), .int c_us, .int c_di, .ref a_wy, .ref a_su, .long c_ha])), (a_bu, .inl (cy 0, 60, .inl c_bu))]) H := hP
  have hD : va_D A ([(a_this, .inr (3, [.int c_th, .int c_n, .int c_tu, .int c_al, .ref a_ro, .ref a_fr, .int c_le, .ref a_bu, .ref a_no, .ref a_te, .ref a_fa, .ref a_li, .int c_wa, .int (0 : Int32), .int c_us, .int c_di, .ref a_wy, .ref a_su, .long c_ha])), (a_bu, .inl (cy 0, 60, .inl c_bu))]) := hD
  refine lv_aload_n hx hb dX3_turnsLength_5 rfl (lv_at hl 0 rfl) ?_
  refine lv_iconst (v := 0) hx hb dX3_turnsLength_6 (by decide) ?_
  refine va_put (D := D) (ci := 3) (v := .int 0) (ty := .int) (C := RX3) (T := TX3) (N := 19) hx hb hts k_X3_turnsLength_X3 tyX3 tyX3_ok nmX3 hown hK hP hD hS 0 rfl rfl 14 (by decide) (hts _ q_X3_turnsLength_2) (fun _ h9 => h9) rfl (by decide +kernel) rfl rfl (Nat.le_of_ble_eq_true rfl) dX3_turnsLength_7 (fun H locs hP hD hS => ?_)
  have hP : va_P D vwCl ([(a_this, .inr (3, [.int c_th, .int c_n, .int c_tu, .int c_al, .ref a_ro, .ref a_fr, .int c_le, .ref a_bu, .ref a_no, .ref a_te, .ref a_fa, .ref a_li, .int c_wa, .int (0 : Int32), .int (0 : Int32), .int c_di, .ref a_wy, .ref a_su, .long c_ha])), (a_bu, .inl (cy 0, 60, .inl c_bu))]) H := hP
  have hD : va_D A ([(a_this, .inr (3, [.int c_th, .int c_n, .int c_tu, .int c_al, .ref a_ro, .ref a_fr, .int c_le, .ref a_bu, .ref a_no, .ref a_te, .ref a_fa, .ref a_li, .int c_wa, .int (0 : Int32), .int (0 : Int32), .int c_di, .ref a_wy, .ref a_su, .long c_ha])), (a_bu, .inl (cy 0, 60, .inl c_bu))]) := hD
  refine lv_aload_n hx hb dX3_turnsLength_10 rfl (lv_at hl 0 rfl) ?_
  refine lv_iconst (v := 0) hx hb dX3_turnsLength_11 (by decide) ?_
  refine va_put (D := D) (ci := 3) (v := .int 0) (ty := .int) (C := RX3) (T := TX3) (N := 19) hx hb hts k_X3_turnsLength_X3 tyX3 tyX3_ok nmX3 hown hK hP hD hS 0 rfl rfl 15 (by decide) (hts _ q_X3_turnsLength_3) (fun _ h9 => h9) rfl (by decide +kernel) rfl rfl (Nat.le_of_ble_eq_true rfl) dX3_turnsLength_12 (fun H locs hP hD hS => ?_)
  have hP : va_P D vwCl ([(a_this, .inr (3, [.int c_th, .int c_n, .int c_tu, .int c_al, .ref a_ro, .ref a_fr, .int c_le, .ref a_bu, .ref a_no, .ref a_te, .ref a_fa, .ref a_li, .int c_wa, .int (0 : Int32), .int (0 : Int32), .int (0 : Int32), .ref a_wy, .ref a_su, .long c_ha])), (a_bu, .inl (cy 0, 60, .inl c_bu))]) H := hP
  have hD : va_D A ([(a_this, .inr (3, [.int c_th, .int c_n, .int c_tu, .int c_al, .ref a_ro, .ref a_fr, .int c_le, .ref a_bu, .ref a_no, .ref a_te, .ref a_fa, .ref a_li, .int c_wa, .int (0 : Int32), .int (0 : Int32), .int (0 : Int32), .ref a_wy, .ref a_su, .long c_ha])), (a_bu, .inl (cy 0, 60, .inl c_bu))]) := hD
  refine lv_iconst (v := 0) hx hb dX3_turnsLength_15 (by decide) ?_
  refine lv_istore_n (lv' := [(1, .int 0), (0, .ref a_this)]) hx hb dX3_turnsLength_16 rfl hl (by decide) rfl (fun ls hl => ?_)
  obtain ⟨N_6, hw⟩ := hw
  refine l_X3_turnsLength_17 C0 (fun v_7 c_8 c_9 c_10 H locs ls hw hP hD hS hl => ?_) _ _ _ _ _ _ _ _ hw hP hD hS (lv_sub hl [1, 0] rfl)
  refine lv_iload_n hx hb dX3_turnsLength_44 rfl (lv_at hl 0 rfl) ?_
  exact j_iret (fun u => [(a_this, .inr (3, [.int c_th, .int c_n, .int c_tu, .int c_al, .ref a_ro, .ref a_fr, .int c_le, .ref a_bu, .ref a_no, .ref a_te, .ref a_fa, .ref a_li, .int c_wa, .int u.1, .int u.2.1, .int u.2.2, .ref a_wy, .ref a_su, .long c_ha])), (a_bu, .inl (cy 0, 60, .inl c_bu))]) ((c_8, c_9, c_10) : Int32 × Int32 × Int32) hx hb hr hlocks hK hP hD hS hw dX3_turnsLength_45
theorem q_X3_firstError_1 : Cond.fieldLink RX3 46 "TwistedRowModel" "thrown" "I" ∈ wsX3_firstError := List.mem_of_getElem? (i := 1) rfl
theorem k_X3_firstError_X3 : ∀ w ∈ wsX30, w ∈ wsX3_firstError := my_in _ [36, 37, 38, 39, 40, 41, 42, 43, 44, 45, 46, 47, 48, 49, 50, 51, 52, 53, 54] (by decide +kernel)
def wp_X3_firstError (c_n : Int32) (c_tu : Int32) (c_le : Int32) (c_re : Int32) (c_us : Int32) (c_di : Int32) (c_bu : Nat → Int32) (p_1 : Int32) (post : Int32 → (Int32 × Int32 × Int32 × Int32) → Prop) : Prop := ((p_1 = 0 → (wp_X3_turnsLength c_n c_tu c_le c_bu (fun r_3 u_2 => (post r_3 ((0 : Int32), u_2.1, u_2.2.1, u_2.2.2))))) ∧ (¬ p_1 = 0 → (wp_X3_wordLength c_tu c_le c_bu (fun r_5 u_4 => (post r_5 ((0 : Int32), c_re, c_us, c_di))))))
set_option maxHeartbeats 4000000 in
set_option maxRecDepth 100000 in
theorem c_X3_firstError (l : Launch) (D : va_G) (cy : Nat → ClassId) (a_this : Nat) (a_ro : Nat) (a_fr : Nat) (a_bu : Nat) (a_no : Nat) (a_te : Nat) (a_fa : Nat) (a_li : Nat) (a_wy : Nat) (a_su : Nat) (c_th : Int32) (c_n : Int32) (c_tu : Int32) (c_al : Int32) (c_le : Int32) (c_wa : Int32) (c_re : Int32) (c_us : Int32) (c_di : Int32) (c_ha : Int64) (c_bu : Nat → Int32) (p_1 : Int32) {post : Int32 → (Int32 × Int32 × Int32 × Int32) → Prop} (hw : wp_X3_firstError c_n c_tu c_le c_re c_us c_di c_bu p_1 post) (sz : Nat) : Met l yX3_firstError wsX3_firstError ({ frames := 4, cells := 0, slots := 0, locals := 86 }) (va_Pc [.ref a_this, .int p_1] (PreW D cy ([(a_this, .inr (3, [.int c_th, .int c_n, .int c_tu, .int c_al, .ref a_ro, .ref a_fr, .int c_le, .ref a_bu, .ref a_no, .ref a_te, .ref a_fa, .ref a_li, .int c_wa, .int c_re, .int c_us, .int c_di, .ref a_wy, .ref a_su, .long c_ha])), (a_bu, .inl (cy 0, 60, .inl c_bu))]) sz)) (va_Qi post (fun u t => PostW D cy (va_A ([(a_this, .inr (3, [.int c_th, .int c_n, .int c_tu, .int c_al, .ref a_ro, .ref a_fr, .int c_le, .ref a_bu, .ref a_no, .ref a_te, .ref a_fa, .ref a_li, .int c_wa, .int c_re, .int c_us, .int c_di, .ref a_wy, .ref a_su, .long c_ha])), (a_bu, .inl (cy 0, 60, .inl c_bu))]) sz) ([(a_this, .inr (3, [.int u.1, .int c_n, .int c_tu, .int c_al, .ref a_ro, .ref a_fr, .int c_le, .ref a_bu, .ref a_no, .ref a_te, .ref a_fa, .ref a_li, .int c_wa, .int u.2.1, .int u.2.2.1, .int u.2.2.2, .ref a_wy, .ref a_su, .long c_ha])), (a_bu, .inl (cy 0, 60, .inl c_bu))]) t) (va_A ([(a_this, .inr (3, [.int c_th, .int c_n, .int c_tu, .int c_al, .ref a_ro, .ref a_fr, .int c_le, .ref a_bu, .ref a_no, .ref a_te, .ref a_fa, .ref a_li, .int c_wa, .int c_re, .int c_us, .int c_di, .ref a_wy, .ref a_su, .long c_ha])), (a_bu, .inl (cy 0, 60, .inl c_bu))]) sz)) 0 0 (va_A ([(a_this, .inr (3, [.int c_th, .int c_n, .int c_tu, .int c_al, .ref a_ro, .ref a_fr, .int c_le, .ref a_bu, .ref a_no, .ref a_te, .ref a_fa, .ref a_li, .int c_wa, .int c_re, .int c_us, .int c_di, .ref a_wy, .ref a_su, .long c_ha])), (a_bu, .inl (cy 0, 60, .inl c_bu))]) sz) := by
  refine j_met (Qc := fun A => va_Qi post (fun u t => PostW D cy A ([(a_this, .inr (3, [.int u.1, .int c_n, .int c_tu, .int c_al, .ref a_ro, .ref a_fr, .int c_le, .ref a_bu, .ref a_no, .ref a_te, .ref a_fa, .ref a_li, .int c_wa, .int u.2.1, .int u.2.2.1, .int u.2.2.2, .ref a_wy, .ref a_su, .long c_ha])), (a_bu, .inl (cy 0, 60, .inl c_bu))]) t) A) (by decide +kernel) rfl (Nat.le_of_ble_eq_true rfl) ?_
  intro p e s m below meth c A ls C0 hr hlocks hP hD hS hl
  obtain ⟨hx, hb, hml, hown, hts, hK, hA⟩ := id C0
  have hown : s.vm.findClass RX3 = some m.cls := hown
  have hl : lv_has ls 2 [(0, .ref a_this), (1, .int p_1)] := hl
  unfold wp_X3_firstError at hw
  refine lv_aload_n hx hb dX3_firstError_0 rfl (lv_at hl 0 rfl) ?_
  refine lv_iconst (v := 0) hx hb dX3_firstError_1 (by decide) ?_
  refine va_put (D := D) (ci := 3) (v := .int 0) (ty := .int) (C := RX3) (T := TX3) (N := 19) hx hb hts k_X3_firstError_X3 tyX3 tyX3_ok nmX3 hown hK hP hD hS 0 rfl rfl 0 (by decide) (hts _ q_X3_firstError_1) (fun _ h9 => h9) rfl (by decide +kernel) rfl rfl (Nat.le_of_ble_eq_true rfl) dX3_firstError_2 (fun H locs hP hD hS => ?_)
  have hP : va_P D vwCl ([(a_this, .inr (3, [.int (0 : Int32), .int c_n, .int c_tu, .int c_al, .ref a_ro, .ref a_fr, .int c_le, .ref a_bu, .ref a_no, .ref a_te, .ref a_fa, .ref a_li, .int c_wa, .int c_re, .int c_us, .int c_di, .ref a_wy, .ref a_su, .long c_ha])), (a_bu, .inl (cy 0, 60, .inl c_bu))]) H := hP
  have hD : va_D A ([(a_this, .inr (3, [.int (0 : Int32), .int c_n, .int c_tu, .int c_al, .ref a_ro, .ref a_fr, .int c_le, .ref a_bu, .ref a_no, .ref a_te, .ref a_fa, .ref a_li, .int c_wa, .int c_re, .int c_us, .int c_di, .ref a_wy, .ref a_su, .long c_ha])), (a_bu, .inl (cy 0, 60, .inl c_bu))]) := hD
  refine lv_iload_n hx hb dX3_firstError_5 rfl (lv_at hl 1 rfl) ?_
  refine lv_if_eq (tgt := 16) hx hb dX3_firstError_6 (by decide) (fun c_1 => ?_) (fun c_1 => ?_)
  · replace hw := hw.1 c_1
    refine lv_aload_n hx hb dX3_firstError_16 rfl (lv_at hl 0 rfl) ?_
    refine j_calli (wr := []) (va_runV (As := []) (rest := []) ⟨hx, hb, hml, hown, hts⟩ (c_X3_turnsLength l D cy a_this a_ro a_fr a_bu a_no a_te a_fa a_li a_wy a_su (0 : Int32) c_n c_tu c_al c_le c_wa c_re c_us c_di c_ha c_bu hw H.size) (cwV 0 hts gX3_firstError_X3_turnsLength rfl rfl rfl (by decide +kernel) ⟨Nat.le_of_ble_eq_true rfl, Nat.le_of_ble_eq_true rfl⟩) (j_preV hK hP hD (isC := [0, 1]) rfl (by decide +kernel) (ci := 3) (q0 := 0) rfl rfl) rfl rfl hl.1 rfl (lv_room (Nat.le_of_ble_eq_true rfl)) dX3_firstError_17 ⟨Nat.le_of_ble_eq_true rfl, Nat.le_of_ble_eq_true rfl⟩) hP hD hS hA [0, 1] [] rfl rfl (by decide +kernel) (by decide +kernel) (fun u_2 => [(a_this, .inr (3, [.int (0 : Int32), .int c_n, .int c_tu, .int c_al, .ref a_ro, .ref a_fr, .int c_le, .ref a_bu, .ref a_no, .ref a_te, .ref a_fa, .ref a_li, .int c_wa, .int u_2.1, .int u_2.2.1, .int u_2.2.2, .ref a_wy, .ref a_su, .long c_ha])), (a_bu, .inl (cy 0, 60, .inl c_bu))]) [0, 1] (by decide +kernel) (fun u => rfl) (fun r_3 u_2 H locs hw hP hD hS => ?_)
    have hP : va_P D vwCl ([(a_this, .inr (3, [.int (0 : Int32), .int c_n, .int c_tu, .int c_al, .ref a_ro, .ref a_fr, .int c_le, .ref a_bu, .ref a_no, .ref a_te, .ref a_fa, .ref a_li, .int c_wa, .int u_2.1, .int u_2.2.1, .int u_2.2.2, .ref a_wy, .ref a_su, .long c_ha])), (a_bu, .inl (cy 0, 60, .inl c_bu))]) H := hP
    have hD : va_D A ([(a_this, .inr (3, [.int (0 : Int32), .int c_n, .int c_tu, .int c_al, .ref a_ro, .ref a_fr, .int c_le, .ref a_bu, .ref a_no, .ref a_te, .ref a_fa, .ref a_li, .int c_wa, .int u_2.1, .int u_2.2.1, .int u_2.2.2, .ref a_wy, .ref a_su, .long c_ha])), (a_bu, .inl (cy 0, 60, .inl c_bu))]) := hD
    exact j_iret (fun u => [(a_this, .inr (3, [.int u.1, .int c_n, .int c_tu, .int c_al, .ref a_ro, .ref a_fr, .int c_le, .ref a_bu, .ref a_no, .ref a_te, .ref a_fa, .ref a_li, .int c_wa, .int u.2.1, .int u.2.2.1, .int u.2.2.2, .ref a_wy, .ref a_su, .long c_ha])), (a_bu, .inl (cy 0, 60, .inl c_bu))]) (((0 : Int32), u_2.1, u_2.2.1, u_2.2.2) : Int32 × Int32 × Int32 × Int32) hx hb hr hlocks hK hP hD hS hw dX3_firstError_20
  · replace hw := hw.2 c_1
    refine lv_aload_n hx hb dX3_firstError_9 rfl (lv_at hl 0 rfl) ?_
    refine j_calli (wr := []) (va_runV (As := []) (rest := []) ⟨hx, hb, hml, hown, hts⟩ (c_X3_wordLength l D cy a_this a_ro a_fr a_bu a_no a_te a_fa a_li a_wy a_su (0 : Int32) c_n c_tu c_al c_le c_wa c_re c_us c_di c_ha c_bu hw H.size) (cwV 0 hts gX3_firstError_X3_wordLength rfl rfl rfl (by decide +kernel) ⟨Nat.le_of_ble_eq_true rfl, Nat.le_of_ble_eq_true rfl⟩) (j_preV hK hP hD (isC := [0, 1]) rfl (by decide +kernel) (ci := 3) (q0 := 0) rfl rfl) rfl rfl hl.1 rfl (lv_room (Nat.le_of_ble_eq_true rfl)) dX3_firstError_10 ⟨Nat.le_of_ble_eq_true rfl, Nat.le_of_ble_eq_true rfl⟩) hP hD hS hA [0, 1] [] rfl rfl (by decide +kernel) (by decide +kernel) (fun u_4 => [(a_this, .inr (3, [.int (0 : Int32), .int c_n, .int c_tu, .int c_al, .ref a_ro, .ref a_fr, .int c_le, .ref a_bu, .ref a_no, .ref a_te, .ref a_fa, .ref a_li, .int c_wa, .int c_re, .int c_us, .int c_di, .ref a_wy, .ref a_su, .long c_ha])), (a_bu, .inl (cy 0, 60, .inl c_bu))]) [0, 1] (by decide +kernel) (fun u => rfl) (fun r_5 u_4 H locs hw hP hD hS => ?_)
    have hP : va_P D vwCl ([(a_this, .inr (3, [.int (0 : Int32), .int c_n, .int c_tu, .int c_al, .ref a_ro, .ref a_fr, .int c_le, .ref a_bu, .ref a_no, .ref a_te, .ref a_fa, .ref a_li, .int c_wa, .int c_re, .int c_us, .int c_di, .ref a_wy, .ref a_su, .long c_ha])), (a_bu, .inl (cy 0, 60, .inl c_bu))]) H := hP
    have hD : va_D A ([(a_this, .inr (3, [.int (0 : Int32), .int c_n, .int c_tu, .int c_al, .ref a_ro, .ref a_fr, .int c_le, .ref a_bu, .ref a_no, .ref a_te, .ref a_fa, .ref a_li, .int c_wa, .int c_re, .int c_us, .int c_di, .ref a_wy, .ref a_su, .long c_ha])), (a_bu, .inl (cy 0, 60, .inl c_bu))]) := hD
    refine lv_goto (tgt := 20) hx hb dX3_firstError_13 (by decide) ?_
    exact j_iret (fun u => [(a_this, .inr (3, [.int u.1, .int c_n, .int c_tu, .int c_al, .ref a_ro, .ref a_fr, .int c_le, .ref a_bu, .ref a_no, .ref a_te, .ref a_fa, .ref a_li, .int c_wa, .int u.2.1, .int u.2.2.1, .int u.2.2.2, .ref a_wy, .ref a_su, .long c_ha])), (a_bu, .inl (cy 0, 60, .inl c_bu))]) (((0 : Int32), c_re, c_us, c_di) : Int32 × Int32 × Int32 × Int32) hx hb hr hlocks hK hP hD hS hw dX3_firstError_20
theorem q_X3_load_1 : Cond.fieldLink RX3 122 "TwistedRowModel" "length" "I" ∈ wsX3_load := List.mem_of_getElem? (i := 1) rfl
theorem k_X3_load_X3 : ∀ w ∈ wsX30, w ∈ wsX3_load := my_in _ [31, 32, 33, 34, 35, 36, 37, 38, 39, 40, 41, 42, 43, 44, 45, 46, 47, 48, 49] (by decide +kernel)
theorem q_X3_load_4 : Cond.fieldLink RX3 46 "TwistedRowModel" "thrown" "I" ∈ wsX3_load := List.mem_of_getElem? (i := 4) rfl
theorem q_X3_load_5 : Cond.fieldLink RX3 134 "TwistedRowModel" "read" "I" ∈ wsX3_load := List.mem_of_getElem? (i := 5) rfl
theorem q_X3_load_3 : Cond.fieldLink RX3 7 "TwistedRowModel" "n" "I" ∈ wsX3_load := List.mem_of_getElem? (i := 3) rfl
theorem q_X3_load_6 : Cond.fieldLink RX3 23 "TwistedRowModel" "now" "[I" ∈ wsX3_load := List.mem_of_getElem? (i := 6) rfl
theorem q_X3_load_7 : Cond.fieldLink RX3 20 "TwistedRowModel" "buffer" "[I" ∈ wsX3_load := List.mem_of_getElem? (i := 7) rfl
theorem q_X3_load_8 : Cond.fieldLink RX3 53 "TwistedRowModel" "turns" "I" ∈ wsX3_load := List.mem_of_getElem? (i := 8) rfl
theorem q_X3_load_2 : Cond.fieldLink RX3 131 "TwistedRowModel" "digits" "I" ∈ wsX3_load := List.mem_of_getElem? (i := 2) rfl
def lp_X3_load_54 (c_bu : Nat → Int32) (c_n : Int32) (v_2 : Int32) (K92 : Int32 → (Nat → Int32) → Prop) : Nat → Int32 → (Nat → Int32) → Prop
  | 0, _, _ => False
  | N + 1, v_3, c_no => ((c_n ≤ v_3 → (K92 v_3 c_no)) ∧ (¬ c_n ≤ v_3 → (vp_in (((c_n + 1) * v_2) + v_3) 60 ∧ (vp_in v_3 8 ∧ (lp_X3_load_54 c_bu c_n v_2 K92 N (v_3 + 1) (upd c_no ((v_3 : Int32).toNatClampNeg) ((c_bu (((c_n + 1) * v_2) + v_3 : Int32).toNatClampNeg) - 48)))))))
set_option maxHeartbeats 4000000 in
set_option maxRecDepth 100000 in
theorem l_X3_load_54 {p : Program} {l : Launch} {e : Env} {s : State} {m : MethodId} {args : Array Value} {below : List Frame} {meth : Method} {c : Code} {A : Nat → Prop} {D : va_G} {cy : Nat → ClassId} {Q : State → Prop} {a_this : Nat} {a_ro : Nat} {a_fr : Nat} {a_bu : Nat} {a_no : Nat} {a_te : Nat} {a_fa : Nat} {a_li : Nat} {a_wy : Nat} {a_su : Nat} {c_th : Int32} {c_n : Int32} {c_tu : Int32} {c_al : Int32} {c_le : Int32} {c_wa : Int32} {c_re : Int32} {c_us : Int32} {c_di : Int32} {c_ha : Int64} {c_fr : Nat → Int32} {c_bu : Nat → Int32} {v_1 : Int32} {v_2 : Int32} {K92 : Int32 → (Nat → Int32) → Prop} (C0 : Cx p s m args c cX3_load yX3_load.cls 4 wsX3_load D cy A)
    (k92 : ∀ (v_3 : Int32) (c_no : Nat → Int32) (H : Heap) (locs : List Loc) (ls : Array Slot), K92 v_3 c_no → va_P D vwCl ([(a_this, .inr (3, [.int c_th, .int c_n, .int c_tu, .int c_al, .ref a_ro, .ref a_fr, .int c_le, .ref a_bu, .ref a_no, .ref a_te, .ref a_fa, .ref a_li, .int c_wa, .int c_re, .int c_us, .int c_di, .ref a_wy, .ref a_su, .long c_ha])), (a_fr, .inl (cy 0, 96, .inl c_fr)), (a_bu, .inl (cy 0, 60, .inl c_bu)), (a_no, .inl (cy 0, 8, .inl c_no))]) H → va_D A ([(a_this, .inr (3, [.int c_th, .int c_n, .int c_tu, .int c_al, .ref a_ro, .ref a_fr, .int c_le, .ref a_bu, .ref a_no, .ref a_te, .ref a_fa, .ref a_li, .int c_wa, .int c_re, .int c_us, .int c_di, .ref a_wy, .ref a_su, .long c_ha])), (a_fr, .inl (cy 0, 96, .inl c_fr)), (a_bu, .inl (cy 0, 60, .inl c_bu)), (a_no, .inl (cy 0, 8, .inl c_no))]) → va_S A s.heap H locs → lv_has ls 4 [(0, .ref a_this), (1, .int v_1), (2, .int v_2)] → W p l e (({ frames := 3, cells := 0, slots := 0, locals := 65 } : Room)) s m args below meth c H locs 0 0 Q (F0 m 92 ls [])) :
    ∀ (N : Nat) (v_3 : Int32) (c_no : Nat → Int32) (H : Heap) (locs : List Loc) (ls : Array Slot), lp_X3_load_54 c_bu c_n v_2 K92 N v_3 c_no → va_P D vwCl ([(a_this, .inr (3, [.int c_th, .int c_n, .int c_tu, .int c_al, .ref a_ro, .ref a_fr, .int c_le, .ref a_bu, .ref a_no, .ref a_te, .ref a_fa, .ref a_li, .int c_wa, .int c_re, .int c_us, .int c_di, .ref a_wy, .ref a_su, .long c_ha])), (a_fr, .inl (cy 0, 96, .inl c_fr)), (a_bu, .inl (cy 0, 60, .inl c_bu)), (a_no, .inl (cy 0, 8, .inl c_no))]) H → va_D A ([(a_this, .inr (3, [.int c_th, .int c_n, .int c_tu, .int c_al, .ref a_ro, .ref a_fr, .int c_le, .ref a_bu, .ref a_no, .ref a_te, .ref a_fa, .ref a_li, .int c_wa, .int c_re, .int c_us, .int c_di, .ref a_wy, .ref a_su, .long c_ha])), (a_fr, .inl (cy 0, 96, .inl c_fr)), (a_bu, .inl (cy 0, 60, .inl c_bu)), (a_no, .inl (cy 0, 8, .inl c_no))]) → va_S A s.heap H locs → lv_has ls 4 [(0, .ref a_this), (1, .int v_1), (2, .int v_2), (3, .int v_3)] → W p l e (({ frames := 3, cells := 0, slots := 0, locals := 65 } : Room)) s m args below meth c H locs 0 0 Q (F0 m 54 ls []) := by
  obtain ⟨hx, hb, hml, hown, hts, hK, hA⟩ := id C0
  intro N
  induction N with
  | zero =>
    intro v_3 c_no H locs ls hw
    exact False.elim hw
  | succ N ih =>
    intro v_3 c_no H locs ls hw hP hD hS hl
    rw [lp_X3_load_54] at hw
    refine lv_iload_n hx hb dX3_load_54 rfl (lv_at hl 3 rfl) ?_
    refine lv_aload_n hx hb dX3_load_55 rfl (lv_at hl 0 rfl) ?_
    refine va_get (D := D) (ci := 3) (v := .int c_n) (C := RX3) (T := TX3) (N := 19) hx hb hts k_X3_load_X3 hown hK hP 0 rfl rfl 1 (by decide) (hts _ q_X3_load_3) (fun _ h9 => h9) rfl dX3_load_56 ?_
    refine lv_icmp_ge (tgt := 92) hx hb dX3_load_59 (by decide) (fun c_6 => ?_) (fun c_6 => ?_)
    · replace hw := hw.1 c_6
      exact k92 _ _ _ _ _ hw hP hD hS (lv_sub hl [0, 1, 2] rfl)
    · replace hw := hw.2 c_6
      refine lv_aload_n hx hb dX3_load_62 rfl (lv_at hl 0 rfl) ?_
      refine va_get (D := D) (ci := 3) (v := .ref a_no) (C := RX3) (T := TX3) (N := 19) hx hb hts k_X3_load_X3 hown hK hP 0 rfl rfl 8 (by decide) (hts _ q_X3_load_6) (fun _ h9 => h9) rfl dX3_load_63 ?_
      refine lv_iload_n hx hb dX3_load_66 rfl (lv_at hl 3 rfl) ?_
      refine lv_aload_n hx hb dX3_load_67 rfl (lv_at hl 0 rfl) ?_
      refine va_get (D := D) (ci := 3) (v := .ref a_bu) (C := RX3) (T := TX3) (N := 19) hx hb hts k_X3_load_X3 hown hK hP 0 rfl rfl 7 (by decide) (hts _ q_X3_load_7) (fun _ h9 => h9) rfl dX3_load_68 ?_
      refine lv_aload_n hx hb dX3_load_71 rfl (lv_at hl 0 rfl) ?_
      refine va_get (D := D) (ci := 3) (v := .int c_n) (C := RX3) (T := TX3) (N := 19) hx hb hts k_X3_load_X3 hown hK hP 0 rfl rfl 1 (by decide) (hts _ q_X3_load_3) (fun _ h9 => h9) rfl dX3_load_72 ?_
      refine lv_iconst (v := 1) hx hb dX3_load_75 (by decide) ?_
      refine lv_iadd hx hb dX3_load_76 ?_
      refine lv_iload_n hx hb dX3_load_77 rfl (lv_at hl 2 rfl) ?_
      refine lv_imul hx hb dX3_load_78 ?_
      refine lv_iload_n hx hb dX3_load_79 rfl (lv_at hl 3 rfl) ?_
      refine lv_iadd hx hb dX3_load_80 ?_
      obtain ⟨h_7, hw⟩ := hw
      refine va_iald hx hb hK hP 2 0 rfl rfl h_7 dX3_load_81 ?_
      refine lv_bipush (v := 48) hx hb dX3_load_82 (by decide) ?_
      refine lv_isub hx hb dX3_load_84 ?_
      obtain ⟨h_8, hw⟩ := hw
      refine va_iast hx hb hK hP hD hS 3 0 rfl rfl h_8 dX3_load_85 (fun H locs hP hD hS => ?_)
      have hP : va_P D vwCl ([(a_this, .inr (3, [.int c_th, .int c_n, .int c_tu, .int c_al, .ref a_ro, .ref a_fr, .int c_le, .ref a_bu, .ref a_no, .ref a_te, .ref a_fa, .ref a_li, .int c_wa, .int c_re, .int c_us, .int c_di, .ref a_wy, .ref a_su, .long c_ha])), (a_fr, .inl (cy 0, 96, .inl c_fr)), (a_bu, .inl (cy 0, 60, .inl c_bu)), (a_no, .inl (cy 0, 8, .inl (upd c_no ((v_3 : Int32).toNatClampNeg) ((c_bu (((c_n + 1) * v_2) + v_3 : Int32).toNatClampNeg) - 48))))]) H := hP
      have hD : va_D A ([(a_this, .inr (3, [.int c_th, .int c_n, .int c_tu, .int c_al, .ref a_ro, .ref a_fr, .int c_le, .ref a_bu, .ref a_no, .ref a_te, .ref a_fa, .ref a_li, .int c_wa, .int c_re, .int c_us, .int c_di, .ref a_wy, .ref a_su, .long c_ha])), (a_fr, .inl (cy 0, 96, .inl c_fr)), (a_bu, .inl (cy 0, 60, .inl c_bu)), (a_no, .inl (cy 0, 8, .inl (upd c_no ((v_3 : Int32).toNatClampNeg) ((c_bu (((c_n + 1) * v_2) + v_3 : Int32).toNatClampNeg) - 48))))]) := hD
      refine lv_iinc (v := v_3 + 1) (lv' := [(3, .int (v_3 + 1)), (0, .ref a_this), (1, .int v_1), (2, .int v_2)]) hx hb dX3_load_86 hl (k := 3) rfl rfl (by decide) rfl (fun ls hl => ?_)
      refine lv_goto (tgt := 54) hx hb dX3_load_89 (by decide) ?_
      exact ih _ _ _ _ _ hw hP hD hS (lv_sub hl [1, 2, 3, 0] rfl)
def lp_X3_load_47 (c_bu : Nat → Int32) (c_n : Int32) (v_1 : Int32) (K102 : Int32 → Int32 → Int32 → (Nat → Int32) → (Nat → Int32) → Prop) : Nat → Int32 → Int32 → Int32 → (Nat → Int32) → (Nat → Int32) → Prop
  | 0, _, _, _, _, _ => False
  | N + 1, v_2, c_tu, c_al, c_fr, c_no => ((v_1 ≤ v_2 → (K102 v_2 c_tu c_al c_fr c_no)) ∧ (¬ v_1 ≤ v_2 → (∃ N_9 : Nat, lp_X3_load_54 c_bu c_n v_2 (fun (v_10 : Int32) (c_11 : Nat → Int32) => (wp_X3_putTurn c_n c_tu c_al c_fr c_11 (fun u_12 => (lp_X3_load_47 c_bu c_n v_1 K102 N (v_2 + 1) u_12.1 u_12.2.1 u_12.2.2 c_11)))) N_9 0 c_no)))
set_option maxHeartbeats 4000000 in
set_option maxRecDepth 100000 in
theorem l_X3_load_47 {p : Program} {l : Launch} {e : Env} {s : State} {m : MethodId} {args : Array Value} {below : List Frame} {meth : Method} {c : Code} {A : Nat → Prop} {D : va_G} {cy : Nat → ClassId} {Q : State → Prop} {a_this : Nat} {a_ro : Nat} {a_fr : Nat} {a_bu : Nat} {a_no : Nat} {a_te : Nat} {a_fa : Nat} {a_li : Nat} {a_wy : Nat} {a_su : Nat} {c_th : Int32} {c_n : Int32} {c_le : Int32} {c_wa : Int32} {c_re : Int32} {c_us : Int32} {c_di : Int32} {c_ha : Int64} {c_bu : Nat → Int32} {v_1 : Int32} {K102 : Int32 → Int32 → Int32 → (Nat → Int32) → (Nat → Int32) → Prop} (C0 : Cx p s m args c cX3_load yX3_load.cls 4 wsX3_load D cy A)
    (k102 : ∀ (v_2 : Int32) (c_tu : Int32) (c_al : Int32) (c_fr : Nat → Int32) (c_no : Nat → Int32) (H : Heap) (locs : List Loc) (ls : Array Slot), K102 v_2 c_tu c_al c_fr c_no → va_P D vwCl ([(a_this, .inr (3, [.int c_th, .int c_n, .int c_tu, .int c_al, .ref a_ro, .ref a_fr, .int c_le, .ref a_bu, .ref a_no, .ref a_te, .ref a_fa, .ref a_li, .int c_wa, .int c_re, .int c_us, .int c_di, .ref a_wy, .ref a_su, .long c_ha])), (a_fr, .inl (cy 0, 96, .inl c_fr)), (a_bu, .inl (cy 0, 60, .inl c_bu)), (a_no, .inl (cy 0, 8, .inl c_no))]) H → va_D A ([(a_this, .inr (3, [.int c_th, .int c_n, .int c_tu, .int c_al, .ref a_ro, .ref a_fr, .int c_le, .ref a_bu, .ref a_no, .ref a_te, .ref a_fa, .ref a_li, .int c_wa, .int c_re, .int c_us, .int c_di, .ref a_wy, .ref a_su, .long c_ha])), (a_fr, .inl (cy 0, 96, .inl c_fr)), (a_bu, .inl (cy 0, 60, .inl c_bu)), (a_no, .inl (cy 0, 8, .inl c_no))]) → va_S A s.heap H locs → lv_has ls 4 [(0, .ref a_this)] → W p l e (({ frames := 3, cells := 0, slots := 0, locals := 65 } : Room)) s m args below meth c H locs 0 0 Q (F0 m 102 ls [])) :
    ∀ (N : Nat) (v_2 : Int32) (c_tu : Int32) (c_al : Int32) (c_fr : Nat → Int32) (c_no : Nat → Int32) (H : Heap) (locs : List Loc) (ls : Array Slot), lp_X3_load_47 c_bu c_n v_1 K102 N v_2 c_tu c_al c_fr c_no → va_P D vwCl ([(a_this, .inr (3, [.int c_th, .int c_n, .int c_tu, .int c_al, .ref a_ro, .ref a_fr, .int c_le, .ref a_bu, .ref a_no, .ref a_te, .ref a_fa, .ref a_li, .int c_wa, .int c_re, .int c_us, .int c_di, .ref a_wy, .ref a_su, .long c_ha])), (a_fr, .inl (cy 0, 96, .inl c_fr)), (a_bu, .inl (cy 0, 60, .inl c_bu)), (a_no, .inl (cy 0, 8, .inl c_no))]) H → va_D A ([(a_this, .inr (3, [.int c_th, .int c_n, .int c_tu, .int c_al, .ref a_ro, .ref a_fr, .int c_le, .ref a_bu, .ref a_no, .ref a_te, .ref a_fa, .ref a_li, .int c_wa, .int c_re, .int c_us, .int c_di, .ref a_wy, .ref a_su, .long c_ha])), (a_fr, .inl (cy 0, 96, .inl c_fr)), (a_bu, .inl (cy 0, 60, .inl c_bu)), (a_no, .inl (cy 0, 8, .inl c_no))]) → va_S A s.heap H locs → lv_has ls 4 [(0, .ref a_this), (1, .int v_1), (2, .int v_2)] → W p l e (({ frames := 3, cells := 0, slots := 0, locals := 65 } : Room)) s m args below meth c H locs 0 0 Q (F0 m 47 ls []) := by
  obtain ⟨hx, hb, hml, hown, hts, hK, hA⟩ := id C0
  intro N
  induction N with
  | zero =>
    intro v_2 c_tu c_al c_fr c_no H locs ls hw
    exact False.elim hw
  | succ N ih =>
    intro v_2 c_tu c_al c_fr c_no H locs ls hw hP hD hS hl
    rw [lp_X3_load_47] at hw
    refine lv_iload_n hx hb dX3_load_47 rfl (lv_at hl 2 rfl) ?_
    refine lv_iload_n hx hb dX3_load_48 rfl (lv_at hl 1 rfl) ?_
    refine lv_icmp_ge (tgt := 102) hx hb dX3_load_49 (by decide) (fun c_5 => ?_) (fun c_5 => ?_)
    · replace hw := hw.1 c_5
      exact k102 _ _ _ _ _ _ _ _ hw hP hD hS (lv_sub hl [0] rfl)
    · replace hw := hw.2 c_5
      refine lv_iconst (v := 0) hx hb dX3_load_52 (by decide) ?_
      refine lv_istore_n (lv' := [(3, .int 0), (0, .ref a_this), (1, .int v_1), (2, .int v_2)]) hx hb dX3_load_53 rfl hl (by decide) rfl (fun ls hl => ?_)
      obtain ⟨N_9, hw⟩ := hw
      refine l_X3_load_54 C0 (fun v_10 c_11 H locs ls hw hP hD hS hl => ?_) _ _ _ _ _ _ hw hP hD hS (lv_sub hl [1, 2, 3, 0] rfl)
      refine lv_aload_n hx hb dX3_load_92 rfl (lv_at hl 0 rfl) ?_
      refine j_callv (wr := [(a_bu, .inl (cy 0, 60, .inl c_bu))]) (va_runV (As := []) (rest := []) ⟨hx, hb, hml, hown, hts⟩ (c_X3_putTurn l D cy a_this a_ro a_fr a_bu a_no a_te a_fa a_li a_wy a_su c_th c_n c_tu c_al c_le c_wa c_re c_us c_di c_ha c_fr c_11 hw H.size) (cwV 0 hts gX3_load_X3_putTurn rfl rfl rfl (by decide +kernel) ⟨Nat.le_of_ble_eq_true rfl, Nat.le_of_ble_eq_true rfl⟩) (j_preV hK hP hD (isC := [0, 1, 3]) rfl (by decide +kernel) (ci := 3) (q0 := 0) rfl rfl) rfl rfl hl.1 rfl (lv_room (Nat.le_of_ble_eq_true rfl)) dX3_load_93 ⟨Nat.le_of_ble_eq_true rfl, Nat.le_of_ble_eq_true rfl⟩) hP hD hS hA [0, 1, 3] [2] rfl rfl (by decide +kernel) (by decide +kernel) (fun u_12 => [(a_this, .inr (3, [.int c_th, .int c_n, .int u_12.1, .int u_12.2.1, .ref a_ro, .ref a_fr, .int c_le, .ref a_bu, .ref a_no, .ref a_te, .ref a_fa, .ref a_li, .int c_wa, .int c_re, .int c_us, .int c_di, .ref a_wy, .ref a_su, .long c_ha])), (a_fr, .inl (cy 0, 96, .inl u_12.2.2)), (a_bu, .inl (cy 0, 60, .inl c_bu)), (a_no, .inl (cy 0, 8, .inl c_11))]) [1, 2, 0, 3] (by decide +kernel) (fun u => rfl) (fun u_12 H locs hw hP hD hS => ?_)
      have hP : va_P D vwCl ([(a_this, .inr (3, [.int c_th, .int c_n, .int u_12.1, .int u_12.2.1, .ref a_ro, .ref a_fr, .int c_le, .ref a_bu, .ref a_no, .ref a_te, .ref a_fa, .ref a_li, .int c_wa, .int c_re, .int c_us, .int c_di, .ref a_wy, .ref a_su, .long c_ha])), (a_fr, .inl (cy 0, 96, .inl u_12.2.2)), (a_bu, .inl (cy 0, 60, .inl c_bu)), (a_no, .inl (cy 0, 8, .inl c_11))]) H := hP
      have hD : va_D A ([(a_this, .inr (3, [.int c_th, .int c_n, .int u_12.1, .int u_12.2.1, .ref a_ro, .ref a_fr, .int c_le, .ref a_bu, .ref a_no, .ref a_te, .ref a_fa, .ref a_li, .int c_wa, .int c_re, .int c_us, .int c_di, .ref a_wy, .ref a_su, .long c_ha])), (a_fr, .inl (cy 0, 96, .inl u_12.2.2)), (a_bu, .inl (cy 0, 60, .inl c_bu)), (a_no, .inl (cy 0, 8, .inl c_11))]) := hD
      refine lv_iinc (v := v_2 + 1) (lv' := [(2, .int (v_2 + 1)), (0, .ref a_this), (1, .int v_1)]) hx hb dX3_load_96 hl (k := 2) rfl rfl (by decide) rfl (fun ls hl => ?_)
      refine lv_goto (tgt := 47) hx hb dX3_load_99 (by decide) ?_
      exact ih _ _ _ _ _ _ _ _ hw hP hD hS (lv_sub hl [1, 2, 0] rfl)
def wp_X3_load (c_n : Int32) (c_tu : Int32) (c_al : Int32) (c_le : Int32) (c_fr : Nat → Int32) (c_bu : Nat → Int32) (c_no : Nat → Int32) (post : Int32 → (Int32 × Int32 × Int32 × Int32 × Int32 × Int32 × Int32 × (Nat → Int32) × (Nat → Int32)) → Prop) : Prop := (wp_X3_turnsLength c_n c_tu c_le c_bu (fun r_2 u_1 => ((¬ r_2 = c_le → (((1 : Int32) ≤ 0 → (∃ N_13 : Nat, lp_X3_load_47 c_bu c_n u_1.1 (fun (v_14 : Int32) (c_15 : Int32) (c_16 : Int32) (c_17 : Nat → Int32) (c_18 : Nat → Int32) => (post c_15 ((1 : Int32), c_15, c_16, (0 : Int32), u_1.1, u_1.2.1, u_1.2.2, c_17, c_18))) N_13 0 c_tu c_al c_fr c_no)) ∧ (¬ (1 : Int32) ≤ 0 → (post 0 ((1 : Int32), c_tu, c_al, c_le, u_1.1, u_1.2.1, u_1.2.2, c_fr, c_no))))) ∧ (r_2 = c_le → ((¬ u_1.2.2 = c_n → (((1 : Int32) ≤ 0 → (∃ N_21 : Nat, lp_X3_load_47 c_bu c_n u_1.1 (fun (v_22 : Int32) (c_23 : Int32) (c_24 : Int32) (c_25 : Nat → Int32) (c_26 : Nat → Int32) => (post c_23 ((1 : Int32), c_23, c_24, (0 : Int32), u_1.1, u_1.2.1, u_1.2.2, c_25, c_26))) N_21 0 c_tu c_al c_fr c_no)) ∧ (¬ (1 : Int32) ≤ 0 → (post 0 ((1 : Int32), c_tu, c_al, c_le, u_1.1, u_1.2.1, u_1.2.2, c_fr, c_no))))) ∧ (u_1.2.2 = c_n → (((0 : Int32) ≤ 0 → (∃ N_28 : Nat, lp_X3_load_47 c_bu c_n u_1.1 (fun (v_29 : Int32) (c_30 : Int32) (c_31 : Int32) (c_32 : Nat → Int32) (c_33 : Nat → Int32) => (post c_30 ((0 : Int32), c_30, c_31, (0 : Int32), u_1.1, u_1.2.1, u_1.2.2, c_32, c_33))) N_28 0 c_tu c_al c_fr c_no)) ∧ (¬ (0 : Int32) ≤ 0 → (post 0 ((0 : Int32), c_tu, c_al, c_le, u_1.1, u_1.2.1, u_1.2.2, c_fr, c_no))))))))))
set_option maxHeartbeats 4000000 in
set_option maxRecDepth 100000 in
theorem c_X3_load (l : Launch) (D : va_G) (cy : Nat → ClassId) (a_this : Nat) (a_ro : Nat) (a_fr : Nat) (a_bu : Nat) (a_no : Nat) (a_te : Nat) (a_fa : Nat) (a_li : Nat) (a_wy : Nat) (a_su : Nat) (c_th : Int32) (c_n : Int32) (c_tu : Int32) (c_al : Int32) (c_le : Int32) (c_wa : Int32) (c_re : Int32) (c_us : Int32) (c_di : Int32) (c_ha : Int64) (c_fr : Nat → Int32) (c_bu : Nat → Int32) (c_no : Nat → Int32) {post : Int32 → (Int32 × Int32 × Int32 × Int32 × Int32 × Int32 × Int32 × (Nat → Int32) × (Nat → Int32)) → Prop} (hw : wp_X3_load c_n c_tu c_al c_le c_fr c_bu c_no post) (sz : Nat) : Met l yX3_load wsX3_load ({ frames := 3, cells := 0, slots := 0, locals := 65 }) (va_Pc [.ref a_this] (PreW D cy ([(a_this, .inr (3, [.int c_th, .int c_n, .int c_tu, .int c_al, .ref a_ro, .ref a_fr, .int c_le, .ref a_bu, .ref a_no, .ref a_te, .ref a_fa, .ref a_li, .int c_wa, .int c_re, .int c_us, .int c_di, .ref a_wy, .ref a_su, .long c_ha])), (a_fr, .inl (cy 0, 96, .inl c_fr)), (a_bu, .inl (cy 0, 60, .inl c_bu)), (a_no, .inl (cy 0, 8, .inl c_no))]) sz)) (va_Qi post (fun u t => PostW D cy (va_A ([(a_this, .inr (3, [.int c_th, .int c_n, .int c_tu, .int c_al, .ref a_ro, .ref a_fr, .int c_le, .ref a_bu, .ref a_no, .ref a_te, .ref a_fa, .ref a_li, .int c_wa, .int c_re, .int c_us, .int c_di, .ref a_wy, .ref a_su, .long c_ha])), (a_fr, .inl (cy 0, 96, .inl c_fr)), (a_bu, .inl (cy 0, 60, .inl c_bu)), (a_no, .inl (cy 0, 8, .inl c_no))]) sz) ([(a_this, .inr (3, [.int u.1, .int c_n, .int u.2.1, .int u.2.2.1, .ref a_ro, .ref a_fr, .int u.2.2.2.1, .ref a_bu, .ref a_no, .ref a_te, .ref a_fa, .ref a_li, .int c_wa, .int u.2.2.2.2.1, .int u.2.2.2.2.2.1, .int u.2.2.2.2.2.2.1, .ref a_wy, .ref a_su, .long c_ha])), (a_fr, .inl (cy 0, 96, .inl u.2.2.2.2.2.2.2.1)), (a_bu, .inl (cy 0, 60, .inl c_bu)), (a_no, .inl (cy 0, 8, .inl u.2.2.2.2.2.2.2.2))]) t) (va_A ([(a_this, .inr (3, [.int c_th, .int c_n, .int c_tu, .int c_al, .ref a_ro, .ref a_fr, .int c_le, .ref a_bu, .ref a_no, .ref a_te, .ref a_fa, .ref a_li, .int c_wa, .int c_re, .int c_us, .int c_di, .ref a_wy, .ref a_su, .long c_ha])), (a_fr, .inl (cy 0, 96, .inl c_fr)), (a_bu, .inl (cy 0, 60, .inl c_bu)), (a_no, .inl (cy 0, 8, .inl c_no))]) sz)) 0 0 (va_A ([(a_this, .inr (3, [.int c_th, .int c_n, .int c_tu, .int c_al, .ref a_ro, .ref a_fr, .int c_le, .ref a_bu, .ref a_no, .ref a_te, .ref a_fa, .ref a_li, .int c_wa, .int c_re, .int c_us, .int c_di, .ref a_wy, .ref a_su, .long c_ha])), (a_fr, .inl (cy 0, 96, .inl c_fr)), (a_bu, .inl (cy 0, 60, .inl c_bu)), (a_no, .inl (cy 0, 8, .inl c_no))]) sz) := by
  refine j_met (Qc := fun A => va_Qi post (fun u t => PostW D cy A ([(a_this, .inr (3, [.int u.1, .int c_n, .int u.2.1, .int u.2.2.1, .ref a_ro, .ref a_fr, .int u.2.2.2.1, .ref a_bu, .ref a_no, .ref a_te, .ref a_fa, .ref a_li, .int c_wa, .int u.2.2.2.2.1, .int u.2.2.2.2.2.1, .int u.2.2.2.2.2.2.1, .ref a_wy, .ref a_su, .long c_ha])), (a_fr, .inl (cy 0, 96, .inl u.2.2.2.2.2.2.2.1)), (a_bu, .inl (cy 0, 60, .inl c_bu)), (a_no, .inl (cy 0, 8, .inl u.2.2.2.2.2.2.2.2))]) t) A) (by decide +kernel) rfl (Nat.le_of_ble_eq_true rfl) ?_
  intro p e s m below meth c A ls C0 hr hlocks hP hD hS hl
  obtain ⟨hx, hb, hml, hown, hts, hK, hA⟩ := id C0
  have hown : s.vm.findClass RX3 = some m.cls := hown
  have hl : lv_has ls 4 [(0, .ref a_this)] := hl
  unfold wp_X3_load at hw
  refine lv_aload_n hx hb dX3_load_0 rfl (lv_at hl 0 rfl) ?_
  refine lv_aload_n hx hb dX3_load_1 rfl (lv_at hl 0 rfl) ?_
  refine j_calli (wr := [(a_fr, .inl (cy 0, 96, .inl c_fr)), (a_no, .inl (cy 0, 8, .inl c_no))]) (va_runV (As := []) (rest := [.ref a_this]) ⟨hx, hb, hml, hown, hts⟩ (c_X3_turnsLength l D cy a_this a_ro a_fr a_bu a_no a_te a_fa a_li a_wy a_su c_th c_n c_tu c_al c_le c_wa c_re c_us c_di c_ha c_bu hw s.heap.size) (cwV 0 hts gX3_load_X3_turnsLength rfl rfl rfl (by decide +kernel) ⟨Nat.le_of_ble_eq_true rfl, Nat.le_of_ble_eq_true rfl⟩) (j_preV hK hP hD (isC := [0, 2]) rfl (by decide +kernel) (ci := 3) (q0 := 0) rfl rfl) rfl rfl hl.1 rfl (lv_room (Nat.le_of_ble_eq_true rfl)) dX3_load_2 ⟨Nat.le_of_ble_eq_true rfl, Nat.le_of_ble_eq_true rfl⟩) hP hD hS hA [0, 2] [1, 3] rfl rfl (by decide +kernel) (by decide +kernel) (fun u_1 => [(a_this, .inr (3, [.int c_th, .int c_n, .int c_tu, .int c_al, .ref a_ro, .ref a_fr, .int c_le, .ref a_bu, .ref a_no, .ref a_te, .ref a_fa, .ref a_li, .int c_wa, .int u_1.1, .int u_1.2.1, .int u_1.2.2, .ref a_wy, .ref a_su, .long c_ha])), (a_fr, .inl (cy 0, 96, .inl c_fr)), (a_bu, .inl (cy 0, 60, .inl c_bu)), (a_no, .inl (cy 0, 8, .inl c_no))]) [2, 0, 3, 1] (by decide +kernel) (fun u => rfl) (fun r_2 u_1 H locs hw hP hD hS => ?_)
  have hP : va_P D vwCl ([(a_this, .inr (3, [.int c_th, .int c_n, .int c_tu, .int c_al, .ref a_ro, .ref a_fr, .int c_le, .ref a_bu, .ref a_no, .ref a_te, .ref a_fa, .ref a_li, .int c_wa, .int u_1.1, .int u_1.2.1, .int u_1.2.2, .ref a_wy, .ref a_su, .long c_ha])), (a_fr, .inl (cy 0, 96, .inl c_fr)), (a_bu, .inl (cy 0, 60, .inl c_bu)), (a_no, .inl (cy 0, 8, .inl c_no))]) H := hP
  have hD : va_D A ([(a_this, .inr (3, [.int c_th, .int c_n, .int c_tu, .int c_al, .ref a_ro, .ref a_fr, .int c_le, .ref a_bu, .ref a_no, .ref a_te, .ref a_fa, .ref a_li, .int c_wa, .int u_1.1, .int u_1.2.1, .int u_1.2.2, .ref a_wy, .ref a_su, .long c_ha])), (a_fr, .inl (cy 0, 96, .inl c_fr)), (a_bu, .inl (cy 0, 60, .inl c_bu)), (a_no, .inl (cy 0, 8, .inl c_no))]) := hD
  refine lv_aload_n hx hb dX3_load_5 rfl (lv_at hl 0 rfl) ?_
  refine va_get (D := D) (ci := 3) (v := .int c_le) (C := RX3) (T := TX3) (N := 19) hx hb hts k_X3_load_X3 hown hK hP 0 rfl rfl 6 (by decide) (hts _ q_X3_load_1) (fun _ h9 => h9) rfl dX3_load_6 ?_
  refine lv_icmp_ne (tgt := 27) hx hb dX3_load_9 (by decide) (fun c_3 => ?_) (fun c_3 => ?_)
  · replace hw := hw.1 c_3
    refine lv_iconst (v := 1) hx hb dX3_load_27 (by decide) ?_
    refine va_put (D := D) (ci := 3) (v := .int 1) (ty := .int) (C := RX3) (T := TX3) (N := 19) hx hb hts k_X3_load_X3 tyX3 tyX3_ok nmX3 hown hK hP hD hS 0 rfl rfl 0 (by decide) (hts _ q_X3_load_4) (fun _ h9 => h9) rfl (by decide +kernel) rfl rfl (Nat.le_of_ble_eq_true rfl) dX3_load_28 (fun H locs hP hD hS => ?_)
    have hP : va_P D vwCl ([(a_this, .inr (3, [.int (1 : Int32), .int c_n, .int c_tu, .int c_al, .ref a_ro, .ref a_fr, .int c_le, .ref a_bu, .ref a_no, .ref a_te, .ref a_fa, .ref a_li, .int c_wa, .int u_1.1, .int u_1.2.1, .int u_1.2.2, .ref a_wy, .ref a_su, .long c_ha])), (a_fr, .inl (cy 0, 96, .inl c_fr)), (a_bu, .inl (cy 0, 60, .inl c_bu)), (a_no, .inl (cy 0, 8, .inl c_no))]) H := hP
    have hD : va_D A ([(a_this, .inr (3, [.int (1 : Int32), .int c_n, .int c_tu, .int c_al, .ref a_ro, .ref a_fr, .int c_le, .ref a_bu, .ref a_no, .ref a_te, .ref a_fa, .ref a_li, .int c_wa, .int u_1.1, .int u_1.2.1, .int u_1.2.2, .ref a_wy, .ref a_su, .long c_ha])), (a_fr, .inl (cy 0, 96, .inl c_fr)), (a_bu, .inl (cy 0, 60, .inl c_bu)), (a_no, .inl (cy 0, 8, .inl c_no))]) := hD
    refine lv_aload_n hx hb dX3_load_31 rfl (lv_at hl 0 rfl) ?_
    refine va_get (D := D) (ci := 3) (v := .int (1 : Int32)) (C := RX3) (T := TX3) (N := 19) hx hb hts k_X3_load_X3 hown hK hP 0 rfl rfl 0 (by decide) (hts _ q_X3_load_4) (fun _ h9 => h9) rfl dX3_load_32 ?_
    refine lv_if_le (tgt := 40) hx hb dX3_load_35 (by decide) (fun c_4 => ?_) (fun c_4 => ?_)
    · replace hw := hw.1 c_4
      refine lv_aload_n hx hb dX3_load_40 rfl (lv_at hl 0 rfl) ?_
      refine va_get (D := D) (ci := 3) (v := .int u_1.1) (C := RX3) (T := TX3) (N := 19) hx hb hts k_X3_load_X3 hown hK hP 0 rfl rfl 13 (by decide) (hts _ q_X3_load_5) (fun _ h9 => h9) rfl dX3_load_41 ?_
      refine lv_istore_n (lv' := [(1, .int u_1.1), (0, .ref a_this)]) hx hb dX3_load_44 rfl hl (by decide) rfl (fun ls hl => ?_)
      refine lv_iconst (v := 0) hx hb dX3_load_45 (by decide) ?_
      refine lv_istore_n (lv' := [(2, .int 0), (1, .int u_1.1), (0, .ref a_this)]) hx hb dX3_load_46 rfl hl (by decide) rfl (fun ls hl => ?_)
      obtain ⟨N_13, hw⟩ := hw
      refine l_X3_load_47 C0 (fun v_14 c_15 c_16 c_17 c_18 H locs ls hw hP hD hS hl => ?_) _ _ _ _ _ _ _ _ _ hw hP hD hS (lv_sub hl [2, 1, 0] rfl)
      refine lv_aload_n hx hb dX3_load_102 rfl (lv_at hl 0 rfl) ?_
      refine lv_iconst (v := 0) hx hb dX3_load_103 (by decide) ?_
      refine va_put (D := D) (ci := 3) (v := .int 0) (ty := .int) (C := RX3) (T := TX3) (N := 19) hx hb hts k_X3_load_X3 tyX3 tyX3_ok nmX3 hown hK hP hD hS 0 rfl rfl 6 (by decide) (hts _ q_X3_load_1) (fun _ h9 => h9) rfl (by decide +kernel) rfl rfl (Nat.le_of_ble_eq_true rfl) dX3_load_104 (fun H locs hP hD hS => ?_)
      have hP : va_P D vwCl ([(a_this, .inr (3, [.int (1 : Int32), .int c_n, .int c_15, .int c_16, .ref a_ro, .ref a_fr, .int (0 : Int32), .ref a_bu, .ref a_no, .ref a_te, .ref a_fa, .ref a_li, .int c_wa, .int u_1.1, .int u_1.2.1, .int u_1.2.2, .ref a_wy, .ref a_su, .long c_ha])), (a_fr, .inl (cy 0, 96, .inl c_17)), (a_bu, .inl (cy 0, 60, .inl c_bu)), (a_no, .inl (cy 0, 8, .inl c_18))]) H := hP
      have hD : va_D A ([(a_this, .inr (3, [.int (1 : Int32), .int c_n, .int c_15, .int c_16, .ref a_ro, .ref a_fr, .int (0 : Int32), .ref a_bu, .ref a_no, .ref a_te, .ref a_fa, .ref a_li, .int c_wa, .int u_1.1, .int u_1.2.1, .int u_1.2.2, .ref a_wy, .ref a_su, .long c_ha])), (a_fr, .inl (cy 0, 96, .inl c_17)), (a_bu, .inl (cy 0, 60, .inl c_bu)), (a_no, .inl (cy 0, 8, .inl c_18))]) := hD
      refine lv_aload_n hx hb dX3_load_107 rfl (lv_at hl 0 rfl) ?_
      refine va_get (D := D) (ci := 3) (v := .int c_15) (C := RX3) (T := TX3) (N := 19) hx hb hts k_X3_load_X3 hown hK hP 0 rfl rfl 2 (by decide) (hts _ q_X3_load_8) (fun _ h9 => h9) rfl dX3_load_108 ?_
      exact j_iret (fun u => [(a_this, .inr (3, [.int u.1, .int c_n, .int u.2.1, .int u.2.2.1, .ref a_ro, .ref a_fr, .int u.2.2.2.1, .ref a_bu, .ref a_no, .ref a_te, .ref a_fa, .ref a_li, .int c_wa, .int u.2.2.2.2.1, .int u.2.2.2.2.2.1, .int u.2.2.2.2.2.2.1, .ref a_wy, .ref a_su, .long c_ha])), (a_fr, .inl (cy 0, 96, .inl u.2.2.2.2.2.2.2.1)), (a_bu, .inl (cy 0, 60, .inl c_bu)), (a_no, .inl (cy 0, 8, .inl u.2.2.2.2.2.2.2.2))]) (((1 : Int32), c_15, c_16, (0 : Int32), u_1.1, u_1.2.1, u_1.2.2, c_17, c_18) : Int32 × Int32 × Int32 × Int32 × Int32 × Int32 × Int32 × (Nat → Int32) × (Nat → Int32)) hx hb hr hlocks hK hP hD hS hw dX3_load_111
    · replace hw := hw.2 c_4
      refine lv_iconst (v := 0) hx hb dX3_load_38 (by decide) ?_
      exact j_iret (fun u => [(a_this, .inr (3, [.int u.1, .int c_n, .int u.2.1, .int u.2.2.1, .ref a_ro, .ref a_fr, .int u.2.2.2.1, .ref a_bu, .ref a_no, .ref a_te, .ref a_fa, .ref a_li, .int c_wa, .int u.2.2.2.2.1, .int u.2.2.2.2.2.1, .int u.2.2.2.2.2.2.1, .ref a_wy, .ref a_su, .long c_ha])), (a_fr, .inl (cy 0, 96, .inl u.2.2.2.2.2.2.2.1)), (a_bu, .inl (cy 0, 60, .inl c_bu)), (a_no, .inl (cy 0, 8, .inl u.2.2.2.2.2.2.2.2))]) (((1 : Int32), c_tu, c_al, c_le, u_1.1, u_1.2.1, u_1.2.2, c_fr, c_no) : Int32 × Int32 × Int32 × Int32 × Int32 × Int32 × Int32 × (Nat → Int32) × (Nat → Int32)) hx hb hr hlocks hK hP hD hS hw dX3_load_39
  · replace hw := hw.2 c_3
    refine lv_aload_n hx hb dX3_load_12 rfl (lv_at hl 0 rfl) ?_
    refine va_get (D := D) (ci := 3) (v := .int u_1.2.2) (C := RX3) (T := TX3) (N := 19) hx hb hts k_X3_load_X3 hown hK hP 0 rfl rfl 15 (by decide) (hts _ q_X3_load_2) (fun _ h9 => h9) rfl dX3_load_13 ?_
    refine lv_aload_n hx hb dX3_load_16 rfl (lv_at hl 0 rfl) ?_
    refine va_get (D := D) (ci := 3) (v := .int c_n) (C := RX3) (T := TX3) (N := 19) hx hb hts k_X3_load_X3 hown hK hP 0 rfl rfl 1 (by decide) (hts _ q_X3_load_3) (fun _ h9 => h9) rfl dX3_load_17 ?_
    refine lv_icmp_ne (tgt := 27) hx hb dX3_load_20 (by decide) (fun c_19 => ?_) (fun c_19 => ?_)
    · replace hw := hw.1 c_19
      refine lv_iconst (v := 1) hx hb dX3_load_27 (by decide) ?_
      refine va_put (D := D) (ci := 3) (v := .int 1) (ty := .int) (C := RX3) (T := TX3) (N := 19) hx hb hts k_X3_load_X3 tyX3 tyX3_ok nmX3 hown hK hP hD hS 0 rfl rfl 0 (by decide) (hts _ q_X3_load_4) (fun _ h9 => h9) rfl (by decide +kernel) rfl rfl (Nat.le_of_ble_eq_true rfl) dX3_load_28 (fun H locs hP hD hS => ?_)
      have hP : va_P D vwCl ([(a_this, .inr (3, [.int (1 : Int32), .int c_n, .int c_tu, .int c_al, .ref a_ro, .ref a_fr, .int c_le, .ref a_bu, .ref a_no, .ref a_te, .ref a_fa, .ref a_li, .int c_wa, .int u_1.1, .int u_1.2.1, .int u_1.2.2, .ref a_wy, .ref a_su, .long c_ha])), (a_fr, .inl (cy 0, 96, .inl c_fr)), (a_bu, .inl (cy 0, 60, .inl c_bu)), (a_no, .inl (cy 0, 8, .inl c_no))]) H := hP
      have hD : va_D A ([(a_this, .inr (3, [.int (1 : Int32), .int c_n, .int c_tu, .int c_al, .ref a_ro, .ref a_fr, .int c_le, .ref a_bu, .ref a_no, .ref a_te, .ref a_fa, .ref a_li, .int c_wa, .int u_1.1, .int u_1.2.1, .int u_1.2.2, .ref a_wy, .ref a_su, .long c_ha])), (a_fr, .inl (cy 0, 96, .inl c_fr)), (a_bu, .inl (cy 0, 60, .inl c_bu)), (a_no, .inl (cy 0, 8, .inl c_no))]) := hD
      refine lv_aload_n hx hb dX3_load_31 rfl (lv_at hl 0 rfl) ?_
      refine va_get (D := D) (ci := 3) (v := .int (1 : Int32)) (C := RX3) (T := TX3) (N := 19) hx hb hts k_X3_load_X3 hown hK hP 0 rfl rfl 0 (by decide) (hts _ q_X3_load_4) (fun _ h9 => h9) rfl dX3_load_32 ?_
      refine lv_if_le (tgt := 40) hx hb dX3_load_35 (by decide) (fun c_20 => ?_) (fun c_20 => ?_)
      · replace hw := hw.1 c_20
        refine lv_aload_n hx hb dX3_load_40 rfl (lv_at hl 0 rfl) ?_
        refine va_get (D := D) (ci := 3) (v := .int u_1.1) (C := RX3) (T := TX3) (N := 19) hx hb hts k_X3_load_X3 hown hK hP 0 rfl rfl 13 (by decide) (hts _ q_X3_load_5) (fun _ h9 => h9) rfl dX3_load_41 ?_
        refine lv_istore_n (lv' := [(1, .int u_1.1), (0, .ref a_this)]) hx hb dX3_load_44 rfl hl (by decide) rfl (fun ls hl => ?_)
        refine lv_iconst (v := 0) hx hb dX3_load_45 (by decide) ?_
        refine lv_istore_n (lv' := [(2, .int 0), (1, .int u_1.1), (0, .ref a_this)]) hx hb dX3_load_46 rfl hl (by decide) rfl (fun ls hl => ?_)
        obtain ⟨N_21, hw⟩ := hw
        refine l_X3_load_47 C0 (fun v_22 c_23 c_24 c_25 c_26 H locs ls hw hP hD hS hl => ?_) _ _ _ _ _ _ _ _ _ hw hP hD hS (lv_sub hl [2, 1, 0] rfl)
        refine lv_aload_n hx hb dX3_load_102 rfl (lv_at hl 0 rfl) ?_
        refine lv_iconst (v := 0) hx hb dX3_load_103 (by decide) ?_
        refine va_put (D := D) (ci := 3) (v := .int 0) (ty := .int) (C := RX3) (T := TX3) (N := 19) hx hb hts k_X3_load_X3 tyX3 tyX3_ok nmX3 hown hK hP hD hS 0 rfl rfl 6 (by decide) (hts _ q_X3_load_1) (fun _ h9 => h9) rfl (by decide +kernel) rfl rfl (Nat.le_of_ble_eq_true rfl) dX3_load_104 (fun H locs hP hD hS => ?_)
        have hP : va_P D vwCl ([(a_this, .inr (3, [.int (1 : Int32), .int c_n, .int c_23, .int c_24, .ref a_ro, .ref a_fr, .int (0 : Int32), .ref a_bu, .ref a_no, .ref a_te, .ref a_fa, .ref a_li, .int c_wa, .int u_1.1, .int u_1.2.1, .int u_1.2.2, .ref a_wy, .ref a_su, .long c_ha])), (a_fr, .inl (cy 0, 96, .inl c_25)), (a_bu, .inl (cy 0, 60, .inl c_bu)), (a_no, .inl (cy 0, 8, .inl c_26))]) H := hP
        have hD : va_D A ([(a_this, .inr (3, [.int (1 : Int32), .int c_n, .int c_23, .int c_24, .ref a_ro, .ref a_fr, .int (0 : Int32), .ref a_bu, .ref a_no, .ref a_te, .ref a_fa, .ref a_li, .int c_wa, .int u_1.1, .int u_1.2.1, .int u_1.2.2, .ref a_wy, .ref a_su, .long c_ha])), (a_fr, .inl (cy 0, 96, .inl c_25)), (a_bu, .inl (cy 0, 60, .inl c_bu)), (a_no, .inl (cy 0, 8, .inl c_26))]) := hD
        refine lv_aload_n hx hb dX3_load_107 rfl (lv_at hl 0 rfl) ?_
        refine va_get (D := D) (ci := 3) (v := .int c_23) (C := RX3) (T := TX3) (N := 19) hx hb hts k_X3_load_X3 hown hK hP 0 rfl rfl 2 (by decide) (hts _ q_X3_load_8) (fun _ h9 => h9) rfl dX3_load_108 ?_
        exact j_iret (fun u => [(a_this, .inr (3, [.int u.1, .int c_n, .int u.2.1, .int u.2.2.1, .ref a_ro, .ref a_fr, .int u.2.2.2.1, .ref a_bu, .ref a_no, .ref a_te, .ref a_fa, .ref a_li, .int c_wa, .int u.2.2.2.2.1, .int u.2.2.2.2.2.1, .int u.2.2.2.2.2.2.1, .ref a_wy, .ref a_su, .long c_ha])), (a_fr, .inl (cy 0, 96, .inl u.2.2.2.2.2.2.2.1)), (a_bu, .inl (cy 0, 60, .inl c_bu)), (a_no, .inl (cy 0, 8, .inl u.2.2.2.2.2.2.2.2))]) (((1 : Int32), c_23, c_24, (0 : Int32), u_1.1, u_1.2.1, u_1.2.2, c_25, c_26) : Int32 × Int32 × Int32 × Int32 × Int32 × Int32 × Int32 × (Nat → Int32) × (Nat → Int32)) hx hb hr hlocks hK hP hD hS hw dX3_load_111
      · replace hw := hw.2 c_20
        refine lv_iconst (v := 0) hx hb dX3_load_38 (by decide) ?_
        exact j_iret (fun u => [(a_this, .inr (3, [.int u.1, .int c_n, .int u.2.1, .int u.2.2.1, .ref a_ro, .ref a_fr, .int u.2.2.2.1, .ref a_bu, .ref a_no, .ref a_te, .ref a_fa, .ref a_li, .int c_wa, .int u.2.2.2.2.1, .int u.2.2.2.2.2.1, .int u.2.2.2.2.2.2.1, .ref a_wy, .ref a_su, .long c_ha])), (a_fr, .inl (cy 0, 96, .inl u.2.2.2.2.2.2.2.1)), (a_bu, .inl (cy 0, 60, .inl c_bu)), (a_no, .inl (cy 0, 8, .inl u.2.2.2.2.2.2.2.2))]) (((1 : Int32), c_tu, c_al, c_le, u_1.1, u_1.2.1, u_1.2.2, c_fr, c_no) : Int32 × Int32 × Int32 × Int32 × Int32 × Int32 × Int32 × (Nat → Int32) × (Nat → Int32)) hx hb hr hlocks hK hP hD hS hw dX3_load_39
    · replace hw := hw.2 c_19
      refine lv_iconst (v := 0) hx hb dX3_load_23 (by decide) ?_
      refine lv_goto (tgt := 28) hx hb dX3_load_24 (by decide) ?_
      refine va_put (D := D) (ci := 3) (v := .int 0) (ty := .int) (C := RX3) (T := TX3) (N := 19) hx hb hts k_X3_load_X3 tyX3 tyX3_ok nmX3 hown hK hP hD hS 0 rfl rfl 0 (by decide) (hts _ q_X3_load_4) (fun _ h9 => h9) rfl (by decide +kernel) rfl rfl (Nat.le_of_ble_eq_true rfl) dX3_load_28 (fun H locs hP hD hS => ?_)
      have hP : va_P D vwCl ([(a_this, .inr (3, [.int (0 : Int32), .int c_n, .int c_tu, .int c_al, .ref a_ro, .ref a_fr, .int c_le, .ref a_bu, .ref a_no, .ref a_te, .ref a_fa, .ref a_li, .int c_wa, .int u_1.1, .int u_1.2.1, .int u_1.2.2, .ref a_wy, .ref a_su, .long c_ha])), (a_fr, .inl (cy 0, 96, .inl c_fr)), (a_bu, .inl (cy 0, 60, .inl c_bu)), (a_no, .inl (cy 0, 8, .inl c_no))]) H := hP
      have hD : va_D A ([(a_this, .inr (3, [.int (0 : Int32), .int c_n, .int c_tu, .int c_al, .ref a_ro, .ref a_fr, .int c_le, .ref a_bu, .ref a_no, .ref a_te, .ref a_fa, .ref a_li, .int c_wa, .int u_1.1, .int u_1.2.1, .int u_1.2.2, .ref a_wy, .ref a_su, .long c_ha])), (a_fr, .inl (cy 0, 96, .inl c_fr)), (a_bu, .inl (cy 0, 60, .inl c_bu)), (a_no, .inl (cy 0, 8, .inl c_no))]) := hD
      refine lv_aload_n hx hb dX3_load_31 rfl (lv_at hl 0 rfl) ?_
      refine va_get (D := D) (ci := 3) (v := .int (0 : Int32)) (C := RX3) (T := TX3) (N := 19) hx hb hts k_X3_load_X3 hown hK hP 0 rfl rfl 0 (by decide) (hts _ q_X3_load_4) (fun _ h9 => h9) rfl dX3_load_32 ?_
      refine lv_if_le (tgt := 40) hx hb dX3_load_35 (by decide) (fun c_27 => ?_) (fun c_27 => ?_)
      · replace hw := hw.1 c_27
        refine lv_aload_n hx hb dX3_load_40 rfl (lv_at hl 0 rfl) ?_
        refine va_get (D := D) (ci := 3) (v := .int u_1.1) (C := RX3) (T := TX3) (N := 19) hx hb hts k_X3_load_X3 hown hK hP 0 rfl rfl 13 (by decide) (hts _ q_X3_load_5) (fun _ h9 => h9) rfl dX3_load_41 ?_
        refine lv_istore_n (lv' := [(1, .int u_1.1), (0, .ref a_this)]) hx hb dX3_load_44 rfl hl (by decide) rfl (fun ls hl => ?_)
        refine lv_iconst (v := 0) hx hb dX3_load_45 (by decide) ?_
        refine lv_istore_n (lv' := [(2, .int 0), (1, .int u_1.1), (0, .ref a_this)]) hx hb dX3_load_46 rfl hl (by decide) rfl (fun ls hl => ?_)
        obtain ⟨N_28, hw⟩ := hw
        refine l_X3_load_47 C0 (fun v_29 c_30 c_31 c_32 c_33 H locs ls hw hP hD hS hl => ?_) _ _ _ _ _ _ _ _ _ hw hP hD hS (lv_sub hl [2, 1, 0] rfl)
        refine lv_aload_n hx hb dX3_load_102 rfl (lv_at hl 0 rfl) ?_
        refine lv_iconst (v := 0) hx hb dX3_load_103 (by decide) ?_
        refine va_put (D := D) (ci := 3) (v := .int 0) (ty := .int) (C := RX3) (T := TX3) (N := 19) hx hb hts k_X3_load_X3 tyX3 tyX3_ok nmX3 hown hK hP hD hS 0 rfl rfl 6 (by decide) (hts _ q_X3_load_1) (fun _ h9 => h9) rfl (by decide +kernel) rfl rfl (Nat.le_of_ble_eq_true rfl) dX3_load_104 (fun H locs hP hD hS => ?_)
        have hP : va_P D vwCl ([(a_this, .inr (3, [.int (0 : Int32), .int c_n, .int c_30, .int c_31, .ref a_ro, .ref a_fr, .int (0 : Int32), .ref a_bu, .ref a_no, .ref a_te, .ref a_fa, .ref a_li, .int c_wa, .int u_1.1, .int u_1.2.1, .int u_1.2.2, .ref a_wy, .ref a_su, .long c_ha])), (a_fr, .inl (cy 0, 96, .inl c_32)), (a_bu, .inl (cy 0, 60, .inl c_bu)), (a_no, .inl (cy 0, 8, .inl c_33))]) H := hP
        have hD : va_D A ([(a_this, .inr (3, [.int (0 : Int32), .int c_n, .int c_30, .int c_31, .ref a_ro, .ref a_fr, .int (0 : Int32), .ref a_bu, .ref a_no, .ref a_te, .ref a_fa, .ref a_li, .int c_wa, .int u_1.1, .int u_1.2.1, .int u_1.2.2, .ref a_wy, .ref a_su, .long c_ha])), (a_fr, .inl (cy 0, 96, .inl c_32)), (a_bu, .inl (cy 0, 60, .inl c_bu)), (a_no, .inl (cy 0, 8, .inl c_33))]) := hD
        refine lv_aload_n hx hb dX3_load_107 rfl (lv_at hl 0 rfl) ?_
        refine va_get (D := D) (ci := 3) (v := .int c_30) (C := RX3) (T := TX3) (N := 19) hx hb hts k_X3_load_X3 hown hK hP 0 rfl rfl 2 (by decide) (hts _ q_X3_load_8) (fun _ h9 => h9) rfl dX3_load_108 ?_
        exact j_iret (fun u => [(a_this, .inr (3, [.int u.1, .int c_n, .int u.2.1, .int u.2.2.1, .ref a_ro, .ref a_fr, .int u.2.2.2.1, .ref a_bu, .ref a_no, .ref a_te, .ref a_fa, .ref a_li, .int c_wa, .int u.2.2.2.2.1, .int u.2.2.2.2.2.1, .int u.2.2.2.2.2.2.1, .ref a_wy, .ref a_su, .long c_ha])), (a_fr, .inl (cy 0, 96, .inl u.2.2.2.2.2.2.2.1)), (a_bu, .inl (cy 0, 60, .inl c_bu)), (a_no, .inl (cy 0, 8, .inl u.2.2.2.2.2.2.2.2))]) (((0 : Int32), c_30, c_31, (0 : Int32), u_1.1, u_1.2.1, u_1.2.2, c_32, c_33) : Int32 × Int32 × Int32 × Int32 × Int32 × Int32 × Int32 × (Nat → Int32) × (Nat → Int32)) hx hb hr hlocks hK hP hD hS hw dX3_load_111
      · replace hw := hw.2 c_27
        refine lv_iconst (v := 0) hx hb dX3_load_38 (by decide) ?_
        exact j_iret (fun u => [(a_this, .inr (3, [.int u.1, .int c_n, .int u.2.1, .int u.2.2.1, .ref a_ro, .ref a_fr, .int u.2.2.2.1, .ref a_bu, .ref a_no, .ref a_te, .ref a_fa, .ref a_li, .int c_wa, .int u.2.2.2.2.1, .int u.2.2.2.2.2.1, .int u.2.2.2.2.2.2.1, .ref a_wy, .ref a_su, .long c_ha])), (a_fr, .inl (cy 0, 96, .inl u.2.2.2.2.2.2.2.1)), (a_bu, .inl (cy 0, 60, .inl c_bu)), (a_no, .inl (cy 0, 8, .inl u.2.2.2.2.2.2.2.2))]) (((0 : Int32), c_tu, c_al, c_le, u_1.1, u_1.2.1, u_1.2.2, c_fr, c_no) : Int32 × Int32 × Int32 × Int32 × Int32 × Int32 × Int32 × (Nat → Int32) × (Nat → Int32)) hx hb hr hlocks hK hP hD hS hw dX3_load_39
theorem q_X3_isAllowedWord_1 : Cond.fieldLink RX3 122 "TwistedRowModel" "length" "I" ∈ wsX3_isAllowedWord := List.mem_of_getElem? (i := 1) rfl
theorem k_X3_isAllowedWord_X3 : ∀ w ∈ wsX30, w ∈ wsX3_isAllowedWord := my_in _ [20, 21, 22, 23, 24, 25, 26, 27, 28, 29, 30, 31, 32, 33, 34, 35, 36, 37, 38] (by decide +kernel)
theorem q_X3_isAllowedWord_2 : Cond.fieldLink RX3 96 "TwistedRowModel" "allowed" "I" ∈ wsX3_isAllowedWord := List.mem_of_getElem? (i := 2) rfl
theorem q_X3_isAllowedWord_3 : Cond.fieldLink RX3 20 "TwistedRowModel" "buffer" "[I" ∈ wsX3_isAllowedWord := List.mem_of_getElem? (i := 3) rfl
def lp_X3_isAllowedWord_4 (c_al : Int32) (c_bu : Nat → Int32) (c_le : Int32) (c_tu : Int32) (K48 : Int32 → Int32 → Prop) : Nat → Int32 → Int32 → Prop
  | 0, _, _ => False
  | N + 1, v_1, v_2 => ((c_le ≤ v_2 → (K48 v_1 v_2)) ∧ (¬ c_le ≤ v_2 → ((v_1 = 0 → (lp_X3_isAllowedWord_4 c_al c_bu c_le c_tu K48 N 0 (v_2 + 1))) ∧ (¬ v_1 = 0 → (vp_in v_2 60 ∧ (wp_X3_moveBy c_tu (c_bu (v_2 : Int32).toNatClampNeg) (fun r_5 u_4 => (wp_X3_has c_al r_5 (fun r_7 u_6 => ((r_7 = 0 → (lp_X3_isAllowedWord_4 c_al c_bu c_le c_tu K48 N 0 (v_2 + 1))) ∧ (¬ r_7 = 0 → (lp_X3_isAllowedWord_4 c_al c_bu c_le c_tu K48 N 1 (v_2 + 1)))))))))))))
set_option maxHeartbeats 4000000 in
set_option maxRecDepth 100000 in
theorem l_X3_isAllowedWord_4 {p : Program} {l : Launch} {e : Env} {s : State} {m : MethodId} {args : Array Value} {below : List Frame} {meth : Method} {c : Code} {A : Nat → Prop} {D : va_G} {cy : Nat → ClassId} {Q : State → Prop} {a_this : Nat} {a_ro : Nat} {a_fr : Nat} {a_bu : Nat} {a_no : Nat} {a_te : Nat} {a_fa : Nat} {a_li : Nat} {a_wy : Nat} {a_su : Nat} {c_th : Int32} {c_n : Int32} {c_tu : Int32} {c_al : Int32} {c_le : Int32} {c_wa : Int32} {c_re : Int32} {c_us : Int32} {c_di : Int32} {c_ha : Int64} {c_bu : Nat → Int32} {K48 : Int32 → Int32 → Prop} (C0 : Cx p s m args c cX3_isAllowedWord yX3_isAllowedWord.cls 3 wsX3_isAllowedWord D cy A)
    (k48 : ∀ (v_1 : Int32) (v_2 : Int32) (H : Heap) (locs : List Loc) (ls : Array Slot), K48 v_1 v_2 → va_P D vwCl ([(a_this, .inr (3, [.int c_th, .int c_n, .int c_tu, .int c_al, .ref a_ro, .ref a_fr, .int c_le, .ref a_bu, .ref a_no, .ref a_te, .ref a_fa, .ref a_li, .int c_wa, .int c_re, .int c_us, .int c_di, .ref a_wy, .ref a_su, .long c_ha])), (a_bu, .inl (cy 0, 60, .inl c_bu))]) H → va_D A ([(a_this, .inr (3, [.int c_th, .int c_n, .int c_tu, .int c_al, .ref a_ro, .ref a_fr, .int c_le, .ref a_bu, .ref a_no, .ref a_te, .ref a_fa, .ref a_li, .int c_wa, .int c_re, .int c_us, .int c_di, .ref a_wy, .ref a_su, .long c_ha])), (a_bu, .inl (cy 0, 60, .inl c_bu))]) → va_S A s.heap H locs → lv_has ls 3 [(1, .int v_1)] → W p l e (({ frames := 3, cells := 0, slots := 0, locals := 65 } : Room)) s m args below meth c H locs 0 0 Q (F0 m 48 ls [])) :
    ∀ (N : Nat) (v_1 : Int32) (v_2 : Int32) (H : Heap) (locs : List Loc) (ls : Array Slot), lp_X3_isAllowedWord_4 c_al c_bu c_le c_tu K48 N v_1 v_2 → va_P D vwCl ([(a_this, .inr (3, [.int c_th, .int c_n, .int c_tu, .int c_al, .ref a_ro, .ref a_fr, .int c_le, .ref a_bu, .ref a_no, .ref a_te, .ref a_fa, .ref a_li, .int c_wa, .int c_re, .int c_us, .int c_di, .ref a_wy, .ref a_su, .long c_ha])), (a_bu, .inl (cy 0, 60, .inl c_bu))]) H → va_D A ([(a_this, .inr (3, [.int c_th, .int c_n, .int c_tu, .int c_al, .ref a_ro, .ref a_fr, .int c_le, .ref a_bu, .ref a_no, .ref a_te, .ref a_fa, .ref a_li, .int c_wa, .int c_re, .int c_us, .int c_di, .ref a_wy, .ref a_su, .long c_ha])), (a_bu, .inl (cy 0, 60, .inl c_bu))]) → va_S A s.heap H locs → lv_has ls 3 [(0, .ref a_this), (1, .int v_1), (2, .int v_2)] → W p l e (({ frames := 3, cells := 0, slots := 0, locals := 65 } : Room)) s m args below meth c H locs 0 0 Q (F0 m 4 ls []) := by
  obtain ⟨hx, hb, hml, hown, hts, hK, hA⟩ := id C0
  intro N
  induction N with
  | zero =>
    intro v_1 v_2 H locs ls hw
    exact False.elim hw
  | succ N ih =>
    intro v_1 v_2 H locs ls hw hP hD hS hl
    rw [lp_X3_isAllowedWord_4] at hw
    refine lv_iload_n hx hb dX3_isAllowedWord_4 rfl (lv_at hl 2 rfl) ?_
    refine lv_aload_n hx hb dX3_isAllowedWord_5 rfl (lv_at hl 0 rfl) ?_
    refine va_get (D := D) (ci := 3) (v := .int c_le) (C := RX3) (T := TX3) (N := 19) hx hb hts k_X3_isAllowedWord_X3 hown hK hP 0 rfl rfl 6 (by decide) (hts _ q_X3_isAllowedWord_1) (fun _ h9 => h9) rfl dX3_isAllowedWord_6 ?_
    refine lv_icmp_ge (tgt := 48) hx hb dX3_isAllowedWord_9 (by decide) (fun c_1 => ?_) (fun c_1 => ?_)
    · replace hw := hw.1 c_1
      exact k48 _ _ _ _ _ hw hP hD hS (lv_sub hl [1] rfl)
    · replace hw := hw.2 c_1
      refine lv_iload_n hx hb dX3_isAllowedWord_12 rfl (lv_at hl 1 rfl) ?_
      refine lv_if_eq (tgt := 40) hx hb dX3_isAllowedWord_13 (by decide) (fun c_2 => ?_) (fun c_2 => ?_)
      · replace hw := hw.1 c_2
        refine lv_iconst (v := 0) hx hb dX3_isAllowedWord_40 (by decide) ?_
        refine lv_istore_n (lv' := [(1, .int 0), (0, .ref a_this), (2, .int v_2)]) hx hb dX3_isAllowedWord_41 rfl hl (by decide) rfl (fun ls hl => ?_)
        refine lv_iinc (v := v_2 + 1) (lv' := [(2, .int (v_2 + 1)), (1, .int 0), (0, .ref a_this)]) hx hb dX3_isAllowedWord_42 hl (k := 2) rfl rfl (by decide) rfl (fun ls hl => ?_)
        refine lv_goto (tgt := 4) hx hb dX3_isAllowedWord_45 (by decide) ?_
        exact ih _ _ _ _ _ hw hP hD hS (lv_sub hl [2, 1, 0] rfl)
      · replace hw := hw.2 c_2
        refine lv_aload_n hx hb dX3_isAllowedWord_16 rfl (lv_at hl 0 rfl) ?_
        refine va_get (D := D) (ci := 3) (v := .int c_al) (C := RX3) (T := TX3) (N := 19) hx hb hts k_X3_isAllowedWord_X3 hown hK hP 0 rfl rfl 3 (by decide) (hts _ q_X3_isAllowedWord_2) (fun _ h9 => h9) rfl dX3_isAllowedWord_17 ?_
        refine lv_aload_n hx hb dX3_isAllowedWord_20 rfl (lv_at hl 0 rfl) ?_
        refine lv_aload_n hx hb dX3_isAllowedWord_21 rfl (lv_at hl 0 rfl) ?_
        refine va_get (D := D) (ci := 3) (v := .ref a_bu) (C := RX3) (T := TX3) (N := 19) hx hb hts k_X3_isAllowedWord_X3 hown hK hP 0 rfl rfl 7 (by decide) (hts _ q_X3_isAllowedWord_3) (fun _ h9 => h9) rfl dX3_isAllowedWord_22 ?_
        refine lv_iload_n hx hb dX3_isAllowedWord_25 rfl (lv_at hl 2 rfl) ?_
        obtain ⟨h_3, hw⟩ := hw
        refine va_iald hx hb hK hP 1 0 rfl rfl h_3 dX3_isAllowedWord_26 ?_
        refine j_calli (wr := [(a_bu, .inl (cy 0, 60, .inl c_bu))]) (va_runV (As := [.int (c_bu (v_2 : Int32).toNatClampNeg)]) (rest := [.int c_al]) ⟨hx, hb, hml, hown, hts⟩ (c_X3_moveBy l D cy a_this a_ro a_fr a_bu a_no a_te a_fa a_li a_wy a_su c_th c_n c_tu c_al c_le c_wa c_re c_us c_di c_ha (c_bu (v_2 : Int32).toNatClampNeg) hw H.size) (cwV 1 hts gX3_isAllowedWord_X3_moveBy rfl rfl rfl (by decide +kernel) ⟨Nat.le_of_ble_eq_true rfl, Nat.le_of_ble_eq_true rfl⟩) (j_preV hK hP hD (isC := [0]) rfl (by decide +kernel) (ci := 3) (q0 := 0) rfl rfl) rfl rfl hl.1 rfl (lv_room (Nat.le_of_ble_eq_true rfl)) dX3_isAllowedWord_27 ⟨Nat.le_of_ble_eq_true rfl, Nat.le_of_ble_eq_true rfl⟩) hP hD hS hA [0] [1] rfl rfl (by decide +kernel) (by decide +kernel) (fun u_4 => [(a_this, .inr (3, [.int c_th, .int c_n, .int c_tu, .int c_al, .ref a_ro, .ref a_fr, .int c_le, .ref a_bu, .ref a_no, .ref a_te, .ref a_fa, .ref a_li, .int c_wa, .int c_re, .int c_us, .int c_di, .ref a_wy, .ref a_su, .long c_ha])), (a_bu, .inl (cy 0, 60, .inl c_bu))]) [1, 0] (by decide +kernel) (fun u => rfl) (fun r_5 u_4 H locs hw hP hD hS => ?_)
        have hP : va_P D vwCl ([(a_this, .inr (3, [.int c_th, .int c_n, .int c_tu, .int c_al, .ref a_ro, .ref a_fr, .int c_le, .ref a_bu, .ref a_no, .ref a_te, .ref a_fa, .ref a_li, .int c_wa, .int c_re, .int c_us, .int c_di, .ref a_wy, .ref a_su, .long c_ha])), (a_bu, .inl (cy 0, 60, .inl c_bu))]) H := hP
        have hD : va_D A ([(a_this, .inr (3, [.int c_th, .int c_n, .int c_tu, .int c_al, .ref a_ro, .ref a_fr, .int c_le, .ref a_bu, .ref a_no, .ref a_te, .ref a_fa, .ref a_li, .int c_wa, .int c_re, .int c_us, .int c_di, .ref a_wy, .ref a_su, .long c_ha])), (a_bu, .inl (cy 0, 60, .inl c_bu))]) := hD
        refine j_calli (wr := [(a_this, .inr (3, [.int c_th, .int c_n, .int c_tu, .int c_al, .ref a_ro, .ref a_fr, .int c_le, .ref a_bu, .ref a_no, .ref a_te, .ref a_fa, .ref a_li, .int c_wa, .int c_re, .int c_us, .int c_di, .ref a_wy, .ref a_su, .long c_ha])), (a_bu, .inl (cy 0, 60, .inl c_bu))]) (va_runS (As := [.int c_al, .int r_5]) (rest := []) ⟨hx, hb, hml, hown, hts⟩ (c_X3_has l D cy c_al r_5 hw H.size) (va_cwS 2 hts gX3_isAllowedWord_X3_has rfl rfl rfl (by decide +kernel) ⟨Nat.le_of_ble_eq_true rfl, Nat.le_of_ble_eq_true rfl⟩) (j_preS hK hP hD (isC := []) rfl (by decide +kernel)) rfl rfl hl.1 rfl (lv_room (Nat.le_of_ble_eq_true rfl)) dX3_isAllowedWord_30 ⟨Nat.le_of_ble_eq_true rfl, Nat.le_of_ble_eq_true rfl⟩) hP hD hS hA [] [0, 1] rfl rfl (by decide +kernel) (by decide +kernel) (fun u_6 => [(a_this, .inr (3, [.int c_th, .int c_n, .int c_tu, .int c_al, .ref a_ro, .ref a_fr, .int c_le, .ref a_bu, .ref a_no, .ref a_te, .ref a_fa, .ref a_li, .int c_wa, .int c_re, .int c_us, .int c_di, .ref a_wy, .ref a_su, .long c_ha])), (a_bu, .inl (cy 0, 60, .inl c_bu))]) [0, 1] (by decide +kernel) (fun u => rfl) (fun r_7 u_6 H locs hw hP hD hS => ?_)
        have hP : va_P D vwCl ([(a_this, .inr (3, [.int c_th, .int c_n, .int c_tu, .int c_al, .ref a_ro, .ref a_fr, .int c_le, .ref a_bu, .ref a_no, .ref a_te, .ref a_fa, .ref a_li, .int c_wa, .int c_re, .int c_us, .int c_di, .ref a_wy, .ref a_su, .long c_ha])), (a_bu, .inl (cy 0, 60, .inl c_bu))]) H := hP
        have hD : va_D A ([(a_this, .inr (3, [.int c_th, .int c_n, .int c_tu, .int c_al, .ref a_ro, .ref a_fr, .int c_le, .ref a_bu, .ref a_no, .ref a_te, .ref a_fa, .ref a_li, .int c_wa, .int c_re, .int c_us, .int c_di, .ref a_wy, .ref a_su, .long c_ha])), (a_bu, .inl (cy 0, 60, .inl c_bu))]) := hD
        refine lv_if_eq (tgt := 40) hx hb dX3_isAllowedWord_33 (by decide) (fun c_8 => ?_) (fun c_8 => ?_)
        · replace hw := hw.1 c_8
          refine lv_iconst (v := 0) hx hb dX3_isAllowedWord_40 (by decide) ?_
          refine lv_istore_n (lv' := [(1, .int 0), (0, .ref a_this), (2, .int v_2)]) hx hb dX3_isAllowedWord_41 rfl hl (by decide) rfl (fun ls hl => ?_)
          refine lv_iinc (v := v_2 + 1) (lv' := [(2, .int (v_2 + 1)), (1, .int 0), (0, .ref a_this)]) hx hb dX3_isAllowedWord_42 hl (k := 2) rfl rfl (by decide) rfl (fun ls hl => ?_)
          refine lv_goto (tgt := 4) hx hb dX3_isAllowedWord_45 (by decide) ?_
          exact ih _ _ _ _ _ hw hP hD hS (lv_sub hl [2, 1, 0] rfl)
        · replace hw := hw.2 c_8
          refine lv_iconst (v := 1) hx hb dX3_isAllowedWord_36 (by decide) ?_
          refine lv_goto (tgt := 41) hx hb dX3_isAllowedWord_37 (by decide) ?_
          refine lv_istore_n (lv' := [(1, .int 1), (0, .ref a_this), (2, .int v_2)]) hx hb dX3_isAllowedWord_41 rfl hl (by decide) rfl (fun ls hl => ?_)
          refine lv_iinc (v := v_2 + 1) (lv' := [(2, .int (v_2 + 1)), (1, .int 1), (0, .ref a_this)]) hx hb dX3_isAllowedWord_42 hl (k := 2) rfl rfl (by decide) rfl (fun ls hl => ?_)
          refine lv_goto (tgt := 4) hx hb dX3_isAllowedWord_45 (by decide) ?_
          exact ih _ _ _ _ _ hw hP hD hS (lv_sub hl [2, 1, 0] rfl)
def wp_X3_isAllowedWord (c_tu : Int32) (c_al : Int32) (c_le : Int32) (c_bu : Nat → Int32) (post : Int32 → Unit → Prop) : Prop := (∃ N_9 : Nat, lp_X3_isAllowedWord_4 c_al c_bu c_le c_tu (fun (v_10 : Int32) (v_11 : Int32) => (narrow .boolean (.int v_10) = .int v_10 ∧ (post v_10 ()))) N_9 1 0)
set_option maxHeartbeats 4000000 in
set_option maxRecDepth 100000 in
theorem c_X3_isAllowedWord (l : Launch) (D : va_G) (cy : Nat → ClassId) (a_this : Nat) (a_ro : Nat) (a_fr : Nat) (a_bu : Nat) (a_no : Nat) (a_te : Nat) (a_fa : Nat) (a_li : Nat) (a_wy : Nat) (a_su : Nat) (c_th : Int32) (c_n : Int32) (c_tu : Int32) (c_al : Int32) (c_le : Int32) (c_wa : Int32) (c_re : Int32) (c_us : Int32) (c_di : Int32) (c_ha : Int64) (c_bu : Nat → Int32) {post : Int32 → Unit → Prop} (hw : wp_X3_isAllowedWord c_tu c_al c_le c_bu post) (sz : Nat) : Met l yX3_isAllowedWord wsX3_isAllowedWord ({ frames := 3, cells := 0, slots := 0, locals := 65 }) (va_Pc [.ref a_this] (PreW D cy ([(a_this, .inr (3, [.int c_th, .int c_n, .int c_tu, .int c_al, .ref a_ro, .ref a_fr, .int c_le, .ref a_bu, .ref a_no, .ref a_te, .ref a_fa, .ref a_li, .int c_wa, .int c_re, .int c_us, .int c_di, .ref a_wy, .ref a_su, .long c_ha])), (a_bu, .inl (cy 0, 60, .inl c_bu))]) sz)) (va_Qi post (fun u t => PostW D cy (va_A ([(a_this, .inr (3, [.int c_th, .int c_n, .int c_tu, .int c_al, .ref a_ro, .ref a_fr, .int c_le, .ref a_bu, .ref a_no, .ref a_te, .ref a_fa, .ref a_li, .int c_wa, .int c_re, .int c_us, .int c_di, .ref a_wy, .ref a_su, .long c_ha])), (a_bu, .inl (cy 0, 60, .inl c_bu))]) sz) ([(a_this, .inr (3, [.int c_th, .int c_n, .int c_tu, .int c_al, .ref a_ro, .ref a_fr, .int c_le, .ref a_bu, .ref a_no, .ref a_te, .ref a_fa, .ref a_li, .int c_wa, .int c_re, .int c_us, .int c_di, .ref a_wy, .ref a_su, .long c_ha])), (a_bu, .inl (cy 0, 60, .inl c_bu))]) t) (va_A ([(a_this, .inr (3, [.int c_th, .int c_n, .int c_tu, .int c_al, .ref a_ro, .ref a_fr, .int c_le, .ref a_bu, .ref a_no, .ref a_te, .ref a_fa, .ref a_li, .int c_wa, .int c_re, .int c_us, .int c_di, .ref a_wy, .ref a_su, .long c_ha])), (a_bu, .inl (cy 0, 60, .inl c_bu))]) sz)) 0 0 (va_A ([(a_this, .inr (3, [.int c_th, .int c_n, .int c_tu, .int c_al, .ref a_ro, .ref a_fr, .int c_le, .ref a_bu, .ref a_no, .ref a_te, .ref a_fa, .ref a_li, .int c_wa, .int c_re, .int c_us, .int c_di, .ref a_wy, .ref a_su, .long c_ha])), (a_bu, .inl (cy 0, 60, .inl c_bu))]) sz) := by
  refine j_met (Qc := fun A => va_Qi post (fun u t => PostW D cy A ([(a_this, .inr (3, [.int c_th, .int c_n, .int c_tu, .int c_al, .ref a_ro, .ref a_fr, .int c_le, .ref a_bu, .ref a_no, .ref a_te, .ref a_fa, .ref a_li, .int c_wa, .int c_re, .int c_us, .int c_di, .ref a_wy, .ref a_su, .long c_ha])), (a_bu, .inl (cy 0, 60, .inl c_bu))]) t) A) (by decide +kernel) rfl (Nat.le_of_ble_eq_true rfl) ?_
  intro p e s m below meth c A ls C0 hr hlocks hP hD hS hl
  obtain ⟨hx, hb, hml, hown, hts, hK, hA⟩ := id C0
  have hown : s.vm.findClass RX3 = some m.cls := hown
  have hl : lv_has ls 3 [(0, .ref a_this)] := hl
  unfold wp_X3_isAllowedWord at hw
  refine lv_iconst (v := 1) hx hb dX3_isAllowedWord_0 (by decide) ?_
  refine lv_istore_n (lv' := [(1, .int 1), (0, .ref a_this)]) hx hb dX3_isAllowedWord_1 rfl hl (by decide) rfl (fun ls hl => ?_)
  refine lv_iconst (v := 0) hx hb dX3_isAllowedWord_2 (by decide) ?_
  refine lv_istore_n (lv' := [(2, .int 0), (1, .int 1), (0, .ref a_this)]) hx hb dX3_isAllowedWord_3 rfl hl (by decide) rfl (fun ls hl => ?_)
  obtain ⟨N_9, hw⟩ := hw
  refine l_X3_isAllowedWord_4 C0 (fun v_10 v_11 H locs ls hw hP hD hS hl => ?_) _ _ _ _ _ _ hw hP hD hS (lv_sub hl [2, 1, 0] rfl)
  refine lv_iload_n hx hb dX3_isAllowedWord_48 rfl (lv_at hl 0 rfl) ?_
  obtain ⟨h_12, hw⟩ := hw
  exact j_zret (fun u => [(a_this, .inr (3, [.int c_th, .int c_n, .int c_tu, .int c_al, .ref a_ro, .ref a_fr, .int c_le, .ref a_bu, .ref a_no, .ref a_te, .ref a_fa, .ref a_li, .int c_wa, .int c_re, .int c_us, .int c_di, .ref a_wy, .ref a_su, .long c_ha])), (a_bu, .inl (cy 0, 60, .inl c_bu))]) (() : Unit) hx hb hr h_12 hlocks hK hP hD hS hw dX3_isAllowedWord_49
theorem q_X3_run_1 : Cond.fieldLink RX3 46 "TwistedRowModel" "thrown" "I" ∈ wsX3_run := List.mem_of_getElem? (i := 1) rfl
theorem k_X3_run_X3 : ∀ w ∈ wsX30, w ∈ wsX3_run := my_in _ [45, 46, 47, 48, 49, 50, 51, 52, 53, 54, 55, 56, 57, 58, 59, 60, 61, 62, 63] (by decide +kernel)
theorem q_X3_run_2 : Cond.fieldLink RX3 122 "TwistedRowModel" "length" "I" ∈ wsX3_run := List.mem_of_getElem? (i := 2) rfl
theorem q_X3_run_3 : Cond.fieldLink RX3 20 "TwistedRowModel" "buffer" "[I" ∈ wsX3_run := List.mem_of_getElem? (i := 3) rfl
def lp_X3_run_43 (c_bu : Nat → Int32) (c_fr : Nat → Int32) (c_n : Int32) (c_tu : Int32) (v_1 : Int32) (K69 : Int32 → (Nat → Int32) → (Nat → Int32) → Prop) : Nat → Int32 → (Nat → Int32) → (Nat → Int32) → Prop
  | 0, _, _, _ => False
  | N + 1, v_2, c_ro, c_te => ((v_1 ≤ v_2 → (K69 v_2 c_ro c_te)) ∧ (¬ v_1 ≤ v_2 → (vp_in v_2 60 ∧ (wp_X3_moveBy c_tu (c_bu (v_2 : Int32).toNatClampNeg) (fun r_11 u_10 => (wp_X3_doMove c_n c_ro c_fr c_te r_11 (fun r_13 u_12 => (lp_X3_run_43 c_bu c_fr c_n c_tu v_1 K69 N (v_2 + 1) u_12.1 u_12.2))))))))
set_option maxHeartbeats 4000000 in
set_option maxRecDepth 100000 in
theorem l_X3_run_43 {p : Program} {l : Launch} {e : Env} {s : State} {m : MethodId} {args : Array Value} {below : List Frame} {meth : Method} {c : Code} {A : Nat → Prop} {D : va_G} {cy : Nat → ClassId} {Q : State → Prop} {a_this : Nat} {a_ro : Nat} {a_fr : Nat} {a_bu : Nat} {a_no : Nat} {a_te : Nat} {a_fa : Nat} {a_li : Nat} {a_wy : Nat} {a_su : Nat} {c_th : Int32} {c_n : Int32} {c_tu : Int32} {c_al : Int32} {c_le : Int32} {c_wa : Int32} {c_re : Int32} {c_us : Int32} {c_di : Int32} {c_ha : Int64} {c_fr : Nat → Int32} {c_bu : Nat → Int32} {v_1 : Int32} {K69 : Int32 → (Nat → Int32) → (Nat → Int32) → Prop} (C0 : Cx p s m args c cX3_run yX3_run.cls 3 wsX3_run D cy A)
    (k69 : ∀ (v_2 : Int32) (c_ro : Nat → Int32) (c_te : Nat → Int32) (H : Heap) (locs : List Loc) (ls : Array Slot), K69 v_2 c_ro c_te → va_P D vwCl ([(a_this, .inr (3, [.int c_th, .int c_n, .int c_tu, .int c_al, .ref a_ro, .ref a_fr, .int c_le, .ref a_bu, .ref a_no, .ref a_te, .ref a_fa, .ref a_li, .int c_wa, .int c_re, .int c_us, .int c_di, .ref a_wy, .ref a_su, .long c_ha])), (a_ro, .inl (cy 0, 8, .inl c_ro)), (a_fr, .inl (cy 0, 96, .inl c_fr)), (a_bu, .inl (cy 0, 60, .inl c_bu)), (a_te, .inl (cy 0, 8, .inl c_te))]) H → va_D A ([(a_this, .inr (3, [.int c_th, .int c_n, .int c_tu, .int c_al, .ref a_ro, .ref a_fr, .int c_le, .ref a_bu, .ref a_no, .ref a_te, .ref a_fa, .ref a_li, .int c_wa, .int c_re, .int c_us, .int c_di, .ref a_wy, .ref a_su, .long c_ha])), (a_ro, .inl (cy 0, 8, .inl c_ro)), (a_fr, .inl (cy 0, 96, .inl c_fr)), (a_bu, .inl (cy 0, 60, .inl c_bu)), (a_te, .inl (cy 0, 8, .inl c_te))]) → va_S A s.heap H locs → lv_has ls 3 [(0, .ref a_this), (1, .int v_1)] → W p l e (({ frames := 5, cells := 0, slots := 0, locals := 106 } : Room)) s m args below meth c H locs 0 0 Q (F0 m 69 ls [])) :
    ∀ (N : Nat) (v_2 : Int32) (c_ro : Nat → Int32) (c_te : Nat → Int32) (H : Heap) (locs : List Loc) (ls : Array Slot), lp_X3_run_43 c_bu c_fr c_n c_tu v_1 K69 N v_2 c_ro c_te → va_P D vwCl ([(a_this, .inr (3, [.int c_th, .int c_n, .int c_tu, .int c_al, .ref a_ro, .ref a_fr, .int c_le, .ref a_bu, .ref a_no, .ref a_te, .ref a_fa, .ref a_li, .int c_wa, .int c_re, .int c_us, .int c_di, .ref a_wy, .ref a_su, .long c_ha])), (a_ro, .inl (cy 0, 8, .inl c_ro)), (a_fr, .inl (cy 0, 96, .inl c_fr)), (a_bu, .inl (cy 0, 60, .inl c_bu)), (a_te, .inl (cy 0, 8, .inl c_te))]) H → va_D A ([(a_this, .inr (3, [.int c_th, .int c_n, .int c_tu, .int c_al, .ref a_ro, .ref a_fr, .int c_le, .ref a_bu, .ref a_no, .ref a_te, .ref a_fa, .ref a_li, .int c_wa, .int c_re, .int c_us, .int c_di, .ref a_wy, .ref a_su, .long c_ha])), (a_ro, .inl (cy 0, 8, .inl c_ro)), (a_fr, .inl (cy 0, 96, .inl c_fr)), (a_bu, .inl (cy 0, 60, .inl c_bu)), (a_te, .inl (cy 0, 8, .inl c_te))]) → va_S A s.heap H locs → lv_has ls 3 [(0, .ref a_this), (1, .int v_1), (2, .int v_2)] → W p l e (({ frames := 5, cells := 0, slots := 0, locals := 106 } : Room)) s m args below meth c H locs 0 0 Q (F0 m 43 ls []) := by
  obtain ⟨hx, hb, hml, hown, hts, hK, hA⟩ := id C0
  intro N
  induction N with
  | zero =>
    intro v_2 c_ro c_te H locs ls hw
    exact False.elim hw
  | succ N ih =>
    intro v_2 c_ro c_te H locs ls hw hP hD hS hl
    rw [lp_X3_run_43] at hw
    refine lv_iload_n hx hb dX3_run_43 rfl (lv_at hl 2 rfl) ?_
    refine lv_iload_n hx hb dX3_run_44 rfl (lv_at hl 1 rfl) ?_
    refine lv_icmp_ge (tgt := 69) hx hb dX3_run_45 (by decide) (fun c_8 => ?_) (fun c_8 => ?_)
    · replace hw := hw.1 c_8
      exact k69 _ _ _ _ _ _ hw hP hD hS (lv_sub hl [0, 1] rfl)
    · replace hw := hw.2 c_8
      refine lv_aload_n hx hb dX3_run_48 rfl (lv_at hl 0 rfl) ?_
      refine lv_aload_n hx hb dX3_run_49 rfl (lv_at hl 0 rfl) ?_
      refine lv_aload_n hx hb dX3_run_50 rfl (lv_at hl 0 rfl) ?_
      refine va_get (D := D) (ci := 3) (v := .ref a_bu) (C := RX3) (T := TX3) (N := 19) hx hb hts k_X3_run_X3 hown hK hP 0 rfl rfl 7 (by decide) (hts _ q_X3_run_3) (fun _ h9 => h9) rfl dX3_run_51 ?_
      refine lv_iload_n hx hb dX3_run_54 rfl (lv_at hl 2 rfl) ?_
      obtain ⟨h_9, hw⟩ := hw
      refine va_iald hx hb hK hP 3 0 rfl rfl h_9 dX3_run_55 ?_
      refine j_calli (wr := [(a_ro, .inl (cy 0, 8, .inl c_ro)), (a_fr, .inl (cy 0, 96, .inl c_fr)), (a_bu, .inl (cy 0, 60, .inl c_bu)), (a_te, .inl (cy 0, 8, .inl c_te))]) (va_runV (As := [.int (c_bu (v_2 : Int32).toNatClampNeg)]) (rest := [.ref a_this]) ⟨hx, hb, hml, hown, hts⟩ (c_X3_moveBy l D cy a_this a_ro a_fr a_bu a_no a_te a_fa a_li a_wy a_su c_th c_n c_tu c_al c_le c_wa c_re c_us c_di c_ha (c_bu (v_2 : Int32).toNatClampNeg) hw H.size) (cwV 1 hts gX3_run_X3_moveBy rfl rfl rfl (by decide +kernel) ⟨Nat.le_of_ble_eq_true rfl, Nat.le_of_ble_eq_true rfl⟩) (j_preV hK hP hD (isC := [0]) rfl (by decide +kernel) (ci := 3) (q0 := 0) rfl rfl) rfl rfl hl.1 rfl (lv_room (Nat.le_of_ble_eq_true rfl)) dX3_run_56 ⟨Nat.le_of_ble_eq_true rfl, Nat.le_of_ble_eq_true rfl⟩) hP hD hS hA [0] [1, 2, 3, 4] rfl rfl (by decide +kernel) (by decide +kernel) (fun u_10 => [(a_this, .inr (3, [.int c_th, .int c_n, .int c_tu, .int c_al, .ref a_ro, .ref a_fr, .int c_le, .ref a_bu, .ref a_no, .ref a_te, .ref a_fa, .ref a_li, .int c_wa, .int c_re, .int c_us, .int c_di, .ref a_wy, .ref a_su, .long c_ha])), (a_ro, .inl (cy 0, 8, .inl c_ro)), (a_fr, .inl (cy 0, 96, .inl c_fr)), (a_bu, .inl (cy 0, 60, .inl c_bu)), (a_te, .inl (cy 0, 8, .inl c_te))]) [4, 0, 1, 2, 3] (by decide +kernel) (fun u => rfl) (fun r_11 u_10 H locs hw hP hD hS => ?_)
      have hP : va_P D vwCl ([(a_this, .inr (3, [.int c_th, .int c_n, .int c_tu, .int c_al, .ref a_ro, .ref a_fr, .int c_le, .ref a_bu, .ref a_no, .ref a_te, .ref a_fa, .ref a_li, .int c_wa, .int c_re, .int c_us, .int c_di, .ref a_wy, .ref a_su, .long c_ha])), (a_ro, .inl (cy 0, 8, .inl c_ro)), (a_fr, .inl (cy 0, 96, .inl c_fr)), (a_bu, .inl (cy 0, 60, .inl c_bu)), (a_te, .inl (cy 0, 8, .inl c_te))]) H := hP
      have hD : va_D A ([(a_this, .inr (3, [.int c_th, .int c_n, .int c_tu, .int c_al, .ref a_ro, .ref a_fr, .int c_le, .ref a_bu, .ref a_no, .ref a_te, .ref a_fa, .ref a_li, .int c_wa, .int c_re, .int c_us, .int c_di, .ref a_wy, .ref a_su, .long c_ha])), (a_ro, .inl (cy 0, 8, .inl c_ro)), (a_fr, .inl (cy 0, 96, .inl c_fr)), (a_bu, .inl (cy 0, 60, .inl c_bu)), (a_te, .inl (cy 0, 8, .inl c_te))]) := hD
      refine j_calli (wr := [(a_bu, .inl (cy 0, 60, .inl c_bu))]) (va_runV (As := [.int r_11]) (rest := []) ⟨hx, hb, hml, hown, hts⟩ (c_X3_doMove l D cy a_this a_ro a_fr a_bu a_no a_te a_fa a_li a_wy a_su c_th c_n c_tu c_al c_le c_wa c_re c_us c_di c_ha c_ro c_fr c_te r_11 hw H.size) (cwV 1 hts gX3_run_X3_doMove rfl rfl rfl (by decide +kernel) ⟨Nat.le_of_ble_eq_true rfl, Nat.le_of_ble_eq_true rfl⟩) (j_preV hK hP hD (isC := [0, 1, 2, 4]) rfl (by decide +kernel) (ci := 3) (q0 := 0) rfl rfl) rfl rfl hl.1 rfl (lv_room (Nat.le_of_ble_eq_true rfl)) dX3_run_59 ⟨Nat.le_of_ble_eq_true rfl, Nat.le_of_ble_eq_true rfl⟩) hP hD hS hA [0, 1, 2, 4] [3] rfl rfl (by decide +kernel) (by decide +kernel) (fun u_12 => [(a_this, .inr (3, [.int c_th, .int c_n, .int c_tu, .int c_al, .ref a_ro, .ref a_fr, .int c_le, .ref a_bu, .ref a_no, .ref a_te, .ref a_fa, .ref a_li, .int c_wa, .int c_re, .int c_us, .int c_di, .ref a_wy, .ref a_su, .long c_ha])), (a_ro, .inl (cy 0, 8, .inl u_12.1)), (a_fr, .inl (cy 0, 96, .inl c_fr)), (a_bu, .inl (cy 0, 60, .inl c_bu)), (a_te, .inl (cy 0, 8, .inl u_12.2))]) [1, 2, 3, 0, 4] (by decide +kernel) (fun u => rfl) (fun r_13 u_12 H locs hw hP hD hS => ?_)
      have hP : va_P D vwCl ([(a_this, .inr (3, [.int c_th, .int c_n, .int c_tu, .int c_al, .ref a_ro, .ref a_fr, .int c_le, .ref a_bu, .ref a_no, .ref a_te, .ref a_fa, .ref a_li, .int c_wa, .int c_re, .int c_us, .int c_di, .ref a_wy, .ref a_su, .long c_ha])), (a_ro, .inl (cy 0, 8, .inl u_12.1)), (a_fr, .inl (cy 0, 96, .inl c_fr)), (a_bu, .inl (cy 0, 60, .inl c_bu)), (a_te, .inl (cy 0, 8, .inl u_12.2))]) H := hP
      have hD : va_D A ([(a_this, .inr (3, [.int c_th, .int c_n, .int c_tu, .int c_al, .ref a_ro, .ref a_fr, .int c_le, .ref a_bu, .ref a_no, .ref a_te, .ref a_fa, .ref a_li, .int c_wa, .int c_re, .int c_us, .int c_di, .ref a_wy, .ref a_su, .long c_ha])), (a_ro, .inl (cy 0, 8, .inl u_12.1)), (a_fr, .inl (cy 0, 96, .inl c_fr)), (a_bu, .inl (cy 0, 60, .inl c_bu)), (a_te, .inl (cy 0, 8, .inl u_12.2))]) := hD
      refine lv_pop hx hb dX3_run_62 rfl ?_
      refine lv_iinc (v := v_2 + 1) (lv' := [(2, .int (v_2 + 1)), (0, .ref a_this), (1, .int v_1)]) hx hb dX3_run_63 hl (k := 2) rfl rfl (by decide) rfl (fun ls hl => ?_)
      refine lv_goto (tgt := 43) hx hb dX3_run_66 (by decide) ?_
      exact ih _ _ _ _ _ _ hw hP hD hS (lv_sub hl [1, 2, 0] rfl)
def wp_X3_run (c_n : Int32) (c_tu : Int32) (c_al : Int32) (c_le : Int32) (c_ro : Nat → Int32) (c_fr : Nat → Int32) (c_bu : Nat → Int32) (c_te : Nat → Int32) (post : Int32 → (Int32 × Int32 × (Nat → Int32) × (Nat → Int32)) → Prop) : Prop := (wp_X3_isWord c_tu c_le c_bu (fun r_2 u_1 => ((¬ r_2 = 0 → (wp_X3_isAllowedWord c_tu c_al c_le c_bu (fun r_5 u_4 => ((r_5 = 0 → (((2 : Int32) ≤ 0 → (∃ N_14 : Nat, lp_X3_run_43 c_bu c_fr c_n c_tu c_le (fun (v_15 : Int32) (c_16 : Nat → Int32) (c_17 : Nat → Int32) => (post c_le ((2 : Int32), (0 : Int32), c_16, c_17))) N_14 0 c_ro c_te)) ∧ (¬ (2 : Int32) ≤ 0 → (post 0 ((2 : Int32), c_le, c_ro, c_te))))) ∧ (¬ r_5 = 0 → (((0 : Int32) ≤ 0 → (∃ N_19 : Nat, lp_X3_run_43 c_bu c_fr c_n c_tu c_le (fun (v_20 : Int32) (c_21 : Nat → Int32) (c_22 : Nat → Int32) => (post c_le ((0 : Int32), (0 : Int32), c_21, c_22))) N_19 0 c_ro c_te)) ∧ (¬ (0 : Int32) ≤ 0 → (post 0 ((0 : Int32), c_le, c_ro, c_te))))))))) ∧ (r_2 = 0 → (((1 : Int32) ≤ 0 → (∃ N_24 : Nat, lp_X3_run_43 c_bu c_fr c_n c_tu c_le (fun (v_25 : Int32) (c_26 : Nat → Int32) (c_27 : Nat → Int32) => (post c_le ((1 : Int32), (0 : Int32), c_26, c_27))) N_24 0 c_ro c_te)) ∧ (¬ (1 : Int32) ≤ 0 → (post 0 ((1 : Int32), c_le, c_ro, c_te))))))))
set_option maxHeartbeats 4000000 in
set_option maxRecDepth 100000 in
theorem c_X3_run (l : Launch) (D : va_G) (cy : Nat → ClassId) (a_this : Nat) (a_ro : Nat) (a_fr : Nat) (a_bu : Nat) (a_no : Nat) (a_te : Nat) (a_fa : Nat) (a_li : Nat) (a_wy : Nat) (a_su : Nat) (c_th : Int32) (c_n : Int32) (c_tu : Int32) (c_al : Int32) (c_le : Int32) (c_wa : Int32) (c_re : Int32) (c_us : Int32) (c_di : Int32) (c_ha : Int64) (c_ro : Nat → Int32) (c_fr : Nat → Int32) (c_bu : Nat → Int32) (c_te : Nat → Int32) {post : Int32 → (Int32 × Int32 × (Nat → Int32) × (Nat → Int32)) → Prop} (hw : wp_X3_run c_n c_tu c_al c_le c_ro c_fr c_bu c_te post) (sz : Nat) : Met l yX3_run wsX3_run ({ frames := 5, cells := 0, slots := 0, locals := 106 }) (va_Pc [.ref a_this] (PreW D cy ([(a_this, .inr (3, [.int c_th, .int c_n, .int c_tu, .int c_al, .ref a_ro, .ref a_fr, .int c_le, .ref a_bu, .ref a_no, .ref a_te, .ref a_fa, .ref a_li, .int c_wa, .int c_re, .int c_us, .int c_di, .ref a_wy, .ref a_su, .long c_ha])), (a_ro, .inl (cy 0, 8, .inl c_ro)), (a_fr, .inl (cy 0, 96, .inl c_fr)), (a_bu, .inl (cy 0, 60, .inl c_bu)), (a_te, .inl (cy 0, 8, .inl c_te))]) sz)) (va_Qi post (fun u t => PostW D cy (va_A ([(a_this, .inr (3, [.int c_th, .int c_n, .int c_tu, .int c_al, .ref a_ro, .ref a_fr, .int c_le, .ref a_bu, .ref a_no, .ref a_te, .ref a_fa, .ref a_li, .int c_wa, .int c_re, .int c_us, .int c_di, .ref a_wy, .ref a_su, .long c_ha])), (a_ro, .inl (cy 0, 8, .inl c_ro)), (a_fr, .inl (cy 0, 96, .inl c_fr)), (a_bu, .inl (cy 0, 60, .inl c_bu)), (a_te, .inl (cy 0, 8, .inl c_te))]) sz) ([(a_this, .inr (3, [.int u.1, .int c_n, .int c_tu, .int c_al, .ref a_ro, .ref a_fr, .int u.2.1, .ref a_bu, .ref a_no, .ref a_te, .ref a_fa, .ref a_li, .int c_wa, .int c_re, .int c_us, .int c_di, .ref a_wy, .ref a_su, .long c_ha])), (a_ro, .inl (cy 0, 8, .inl u.2.2.1)), (a_fr, .inl (cy 0, 96, .inl c_fr)), (a_bu, .inl (cy 0, 60, .inl c_bu)), (a_te, .inl (cy 0, 8, .inl u.2.2.2))]) t) (va_A ([(a_this, .inr (3, [.int c_th, .int c_n, .int c_tu, .int c_al, .ref a_ro, .ref a_fr, .int c_le, .ref a_bu, .ref a_no, .ref a_te, .ref a_fa, .ref a_li, .int c_wa, .int c_re, .int c_us, .int c_di, .ref a_wy, .ref a_su, .long c_ha])), (a_ro, .inl (cy 0, 8, .inl c_ro)), (a_fr, .inl (cy 0, 96, .inl c_fr)), (a_bu, .inl (cy 0, 60, .inl c_bu)), (a_te, .inl (cy 0, 8, .inl c_te))]) sz)) 0 0 (va_A ([(a_this, .inr (3, [.int c_th, .int c_n, .int c_tu, .int c_al, .ref a_ro, .ref a_fr, .int c_le, .ref a_bu, .ref a_no, .ref a_te, .ref a_fa, .ref a_li, .int c_wa, .int c_re, .int c_us, .int c_di, .ref a_wy, .ref a_su, .long c_ha])), (a_ro, .inl (cy 0, 8, .inl c_ro)), (a_fr, .inl (cy 0, 96, .inl c_fr)), (a_bu, .inl (cy 0, 60, .inl c_bu)), (a_te, .inl (cy 0, 8, .inl c_te))]) sz) := by
  refine j_met (Qc := fun A => va_Qi post (fun u t => PostW D cy A ([(a_this, .inr (3, [.int u.1, .int c_n, .int c_tu, .int c_al, .ref a_ro, .ref a_fr, .int u.2.1, .ref a_bu, .ref a_no, .ref a_te, .ref a_fa, .ref a_li, .int c_wa, .int c_re, .int c_us, .int c_di, .ref a_wy, .ref a_su, .long c_ha])), (a_ro, .inl (cy 0, 8, .inl u.2.2.1)), (a_fr, .inl (cy 0, 96, .inl c_fr)), (a_bu, .inl (cy 0, 60, .inl c_bu)), (a_te, .inl (cy 0, 8, .inl u.2.2.2))]) t) A) (by decide +kernel) rfl (Nat.le_of_ble_eq_true rfl) ?_
  intro p e s m below meth c A ls C0 hr hlocks hP hD hS hl
  obtain ⟨hx, hb, hml, hown, hts, hK, hA⟩ := id C0
  have hown : s.vm.findClass RX3 = some m.cls := hown
  have hl : lv_has ls 3 [(0, .ref a_this)] := hl
  unfold wp_X3_run at hw
  refine lv_aload_n hx hb dX3_run_0 rfl (lv_at hl 0 rfl) ?_
  refine lv_aload_n hx hb dX3_run_1 rfl (lv_at hl 0 rfl) ?_
  refine j_calli (wr := [(a_ro, .inl (cy 0, 8, .inl c_ro)), (a_fr, .inl (cy 0, 96, .inl c_fr)), (a_te, .inl (cy 0, 8, .inl c_te))]) (va_runV (As := []) (rest := [.ref a_this]) ⟨hx, hb, hml, hown, hts⟩ (c_X3_isWord l D cy a_this a_ro a_fr a_bu a_no a_te a_fa a_li a_wy a_su c_th c_n c_tu c_al c_le c_wa c_re c_us c_di c_ha c_bu hw s.heap.size) (cwV 0 hts gX3_run_X3_isWord rfl rfl rfl (by decide +kernel) ⟨Nat.le_of_ble_eq_true rfl, Nat.le_of_ble_eq_true rfl⟩) (j_preV hK hP hD (isC := [0, 3]) rfl (by decide +kernel) (ci := 3) (q0 := 0) rfl rfl) rfl rfl hl.1 rfl (lv_room (Nat.le_of_ble_eq_true rfl)) dX3_run_2 ⟨Nat.le_of_ble_eq_true rfl, Nat.le_of_ble_eq_true rfl⟩) hP hD hS hA [0, 3] [1, 2, 4] rfl rfl (by decide +kernel) (by decide +kernel) (fun u_1 => [(a_this, .inr (3, [.int c_th, .int c_n, .int c_tu, .int c_al, .ref a_ro, .ref a_fr, .int c_le, .ref a_bu, .ref a_no, .ref a_te, .ref a_fa, .ref a_li, .int c_wa, .int c_re, .int c_us, .int c_di, .ref a_wy, .ref a_su, .long c_ha])), (a_ro, .inl (cy 0, 8, .inl c_ro)), (a_fr, .inl (cy 0, 96, .inl c_fr)), (a_bu, .inl (cy 0, 60, .inl c_bu)), (a_te, .inl (cy 0, 8, .inl c_te))]) [3, 0, 1, 4, 2] (by decide +kernel) (fun u => rfl) (fun r_2 u_1 H locs hw hP hD hS => ?_)
  have hP : va_P D vwCl ([(a_this, .inr (3, [.int c_th, .int c_n, .int c_tu, .int c_al, .ref a_ro, .ref a_fr, .int c_le, .ref a_bu, .ref a_no, .ref a_te, .ref a_fa, .ref a_li, .int c_wa, .int c_re, .int c_us, .int c_di, .ref a_wy, .ref a_su, .long c_ha])), (a_ro, .inl (cy 0, 8, .inl c_ro)), (a_fr, .inl (cy 0, 96, .inl c_fr)), (a_bu, .inl (cy 0, 60, .inl c_bu)), (a_te, .inl (cy 0, 8, .inl c_te))]) H := hP
  have hD : va_D A ([(a_this, .inr (3, [.int c_th, .int c_n, .int c_tu, .int c_al, .ref a_ro, .ref a_fr, .int c_le, .ref a_bu, .ref a_no, .ref a_te, .ref a_fa, .ref a_li, .int c_wa, .int c_re, .int c_us, .int c_di, .ref a_wy, .ref a_su, .long c_ha])), (a_ro, .inl (cy 0, 8, .inl c_ro)), (a_fr, .inl (cy 0, 96, .inl c_fr)), (a_bu, .inl (cy 0, 60, .inl c_bu)), (a_te, .inl (cy 0, 8, .inl c_te))]) := hD
  refine lv_if_ne (tgt := 12) hx hb dX3_run_5 (by decide) (fun c_3 => ?_) (fun c_3 => ?_)
  · replace hw := hw.1 c_3
    refine lv_aload_n hx hb dX3_run_12 rfl (lv_at hl 0 rfl) ?_
    refine j_calli (wr := [(a_ro, .inl (cy 0, 8, .inl c_ro)), (a_fr, .inl (cy 0, 96, .inl c_fr)), (a_te, .inl (cy 0, 8, .inl c_te))]) (va_runV (As := []) (rest := [.ref a_this]) ⟨hx, hb, hml, hown, hts⟩ (c_X3_isAllowedWord l D cy a_this a_ro a_fr a_bu a_no a_te a_fa a_li a_wy a_su c_th c_n c_tu c_al c_le c_wa c_re c_us c_di c_ha c_bu hw H.size) (cwV 0 hts gX3_run_X3_isAllowedWord rfl rfl rfl (by decide +kernel) ⟨Nat.le_of_ble_eq_true rfl, Nat.le_of_ble_eq_true rfl⟩) (j_preV hK hP hD (isC := [0, 3]) rfl (by decide +kernel) (ci := 3) (q0 := 0) rfl rfl) rfl rfl hl.1 rfl (lv_room (Nat.le_of_ble_eq_true rfl)) dX3_run_13 ⟨Nat.le_of_ble_eq_true rfl, Nat.le_of_ble_eq_true rfl⟩) hP hD hS hA [0, 3] [1, 2, 4] rfl rfl (by decide +kernel) (by decide +kernel) (fun u_4 => [(a_this, .inr (3, [.int c_th, .int c_n, .int c_tu, .int c_al, .ref a_ro, .ref a_fr, .int c_le, .ref a_bu, .ref a_no, .ref a_te, .ref a_fa, .ref a_li, .int c_wa, .int c_re, .int c_us, .int c_di, .ref a_wy, .ref a_su, .long c_ha])), (a_ro, .inl (cy 0, 8, .inl c_ro)), (a_fr, .inl (cy 0, 96, .inl c_fr)), (a_bu, .inl (cy 0, 60, .inl c_bu)), (a_te, .inl (cy 0, 8, .inl c_te))]) [3, 0, 1, 4, 2] (by decide +kernel) (fun u => rfl) (fun r_5 u_4 H locs hw hP hD hS => ?_)
    have hP : va_P D vwCl ([(a_this, .inr (3, [.int c_th, .int c_n, .int c_tu, .int c_al, .ref a_ro, .ref a_fr, .int c_le, .ref a_bu, .ref a_no, .ref a_te, .ref a_fa, .ref a_li, .int c_wa, .int c_re, .int c_us, .int c_di, .ref a_wy, .ref a_su, .long c_ha])), (a_ro, .inl (cy 0, 8, .inl c_ro)), (a_fr, .inl (cy 0, 96, .inl c_fr)), (a_bu, .inl (cy 0, 60, .inl c_bu)), (a_te, .inl (cy 0, 8, .inl c_te))]) H := hP
    have hD : va_D A ([(a_this, .inr (3, [.int c_th, .int c_n, .int c_tu, .int c_al, .ref a_ro, .ref a_fr, .int c_le, .ref a_bu, .ref a_no, .ref a_te, .ref a_fa, .ref a_li, .int c_wa, .int c_re, .int c_us, .int c_di, .ref a_wy, .ref a_su, .long c_ha])), (a_ro, .inl (cy 0, 8, .inl c_ro)), (a_fr, .inl (cy 0, 96, .inl c_fr)), (a_bu, .inl (cy 0, 60, .inl c_bu)), (a_te, .inl (cy 0, 8, .inl c_te))]) := hD
    refine lv_if_eq (tgt := 23) hx hb dX3_run_16 (by decide) (fun c_6 => ?_) (fun c_6 => ?_)
    · replace hw := hw.1 c_6
      refine lv_iconst (v := 2) hx hb dX3_run_23 (by decide) ?_
      refine va_put (D := D) (ci := 3) (v := .int 2) (ty := .int) (C := RX3) (T := TX3) (N := 19) hx hb hts k_X3_run_X3 tyX3 tyX3_ok nmX3 hown hK hP hD hS 0 rfl rfl 0 (by decide) (hts _ q_X3_run_1) (fun _ h9 => h9) rfl (by decide +kernel) rfl rfl (Nat.le_of_ble_eq_true rfl) dX3_run_24 (fun H locs hP hD hS => ?_)
      have hP : va_P D vwCl ([(a_this, .inr (3, [.int (2 : Int32), .int c_n, .int c_tu, .int c_al, .ref a_ro, .ref a_fr, .int c_le, .ref a_bu, .ref a_no, .ref a_te, .ref a_fa, .ref a_li, .int c_wa, .int c_re, .int c_us, .int c_di, .ref a_wy, .ref a_su, .long c_ha])), (a_ro, .inl (cy 0, 8, .inl c_ro)), (a_fr, .inl (cy 0, 96, .inl c_fr)), (a_bu, .inl (cy 0, 60, .inl c_bu)), (a_te, .inl (cy 0, 8, .inl c_te))]) H := hP
      have hD : va_D A ([(a_this, .inr (3, [.int (2 : Int32), .int c_n, .int c_tu, .int c_al, .ref a_ro, .ref a_fr, .int c_le, .ref a_bu, .ref a_no, .ref a_te, .ref a_fa, .ref a_li, .int c_wa, .int c_re, .int c_us, .int c_di, .ref a_wy, .ref a_su, .long c_ha])), (a_ro, .inl (cy 0, 8, .inl c_ro)), (a_fr, .inl (cy 0, 96, .inl c_fr)), (a_bu, .inl (cy 0, 60, .inl c_bu)), (a_te, .inl (cy 0, 8, .inl c_te))]) := hD
      refine lv_aload_n hx hb dX3_run_27 rfl (lv_at hl 0 rfl) ?_
      refine va_get (D := D) (ci := 3) (v := .int (2 : Int32)) (C := RX3) (T := TX3) (N := 19) hx hb hts k_X3_run_X3 hown hK hP 0 rfl rfl 0 (by decide) (hts _ q_X3_run_1) (fun _ h9 => h9) rfl dX3_run_28 ?_
      refine lv_if_le (tgt := 36) hx hb dX3_run_31 (by decide) (fun c_7 => ?_) (fun c_7 => ?_)
      · replace hw := hw.1 c_7
        refine lv_aload_n hx hb dX3_run_36 rfl (lv_at hl 0 rfl) ?_
        refine va_get (D := D) (ci := 3) (v := .int c_le) (C := RX3) (T := TX3) (N := 19) hx hb hts k_X3_run_X3 hown hK hP 0 rfl rfl 6 (by decide) (hts _ q_X3_run_2) (fun _ h9 => h9) rfl dX3_run_37 ?_
        refine lv_istore_n (lv' := [(1, .int c_le), (0, .ref a_this)]) hx hb dX3_run_40 rfl hl (by decide) rfl (fun ls hl => ?_)
        refine lv_iconst (v := 0) hx hb dX3_run_41 (by decide) ?_
        refine lv_istore_n (lv' := [(2, .int 0), (1, .int c_le), (0, .ref a_this)]) hx hb dX3_run_42 rfl hl (by decide) rfl (fun ls hl => ?_)
        obtain ⟨N_14, hw⟩ := hw
        refine l_X3_run_43 C0 (fun v_15 c_16 c_17 H locs ls hw hP hD hS hl => ?_) _ _ _ _ _ _ _ hw hP hD hS (lv_sub hl [2, 1, 0] rfl)
        refine lv_aload_n hx hb dX3_run_69 rfl (lv_at hl 0 rfl) ?_
        refine lv_iconst (v := 0) hx hb dX3_run_70 (by decide) ?_
        refine va_put (D := D) (ci := 3) (v := .int 0) (ty := .int) (C := RX3) (T := TX3) (N := 19) hx hb hts k_X3_run_X3 tyX3 tyX3_ok nmX3 hown hK hP hD hS 0 rfl rfl 6 (by decide) (hts _ q_X3_run_2) (fun _ h9 => h9) rfl (by decide +kernel) rfl rfl (Nat.le_of_ble_eq_true rfl) dX3_run_71 (fun H locs hP hD hS => ?_)
        have hP : va_P D vwCl ([(a_this, .inr (3, [.int (2 : Int32), .int c_n, .int c_tu, .int c_al, .ref a_ro, .ref a_fr, .int (0 : Int32), .ref a_bu, .ref a_no, .ref a_te, .ref a_fa, .ref a_li, .int c_wa, .int c_re, .int c_us, .int c_di, .ref a_wy, .ref a_su, .long c_ha])), (a_ro, .inl (cy 0, 8, .inl c_16)), (a_fr, .inl (cy 0, 96, .inl c_fr)), (a_bu, .inl (cy 0, 60, .inl c_bu)), (a_te, .inl (cy 0, 8, .inl c_17))]) H := hP
        have hD : va_D A ([(a_this, .inr (3, [.int (2 : Int32), .int c_n, .int c_tu, .int c_al, .ref a_ro, .ref a_fr, .int (0 : Int32), .ref a_bu, .ref a_no, .ref a_te, .ref a_fa, .ref a_li, .int c_wa, .int c_re, .int c_us, .int c_di, .ref a_wy, .ref a_su, .long c_ha])), (a_ro, .inl (cy 0, 8, .inl c_16)), (a_fr, .inl (cy 0, 96, .inl c_fr)), (a_bu, .inl (cy 0, 60, .inl c_bu)), (a_te, .inl (cy 0, 8, .inl c_17))]) := hD
        refine lv_iload_n hx hb dX3_run_74 rfl (lv_at hl 1 rfl) ?_
        exact j_iret (fun u => [(a_this, .inr (3, [.int u.1, .int c_n, .int c_tu, .int c_al, .ref a_ro, .ref a_fr, .int u.2.1, .ref a_bu, .ref a_no, .ref a_te, .ref a_fa, .ref a_li, .int c_wa, .int c_re, .int c_us, .int c_di, .ref a_wy, .ref a_su, .long c_ha])), (a_ro, .inl (cy 0, 8, .inl u.2.2.1)), (a_fr, .inl (cy 0, 96, .inl c_fr)), (a_bu, .inl (cy 0, 60, .inl c_bu)), (a_te, .inl (cy 0, 8, .inl u.2.2.2))]) (((2 : Int32), (0 : Int32), c_16, c_17) : Int32 × Int32 × (Nat → Int32) × (Nat → Int32)) hx hb hr hlocks hK hP hD hS hw dX3_run_75
      · replace hw := hw.2 c_7
        refine lv_iconst (v := 0) hx hb dX3_run_34 (by decide) ?_
        exact j_iret (fun u => [(a_this, .inr (3, [.int u.1, .int c_n, .int c_tu, .int c_al, .ref a_ro, .ref a_fr, .int u.2.1, .ref a_bu, .ref a_no, .ref a_te, .ref a_fa, .ref a_li, .int c_wa, .int c_re, .int c_us, .int c_di, .ref a_wy, .ref a_su, .long c_ha])), (a_ro, .inl (cy 0, 8, .inl u.2.2.1)), (a_fr, .inl (cy 0, 96, .inl c_fr)), (a_bu, .inl (cy 0, 60, .inl c_bu)), (a_te, .inl (cy 0, 8, .inl u.2.2.2))]) (((2 : Int32), c_le, c_ro, c_te) : Int32 × Int32 × (Nat → Int32) × (Nat → Int32)) hx hb hr hlocks hK hP hD hS hw dX3_run_35
    · replace hw := hw.2 c_6
      refine lv_iconst (v := 0) hx hb dX3_run_19 (by decide) ?_
      refine lv_goto (tgt := 24) hx hb dX3_run_20 (by decide) ?_
      refine va_put (D := D) (ci := 3) (v := .int 0) (ty := .int) (C := RX3) (T := TX3) (N := 19) hx hb hts k_X3_run_X3 tyX3 tyX3_ok nmX3 hown hK hP hD hS 0 rfl rfl 0 (by decide) (hts _ q_X3_run_1) (fun _ h9 => h9) rfl (by decide +kernel) rfl rfl (Nat.le_of_ble_eq_true rfl) dX3_run_24 (fun H locs hP hD hS => ?_)
      have hP : va_P D vwCl ([(a_this, .inr (3, [.int (0 : Int32), .int c_n, .int c_tu, .int c_al, .ref a_ro, .ref a_fr, .int c_le, .ref a_bu, .ref a_no, .ref a_te, .ref a_fa, .ref a_li, .int c_wa, .int c_re, .int c_us, .int c_di, .ref a_wy, .ref a_su, .long c_ha])), (a_ro, .inl (cy 0, 8, .inl c_ro)), (a_fr, .inl (cy 0, 96, .inl c_fr)), (a_bu, .inl (cy 0, 60, .inl c_bu)), (a_te, .inl (cy 0, 8, .inl c_te))]) H := hP
      have hD : va_D A ([(a_this, .inr (3, [.int (0 : Int32), .int c_n, .int c_tu, .int c_al, .ref a_ro, .ref a_fr, .int c_le, .ref a_bu, .ref a_no, .ref a_te, .ref a_fa, .ref a_li, .int c_wa, .int c_re, .int c_us, .int c_di, .ref a_wy, .ref a_su, .long c_ha])), (a_ro, .inl (cy 0, 8, .inl c_ro)), (a_fr, .inl (cy 0, 96, .inl c_fr)), (a_bu, .inl (cy 0, 60, .inl c_bu)), (a_te, .inl (cy 0, 8, .inl c_te))]) := hD
      refine lv_aload_n hx hb dX3_run_27 rfl (lv_at hl 0 rfl) ?_
      refine va_get (D := D) (ci := 3) (v := .int (0 : Int32)) (C := RX3) (T := TX3) (N := 19) hx hb hts k_X3_run_X3 hown hK hP 0 rfl rfl 0 (by decide) (hts _ q_X3_run_1) (fun _ h9 => h9) rfl dX3_run_28 ?_
      refine lv_if_le (tgt := 36) hx hb dX3_run_31 (by decide) (fun c_18 => ?_) (fun c_18 => ?_)
      · replace hw := hw.1 c_18
        refine lv_aload_n hx hb dX3_run_36 rfl (lv_at hl 0 rfl) ?_
        refine va_get (D := D) (ci := 3) (v := .int c_le) (C := RX3) (T := TX3) (N := 19) hx hb hts k_X3_run_X3 hown hK hP 0 rfl rfl 6 (by decide) (hts _ q_X3_run_2) (fun _ h9 => h9) rfl dX3_run_37 ?_
        refine lv_istore_n (lv' := [(1, .int c_le), (0, .ref a_this)]) hx hb dX3_run_40 rfl hl (by decide) rfl (fun ls hl => ?_)
        refine lv_iconst (v := 0) hx hb dX3_run_41 (by decide) ?_
        refine lv_istore_n (lv' := [(2, .int 0), (1, .int c_le), (0, .ref a_this)]) hx hb dX3_run_42 rfl hl (by decide) rfl (fun ls hl => ?_)
        obtain ⟨N_19, hw⟩ := hw
        refine l_X3_run_43 C0 (fun v_20 c_21 c_22 H locs ls hw hP hD hS hl => ?_) _ _ _ _ _ _ _ hw hP hD hS (lv_sub hl [2, 1, 0] rfl)
        refine lv_aload_n hx hb dX3_run_69 rfl (lv_at hl 0 rfl) ?_
        refine lv_iconst (v := 0) hx hb dX3_run_70 (by decide) ?_
        refine va_put (D := D) (ci := 3) (v := .int 0) (ty := .int) (C := RX3) (T := TX3) (N := 19) hx hb hts k_X3_run_X3 tyX3 tyX3_ok nmX3 hown hK hP hD hS 0 rfl rfl 6 (by decide) (hts _ q_X3_run_2) (fun _ h9 => h9) rfl (by decide +kernel) rfl rfl (Nat.le_of_ble_eq_true rfl) dX3_run_71 (fun H locs hP hD hS => ?_)
        have hP : va_P D vwCl ([(a_this, .inr (3, [.int (0 : Int32), .int c_n, .int c_tu, .int c_al, .ref a_ro, .ref a_fr, .int (0 : Int32), .ref a_bu, .ref a_no, .ref a_te, .ref a_fa, .ref a_li, .int c_wa, .int c_re, .int c_us, .int c_di, .ref a_wy, .ref a_su, .long c_ha])), (a_ro, .inl (cy 0, 8, .inl c_21)), (a_fr, .inl (cy 0, 96, .inl c_fr)), (a_bu, .inl (cy 0, 60, .inl c_bu)), (a_te, .inl (cy 0, 8, .inl c_22))]) H := hP
        have hD : va_D A ([(a_this, .inr (3, [.int (0 : Int32), .int c_n, .int c_tu, .int c_al, .ref a_ro, .ref a_fr, .int (0 : Int32), .ref a_bu, .ref a_no, .ref a_te, .ref a_fa, .ref a_li, .int c_wa, .int c_re, .int c_us, .int c_di, .ref a_wy, .ref a_su, .long c_ha])), (a_ro, .inl (cy 0, 8, .inl c_21)), (a_fr, .inl (cy 0, 96, .inl c_fr)), (a_bu, .inl (cy 0, 60, .inl c_bu)), (a_te, .inl (cy 0, 8, .inl c_22))]) := hD
        refine lv_iload_n hx hb dX3_run_74 rfl (lv_at hl 1 rfl) ?_
        exact j_iret (fun u => [(a_this, .inr (3, [.int u.1, .int c_n, .int c_tu, .int c_al, .ref a_ro, .ref a_fr, .int u.2.1, .ref a_bu, .ref a_no, .ref a_te, .ref a_fa, .ref a_li, .int c_wa, .int c_re, .int c_us, .int c_di, .ref a_wy, .ref a_su, .long c_ha])), (a_ro, .inl (cy 0, 8, .inl u.2.2.1)), (a_fr, .inl (cy 0, 96, .inl c_fr)), (a_bu, .inl (cy 0, 60, .inl c_bu)), (a_te, .inl (cy 0, 8, .inl u.2.2.2))]) (((0 : Int32), (0 : Int32), c_21, c_22) : Int32 × Int32 × (Nat → Int32) × (Nat → Int32)) hx hb hr hlocks hK hP hD hS hw dX3_run_75
      · replace hw := hw.2 c_18
        refine lv_iconst (v := 0) hx hb dX3_run_34 (by decide) ?_
        exact j_iret (fun u => [(a_this, .inr (3, [.int u.1, .int c_n, .int c_tu, .int c_al, .ref a_ro, .ref a_fr, .int u.2.1, .ref a_bu, .ref a_no, .ref a_te, .ref a_fa, .ref a_li, .int c_wa, .int c_re, .int c_us, .int c_di, .ref a_wy, .ref a_su, .long c_ha])), (a_ro, .inl (cy 0, 8, .inl u.2.2.1)), (a_fr, .inl (cy 0, 96, .inl c_fr)), (a_bu, .inl (cy 0, 60, .inl c_bu)), (a_te, .inl (cy 0, 8, .inl u.2.2.2))]) (((0 : Int32), c_le, c_ro, c_te) : Int32 × Int32 × (Nat → Int32) × (Nat → Int32)) hx hb hr hlocks hK hP hD hS hw dX3_run_35
  · replace hw := hw.2 c_3
    refine lv_iconst (v := 1) hx hb dX3_run_8 (by decide) ?_
    refine lv_goto (tgt := 24) hx hb dX3_run_9 (by decide) ?_
    refine va_put (D := D) (ci := 3) (v := .int 1) (ty := .int) (C := RX3) (T := TX3) (N := 19) hx hb hts k_X3_run_X3 tyX3 tyX3_ok nmX3 hown hK hP hD hS 0 rfl rfl 0 (by decide) (hts _ q_X3_run_1) (fun _ h9 => h9) rfl (by decide +kernel) rfl rfl (Nat.le_of_ble_eq_true rfl) dX3_run_24 (fun H locs hP hD hS => ?_)
    have hP : va_P D vwCl ([(a_this, .inr (3, [.int (1 : Int32), .int c_n, .int c_tu, .int c_al, .ref a_ro, .ref a_fr, .int c_le, .ref a_bu, .ref a_no, .ref a_te, .ref a_fa, .ref a_li, .int c_wa, .int c_re, .int c_us, .int c_di, .ref a_wy, .ref a_su, .long c_ha])), (a_ro, .inl (cy 0, 8, .inl c_ro)), (a_fr, .inl (cy 0, 96, .inl c_fr)), (a_bu, .inl (cy 0, 60, .inl c_bu)), (a_te, .inl (cy 0, 8, .inl c_te))]) H := hP
    have hD : va_D A ([(a_this, .inr (3, [.int (1 : Int32), .int c_n, .int c_tu, .int c_al, .ref a_ro, .ref a_fr, .int c_le, .ref a_bu, .ref a_no, .ref a_te, .ref a_fa, .ref a_li, .int c_wa, .int c_re, .int c_us, .int c_di, .ref a_wy, .ref a_su, .long c_ha])), (a_ro, .inl (cy 0, 8, .inl c_ro)), (a_fr, .inl (cy 0, 96, .inl c_fr)), (a_bu, .inl (cy 0, 60, .inl c_bu)), (a_te, .inl (cy 0, 8, .inl c_te))]) := hD
    refine lv_aload_n hx hb dX3_run_27 rfl (lv_at hl 0 rfl) ?_
    refine va_get (D := D) (ci := 3) (v := .int (1 : Int32)) (C := RX3) (T := TX3) (N := 19) hx hb hts k_X3_run_X3 hown hK hP 0 rfl rfl 0 (by decide) (hts _ q_X3_run_1) (fun _ h9 => h9) rfl dX3_run_28 ?_
    refine lv_if_le (tgt := 36) hx hb dX3_run_31 (by decide) (fun c_23 => ?_) (fun c_23 => ?_)
    · replace hw := hw.1 c_23
      refine lv_aload_n hx hb dX3_run_36 rfl (lv_at hl 0 rfl) ?_
      refine va_get (D := D) (ci := 3) (v := .int c_le) (C := RX3) (T := TX3) (N := 19) hx hb hts k_X3_run_X3 hown hK hP 0 rfl rfl 6 (by decide) (hts _ q_X3_run_2) (fun _ h9 => h9) rfl dX3_run_37 ?_
      refine lv_istore_n (lv' := [(1, .int c_le), (0, .ref a_this)]) hx hb dX3_run_40 rfl hl (by decide) rfl (fun ls hl => ?_)
      refine lv_iconst (v := 0) hx hb dX3_run_41 (by decide) ?_
      refine lv_istore_n (lv' := [(2, .int 0), (1, .int c_le), (0, .ref a_this)]) hx hb dX3_run_42 rfl hl (by decide) rfl (fun ls hl => ?_)
      obtain ⟨N_24, hw⟩ := hw
      refine l_X3_run_43 C0 (fun v_25 c_26 c_27 H locs ls hw hP hD hS hl => ?_) _ _ _ _ _ _ _ hw hP hD hS (lv_sub hl [2, 1, 0] rfl)
      refine lv_aload_n hx hb dX3_run_69 rfl (lv_at hl 0 rfl) ?_
      refine lv_iconst (v := 0) hx hb dX3_run_70 (by decide) ?_
      refine va_put (D := D) (ci := 3) (v := .int 0) (ty := .int) (C := RX3) (T := TX3) (N := 19) hx hb hts k_X3_run_X3 tyX3 tyX3_ok nmX3 hown hK hP hD hS 0 rfl rfl 6 (by decide) (hts _ q_X3_run_2) (fun _ h9 => h9) rfl (by decide +kernel) rfl rfl (Nat.le_of_ble_eq_true rfl) dX3_run_71 (fun H locs hP hD hS => ?_)
      have hP : va_P D vwCl ([(a_this, .inr (3, [.int (1 : Int32), .int c_n, .int c_tu, .int c_al, .ref a_ro, .ref a_fr, .int (0 : Int32), .ref a_bu, .ref a_no, .ref a_te, .ref a_fa, .ref a_li, .int c_wa, .int c_re, .int c_us, .int c_di, .ref a_wy, .ref a_su, .long c_ha])), (a_ro, .inl (cy 0, 8, .inl c_26)), (a_fr, .inl (cy 0, 96, .inl c_fr)), (a_bu, .inl (cy 0, 60, .inl c_bu)), (a_te, .inl (cy 0, 8, .inl c_27))]) H := hP
      have hD : va_D A ([(a_this, .inr (3, [.int (1 : Int32), .int c_n, .int c_tu, .int c_al, .ref a_ro, .ref a_fr, .int (0 : Int32), .ref a_bu, .ref a_no, .ref a_te, .ref a_fa, .ref a_li, .int c_wa, .int c_re, .int c_us, .int c_di, .ref a_wy, .ref a_su, .long c_ha])), (a_ro, .inl (cy 0, 8, .inl c_26)), (a_fr, .inl (cy 0, 96, .inl c_fr)), (a_bu, .inl (cy 0, 60, .inl c_bu)), (a_te, .inl (cy 0, 8, .inl c_27))]) := hD
      refine lv_iload_n hx hb dX3_run_74 rfl (lv_at hl 1 rfl) ?_
      exact j_iret (fun u => [(a_this, .inr (3, [.int u.1, .int c_n, .int c_tu, .int c_al, .ref a_ro, .ref a_fr, .int u.2.1, .ref a_bu, .ref a_no, .ref a_te, .ref a_fa, .ref a_li, .int c_wa, .int c_re, .int c_us, .int c_di, .ref a_wy, .ref a_su, .long c_ha])), (a_ro, .inl (cy 0, 8, .inl u.2.2.1)), (a_fr, .inl (cy 0, 96, .inl c_fr)), (a_bu, .inl (cy 0, 60, .inl c_bu)), (a_te, .inl (cy 0, 8, .inl u.2.2.2))]) (((1 : Int32), (0 : Int32), c_26, c_27) : Int32 × Int32 × (Nat → Int32) × (Nat → Int32)) hx hb hr hlocks hK hP hD hS hw dX3_run_75
    · replace hw := hw.2 c_23
      refine lv_iconst (v := 0) hx hb dX3_run_34 (by decide) ?_
      exact j_iret (fun u => [(a_this, .inr (3, [.int u.1, .int c_n, .int c_tu, .int c_al, .ref a_ro, .ref a_fr, .int u.2.1, .ref a_bu, .ref a_no, .ref a_te, .ref a_fa, .ref a_li, .int c_wa, .int c_re, .int c_us, .int c_di, .ref a_wy, .ref a_su, .long c_ha])), (a_ro, .inl (cy 0, 8, .inl u.2.2.1)), (a_fr, .inl (cy 0, 96, .inl c_fr)), (a_bu, .inl (cy 0, 60, .inl c_bu)), (a_te, .inl (cy 0, 8, .inl u.2.2.2))]) (((1 : Int32), c_le, c_ro, c_te) : Int32 × Int32 × (Nat → Int32) × (Nat → Int32)) hx hb hr hlocks hK hP hD hS hw dX3_run_35
theorem q_X3_copy_1 : Cond.fieldLink RX3 7 "TwistedRowModel" "n" "I" ∈ wsX3_copy := List.mem_of_getElem? (i := 1) rfl
theorem k_X3_copy_X3 : ∀ w ∈ wsX30, w ∈ wsX3_copy := my_in _ [4, 5, 6, 7, 8, 9, 10, 11, 12, 13, 14, 15, 16, 17, 18, 19, 20, 21, 22] (by decide +kernel)
theorem q_X3_copy_2 : Cond.fieldLink RX3 23 "TwistedRowModel" "now" "[I" ∈ wsX3_copy := List.mem_of_getElem? (i := 2) rfl
theorem q_X3_copy_3 : Cond.fieldLink RX3 26 "TwistedRowModel" "then" "[I" ∈ wsX3_copy := List.mem_of_getElem? (i := 3) rfl
def lp_X3_copy_2 (c_n : Int32) (c_te : Nat → Int32) (K28 : Int32 → (Nat → Int32) → Prop) : Nat → Int32 → (Nat → Int32) → Prop
  | 0, _, _ => False
  | N + 1, v_1, c_no => ((c_n ≤ v_1 → (K28 v_1 c_no)) ∧ (¬ c_n ≤ v_1 → (vp_in v_1 8 ∧ (vp_in v_1 8 ∧ (lp_X3_copy_2 c_n c_te K28 N (v_1 + 1) (upd c_no ((v_1 : Int32).toNatClampNeg) (c_te (v_1 : Int32).toNatClampNeg)))))))
set_option maxHeartbeats 4000000 in
set_option maxRecDepth 100000 in
theorem l_X3_copy_2 {p : Program} {l : Launch} {e : Env} {s : State} {m : MethodId} {args : Array Value} {below : List Frame} {meth : Method} {c : Code} {A : Nat → Prop} {D : va_G} {cy : Nat → ClassId} {Q : State → Prop} {a_this : Nat} {a_ro : Nat} {a_fr : Nat} {a_bu : Nat} {a_no : Nat} {a_te : Nat} {a_fa : Nat} {a_li : Nat} {a_wy : Nat} {a_su : Nat} {c_th : Int32} {c_n : Int32} {c_tu : Int32} {c_al : Int32} {c_le : Int32} {c_wa : Int32} {c_re : Int32} {c_us : Int32} {c_di : Int32} {c_ha : Int64} {c_te : Nat → Int32} {K28 : Int32 → (Nat → Int32) → Prop} (C0 : Cx p s m args c cX3_copy yX3_copy.cls 2 wsX3_copy D cy A)
    (k28 : ∀ (v_1 : Int32) (c_no : Nat → Int32) (H : Heap) (locs : List Loc) (ls : Array Slot), K28 v_1 c_no → va_P D vwCl ([(a_this, .inr (3, [.int c_th, .int c_n, .int c_tu, .int c_al, .ref a_ro, .ref a_fr, .int c_le, .ref a_bu, .ref a_no, .ref a_te, .ref a_fa, .ref a_li, .int c_wa, .int c_re, .int c_us, .int c_di, .ref a_wy, .ref a_su, .long c_ha])), (a_no, .inl (cy 0, 8, .inl c_no)), (a_te, .inl (cy 0, 8, .inl c_te))]) H → va_D A ([(a_this, .inr (3, [.int c_th, .int c_n, .int c_tu, .int c_al, .ref a_ro, .ref a_fr, .int c_le, .ref a_bu, .ref a_no, .ref a_te, .ref a_fa, .ref a_li, .int c_wa, .int c_re, .int c_us, .int c_di, .ref a_wy, .ref a_su, .long c_ha])), (a_no, .inl (cy 0, 8, .inl c_no)), (a_te, .inl (cy 0, 8, .inl c_te))]) → va_S A s.heap H locs → lv_has ls 2 [] → W p l e (({ frames := 0, cells := 0, slots := 0, locals := 0 } : Room)) s m args below meth c H locs 0 0 Q (F0 m 28 ls [])) :
    ∀ (N : Nat) (v_1 : Int32) (c_no : Nat → Int32) (H : Heap) (locs : List Loc) (ls : Array Slot), lp_X3_copy_2 c_n c_te K28 N v_1 c_no → va_P D vwCl ([(a_this, .inr (3, [.int c_th, .int c_n, .int c_tu, .int c_al, .ref a_ro, .ref a_fr, .int c_le, .ref a_bu, .ref a_no, .ref a_te, .ref a_fa, .ref a_li, .int c_wa, .int c_re, .int c_us, .int c_di, .ref a_wy, .ref a_su, .long c_ha])), (a_no, .inl (cy 0, 8, .inl c_no)), (a_te, .inl (cy 0, 8, .inl c_te))]) H → va_D A ([(a_this, .inr (3, [.int c_th, .int c_n, .int c_tu, .int c_al, .ref a_ro, .ref a_fr, .int c_le, .ref a_bu, .ref a_no, .ref a_te, .ref a_fa, .ref a_li, .int c_wa, .int c_re, .int c_us, .int c_di, .ref a_wy, .ref a_su, .long c_ha])), (a_no, .inl (cy 0, 8, .inl c_no)), (a_te, .inl (cy 0, 8, .inl c_te))]) → va_S A s.heap H locs → lv_has ls 2 [(0, .ref a_this), (1, .int v_1)] → W p l e (({ frames := 0, cells := 0, slots := 0, locals := 0 } : Room)) s m args below meth c H locs 0 0 Q (F0 m 2 ls []) := by
  obtain ⟨hx, hb, hml, hown, hts, hK, hA⟩ := id C0
  intro N
  induction N with
  | zero =>
    intro v_1 c_no H locs ls hw
    exact False.elim hw
  | succ N ih =>
    intro v_1 c_no H locs ls hw hP hD hS hl
    rw [lp_X3_copy_2] at hw
    refine lv_iload_n hx hb dX3_copy_2 rfl (lv_at hl 1 rfl) ?_
    refine lv_aload_n hx hb dX3_copy_3 rfl (lv_at hl 0 rfl) ?_
    refine va_get (D := D) (ci := 3) (v := .int c_n) (C := RX3) (T := TX3) (N := 19) hx hb hts k_X3_copy_X3 hown hK hP 0 rfl rfl 1 (by decide) (hts _ q_X3_copy_1) (fun _ h9 => h9) rfl dX3_copy_4 ?_
    refine lv_icmp_ge (tgt := 28) hx hb dX3_copy_7 (by decide) (fun c_1 => ?_) (fun c_1 => ?_)
    · replace hw := hw.1 c_1
      exact k28 _ _ _ _ _ hw hP hD hS (lv_sub hl [] rfl)
    · replace hw := hw.2 c_1
      refine lv_aload_n hx hb dX3_copy_10 rfl (lv_at hl 0 rfl) ?_
      refine va_get (D := D) (ci := 3) (v := .ref a_no) (C := RX3) (T := TX3) (N := 19) hx hb hts k_X3_copy_X3 hown hK hP 0 rfl rfl 8 (by decide) (hts _ q_X3_copy_2) (fun _ h9 => h9) rfl dX3_copy_11 ?_
      refine lv_iload_n hx hb dX3_copy_14 rfl (lv_at hl 1 rfl) ?_
      refine lv_aload_n hx hb dX3_copy_15 rfl (lv_at hl 0 rfl) ?_
      refine va_get (D := D) (ci := 3) (v := .ref a_te) (C := RX3) (T := TX3) (N := 19) hx hb hts k_X3_copy_X3 hown hK hP 0 rfl rfl 9 (by decide) (hts _ q_X3_copy_3) (fun _ h9 => h9) rfl dX3_copy_16 ?_
      refine lv_iload_n hx hb dX3_copy_19 rfl (lv_at hl 1 rfl) ?_
      obtain ⟨h_2, hw⟩ := hw
      refine va_iald hx hb hK hP 2 0 rfl rfl h_2 dX3_copy_20 ?_
      obtain ⟨h_3, hw⟩ := hw
      refine va_iast hx hb hK hP hD hS 1 0 rfl rfl h_3 dX3_copy_21 (fun H locs hP hD hS => ?_)
      have hP : va_P D vwCl ([(a_this, .inr (3, [.int c_th, .int c_n, .int c_tu, .int c_al, .ref a_ro, .ref a_fr, .int c_le, .ref a_bu, .ref a_no, .ref a_te, .ref a_fa, .ref a_li, .int c_wa, .int c_re, .int c_us, .int c_di, .ref a_wy, .ref a_su, .long c_ha])), (a_no, .inl (cy 0, 8, .inl (upd c_no ((v_1 : Int32).toNatClampNeg) (c_te (v_1 : Int32).toNatClampNeg)))), (a_te, .inl (cy 0, 8, .inl c_te))]) H := hP
      have hD : va_D A ([(a_this, .inr (3, [.int c_th, .int c_n, .int c_tu, .int c_al, .ref a_ro, .ref a_fr, .int c_le, .ref a_bu, .ref a_no, .ref a_te, .ref a_fa, .ref a_li, .int c_wa, .int c_re, .int c_us, .int c_di, .ref a_wy, .ref a_su, .long c_ha])), (a_no, .inl (cy 0, 8, .inl (upd c_no ((v_1 : Int32).toNatClampNeg) (c_te (v_1 : Int32).toNatClampNeg)))), (a_te, .inl (cy 0, 8, .inl c_te))]) := hD
      refine lv_iinc (v := v_1 + 1) (lv' := [(1, .int (v_1 + 1)), (0, .ref a_this)]) hx hb dX3_copy_22 hl (k := 1) rfl rfl (by decide) rfl (fun ls hl => ?_)
      refine lv_goto (tgt := 2) hx hb dX3_copy_25 (by decide) ?_
      exact ih _ _ _ _ _ hw hP hD hS (lv_sub hl [1, 0] rfl)
def wp_X3_copy (c_n : Int32) (c_no : Nat → Int32) (c_te : Nat → Int32) (post : (Nat → Int32) → Prop) : Prop := (∃ N_4 : Nat, lp_X3_copy_2 c_n c_te (fun (v_5 : Int32) (c_6 : Nat → Int32) => (post c_6)) N_4 0 c_no)
set_option maxHeartbeats 4000000 in
set_option maxRecDepth 100000 in
theorem c_X3_copy (l : Launch) (D : va_G) (cy : Nat → ClassId) (a_this : Nat) (a_ro : Nat) (a_fr : Nat) (a_bu : Nat) (a_no : Nat) (a_te : Nat) (a_fa : Nat) (a_li : Nat) (a_wy : Nat) (a_su : Nat) (c_th : Int32) (c_n : Int32) (c_tu : Int32) (c_al : Int32) (c_le : Int32) (c_wa : Int32) (c_re : Int32) (c_us : Int32) (c_di : Int32) (c_ha : Int64) (c_no : Nat → Int32) (c_te : Nat → Int32) {post : (Nat → Int32) → Prop} (hw : wp_X3_copy c_n c_no c_te post) (sz : Nat) : Met l yX3_copy wsX3_copy ({ frames := 0, cells := 0, slots := 0, locals := 0 }) (va_Pc [.ref a_this] (PreW D cy ([(a_this, .inr (3, [.int c_th, .int c_n, .int c_tu, .int c_al, .ref a_ro, .ref a_fr, .int c_le, .ref a_bu, .ref a_no, .ref a_te, .ref a_fa, .ref a_li, .int c_wa, .int c_re, .int c_us, .int c_di, .ref a_wy, .ref a_su, .long c_ha])), (a_no, .inl (cy 0, 8, .inl c_no)), (a_te, .inl (cy 0, 8, .inl c_te))]) sz)) (va_Qv post (fun u t => PostW D cy (va_A ([(a_this, .inr (3, [.int c_th, .int c_n, .int c_tu, .int c_al, .ref a_ro, .ref a_fr, .int c_le, .ref a_bu, .ref a_no, .ref a_te, .ref a_fa, .ref a_li, .int c_wa, .int c_re, .int c_us, .int c_di, .ref a_wy, .ref a_su, .long c_ha])), (a_no, .inl (cy 0, 8, .inl c_no)), (a_te, .inl (cy 0, 8, .inl c_te))]) sz) ([(a_this, .inr (3, [.int c_th, .int c_n, .int c_tu, .int c_al, .ref a_ro, .ref a_fr, .int c_le, .ref a_bu, .ref a_no, .ref a_te, .ref a_fa, .ref a_li, .int c_wa, .int c_re, .int c_us, .int c_di, .ref a_wy, .ref a_su, .long c_ha])), (a_no, .inl (cy 0, 8, .inl u)), (a_te, .inl (cy 0, 8, .inl c_te))]) t) (va_A ([(a_this, .inr (3, [.int c_th, .int c_n, .int c_tu, .int c_al, .ref a_ro, .ref a_fr, .int c_le, .ref a_bu, .ref a_no, .ref a_te, .ref a_fa, .ref a_li, .int c_wa, .int c_re, .int c_us, .int c_di, .ref a_wy, .ref a_su, .long c_ha])), (a_no, .inl (cy 0, 8, .inl c_no)), (a_te, .inl (cy 0, 8, .inl c_te))]) sz)) 0 0 (va_A ([(a_this, .inr (3, [.int c_th, .int c_n, .int c_tu, .int c_al, .ref a_ro, .ref a_fr, .int c_le, .ref a_bu, .ref a_no, .ref a_te, .ref a_fa, .ref a_li, .int c_wa, .int c_re, .int c_us, .int c_di, .ref a_wy, .ref a_su, .long c_ha])), (a_no, .inl (cy 0, 8, .inl c_no)), (a_te, .inl (cy 0, 8, .inl c_te))]) sz) := by
  refine j_met (Qc := fun A => va_Qv post (fun u t => PostW D cy A ([(a_this, .inr (3, [.int c_th, .int c_n, .int c_tu, .int c_al, .ref a_ro, .ref a_fr, .int c_le, .ref a_bu, .ref a_no, .ref a_te, .ref a_fa, .ref a_li, .int c_wa, .int c_re, .int c_us, .int c_di, .ref a_wy, .ref a_su, .long c_ha])), (a_no, .inl (cy 0, 8, .inl u)), (a_te, .inl (cy 0, 8, .inl c_te))]) t) A) (by decide +kernel) rfl (Nat.le_of_ble_eq_true rfl) ?_
  intro p e s m below meth c A ls C0 hr hlocks hP hD hS hl
  obtain ⟨hx, hb, hml, hown, hts, hK, hA⟩ := id C0
  have hown : s.vm.findClass RX3 = some m.cls := hown
  have hl : lv_has ls 2 [(0, .ref a_this)] := hl
  unfold wp_X3_copy at hw
  refine lv_iconst (v := 0) hx hb dX3_copy_0 (by decide) ?_
  refine lv_istore_n (lv' := [(1, .int 0), (0, .ref a_this)]) hx hb dX3_copy_1 rfl hl (by decide) rfl (fun ls hl => ?_)
  obtain ⟨N_4, hw⟩ := hw
  refine l_X3_copy_2 C0 (fun v_5 c_6 H locs ls hw hP hD hS hl => ?_) _ _ _ _ _ _ hw hP hD hS (lv_sub hl [1, 0] rfl)
  exact j_vret (fun u => [(a_this, .inr (3, [.int c_th, .int c_n, .int c_tu, .int c_al, .ref a_ro, .ref a_fr, .int c_le, .ref a_bu, .ref a_no, .ref a_te, .ref a_fa, .ref a_li, .int c_wa, .int c_re, .int c_us, .int c_di, .ref a_wy, .ref a_su, .long c_ha])), (a_no, .inl (cy 0, 8, .inl u)), (a_te, .inl (cy 0, 8, .inl c_te))]) (c_6 : (Nat → Int32)) hx hb hr hlocks hK hP hD hS hw dX3_copy_28
theorem q_X3_order_1 : Cond.fieldLink RX3 46 "TwistedRowModel" "thrown" "I" ∈ wsX3_order := List.mem_of_getElem? (i := 1) rfl
theorem k_X3_order_X3 : ∀ w ∈ wsX30, w ∈ wsX3_order := my_in _ [52, 53, 54, 55, 56, 57, 58, 59, 60, 61, 62, 63, 64, 65, 66, 67, 68, 69, 70] (by decide +kernel)
theorem q_X3_order_2 : Cond.fieldLink RX3 23 "TwistedRowModel" "now" "[I" ∈ wsX3_order := List.mem_of_getElem? (i := 2) rfl
theorem q_X3_order_3 : Cond.fieldLink RX3 122 "TwistedRowModel" "length" "I" ∈ wsX3_order := List.mem_of_getElem? (i := 3) rfl
theorem q_X3_order_4 : Cond.fieldLink RX3 20 "TwistedRowModel" "buffer" "[I" ∈ wsX3_order := List.mem_of_getElem? (i := 4) rfl
theorem q_X3_order_5 : Cond.fieldLink RX3 26 "TwistedRowModel" "then" "[I" ∈ wsX3_order := List.mem_of_getElem? (i := 5) rfl
def lp_X3_order_44 (c_bu : Nat → Int32) (c_fr : Nat → Int32) (c_le : Int32) (c_n : Int32) (c_tu : Int32) (K84 : Int32 → (Nat → Int32) → (Nat → Int32) → Prop) : Nat → Int32 → (Nat → Int32) → (Nat → Int32) → Prop
  | 0, _, _, _ => False
  | N + 1, v_3, c_no, c_te => ((c_le ≤ v_3 → (K84 v_3 c_no c_te)) ∧ (¬ c_le ≤ v_3 → (vp_in v_3 60 ∧ (wp_X3_moveBy c_tu (c_bu (v_3 : Int32).toNatClampNeg) (fun r_10 u_9 => (wp_X3_shift c_n c_fr c_no c_te r_10 (fun u_11 => (wp_X3_copy c_n c_no u_11 (fun u_12 => (lp_X3_order_44 c_bu c_fr c_le c_n c_tu K84 N (v_3 + 1) u_12 u_11))))))))))
set_option maxHeartbeats 4000000 in
set_option maxRecDepth 100000 in
theorem l_X3_order_44 {p : Program} {l : Launch} {e : Env} {s : State} {m : MethodId} {args : Array Value} {below : List Frame} {meth : Method} {c : Code} {A : Nat → Prop} {D : va_G} {cy : Nat → ClassId} {Q : State → Prop} {a_this : Nat} {a_ro : Nat} {a_fr : Nat} {a_bu : Nat} {a_no : Nat} {a_te : Nat} {a_fa : Nat} {a_li : Nat} {a_wy : Nat} {a_su : Nat} {c_th : Int32} {c_n : Int32} {c_tu : Int32} {c_al : Int32} {c_le : Int32} {c_wa : Int32} {c_re : Int32} {c_us : Int32} {c_di : Int32} {c_ha : Int64} {c_fr : Nat → Int32} {c_bu : Nat → Int32} {v_1 : Int32} {K84 : Int32 → (Nat → Int32) → (Nat → Int32) → Prop} (C0 : Cx p s m args c cX3_order yX3_order.cls 4 wsX3_order D cy A)
    (k84 : ∀ (v_3 : Int32) (c_no : Nat → Int32) (c_te : Nat → Int32) (H : Heap) (locs : List Loc) (ls : Array Slot), K84 v_3 c_no c_te → va_P D vwCl ([(a_this, .inr (3, [.int c_th, .int c_n, .int c_tu, .int c_al, .ref a_ro, .ref a_fr, .int c_le, .ref a_bu, .ref a_no, .ref a_te, .ref a_fa, .ref a_li, .int c_wa, .int c_re, .int c_us, .int c_di, .ref a_wy, .ref a_su, .long c_ha])), (a_fr, .inl (cy 0, 96, .inl c_fr)), (a_bu, .inl (cy 0, 60, .inl c_bu)), (a_no, .inl (cy 0, 8, .inl c_no)), (a_te, .inl (cy 0, 8, .inl c_te))]) H → va_D A ([(a_this, .inr (3, [.int c_th, .int c_n, .int c_tu, .int c_al, .ref a_ro, .ref a_fr, .int c_le, .ref a_bu, .ref a_no, .ref a_te, .ref a_fa, .ref a_li, .int c_wa, .int c_re, .int c_us, .int c_di, .ref a_wy, .ref a_su, .long c_ha])), (a_fr, .inl (cy 0, 96, .inl c_fr)), (a_bu, .inl (cy 0, 60, .inl c_bu)), (a_no, .inl (cy 0, 8, .inl c_no)), (a_te, .inl (cy 0, 8, .inl c_te))]) → va_S A s.heap H locs → lv_has ls 4 [(0, .ref a_this), (1, .int v_1)] → W p l e (({ frames := 5, cells := 0, slots := 0, locals := 106 } : Room)) s m args below meth c H locs 0 0 Q (F0 m 84 ls [])) :
    ∀ (N : Nat) (v_3 : Int32) (c_no : Nat → Int32) (c_te : Nat → Int32) (H : Heap) (locs : List Loc) (ls : Array Slot), lp_X3_order_44 c_bu c_fr c_le c_n c_tu K84 N v_3 c_no c_te → va_P D vwCl ([(a_this, .inr (3, [.int c_th, .int c_n, .int c_tu, .int c_al, .ref a_ro, .ref a_fr, .int c_le, .ref a_bu, .ref a_no, .ref a_te, .ref a_fa, .ref a_li, .int c_wa, .int c_re, .int c_us, .int c_di, .ref a_wy, .ref a_su, .long c_ha])), (a_fr, .inl (cy 0, 96, .inl c_fr)), (a_bu, .inl (cy 0, 60, .inl c_bu)), (a_no, .inl (cy 0, 8, .inl c_no)), (a_te, .inl (cy 0, 8, .inl c_te))]) H → va_D A ([(a_this, .inr (3, [.int c_th, .int c_n, .int c_tu, .int c_al, .ref a_ro, .ref a_fr, .int c_le, .ref a_bu, .ref a_no, .ref a_te, .ref a_fa, .ref a_li, .int c_wa, .int c_re, .int c_us, .int c_di, .ref a_wy, .ref a_su, .long c_ha])), (a_fr, .inl (cy 0, 96, .inl c_fr)), (a_bu, .inl (cy 0, 60, .inl c_bu)), (a_no, .inl (cy 0, 8, .inl c_no)), (a_te, .inl (cy 0, 8, .inl c_te))]) → va_S A s.heap H locs → lv_has ls 4 [(0, .ref a_this), (1, .int v_1), (3, .int v_3)] → W p l e (({ frames := 5, cells := 0, slots := 0, locals := 106 } : Room)) s m args below meth c H locs 0 0 Q (F0 m 44 ls []) := by
  obtain ⟨hx, hb, hml, hown, hts, hK, hA⟩ := id C0
  intro N
  induction N with
  | zero =>
    intro v_3 c_no c_te H locs ls hw
    exact False.elim hw
  | succ N ih =>
    intro v_3 c_no c_te H locs ls hw hP hD hS hl
    rw [lp_X3_order_44] at hw
    refine lv_iload_n hx hb dX3_order_44 rfl (lv_at hl 2 rfl) ?_
    refine lv_aload_n hx hb dX3_order_45 rfl (lv_at hl 0 rfl) ?_
    refine va_get (D := D) (ci := 3) (v := .int c_le) (C := RX3) (T := TX3) (N := 19) hx hb hts k_X3_order_X3 hown hK hP 0 rfl rfl 6 (by decide) (hts _ q_X3_order_3) (fun _ h9 => h9) rfl dX3_order_46 ?_
    refine lv_icmp_ge (tgt := 84) hx hb dX3_order_49 (by decide) (fun c_7 => ?_) (fun c_7 => ?_)
    · replace hw := hw.1 c_7
      exact k84 _ _ _ _ _ _ hw hP hD hS (lv_sub hl [0, 1] rfl)
    · replace hw := hw.2 c_7
      refine lv_aload_n hx hb dX3_order_52 rfl (lv_at hl 0 rfl) ?_
      refine lv_aload_n hx hb dX3_order_53 rfl (lv_at hl 0 rfl) ?_
      refine lv_aload_n hx hb dX3_order_54 rfl (lv_at hl 0 rfl) ?_
      refine va_get (D := D) (ci := 3) (v := .ref a_bu) (C := RX3) (T := TX3) (N := 19) hx hb hts k_X3_order_X3 hown hK hP 0 rfl rfl 7 (by decide) (hts _ q_X3_order_4) (fun _ h9 => h9) rfl dX3_order_55 ?_
      refine lv_iload_n hx hb dX3_order_58 rfl (lv_at hl 2 rfl) ?_
      obtain ⟨h_8, hw⟩ := hw
      refine va_iald hx hb hK hP 2 0 rfl rfl h_8 dX3_order_59 ?_
      refine j_calli (wr := [(a_fr, .inl (cy 0, 96, .inl c_fr)), (a_bu, .inl (cy 0, 60, .inl c_bu)), (a_no, .inl (cy 0, 8, .inl c_no)), (a_te, .inl (cy 0, 8, .inl c_te))]) (va_runV (As := [.int (c_bu (v_3 : Int32).toNatClampNeg)]) (rest := [.ref a_this]) ⟨hx, hb, hml, hown, hts⟩ (c_X3_moveBy l D cy a_this a_ro a_fr a_bu a_no a_te a_fa a_li a_wy a_su c_th c_n c_tu c_al c_le c_wa c_re c_us c_di c_ha (c_bu (v_3 : Int32).toNatClampNeg) hw H.size) (cwV 1 hts gX3_order_X3_moveBy rfl rfl rfl (by decide +kernel) ⟨Nat.le_of_ble_eq_true rfl, Nat.le_of_ble_eq_true rfl⟩) (j_preV hK hP hD (isC := [0]) rfl (by decide +kernel) (ci := 3) (q0 := 0) rfl rfl) rfl rfl hl.1 rfl (lv_room (Nat.le_of_ble_eq_true rfl)) dX3_order_60 ⟨Nat.le_of_ble_eq_true rfl, Nat.le_of_ble_eq_true rfl⟩) hP hD hS hA [0] [1, 2, 3, 4] rfl rfl (by decide +kernel) (by decide +kernel) (fun u_9 => [(a_this, .inr (3, [.int c_th, .int c_n, .int c_tu, .int c_al, .ref a_ro, .ref a_fr, .int c_le, .ref a_bu, .ref a_no, .ref a_te, .ref a_fa, .ref a_li, .int c_wa, .int c_re, .int c_us, .int c_di, .ref a_wy, .ref a_su, .long c_ha])), (a_fr, .inl (cy 0, 96, .inl c_fr)), (a_bu, .inl (cy 0, 60, .inl c_bu)), (a_no, .inl (cy 0, 8, .inl c_no)), (a_te, .inl (cy 0, 8, .inl c_te))]) [4, 0, 1, 2, 3] (by decide +kernel) (fun u => rfl) (fun r_10 u_9 H locs hw hP hD hS => ?_)
      have hP : va_P D vwCl ([(a_this, .inr (3, [.int c_th, .int c_n, .int c_tu, .int c_al, .ref a_ro, .ref a_fr, .int c_le, .ref a_bu, .ref a_no, .ref a_te, .ref a_fa, .ref a_li, .int c_wa, .int c_re, .int c_us, .int c_di, .ref a_wy, .ref a_su, .long c_ha])), (a_fr, .inl (cy 0, 96, .inl c_fr)), (a_bu, .inl (cy 0, 60, .inl c_bu)), (a_no, .inl (cy 0, 8, .inl c_no)), (a_te, .inl (cy 0, 8, .inl c_te))]) H := hP
      have hD : va_D A ([(a_this, .inr (3, [.int c_th, .int c_n, .int c_tu, .int c_al, .ref a_ro, .ref a_fr, .int c_le, .ref a_bu, .ref a_no, .ref a_te, .ref a_fa, .ref a_li, .int c_wa, .int c_re, .int c_us, .int c_di, .ref a_wy, .ref a_su, .long c_ha])), (a_fr, .inl (cy 0, 96, .inl c_fr)), (a_bu, .inl (cy 0, 60, .inl c_bu)), (a_no, .inl (cy 0, 8, .inl c_no)), (a_te, .inl (cy 0, 8, .inl c_te))]) := hD
      refine lv_aload_n hx hb dX3_order_63 rfl (lv_at hl 0 rfl) ?_
      refine va_get (D := D) (ci := 3) (v := .ref a_no) (C := RX3) (T := TX3) (N := 19) hx hb hts k_X3_order_X3 hown hK hP 0 rfl rfl 8 (by decide) (hts _ q_X3_order_2) (fun _ h9 => h9) rfl dX3_order_64 ?_
      refine lv_aload_n hx hb dX3_order_67 rfl (lv_at hl 0 rfl) ?_
      refine va_get (D := D) (ci := 3) (v := .ref a_te) (C := RX3) (T := TX3) (N := 19) hx hb hts k_X3_order_X3 hown hK hP 0 rfl rfl 9 (by decide) (hts _ q_X3_order_5) (fun _ h9 => h9) rfl dX3_order_68 ?_
      refine j_callv (wr := [(a_bu, .inl (cy 0, 60, .inl c_bu))]) (va_runV (As := [.int r_10, .ref a_no, .ref a_te]) (rest := []) ⟨hx, hb, hml, hown, hts⟩ (c_X3_shift l D cy a_this a_ro a_fr a_bu a_no a_te a_fa a_li a_wy a_su a_no a_te c_th c_n c_tu c_al c_le c_wa c_re c_us c_di c_ha c_fr c_no c_te r_10 hw H.size) (cwV 3 hts gX3_order_X3_shift rfl rfl rfl (by decide +kernel) ⟨Nat.le_of_ble_eq_true rfl, Nat.le_of_ble_eq_true rfl⟩) (j_preV hK hP hD (isC := [0, 1, 3, 4]) rfl (by decide +kernel) (ci := 3) (q0 := 0) rfl rfl) rfl rfl hl.1 rfl (lv_room (Nat.le_of_ble_eq_true rfl)) dX3_order_71 ⟨Nat.le_of_ble_eq_true rfl, Nat.le_of_ble_eq_true rfl⟩) hP hD hS hA [0, 1, 3, 4] [2] rfl rfl (by decide +kernel) (by decide +kernel) (fun u_11 => [(a_this, .inr (3, [.int c_th, .int c_n, .int c_tu, .int c_al, .ref a_ro, .ref a_fr, .int c_le, .ref a_bu, .ref a_no, .ref a_te, .ref a_fa, .ref a_li, .int c_wa, .int c_re, .int c_us, .int c_di, .ref a_wy, .ref a_su, .long c_ha])), (a_fr, .inl (cy 0, 96, .inl c_fr)), (a_bu, .inl (cy 0, 60, .inl c_bu)), (a_no, .inl (cy 0, 8, .inl c_no)), (a_te, .inl (cy 0, 8, .inl u_11))]) [1, 2, 0, 3, 4] (by decide +kernel) (fun u => rfl) (fun u_11 H locs hw hP hD hS => ?_)
      have hP : va_P D vwCl ([(a_this, .inr (3, [.int c_th, .int c_n, .int c_tu, .int c_al, .ref a_ro, .ref a_fr, .int c_le, .ref a_bu, .ref a_no, .ref a_te, .ref a_fa, .ref a_li, .int c_wa, .int c_re, .int c_us, .int c_di, .ref a_wy, .ref a_su, .long c_ha])), (a_fr, .inl (cy 0, 96, .inl c_fr)), (a_bu, .inl (cy 0, 60, .inl c_bu)), (a_no, .inl (cy 0, 8, .inl c_no)), (a_te, .inl (cy 0, 8, .inl u_11))]) H := hP
      have hD : va_D A ([(a_this, .inr (3, [.int c_th, .int c_n, .int c_tu, .int c_al, .ref a_ro, .ref a_fr, .int c_le, .ref a_bu, .ref a_no, .ref a_te, .ref a_fa, .ref a_li, .int c_wa, .int c_re, .int c_us, .int c_di, .ref a_wy, .ref a_su, .long c_ha])), (a_fr, .inl (cy 0, 96, .inl c_fr)), (a_bu, .inl (cy 0, 60, .inl c_bu)), (a_no, .inl (cy 0, 8, .inl c_no)), (a_te, .inl (cy 0, 8, .inl u_11))]) := hD
      refine lv_aload_n hx hb dX3_order_74 rfl (lv_at hl 0 rfl) ?_
      refine j_callv (wr := [(a_fr, .inl (cy 0, 96, .inl c_fr)), (a_bu, .inl (cy 0, 60, .inl c_bu))]) (va_runV (As := []) (rest := []) ⟨hx, hb, hml, hown, hts⟩ (c_X3_copy l D cy a_this a_ro a_fr a_bu a_no a_te a_fa a_li a_wy a_su c_th c_n c_tu c_al c_le c_wa c_re c_us c_di c_ha c_no u_11 hw H.size) (cwV 0 hts gX3_order_X3_copy rfl rfl rfl (by decide +kernel) ⟨Nat.le_of_ble_eq_true rfl, Nat.le_of_ble_eq_true rfl⟩) (j_preV hK hP hD (isC := [0, 3, 4]) rfl (by decide +kernel) (ci := 3) (q0 := 0) rfl rfl) rfl rfl hl.1 rfl (lv_room (Nat.le_of_ble_eq_true rfl)) dX3_order_75 ⟨Nat.le_of_ble_eq_true rfl, Nat.le_of_ble_eq_true rfl⟩) hP hD hS hA [0, 3, 4] [1, 2] rfl rfl (by decide +kernel) (by decide +kernel) (fun u_12 => [(a_this, .inr (3, [.int c_th, .int c_n, .int c_tu, .int c_al, .ref a_ro, .ref a_fr, .int c_le, .ref a_bu, .ref a_no, .ref a_te, .ref a_fa, .ref a_li, .int c_wa, .int c_re, .int c_us, .int c_di, .ref a_wy, .ref a_su, .long c_ha])), (a_fr, .inl (cy 0, 96, .inl c_fr)), (a_bu, .inl (cy 0, 60, .inl c_bu)), (a_no, .inl (cy 0, 8, .inl u_12)), (a_te, .inl (cy 0, 8, .inl u_11))]) [2, 0, 1, 3, 4] (by decide +kernel) (fun u => rfl) (fun u_12 H locs hw hP hD hS => ?_)
      have hP : va_P D vwCl ([(a_this, .inr (3, [.int c_th, .int c_n, .int c_tu, .int c_al, .ref a_ro, .ref a_fr, .int c_le, .ref a_bu, .ref a_no, .ref a_te, .ref a_fa, .ref a_li, .int c_wa, .int c_re, .int c_us, .int c_di, .ref a_wy, .ref a_su, .long c_ha])), (a_fr, .inl (cy 0, 96, .inl c_fr)), (a_bu, .inl (cy 0, 60, .inl c_bu)), (a_no, .inl (cy 0, 8, .inl u_12)), (a_te, .inl (cy 0, 8, .inl u_11))]) H := hP
      have hD : va_D A ([(a_this, .inr (3, [.int c_th, .int c_n, .int c_tu, .int c_al, .ref a_ro, .ref a_fr, .int c_le, .ref a_bu, .ref a_no, .ref a_te, .ref a_fa, .ref a_li, .int c_wa, .int c_re, .int c_us, .int c_di, .ref a_wy, .ref a_su, .long c_ha])), (a_fr, .inl (cy 0, 96, .inl c_fr)), (a_bu, .inl (cy 0, 60, .inl c_bu)), (a_no, .inl (cy 0, 8, .inl u_12)), (a_te, .inl (cy 0, 8, .inl u_11))]) := hD
      refine lv_iinc (v := v_3 + 1) (lv' := [(3, .int (v_3 + 1)), (0, .ref a_this), (1, .int v_1)]) hx hb dX3_order_78 hl (k := 2) rfl rfl (by decide) rfl (fun ls hl => ?_)
      refine lv_goto (tgt := 44) hx hb dX3_order_81 (by decide) ?_
      exact ih _ _ _ _ _ _ hw hP hD hS (lv_sub hl [1, 2, 0] rfl)
def lp_X3_order_38 (c_bu : Nat → Int32) (c_fr : Nat → Int32) (c_le : Int32) (c_n : Int32) (c_tu : Int32) (K107 : Int32 → Int32 → (Nat → Int32) → (Nat → Int32) → Prop) : Nat → Int32 → Int32 → (Nat → Int32) → (Nat → Int32) → Prop
  | 0, _, _, _, _ => False
  | N + 1, v_1, v_2, c_no, c_te => ((v_2 = 0 → (K107 v_1 v_2 c_no c_te)) ∧ (¬ v_2 = 0 → (∃ N_13 : Nat, lp_X3_order_44 c_bu c_fr c_le c_n c_tu (fun (v_14 : Int32) (c_15 : Nat → Int32) (c_16 : Nat → Int32) => (wp_X3_numberOf c_n c_15 (fun r_18 u_17 => ((r_18 = 0 → (lp_X3_order_38 c_bu c_fr c_le c_n c_tu K107 N (v_1 + 1) 0 c_15 c_16)) ∧ (¬ r_18 = 0 → (lp_X3_order_38 c_bu c_fr c_le c_n c_tu K107 N (v_1 + 1) 1 c_15 c_16)))))) N_13 0 c_no c_te)))
set_option maxHeartbeats 4000000 in
set_option maxRecDepth 100000 in
theorem l_X3_order_38 {p : Program} {l : Launch} {e : Env} {s : State} {m : MethodId} {args : Array Value} {below : List Frame} {meth : Method} {c : Code} {A : Nat → Prop} {D : va_G} {cy : Nat → ClassId} {Q : State → Prop} {a_this : Nat} {a_ro : Nat} {a_fr : Nat} {a_bu : Nat} {a_no : Nat} {a_te : Nat} {a_fa : Nat} {a_li : Nat} {a_wy : Nat} {a_su : Nat} {c_th : Int32} {c_n : Int32} {c_tu : Int32} {c_al : Int32} {c_le : Int32} {c_wa : Int32} {c_re : Int32} {c_us : Int32} {c_di : Int32} {c_ha : Int64} {c_fr : Nat → Int32} {c_bu : Nat → Int32} {K107 : Int32 → Int32 → (Nat → Int32) → (Nat → Int32) → Prop} (C0 : Cx p s m args c cX3_order yX3_order.cls 4 wsX3_order D cy A)
    (k107 : ∀ (v_1 : Int32) (v_2 : Int32) (c_no : Nat → Int32) (c_te : Nat → Int32) (H : Heap) (locs : List Loc) (ls : Array Slot), K107 v_1 v_2 c_no c_te → va_P D vwCl ([(a_this, .inr (3, [.int c_th, .int c_n, .int c_tu, .int c_al, .ref a_ro, .ref a_fr, .int c_le, .ref a_bu, .ref a_no, .ref a_te, .ref a_fa, .ref a_li, .int c_wa, .int c_re, .int c_us, .int c_di, .ref a_wy, .ref a_su, .long c_ha])), (a_fr, .inl (cy 0, 96, .inl c_fr)), (a_bu, .inl (cy 0, 60, .inl c_bu)), (a_no, .inl (cy 0, 8, .inl c_no)), (a_te, .inl (cy 0, 8, .inl c_te))]) H → va_D A ([(a_this, .inr (3, [.int c_th, .int c_n, .int c_tu, .int c_al, .ref a_ro, .ref a_fr, .int c_le, .ref a_bu, .ref a_no, .ref a_te, .ref a_fa, .ref a_li, .int c_wa, .int c_re, .int c_us, .int c_di, .ref a_wy, .ref a_su, .long c_ha])), (a_fr, .inl (cy 0, 96, .inl c_fr)), (a_bu, .inl (cy 0, 60, .inl c_bu)), (a_no, .inl (cy 0, 8, .inl c_no)), (a_te, .inl (cy 0, 8, .inl c_te))]) → va_S A s.heap H locs → lv_has ls 4 [(1, .int v_1)] → W p l e (({ frames := 5, cells := 0, slots := 0, locals := 106 } : Room)) s m args below meth c H locs 0 0 Q (F0 m 107 ls [])) :
    ∀ (N : Nat) (v_1 : Int32) (v_2 : Int32) (c_no : Nat → Int32) (c_te : Nat → Int32) (H : Heap) (locs : List Loc) (ls : Array Slot), lp_X3_order_38 c_bu c_fr c_le c_n c_tu K107 N v_1 v_2 c_no c_te → va_P D vwCl ([(a_this, .inr (3, [.int c_th, .int c_n, .int c_tu, .int c_al, .ref a_ro, .ref a_fr, .int c_le, .ref a_bu, .ref a_no, .ref a_te, .ref a_fa, .ref a_li, .int c_wa, .int c_re, .int c_us, .int c_di, .ref a_wy, .ref a_su, .long c_ha])), (a_fr, .inl (cy 0, 96, .inl c_fr)), (a_bu, .inl (cy 0, 60, .inl c_bu)), (a_no, .inl (cy 0, 8, .inl c_no)), (a_te, .inl (cy 0, 8, .inl c_te))]) H → va_D A ([(a_this, .inr (3, [.int c_th, .int c_n, .int c_tu, .int c_al, .ref a_ro, .ref a_fr, .int c_le, .ref a_bu, .ref a_no, .ref a_te, .ref a_fa, .ref a_li, .int c_wa, .int c_re, .int c_us, .int c_di, .ref a_wy, .ref a_su, .long c_ha])), (a_fr, .inl (cy 0, 96, .inl c_fr)), (a_bu, .inl (cy 0, 60, .inl c_bu)), (a_no, .inl (cy 0, 8, .inl c_no)), (a_te, .inl (cy 0, 8, .inl c_te))]) → va_S A s.heap H locs → lv_has ls 4 [(0, .ref a_this), (1, .int v_1), (2, .int v_2)] → W p l e (({ frames := 5, cells := 0, slots := 0, locals := 106 } : Room)) s m args below meth c H locs 0 0 Q (F0 m 38 ls []) := by
  obtain ⟨hx, hb, hml, hown, hts, hK, hA⟩ := id C0
  intro N
  induction N with
  | zero =>
    intro v_1 v_2 c_no c_te H locs ls hw
    exact False.elim hw
  | succ N ih =>
    intro v_1 v_2 c_no c_te H locs ls hw hP hD hS hl
    rw [lp_X3_order_38] at hw
    refine lv_iload_n hx hb dX3_order_38 rfl (lv_at hl 2 rfl) ?_
    refine lv_if_eq (tgt := 107) hx hb dX3_order_39 (by decide) (fun c_6 => ?_) (fun c_6 => ?_)
    · replace hw := hw.1 c_6
      exact k107 _ _ _ _ _ _ _ hw hP hD hS (lv_sub hl [1] rfl)
    · replace hw := hw.2 c_6
      refine lv_iconst (v := 0) hx hb dX3_order_42 (by decide) ?_
      refine lv_istore_n (lv' := [(3, .int 0), (0, .ref a_this), (1, .int v_1), (2, .int v_2)]) hx hb dX3_order_43 rfl hl (by decide) rfl (fun ls hl => ?_)
      obtain ⟨N_13, hw⟩ := hw
      refine l_X3_order_44 C0 (fun v_14 c_15 c_16 H locs ls hw hP hD hS hl => ?_) _ _ _ _ _ _ _ hw hP hD hS (lv_sub hl [1, 2, 0] rfl)
      refine lv_iinc (v := v_1 + 1) (lv' := [(1, .int (v_1 + 1)), (0, .ref a_this)]) hx hb dX3_order_84 hl (k := 1) rfl rfl (by decide) rfl (fun ls hl => ?_)
      refine lv_aload_n hx hb dX3_order_87 rfl (lv_at hl 1 rfl) ?_
      refine lv_aload_n hx hb dX3_order_88 rfl (lv_at hl 1 rfl) ?_
      refine va_get (D := D) (ci := 3) (v := .ref a_no) (C := RX3) (T := TX3) (N := 19) hx hb hts k_X3_order_X3 hown hK hP 0 rfl rfl 8 (by decide) (hts _ q_X3_order_2) (fun _ h9 => h9) rfl dX3_order_89 ?_
      refine j_calli (wr := [(a_fr, .inl (cy 0, 96, .inl c_fr)), (a_bu, .inl (cy 0, 60, .inl c_bu)), (a_te, .inl (cy 0, 8, .inl c_16))]) (va_runV (As := [.ref a_no]) (rest := []) ⟨hx, hb, hml, hown, hts⟩ (c_X3_numberOf l D cy a_this a_ro a_fr a_bu a_no a_te a_fa a_li a_wy a_su a_no c_th c_n c_tu c_al c_le c_wa c_re c_us c_di c_ha c_15 hw H.size) (cwV 1 hts gX3_order_X3_numberOf rfl rfl rfl (by decide +kernel) ⟨Nat.le_of_ble_eq_true rfl, Nat.le_of_ble_eq_true rfl⟩) (j_preV hK hP hD (isC := [0, 3]) rfl (by decide +kernel) (ci := 3) (q0 := 0) rfl rfl) rfl rfl hl.1 rfl (lv_room (Nat.le_of_ble_eq_true rfl)) dX3_order_92 ⟨Nat.le_of_ble_eq_true rfl, Nat.le_of_ble_eq_true rfl⟩) hP hD hS hA [0, 3] [1, 2, 4] rfl rfl (by decide +kernel) (by decide +kernel) (fun u_17 => [(a_this, .inr (3, [.int c_th, .int c_n, .int c_tu, .int c_al, .ref a_ro, .ref a_fr, .int c_le, .ref a_bu, .ref a_no, .ref a_te, .ref a_fa, .ref a_li, .int c_wa, .int c_re, .int c_us, .int c_di, .ref a_wy, .ref a_su, .long c_ha])), (a_fr, .inl (cy 0, 96, .inl c_fr)), (a_bu, .inl (cy 0, 60, .inl c_bu)), (a_no, .inl (cy 0, 8, .inl c_15)), (a_te, .inl (cy 0, 8, .inl c_16))]) [3, 0, 1, 4, 2] (by decide +kernel) (fun u => rfl) (fun r_18 u_17 H locs hw hP hD hS => ?_)
      have hP : va_P D vwCl ([(a_this, .inr (3, [.int c_th, .int c_n, .int c_tu, .int c_al, .ref a_ro, .ref a_fr, .int c_le, .ref a_bu, .ref a_no, .ref a_te, .ref a_fa, .ref a_li, .int c_wa, .int c_re, .int c_us, .int c_di, .ref a_wy, .ref a_su, .long c_ha])), (a_fr, .inl (cy 0, 96, .inl c_fr)), (a_bu, .inl (cy 0, 60, .inl c_bu)), (a_no, .inl (cy 0, 8, .inl c_15)), (a_te, .inl (cy 0, 8, .inl c_16))]) H := hP
      have hD : va_D A ([(a_this, .inr (3, [.int c_th, .int c_n, .int c_tu, .int c_al, .ref a_ro, .ref a_fr, .int c_le, .ref a_bu, .ref a_no, .ref a_te, .ref a_fa, .ref a_li, .int c_wa, .int c_re, .int c_us, .int c_di, .ref a_wy, .ref a_su, .long c_ha])), (a_fr, .inl (cy 0, 96, .inl c_fr)), (a_bu, .inl (cy 0, 60, .inl c_bu)), (a_no, .inl (cy 0, 8, .inl c_15)), (a_te, .inl (cy 0, 8, .inl c_16))]) := hD
      refine lv_if_eq (tgt := 102) hx hb dX3_order_95 (by decide) (fun c_19 => ?_) (fun c_19 => ?_)
      · replace hw := hw.1 c_19
        refine lv_iconst (v := 0) hx hb dX3_order_102 (by decide) ?_
        refine lv_istore_n (lv' := [(2, .int 0), (1, .int (v_1 + 1)), (0, .ref a_this)]) hx hb dX3_order_103 rfl hl (by decide) rfl (fun ls hl => ?_)
        refine lv_goto (tgt := 38) hx hb dX3_order_104 (by decide) ?_
        exact ih _ _ _ _ _ _ _ hw hP hD hS (lv_sub hl [2, 1, 0] rfl)
      · replace hw := hw.2 c_19
        refine lv_iconst (v := 1) hx hb dX3_order_98 (by decide) ?_
        refine lv_goto (tgt := 103) hx hb dX3_order_99 (by decide) ?_
        refine lv_istore_n (lv' := [(2, .int 1), (1, .int (v_1 + 1)), (0, .ref a_this)]) hx hb dX3_order_103 rfl hl (by decide) rfl (fun ls hl => ?_)
        refine lv_goto (tgt := 38) hx hb dX3_order_104 (by decide) ?_
        exact ih _ _ _ _ _ _ _ hw hP hD hS (lv_sub hl [2, 1, 0] rfl)
def wp_X3_order (c_n : Int32) (c_tu : Int32) (c_le : Int32) (c_fr : Nat → Int32) (c_bu : Nat → Int32) (c_no : Nat → Int32) (c_te : Nat → Int32) (post : Int32 → (Int32 × (Nat → Int32) × (Nat → Int32)) → Prop) : Prop := (wp_X3_isWord c_tu c_le c_bu (fun r_2 u_1 => ((r_2 = 0 → (((1 : Int32) ≤ 0 → (wp_X3_read c_n c_no (0 : Int32) (fun u_5 => (∃ N_20 : Nat, lp_X3_order_38 c_bu c_fr c_le c_n c_tu (fun (v_21 : Int32) (v_22 : Int32) (c_23 : Nat → Int32) (c_24 : Nat → Int32) => (post v_21 ((1 : Int32), c_23, c_24))) N_20 0 1 u_5 c_te)))) ∧ (¬ (1 : Int32) ≤ 0 → (post 0 ((1 : Int32), c_no, c_te))))) ∧ (¬ r_2 = 0 → (((0 : Int32) ≤ 0 → (wp_X3_read c_n c_no (0 : Int32) (fun u_26 => (∃ N_27 : Nat, lp_X3_order_38 c_bu c_fr c_le c_n c_tu (fun (v_28 : Int32) (v_29 : Int32) (c_30 : Nat → Int32) (c_31 : Nat → Int32) => (post v_28 ((0 : Int32), c_30, c_31))) N_27 0 1 u_26 c_te)))) ∧ (¬ (0 : Int32) ≤ 0 → (post 0 ((0 : Int32), c_no, c_te))))))))
set_option maxHeartbeats 4000000 in
set_option maxRecDepth 100000 in
theorem c_X3_order (l : Launch) (D : va_G) (cy : Nat → ClassId) (a_this : Nat) (a_ro : Nat) (a_fr : Nat) (a_bu : Nat) (a_no : Nat) (a_te : Nat) (a_fa : Nat) (a_li : Nat) (a_wy : Nat) (a_su : Nat) (c_th : Int32) (c_n : Int32) (c_tu : Int32) (c_al : Int32) (c_le : Int32) (c_wa : Int32) (c_re : Int32) (c_us : Int32) (c_di : Int32) (c_ha : Int64) (c_fr : Nat → Int32) (c_bu : Nat → Int32) (c_no : Nat → Int32) (c_te : Nat → Int32) {post : Int32 → (Int32 × (Nat → Int32) × (Nat → Int32)) → Prop} (hw : wp_X3_order c_n c_tu c_le c_fr c_bu c_no c_te post) (sz : Nat) : Met l yX3_order wsX3_order ({ frames := 5, cells := 0, slots := 0, locals := 106 }) (va_Pc [.ref a_this] (PreW D cy ([(a_this, .inr (3, [.int c_th, .int c_n, .int c_tu, .int c_al, .ref a_ro, .ref a_fr, .int c_le, .ref a_bu, .ref a_no, .ref a_te, .ref a_fa, .ref a_li, .int c_wa, .int c_re, .int c_us, .int c_di, .ref a_wy, .ref a_su, .long c_ha])), (a_fr, .inl (cy 0, 96, .inl c_fr)), (a_bu, .inl (cy 0, 60, .inl c_bu)), (a_no, .inl (cy 0, 8, .inl c_no)), (a_te, .inl (cy 0, 8, .inl c_te))]) sz)) (va_Qi post (fun u t => PostW D cy (va_A ([(a_this, .inr (3, [.int c_th, .int c_n, .int c_tu, .int c_al, .ref a_ro, .ref a_fr, .int c_le, .ref a_bu, .ref a_no, .ref a_te, .ref a_fa, .ref a_li, .int c_wa, .int c_re, .int c_us, .int c_di, .ref a_wy, .ref a_su, .long c_ha])), (a_fr, .inl (cy 0, 96, .inl c_fr)), (a_bu, .inl (cy 0, 60, .inl c_bu)), (a_no, .inl (cy 0, 8, .inl c_no)), (a_te, .inl (cy 0, 8, .inl c_te))]) sz) ([(a_this, .inr (3, [.int u.1, .int c_n, .int c_tu, .int c_al, .ref a_ro, .ref a_fr, .int c_le, .ref a_bu, .ref a_no, .ref a_te, .ref a_fa, .ref a_li, .int c_wa, .int c_re, .int c_us, .int c_di, .ref a_wy, .ref a_su, .long c_ha])), (a_fr, .inl (cy 0, 96, .inl c_fr)), (a_bu, .inl (cy 0, 60, .inl c_bu)), (a_no, .inl (cy 0, 8, .inl u.2.1)), (a_te, .inl (cy 0, 8, .inl u.2.2))]) t) (va_A ([(a_this, .inr (3, [.int c_th, .int c_n, .int c_tu, .int c_al, .ref a_ro, .ref a_fr, .int c_le, .ref a_bu, .ref a_no, .ref a_te, .ref a_fa, .ref a_li, .int c_wa, .int c_re, .int c_us, .int c_di, .ref a_wy, .ref a_su, .long c_ha])), (a_fr, .inl (cy 0, 96, .inl c_fr)), (a_bu, .inl (cy 0, 60, .inl c_bu)), (a_no, .inl (cy 0, 8, .inl c_no)), (a_te, .inl (cy 0, 8, .inl c_te))]) sz)) 0 0 (va_A ([(a_this, .inr (3, [.int c_th, .int c_n, .int c_tu, .int c_al, .ref a_ro, .ref a_fr, .int c_le, .ref a_bu, .ref a_no, .ref a_te, .ref a_fa, .ref a_li, .int c_wa, .int c_re, .int c_us, .int c_di, .ref a_wy, .ref a_su, .long c_ha])), (a_fr, .inl (cy 0, 96, .inl c_fr)), (a_bu, .inl (cy 0, 60, .inl c_bu)), (a_no, .inl (cy 0, 8, .inl c_no)), (a_te, .inl (cy 0, 8, .inl c_te))]) sz) := by
  refine j_met (Qc := fun A => va_Qi post (fun u t => PostW D cy A ([(a_this, .inr (3, [.int u.1, .int c_n, .int c_tu, .int c_al, .ref a_ro, .ref a_fr, .int c_le, .ref a_bu, .ref a_no, .ref a_te, .ref a_fa, .ref a_li, .int c_wa, .int c_re, .int c_us, .int c_di, .ref a_wy, .ref a_su, .long c_ha])), (a_fr, .inl (cy 0, 96, .inl c_fr)), (a_bu, .inl (cy 0, 60, .inl c_bu)), (a_no, .inl (cy 0, 8, .inl u.2.1)), (a_te, .inl (cy 0, 8, .inl u.2.2))]) t) A) (by decide +kernel) rfl (Nat.le_of_ble_eq_true rfl) ?_
  intro p e s m below meth c A ls C0 hr hlocks hP hD hS hl
  obtain ⟨hx, hb, hml, hown, hts, hK, hA⟩ := id C0
  have hown : s.vm.findClass RX3 = some m.cls := hown
  have hl : lv_has ls 4 [(0, .ref a_this)] := hl
  unfold wp_X3_order at hw
  refine lv_aload_n hx hb dX3_order_0 rfl (lv_at hl 0 rfl) ?_
  refine lv_aload_n hx hb dX3_order_1 rfl (lv_at hl 0 rfl) ?_
  refine j_calli (wr := [(a_fr, .inl (cy 0, 96, .inl c_fr)), (a_no, .inl (cy 0, 8, .inl c_no)), (a_te, .inl (cy 0, 8, .inl c_te))]) (va_runV (As := []) (rest := [.ref a_this]) ⟨hx, hb, hml, hown, hts⟩ (c_X3_isWord l D cy a_this a_ro a_fr a_bu a_no a_te a_fa a_li a_wy a_su c_th c_n c_tu c_al c_le c_wa c_re c_us c_di c_ha c_bu hw s.heap.size) (cwV 0 hts gX3_order_X3_isWord rfl rfl rfl (by decide +kernel) ⟨Nat.le_of_ble_eq_true rfl, Nat.le_of_ble_eq_true rfl⟩) (j_preV hK hP hD (isC := [0, 2]) rfl (by decide +kernel) (ci := 3) (q0 := 0) rfl rfl) rfl rfl hl.1 rfl (lv_room (Nat.le_of_ble_eq_true rfl)) dX3_order_2 ⟨Nat.le_of_ble_eq_true rfl, Nat.le_of_ble_eq_true rfl⟩) hP hD hS hA [0, 2] [1, 3, 4] rfl rfl (by decide +kernel) (by decide +kernel) (fun u_1 => [(a_this, .inr (3, [.int c_th, .int c_n, .int c_tu, .int c_al, .ref a_ro, .ref a_fr, .int c_le, .ref a_bu, .ref a_no, .ref a_te, .ref a_fa, .ref a_li, .int c_wa, .int c_re, .int c_us, .int c_di, .ref a_wy, .ref a_su, .long c_ha])), (a_fr, .inl (cy 0, 96, .inl c_fr)), (a_bu, .inl (cy 0, 60, .inl c_bu)), (a_no, .inl (cy 0, 8, .inl c_no)), (a_te, .inl (cy 0, 8, .inl c_te))]) [3, 0, 4, 1, 2] (by decide +kernel) (fun u => rfl) (fun r_2 u_1 H locs hw hP hD hS => ?_)
  have hP : va_P D vwCl ([(a_this, .inr (3, [.int c_th, .int c_n, .int c_tu, .int c_al, .ref a_ro, .ref a_fr, .int c_le, .ref a_bu, .ref a_no, .ref a_te, .ref a_fa, .ref a_li, .int c_wa, .int c_re, .int c_us, .int c_di, .ref a_wy, .ref a_su, .long c_ha])), (a_fr, .inl (cy 0, 96, .inl c_fr)), (a_bu, .inl (cy 0, 60, .inl c_bu)), (a_no, .inl (cy 0, 8, .inl c_no)), (a_te, .inl (cy 0, 8, .inl c_te))]) H := hP
  have hD : va_D A ([(a_this, .inr (3, [.int c_th, .int c_n, .int c_tu, .int c_al, .ref a_ro, .ref a_fr, .int c_le, .ref a_bu, .ref a_no, .ref a_te, .ref a_fa, .ref a_li, .int c_wa, .int c_re, .int c_us, .int c_di, .ref a_wy, .ref a_su, .long c_ha])), (a_fr, .inl (cy 0, 96, .inl c_fr)), (a_bu, .inl (cy 0, 60, .inl c_bu)), (a_no, .inl (cy 0, 8, .inl c_no)), (a_te, .inl (cy 0, 8, .inl c_te))]) := hD
  refine lv_if_eq (tgt := 12) hx hb dX3_order_5 (by decide) (fun c_3 => ?_) (fun c_3 => ?_)
  · replace hw := hw.1 c_3
    refine lv_iconst (v := 1) hx hb dX3_order_12 (by decide) ?_
    refine va_put (D := D) (ci := 3) (v := .int 1) (ty := .int) (C := RX3) (T := TX3) (N := 19) hx hb hts k_X3_order_X3 tyX3 tyX3_ok nmX3 hown hK hP hD hS 0 rfl rfl 0 (by decide) (hts _ q_X3_order_1) (fun _ h9 => h9) rfl (by decide +kernel) rfl rfl (Nat.le_of_ble_eq_true rfl) dX3_order_13 (fun H locs hP hD hS => ?_)
    have hP : va_P D vwCl ([(a_this, .inr (3, [.int (1 : Int32), .int c_n, .int c_tu, .int c_al, .ref a_ro, .ref a_fr, .int c_le, .ref a_bu, .ref a_no, .ref a_te, .ref a_fa, .ref a_li, .int c_wa, .int c_re, .int c_us, .int c_di, .ref a_wy, .ref a_su, .long c_ha])), (a_fr, .inl (cy 0, 96, .inl c_fr)), (a_bu, .inl (cy 0, 60, .inl c_bu)), (a_no, .inl (cy 0, 8, .inl c_no)), (a_te, .inl (cy 0, 8, .inl c_te))]) H := hP
    have hD : va_D A ([(a_this, .inr (3, [.int (1 : Int32), .int c_n, .int c_tu, .int c_al, .ref a_ro, .ref a_fr, .int c_le, .ref a_bu, .ref a_no, .ref a_te, .ref a_fa, .ref a_li, .int c_wa, .int c_re, .int c_us, .int c_di, .ref a_wy, .ref a_su, .long c_ha])), (a_fr, .inl (cy 0, 96, .inl c_fr)), (a_bu, .inl (cy 0, 60, .inl c_bu)), (a_no, .inl (cy 0, 8, .inl c_no)), (a_te, .inl (cy 0, 8, .inl c_te))]) := hD
    refine lv_aload_n hx hb dX3_order_16 rfl (lv_at hl 0 rfl) ?_
    refine va_get (D := D) (ci := 3) (v := .int (1 : Int32)) (C := RX3) (T := TX3) (N := 19) hx hb hts k_X3_order_X3 hown hK hP 0 rfl rfl 0 (by decide) (hts _ q_X3_order_1) (fun _ h9 => h9) rfl dX3_order_17 ?_
    refine lv_if_le (tgt := 25) hx hb dX3_order_20 (by decide) (fun c_4 => ?_) (fun c_4 => ?_)
    · replace hw := hw.1 c_4
      refine lv_aload_n hx hb dX3_order_25 rfl (lv_at hl 0 rfl) ?_
      refine lv_iconst (v := 0) hx hb dX3_order_26 (by decide) ?_
      refine lv_aload_n hx hb dX3_order_27 rfl (lv_at hl 0 rfl) ?_
      refine va_get (D := D) (ci := 3) (v := .ref a_no) (C := RX3) (T := TX3) (N := 19) hx hb hts k_X3_order_X3 hown hK hP 0 rfl rfl 8 (by decide) (hts _ q_X3_order_2) (fun _ h9 => h9) rfl dX3_order_28 ?_
      refine j_callv (wr := [(a_fr, .inl (cy 0, 96, .inl c_fr)), (a_bu, .inl (cy 0, 60, .inl c_bu)), (a_te, .inl (cy 0, 8, .inl c_te))]) (va_runV (As := [.int 0, .ref a_no]) (rest := []) ⟨hx, hb, hml, hown, hts⟩ (c_X3_read l D cy a_this a_ro a_fr a_bu a_no a_te a_fa a_li a_wy a_su a_no (1 : Int32) c_n c_tu c_al c_le c_wa c_re c_us c_di c_ha c_no (0 : Int32) hw H.size) (cwV 2 hts gX3_order_X3_read rfl rfl rfl (by decide +kernel) ⟨Nat.le_of_ble_eq_true rfl, Nat.le_of_ble_eq_true rfl⟩) (j_preV hK hP hD (isC := [0, 3]) rfl (by decide +kernel) (ci := 3) (q0 := 0) rfl rfl) rfl rfl hl.1 rfl (lv_room (Nat.le_of_ble_eq_true rfl)) dX3_order_31 ⟨Nat.le_of_ble_eq_true rfl, Nat.le_of_ble_eq_true rfl⟩) hP hD hS hA [0, 3] [1, 2, 4] rfl rfl (by decide +kernel) (by decide +kernel) (fun u_5 => [(a_this, .inr (3, [.int (1 : Int32), .int c_n, .int c_tu, .int c_al, .ref a_ro, .ref a_fr, .int c_le, .ref a_bu, .ref a_no, .ref a_te, .ref a_fa, .ref a_li, .int c_wa, .int c_re, .int c_us, .int c_di, .ref a_wy, .ref a_su, .long c_ha])), (a_fr, .inl (cy 0, 96, .inl c_fr)), (a_bu, .inl (cy 0, 60, .inl c_bu)), (a_no, .inl (cy 0, 8, .inl u_5)), (a_te, .inl (cy 0, 8, .inl c_te))]) [3, 0, 1, 4, 2] (by decide +kernel) (fun u => rfl) (fun u_5 H locs hw hP hD hS => ?_)
      have hP : va_P D vwCl ([(a_this, .inr (3, [.int (1 : Int32), .int c_n, .int c_tu, .int c_al, .ref a_ro, .ref a_fr, .int c_le, .ref a_bu, .ref a_no, .ref a_te, .ref a_fa, .ref a_li, .int c_wa, .int c_re, .int c_us, .int c_di, .ref a_wy, .ref a_su, .long c_ha])), (a_fr, .inl (cy 0, 96, .inl c_fr)), (a_bu, .inl (cy 0, 60, .inl c_bu)), (a_no, .inl (cy 0, 8, .inl u_5)), (a_te, .inl (cy 0, 8, .inl c_te))]) H := hP
      have hD : va_D A ([(a_this, .inr (3, [.int (1 : Int32), .int c_n, .int c_tu, .int c_al, .ref a_ro, .ref a_fr, .int c_le, .ref a_bu, .ref a_no, .ref a_te, .ref a_fa, .ref a_li, .int c_wa, .int c_re, .int c_us, .int c_di, .ref a_wy, .ref a_su, .long c_ha])), (a_fr, .inl (cy 0, 96, .inl c_fr)), (a_bu, .inl (cy 0, 60, .inl c_bu)), (a_no, .inl (cy 0, 8, .inl u_5)), (a_te, .inl (cy 0, 8, .inl c_te))]) := hD
      refine lv_iconst (v := 0) hx hb dX3_order_34 (by decide) ?_
      refine lv_istore_n (lv' := [(1, .int 0), (0, .ref a_this)]) hx hb dX3_order_35 rfl hl (by decide) rfl (fun ls hl => ?_)
      refine lv_iconst (v := 1) hx hb dX3_order_36 (by decide) ?_
      refine lv_istore_n (lv' := [(2, .int 1), (1, .int 0), (0, .ref a_this)]) hx hb dX3_order_37 rfl hl (by decide) rfl (fun ls hl => ?_)
      obtain ⟨N_20, hw⟩ := hw
      refine l_X3_order_38 C0 (fun v_21 v_22 c_23 c_24 H locs ls hw hP hD hS hl => ?_) _ _ _ _ _ _ _ _ hw hP hD hS (lv_sub hl [2, 1, 0] rfl)
      refine lv_iload_n hx hb dX3_order_107 rfl (lv_at hl 0 rfl) ?_
      exact j_iret (fun u => [(a_this, .inr (3, [.int u.1, .int c_n, .int c_tu, .int c_al, .ref a_ro, .ref a_fr, .int c_le, .ref a_bu, .ref a_no, .ref a_te, .ref a_fa, .ref a_li, .int c_wa, .int c_re, .int c_us, .int c_di, .ref a_wy, .ref a_su, .long c_ha])), (a_fr, .inl (cy 0, 96, .inl c_fr)), (a_bu, .inl (cy 0, 60, .inl c_bu)), (a_no, .inl (cy 0, 8, .inl u.2.1)), (a_te, .inl (cy 0, 8, .inl u.2.2))]) (((1 : Int32), c_23, c_24) : Int32 × (Nat → Int32) × (Nat → Int32)) hx hb hr hlocks hK hP hD hS hw dX3_order_108
    · replace hw := hw.2 c_4
      refine lv_iconst (v := 0) hx hb dX3_order_23 (by decide) ?_
      exact j_iret (fun u => [(a_this, .inr (3, [.int u.1, .int c_n, .int c_tu, .int c_al, .ref a_ro, .ref a_fr, .int c_le, .ref a_bu, .ref a_no, .ref a_te, .ref a_fa, .ref a_li, .int c_wa, .int c_re, .int c_us, .int c_di, .ref a_wy, .ref a_su, .long c_ha])), (a_fr, .inl (cy 0, 96, .inl c_fr)), (a_bu, .inl (cy 0, 60, .inl c_bu)), (a_no, .inl (cy 0, 8, .inl u.2.1)), (a_te, .inl (cy 0, 8, .inl u.2.2))]) (((1 : Int32), c_no, c_te) : Int32 × (Nat → Int32) × (Nat → Int32)) hx hb hr hlocks hK hP hD hS hw dX3_order_24
  · replace hw := hw.2 c_3
    refine lv_iconst (v := 0) hx hb dX3_order_8 (by decide) ?_
    refine lv_goto (tgt := 13) hx hb dX3_order_9 (by decide) ?_
    refine va_put (D := D) (ci := 3) (v := .int 0) (ty := .int) (C := RX3) (T := TX3) (N := 19) hx hb hts k_X3_order_X3 tyX3 tyX3_ok nmX3 hown hK hP hD hS 0 rfl rfl 0 (by decide) (hts _ q_X3_order_1) (fun _ h9 => h9) rfl (by decide +kernel) rfl rfl (Nat.le_of_ble_eq_true rfl) dX3_order_13 (fun H locs hP hD hS => ?_)
    have hP : va_P D vwCl ([(a_this, .inr (3, [.int (0 : Int32), .int c_n, .int c_tu, .int c_al, .ref a_ro, .ref a_fr, .int c_le, .ref a_bu, .ref a_no, .ref a_te, .ref a_fa, .ref a_li, .int c_wa, .int c_re, .int c_us, .int c_di, .ref a_wy, .ref a_su, .long c_ha])), (a_fr, .inl (cy 0, 96, .inl c_fr)), (a_bu, .inl (cy 0, 60, .inl c_bu)), (a_no, .inl (cy 0, 8, .inl c_no)), (a_te, .inl (cy 0, 8, .inl c_te))]) H := hP
    have hD : va_D A ([(a_this, .inr (3, [.int (0 : Int32), .int c_n, .int c_tu, .int c_al, .ref a_ro, .ref a_fr, .int c_le, .ref a_bu, .ref a_no, .ref a_te, .ref a_fa, .ref a_li, .int c_wa, .int c_re, .int c_us, .int c_di, .ref a_wy, .ref a_su, .long c_ha])), (a_fr, .inl (cy 0, 96, .inl c_fr)), (a_bu, .inl (cy 0, 60, .inl c_bu)), (a_no, .inl (cy 0, 8, .inl c_no)), (a_te, .inl (cy 0, 8, .inl c_te))]) := hD
    refine lv_aload_n hx hb dX3_order_16 rfl (lv_at hl 0 rfl) ?_
    refine va_get (D := D) (ci := 3) (v := .int (0 : Int32)) (C := RX3) (T := TX3) (N := 19) hx hb hts k_X3_order_X3 hown hK hP 0 rfl rfl 0 (by decide) (hts _ q_X3_order_1) (fun _ h9 => h9) rfl dX3_order_17 ?_
    refine lv_if_le (tgt := 25) hx hb dX3_order_20 (by decide) (fun c_25 => ?_) (fun c_25 => ?_)
    · replace hw := hw.1 c_25
      refine lv_aload_n hx hb dX3_order_25 rfl (lv_at hl 0 rfl) ?_
      refine lv_iconst (v := 0) hx hb dX3_order_26 (by decide) ?_
      refine lv_aload_n hx hb dX3_order_27 rfl (lv_at hl 0 rfl) ?_
      refine va_get (D := D) (ci := 3) (v := .ref a_no) (C := RX3) (T := TX3) (N := 19) hx hb hts k_X3_order_X3 hown hK hP 0 rfl rfl 8 (by decide) (hts _ q_X3_order_2) (fun _ h9 => h9) rfl dX3_order_28 ?_
      refine j_callv (wr := [(a_fr, .inl (cy 0, 96, .inl c_fr)), (a_bu, .inl (cy 0, 60, .inl c_bu)), (a_te, .inl (cy 0, 8, .inl c_te))]) (va_runV (As := [.int 0, .ref a_no]) (rest := []) ⟨hx, hb, hml, hown, hts⟩ (c_X3_read l D cy a_this a_ro a_fr a_bu a_no a_te a_fa a_li a_wy a_su a_no (0 : Int32) c_n c_tu c_al c_le c_wa c_re c_us c_di c_ha c_no (0 : Int32) hw H.size) (cwV 2 hts gX3_order_X3_read rfl rfl rfl (by decide +kernel) ⟨Nat.le_of_ble_eq_true rfl, Nat.le_of_ble_eq_true rfl⟩) (j_preV hK hP hD (isC := [0, 3]) rfl (by decide +kernel) (ci := 3) (q0 := 0) rfl rfl) rfl rfl hl.1 rfl (lv_room (Nat.le_of_ble_eq_true rfl)) dX3_order_31 ⟨Nat.le_of_ble_eq_true rfl, Nat.le_of_ble_eq_true rfl⟩) hP hD hS hA [0, 3] [1, 2, 4] rfl rfl (by decide +kernel) (by decide +kernel) (fun u_26 => [(a_this, .inr (3, [.int (0 : Int32), .int c_n, .int c_tu, .int c_al, .ref a_ro, .ref a_fr, .int c_le, .ref a_bu, .ref a_no, .ref a_te, .ref a_fa, .ref a_li, .int c_wa, .int c_re, .int c_us, .int c_di, .ref a_wy, .ref a_su, .long c_ha])), (a_fr, .inl (cy 0, 96, .inl c_fr)), (a_bu, .inl (cy 0, 60, .inl c_bu)), (a_no, .inl (cy 0, 8, .inl u_26)), (a_te, .inl (cy 0, 8, .inl c_te))]) [3, 0, 1, 4, 2] (by decide +kernel) (fun u => rfl) (fun u_26 H locs hw hP hD hS => ?_)
      have hP : va_P D vwCl ([(a_this, .inr (3, [.int (0 : Int32), .int c_n, .int c_tu, .int c_al, .ref a_ro, .ref a_fr, .int c_le, .ref a_bu, .ref a_no, .ref a_te, .ref a_fa, .ref a_li, .int c_wa, .int c_re, .int c_us, .int c_di, .ref a_wy, .ref a_su, .long c_ha])), (a_fr, .inl (cy 0, 96, .inl c_fr)), (a_bu, .inl (cy 0, 60, .inl c_bu)), (a_no, .inl (cy 0, 8, .inl u_26)), (a_te, .inl (cy 0, 8, .inl c_te))]) H := hP
      have hD : va_D A ([(a_this, .inr (3, [.int (0 : Int32), .int c_n, .int c_tu, .int c_al, .ref a_ro, .ref a_fr, .int c_le, .ref a_bu, .ref a_no, .ref a_te, .ref a_fa, .ref a_li, .int c_wa, .int c_re, .int c_us, .int c_di, .ref a_wy, .ref a_su, .long c_ha])), (a_fr, .inl (cy 0, 96, .inl c_fr)), (a_bu, .inl (cy 0, 60, .inl c_bu)), (a_no, .inl (cy 0, 8, .inl u_26)), (a_te, .inl (cy 0, 8, .inl c_te))]) := hD
      refine lv_iconst (v := 0) hx hb dX3_order_34 (by decide) ?_
      refine lv_istore_n (lv' := [(1, .int 0), (0, .ref a_this)]) hx hb dX3_order_35 rfl hl (by decide) rfl (fun ls hl => ?_)
      refine lv_iconst (v := 1) hx hb dX3_order_36 (by decide) ?_
      refine lv_istore_n (lv' := [(2, .int 1), (1, .int 0), (0, .ref a_this)]) hx hb dX3_order_37 rfl hl (by decide) rfl (fun ls hl => ?_)
      obtain ⟨N_27, hw⟩ := hw
      refine l_X3_order_38 C0 (fun v_28 v_29 c_30 c_31 H locs ls hw hP hD hS hl => ?_) _ _ _ _ _ _ _ _ hw hP hD hS (lv_sub hl [2, 1, 0] rfl)
      refine lv_iload_n hx hb dX3_order_107 rfl (lv_at hl 0 rfl) ?_
      exact j_iret (fun u => [(a_this, .inr (3, [.int u.1, .int c_n, .int c_tu, .int c_al, .ref a_ro, .ref a_fr, .int c_le, .ref a_bu, .ref a_no, .ref a_te, .ref a_fa, .ref a_li, .int c_wa, .int c_re, .int c_us, .int c_di, .ref a_wy, .ref a_su, .long c_ha])), (a_fr, .inl (cy 0, 96, .inl c_fr)), (a_bu, .inl (cy 0, 60, .inl c_bu)), (a_no, .inl (cy 0, 8, .inl u.2.1)), (a_te, .inl (cy 0, 8, .inl u.2.2))]) (((0 : Int32), c_30, c_31) : Int32 × (Nat → Int32) × (Nat → Int32)) hx hb hr hlocks hK hP hD hS hw dX3_order_108
    · replace hw := hw.2 c_25
      refine lv_iconst (v := 0) hx hb dX3_order_23 (by decide) ?_
      exact j_iret (fun u => [(a_this, .inr (3, [.int u.1, .int c_n, .int c_tu, .int c_al, .ref a_ro, .ref a_fr, .int c_le, .ref a_bu, .ref a_no, .ref a_te, .ref a_fa, .ref a_li, .int c_wa, .int c_re, .int c_us, .int c_di, .ref a_wy, .ref a_su, .long c_ha])), (a_fr, .inl (cy 0, 96, .inl c_fr)), (a_bu, .inl (cy 0, 60, .inl c_bu)), (a_no, .inl (cy 0, 8, .inl u.2.1)), (a_te, .inl (cy 0, 8, .inl u.2.2))]) (((0 : Int32), c_no, c_te) : Int32 × (Nat → Int32) × (Nat → Int32)) hx hb hr hlocks hK hP hD hS hw dX3_order_24
