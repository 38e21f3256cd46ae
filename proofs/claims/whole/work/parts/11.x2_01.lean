theorem q_X2_isPlace_1 : Cond.fieldLink RX2 28 "TwistedRow" "places" "I" ∈ wsX2_isPlace := List.mem_of_getElem? (i := 1) rfl
theorem k_X2_isPlace_X2 : ∀ w ∈ wsX20, w ∈ wsX2_isPlace := my_in _ [2, 3, 4, 5, 6, 7, 8, 9, 10, 11] (by decide +kernel)
def wp_X2_isPlace (c_pl : Int32) (p_1 : Int32) (post : Int32 → Unit → Prop) : Prop := ((p_1 < 0 → (post 0 ())) ∧ (¬ p_1 < 0 → ((c_pl ≤ p_1 → (post 0 ())) ∧ (¬ c_pl ≤ p_1 → (post 1 ())))))
set_option maxHeartbeats 4000000 in
set_option maxRecDepth 100000 in
theorem c_X2_isPlace (l : Launch) (D : va_G) (cy : Nat → ClassId) (a_this : Nat) (a_ti : Nat) (a_sc : Nat) (a_wr : Nat) (a_so : Nat) (a_inp : Nat) (a_G : Nat) (c_pl : Int32) (c_tu : Int32) (c_al : Int32) (c_il : Int32) (p_1 : Int32) {post : Int32 → Unit → Prop} (hw : wp_X2_isPlace c_pl p_1 post) (sz : Nat) : Met l yX2_isPlace wsX2_isPlace ({ frames := 0, cells := 0, slots := 0, locals := 0 }) (va_Pc [.ref a_this, .int p_1] (PreW D cy ([(a_this, .inr (2, [.ref a_ti, .ref a_sc, .ref a_wr, .ref a_so, .ref a_inp, .int c_pl, .int c_tu, .int c_al, .int c_il, .ref a_G]))]) sz)) (va_Qi post (fun u t => PostW D cy (va_A ([(a_this, .inr (2, [.ref a_ti, .ref a_sc, .ref a_wr, .ref a_so, .ref a_inp, .int c_pl, .int c_tu, .int c_al, .int c_il, .ref a_G]))]) sz) ([(a_this, .inr (2, [.ref a_ti, .ref a_sc, .ref a_wr, .ref a_so, .ref a_inp, .int c_pl, .int c_tu, .int c_al, .int c_il, .ref a_G]))]) t) (va_A ([(a_this, .inr (2, [.ref a_ti, .ref a_sc, .ref a_wr, .ref a_so, .ref a_inp, .int c_pl, .int c_tu, .int c_al, .int c_il, .ref a_G]))]) sz)) 0 0 (va_A ([(a_this, .inr (2, [.ref a_ti, .ref a_sc, .ref a_wr, .ref a_so, .ref a_inp, .int c_pl, .int c_tu, .int c_al, .int c_il, .ref a_G]))]) sz) := by
  refine j_met (l := l) (y := yX2_isPlace) (ws := wsX2_isPlace) (D := D) (cy := cy) (sz := sz) (av := [.ref a_this, .int p_1]) (Qc := fun A => va_Qi post (fun u t => PostW D cy A ([(a_this, .inr (2, [.ref a_ti, .ref a_sc, .ref a_wr, .ref a_so, .ref a_inp, .int c_pl, .int c_tu, .int c_al, .int c_il, .ref a_G]))]) t) A) (by decide +kernel) rfl (Nat.le_of_ble_eq_true rfl) ?_
  intro p e s m below meth c A ls C0 hr hlocks hP hD hS hl
  obtain ⟨hx, hb, hml, hown, hts, hK, hA⟩ := id C0
  have hown : s.vm.findClass RX2 = some m.cls := hown
  have hl : lv_has ls 2 [(0, .ref a_this), (1, .int p_1)] := hl
  unfold wp_X2_isPlace at hw
  refine lv_iload_n hx hb dX2_isPlace_0 rfl (lv_at hl 1 rfl) ?_
  refine lv_if_lt (tgt := 16) hx hb dX2_isPlace_1 (by decide) (fun c_1 => ?_) (fun c_1 => ?_)
  · replace hw := hw.1 c_1
    refine lv_iconst (v := 0) hx hb dX2_isPlace_16 (by decide) ?_
    exact j_zret (fun u => [(a_this, .inr (2, [.ref a_ti, .ref a_sc, .ref a_wr, .ref a_so, .ref a_inp, .int c_pl, .int c_tu, .int c_al, .int c_il, .ref a_G]))]) (() : Unit) hx hb hr rfl hlocks hK hP hD hS hw dX2_isPlace_17
  · replace hw := hw.2 c_1
    refine lv_iload_n hx hb dX2_isPlace_4 rfl (lv_at hl 1 rfl) ?_
    refine lv_aload_n hx hb dX2_isPlace_5 rfl (lv_at hl 0 rfl) ?_
    refine va_get (D := D) (ci := 2) (v := .int c_pl) (C := RX2) (T := TX2) (N := 10) hx hb hts k_X2_isPlace_X2 hown hK hP 0 rfl rfl 5 (by decide) (hts _ q_X2_isPlace_1) (fun _ h9 => h9) rfl dX2_isPlace_6 ?_
    refine lv_icmp_ge (tgt := 16) hx hb dX2_isPlace_9 (by decide) (fun c_2 => ?_) (fun c_2 => ?_)
    · replace hw := hw.1 c_2
      refine lv_iconst (v := 0) hx hb dX2_isPlace_16 (by decide) ?_
      exact j_zret (fun u => [(a_this, .inr (2, [.ref a_ti, .ref a_sc, .ref a_wr, .ref a_so, .ref a_inp, .int c_pl, .int c_tu, .int c_al, .int c_il, .ref a_G]))]) (() : Unit) hx hb hr rfl hlocks hK hP hD hS hw dX2_isPlace_17
    · replace hw := hw.2 c_2
      refine lv_iconst (v := 1) hx hb dX2_isPlace_12 (by decide) ?_
      refine lv_goto (tgt := 17) hx hb dX2_isPlace_13 (by decide) ?_
      exact j_zret (fun u => [(a_this, .inr (2, [.ref a_ti, .ref a_sc, .ref a_wr, .ref a_so, .ref a_inp, .int c_pl, .int c_tu, .int c_al, .int c_il, .ref a_G]))]) (() : Unit) hx hb hr rfl hlocks hK hP hD hS hw dX2_isPlace_17
def wp_X2_sourceByKind (p_0 : Int32) (p_1 : Int32) (p_2 : Int32) (p_3 : Int32) (post : Int32 → Unit → Prop) : Prop := ((¬ p_0 = 0 → ((¬ p_0 = 1 → ((¬ p_3 = p_1 → ((¬ p_3 = p_2 → (post p_3 ())) ∧ (p_3 = p_2 → (post p_1 ())))) ∧ (p_3 = p_1 → (post p_2 ())))) ∧ (p_0 = 1 → ((¬ p_3 = p_1 → (post (p_3 - 1) ())) ∧ (p_3 = p_1 → (post p_2 ())))))) ∧ (p_0 = 0 → (post ((p_1 + p_2) - p_3) ())))
set_option maxHeartbeats 4000000 in
set_option maxRecDepth 100000 in
theorem c_X2_sourceByKind (l : Launch) (D : va_G) (cy : Nat → ClassId) (p_0 : Int32) (p_1 : Int32) (p_2 : Int32) (p_3 : Int32) {post : Int32 → Unit → Prop} (hw : wp_X2_sourceByKind p_0 p_1 p_2 p_3 post) (sz : Nat) : Met l yX2_sourceByKind wsX2_sourceByKind ({ frames := 0, cells := 0, slots := 0, locals := 0 }) (va_Pc [.int p_0, .int p_1, .int p_2, .int p_3] (PreW D cy ([]) sz)) (va_Qi post (fun u t => PostW D cy (va_A ([]) sz) ([]) t) (va_A ([]) sz)) 0 0 (va_A ([]) sz) := by
  refine j_met (l := l) (y := yX2_sourceByKind) (ws := wsX2_sourceByKind) (D := D) (cy := cy) (sz := sz) (av := [.int p_0, .int p_1, .int p_2, .int p_3]) (Qc := fun A => va_Qi post (fun u t => PostW D cy A ([]) t) A) (by decide +kernel) rfl (Nat.le_of_ble_eq_true rfl) ?_
  intro p e s m below meth c A ls C0 hr hlocks hP hD hS hl
  obtain ⟨hx, hb, hml, hown, hts, hK, hA⟩ := id C0
  have hown : s.vm.findClass RX2 = some m.cls := hown
  have hl : lv_has ls 4 [(0, .int p_0), (1, .int p_1), (2, .int p_2), (3, .int p_3)] := hl
  unfold wp_X2_sourceByKind at hw
  refine lv_iload_n hx hb dX2_sourceByKind_0 rfl (lv_at hl 0 rfl) ?_
  refine lv_if_ne (tgt := 10) hx hb dX2_sourceByKind_1 (by decide) (fun c_1 => ?_) (fun c_1 => ?_)
  · replace hw := hw.1 c_1
    refine lv_iload_n hx hb dX2_sourceByKind_10 rfl (lv_at hl 0 rfl) ?_
    refine lv_iconst (v := 1) hx hb dX2_sourceByKind_11 (by decide) ?_
    refine lv_icmp_ne (tgt := 28) hx hb dX2_sourceByKind_12 (by decide) (fun c_2 => ?_) (fun c_2 => ?_)
    · replace hw := hw.1 c_2
      refine lv_iload_n hx hb dX2_sourceByKind_28 rfl (lv_at hl 3 rfl) ?_
      refine lv_iload_n hx hb dX2_sourceByKind_29 rfl (lv_at hl 1 rfl) ?_
      refine lv_icmp_ne (tgt := 35) hx hb dX2_sourceByKind_30 (by decide) (fun c_3 => ?_) (fun c_3 => ?_)
      · replace hw := hw.1 c_3
        refine lv_iload_n hx hb dX2_sourceByKind_35 rfl (lv_at hl 3 rfl) ?_
        refine lv_iload_n hx hb dX2_sourceByKind_36 rfl (lv_at hl 2 rfl) ?_
        refine lv_icmp_ne (tgt := 44) hx hb dX2_sourceByKind_37 (by decide) (fun c_4 => ?_) (fun c_4 => ?_)
        · replace hw := hw.1 c_4
          refine lv_iload_n hx hb dX2_sourceByKind_44 rfl (lv_at hl 3 rfl) ?_
          exact j_iret (fun u => []) (() : Unit) hx hb hr hlocks hK hP hD hS hw dX2_sourceByKind_45
        · replace hw := hw.2 c_4
          refine lv_iload_n hx hb dX2_sourceByKind_40 rfl (lv_at hl 1 rfl) ?_
          refine lv_goto (tgt := 45) hx hb dX2_sourceByKind_41 (by decide) ?_
          exact j_iret (fun u => []) (() : Unit) hx hb hr hlocks hK hP hD hS hw dX2_sourceByKind_45
      · replace hw := hw.2 c_3
        refine lv_iload_n hx hb dX2_sourceByKind_33 rfl (lv_at hl 2 rfl) ?_
        exact j_iret (fun u => []) (() : Unit) hx hb hr hlocks hK hP hD hS hw dX2_sourceByKind_34
    · replace hw := hw.2 c_2
      refine lv_iload_n hx hb dX2_sourceByKind_15 rfl (lv_at hl 3 rfl) ?_
      refine lv_iload_n hx hb dX2_sourceByKind_16 rfl (lv_at hl 1 rfl) ?_
      refine lv_icmp_ne (tgt := 24) hx hb dX2_sourceByKind_17 (by decide) (fun c_5 => ?_) (fun c_5 => ?_)
      · replace hw := hw.1 c_5
        refine lv_iload_n hx hb dX2_sourceByKind_24 rfl (lv_at hl 3 rfl) ?_
        refine lv_iconst (v := 1) hx hb dX2_sourceByKind_25 (by decide) ?_
        refine lv_isub hx hb dX2_sourceByKind_26 ?_
        exact j_iret (fun u => []) (() : Unit) hx hb hr hlocks hK hP hD hS hw dX2_sourceByKind_27
      · replace hw := hw.2 c_5
        refine lv_iload_n hx hb dX2_sourceByKind_20 rfl (lv_at hl 2 rfl) ?_
        refine lv_goto (tgt := 27) hx hb dX2_sourceByKind_21 (by decide) ?_
        exact j_iret (fun u => []) (() : Unit) hx hb hr hlocks hK hP hD hS hw dX2_sourceByKind_27
  · replace hw := hw.2 c_1
    refine lv_iload_n hx hb dX2_sourceByKind_4 rfl (lv_at hl 1 rfl) ?_
    refine lv_iload_n hx hb dX2_sourceByKind_5 rfl (lv_at hl 2 rfl) ?_
    refine lv_iadd hx hb dX2_sourceByKind_6 ?_
    refine lv_iload_n hx hb dX2_sourceByKind_7 rfl (lv_at hl 3 rfl) ?_
    refine lv_isub hx hb dX2_sourceByKind_8 ?_
    exact j_iret (fun u => []) (() : Unit) hx hb hr hlocks hK hP hD hS hw dX2_sourceByKind_9
theorem q_X2_setSource_1 : Cond.fieldLink RX2 21 "TwistedRow" "sources" "[[I" ∈ wsX2_setSource := List.mem_of_getElem? (i := 1) rfl
theorem k_X2_setSource_X2 : ∀ w ∈ wsX20, w ∈ wsX2_setSource := my_in _ [3, 4, 5, 6, 7, 8, 9, 10, 11, 12] (by decide +kernel)
theorem q_X2_setSource_2 : Cond.fieldLink RX2 52 "TwistedRow" "turns" "I" ∈ wsX2_setSource := List.mem_of_getElem? (i := 2) rfl
def wp_X2_setSource (c_tu : Int32) (c_so : Nat → Nat → Int32) (p_1 : Int32) (p_2 : Int32) (post : (Nat → Nat → Int32) → Prop) : Prop := (vp_in (2 * c_tu) 12 ∧ (vp_in p_1 8 ∧ (vp_in ((2 * c_tu) + 1) 12 ∧ (vp_in p_2 8 ∧ (post (rowsU (rowsU c_so ((2 * c_tu : Int32).toNatClampNeg) (upd (c_so ((2 * c_tu : Int32).toNatClampNeg)) (p_1 : Int32).toNatClampNeg p_2)) (((2 * c_tu) + 1 : Int32).toNatClampNeg) (upd ((rowsU c_so ((2 * c_tu : Int32).toNatClampNeg) (upd (c_so ((2 * c_tu : Int32).toNatClampNeg)) (p_1 : Int32).toNatClampNeg p_2)) (((2 * c_tu) + 1 : Int32).toNatClampNeg)) (p_2 : Int32).toNatClampNeg p_1)))))))
set_option maxHeartbeats 4000000 in
set_option maxRecDepth 100000 in
theorem c_X2_setSource (l : Launch) (D : va_G) (cy : Nat → ClassId) (a_this : Nat) (a_ti : Nat) (a_sc : Nat) (a_wr : Nat) (a_so : Nat) (a_inp : Nat) (a_G : Nat) (r_so : Nat → Nat) (c_pl : Int32) (c_tu : Int32) (c_al : Int32) (c_il : Int32) (c_so : Nat → Nat → Int32) (p_1 : Int32) (p_2 : Int32) {post : (Nat → Nat → Int32) → Prop} (hw : wp_X2_setSource c_tu c_so p_1 p_2 post) (sz : Nat) : Met l yX2_setSource wsX2_setSource ({ frames := 0, cells := 0, slots := 0, locals := 0 }) (va_Pc [.ref a_this, .int p_1, .int p_2] (PreW D cy ((HAppend.hAppend (α := va_W) (β := va_W) (γ := va_W) [(a_this, .inr (2, [.ref a_ti, .ref a_sc, .ref a_wr, .ref a_so, .ref a_inp, .int c_pl, .int c_tu, .int c_al, .int c_il, .ref a_G])), (a_so, .inl (cy 3, 12, .inr (.inr (.inr (.inr (rowsF r_so))))))] (rowsW (cy 0) r_so 8 c_so))) sz)) (va_Qv post (fun u t => PostW D cy (va_A ((HAppend.hAppend (α := va_W) (β := va_W) (γ := va_W) [(a_this, .inr (2, [.ref a_ti, .ref a_sc, .ref a_wr, .ref a_so, .ref a_inp, .int c_pl, .int c_tu, .int c_al, .int c_il, .ref a_G])), (a_so, .inl (cy 3, 12, .inr (.inr (.inr (.inr (rowsF r_so))))))] (rowsW (cy 0) r_so 8 c_so))) sz) ((HAppend.hAppend (α := va_W) (β := va_W) (γ := va_W) [(a_this, .inr (2, [.ref a_ti, .ref a_sc, .ref a_wr, .ref a_so, .ref a_inp, .int c_pl, .int c_tu, .int c_al, .int c_il, .ref a_G])), (a_so, .inl (cy 3, 12, .inr (.inr (.inr (.inr (rowsF r_so))))))] (rowsW (cy 0) r_so 8 u))) t) (va_A ((HAppend.hAppend (α := va_W) (β := va_W) (γ := va_W) [(a_this, .inr (2, [.ref a_ti, .ref a_sc, .ref a_wr, .ref a_so, .ref a_inp, .int c_pl, .int c_tu, .int c_al, .int c_il, .ref a_G])), (a_so, .inl (cy 3, 12, .inr (.inr (.inr (.inr (rowsF r_so))))))] (rowsW (cy 0) r_so 8 c_so))) sz)) 0 0 (va_A ((HAppend.hAppend (α := va_W) (β := va_W) (γ := va_W) [(a_this, .inr (2, [.ref a_ti, .ref a_sc, .ref a_wr, .ref a_so, .ref a_inp, .int c_pl, .int c_tu, .int c_al, .int c_il, .ref a_G])), (a_so, .inl (cy 3, 12, .inr (.inr (.inr (.inr (rowsF r_so))))))] (rowsW (cy 0) r_so 8 c_so))) sz) := by
  refine j_met (l := l) (y := yX2_setSource) (ws := wsX2_setSource) (D := D) (cy := cy) (sz := sz) (av := [.ref a_this, .int p_1, .int p_2]) (Qc := fun A => va_Qv post (fun u t => PostW D cy A ((HAppend.hAppend (α := va_W) (β := va_W) (γ := va_W) [(a_this, .inr (2, [.ref a_ti, .ref a_sc, .ref a_wr, .ref a_so, .ref a_inp, .int c_pl, .int c_tu, .int c_al, .int c_il, .ref a_G])), (a_so, .inl (cy 3, 12, .inr (.inr (.inr (.inr (rowsF r_so))))))] (rowsW (cy 0) r_so 8 u))) t) A) (by decide +kernel) rfl (Nat.le_of_ble_eq_true rfl) ?_
  intro p e s m below meth c A ls C0 hr hlocks hP hD hS hl
  obtain ⟨hx, hb, hml, hown, hts, hK, hA⟩ := id C0
  have hown : s.vm.findClass RX2 = some m.cls := hown
  have hl : lv_has ls 3 [(0, .ref a_this), (1, .int p_1), (2, .int p_2)] := hl
  unfold wp_X2_setSource at hw
  refine lv_aload_n hx hb dX2_setSource_0 rfl (lv_at hl 0 rfl) ?_
  refine va_get (D := D) (ci := 2) (v := .ref a_so) (C := RX2) (T := TX2) (N := 10) hx hb hts k_X2_setSource_X2 hown hK hP 0 rfl rfl 3 (by decide) (hts _ q_X2_setSource_1) (fun _ h9 => h9) rfl dX2_setSource_1 ?_
  refine lv_iconst (v := 2) hx hb dX2_setSource_4 (by decide) ?_
  refine lv_aload_n hx hb dX2_setSource_5 rfl (lv_at hl 0 rfl) ?_
  refine va_get (D := D) (ci := 2) (v := .int c_tu) (C := RX2) (T := TX2) (N := 10) hx hb hts k_X2_setSource_X2 hown hK hP 0 rfl rfl 6 (by decide) (hts _ q_X2_setSource_2) (fun _ h9 => h9) rfl dX2_setSource_6 ?_
  refine lv_imul hx hb dX2_setSource_9 ?_
  obtain ⟨h_1, hw⟩ := hw
  refine j_aald hx hb hK hP 1 3 rfl rfl h_1 dX2_setSource_10 ?_
  refine lv_iload_n hx hb dX2_setSource_11 rfl (lv_at hl 1 rfl) ?_
  refine lv_iload_n hx hb dX2_setSource_12 rfl (lv_at hl 2 rfl) ?_
  obtain ⟨h_2, hw⟩ := hw
  refine va_iast hx hb hK hP hD hS _ 0 (rowsW_get _ _ _ _ _ (j_lt12 h_1)) rfl h_2 dX2_setSource_13 (fun H locs hP hD hS => ?_)
  rw [rowsW_set _ _ _ _ _ _ (j_lt12 h_1)] at hP hD
  have hP : va_P D vwCl ((HAppend.hAppend (α := va_W) (β := va_W) (γ := va_W) [(a_this, .inr (2, [.ref a_ti, .ref a_sc, .ref a_wr, .ref a_so, .ref a_inp, .int c_pl, .int c_tu, .int c_al, .int c_il, .ref a_G])), (a_so, .inl (cy 3, 12, .inr (.inr (.inr (.inr (rowsF r_so))))))] (rowsW (cy 0) r_so 8 (rowsU c_so ((2 * c_tu : Int32).toNatClampNeg) (upd (c_so ((2 * c_tu : Int32).toNatClampNeg)) (p_1 : Int32).toNatClampNeg p_2))))) H := hP
  have hD : va_D A ((HAppend.hAppend (α := va_W) (β := va_W) (γ := va_W) [(a_this, .inr (2, [.ref a_ti, .ref a_sc, .ref a_wr, .ref a_so, .ref a_inp, .int c_pl, .int c_tu, .int c_al, .int c_il, .ref a_G])), (a_so, .inl (cy 3, 12, .inr (.inr (.inr (.inr (rowsF r_so))))))] (rowsW (cy 0) r_so 8 (rowsU c_so ((2 * c_tu : Int32).toNatClampNeg) (upd (c_so ((2 * c_tu : Int32).toNatClampNeg)) (p_1 : Int32).toNatClampNeg p_2))))) := hD
  refine lv_aload_n hx hb dX2_setSource_14 rfl (lv_at hl 0 rfl) ?_
  refine va_get (D := D) (ci := 2) (v := .ref a_so) (C := RX2) (T := TX2) (N := 10) hx hb hts k_X2_setSource_X2 hown hK hP 0 rfl rfl 3 (by decide) (hts _ q_X2_setSource_1) (fun _ h9 => h9) rfl dX2_setSource_15 ?_
  refine lv_iconst (v := 2) hx hb dX2_setSource_18 (by decide) ?_
  refine lv_aload_n hx hb dX2_setSource_19 rfl (lv_at hl 0 rfl) ?_
  refine va_get (D := D) (ci := 2) (v := .int c_tu) (C := RX2) (T := TX2) (N := 10) hx hb hts k_X2_setSource_X2 hown hK hP 0 rfl rfl 6 (by decide) (hts _ q_X2_setSource_2) (fun _ h9 => h9) rfl dX2_setSource_20 ?_
  refine lv_imul hx hb dX2_setSource_23 ?_
  refine lv_iconst (v := 1) hx hb dX2_setSource_24 (by decide) ?_
  refine lv_iadd hx hb dX2_setSource_25 ?_
  obtain ⟨h_3, hw⟩ := hw
  refine j_aald hx hb hK hP 1 3 rfl rfl h_3 dX2_setSource_26 ?_
  refine lv_iload_n hx hb dX2_setSource_27 rfl (lv_at hl 2 rfl) ?_
  refine lv_iload_n hx hb dX2_setSource_28 rfl (lv_at hl 1 rfl) ?_
  obtain ⟨h_4, hw⟩ := hw
  refine va_iast hx hb hK hP hD hS _ 0 (rowsW_get _ _ _ _ _ (j_lt12 h_3)) rfl h_4 dX2_setSource_29 (fun H locs hP hD hS => ?_)
  rw [rowsW_set _ _ _ _ _ _ (j_lt12 h_3)] at hP hD
  have hP : va_P D vwCl ((HAppend.hAppend (α := va_W) (β := va_W) (γ := va_W) [(a_this, .inr (2, [.ref a_ti, .ref a_sc, .ref a_wr, .ref a_so, .ref a_inp, .int c_pl, .int c_tu, .int c_al, .int c_il, .ref a_G])), (a_so, .inl (cy 3, 12, .inr (.inr (.inr (.inr (rowsF r_so))))))] (rowsW (cy 0) r_so 8 (rowsU (rowsU c_so ((2 * c_tu : Int32).toNatClampNeg) (upd (c_so ((2 * c_tu : Int32).toNatClampNeg)) (p_1 : Int32).toNatClampNeg p_2)) (((2 * c_tu) + 1 : Int32).toNatClampNeg) (upd ((rowsU c_so ((2 * c_tu : Int32).toNatClampNeg) (upd (c_so ((2 * c_tu : Int32).toNatClampNeg)) (p_1 : Int32).toNatClampNeg p_2)) (((2 * c_tu) + 1 : Int32).toNatClampNeg)) (p_2 : Int32).toNatClampNeg p_1))))) H := hP
  have hD : va_D A ((HAppend.hAppend (α := va_W) (β := va_W) (γ := va_W) [(a_this, .inr (2, [.ref a_ti, .ref a_sc, .ref a_wr, .ref a_so, .ref a_inp, .int c_pl, .int c_tu, .int c_al, .int c_il, .ref a_G])), (a_so, .inl (cy 3, 12, .inr (.inr (.inr (.inr (rowsF r_so))))))] (rowsW (cy 0) r_so 8 (rowsU (rowsU c_so ((2 * c_tu : Int32).toNatClampNeg) (upd (c_so ((2 * c_tu : Int32).toNatClampNeg)) (p_1 : Int32).toNatClampNeg p_2)) (((2 * c_tu) + 1 : Int32).toNatClampNeg) (upd ((rowsU c_so ((2 * c_tu : Int32).toNatClampNeg) (upd (c_so ((2 * c_tu : Int32).toNatClampNeg)) (p_1 : Int32).toNatClampNeg p_2)) (((2 * c_tu) + 1 : Int32).toNatClampNeg)) (p_2 : Int32).toNatClampNeg p_1))))) := hD
  exact j_vret (fun u => (HAppend.hAppend (α := va_W) (β := va_W) (γ := va_W) [(a_this, .inr (2, [.ref a_ti, .ref a_sc, .ref a_wr, .ref a_so, .ref a_inp, .int c_pl, .int c_tu, .int c_al, .int c_il, .ref a_G])), (a_so, .inl (cy 3, 12, .inr (.inr (.inr (.inr (rowsF r_so))))))] (rowsW (cy 0) r_so 8 u))) (rowsU (rowsU c_so ((2 * c_tu : Int32).toNatClampNeg) (upd (c_so ((2 * c_tu : Int32).toNatClampNeg)) (p_1 : Int32).toNatClampNeg p_2)) (((2 * c_tu) + 1 : Int32).toNatClampNeg) (upd ((rowsU c_so ((2 * c_tu : Int32).toNatClampNeg) (upd (c_so ((2 * c_tu : Int32).toNatClampNeg)) (p_1 : Int32).toNatClampNeg p_2)) (((2 * c_tu) + 1 : Int32).toNatClampNeg)) (p_2 : Int32).toNatClampNeg p_1) : (Nat → Nat → Int32)) hx hb hr hlocks hK hP hD hS hw dX2_setSource_30
def lp_X2_setSolved_2 (v_1 : Int32) (K17 : Int32 → (Nat → Int32) → Prop) : Nat → Int32 → (Nat → Int32) → Prop
  | 0, _, _ => False
  | N + 1, v_2, c_a1 => ((v_1 ≤ v_2 → (K17 v_2 c_a1)) ∧ (¬ v_1 ≤ v_2 → (vp_in v_2 8 ∧ (lp_X2_setSolved_2 v_1 K17 N (v_2 + 1) (upd c_a1 ((v_2 : Int32).toNatClampNeg) v_2)))))
set_option maxHeartbeats 4000000 in
set_option maxRecDepth 100000 in
theorem l_X2_setSolved_2 {p : Program} {l : Launch} {e : Env} {s : State} {m : MethodId} {args : Array Value} {below : List Frame} {meth : Method} {c : Code} {A : Nat → Prop} {D : va_G} {cy : Nat → ClassId} {Q : State → Prop} {a_a1 : Nat} {v_1 : Int32} {K17 : Int32 → (Nat → Int32) → Prop} (C0 : Cx p s m args c cX2_setSolved yX2_setSolved.cls 3 wsX2_setSolved D cy A)
    (k17 : ∀ (v_2 : Int32) (c_a1 : Nat → Int32) (H : Heap) (locs : List Loc) (ls : Array Slot), K17 v_2 c_a1 → va_P D vwCl ([(a_a1, .inl (cy 0, 8, .inl c_a1))]) H → va_D A ([(a_a1, .inl (cy 0, 8, .inl c_a1))]) → va_S A s.heap H locs → lv_has ls 3 [] → W p l e (({ frames := 0, cells := 0, slots := 0, locals := 0 } : Room)) s m args below meth c H locs 0 0 Q (F0 m 17 ls [])) :
    ∀ (N : Nat) (v_2 : Int32) (c_a1 : Nat → Int32) (H : Heap) (locs : List Loc) (ls : Array Slot), lp_X2_setSolved_2 v_1 K17 N v_2 c_a1 → va_P D vwCl ([(a_a1, .inl (cy 0, 8, .inl c_a1))]) H → va_D A ([(a_a1, .inl (cy 0, 8, .inl c_a1))]) → va_S A s.heap H locs → lv_has ls 3 [(0, .ref a_a1), (1, .int v_1), (2, .int v_2)] → W p l e (({ frames := 0, cells := 0, slots := 0, locals := 0 } : Room)) s m args below meth c H locs 0 0 Q (F0 m 2 ls []) := by
  obtain ⟨hx, hb, hml, hown, hts, hK, hA⟩ := id C0
  intro N
  induction N with
  | zero =>
    intro v_2 c_a1 H locs ls hw
    exact False.elim hw
  | succ N ih =>
    intro v_2 c_a1 H locs ls hw hP hD hS hl
    rw [lp_X2_setSolved_2] at hw
    refine lv_iload_n hx hb dX2_setSolved_2 rfl (lv_at hl 2 rfl) ?_
    refine lv_iload_n hx hb dX2_setSolved_3 rfl (lv_at hl 1 rfl) ?_
    refine lv_icmp_ge (tgt := 17) hx hb dX2_setSolved_4 (by decide) (fun c_1 => ?_) (fun c_1 => ?_)
    · replace hw := hw.1 c_1
      exact k17 _ _ _ _ _ hw hP hD hS (lv_sub hl [] rfl)
    · replace hw := hw.2 c_1
      refine lv_aload_n hx hb dX2_setSolved_7 rfl (lv_at hl 0 rfl) ?_
      refine lv_iload_n hx hb dX2_setSolved_8 rfl (lv_at hl 2 rfl) ?_
      refine lv_iload_n hx hb dX2_setSolved_9 rfl (lv_at hl 2 rfl) ?_
      obtain ⟨h_2, hw⟩ := hw
      refine va_iast hx hb hK hP hD hS 0 0 rfl rfl h_2 dX2_setSolved_10 (fun H locs hP hD hS => ?_)
      have hP : va_P D vwCl ([(a_a1, .inl (cy 0, 8, .inl (upd c_a1 ((v_2 : Int32).toNatClampNeg) v_2)))]) H := hP
      have hD : va_D A ([(a_a1, .inl (cy 0, 8, .inl (upd c_a1 ((v_2 : Int32).toNatClampNeg) v_2)))]) := hD
      refine lv_iinc (v := v_2 + 1) (lv' := [(2, .int (v_2 + 1)), (0, .ref a_a1), (1, .int v_1)]) hx hb dX2_setSolved_11 hl (k := 2) rfl rfl (by decide) rfl (fun ls hl => ?_)
      refine lv_goto (tgt := 2) hx hb dX2_setSolved_14 (by decide) ?_
      exact ih _ _ _ _ _ hw hP hD hS (lv_sub hl [1, 2, 0] rfl)
def wp_X2_setSolved (c_a1 : Nat → Int32) (p_1 : Int32) (post : (Nat → Int32) → Prop) : Prop := (∃ N_3 : Nat, lp_X2_setSolved_2 p_1 (fun (v_4 : Int32) (c_5 : Nat → Int32) => (post c_5)) N_3 0 c_a1)
set_option maxHeartbeats 4000000 in
set_option maxRecDepth 100000 in
theorem c_X2_setSolved (l : Launch) (D : va_G) (cy : Nat → ClassId) (a_a1 : Nat) (c_a1 : Nat → Int32) (p_1 : Int32) {post : (Nat → Int32) → Prop} (hw : wp_X2_setSolved c_a1 p_1 post) (sz : Nat) : Met l yX2_setSolved wsX2_setSolved ({ frames := 0, cells := 0, slots := 0, locals := 0 }) (va_Pc [.ref a_a1, .int p_1] (PreW D cy ([(a_a1, .inl (cy 0, 8, .inl c_a1))]) sz)) (va_Qv post (fun u t => PostW D cy (va_A ([(a_a1, .inl (cy 0, 8, .inl c_a1))]) sz) ([(a_a1, .inl (cy 0, 8, .inl u))]) t) (va_A ([(a_a1, .inl (cy 0, 8, .inl c_a1))]) sz)) 0 0 (va_A ([(a_a1, .inl (cy 0, 8, .inl c_a1))]) sz) := by
  refine j_met (l := l) (y := yX2_setSolved) (ws := wsX2_setSolved) (D := D) (cy := cy) (sz := sz) (av := [.ref a_a1, .int p_1]) (Qc := fun A => va_Qv post (fun u t => PostW D cy A ([(a_a1, .inl (cy 0, 8, .inl u))]) t) A) (by decide +kernel) rfl (Nat.le_of_ble_eq_true rfl) ?_
  intro p e s m below meth c A ls C0 hr hlocks hP hD hS hl
  obtain ⟨hx, hb, hml, hown, hts, hK, hA⟩ := id C0
  have hown : s.vm.findClass RX2 = some m.cls := hown
  have hl : lv_has ls 3 [(0, .ref a_a1), (1, .int p_1)] := hl
  unfold wp_X2_setSolved at hw
  refine lv_iconst (v := 0) hx hb dX2_setSolved_0 (by decide) ?_
  refine lv_istore_n (lv' := [(2, .int 0), (0, .ref a_a1), (1, .int p_1)]) hx hb dX2_setSolved_1 rfl hl (by decide) rfl (fun ls hl => ?_)
  obtain ⟨N_3, hw⟩ := hw
  refine l_X2_setSolved_2 C0 (fun v_4 c_5 H locs ls hw hP hD hS hl => ?_) _ _ _ _ _ _ hw hP hD hS (lv_sub hl [1, 2, 0] rfl)
  exact j_vret (fun u => [(a_a1, .inl (cy 0, 8, .inl u))]) (c_5 : (Nat → Int32)) hx hb hr hlocks hK hP hD hS hw dX2_setSolved_17
theorem q_J6_bitCount_0f7a4_1 : Cond.constant RJ6 265 (1431655765) ∈ wsJ6_bitCount_0f7a4 := List.mem_of_getElem? (i := 1) rfl
theorem q_J6_bitCount_0f7a4_2 : Cond.constant RJ6 266 (858993459) ∈ wsJ6_bitCount_0f7a4 := List.mem_of_getElem? (i := 2) rfl
theorem q_J6_bitCount_0f7a4_3 : Cond.constant RJ6 267 (252645135) ∈ wsJ6_bitCount_0f7a4 := List.mem_of_getElem? (i := 3) rfl
def wp_J6_bitCount_0f7a4 (p_0 : Int32) (post : Int32 → Unit → Prop) : Prop := (∀ x_1 : Int32, x_1 = p_0 - ((((p_0 : Int32).toUInt32 >>> ((1 : Int32).toUInt32 &&& Int32.toUInt32 31)).toInt32) &&& 1431655765) → (∀ x_2 : Int32, x_2 = (x_1 &&& 858993459) + ((((x_1 : Int32).toUInt32 >>> ((2 : Int32).toUInt32 &&& Int32.toUInt32 31)).toInt32) &&& 858993459) → (∀ x_3 : Int32, x_3 = (x_2 + (((x_2 : Int32).toUInt32 >>> ((4 : Int32).toUInt32 &&& Int32.toUInt32 31)).toInt32)) &&& 252645135 → (∀ x_4 : Int32, x_4 = x_3 + (((x_3 : Int32).toUInt32 >>> ((8 : Int32).toUInt32 &&& Int32.toUInt32 31)).toInt32) → (∀ x_5 : Int32, x_5 = x_4 + (((x_4 : Int32).toUInt32 >>> ((16 : Int32).toUInt32 &&& Int32.toUInt32 31)).toInt32) → (post (x_5 &&& 63) ()))))))
set_option maxHeartbeats 4000000 in
set_option maxRecDepth 100000 in
theorem c_J6_bitCount_0f7a4 (l : Launch) (D : va_G) (cy : Nat → ClassId) (p_0 : Int32) {post : Int32 → Unit → Prop} (hw : wp_J6_bitCount_0f7a4 p_0 post) (sz : Nat) : Met l yJ6_bitCount_0f7a4 wsJ6_bitCount_0f7a4 ({ frames := 0, cells := 0, slots := 0, locals := 0 }) (va_Pc [.int p_0] (PreW D cy ([]) sz)) (va_Qi post (fun u t => PostW D cy (va_A ([]) sz) ([]) t) (va_A ([]) sz)) 0 0 (va_A ([]) sz) := by
  refine j_met (l := l) (y := yJ6_bitCount_0f7a4) (ws := wsJ6_bitCount_0f7a4) (D := D) (cy := cy) (sz := sz) (av := [.int p_0]) (Qc := fun A => va_Qi post (fun u t => PostW D cy A ([]) t) A) (by decide +kernel) rfl (Nat.le_of_ble_eq_true rfl) ?_
  intro p e s m below meth c A ls C0 hr hlocks hP hD hS hl
  obtain ⟨hx, hb, hml, hown, hts, hK, hA⟩ := id C0
  have hown : s.vm.findClass RJ6 = some m.cls := hown
  have hl : lv_has ls 1 [(0, .int p_0)] := hl
  unfold wp_J6_bitCount_0f7a4 at hw
  refine lv_iload_n hx hb dJ6_bitCount_0f7a4_0 rfl (lv_at hl 0 rfl) ?_
  refine lv_iload_n hx hb dJ6_bitCount_0f7a4_1 rfl (lv_at hl 0 rfl) ?_
  refine lv_iconst (v := 1) hx hb dJ6_bitCount_0f7a4_2 (by decide) ?_
  refine lv_iushr (v := ((p_0 : Int32).toUInt32 >>> ((1 : Int32).toUInt32 &&& Int32.toUInt32 31)).toInt32) hx hb dJ6_bitCount_0f7a4_3 rfl ?_
  refine lv_ldcw (v := 1431655765) hx hb hown (hts _ q_J6_bitCount_0f7a4_1) dJ6_bitCount_0f7a4_4 ?_
  refine lv_iand hx hb dJ6_bitCount_0f7a4_7 ?_
  refine lv_isub hx hb dJ6_bitCount_0f7a4_8 ?_
  refine lv_topi (fun x_1 ex_1 => ?_)
  replace hw := hw x_1 ex_1
  refine lv_istore_n (lv' := [(0, .int x_1)]) hx hb dJ6_bitCount_0f7a4_9 rfl hl (by decide) rfl (fun ls hl => ?_)
  refine lv_iload_n hx hb dJ6_bitCount_0f7a4_10 rfl (lv_at hl 0 rfl) ?_
  refine lv_ldcw (v := 858993459) hx hb hown (hts _ q_J6_bitCount_0f7a4_2) dJ6_bitCount_0f7a4_11 ?_
  refine lv_iand hx hb dJ6_bitCount_0f7a4_14 ?_
  refine lv_iload_n hx hb dJ6_bitCount_0f7a4_15 rfl (lv_at hl 0 rfl) ?_
  refine lv_iconst (v := 2) hx hb dJ6_bitCount_0f7a4_16 (by decide) ?_
  refine lv_iushr (v := ((x_1 : Int32).toUInt32 >>> ((2 : Int32).toUInt32 &&& Int32.toUInt32 31)).toInt32) hx hb dJ6_bitCount_0f7a4_17 rfl ?_
  refine lv_ldcw (v := 858993459) hx hb hown (hts _ q_J6_bitCount_0f7a4_2) dJ6_bitCount_0f7a4_18 ?_
  refine lv_iand hx hb dJ6_bitCount_0f7a4_21 ?_
  refine lv_iadd hx hb dJ6_bitCount_0f7a4_22 ?_
  refine lv_topi (fun x_2 ex_2 => ?_)
  replace hw := hw x_2 ex_2
  refine lv_istore_n (lv' := [(0, .int x_2)]) hx hb dJ6_bitCount_0f7a4_23 rfl hl (by decide) rfl (fun ls hl => ?_)
  refine lv_iload_n hx hb dJ6_bitCount_0f7a4_24 rfl (lv_at hl 0 rfl) ?_
  refine lv_iload_n hx hb dJ6_bitCount_0f7a4_25 rfl (lv_at hl 0 rfl) ?_
  refine lv_iconst (v := 4) hx hb dJ6_bitCount_0f7a4_26 (by decide) ?_
  refine lv_iushr (v := ((x_2 : Int32).toUInt32 >>> ((4 : Int32).toUInt32 &&& Int32.toUInt32 31)).toInt32) hx hb dJ6_bitCount_0f7a4_27 rfl ?_
  refine lv_iadd hx hb dJ6_bitCount_0f7a4_28 ?_
  refine lv_ldcw (v := 252645135) hx hb hown (hts _ q_J6_bitCount_0f7a4_3) dJ6_bitCount_0f7a4_29 ?_
  refine lv_iand hx hb dJ6_bitCount_0f7a4_32 ?_
  refine lv_topi (fun x_3 ex_3 => ?_)
  replace hw := hw x_3 ex_3
  refine lv_istore_n (lv' := [(0, .int x_3)]) hx hb dJ6_bitCount_0f7a4_33 rfl hl (by decide) rfl (fun ls hl => ?_)
  refine lv_iload_n hx hb dJ6_bitCount_0f7a4_34 rfl (lv_at hl 0 rfl) ?_
  refine lv_iload_n hx hb dJ6_bitCount_0f7a4_35 rfl (lv_at hl 0 rfl) ?_
  refine lv_bipush (v := 8) hx hb dJ6_bitCount_0f7a4_36 (by decide) ?_
  refine lv_iushr (v := ((x_3 : Int32).toUInt32 >>> ((8 : Int32).toUInt32 &&& Int32.toUInt32 31)).toInt32) hx hb dJ6_bitCount_0f7a4_38 rfl ?_
  refine lv_iadd hx hb dJ6_bitCount_0f7a4_39 ?_
  refine lv_topi (fun x_4 ex_4 => ?_)
  replace hw := hw x_4 ex_4
  refine lv_istore_n (lv' := [(0, .int x_4)]) hx hb dJ6_bitCount_0f7a4_40 rfl hl (by decide) rfl (fun ls hl => ?_)
  refine lv_iload_n hx hb dJ6_bitCount_0f7a4_41 rfl (lv_at hl 0 rfl) ?_
  refine lv_iload_n hx hb dJ6_bitCount_0f7a4_42 rfl (lv_at hl 0 rfl) ?_
  refine lv_bipush (v := 16) hx hb dJ6_bitCount_0f7a4_43 (by decide) ?_
  refine lv_iushr (v := ((x_4 : Int32).toUInt32 >>> ((16 : Int32).toUInt32 &&& Int32.toUInt32 31)).toInt32) hx hb dJ6_bitCount_0f7a4_45 rfl ?_
  refine lv_iadd hx hb dJ6_bitCount_0f7a4_46 ?_
  refine lv_topi (fun x_5 ex_5 => ?_)
  replace hw := hw x_5 ex_5
  refine lv_istore_n (lv' := [(0, .int x_5)]) hx hb dJ6_bitCount_0f7a4_47 rfl hl (by decide) rfl (fun ls hl => ?_)
  refine lv_iload_n hx hb dJ6_bitCount_0f7a4_48 rfl (lv_at hl 0 rfl) ?_
  refine lv_bipush (v := 63) hx hb dJ6_bitCount_0f7a4_49 (by decide) ?_
  refine lv_iand hx hb dJ6_bitCount_0f7a4_51 ?_
  exact j_iret (fun u => []) (() : Unit) hx hb hr hlocks hK hP hD hS hw dJ6_bitCount_0f7a4_52
def lp_X2_codeOf_11 (c_a1 : Nat → Int32) (v_1 : Int32) (K55 : Int32 → Int32 → Int32 → Prop) : Nat → Int32 → Int32 → Int32 → Prop
  | 0, _, _, _ => False
  | N + 1, v_2, v_3, v_4 => ((v_1 ≤ v_4 → (K55 v_2 v_3 v_4)) ∧ (¬ v_1 ≤ v_4 → (vp_in v_4 8 ∧ (∀ x_4 : Int32, x_4 = 1 <<< ((c_a1 (v_4 : Int32).toNatClampNeg) &&& 31) → (wp_J6_bitCount_0f7a4 (v_2 &&& (x_4 - 1)) (fun r_6 u_5 => (∀ x_7 : Int32, x_7 = (v_3 * (v_1 - v_4)) + r_6 → (∀ x_8 : Int32, x_8 = v_2 &&& (x_4 ^^^ (-1)) → (lp_X2_codeOf_11 c_a1 v_1 K55 N x_8 x_7 (v_4 + 1))))))))))
set_option maxHeartbeats 4000000 in
set_option maxRecDepth 100000 in
theorem l_X2_codeOf_11 {p : Program} {l : Launch} {e : Env} {s : State} {m : MethodId} {args : Array Value} {below : List Frame} {meth : Method} {c : Code} {A : Nat → Prop} {D : va_G} {cy : Nat → ClassId} {Q : State → Prop} {a_a1 : Nat} {c_a1 : Nat → Int32} {v_1 : Int32} {K55 : Int32 → Int32 → Int32 → Prop} (C0 : Cx p s m args c cX2_codeOf yX2_codeOf.cls 6 wsX2_codeOf D cy A)
    (k55 : ∀ (v_2 : Int32) (v_3 : Int32) (v_4 : Int32) (H : Heap) (locs : List Loc) (ls : Array Slot), K55 v_2 v_3 v_4 → va_P D vwCl ([(a_a1, .inl (cy 0, 8, .inl c_a1))]) H → va_D A ([(a_a1, .inl (cy 0, 8, .inl c_a1))]) → va_S A s.heap H locs → lv_has ls 6 [(3, .int v_3)] → W p l e (({ frames := 1, cells := 0, slots := 0, locals := 20 } : Room)) s m args below meth c H locs 0 0 Q (F0 m 55 ls [])) :
    ∀ (N : Nat) (v_2 : Int32) (v_3 : Int32) (v_4 : Int32) (H : Heap) (locs : List Loc) (ls : Array Slot), lp_X2_codeOf_11 c_a1 v_1 K55 N v_2 v_3 v_4 → va_P D vwCl ([(a_a1, .inl (cy 0, 8, .inl c_a1))]) H → va_D A ([(a_a1, .inl (cy 0, 8, .inl c_a1))]) → va_S A s.heap H locs → lv_has ls 6 [(0, .ref a_a1), (1, .int v_1), (2, .int v_2), (3, .int v_3), (4, .int v_4)] → W p l e (({ frames := 1, cells := 0, slots := 0, locals := 20 } : Room)) s m args below meth c H locs 0 0 Q (F0 m 11 ls []) := by
  obtain ⟨hx, hb, hml, hown, hts, hK, hA⟩ := id C0
  intro N
  induction N with
  | zero =>
    intro v_2 v_3 v_4 H locs ls hw
    exact False.elim hw
  | succ N ih =>
    intro v_2 v_3 v_4 H locs ls hw hP hD hS hl
    rw [lp_X2_codeOf_11] at hw
    refine lv_iload hx hb dX2_codeOf_11 (lv_at hl 4 rfl) ?_
    refine lv_iload_n hx hb dX2_codeOf_13 rfl (lv_at hl 1 rfl) ?_
    refine lv_icmp_ge (tgt := 55) hx hb dX2_codeOf_14 (by decide) (fun c_2 => ?_) (fun c_2 => ?_)
    · replace hw := hw.1 c_2
      exact k55 _ _ _ _ _ _ hw hP hD hS (lv_sub hl [3] rfl)
    · replace hw := hw.2 c_2
      refine lv_iconst (v := 1) hx hb dX2_codeOf_17 (by decide) ?_
      refine lv_aload_n hx hb dX2_codeOf_18 rfl (lv_at hl 0 rfl) ?_
      refine lv_iload hx hb dX2_codeOf_19 (lv_at hl 4 rfl) ?_
      obtain ⟨h_3, hw⟩ := hw
      refine va_iald hx hb hK hP 0 0 rfl rfl h_3 dX2_codeOf_21 ?_
      refine lv_ishl hx hb dX2_codeOf_22 ?_
      refine lv_topi (fun x_4 ex_4 => ?_)
      replace hw := hw x_4 ex_4
      refine lv_istore (lv' := [(5, .int x_4), (0, .ref a_a1), (1, .int v_1), (2, .int v_2), (3, .int v_3), (4, .int v_4)]) hx hb dX2_codeOf_23 hl (by decide) rfl (fun ls hl => ?_)
      refine lv_iload_n hx hb dX2_codeOf_25 rfl (lv_at hl 4 rfl) ?_
      refine lv_iload_n hx hb dX2_codeOf_26 rfl (lv_at hl 2 rfl) ?_
      refine lv_iload hx hb dX2_codeOf_27 (lv_at hl 5 rfl) ?_
      refine lv_isub hx hb dX2_codeOf_29 ?_
      refine lv_imul hx hb dX2_codeOf_30 ?_
      refine lv_iload_n hx hb dX2_codeOf_31 rfl (lv_at hl 3 rfl) ?_
      refine lv_iload hx hb dX2_codeOf_32 (lv_at hl 0 rfl) ?_
      refine lv_iconst (v := 1) hx hb dX2_codeOf_34 (by decide) ?_
      refine lv_isub hx hb dX2_codeOf_35 ?_
      refine lv_iand hx hb dX2_codeOf_36 ?_
      refine j_calli (wr := [(a_a1, .inl (cy 0, 8, .inl c_a1))]) (va_runS (As := [.int (v_2 &&& (x_4 - 1))]) (rest := [.int (v_3 * (v_1 - v_4))]) ⟨hx, hb, hml, hown, hts⟩ (c_J6_bitCount_0f7a4 l D cy (v_2 &&& (x_4 - 1)) hw H.size) (va_cwS 1 hts gX2_codeOf_J6_bitCount_0f7a4 rfl rfl rfl (by decide +kernel) ⟨Nat.le_of_ble_eq_true rfl, Nat.le_of_ble_eq_true rfl⟩) (j_preS hK hP hD (isC := []) rfl (by decide +kernel)) rfl rfl hl.1 rfl (lv_room (Nat.le_of_ble_eq_true rfl)) dX2_codeOf_37 ⟨Nat.le_of_ble_eq_true rfl, Nat.le_of_ble_eq_true rfl⟩) hP hD hS hA [] [0] rfl rfl (by decide +kernel) (by decide +kernel) (fun u_5 => [(a_a1, .inl (cy 0, 8, .inl c_a1))]) [0] (by decide +kernel) (fun u => rfl) (fun r_6 u_5 H locs hw hP hD hS => ?_)
      have hP : va_P D vwCl ([(a_a1, .inl (cy 0, 8, .inl c_a1))]) H := hP
      have hD : va_D A ([(a_a1, .inl (cy 0, 8, .inl c_a1))]) := hD
      refine lv_iadd hx hb dX2_codeOf_40 ?_
      refine lv_topi (fun x_7 ex_7 => ?_)
      replace hw := hw x_7 ex_7
      refine lv_istore_n (lv' := [(3, .int x_7), (5, .int x_4), (0, .ref a_a1), (1, .int v_1), (2, .int v_2), (4, .int v_4)]) hx hb dX2_codeOf_41 rfl hl (by decide) rfl (fun ls hl => ?_)
      refine lv_iload_n hx hb dX2_codeOf_42 rfl (lv_at hl 4 rfl) ?_
      refine lv_iload hx hb dX2_codeOf_43 (lv_at hl 1 rfl) ?_
      refine lv_iconst (v := (-1)) hx hb dX2_codeOf_45 (by decide) ?_
      refine lv_ixor hx hb dX2_codeOf_46 ?_
      refine lv_iand hx hb dX2_codeOf_47 ?_
      refine lv_topi (fun x_8 ex_8 => ?_)
      replace hw := hw x_8 ex_8
      refine lv_istore_n (lv' := [(2, .int x_8), (3, .int x_7), (5, .int x_4), (0, .ref a_a1), (1, .int v_1), (4, .int v_4)]) hx hb dX2_codeOf_48 rfl hl (by decide) rfl (fun ls hl => ?_)
      refine lv_iinc (v := v_4 + 1) (lv' := [(4, .int (v_4 + 1)), (2, .int x_8), (3, .int x_7), (5, .int x_4), (0, .ref a_a1), (1, .int v_1)]) hx hb dX2_codeOf_49 hl (k := 5) rfl rfl (by decide) rfl (fun ls hl => ?_)
      refine lv_goto (tgt := 11) hx hb dX2_codeOf_52 (by decide) ?_
      exact ih _ _ _ _ _ _ hw hP hD hS (lv_sub hl [4, 5, 1, 2, 0] rfl)
def wp_X2_codeOf (c_a1 : Nat → Int32) (p_1 : Int32) (post : Int32 → Unit → Prop) : Prop := (∀ x_1 : Int32, x_1 = (1 <<< (p_1 &&& 31)) - 1 → (∃ N_9 : Nat, lp_X2_codeOf_11 c_a1 p_1 (fun (v_10 : Int32) (v_11 : Int32) (v_12 : Int32) => (post v_11 ())) N_9 x_1 0 0))
set_option maxHeartbeats 4000000 in
set_option maxRecDepth 100000 in
theorem c_X2_codeOf (l : Launch) (D : va_G) (cy : Nat → ClassId) (a_a1 : Nat) (c_a1 : Nat → Int32) (p_1 : Int32) {post : Int32 → Unit → Prop} (hw : wp_X2_codeOf c_a1 p_1 post) (sz : Nat) : Met l yX2_codeOf wsX2_codeOf ({ frames := 1, cells := 0, slots := 0, locals := 20 }) (va_Pc [.ref a_a1, .int p_1] (PreW D cy ([(a_a1, .inl (cy 0, 8, .inl c_a1))]) sz)) (va_Qi post (fun u t => PostW D cy (va_A ([(a_a1, .inl (cy 0, 8, .inl c_a1))]) sz) ([(a_a1, .inl (cy 0, 8, .inl c_a1))]) t) (va_A ([(a_a1, .inl (cy 0, 8, .inl c_a1))]) sz)) 0 0 (va_A ([(a_a1, .inl (cy 0, 8, .inl c_a1))]) sz) := by
  refine j_met (l := l) (y := yX2_codeOf) (ws := wsX2_codeOf) (D := D) (cy := cy) (sz := sz) (av := [.ref a_a1, .int p_1]) (Qc := fun A => va_Qi post (fun u t => PostW D cy A ([(a_a1, .inl (cy 0, 8, .inl c_a1))]) t) A) (by decide +kernel) rfl (Nat.le_of_ble_eq_true rfl) ?_
  intro p e s m below meth c A ls C0 hr hlocks hP hD hS hl
  obtain ⟨hx, hb, hml, hown, hts, hK, hA⟩ := id C0
  have hown : s.vm.findClass RX2 = some m.cls := hown
  have hl : lv_has ls 6 [(0, .ref a_a1), (1, .int p_1)] := hl
  unfold wp_X2_codeOf at hw
  refine lv_iconst (v := 1) hx hb dX2_codeOf_0 (by decide) ?_
  refine lv_iload_n hx hb dX2_codeOf_1 rfl (lv_at hl 1 rfl) ?_
  refine lv_ishl hx hb dX2_codeOf_2 ?_
  refine lv_iconst (v := 1) hx hb dX2_codeOf_3 (by decide) ?_
  refine lv_isub hx hb dX2_codeOf_4 ?_
  refine lv_topi (fun x_1 ex_1 => ?_)
  replace hw := hw x_1 ex_1
  refine lv_istore_n (lv' := [(2, .int x_1), (0, .ref a_a1), (1, .int p_1)]) hx hb dX2_codeOf_5 rfl hl (by decide) rfl (fun ls hl => ?_)
  refine lv_iconst (v := 0) hx hb dX2_codeOf_6 (by decide) ?_
  refine lv_istore_n (lv' := [(3, .int 0), (2, .int x_1), (0, .ref a_a1), (1, .int p_1)]) hx hb dX2_codeOf_7 rfl hl (by decide) rfl (fun ls hl => ?_)
  refine lv_iconst (v := 0) hx hb dX2_codeOf_8 (by decide) ?_
  refine lv_istore (lv' := [(4, .int 0), (3, .int 0), (2, .int x_1), (0, .ref a_a1), (1, .int p_1)]) hx hb dX2_codeOf_9 hl (by decide) rfl (fun ls hl => ?_)
  obtain ⟨N_9, hw⟩ := hw
  refine l_X2_codeOf_11 C0 (fun v_10 v_11 v_12 H locs ls hw hP hD hS hl => ?_) _ _ _ _ _ _ _ hw hP hD hS (lv_sub hl [3, 4, 2, 1, 0] rfl)
  refine lv_iload_n hx hb dX2_codeOf_55 rfl (lv_at hl 0 rfl) ?_
  exact j_iret (fun u => [(a_a1, .inl (cy 0, 8, .inl c_a1))]) (() : Unit) hx hb hr hlocks hK hP hD hS hw dX2_codeOf_56
theorem q_X0_swapSpots_1 : Cond.fieldLink RX0 28 "TwistedRow$Graph" "spots" "[I" ∈ wsX0_swapSpots := List.mem_of_getElem? (i := 1) rfl
theorem k_X0_swapSpots_X0 : ∀ w ∈ wsX00, w ∈ wsX0_swapSpots := my_in _ [2, 3, 4, 5, 6, 7, 8, 9, 10, 11] (by decide +kernel)
def wp_X0_swapSpots (c_sp : Nat → Int32) (p_1 : Int32) (p_2 : Int32) (post : (Nat → Int32) → Prop) : Prop := (vp_in p_1 8 ∧ (∀ x_2 : Int32, x_2 = c_sp (p_1 : Int32).toNatClampNeg → (vp_in p_2 8 ∧ (vp_in p_1 8 ∧ (vp_in p_2 8 ∧ (post (upd (upd c_sp ((p_1 : Int32).toNatClampNeg) (c_sp (p_2 : Int32).toNatClampNeg)) ((p_2 : Int32).toNatClampNeg) x_2)))))))
set_option maxHeartbeats 4000000 in
set_option maxRecDepth 100000 in
theorem c_X0_swapSpots (l : Launch) (D : va_G) (cy : Nat → ClassId) (a_this : Nat) (a_en : Nat) (a_wy : Nat) (a_sp : Nat) (a_mv : Nat) (a_A : Nat) (a_B : Nat) (a_C : Nat) (c_ro : Int32) (c_pl : Int32) (c_sz : Int32) (c_sp : Nat → Int32) (p_1 : Int32) (p_2 : Int32) {post : (Nat → Int32) → Prop} (hw : wp_X0_swapSpots c_sp p_1 p_2 post) (sz : Nat) : Met l yX0_swapSpots wsX0_swapSpots ({ frames := 0, cells := 0, slots := 0, locals := 0 }) (va_Pc [.ref a_this, .int p_1, .int p_2] (PreW D cy ([(a_this, .inr (0, [.int c_ro, .ref a_en, .ref a_wy, .ref a_sp, .ref a_mv, .ref a_A, .ref a_B, .ref a_C, .int c_pl, .int c_sz])), (a_sp, .inl (cy 0, 8, .inl c_sp))]) sz)) (va_Qv post (fun u t => PostW D cy (va_A ([(a_this, .inr (0, [.int c_ro, .ref a_en, .ref a_wy, .ref a_sp, .ref a_mv, .ref a_A, .ref a_B, .ref a_C, .int c_pl, .int c_sz])), (a_sp, .inl (cy 0, 8, .inl c_sp))]) sz) ([(a_this, .inr (0, [.int c_ro, .ref a_en, .ref a_wy, .ref a_sp, .ref a_mv, .ref a_A, .ref a_B, .ref a_C, .int c_pl, .int c_sz])), (a_sp, .inl (cy 0, 8, .inl u))]) t) (va_A ([(a_this, .inr (0, [.int c_ro, .ref a_en, .ref a_wy, .ref a_sp, .ref a_mv, .ref a_A, .ref a_B, .ref a_C, .int c_pl, .int c_sz])), (a_sp, .inl (cy 0, 8, .inl c_sp))]) sz)) 0 0 (va_A ([(a_this, .inr (0, [.int c_ro, .ref a_en, .ref a_wy, .ref a_sp, .ref a_mv, .ref a_A, .ref a_B, .ref a_C, .int c_pl, .int c_sz])), (a_sp, .inl (cy 0, 8, .inl c_sp))]) sz) := by
  refine j_met (l := l) (y := yX0_swapSpots) (ws := wsX0_swapSpots) (D := D) (cy := cy) (sz := sz) (av := [.ref a_this, .int p_1, .int p_2]) (Qc := fun A => va_Qv post (fun u t => PostW D cy A ([(a_this, .inr (0, [.int c_ro, .ref a_en, .ref a_wy, .ref a_sp, .ref a_mv, .ref a_A, .ref a_B, .ref a_C, .int c_pl, .int c_sz])), (a_sp, .inl (cy 0, 8, .inl u))]) t) A) (by decide +kernel) rfl (Nat.le_of_ble_eq_true rfl) ?_
  intro p e s m below meth c A ls C0 hr hlocks hP hD hS hl
  obtain ⟨hx, hb, hml, hown, hts, hK, hA⟩ := id C0
  have hown : s.vm.findClass RX0 = some m.cls := hown
  have hl : lv_has ls 4 [(0, .ref a_this), (1, .int p_1), (2, .int p_2)] := hl
  unfold wp_X0_swapSpots at hw
  refine lv_aload_n hx hb dX0_swapSpots_0 rfl (lv_at hl 0 rfl) ?_
  refine va_get (D := D) (ci := 0) (v := .ref a_sp) (C := RX0) (T := TX0) (N := 10) hx hb hts k_X0_swapSpots_X0 hown hK hP 0 rfl rfl 3 (by decide) (hts _ q_X0_swapSpots_1) (fun _ h9 => h9) rfl dX0_swapSpots_1 ?_
  refine lv_iload_n hx hb dX0_swapSpots_4 rfl (lv_at hl 1 rfl) ?_
  obtain ⟨h_1, hw⟩ := hw
  refine va_iald hx hb hK hP 1 0 rfl rfl h_1 dX0_swapSpots_5 ?_
  refine lv_topi (fun x_2 ex_2 => ?_)
  replace hw := hw x_2 ex_2
  refine lv_istore_n (lv' := [(3, .int x_2), (0, .ref a_this), (1, .int p_1), (2, .int p_2)]) hx hb dX0_swapSpots_6 rfl hl (by decide) rfl (fun ls hl => ?_)
  refine lv_aload_n hx hb dX0_swapSpots_7 rfl (lv_at hl 1 rfl) ?_
  refine va_get (D := D) (ci := 0) (v := .ref a_sp) (C := RX0) (T := TX0) (N := 10) hx hb hts k_X0_swapSpots_X0 hown hK hP 0 rfl rfl 3 (by decide) (hts _ q_X0_swapSpots_1) (fun _ h9 => h9) rfl dX0_swapSpots_8 ?_
  refine lv_iload_n hx hb dX0_swapSpots_11 rfl (lv_at hl 2 rfl) ?_
  refine lv_aload_n hx hb dX0_swapSpots_12 rfl (lv_at hl 1 rfl) ?_
  refine va_get (D := D) (ci := 0) (v := .ref a_sp) (C := RX0) (T := TX0) (N := 10) hx hb hts k_X0_swapSpots_X0 hown hK hP 0 rfl rfl 3 (by decide) (hts _ q_X0_swapSpots_1) (fun _ h9 => h9) rfl dX0_swapSpots_13 ?_
  refine lv_iload_n hx hb dX0_swapSpots_16 rfl (lv_at hl 3 rfl) ?_
  obtain ⟨h_3, hw⟩ := hw
  refine va_iald hx hb hK hP 1 0 rfl rfl h_3 dX0_swapSpots_17 ?_
  obtain ⟨h_4, hw⟩ := hw
  refine va_iast hx hb hK hP hD hS 1 0 rfl rfl h_4 dX0_swapSpots_18 (fun H locs hP hD hS => ?_)
  have hP : va_P D vwCl ([(a_this, .inr (0, [.int c_ro, .ref a_en, .ref a_wy, .ref a_sp, .ref a_mv, .ref a_A, .ref a_B, .ref a_C, .int c_pl, .int c_sz])), (a_sp, .inl (cy 0, 8, .inl (upd c_sp ((p_1 : Int32).toNatClampNeg) (c_sp (p_2 : Int32).toNatClampNeg))))]) H := hP
  have hD : va_D A ([(a_this, .inr (0, [.int c_ro, .ref a_en, .ref a_wy, .ref a_sp, .ref a_mv, .ref a_A, .ref a_B, .ref a_C, .int c_pl, .int c_sz])), (a_sp, .inl (cy 0, 8, .inl (upd c_sp ((p_1 : Int32).toNatClampNeg) (c_sp (p_2 : Int32).toNatClampNeg))))]) := hD
  refine lv_aload_n hx hb dX0_swapSpots_19 rfl (lv_at hl 1 rfl) ?_
  refine va_get (D := D) (ci := 0) (v := .ref a_sp) (C := RX0) (T := TX0) (N := 10) hx hb hts k_X0_swapSpots_X0 hown hK hP 0 rfl rfl 3 (by decide) (hts _ q_X0_swapSpots_1) (fun _ h9 => h9) rfl dX0_swapSpots_20 ?_
  refine lv_iload_n hx hb dX0_swapSpots_23 rfl (lv_at hl 3 rfl) ?_
  refine lv_iload_n hx hb dX0_swapSpots_24 rfl (lv_at hl 0 rfl) ?_
  obtain ⟨h_5, hw⟩ := hw
  refine va_iast hx hb hK hP hD hS 1 0 rfl rfl h_5 dX0_swapSpots_25 (fun H locs hP hD hS => ?_)
  have hP : va_P D vwCl ([(a_this, .inr (0, [.int c_ro, .ref a_en, .ref a_wy, .ref a_sp, .ref a_mv, .ref a_A, .ref a_B, .ref a_C, .int c_pl, .int c_sz])), (a_sp, .inl (cy 0, 8, .inl (upd (upd c_sp ((p_1 : Int32).toNatClampNeg) (c_sp (p_2 : Int32).toNatClampNeg)) ((p_2 : Int32).toNatClampNeg) x_2)))]) H := hP
  have hD : va_D A ([(a_this, .inr (0, [.int c_ro, .ref a_en, .ref a_wy, .ref a_sp, .ref a_mv, .ref a_A, .ref a_B, .ref a_C, .int c_pl, .int c_sz])), (a_sp, .inl (cy 0, 8, .inl (upd (upd c_sp ((p_1 : Int32).toNatClampNeg) (c_sp (p_2 : Int32).toNatClampNeg)) ((p_2 : Int32).toNatClampNeg) x_2)))]) := hD
  exact j_vret (fun u => [(a_this, .inr (0, [.int c_ro, .ref a_en, .ref a_wy, .ref a_sp, .ref a_mv, .ref a_A, .ref a_B, .ref a_C, .int c_pl, .int c_sz])), (a_sp, .inl (cy 0, 8, .inl u))]) (upd (upd c_sp ((p_1 : Int32).toNatClampNeg) (c_sp (p_2 : Int32).toNatClampNeg)) ((p_2 : Int32).toNatClampNeg) x_2 : (Nat → Int32)) hx hb hr hlocks hK hP hD hS hw dX0_swapSpots_26
theorem q_X0_advanceSpots_1 : Cond.fieldLink RX0 52 "TwistedRow$Graph" "places" "I" ∈ wsX0_advanceSpots := List.mem_of_getElem? (i := 1) rfl
theorem k_X0_advanceSpots_X0 : ∀ w ∈ wsX00, w ∈ wsX0_advanceSpots := my_in _ [8, 9, 10, 11, 12, 13, 14, 15, 16, 17] (by decide +kernel)
theorem q_X0_advanceSpots_2 : Cond.fieldLink RX0 28 "TwistedRow$Graph" "spots" "[I" ∈ wsX0_advanceSpots := List.mem_of_getElem? (i := 2) rfl
def lp_X0_advanceSpots_7 (c_sp : Nat → Int32) (K34 : Int32 → Prop) : Nat → Int32 → Prop
  | 0, _ => False
  | N + 1, v_1 => ((v_1 < 0 → (K34 v_1)) ∧ (¬ v_1 < 0 → (vp_in v_1 8 ∧ (vp_in (v_1 + 1) 8 ∧ (((c_sp (v_1 : Int32).toNatClampNeg) ≤ (c_sp (v_1 + 1 : Int32).toNatClampNeg) → (K34 v_1)) ∧ (¬ (c_sp (v_1 : Int32).toNatClampNeg) ≤ (c_sp (v_1 + 1 : Int32).toNatClampNeg) → (lp_X0_advanceSpots_7 c_sp K34 N (v_1 + (-1)))))))))
set_option maxHeartbeats 4000000 in
set_option maxRecDepth 100000 in
theorem l_X0_advanceSpots_7 {p : Program} {l : Launch} {e : Env} {s : State} {m : MethodId} {args : Array Value} {below : List Frame} {meth : Method} {c : Code} {A : Nat → Prop} {D : va_G} {cy : Nat → ClassId} {Q : State → Prop} {a_this : Nat} {a_en : Nat} {a_wy : Nat} {a_sp : Nat} {a_mv : Nat} {a_A : Nat} {a_B : Nat} {a_C : Nat} {c_ro : Int32} {c_pl : Int32} {c_sz : Int32} {c_sp : Nat → Int32} {K34 : Int32 → Prop} (C0 : Cx p s m args c cX0_advanceSpots yX0_advanceSpots.cls 5 wsX0_advanceSpots D cy A)
    (k34 : ∀ (v_1 : Int32) (H : Heap) (locs : List Loc) (ls : Array Slot), K34 v_1 → va_P D vwCl ([(a_this, .inr (0, [.int c_ro, .ref a_en, .ref a_wy, .ref a_sp, .ref a_mv, .ref a_A, .ref a_B, .ref a_C, .int c_pl, .int c_sz])), (a_sp, .inl (cy 0, 8, .inl c_sp))]) H → va_D A ([(a_this, .inr (0, [.int c_ro, .ref a_en, .ref a_wy, .ref a_sp, .ref a_mv, .ref a_A, .ref a_B, .ref a_C, .int c_pl, .int c_sz])), (a_sp, .inl (cy 0, 8, .inl c_sp))]) → va_S A s.heap H locs → lv_has ls 5 [(0, .ref a_this), (1, .int v_1)] → W p l e (({ frames := 1, cells := 0, slots := 0, locals := 23 } : Room)) s m args below meth c H locs 0 0 Q (F0 m 34 ls [])) :
    ∀ (N : Nat) (v_1 : Int32) (H : Heap) (locs : List Loc) (ls : Array Slot), lp_X0_advanceSpots_7 c_sp K34 N v_1 → va_P D vwCl ([(a_this, .inr (0, [.int c_ro, .ref a_en, .ref a_wy, .ref a_sp, .ref a_mv, .ref a_A, .ref a_B, .ref a_C, .int c_pl, .int c_sz])), (a_sp, .inl (cy 0, 8, .inl c_sp))]) H → va_D A ([(a_this, .inr (0, [.int c_ro, .ref a_en, .ref a_wy, .ref a_sp, .ref a_mv, .ref a_A, .ref a_B, .ref a_C, .int c_pl, .int c_sz])), (a_sp, .inl (cy 0, 8, .inl c_sp))]) → va_S A s.heap H locs → lv_has ls 5 [(0, .ref a_this), (1, .int v_1)] → W p l e (({ frames := 1, cells := 0, slots := 0, locals := 23 } : Room)) s m args below meth c H locs 0 0 Q (F0 m 7 ls []) := by
  obtain ⟨hx, hb, hml, hown, hts, hK, hA⟩ := id C0
  intro N
  induction N with
  | zero =>
    intro v_1 H locs ls hw
    exact False.elim hw
  | succ N ih =>
    intro v_1 H locs ls hw hP hD hS hl
    rw [lp_X0_advanceSpots_7] at hw
    refine lv_iload_n hx hb dX0_advanceSpots_7 rfl (lv_at hl 1 rfl) ?_
    refine lv_if_lt (tgt := 34) hx hb dX0_advanceSpots_8 (by decide) (fun c_2 => ?_) (fun c_2 => ?_)
    · replace hw := hw.1 c_2
      exact k34 _ _ _ _ hw hP hD hS (lv_sub hl [0, 1] rfl)
    · replace hw := hw.2 c_2
      refine lv_aload_n hx hb dX0_advanceSpots_11 rfl (lv_at hl 0 rfl) ?_
      refine va_get (D := D) (ci := 0) (v := .ref a_sp) (C := RX0) (T := TX0) (N := 10) hx hb hts k_X0_advanceSpots_X0 hown hK hP 0 rfl rfl 3 (by decide) (hts _ q_X0_advanceSpots_2) (fun _ h9 => h9) rfl dX0_advanceSpots_12 ?_
      refine lv_iload_n hx hb dX0_advanceSpots_15 rfl (lv_at hl 1 rfl) ?_
      obtain ⟨h_3, hw⟩ := hw
      refine va_iald hx hb hK hP 1 0 rfl rfl h_3 dX0_advanceSpots_16 ?_
      refine lv_aload_n hx hb dX0_advanceSpots_17 rfl (lv_at hl 0 rfl) ?_
      refine va_get (D := D) (ci := 0) (v := .ref a_sp) (C := RX0) (T := TX0) (N := 10) hx hb hts k_X0_advanceSpots_X0 hown hK hP 0 rfl rfl 3 (by decide) (hts _ q_X0_advanceSpots_2) (fun _ h9 => h9) rfl dX0_advanceSpots_18 ?_
      refine lv_iload_n hx hb dX0_advanceSpots_21 rfl (lv_at hl 1 rfl) ?_
      refine lv_iconst (v := 1) hx hb dX0_advanceSpots_22 (by decide) ?_
      refine lv_iadd hx hb dX0_advanceSpots_23 ?_
      obtain ⟨h_4, hw⟩ := hw
      refine va_iald hx hb hK hP 1 0 rfl rfl h_4 dX0_advanceSpots_24 ?_
      refine lv_icmp_le (tgt := 34) hx hb dX0_advanceSpots_25 (by decide) (fun c_5 => ?_) (fun c_5 => ?_)
      · replace hw := hw.1 c_5
        exact k34 _ _ _ _ hw hP hD hS (lv_sub hl [0, 1] rfl)
      · replace hw := hw.2 c_5
        refine lv_iinc (v := v_1 + (-1)) (lv' := [(1, .int (v_1 + (-1))), (0, .ref a_this)]) hx hb dX0_advanceSpots_28 hl (k := 1) rfl rfl (by decide) rfl (fun ls hl => ?_)
        refine lv_goto (tgt := 7) hx hb dX0_advanceSpots_31 (by decide) ?_
        exact ih _ _ _ _ hw hP hD hS (lv_sub hl [1, 0] rfl)
def lp_X0_advanceSpots_46 (c_sp : Nat → Int32) (v_1 : Int32) (K72 : Int32 → Prop) : Nat → Int32 → Prop
  | 0, _ => False
  | N + 1, v_2 => ((v_2 ≤ v_1 → (K72 v_2)) ∧ (¬ v_2 ≤ v_1 → (vp_in v_2 8 ∧ (vp_in v_1 8 ∧ (((c_sp (v_1 : Int32).toNatClampNeg) ≤ (c_sp (v_2 : Int32).toNatClampNeg) → (K72 v_2)) ∧ (¬ (c_sp (v_1 : Int32).toNatClampNeg) ≤ (c_sp (v_2 : Int32).toNatClampNeg) → (lp_X0_advanceSpots_46 c_sp v_1 K72 N (v_2 + (-1)))))))))
set_option maxHeartbeats 4000000 in
set_option maxRecDepth 100000 in
theorem l_X0_advanceSpots_46 {p : Program} {l : Launch} {e : Env} {s : State} {m : MethodId} {args : Array Value} {below : List Frame} {meth : Method} {c : Code} {A : Nat → Prop} {D : va_G} {cy : Nat → ClassId} {Q : State → Prop} {a_this : Nat} {a_en : Nat} {a_wy : Nat} {a_sp : Nat} {a_mv : Nat} {a_A : Nat} {a_B : Nat} {a_C : Nat} {c_ro : Int32} {c_pl : Int32} {c_sz : Int32} {c_sp : Nat → Int32} {v_1 : Int32} {K72 : Int32 → Prop} (C0 : Cx p s m args c cX0_advanceSpots yX0_advanceSpots.cls 5 wsX0_advanceSpots D cy A)
    (k72 : ∀ (v_2 : Int32) (H : Heap) (locs : List Loc) (ls : Array Slot), K72 v_2 → va_P D vwCl ([(a_this, .inr (0, [.int c_ro, .ref a_en, .ref a_wy, .ref a_sp, .ref a_mv, .ref a_A, .ref a_B, .ref a_C, .int c_pl, .int c_sz])), (a_sp, .inl (cy 0, 8, .inl c_sp))]) H → va_D A ([(a_this, .inr (0, [.int c_ro, .ref a_en, .ref a_wy, .ref a_sp, .ref a_mv, .ref a_A, .ref a_B, .ref a_C, .int c_pl, .int c_sz])), (a_sp, .inl (cy 0, 8, .inl c_sp))]) → va_S A s.heap H locs → lv_has ls 5 [(0, .ref a_this), (1, .int v_1), (2, .int v_2)] → W p l e (({ frames := 1, cells := 0, slots := 0, locals := 23 } : Room)) s m args below meth c H locs 0 0 Q (F0 m 72 ls [])) :
    ∀ (N : Nat) (v_2 : Int32) (H : Heap) (locs : List Loc) (ls : Array Slot), lp_X0_advanceSpots_46 c_sp v_1 K72 N v_2 → va_P D vwCl ([(a_this, .inr (0, [.int c_ro, .ref a_en, .ref a_wy, .ref a_sp, .ref a_mv, .ref a_A, .ref a_B, .ref a_C, .int c_pl, .int c_sz])), (a_sp, .inl (cy 0, 8, .inl c_sp))]) H → va_D A ([(a_this, .inr (0, [.int c_ro, .ref a_en, .ref a_wy, .ref a_sp, .ref a_mv, .ref a_A, .ref a_B, .ref a_C, .int c_pl, .int c_sz])), (a_sp, .inl (cy 0, 8, .inl c_sp))]) → va_S A s.heap H locs → lv_has ls 5 [(0, .ref a_this), (1, .int v_1), (2, .int v_2)] → W p l e (({ frames := 1, cells := 0, slots := 0, locals := 23 } : Room)) s m args below meth c H locs 0 0 Q (F0 m 46 ls []) := by
  obtain ⟨hx, hb, hml, hown, hts, hK, hA⟩ := id C0
  intro N
  induction N with
  | zero =>
    intro v_2 H locs ls hw
    exact False.elim hw
  | succ N ih =>
    intro v_2 H locs ls hw hP hD hS hl
    rw [lp_X0_advanceSpots_46] at hw
    refine lv_iload_n hx hb dX0_advanceSpots_46 rfl (lv_at hl 2 rfl) ?_
    refine lv_iload_n hx hb dX0_advanceSpots_47 rfl (lv_at hl 1 rfl) ?_
    refine lv_icmp_le (tgt := 72) hx hb dX0_advanceSpots_48 (by decide) (fun c_10 => ?_) (fun c_10 => ?_)
    · replace hw := hw.1 c_10
      exact k72 _ _ _ _ hw hP hD hS (lv_sub hl [0, 1, 2] rfl)
    · replace hw := hw.2 c_10
      refine lv_aload_n hx hb dX0_advanceSpots_51 rfl (lv_at hl 0 rfl) ?_
      refine va_get (D := D) (ci := 0) (v := .ref a_sp) (C := RX0) (T := TX0) (N := 10) hx hb hts k_X0_advanceSpots_X0 hown hK hP 0 rfl rfl 3 (by decide) (hts _ q_X0_advanceSpots_2) (fun _ h9 => h9) rfl dX0_advanceSpots_52 ?_
      refine lv_iload_n hx hb dX0_advanceSpots_55 rfl (lv_at hl 2 rfl) ?_
      obtain ⟨h_11, hw⟩ := hw
      refine va_iald hx hb hK hP 1 0 rfl rfl h_11 dX0_advanceSpots_56 ?_
      refine lv_aload_n hx hb dX0_advanceSpots_57 rfl (lv_at hl 0 rfl) ?_
      refine va_get (D := D) (ci := 0) (v := .ref a_sp) (C := RX0) (T := TX0) (N := 10) hx hb hts k_X0_advanceSpots_X0 hown hK hP 0 rfl rfl 3 (by decide) (hts _ q_X0_advanceSpots_2) (fun _ h9 => h9) rfl dX0_advanceSpots_58 ?_
      refine lv_iload_n hx hb dX0_advanceSpots_61 rfl (lv_at hl 1 rfl) ?_
      obtain ⟨h_12, hw⟩ := hw
      refine va_iald hx hb hK hP 1 0 rfl rfl h_12 dX0_advanceSpots_62 ?_
      refine lv_icmp_ge (tgt := 72) hx hb dX0_advanceSpots_63 (by decide) (fun c_13 => ?_) (fun c_13 => ?_)
      · replace hw := hw.1 c_13
        exact k72 _ _ _ _ hw hP hD hS (lv_sub hl [0, 1, 2] rfl)
      · replace hw := hw.2 c_13
        refine lv_iinc (v := v_2 + (-1)) (lv' := [(2, .int (v_2 + (-1))), (0, .ref a_this), (1, .int v_1)]) hx hb dX0_advanceSpots_66 hl (k := 2) rfl rfl (by decide) rfl (fun ls hl => ?_)
        refine lv_goto (tgt := 46) hx hb dX0_advanceSpots_69 (by decide) ?_
        exact ih _ _ _ _ hw hP hD hS (lv_sub hl [1, 2, 0] rfl)
def lp_X0_advanceSpots_90 (K112 : Int32 → Int32 → (Nat → Int32) → Prop) : Nat → Int32 → Int32 → (Nat → Int32) → Prop
  | 0, _, _, _ => False
  | N + 1, v_3, v_4, c_sp => ((v_4 ≤ v_3 → (K112 v_3 v_4 c_sp)) ∧ (¬ v_4 ≤ v_3 → (wp_X0_swapSpots c_sp v_3 v_4 (fun u_20 => (lp_X0_advanceSpots_90 K112 N (v_3 + 1) (v_4 + (-1)) u_20)))))
set_option maxHeartbeats 4000000 in
set_option maxRecDepth 100000 in
theorem l_X0_advanceSpots_90 {p : Program} {l : Launch} {e : Env} {s : State} {m : MethodId} {args : Array Value} {below : List Frame} {meth : Method} {c : Code} {A : Nat → Prop} {D : va_G} {cy : Nat → ClassId} {Q : State → Prop} {a_this : Nat} {a_en : Nat} {a_wy : Nat} {a_sp : Nat} {a_mv : Nat} {a_A : Nat} {a_B : Nat} {a_C : Nat} {c_ro : Int32} {c_pl : Int32} {c_sz : Int32} {K112 : Int32 → Int32 → (Nat → Int32) → Prop} (C0 : Cx p s m args c cX0_advanceSpots yX0_advanceSpots.cls 5 wsX0_advanceSpots D cy A)
    (k112 : ∀ (v_3 : Int32) (v_4 : Int32) (c_sp : Nat → Int32) (H : Heap) (locs : List Loc) (ls : Array Slot), K112 v_3 v_4 c_sp → va_P D vwCl ([(a_this, .inr (0, [.int c_ro, .ref a_en, .ref a_wy, .ref a_sp, .ref a_mv, .ref a_A, .ref a_B, .ref a_C, .int c_pl, .int c_sz])), (a_sp, .inl (cy 0, 8, .inl c_sp))]) H → va_D A ([(a_this, .inr (0, [.int c_ro, .ref a_en, .ref a_wy, .ref a_sp, .ref a_mv, .ref a_A, .ref a_B, .ref a_C, .int c_pl, .int c_sz])), (a_sp, .inl (cy 0, 8, .inl c_sp))]) → va_S A s.heap H locs → lv_has ls 5 [] → W p l e (({ frames := 1, cells := 0, slots := 0, locals := 23 } : Room)) s m args below meth c H locs 0 0 Q (F0 m 112 ls [])) :
    ∀ (N : Nat) (v_3 : Int32) (v_4 : Int32) (c_sp : Nat → Int32) (H : Heap) (locs : List Loc) (ls : Array Slot), lp_X0_advanceSpots_90 K112 N v_3 v_4 c_sp → va_P D vwCl ([(a_this, .inr (0, [.int c_ro, .ref a_en, .ref a_wy, .ref a_sp, .ref a_mv, .ref a_A, .ref a_B, .ref a_C, .int c_pl, .int c_sz])), (a_sp, .inl (cy 0, 8, .inl c_sp))]) H → va_D A ([(a_this, .inr (0, [.int c_ro, .ref a_en, .ref a_wy, .ref a_sp, .ref a_mv, .ref a_A, .ref a_B, .ref a_C, .int c_pl, .int c_sz])), (a_sp, .inl (cy 0, 8, .inl c_sp))]) → va_S A s.heap H locs → lv_has ls 5 [(0, .ref a_this), (3, .int v_3), (4, .int v_4)] → W p l e (({ frames := 1, cells := 0, slots := 0, locals := 23 } : Room)) s m args below meth c H locs 0 0 Q (F0 m 90 ls []) := by
  obtain ⟨hx, hb, hml, hown, hts, hK, hA⟩ := id C0
  intro N
  induction N with
  | zero =>
    intro v_3 v_4 c_sp H locs ls hw
    exact False.elim hw
  | succ N ih =>
    intro v_3 v_4 c_sp H locs ls hw hP hD hS hl
    rw [lp_X0_advanceSpots_90] at hw
    refine lv_iload_n hx hb dX0_advanceSpots_90 rfl (lv_at hl 1 rfl) ?_
    refine lv_iload hx hb dX0_advanceSpots_91 (lv_at hl 2 rfl) ?_
    refine lv_icmp_ge (tgt := 112) hx hb dX0_advanceSpots_93 (by decide) (fun c_19 => ?_) (fun c_19 => ?_)
    · replace hw := hw.1 c_19
      exact k112 _ _ _ _ _ _ hw hP hD hS (lv_sub hl [] rfl)
    · replace hw := hw.2 c_19
      refine lv_aload_n hx hb dX0_advanceSpots_96 rfl (lv_at hl 0 rfl) ?_
      refine lv_iload_n hx hb dX0_advanceSpots_97 rfl (lv_at hl 1 rfl) ?_
      refine lv_iload hx hb dX0_advanceSpots_98 (lv_at hl 2 rfl) ?_
      refine j_callv (wr := []) (va_runV (As := [.int v_3, .int v_4]) (rest := []) ⟨hx, hb, hml, hown, hts⟩ (c_X0_swapSpots l D cy a_this a_en a_wy a_sp a_mv a_A a_B a_C c_ro c_pl c_sz c_sp v_3 v_4 hw H.size) (cwV 2 hts gX0_advanceSpots_X0_swapSpots rfl rfl rfl (by decide +kernel) ⟨Nat.le_of_ble_eq_true rfl, Nat.le_of_ble_eq_true rfl⟩) (j_preV hK hP hD (isC := [0, 1]) rfl (by decide +kernel) (ci := 0) (q0 := 0) rfl rfl) rfl rfl hl.1 rfl (lv_room (Nat.le_of_ble_eq_true rfl)) dX0_advanceSpots_100 ⟨Nat.le_of_ble_eq_true rfl, Nat.le_of_ble_eq_true rfl⟩) hP hD hS hA [0, 1] [] rfl rfl (by decide +kernel) (by decide +kernel) (fun u_20 => [(a_this, .inr (0, [.int c_ro, .ref a_en, .ref a_wy, .ref a_sp, .ref a_mv, .ref a_A, .ref a_B, .ref a_C, .int c_pl, .int c_sz])), (a_sp, .inl (cy 0, 8, .inl u_20))]) [0, 1] (by decide +kernel) (fun u => rfl) (fun u_20 H locs hw hP hD hS => ?_)
      have hP : va_P D vwCl ([(a_this, .inr (0, [.int c_ro, .ref a_en, .ref a_wy, .ref a_sp, .ref a_mv, .ref a_A, .ref a_B, .ref a_C, .int c_pl, .int c_sz])), (a_sp, .inl (cy 0, 8, .inl u_20))]) H := hP
      have hD : va_D A ([(a_this, .inr (0, [.int c_ro, .ref a_en, .ref a_wy, .ref a_sp, .ref a_mv, .ref a_A, .ref a_B, .ref a_C, .int c_pl, .int c_sz])), (a_sp, .inl (cy 0, 8, .inl u_20))]) := hD
      refine lv_iinc (v := v_3 + 1) (lv' := [(3, .int (v_3 + 1)), (0, .ref a_this), (4, .int v_4)]) hx hb dX0_advanceSpots_103 hl (k := 1) rfl rfl (by decide) rfl (fun ls hl => ?_)
      refine lv_iinc (v := v_4 + (-1)) (lv' := [(4, .int (v_4 + (-1))), (3, .int (v_3 + 1)), (0, .ref a_this)]) hx hb dX0_advanceSpots_106 hl (k := 2) rfl rfl (by decide) rfl (fun ls hl => ?_)
      refine lv_goto (tgt := 90) hx hb dX0_advanceSpots_109 (by decide) ?_
      exact ih _ _ _ _ _ _ hw hP hD hS (lv_sub hl [2, 1, 0] rfl)
def wp_X0_advanceSpots (c_pl : Int32) (c_sp : Nat → Int32) (post : (Nat → Int32) → Prop) : Prop := (∀ x_1 : Int32, x_1 = c_pl - 2 → (∃ N_6 : Nat, lp_X0_advanceSpots_7 c_sp (fun (v_7 : Int32) => ((0 ≤ v_7 → (∀ x_9 : Int32, x_9 = c_pl - 1 → (∃ N_14 : Nat, lp_X0_advanceSpots_46 c_sp v_7 (fun (v_15 : Int32) => (wp_X0_swapSpots c_sp v_7 v_15 (fun u_16 => (∀ x_17 : Int32, x_17 = v_7 + 1 → (∀ x_18 : Int32, x_18 = c_pl - 1 → (∃ N_21 : Nat, lp_X0_advanceSpots_90 (fun (v_22 : Int32) (v_23 : Int32) (c_24 : Nat → Int32) => (post c_24)) N_21 x_17 x_18 u_16)))))) N_14 x_9))) ∧ (¬ 0 ≤ v_7 → (post c_sp)))) N_6 x_1))
set_option maxHeartbeats 4000000 in
set_option maxRecDepth 100000 in
theorem c_X0_advanceSpots (l : Launch) (D : va_G) (cy : Nat → ClassId) (a_this : Nat) (a_en : Nat) (a_wy : Nat) (a_sp : Nat) (a_mv : Nat) (a_A : Nat) (a_B : Nat) (a_C : Nat) (c_ro : Int32) (c_pl : Int32) (c_sz : Int32) (c_sp : Nat → Int32) {post : (Nat → Int32) → Prop} (hw : wp_X0_advanceSpots c_pl c_sp post) (sz : Nat) : Met l yX0_advanceSpots wsX0_advanceSpots ({ frames := 1, cells := 0, slots := 0, locals := 23 }) (va_Pc [.ref a_this] (PreW D cy ([(a_this, .inr (0, [.int c_ro, .ref a_en, .ref a_wy, .ref a_sp, .ref a_mv, .ref a_A, .ref a_B, .ref a_C, .int c_pl, .int c_sz])), (a_sp, .inl (cy 0, 8, .inl c_sp))]) sz)) (va_Qv post (fun u t => PostW D cy (va_A ([(a_this, .inr (0, [.int c_ro, .ref a_en, .ref a_wy, .ref a_sp, .ref a_mv, .ref a_A, .ref a_B, .ref a_C, .int c_pl, .int c_sz])), (a_sp, .inl (cy 0, 8, .inl c_sp))]) sz) ([(a_this, .inr (0, [.int c_ro, .ref a_en, .ref a_wy, .ref a_sp, .ref a_mv, .ref a_A, .ref a_B, .ref a_C, .int c_pl, .int c_sz])), (a_sp, .inl (cy 0, 8, .inl u))]) t) (va_A ([(a_this, .inr (0, [.int c_ro, .ref a_en, .ref a_wy, .ref a_sp, .ref a_mv, .ref a_A, .ref a_B, .ref a_C, .int c_pl, .int c_sz])), (a_sp, .inl (cy 0, 8, .inl c_sp))]) sz)) 0 0 (va_A ([(a_this, .inr (0, [.int c_ro, .ref a_en, .ref a_wy, .ref a_sp, .ref a_mv, .ref a_A, .ref a_B, .ref a_C, .int c_pl, .int c_sz])), (a_sp, .inl (cy 0, 8, .inl c_sp))]) sz) := by
  refine j_met (l := l) (y := yX0_advanceSpots) (ws := wsX0_advanceSpots) (D := D) (cy := cy) (sz := sz) (av := [.ref a_this]) (Qc := fun A => va_Qv post (fun u t => PostW D cy A ([(a_this, .inr (0, [.int c_ro, .ref a_en, .ref a_wy, .ref a_sp, .ref a_mv, .ref a_A, .ref a_B, .ref a_C, .int c_pl, .int c_sz])), (a_sp, .inl (cy 0, 8, .inl u))]) t) A) (by decide +kernel) rfl (Nat.le_of_ble_eq_true rfl) ?_
  intro p e s m below meth c A ls C0 hr hlocks hP hD hS hl
  obtain ⟨hx, hb, hml, hown, hts, hK, hA⟩ := id C0
  have hown : s.vm.findClass RX0 = some m.cls := hown
  have hl : lv_has ls 5 [(0, .ref a_this)] := hl
  unfold wp_X0_advanceSpots at hw
  refine lv_aload_n hx hb dX0_advanceSpots_0 rfl (lv_at hl 0 rfl) ?_
  refine va_get (D := D) (ci := 0) (v := .int c_pl) (C := RX0) (T := TX0) (N := 10) hx hb hts k_X0_advanceSpots_X0 hown hK hP 0 rfl rfl 8 (by decide) (hts _ q_X0_advanceSpots_1) (fun _ h9 => h9) rfl dX0_advanceSpots_1 ?_
  refine lv_iconst (v := 2) hx hb dX0_advanceSpots_4 (by decide) ?_
  refine lv_isub hx hb dX0_advanceSpots_5 ?_
  refine lv_topi (fun x_1 ex_1 => ?_)
  replace hw := hw x_1 ex_1
  refine lv_istore_n (lv' := [(1, .int x_1), (0, .ref a_this)]) hx hb dX0_advanceSpots_6 rfl hl (by decide) rfl (fun ls hl => ?_)
  obtain ⟨N_6, hw⟩ := hw
  refine l_X0_advanceSpots_7 C0 (fun v_7 H locs ls hw hP hD hS hl => ?_) _ _ _ _ _ hw hP hD hS (lv_sub hl [1, 0] rfl)
  refine lv_iload_n hx hb dX0_advanceSpots_34 rfl (lv_at hl 1 rfl) ?_
  refine lv_if_ge (tgt := 39) hx hb dX0_advanceSpots_35 (by decide) (fun c_8 => ?_) (fun c_8 => ?_)
  · replace hw := hw.1 c_8
    refine lv_aload_n hx hb dX0_advanceSpots_39 rfl (lv_at hl 0 rfl) ?_
    refine va_get (D := D) (ci := 0) (v := .int c_pl) (C := RX0) (T := TX0) (N := 10) hx hb hts k_X0_advanceSpots_X0 hown hK hP 0 rfl rfl 8 (by decide) (hts _ q_X0_advanceSpots_1) (fun _ h9 => h9) rfl dX0_advanceSpots_40 ?_
    refine lv_iconst (v := 1) hx hb dX0_advanceSpots_43 (by decide) ?_
    refine lv_isub hx hb dX0_advanceSpots_44 ?_
    refine lv_topi (fun x_9 ex_9 => ?_)
    replace hw := hw x_9 ex_9
    refine lv_istore_n (lv' := [(2, .int x_9), (0, .ref a_this), (1, .int v_7)]) hx hb dX0_advanceSpots_45 rfl hl (by decide) rfl (fun ls hl => ?_)
    obtain ⟨N_14, hw⟩ := hw
    refine l_X0_advanceSpots_46 C0 (fun v_15 H locs ls hw hP hD hS hl => ?_) _ _ _ _ _ hw hP hD hS (lv_sub hl [1, 2, 0] rfl)
    refine lv_aload_n hx hb dX0_advanceSpots_72 rfl (lv_at hl 0 rfl) ?_
    refine lv_iload_n hx hb dX0_advanceSpots_73 rfl (lv_at hl 1 rfl) ?_
    refine lv_iload_n hx hb dX0_advanceSpots_74 rfl (lv_at hl 2 rfl) ?_
    refine j_callv (wr := []) (va_runV (As := [.int v_7, .int v_15]) (rest := []) ⟨hx, hb, hml, hown, hts⟩ (c_X0_swapSpots l D cy a_this a_en a_wy a_sp a_mv a_A a_B a_C c_ro c_pl c_sz c_sp v_7 v_15 hw H.size) (cwV 2 hts gX0_advanceSpots_X0_swapSpots rfl rfl rfl (by decide +kernel) ⟨Nat.le_of_ble_eq_true rfl, Nat.le_of_ble_eq_true rfl⟩) (j_preV hK hP hD (isC := [0, 1]) rfl (by decide +kernel) (ci := 0) (q0 := 0) rfl rfl) rfl rfl hl.1 rfl (lv_room (Nat.le_of_ble_eq_true rfl)) dX0_advanceSpots_75 ⟨Nat.le_of_ble_eq_true rfl, Nat.le_of_ble_eq_true rfl⟩) hP hD hS hA [0, 1] [] rfl rfl (by decide +kernel) (by decide +kernel) (fun u_16 => [(a_this, .inr (0, [.int c_ro, .ref a_en, .ref a_wy, .ref a_sp, .ref a_mv, .ref a_A, .ref a_B, .ref a_C, .int c_pl, .int c_sz])), (a_sp, .inl (cy 0, 8, .inl u_16))]) [0, 1] (by decide +kernel) (fun u => rfl) (fun u_16 H locs hw hP hD hS => ?_)
    have hP : va_P D vwCl ([(a_this, .inr (0, [.int c_ro, .ref a_en, .ref a_wy, .ref a_sp, .ref a_mv, .ref a_A, .ref a_B, .ref a_C, .int c_pl, .int c_sz])), (a_sp, .inl (cy 0, 8, .inl u_16))]) H := hP
    have hD : va_D A ([(a_this, .inr (0, [.int c_ro, .ref a_en, .ref a_wy, .ref a_sp, .ref a_mv, .ref a_A, .ref a_B, .ref a_C, .int c_pl, .int c_sz])), (a_sp, .inl (cy 0, 8, .inl u_16))]) := hD
    refine lv_iload_n hx hb dX0_advanceSpots_78 rfl (lv_at hl 1 rfl) ?_
    refine lv_iconst (v := 1) hx hb dX0_advanceSpots_79 (by decide) ?_
    refine lv_iadd hx hb dX0_advanceSpots_80 ?_
    refine lv_topi (fun x_17 ex_17 => ?_)
    replace hw := hw x_17 ex_17
    refine lv_istore_n (lv' := [(3, .int x_17), (0, .ref a_this), (1, .int v_7), (2, .int v_15)]) hx hb dX0_advanceSpots_81 rfl hl (by decide) rfl (fun ls hl => ?_)
    refine lv_aload_n hx hb dX0_advanceSpots_82 rfl (lv_at hl 1 rfl) ?_
    refine va_get (D := D) (ci := 0) (v := .int c_pl) (C := RX0) (T := TX0) (N := 10) hx hb hts k_X0_advanceSpots_X0 hown hK hP 0 rfl rfl 8 (by decide) (hts _ q_X0_advanceSpots_1) (fun _ h9 => h9) rfl dX0_advanceSpots_83 ?_
    refine lv_iconst (v := 1) hx hb dX0_advanceSpots_86 (by decide) ?_
    refine lv_isub hx hb dX0_advanceSpots_87 ?_
    refine lv_topi (fun x_18 ex_18 => ?_)
    replace hw := hw x_18 ex_18
    refine lv_istore (lv' := [(4, .int x_18), (3, .int x_17), (0, .ref a_this), (1, .int v_7), (2, .int v_15)]) hx hb dX0_advanceSpots_88 hl (by decide) rfl (fun ls hl => ?_)
    obtain ⟨N_21, hw⟩ := hw
    refine l_X0_advanceSpots_90 C0 (fun v_22 v_23 c_24 H locs ls hw hP hD hS hl => ?_) _ _ _ _ _ _ _ hw hP hD hS (lv_sub hl [2, 1, 0] rfl)
    exact j_vret (fun u => [(a_this, .inr (0, [.int c_ro, .ref a_en, .ref a_wy, .ref a_sp, .ref a_mv, .ref a_A, .ref a_B, .ref a_C, .int c_pl, .int c_sz])), (a_sp, .inl (cy 0, 8, .inl u))]) (c_24 : (Nat → Int32)) hx hb hr hlocks hK hP hD hS hw dX0_advanceSpots_112
  · replace hw := hw.2 c_8
    exact j_vret (fun u => [(a_this, .inr (0, [.int c_ro, .ref a_en, .ref a_wy, .ref a_sp, .ref a_mv, .ref a_A, .ref a_B, .ref a_C, .int c_pl, .int c_sz])), (a_sp, .inl (cy 0, 8, .inl u))]) (c_sp : (Nat → Int32)) hx hb hr hlocks hK hP hD hS hw dX0_advanceSpots_38
theorem q_X0_forgetSearches_1 : Cond.fieldLink RX0 39 "TwistedRow$Graph" "solving" "LTwistedRow$Search;" ∈ wsX0_forgetSearches := List.mem_of_getElem? (i := 1) rfl
theorem k_X0_forgetSearches_X0 : ∀ w ∈ wsX00, w ∈ wsX0_forgetSearches := my_in _ [4, 5, 6, 7, 8, 9, 10, 11, 12, 13] (by decide +kernel)
theorem q_X0_forgetSearches_2 : Cond.fieldLink RX0 72 "TwistedRow$Search" "known" "I" ∈ wsX0_forgetSearches := List.mem_of_getElem? (i := 2) rfl
theorem k_X0_forgetSearches_X1 : ∀ w ∈ wsX10, w ∈ wsX0_forgetSearches := my_in _ [14, 15, 16, 17] (by decide +kernel)
theorem q_X0_forgetSearches_3 : Cond.fieldLink RX0 43 "TwistedRow$Graph" "others" "LTwistedRow$Search;" ∈ wsX0_forgetSearches := List.mem_of_getElem? (i := 3) rfl
def wp_X0_forgetSearches (post : (Int32 × Int32) → Prop) : Prop := (post (((-1) : Int32), ((-1) : Int32)))
set_option maxHeartbeats 4000000 in
set_option maxRecDepth 100000 in
theorem c_X0_forgetSearches (l : Launch) (D : va_G) (cy : Nat → ClassId) (a_this : Nat) (a_en : Nat) (a_wy : Nat) (a_sp : Nat) (a_mv : Nat) (a_A : Nat) (a_B : Nat) (a_C : Nat) (a_A_le : Nat) (a_A_fo : Nat) (a_B_le : Nat) (a_B_fo : Nat) (c_ro : Int32) (c_pl : Int32) (c_sz : Int32) (c_A_to : Int32) (c_A_kn : Int32) (c_B_to : Int32) (c_B_kn : Int32) {post : (Int32 × Int32) → Prop} (hw : wp_X0_forgetSearches post) (sz : Nat) : Met l yX0_forgetSearches wsX0_forgetSearches ({ frames := 0, cells := 0, slots := 0, locals := 0 }) (va_Pc [.ref a_this] (PreW D cy ([(a_this, .inr (0, [.int c_ro, .ref a_en, .ref a_wy, .ref a_sp, .ref a_mv, .ref a_A, .ref a_B, .ref a_C, .int c_pl, .int c_sz])), (a_A, .inr (1, [.ref a_A_le, .ref a_A_fo, .int c_A_to, .int c_A_kn])), (a_B, .inr (1, [.ref a_B_le, .ref a_B_fo, .int c_B_to, .int c_B_kn]))]) sz)) (va_Qv post (fun u t => PostW D cy (va_A ([(a_this, .inr (0, [.int c_ro, .ref a_en, .ref a_wy, .ref a_sp, .ref a_mv, .ref a_A, .ref a_B, .ref a_C, .int c_pl, .int c_sz])), (a_A, .inr (1, [.ref a_A_le, .ref a_A_fo, .int c_A_to, .int c_A_kn])), (a_B, .inr (1, [.ref a_B_le, .ref a_B_fo, .int c_B_to, .int c_B_kn]))]) sz) ([(a_this, .inr (0, [.int c_ro, .ref a_en, .ref a_wy, .ref a_sp, .ref a_mv, .ref a_A, .ref a_B, .ref a_C, .int c_pl, .int c_sz])), (a_A, .inr (1, [.ref a_A_le, .ref a_A_fo, .int c_A_to, .int u.1])), (a_B, .inr (1, [.ref a_B_le, .ref a_B_fo, .int c_B_to, .int u.2]))]) t) (va_A ([(a_this, .inr (0, [.int c_ro, .ref a_en, .ref a_wy, .ref a_sp, .ref a_mv, .ref a_A, .ref a_B, .ref a_C, .int c_pl, .int c_sz])), (a_A, .inr (1, [.ref a_A_le, .ref a_A_fo, .int c_A_to, .int c_A_kn])), (a_B, .inr (1, [.ref a_B_le, .ref a_B_fo, .int c_B_to, .int c_B_kn]))]) sz)) 0 0 (va_A ([(a_this, .inr (0, [.int c_ro, .ref a_en, .ref a_wy, .ref a_sp, .ref a_mv, .ref a_A, .ref a_B, .ref a_C, .int c_pl, .int c_sz])), (a_A, .inr (1, [.ref a_A_le, .ref a_A_fo, .int c_A_to, .int c_A_kn])), (a_B, .inr (1, [.ref a_B_le, .ref a_B_fo, .int c_B_to, .int c_B_kn]))]) sz) := by
  refine j_met (l := l) (y := yX0_forgetSearches) (ws := wsX0_forgetSearches) (D := D) (cy := cy) (sz := sz) (av := [.ref a_this]) (Qc := fun A => va_Qv post (fun u t => PostW D cy A ([(a_this, .inr (0, [.int c_ro, .ref a_en, .ref a_wy, .ref a_sp, .ref a_mv, .ref a_A, .ref a_B, .ref a_C, .int c_pl, .int c_sz])), (a_A, .inr (1, [.ref a_A_le, .ref a_A_fo, .int c_A_to, .int u.1])), (a_B, .inr (1, [.ref a_B_le, .ref a_B_fo, .int c_B_to, .int u.2]))]) t) A) (by decide +kernel) rfl (Nat.le_of_ble_eq_true rfl) ?_
  intro p e s m below meth c A ls C0 hr hlocks hP hD hS hl
  obtain ⟨hx, hb, hml, hown, hts, hK, hA⟩ := id C0
  have hown : s.vm.findClass RX0 = some m.cls := hown
  have hl : lv_has ls 1 [(0, .ref a_this)] := hl
  unfold wp_X0_forgetSearches at hw
  refine lv_aload_n hx hb dX0_forgetSearches_0 rfl (lv_at hl 0 rfl) ?_
  refine va_get (D := D) (ci := 0) (v := .ref a_A) (C := RX0) (T := TX0) (N := 10) hx hb hts k_X0_forgetSearches_X0 hown hK hP 0 rfl rfl 5 (by decide) (hts _ q_X0_forgetSearches_1) (fun _ h9 => h9) rfl dX0_forgetSearches_1 ?_
  refine lv_iconst (v := (-1)) hx hb dX0_forgetSearches_4 (by decide) ?_
  refine va_put (D := D) (ci := 1) (v := .int (-1)) (ty := .int) (C := RX1) (T := TX1) (N := 4) hx hb hts k_X0_forgetSearches_X1 tyX1 tyX1_ok nmX1 hown hK hP hD hS 1 rfl rfl 3 (by decide) (hts _ q_X0_forgetSearches_2) (fun _ h9 => h9) rfl (by decide +kernel) rfl rfl (Nat.le_of_ble_eq_true rfl) dX0_forgetSearches_5 (fun H locs hP hD hS => ?_)
  have hP : va_P D vwCl ([(a_this, .inr (0, [.int c_ro, .ref a_en, .ref a_wy, .ref a_sp, .ref a_mv, .ref a_A, .ref a_B, .ref a_C, .int c_pl, .int c_sz])), (a_A, .inr (1, [.ref a_A_le, .ref a_A_fo, .int c_A_to, .int ((-1) : Int32)])), (a_B, .inr (1, [.ref a_B_le, .ref a_B_fo, .int c_B_to, .int c_B_kn]))]) H := hP
  have hD : va_D A ([(a_this, .inr (0, [.int c_ro, .ref a_en, .ref a_wy, .ref a_sp, .ref a_mv, .ref a_A, .ref a_B, .ref a_C, .int c_pl, .int c_sz])), (a_A, .inr (1, [.ref a_A_le, .ref a_A_fo, .int c_A_to, .int ((-1) : Int32)])), (a_B, .inr (1, [.ref a_B_le, .ref a_B_fo, .int c_B_to, .int c_B_kn]))]) := hD
  refine lv_aload_n hx hb dX0_forgetSearches_8 rfl (lv_at hl 0 rfl) ?_
  refine va_get (D := D) (ci := 0) (v := .ref a_B) (C := RX0) (T := TX0) (N := 10) hx hb hts k_X0_forgetSearches_X0 hown hK hP 0 rfl rfl 6 (by decide) (hts _ q_X0_forgetSearches_3) (fun _ h9 => h9) rfl dX0_forgetSearches_9 ?_
  refine lv_iconst (v := (-1)) hx hb dX0_forgetSearches_12 (by decide) ?_
  refine va_put (D := D) (ci := 1) (v := .int (-1)) (ty := .int) (C := RX1) (T := TX1) (N := 4) hx hb hts k_X0_forgetSearches_X1 tyX1 tyX1_ok nmX1 hown hK hP hD hS 2 rfl rfl 3 (by decide) (hts _ q_X0_forgetSearches_2) (fun _ h9 => h9) rfl (by decide +kernel) rfl rfl (Nat.le_of_ble_eq_true rfl) dX0_forgetSearches_13 (fun H locs hP hD hS => ?_)
  have hP : va_P D vwCl ([(a_this, .inr (0, [.int c_ro, .ref a_en, .ref a_wy, .ref a_sp, .ref a_mv, .ref a_A, .ref a_B, .ref a_C, .int c_pl, .int c_sz])), (a_A, .inr (1, [.ref a_A_le, .ref a_A_fo, .int c_A_to, .int ((-1) : Int32)])), (a_B, .inr (1, [.ref a_B_le, .ref a_B_fo, .int c_B_to, .int ((-1) : Int32)]))]) H := hP
  have hD : va_D A ([(a_this, .inr (0, [.int c_ro, .ref a_en, .ref a_wy, .ref a_sp, .ref a_mv, .ref a_A, .ref a_B, .ref a_C, .int c_pl, .int c_sz])), (a_A, .inr (1, [.ref a_A_le, .ref a_A_fo, .int c_A_to, .int ((-1) : Int32)])), (a_B, .inr (1, [.ref a_B_le, .ref a_B_fo, .int c_B_to, .int ((-1) : Int32)]))]) := hD
  exact j_vret (fun u => [(a_this, .inr (0, [.int c_ro, .ref a_en, .ref a_wy, .ref a_sp, .ref a_mv, .ref a_A, .ref a_B, .ref a_C, .int c_pl, .int c_sz])), (a_A, .inr (1, [.ref a_A_le, .ref a_A_fo, .int c_A_to, .int u.1])), (a_B, .inr (1, [.ref a_B_le, .ref a_B_fo, .int c_B_to, .int u.2]))]) ((((-1) : Int32), ((-1) : Int32)) : Int32 × Int32) hx hb hr hlocks hK hP hD hS hw dX0_forgetSearches_16
theorem q_X0_linkTurn_1 : Cond.fieldLink RX0 21 "TwistedRow$Graph" "ends" "[[I" ∈ wsX0_linkTurn := List.mem_of_getElem? (i := 1) rfl
theorem k_X0_linkTurn_X0 : ∀ w ∈ wsX00, w ∈ wsX0_linkTurn := my_in _ [34, 35, 36, 37, 38, 39, 40, 41, 42, 43] (by decide +kernel)
theorem q_X0_linkTurn_2 : Cond.fieldLink RX0 28 "TwistedRow$Graph" "spots" "[I" ∈ wsX0_linkTurn := List.mem_of_getElem? (i := 2) rfl
theorem q_X0_linkTurn_3 : Cond.fieldLink RX0 52 "TwistedRow$Graph" "places" "I" ∈ wsX0_linkTurn := List.mem_of_getElem? (i := 3) rfl
theorem q_X0_linkTurn_7 : Cond.initialized RX2 ∈ wsX0_linkTurn := List.mem_of_getElem? (i := 7) rfl
theorem q_X0_linkTurn_6 : Cond.static yX2_setSolved ∈ wsX0_linkTurn := List.mem_of_getElem? (i := 6) rfl
theorem q_X0_linkTurn_4 : Cond.fieldLink RX0 55 "TwistedRow$Graph" "size" "I" ∈ wsX0_linkTurn := List.mem_of_getElem? (i := 4) rfl
theorem q_X0_linkTurn_5 : Cond.fieldLink RX0 31 "TwistedRow$Graph" "moved" "[I" ∈ wsX0_linkTurn := List.mem_of_getElem? (i := 5) rfl
theorem q_X0_linkTurn_9 : Cond.static yX2_codeOf ∈ wsX0_linkTurn := List.mem_of_getElem? (i := 9) rfl
def lp_X0_linkTurn_47 (c_a2 : Nat → Int32) (c_pl : Int32) (c_sp : Nat → Int32) (K78 : Int32 → (Nat → Int32) → Prop) : Nat → Int32 → (Nat → Int32) → Prop
  | 0, _, _ => False
  | N + 1, v_6, c_mv => ((c_pl ≤ v_6 → (K78 v_6 c_mv)) ∧ (¬ c_pl ≤ v_6 → (vp_in v_6 8 ∧ (vp_in (c_sp (v_6 : Int32).toNatClampNeg) 8 ∧ (vp_in v_6 8 ∧ (lp_X0_linkTurn_47 c_a2 c_pl c_sp K78 N (v_6 + 1) (upd c_mv ((v_6 : Int32).toNatClampNeg) (c_a2 (c_sp (v_6 : Int32).toNatClampNeg : Int32).toNatClampNeg))))))))
set_option maxHeartbeats 4000000 in
set_option maxRecDepth 100000 in
theorem l_X0_linkTurn_47 {p : Program} {l : Launch} {e : Env} {s : State} {m : MethodId} {args : Array Value} {below : List Frame} {meth : Method} {c : Code} {A : Nat → Prop} {D : va_G} {cy : Nat → ClassId} {Q : State → Prop} {a_this : Nat} {a_en : Nat} {a_wy : Nat} {a_sp : Nat} {a_mv : Nat} {a_A : Nat} {a_B : Nat} {a_C : Nat} {r_en : Nat → Nat} {a_A_le : Nat} {a_A_fo : Nat} {a_B_le : Nat} {a_B_fo : Nat} {a_a2 : Nat} {c_ro : Int32} {c_pl : Int32} {c_sz : Int32} {c_sp : Nat → Int32} {c_A_to : Int32} {c_A_kn : Int32} {c_B_to : Int32} {c_B_kn : Int32} {c_a2 : Nat → Int32} {c_en : Nat → Nat → Int32} {rm : Nat} {v_5 : Int32} {j_3 : Nat} {j_4 : Nat} {K78 : Int32 → (Nat → Int32) → Prop} (C0 : Cx p s m args c cX0_linkTurn yX0_linkTurn.cls 7 wsX0_linkTurn D cy A) (hE : EV A s s.heap) (hk_j_3 : j_3 < 12) (hk_j_4 : j_4 < 12)
    (k78 : ∀ (v_6 : Int32) (c_mv : Nat → Int32) (H : Heap) (locs : List Loc) (ls : Array Slot), K78 v_6 c_mv → va_P D vwCl ((HAppend.hAppend (α := va_W) (β := va_W) (γ := va_W) [(a_this, .inr (0, [.int c_ro, .ref a_en, .ref a_wy, .ref a_sp, .ref a_mv, .ref a_A, .ref a_B, .ref a_C, .int c_pl, .int c_sz])), (a_en, .inl (cy 3, 12, .inr (.inr (.inr (.inr (rowsF r_en)))))), (a_sp, .inl (cy 0, 8, .inl c_sp)), (a_mv, .inl (cy 0, 8, .inl c_mv)), (a_A, .inr (1, [.ref a_A_le, .ref a_A_fo, .int c_A_to, .int c_A_kn])), (a_B, .inr (1, [.ref a_B_le, .ref a_B_fo, .int c_B_to, .int c_B_kn])), (a_a2, .inl (cy 0, 8, .inl c_a2))] (rowsW (cy 0) r_en rm c_en))) H → va_D A ((HAppend.hAppend (α := va_W) (β := va_W) (γ := va_W) [(a_this, .inr (0, [.int c_ro, .ref a_en, .ref a_wy, .ref a_sp, .ref a_mv, .ref a_A, .ref a_B, .ref a_C, .int c_pl, .int c_sz])), (a_en, .inl (cy 3, 12, .inr (.inr (.inr (.inr (rowsF r_en)))))), (a_sp, .inl (cy 0, 8, .inl c_sp)), (a_mv, .inl (cy 0, 8, .inl c_mv)), (a_A, .inr (1, [.ref a_A_le, .ref a_A_fo, .int c_A_to, .int c_A_kn])), (a_B, .inr (1, [.ref a_B_le, .ref a_B_fo, .int c_B_to, .int c_B_kn])), (a_a2, .inl (cy 0, 8, .inl c_a2))] (rowsW (cy 0) r_en rm c_en))) → va_S A s.heap H locs → lv_has ls 7 [(0, .ref a_this), (2, .ref a_a2), (3, .ref (r_en j_3)), (4, .ref (r_en j_4)), (5, .int v_5)] → W p l e (({ frames := 2, cells := 0, slots := 0, locals := 47 } : Room)) s m args below meth c H locs 0 0 Q (F0 m 78 ls [])) :
    ∀ (N : Nat) (v_6 : Int32) (c_mv : Nat → Int32) (H : Heap) (locs : List Loc) (ls : Array Slot), lp_X0_linkTurn_47 c_a2 c_pl c_sp K78 N v_6 c_mv → va_P D vwCl ((HAppend.hAppend (α := va_W) (β := va_W) (γ := va_W) [(a_this, .inr (0, [.int c_ro, .ref a_en, .ref a_wy, .ref a_sp, .ref a_mv, .ref a_A, .ref a_B, .ref a_C, .int c_pl, .int c_sz])), (a_en, .inl (cy 3, 12, .inr (.inr (.inr (.inr (rowsF r_en)))))), (a_sp, .inl (cy 0, 8, .inl c_sp)), (a_mv, .inl (cy 0, 8, .inl c_mv)), (a_A, .inr (1, [.ref a_A_le, .ref a_A_fo, .int c_A_to, .int c_A_kn])), (a_B, .inr (1, [.ref a_B_le, .ref a_B_fo, .int c_B_to, .int c_B_kn])), (a_a2, .inl (cy 0, 8, .inl c_a2))] (rowsW (cy 0) r_en rm c_en))) H → va_D A ((HAppend.hAppend (α := va_W) (β := va_W) (γ := va_W) [(a_this, .inr (0, [.int c_ro, .ref a_en, .ref a_wy, .ref a_sp, .ref a_mv, .ref a_A, .ref a_B, .ref a_C, .int c_pl, .int c_sz])), (a_en, .inl (cy 3, 12, .inr (.inr (.inr (.inr (rowsF r_en)))))), (a_sp, .inl (cy 0, 8, .inl c_sp)), (a_mv, .inl (cy 0, 8, .inl c_mv)), (a_A, .inr (1, [.ref a_A_le, .ref a_A_fo, .int c_A_to, .int c_A_kn])), (a_B, .inr (1, [.ref a_B_le, .ref a_B_fo, .int c_B_to, .int c_B_kn])), (a_a2, .inl (cy 0, 8, .inl c_a2))] (rowsW (cy 0) r_en rm c_en))) → va_S A s.heap H locs → lv_has ls 7 [(0, .ref a_this), (2, .ref a_a2), (3, .ref (r_en j_3)), (4, .ref (r_en j_4)), (5, .int v_5), (6, .int v_6)] → W p l e (({ frames := 2, cells := 0, slots := 0, locals := 47 } : Room)) s m args below meth c H locs 0 0 Q (F0 m 47 ls []) := by
  obtain ⟨hx, hb, hml, hown, hts, hK, hA⟩ := id C0
  obtain ⟨tF, hFZ, hFT⟩ := hE.2.2.2.2.2.2.2.2.2
  intro N
  induction N with
  | zero =>
    intro v_6 c_mv H locs ls hw
    exact False.elim hw
  | succ N ih =>
    intro v_6 c_mv H locs ls hw hP hD hS hl
    rw [lp_X0_linkTurn_47] at hw
    refine lv_iload hx hb dX0_linkTurn_47 (lv_at hl 5 rfl) ?_
    refine lv_aload_n hx hb dX0_linkTurn_49 rfl (lv_at hl 0 rfl) ?_
    refine va_get (D := D) (ci := 0) (v := .int c_pl) (C := RX0) (T := TX0) (N := 10) hx hb hts k_X0_linkTurn_X0 hown hK hP 0 rfl rfl 8 (by decide) (hts _ q_X0_linkTurn_3) (fun _ h9 => h9) rfl dX0_linkTurn_50 ?_
    refine lv_icmp_ge (tgt := 78) hx hb dX0_linkTurn_53 (by decide) (fun c_5 => ?_) (fun c_5 => ?_)
    · replace hw := hw.1 c_5
      exact k78 _ _ _ _ _ hw hP hD hS (lv_sub hl [0, 1, 2, 3, 4] rfl)
    · replace hw := hw.2 c_5
      refine lv_aload_n hx hb dX0_linkTurn_56 rfl (lv_at hl 0 rfl) ?_
      refine va_get (D := D) (ci := 0) (v := .ref a_mv) (C := RX0) (T := TX0) (N := 10) hx hb hts k_X0_linkTurn_X0 hown hK hP 0 rfl rfl 4 (by decide) (hts _ q_X0_linkTurn_5) (fun _ h9 => h9) rfl dX0_linkTurn_57 ?_
      refine lv_iload hx hb dX0_linkTurn_60 (lv_at hl 5 rfl) ?_
      refine lv_aload_n hx hb dX0_linkTurn_62 rfl (lv_at hl 1 rfl) ?_
      refine lv_aload_n hx hb dX0_linkTurn_63 rfl (lv_at hl 0 rfl) ?_
      refine va_get (D := D) (ci := 0) (v := .ref a_sp) (C := RX0) (T := TX0) (N := 10) hx hb hts k_X0_linkTurn_X0 hown hK hP 0 rfl rfl 3 (by decide) (hts _ q_X0_linkTurn_2) (fun _ h9 => h9) rfl dX0_linkTurn_64 ?_
      refine lv_iload hx hb dX0_linkTurn_67 (lv_at hl 5 rfl) ?_
      obtain ⟨h_6, hw⟩ := hw
      refine va_iald hx hb hK hP 2 0 rfl rfl h_6 dX0_linkTurn_69 ?_
      obtain ⟨h_7, hw⟩ := hw
      refine va_iald hx hb hK hP 6 0 rfl rfl h_7 dX0_linkTurn_70 ?_
      obtain ⟨h_8, hw⟩ := hw
      refine va_iast hx hb hK hP hD hS 3 0 rfl rfl h_8 dX0_linkTurn_71 (fun H locs hP hD hS => ?_)
      have hP : va_P D vwCl ((HAppend.hAppend (α := va_W) (β := va_W) (γ := va_W) [(a_this, .inr (0, [.int c_ro, .ref a_en, .ref a_wy, .ref a_sp, .ref a_mv, .ref a_A, .ref a_B, .ref a_C, .int c_pl, .int c_sz])), (a_en, .inl (cy 3, 12, .inr (.inr (.inr (.inr (rowsF r_en)))))), (a_sp, .inl (cy 0, 8, .inl c_sp)), (a_mv, .inl (cy 0, 8, .inl (upd c_mv ((v_6 : Int32).toNatClampNeg) (c_a2 (c_sp (v_6 : Int32).toNatClampNeg : Int32).toNatClampNeg)))), (a_A, .inr (1, [.ref a_A_le, .ref a_A_fo, .int c_A_to, .int c_A_kn])), (a_B, .inr (1, [.ref a_B_le, .ref a_B_fo, .int c_B_to, .int c_B_kn])), (a_a2, .inl (cy 0, 8, .inl c_a2))] (rowsW (cy 0) r_en rm c_en))) H := hP
      have hD : va_D A ((HAppend.hAppend (α := va_W) (β := va_W) (γ := va_W) [(a_this, .inr (0, [.int c_ro, .ref a_en, .ref a_wy, .ref a_sp, .ref a_mv, .ref a_A, .ref a_B, .ref a_C, .int c_pl, .int c_sz])), (a_en, .inl (cy 3, 12, .inr (.inr (.inr (.inr (rowsF r_en)))))), (a_sp, .inl (cy 0, 8, .inl c_sp)), (a_mv, .inl (cy 0, 8, .inl (upd c_mv ((v_6 : Int32).toNatClampNeg) (c_a2 (c_sp (v_6 : Int32).toNatClampNeg : Int32).toNatClampNeg)))), (a_A, .inr (1, [.ref a_A_le, .ref a_A_fo, .int c_A_to, .int c_A_kn])), (a_B, .inr (1, [.ref a_B_le, .ref a_B_fo, .int c_B_to, .int c_B_kn])), (a_a2, .inl (cy 0, 8, .inl c_a2))] (rowsW (cy 0) r_en rm c_en))) := hD
      refine lv_iinc (v := v_6 + 1) (lv' := [(6, .int (v_6 + 1)), (0, .ref a_this), (2, .ref a_a2), (3, .ref (r_en j_3)), (4, .ref (r_en j_4)), (5, .int v_5)]) hx hb dX0_linkTurn_72 hl (k := 5) rfl rfl (by decide) rfl (fun ls hl => ?_)
      refine lv_goto (tgt := 47) hx hb dX0_linkTurn_75 (by decide) ?_
      exact ih _ _ _ _ _ hw hP hD hS (lv_sub hl [1, 2, 3, 4, 5, 0] rfl)
def lp_X0_linkTurn_35 (c_a2 : Nat → Int32) (c_pl : Int32) (c_sz : Int32) (j_3 : Nat) (j_4 : Nat) (rm : Nat) (K114 : Int32 → (Nat → Int32) → (Nat → Int32) → (Nat → Nat → Int32) → Prop) : Nat → Int32 → (Nat → Int32) → (Nat → Int32) → (Nat → Nat → Int32) → Prop
  | 0, _, _, _, _ => False
  | N + 1, v_5, c_sp, c_mv, c_en => ((c_sz ≤ v_5 → (K114 v_5 c_sp c_mv c_en)) ∧ (¬ c_sz ≤ v_5 → (∃ N_9 : Nat, lp_X0_linkTurn_47 c_a2 c_pl c_sp (fun (v_10 : Int32) (c_11 : Nat → Int32) => (wp_X2_codeOf c_11 c_pl (fun r_13 u_12 => (vp_in v_5 rm ∧ (vp_in r_13 rm ∧ (wp_X0_advanceSpots c_pl c_sp (fun u_16 => (lp_X0_linkTurn_35 c_a2 c_pl c_sz j_3 j_4 rm K114 N (v_5 + 1) u_16 c_11 (rowsU (rowsU c_en j_3 (upd (c_en j_3) (v_5 : Int32).toNatClampNeg r_13)) j_4 (upd ((rowsU c_en j_3 (upd (c_en j_3) (v_5 : Int32).toNatClampNeg r_13)) j_4) (r_13 : Int32).toNatClampNeg v_5)))))))))) N_9 0 c_mv)))
set_option maxHeartbeats 4000000 in
set_option maxRecDepth 100000 in
theorem l_X0_linkTurn_35 {p : Program} {l : Launch} {e : Env} {s : State} {m : MethodId} {args : Array Value} {below : List Frame} {meth : Method} {c : Code} {A : Nat → Prop} {D : va_G} {cy : Nat → ClassId} {Q : State → Prop} {a_this : Nat} {a_en : Nat} {a_wy : Nat} {a_sp : Nat} {a_mv : Nat} {a_A : Nat} {a_B : Nat} {a_C : Nat} {r_en : Nat → Nat} {a_A_le : Nat} {a_A_fo : Nat} {a_B_le : Nat} {a_B_fo : Nat} {a_a2 : Nat} {c_ro : Int32} {c_pl : Int32} {c_sz : Int32} {c_A_to : Int32} {c_A_kn : Int32} {c_B_to : Int32} {c_B_kn : Int32} {c_a2 : Nat → Int32} {rm : Nat} {j_3 : Nat} {j_4 : Nat} {K114 : Int32 → (Nat → Int32) → (Nat → Int32) → (Nat → Nat → Int32) → Prop} (C0 : Cx p s m args c cX0_linkTurn yX0_linkTurn.cls 7 wsX0_linkTurn D cy A) (hE : EV A s s.heap) (hk_j_3 : j_3 < 12) (hk_j_4 : j_4 < 12)
    (k114 : ∀ (v_5 : Int32) (c_sp : Nat → Int32) (c_mv : Nat → Int32) (c_en : Nat → Nat → Int32) (H : Heap) (locs : List Loc) (ls : Array Slot), K114 v_5 c_sp c_mv c_en → va_P D vwCl ((HAppend.hAppend (α := va_W) (β := va_W) (γ := va_W) [(a_this, .inr (0, [.int c_ro, .ref a_en, .ref a_wy, .ref a_sp, .ref a_mv, .ref a_A, .ref a_B, .ref a_C, .int c_pl, .int c_sz])), (a_en, .inl (cy 3, 12, .inr (.inr (.inr (.inr (rowsF r_en)))))), (a_sp, .inl (cy 0, 8, .inl c_sp)), (a_mv, .inl (cy 0, 8, .inl c_mv)), (a_A, .inr (1, [.ref a_A_le, .ref a_A_fo, .int c_A_to, .int c_A_kn])), (a_B, .inr (1, [.ref a_B_le, .ref a_B_fo, .int c_B_to, .int c_B_kn])), (a_a2, .inl (cy 0, 8, .inl c_a2))] (rowsW (cy 0) r_en rm c_en))) H → va_D A ((HAppend.hAppend (α := va_W) (β := va_W) (γ := va_W) [(a_this, .inr (0, [.int c_ro, .ref a_en, .ref a_wy, .ref a_sp, .ref a_mv, .ref a_A, .ref a_B, .ref a_C, .int c_pl, .int c_sz])), (a_en, .inl (cy 3, 12, .inr (.inr (.inr (.inr (rowsF r_en)))))), (a_sp, .inl (cy 0, 8, .inl c_sp)), (a_mv, .inl (cy 0, 8, .inl c_mv)), (a_A, .inr (1, [.ref a_A_le, .ref a_A_fo, .int c_A_to, .int c_A_kn])), (a_B, .inr (1, [.ref a_B_le, .ref a_B_fo, .int c_B_to, .int c_B_kn])), (a_a2, .inl (cy 0, 8, .inl c_a2))] (rowsW (cy 0) r_en rm c_en))) → va_S A s.heap H locs → lv_has ls 7 [(0, .ref a_this)] → W p l e (({ frames := 2, cells := 0, slots := 0, locals := 47 } : Room)) s m args below meth c H locs 0 0 Q (F0 m 114 ls [])) :
    ∀ (N : Nat) (v_5 : Int32) (c_sp : Nat → Int32) (c_mv : Nat → Int32) (c_en : Nat → Nat → Int32) (H : Heap) (locs : List Loc) (ls : Array Slot), lp_X0_linkTurn_35 c_a2 c_pl c_sz j_3 j_4 rm K114 N v_5 c_sp c_mv c_en → va_P D vwCl ((HAppend.hAppend (α := va_W) (β := va_W) (γ := va_W) [(a_this, .inr (0, [.int c_ro, .ref a_en, .ref a_wy, .ref a_sp, .ref a_mv, .ref a_A, .ref a_B, .ref a_C, .int c_pl, .int c_sz])), (a_en, .inl (cy 3, 12, .inr (.inr (.inr (.inr (rowsF r_en)))))), (a_sp, .inl (cy 0, 8, .inl c_sp)), (a_mv, .inl (cy 0, 8, .inl c_mv)), (a_A, .inr (1, [.ref a_A_le, .ref a_A_fo, .int c_A_to, .int c_A_kn])), (a_B, .inr (1, [.ref a_B_le, .ref a_B_fo, .int c_B_to, .int c_B_kn])), (a_a2, .inl (cy 0, 8, .inl c_a2))] (rowsW (cy 0) r_en rm c_en))) H → va_D A ((HAppend.hAppend (α := va_W) (β := va_W) (γ := va_W) [(a_this, .inr (0, [.int c_ro, .ref a_en, .ref a_wy, .ref a_sp, .ref a_mv, .ref a_A, .ref a_B, .ref a_C, .int c_pl, .int c_sz])), (a_en, .inl (cy 3, 12, .inr (.inr (.inr (.inr (rowsF r_en)))))), (a_sp, .inl (cy 0, 8, .inl c_sp)), (a_mv, .inl (cy 0, 8, .inl c_mv)), (a_A, .inr (1, [.ref a_A_le, .ref a_A_fo, .int c_A_to, .int c_A_kn])), (a_B, .inr (1, [.ref a_B_le, .ref a_B_fo, .int c_B_to, .int c_B_kn])), (a_a2, .inl (cy 0, 8, .inl c_a2))] (rowsW (cy 0) r_en rm c_en))) → va_S A s.heap H locs → lv_has ls 7 [(0, .ref a_this), (2, .ref a_a2), (3, .ref (r_en j_3)), (4, .ref (r_en j_4)), (5, .int v_5)] → W p l e (({ frames := 2, cells := 0, slots := 0, locals := 47 } : Room)) s m args below meth c H locs 0 0 Q (F0 m 35 ls []) := by
  obtain ⟨hx, hb, hml, hown, hts, hK, hA⟩ := id C0
  obtain ⟨tF, hFZ, hFT⟩ := hE.2.2.2.2.2.2.2.2.2
  intro N
  induction N with
  | zero =>
    intro v_5 c_sp c_mv c_en H locs ls hw
    exact False.elim hw
  | succ N ih =>
    intro v_5 c_sp c_mv c_en H locs ls hw hP hD hS hl
    rw [lp_X0_linkTurn_35] at hw
    refine lv_iload hx hb dX0_linkTurn_35 (lv_at hl 4 rfl) ?_
    refine lv_aload_n hx hb dX0_linkTurn_37 rfl (lv_at hl 0 rfl) ?_
    refine va_get (D := D) (ci := 0) (v := .int c_sz) (C := RX0) (T := TX0) (N := 10) hx hb hts k_X0_linkTurn_X0 hown hK hP 0 rfl rfl 9 (by decide) (hts _ q_X0_linkTurn_4) (fun _ h9 => h9) rfl dX0_linkTurn_38 ?_
    refine lv_icmp_ge (tgt := 114) hx hb dX0_linkTurn_41 (by decide) (fun c_4 => ?_) (fun c_4 => ?_)
    · replace hw := hw.1 c_4
      exact k114 _ _ _ _ _ _ _ hw hP hD hS (lv_sub hl [0] rfl)
    · replace hw := hw.2 c_4
      refine lv_iconst (v := 0) hx hb dX0_linkTurn_44 (by decide) ?_
      refine lv_istore (lv' := [(6, .int 0), (0, .ref a_this), (2, .ref a_a2), (3, .ref (r_en j_3)), (4, .ref (r_en j_4)), (5, .int v_5)]) hx hb dX0_linkTurn_45 hl (by decide) rfl (fun ls hl => ?_)
      obtain ⟨N_9, hw⟩ := hw
      refine l_X0_linkTurn_47 C0 hE hk_j_3 hk_j_4 (fun v_10 c_11 H locs ls hw hP hD hS hl => ?_) _ _ _ _ _ _ hw hP hD hS (lv_sub hl [1, 2, 3, 4, 5, 0] rfl)
      refine lv_aload_n hx hb dX0_linkTurn_78 rfl (lv_at hl 0 rfl) ?_
      refine va_get (D := D) (ci := 0) (v := .ref a_mv) (C := RX0) (T := TX0) (N := 10) hx hb hts k_X0_linkTurn_X0 hown hK hP 0 rfl rfl 4 (by decide) (hts _ q_X0_linkTurn_5) (fun _ h9 => h9) rfl dX0_linkTurn_79 ?_
      refine lv_aload_n hx hb dX0_linkTurn_82 rfl (lv_at hl 0 rfl) ?_
      refine va_get (D := D) (ci := 0) (v := .int c_pl) (C := RX0) (T := TX0) (N := 10) hx hb hts k_X0_linkTurn_X0 hown hK hP 0 rfl rfl 8 (by decide) (hts _ q_X0_linkTurn_3) (fun _ h9 => h9) rfl dX0_linkTurn_83 ?_
      refine j_calli (wr := (HAppend.hAppend (α := va_W) (β := va_W) (γ := va_W) [(a_this, .inr (0, [.int c_ro, .ref a_en, .ref a_wy, .ref a_sp, .ref a_mv, .ref a_A, .ref a_B, .ref a_C, .int c_pl, .int c_sz])), (a_en, .inl (cy 3, 12, .inr (.inr (.inr (.inr (rowsF r_en)))))), (a_sp, .inl (cy 0, 8, .inl c_sp)), (a_A, .inr (1, [.ref a_A_le, .ref a_A_fo, .int c_A_to, .int c_A_kn])), (a_B, .inr (1, [.ref a_B_le, .ref a_B_fo, .int c_B_to, .int c_B_kn])), (a_a2, .inl (cy 0, 8, .inl c_a2))] (rowsW (cy 0) r_en rm c_en))) (va_runSN (As := [.ref a_mv, .int c_pl]) (rest := []) ⟨hx, hb, hml, hown, hts⟩ (c_X2_codeOf l D cy a_mv c_11 c_pl hw H.size) ⟨va_cnB 2 hts gX0_linkTurn_X2_codeOf_n65 rfl rfl rfl hE.2.2.1 (hts _ q_X0_linkTurn_7) (by decide +kernel) ⟨Nat.le_of_ble_eq_true rfl, Nat.le_of_ble_eq_true rfl⟩, hts _ q_X0_linkTurn_9, trivial⟩ (j_preS hK hP hD (isC := [3]) rfl (by decide +kernel)) rfl rfl hl.1 rfl (lv_room (Nat.le_of_ble_eq_true rfl)) dX0_linkTurn_86 ⟨Nat.le_of_ble_eq_true rfl, Nat.le_of_ble_eq_true rfl⟩) hP hD hS hA [3] [0, 1, 2, 4, 5, 6, 7, 8, 9, 10, 11, 12, 13, 14, 15, 16, 17, 18] rfl rfl (by decide +kernel) (by decide +kernel) (fun u_12 => (HAppend.hAppend (α := va_W) (β := va_W) (γ := va_W) [(a_this, .inr (0, [.int c_ro, .ref a_en, .ref a_wy, .ref a_sp, .ref a_mv, .ref a_A, .ref a_B, .ref a_C, .int c_pl, .int c_sz])), (a_en, .inl (cy 3, 12, .inr (.inr (.inr (.inr (rowsF r_en)))))), (a_sp, .inl (cy 0, 8, .inl c_sp)), (a_mv, .inl (cy 0, 8, .inl c_11)), (a_A, .inr (1, [.ref a_A_le, .ref a_A_fo, .int c_A_to, .int c_A_kn])), (a_B, .inr (1, [.ref a_B_le, .ref a_B_fo, .int c_B_to, .int c_B_kn])), (a_a2, .inl (cy 0, 8, .inl c_a2))] (rowsW (cy 0) r_en rm c_en))) [0, 1, 2, 18, 3, 4, 5, 6, 7, 8, 9, 10, 11, 12, 13, 14, 15, 16, 17] (by decide +kernel) (fun u => rfl) (fun r_13 u_12 H locs hw hP hD hS => ?_)
      have hP : va_P D vwCl ((HAppend.hAppend (α := va_W) (β := va_W) (γ := va_W) [(a_this, .inr (0, [.int c_ro, .ref a_en, .ref a_wy, .ref a_sp, .ref a_mv, .ref a_A, .ref a_B, .ref a_C, .int c_pl, .int c_sz])), (a_en, .inl (cy 3, 12, .inr (.inr (.inr (.inr (rowsF r_en)))))), (a_sp, .inl (cy 0, 8, .inl c_sp)), (a_mv, .inl (cy 0, 8, .inl c_11)), (a_A, .inr (1, [.ref a_A_le, .ref a_A_fo, .int c_A_to, .int c_A_kn])), (a_B, .inr (1, [.ref a_B_le, .ref a_B_fo, .int c_B_to, .int c_B_kn])), (a_a2, .inl (cy 0, 8, .inl c_a2))] (rowsW (cy 0) r_en rm c_en))) H := hP
      have hD : va_D A ((HAppend.hAppend (α := va_W) (β := va_W) (γ := va_W) [(a_this, .inr (0, [.int c_ro, .ref a_en, .ref a_wy, .ref a_sp, .ref a_mv, .ref a_A, .ref a_B, .ref a_C, .int c_pl, .int c_sz])), (a_en, .inl (cy 3, 12, .inr (.inr (.inr (.inr (rowsF r_en)))))), (a_sp, .inl (cy 0, 8, .inl c_sp)), (a_mv, .inl (cy 0, 8, .inl c_11)), (a_A, .inr (1, [.ref a_A_le, .ref a_A_fo, .int c_A_to, .int c_A_kn])), (a_B, .inr (1, [.ref a_B_le, .ref a_B_fo, .int c_B_to, .int c_B_kn])), (a_a2, .inl (cy 0, 8, .inl c_a2))] (rowsW (cy 0) r_en rm c_en))) := hD
      refine lv_istore (lv' := [(6, .int r_13), (0, .ref a_this), (2, .ref a_a2), (3, .ref (r_en j_3)), (4, .ref (r_en j_4)), (5, .int v_5)]) hx hb dX0_linkTurn_89 hl (by decide) rfl (fun ls hl => ?_)
      refine lv_aload_n hx hb dX0_linkTurn_91 rfl (lv_at hl 3 rfl) ?_
      refine lv_iload hx hb dX0_linkTurn_92 (lv_at hl 5 rfl) ?_
      refine lv_iload hx hb dX0_linkTurn_94 (lv_at hl 0 rfl) ?_
      obtain ⟨h_14, hw⟩ := hw
      refine va_iast hx hb hK hP hD hS _ 0 (rowsW_get _ _ _ _ _ hk_j_3) rfl h_14 dX0_linkTurn_96 (fun H locs hP hD hS => ?_)
      rw [rowsW_set _ _ _ _ _ _ hk_j_3] at hP hD
      have hP : va_P D vwCl ((HAppend.hAppend (α := va_W) (β := va_W) (γ := va_W) [(a_this, .inr (0, [.int c_ro, .ref a_en, .ref a_wy, .ref a_sp, .ref a_mv, .ref a_A, .ref a_B, .ref a_C, .int c_pl, .int c_sz])), (a_en, .inl (cy 3, 12, .inr (.inr (.inr (.inr (rowsF r_en)))))), (a_sp, .inl (cy 0, 8, .inl c_sp)), (a_mv, .inl (cy 0, 8, .inl c_11)), (a_A, .inr (1, [.ref a_A_le, .ref a_A_fo, .int c_A_to, .int c_A_kn])), (a_B, .inr (1, [.ref a_B_le, .ref a_B_fo, .int c_B_to, .int c_B_kn])), (a_a2, .inl (cy 0, 8, .inl c_a2))] (rowsW (cy 0) r_en rm (rowsU c_en j_3 (upd (c_en j_3) (v_5 : Int32).toNatClampNeg r_13))))) H := hP
      have hD : va_D A ((HAppend.hAppend (α := va_W) (β := va_W) (γ := va_W) [(a_this, .inr (0, [.int c_ro, .ref a_en, .ref a_wy, .ref a_sp, .ref a_mv, .ref a_A, .ref a_B, .ref a_C, .int c_pl, .int c_sz])), (a_en, .inl (cy 3, 12, .inr (.inr (.inr (.inr (rowsF r_en)))))), (a_sp, .inl (cy 0, 8, .inl c_sp)), (a_mv, .inl (cy 0, 8, .inl c_11)), (a_A, .inr (1, [.ref a_A_le, .ref a_A_fo, .int c_A_to, .int c_A_kn])), (a_B, .inr (1, [.ref a_B_le, .ref a_B_fo, .int c_B_to, .int c_B_kn])), (a_a2, .inl (cy 0, 8, .inl c_a2))] (rowsW (cy 0) r_en rm (rowsU c_en j_3 (upd (c_en j_3) (v_5 : Int32).toNatClampNeg r_13))))) := hD
      refine lv_aload hx hb dX0_linkTurn_97 (lv_at hl 4 rfl) ?_
      refine lv_iload hx hb dX0_linkTurn_99 (lv_at hl 0 rfl) ?_
      refine lv_iload hx hb dX0_linkTurn_101 (lv_at hl 5 rfl) ?_
      obtain ⟨h_15, hw⟩ := hw
      refine va_iast hx hb hK hP hD hS _ 0 (rowsW_get _ _ _ _ _ hk_j_4) rfl h_15 dX0_linkTurn_103 (fun H locs hP hD hS => ?_)
      rw [rowsW_set _ _ _ _ _ _ hk_j_4] at hP hD
      have hP : va_P D vwCl ((HAppend.hAppend (α := va_W) (β := va_W) (γ := va_W) [(a_this, .inr (0, [.int c_ro, .ref a_en, .ref a_wy, .ref a_sp, .ref a_mv, .ref a_A, .ref a_B, .ref a_C, .int c_pl, .int c_sz])), (a_en, .inl (cy 3, 12, .inr (.inr (.inr (.inr (rowsF r_en)))))), (a_sp, .inl (cy 0, 8, .inl c_sp)), (a_mv, .inl (cy 0, 8, .inl c_11)), (a_A, .inr (1, [.ref a_A_le, .ref a_A_fo, .int c_A_to, .int c_A_kn])), (a_B, .inr (1, [.ref a_B_le, .ref a_B_fo, .int c_B_to, .int c_B_kn])), (a_a2, .inl (cy 0, 8, .inl c_a2))] (rowsW (cy 0) r_en rm (rowsU (rowsU c_en j_3 (upd (c_en j_3) (v_5 : Int32).toNatClampNeg r_13)) j_4 (upd ((rowsU c_en j_3 (upd (c_en j_3) (v_5 : Int32).toNatClampNeg r_13)) j_4) (r_13 : Int32).toNatClampNeg v_5))))) H := hP
      have hD : va_D A ((HAppend.hAppend (α := va_W) (β := va_W) (γ := va_W) [(a_this, .inr (0, [.int c_ro, .ref a_en, .ref a_wy, .ref a_sp, .ref a_mv, .ref a_A, .ref a_B, .ref a_C, .int c_pl, .int c_sz])), (a_en, .inl (cy 3, 12, .inr (.inr (.inr (.inr (rowsF r_en)))))), (a_sp, .inl (cy 0, 8, .inl c_sp)), (a_mv, .inl (cy 0, 8, .inl c_11)), (a_A, .inr (1, [.ref a_A_le, .ref a_A_fo, .int c_A_to, .int c_A_kn])), (a_B, .inr (1, [.ref a_B_le, .ref a_B_fo, .int c_B_to, .int c_B_kn])), (a_a2, .inl (cy 0, 8, .inl c_a2))] (rowsW (cy 0) r_en rm (rowsU (rowsU c_en j_3 (upd (c_en j_3) (v_5 : Int32).toNatClampNeg r_13)) j_4 (upd ((rowsU c_en j_3 (upd (c_en j_3) (v_5 : Int32).toNatClampNeg r_13)) j_4) (r_13 : Int32).toNatClampNeg v_5))))) := hD
      refine lv_aload_n hx hb dX0_linkTurn_104 rfl (lv_at hl 1 rfl) ?_
      refine j_callv (wr := (HAppend.hAppend (α := va_W) (β := va_W) (γ := va_W) [(a_en, .inl (cy 3, 12, .inr (.inr (.inr (.inr (rowsF r_en)))))), (a_mv, .inl (cy 0, 8, .inl c_11)), (a_A, .inr (1, [.ref a_A_le, .ref a_A_fo, .int c_A_to, .int c_A_kn])), (a_B, .inr (1, [.ref a_B_le, .ref a_B_fo, .int c_B_to, .int c_B_kn])), (a_a2, .inl (cy 0, 8, .inl c_a2))] (rowsW (cy 0) r_en rm (rowsU (rowsU c_en j_3 (upd (c_en j_3) (v_5 : Int32).toNatClampNeg r_13)) j_4 (upd ((rowsU c_en j_3 (upd (c_en j_3) (v_5 : Int32).toNatClampNeg r_13)) j_4) (r_13 : Int32).toNatClampNeg v_5))))) (va_runV (As := []) (rest := []) ⟨hx, hb, hml, hown, hts⟩ (c_X0_advanceSpots l D cy a_this a_en a_wy a_sp a_mv a_A a_B a_C c_ro c_pl c_sz c_sp hw H.size) (cwV 0 hts gX0_linkTurn_X0_advanceSpots rfl rfl rfl (by decide +kernel) ⟨Nat.le_of_ble_eq_true rfl, Nat.le_of_ble_eq_true rfl⟩) (j_preV hK hP hD (isC := [0, 2]) rfl (by decide +kernel) (ci := 0) (q0 := 0) rfl rfl) rfl rfl hl.1 rfl (lv_room (Nat.le_of_ble_eq_true rfl)) dX0_linkTurn_105 ⟨Nat.le_of_ble_eq_true rfl, Nat.le_of_ble_eq_true rfl⟩) hP hD hS hA [0, 2] [1, 3, 4, 5, 6, 7, 8, 9, 10, 11, 12, 13, 14, 15, 16, 17, 18] rfl rfl (by decide +kernel) (by decide +kernel) (fun u_16 => (HAppend.hAppend (α := va_W) (β := va_W) (γ := va_W) [(a_this, .inr (0, [.int c_ro, .ref a_en, .ref a_wy, .ref a_sp, .ref a_mv, .ref a_A, .ref a_B, .ref a_C, .int c_pl, .int c_sz])), (a_en, .inl (cy 3, 12, .inr (.inr (.inr (.inr (rowsF r_en)))))), (a_sp, .inl (cy 0, 8, .inl u_16)), (a_mv, .inl (cy 0, 8, .inl c_11)), (a_A, .inr (1, [.ref a_A_le, .ref a_A_fo, .int c_A_to, .int c_A_kn])), (a_B, .inr (1, [.ref a_B_le, .ref a_B_fo, .int c_B_to, .int c_B_kn])), (a_a2, .inl (cy 0, 8, .inl c_a2))] (rowsW (cy 0) r_en rm (rowsU (rowsU c_en j_3 (upd (c_en j_3) (v_5 : Int32).toNatClampNeg r_13)) j_4 (upd ((rowsU c_en j_3 (upd (c_en j_3) (v_5 : Int32).toNatClampNeg r_13)) j_4) (r_13 : Int32).toNatClampNeg v_5))))) [17, 0, 18, 1, 2, 3, 4, 5, 6, 7, 8, 9, 10, 11, 12, 13, 14, 15, 16] (by decide +kernel) (fun u => rfl) (fun u_16 H locs hw hP hD hS => ?_)
      have hP : va_P D vwCl ((HAppend.hAppend (α := va_W) (β := va_W) (γ := va_W) [(a_this, .inr (0, [.int c_ro, .ref a_en, .ref a_wy, .ref a_sp, .ref a_mv, .ref a_A, .ref a_B, .ref a_C, .int c_pl, .int c_sz])), (a_en, .inl (cy 3, 12, .inr (.inr (.inr (.inr (rowsF r_en)))))), (a_sp, .inl (cy 0, 8, .inl u_16)), (a_mv, .inl (cy 0, 8, .inl c_11)), (a_A, .inr (1, [.ref a_A_le, .ref a_A_fo, .int c_A_to, .int c_A_kn])), (a_B, .inr (1, [.ref a_B_le, .ref a_B_fo, .int c_B_to, .int c_B_kn])), (a_a2, .inl (cy 0, 8, .inl c_a2))] (rowsW (cy 0) r_en rm (rowsU (rowsU c_en j_3 (upd (c_en j_3) (v_5 : Int32).toNatClampNeg r_13)) j_4 (upd ((rowsU c_en j_3 (upd (c_en j_3) (v_5 : Int32).toNatClampNeg r_13)) j_4) (r_13 : Int32).toNatClampNeg v_5))))) H := hP
      have hD : va_D A ((HAppend.hAppend (α := va_W) (β := va_W) (γ := va_W) [(a_this, .inr (0, [.int c_ro, .ref a_en, .ref a_wy, .ref a_sp, .ref a_mv, .ref a_A, .ref a_B, .ref a_C, .int c_pl, .int c_sz])), (a_en, .inl (cy 3, 12, .inr (.inr (.inr (.inr (rowsF r_en)))))), (a_sp, .inl (cy 0, 8, .inl u_16)), (a_mv, .inl (cy 0, 8, .inl c_11)), (a_A, .inr (1, [.ref a_A_le, .ref a_A_fo, .int c_A_to, .int c_A_kn])), (a_B, .inr (1, [.ref a_B_le, .ref a_B_fo, .int c_B_to, .int c_B_kn])), (a_a2, .inl (cy 0, 8, .inl c_a2))] (rowsW (cy 0) r_en rm (rowsU (rowsU c_en j_3 (upd (c_en j_3) (v_5 : Int32).toNatClampNeg r_13)) j_4 (upd ((rowsU c_en j_3 (upd (c_en j_3) (v_5 : Int32).toNatClampNeg r_13)) j_4) (r_13 : Int32).toNatClampNeg v_5))))) := hD
      refine lv_iinc (v := v_5 + 1) (lv' := [(5, .int (v_5 + 1)), (6, .int r_13), (0, .ref a_this), (2, .ref a_a2), (3, .ref (r_en j_3)), (4, .ref (r_en j_4))]) hx hb dX0_linkTurn_108 hl (k := 5) rfl rfl (by decide) rfl (fun ls hl => ?_)
      refine lv_goto (tgt := 35) hx hb dX0_linkTurn_111 (by decide) ?_
      exact ih _ _ _ _ _ _ _ hw hP hD hS (lv_sub hl [2, 3, 4, 5, 0] rfl)
def wp_X0_linkTurn (c_pl : Int32) (c_sz : Int32) (c_sp : Nat → Int32) (c_mv : Nat → Int32) (c_a2 : Nat → Int32) (c_en : Nat → Nat → Int32) (rm : Nat) (p_1 : Int32) (post : ((Nat → Int32) × (Nat → Int32) × Int32 × Int32 × (Nat → Nat → Int32)) → Prop) : Prop := (vp_in (2 * p_1) 12 ∧ (vp_in ((2 * p_1) + 1) 12 ∧ (wp_X2_setSolved c_sp c_pl (fun u_3 => (∃ N_17 : Nat, lp_X0_linkTurn_35 c_a2 c_pl c_sz ((2 * p_1 : Int32).toNatClampNeg) (((2 * p_1) + 1 : Int32).toNatClampNeg) rm (fun (v_18 : Int32) (c_19 : Nat → Int32) (c_20 : Nat → Int32) (c_21 : Nat → Nat → Int32) => (wp_X0_forgetSearches  (fun u_22 => (post (c_19, c_20, u_22.1, u_22.2, c_21))))) N_17 0 u_3 c_mv c_en)))))
set_option maxHeartbeats 4000000 in
set_option maxRecDepth 100000 in
theorem c_X0_linkTurn (l : Launch) (D : va_G) (cy : Nat → ClassId) (a_this : Nat) (a_en : Nat) (a_wy : Nat) (a_sp : Nat) (a_mv : Nat) (a_A : Nat) (a_B : Nat) (a_C : Nat) (r_en : Nat → Nat) (a_A_le : Nat) (a_A_fo : Nat) (a_B_le : Nat) (a_B_fo : Nat) (a_a2 : Nat) (c_ro : Int32) (c_pl : Int32) (c_sz : Int32) (c_sp : Nat → Int32) (c_mv : Nat → Int32) (c_A_to : Int32) (c_A_kn : Int32) (c_B_to : Int32) (c_B_kn : Int32) (c_a2 : Nat → Int32) (c_en : Nat → Nat → Int32) (rm : Nat) (p_1 : Int32) {post : ((Nat → Int32) × (Nat → Int32) × Int32 × Int32 × (Nat → Nat → Int32)) → Prop} (hw : wp_X0_linkTurn c_pl c_sz c_sp c_mv c_a2 c_en rm p_1 post) (sz : Nat) : Met l yX0_linkTurn wsX0_linkTurn ({ frames := 2, cells := 0, slots := 0, locals := 47 }) (va_Pc [.ref a_this, .int p_1, .ref a_a2] (PreE D cy ((HAppend.hAppend (α := va_W) (β := va_W) (γ := va_W) [(a_this, .inr (0, [.int c_ro, .ref a_en, .ref a_wy, .ref a_sp, .ref a_mv, .ref a_A, .ref a_B, .ref a_C, .int c_pl, .int c_sz])), (a_en, .inl (cy 3, 12, .inr (.inr (.inr (.inr (rowsF r_en)))))), (a_sp, .inl (cy 0, 8, .inl c_sp)), (a_mv, .inl (cy 0, 8, .inl c_mv)), (a_A, .inr (1, [.ref a_A_le, .ref a_A_fo, .int c_A_to, .int c_A_kn])), (a_B, .inr (1, [.ref a_B_le, .ref a_B_fo, .int c_B_to, .int c_B_kn])), (a_a2, .inl (cy 0, 8, .inl c_a2))] (rowsW (cy 0) r_en rm c_en))) sz)) (va_Qv post (fun u t => PostW D cy (va_A ((HAppend.hAppend (α := va_W) (β := va_W) (γ := va_W) [(a_this, .inr (0, [.int c_ro, .ref a_en, .ref a_wy, .ref a_sp, .ref a_mv, .ref a_A, .ref a_B, .ref a_C, .int c_pl, .int c_sz])), (a_en, .inl (cy 3, 12, .inr (.inr (.inr (.inr (rowsF r_en)))))), (a_sp, .inl (cy 0, 8, .inl c_sp)), (a_mv, .inl (cy 0, 8, .inl c_mv)), (a_A, .inr (1, [.ref a_A_le, .ref a_A_fo, .int c_A_to, .int c_A_kn])), (a_B, .inr (1, [.ref a_B_le, .ref a_B_fo, .int c_B_to, .int c_B_kn])), (a_a2, .inl (cy 0, 8, .inl c_a2))] (rowsW (cy 0) r_en rm c_en))) sz) ((HAppend.hAppend (α := va_W) (β := va_W) (γ := va_W) [(a_this, .inr (0, [.int c_ro, .ref a_en, .ref a_wy, .ref a_sp, .ref a_mv, .ref a_A, .ref a_B, .ref a_C, .int c_pl, .int c_sz])), (a_en, .inl (cy 3, 12, .inr (.inr (.inr (.inr (rowsF r_en)))))), (a_sp, .inl (cy 0, 8, .inl u.1)), (a_mv, .inl (cy 0, 8, .inl u.2.1)), (a_A, .inr (1, [.ref a_A_le, .ref a_A_fo, .int c_A_to, .int u.2.2.1])), (a_B, .inr (1, [.ref a_B_le, .ref a_B_fo, .int c_B_to, .int u.2.2.2.1])), (a_a2, .inl (cy 0, 8, .inl c_a2))] (rowsW (cy 0) r_en rm u.2.2.2.2))) t) (va_A ((HAppend.hAppend (α := va_W) (β := va_W) (γ := va_W) [(a_this, .inr (0, [.int c_ro, .ref a_en, .ref a_wy, .ref a_sp, .ref a_mv, .ref a_A, .ref a_B, .ref a_C, .int c_pl, .int c_sz])), (a_en, .inl (cy 3, 12, .inr (.inr (.inr (.inr (rowsF r_en)))))), (a_sp, .inl (cy 0, 8, .inl c_sp)), (a_mv, .inl (cy 0, 8, .inl c_mv)), (a_A, .inr (1, [.ref a_A_le, .ref a_A_fo, .int c_A_to, .int c_A_kn])), (a_B, .inr (1, [.ref a_B_le, .ref a_B_fo, .int c_B_to, .int c_B_kn])), (a_a2, .inl (cy 0, 8, .inl c_a2))] (rowsW (cy 0) r_en rm c_en))) sz)) 0 0 (va_A ((HAppend.hAppend (α := va_W) (β := va_W) (γ := va_W) [(a_this, .inr (0, [.int c_ro, .ref a_en, .ref a_wy, .ref a_sp, .ref a_mv, .ref a_A, .ref a_B, .ref a_C, .int c_pl, .int c_sz])), (a_en, .inl (cy 3, 12, .inr (.inr (.inr (.inr (rowsF r_en)))))), (a_sp, .inl (cy 0, 8, .inl c_sp)), (a_mv, .inl (cy 0, 8, .inl c_mv)), (a_A, .inr (1, [.ref a_A_le, .ref a_A_fo, .int c_A_to, .int c_A_kn])), (a_B, .inr (1, [.ref a_B_le, .ref a_B_fo, .int c_B_to, .int c_B_kn])), (a_a2, .inl (cy 0, 8, .inl c_a2))] (rowsW (cy 0) r_en rm c_en))) sz) := by
  refine j_metE (l := l) (y := yX0_linkTurn) (ws := wsX0_linkTurn) (D := D) (cy := cy) (sz := sz) (av := [.ref a_this, .int p_1, .ref a_a2]) (Qc := fun A => va_Qv post (fun u t => PostW D cy A ((HAppend.hAppend (α := va_W) (β := va_W) (γ := va_W) [(a_this, .inr (0, [.int c_ro, .ref a_en, .ref a_wy, .ref a_sp, .ref a_mv, .ref a_A, .ref a_B, .ref a_C, .int c_pl, .int c_sz])), (a_en, .inl (cy 3, 12, .inr (.inr (.inr (.inr (rowsF r_en)))))), (a_sp, .inl (cy 0, 8, .inl u.1)), (a_mv, .inl (cy 0, 8, .inl u.2.1)), (a_A, .inr (1, [.ref a_A_le, .ref a_A_fo, .int c_A_to, .int u.2.2.1])), (a_B, .inr (1, [.ref a_B_le, .ref a_B_fo, .int c_B_to, .int u.2.2.2.1])), (a_a2, .inl (cy 0, 8, .inl c_a2))] (rowsW (cy 0) r_en rm u.2.2.2.2))) t) A) (by decide +kernel) rfl (Nat.le_of_ble_eq_true rfl) ?_
  intro p e s m below meth c A ls C0 hr hlocks hP hD hS hl hE hin
  obtain ⟨hx, hb, hml, hown, hts, hK, hA⟩ := id C0
  have hown : s.vm.findClass RX0 = some m.cls := hown
  have hl : lv_has ls 7 [(0, .ref a_this), (1, .int p_1), (2, .ref a_a2)] := hl
  obtain ⟨tF, hFZ, hFT⟩ := hE.2.2.2.2.2.2.2.2.2
  unfold wp_X0_linkTurn at hw
  refine lv_aload_n hx hb dX0_linkTurn_0 rfl (lv_at hl 0 rfl) ?_
  refine va_get (D := D) (ci := 0) (v := .ref a_en) (C := RX0) (T := TX0) (N := 10) hx hb hts k_X0_linkTurn_X0 hown hK hP 0 rfl rfl 1 (by decide) (hts _ q_X0_linkTurn_1) (fun _ h9 => h9) rfl dX0_linkTurn_1 ?_
  refine lv_iconst (v := 2) hx hb dX0_linkTurn_4 (by decide) ?_
  refine lv_iload_n hx hb dX0_linkTurn_5 rfl (lv_at hl 1 rfl) ?_
  refine lv_imul hx hb dX0_linkTurn_6 ?_
  obtain ⟨h_1, hw⟩ := hw
  refine j_aald hx hb hK hP 1 3 rfl rfl h_1 dX0_linkTurn_7 ?_
  refine lv_astore_n (lv' := [(3, .ref (r_en ((2 * p_1 : Int32).toNatClampNeg))), (0, .ref a_this), (1, .int p_1), (2, .ref a_a2)]) hx hb dX0_linkTurn_8 rfl hl (by decide) rfl (fun ls hl => ?_)
  refine lv_aload_n hx hb dX0_linkTurn_9 rfl (lv_at hl 1 rfl) ?_
  refine va_get (D := D) (ci := 0) (v := .ref a_en) (C := RX0) (T := TX0) (N := 10) hx hb hts k_X0_linkTurn_X0 hown hK hP 0 rfl rfl 1 (by decide) (hts _ q_X0_linkTurn_1) (fun _ h9 => h9) rfl dX0_linkTurn_10 ?_
  refine lv_iconst (v := 2) hx hb dX0_linkTurn_13 (by decide) ?_
  refine lv_iload_n hx hb dX0_linkTurn_14 rfl (lv_at hl 2 rfl) ?_
  refine lv_imul hx hb dX0_linkTurn_15 ?_
  refine lv_iconst (v := 1) hx hb dX0_linkTurn_16 (by decide) ?_
  refine lv_iadd hx hb dX0_linkTurn_17 ?_
  obtain ⟨h_2, hw⟩ := hw
  refine j_aald hx hb hK hP 1 3 rfl rfl h_2 dX0_linkTurn_18 ?_
  refine lv_astore (lv' := [(4, .ref (r_en (((2 * p_1) + 1 : Int32).toNatClampNeg))), (3, .ref (r_en ((2 * p_1 : Int32).toNatClampNeg))), (0, .ref a_this), (1, .int p_1), (2, .ref a_a2)]) hx hb dX0_linkTurn_19 hl (by decide) rfl (fun ls hl => ?_)
  refine lv_aload_n hx hb dX0_linkTurn_21 rfl (lv_at hl 2 rfl) ?_
  refine va_get (D := D) (ci := 0) (v := .ref a_sp) (C := RX0) (T := TX0) (N := 10) hx hb hts k_X0_linkTurn_X0 hown hK hP 0 rfl rfl 3 (by decide) (hts _ q_X0_linkTurn_2) (fun _ h9 => h9) rfl dX0_linkTurn_22 ?_
  refine lv_aload_n hx hb dX0_linkTurn_25 rfl (lv_at hl 2 rfl) ?_
  refine va_get (D := D) (ci := 0) (v := .int c_pl) (C := RX0) (T := TX0) (N := 10) hx hb hts k_X0_linkTurn_X0 hown hK hP 0 rfl rfl 8 (by decide) (hts _ q_X0_linkTurn_3) (fun _ h9 => h9) rfl dX0_linkTurn_26 ?_
  refine j_callv (wr := (HAppend.hAppend (α := va_W) (β := va_W) (γ := va_W) [(a_this, .inr (0, [.int c_ro, .ref a_en, .ref a_wy, .ref a_sp, .ref a_mv, .ref a_A, .ref a_B, .ref a_C, .int c_pl, .int c_sz])), (a_en, .inl (cy 3, 12, .inr (.inr (.inr (.inr (rowsF r_en)))))), (a_mv, .inl (cy 0, 8, .inl c_mv)), (a_A, .inr (1, [.ref a_A_le, .ref a_A_fo, .int c_A_to, .int c_A_kn])), (a_B, .inr (1, [.ref a_B_le, .ref a_B_fo, .int c_B_to, .int c_B_kn])), (a_a2, .inl (cy 0, 8, .inl c_a2))] (rowsW (cy 0) r_en rm c_en))) (va_runSN (As := [.ref a_sp, .int c_pl]) (rest := []) ⟨hx, hb, hml, hown, hts⟩ (c_X2_setSolved l D cy a_sp c_sp c_pl hw s.heap.size) ⟨va_cnB 2 hts gX0_linkTurn_X2_setSolved_n61 rfl rfl rfl hE.2.1 (hts _ q_X0_linkTurn_7) (by decide +kernel) ⟨Nat.le_of_ble_eq_true rfl, Nat.le_of_ble_eq_true rfl⟩, hts _ q_X0_linkTurn_6, trivial⟩ (j_preS hK hP hD (isC := [2]) rfl (by decide +kernel)) rfl rfl hl.1 rfl (lv_room (Nat.le_of_ble_eq_true rfl)) dX0_linkTurn_29 ⟨Nat.le_of_ble_eq_true rfl, Nat.le_of_ble_eq_true rfl⟩) hP hD hS hA [2] [0, 1, 3, 4, 5, 6, 7, 8, 9, 10, 11, 12, 13, 14, 15, 16, 17, 18] rfl rfl (by decide +kernel) (by decide +kernel) (fun u_3 => (HAppend.hAppend (α := va_W) (β := va_W) (γ := va_W) [(a_this, .inr (0, [.int c_ro, .ref a_en, .ref a_wy, .ref a_sp, .ref a_mv, .ref a_A, .ref a_B, .ref a_C, .int c_pl, .int c_sz])), (a_en, .inl (cy 3, 12, .inr (.inr (.inr (.inr (rowsF r_en)))))), (a_sp, .inl (cy 0, 8, .inl u_3)), (a_mv, .inl (cy 0, 8, .inl c_mv)), (a_A, .inr (1, [.ref a_A_le, .ref a_A_fo, .int c_A_to, .int c_A_kn])), (a_B, .inr (1, [.ref a_B_le, .ref a_B_fo, .int c_B_to, .int c_B_kn])), (a_a2, .inl (cy 0, 8, .inl c_a2))] (rowsW (cy 0) r_en rm c_en))) [0, 1, 18, 2, 3, 4, 5, 6, 7, 8, 9, 10, 11, 12, 13, 14, 15, 16, 17] (by decide +kernel) (fun u => rfl) (fun u_3 H locs hw hP hD hS => ?_)
  have hP : va_P D vwCl ((HAppend.hAppend (α := va_W) (β := va_W) (γ := va_W) [(a_this, .inr (0, [.int c_ro, .ref a_en, .ref a_wy, .ref a_sp, .ref a_mv, .ref a_A, .ref a_B, .ref a_C, .int c_pl, .int c_sz])), (a_en, .inl (cy 3, 12, .inr (.inr (.inr (.inr (rowsF r_en)))))), (a_sp, .inl (cy 0, 8, .inl u_3)), (a_mv, .inl (cy 0, 8, .inl c_mv)), (a_A, .inr (1, [.ref a_A_le, .ref a_A_fo, .int c_A_to, .int c_A_kn])), (a_B, .inr (1, [.ref a_B_le, .ref a_B_fo, .int c_B_to, .int c_B_kn])), (a_a2, .inl (cy 0, 8, .inl c_a2))] (rowsW (cy 0) r_en rm c_en))) H := hP
  have hD : va_D A ((HAppend.hAppend (α := va_W) (β := va_W) (γ := va_W) [(a_this, .inr (0, [.int c_ro, .ref a_en, .ref a_wy, .ref a_sp, .ref a_mv, .ref a_A, .ref a_B, .ref a_C, .int c_pl, .int c_sz])), (a_en, .inl (cy 3, 12, .inr (.inr (.inr (.inr (rowsF r_en)))))), (a_sp, .inl (cy 0, 8, .inl u_3)), (a_mv, .inl (cy 0, 8, .inl c_mv)), (a_A, .inr (1, [.ref a_A_le, .ref a_A_fo, .int c_A_to, .int c_A_kn])), (a_B, .inr (1, [.ref a_B_le, .ref a_B_fo, .int c_B_to, .int c_B_kn])), (a_a2, .inl (cy 0, 8, .inl c_a2))] (rowsW (cy 0) r_en rm c_en))) := hD
  refine lv_iconst (v := 0) hx hb dX0_linkTurn_32 (by decide) ?_
  refine lv_istore (lv' := [(5, .int 0), (4, .ref (r_en (((2 * p_1) + 1 : Int32).toNatClampNeg))), (3, .ref (r_en ((2 * p_1 : Int32).toNatClampNeg))), (0, .ref a_this), (1, .int p_1), (2, .ref a_a2)]) hx hb dX0_linkTurn_33 hl (by decide) rfl (fun ls hl => ?_)
  obtain ⟨N_17, hw⟩ := hw
  refine l_X0_linkTurn_35 C0 hE (j_lt12 h_1) (j_lt12 h_2) (fun v_18 c_19 c_20 c_21 H locs ls hw hP hD hS hl => ?_) _ _ _ _ _ _ _ _ hw hP hD hS (lv_sub hl [3, 5, 2, 1, 0] rfl)
  refine lv_aload_n hx hb dX0_linkTurn_114 rfl (lv_at hl 0 rfl) ?_
  refine j_callv (wr := (HAppend.hAppend (α := va_W) (β := va_W) (γ := va_W) [(a_en, .inl (cy 3, 12, .inr (.inr (.inr (.inr (rowsF r_en)))))), (a_sp, .inl (cy 0, 8, .inl c_19)), (a_mv, .inl (cy 0, 8, .inl c_20)), (a_a2, .inl (cy 0, 8, .inl c_a2))] (rowsW (cy 0) r_en rm c_21))) (va_runV (As := []) (rest := []) ⟨hx, hb, hml, hown, hts⟩ (c_X0_forgetSearches l D cy a_this a_en a_wy a_sp a_mv a_A a_B a_C a_A_le a_A_fo a_B_le a_B_fo c_ro c_pl c_sz c_A_to c_A_kn c_B_to c_B_kn hw H.size) (cwV 0 hts gX0_linkTurn_X0_forgetSearches rfl rfl rfl (by decide +kernel) ⟨Nat.le_of_ble_eq_true rfl, Nat.le_of_ble_eq_true rfl⟩) (j_preV hK hP hD (isC := [0, 4, 5]) rfl (by decide +kernel) (ci := 0) (q0 := 0) rfl rfl) rfl rfl hl.1 rfl (lv_room (Nat.le_of_ble_eq_true rfl)) dX0_linkTurn_115 ⟨Nat.le_of_ble_eq_true rfl, Nat.le_of_ble_eq_true rfl⟩) hP hD hS hA [0, 4, 5] [1, 2, 3, 6, 7, 8, 9, 10, 11, 12, 13, 14, 15, 16, 17, 18] rfl rfl (by decide +kernel) (by decide +kernel) (fun u_22 => (HAppend.hAppend (α := va_W) (β := va_W) (γ := va_W) [(a_this, .inr (0, [.int c_ro, .ref a_en, .ref a_wy, .ref a_sp, .ref a_mv, .ref a_A, .ref a_B, .ref a_C, .int c_pl, .int c_sz])), (a_en, .inl (cy 3, 12, .inr (.inr (.inr (.inr (rowsF r_en)))))), (a_sp, .inl (cy 0, 8, .inl c_19)), (a_mv, .inl (cy 0, 8, .inl c_20)), (a_A, .inr (1, [.ref a_A_le, .ref a_A_fo, .int c_A_to, .int u_22.1])), (a_B, .inr (1, [.ref a_B_le, .ref a_B_fo, .int c_B_to, .int u_22.2])), (a_a2, .inl (cy 0, 8, .inl c_a2))] (rowsW (cy 0) r_en rm c_21))) [16, 0, 1, 2, 17, 18, 3, 4, 5, 6, 7, 8, 9, 10, 11, 12, 13, 14, 15] (by decide +kernel) (fun u => rfl) (fun u_22 H locs hw hP hD hS => ?_)
  have hP : va_P D vwCl ((HAppend.hAppend (α := va_W) (β := va_W) (γ := va_W) [(a_this, .inr (0, [.int c_ro, .ref a_en, .ref a_wy, .ref a_sp, .ref a_mv, .ref a_A, .ref a_B, .ref a_C, .int c_pl, .int c_sz])), (a_en, .inl (cy 3, 12, .inr (.inr (.inr (.inr (rowsF r_en)))))), (a_sp, .inl (cy 0, 8, .inl c_19)), (a_mv, .inl (cy 0, 8, .inl c_20)), (a_A, .inr (1, [.ref a_A_le, .ref a_A_fo, .int c_A_to, .int u_22.1])), (a_B, .inr (1, [.ref a_B_le, .ref a_B_fo, .int c_B_to, .int u_22.2])), (a_a2, .inl (cy 0, 8, .inl c_a2))] (rowsW (cy 0) r_en rm c_21))) H := hP
  have hD : va_D A ((HAppend.hAppend (α := va_W) (β := va_W) (γ := va_W) [(a_this, .inr (0, [.int c_ro, .ref a_en, .ref a_wy, .ref a_sp, .ref a_mv, .ref a_A, .ref a_B, .ref a_C, .int c_pl, .int c_sz])), (a_en, .inl (cy 3, 12, .inr (.inr (.inr (.inr (rowsF r_en)))))), (a_sp, .inl (cy 0, 8, .inl c_19)), (a_mv, .inl (cy 0, 8, .inl c_20)), (a_A, .inr (1, [.ref a_A_le, .ref a_A_fo, .int c_A_to, .int u_22.1])), (a_B, .inr (1, [.ref a_B_le, .ref a_B_fo, .int c_B_to, .int u_22.2])), (a_a2, .inl (cy 0, 8, .inl c_a2))] (rowsW (cy 0) r_en rm c_21))) := hD
  exact j_vret (fun u => (HAppend.hAppend (α := va_W) (β := va_W) (γ := va_W) [(a_this, .inr (0, [.int c_ro, .ref a_en, .ref a_wy, .ref a_sp, .ref a_mv, .ref a_A, .ref a_B, .ref a_C, .int c_pl, .int c_sz])), (a_en, .inl (cy 3, 12, .inr (.inr (.inr (.inr (rowsF r_en)))))), (a_sp, .inl (cy 0, 8, .inl u.1)), (a_mv, .inl (cy 0, 8, .inl u.2.1)), (a_A, .inr (1, [.ref a_A_le, .ref a_A_fo, .int c_A_to, .int u.2.2.1])), (a_B, .inr (1, [.ref a_B_le, .ref a_B_fo, .int c_B_to, .int u.2.2.2.1])), (a_a2, .inl (cy 0, 8, .inl c_a2))] (rowsW (cy 0) r_en rm u.2.2.2.2))) ((c_19, c_20, u_22.1, u_22.2, c_21) : (Nat → Int32) × (Nat → Int32) × Int32 × Int32 × (Nat → Nat → Int32)) hx hb hr hlocks hK hP hD hS hw dX0_linkTurn_118
set_option maxHeartbeats 4000000 in
set_option maxRecDepth 100000 in
theorem l_X0_linkTurn_r_47 {p : Program} {l : Launch} {e : Env} {s : State} {m : MethodId} {args : Array Value} {below : List Frame} {meth : Method} {c : Code} {A : Nat → Prop} {D : va_G} {cy : Nat → ClassId} {Q : State → Prop} {a_this : Nat} {a_en : Nat} {a_wy : Nat} {a_sp : Nat} {a_mv : Nat} {a_A : Nat} {a_B : Nat} {a_C : Nat} {r_en : Nat → Nat} {a_A_le : Nat} {a_A_fo : Nat} {a_B_le : Nat} {a_B_fo : Nat} {r_Ra2 : Nat → Nat} {c_ro : Int32} {c_pl : Int32} {c_sz : Int32} {c_sp : Nat → Int32} {c_A_to : Int32} {c_A_kn : Int32} {c_B_to : Int32} {c_B_kn : Int32} {c_en : Nat → Nat → Int32} {c_Ra2 : Nat → Nat → Int32} {rm : Nat} {i_a2 : Nat} {v_5 : Int32} {j_3 : Nat} {j_4 : Nat} {K78 : Int32 → (Nat → Int32) → Prop} (C0 : Cx p s m args c cX0_linkTurn yX0_linkTurn.cls 7 wsX0_linkTurn D cy A) (hE : EV A s s.heap) (hk_i_a2 : i_a2 < 12) (hk_j_3 : j_3 < 12) (hk_j_4 : j_4 < 12)
    (k78 : ∀ (v_6 : Int32) (c_mv : Nat → Int32) (H : Heap) (locs : List Loc) (ls : Array Slot), K78 v_6 c_mv → va_P D vwCl ((HAppend.hAppend (α := va_W) (β := va_W) (γ := va_W) (HAppend.hAppend (α := va_W) (β := va_W) (γ := va_W) [(a_this, .inr (0, [.int c_ro, .ref a_en, .ref a_wy, .ref a_sp, .ref a_mv, .ref a_A, .ref a_B, .ref a_C, .int c_pl, .int c_sz])), (a_en, .inl (cy 3, 12, .inr (.inr (.inr (.inr (rowsF r_en)))))), (a_sp, .inl (cy 0, 8, .inl c_sp)), (a_mv, .inl (cy 0, 8, .inl c_mv)), (a_A, .inr (1, [.ref a_A_le, .ref a_A_fo, .int c_A_to, .int c_A_kn])), (a_B, .inr (1, [.ref a_B_le, .ref a_B_fo, .int c_B_to, .int c_B_kn]))] (rowsW (cy 0) r_en rm c_en)) (rowsW (cy 0) r_Ra2 8 c_Ra2))) H → va_D A ((HAppend.hAppend (α := va_W) (β := va_W) (γ := va_W) (HAppend.hAppend (α := va_W) (β := va_W) (γ := va_W) [(a_this, .inr (0, [.int c_ro, .ref a_en, .ref a_wy, .ref a_sp, .ref a_mv, .ref a_A, .ref a_B, .ref a_C, .int c_pl, .int c_sz])), (a_en, .inl (cy 3, 12, .inr (.inr (.inr (.inr (rowsF r_en)))))), (a_sp, .inl (cy 0, 8, .inl c_sp)), (a_mv, .inl (cy 0, 8, .inl c_mv)), (a_A, .inr (1, [.ref a_A_le, .ref a_A_fo, .int c_A_to, .int c_A_kn])), (a_B, .inr (1, [.ref a_B_le, .ref a_B_fo, .int c_B_to, .int c_B_kn]))] (rowsW (cy 0) r_en rm c_en)) (rowsW (cy 0) r_Ra2 8 c_Ra2))) → va_S A s.heap H locs → lv_has ls 7 [(0, .ref a_this), (2, .ref (r_Ra2 i_a2)), (3, .ref (r_en j_3)), (4, .ref (r_en j_4)), (5, .int v_5)] → W p l e (({ frames := 2, cells := 0, slots := 0, locals := 47 } : Room)) s m args below meth c H locs 0 0 Q (F0 m 78 ls [])) :
    ∀ (N : Nat) (v_6 : Int32) (c_mv : Nat → Int32) (H : Heap) (locs : List Loc) (ls : Array Slot), lp_X0_linkTurn_47 (c_Ra2 i_a2) c_pl c_sp K78 N v_6 c_mv → va_P D vwCl ((HAppend.hAppend (α := va_W) (β := va_W) (γ := va_W) (HAppend.hAppend (α := va_W) (β := va_W) (γ := va_W) [(a_this, .inr (0, [.int c_ro, .ref a_en, .ref a_wy, .ref a_sp, .ref a_mv, .ref a_A, .ref a_B, .ref a_C, .int c_pl, .int c_sz])), (a_en, .inl (cy 3, 12, .inr (.inr (.inr (.inr (rowsF r_en)))))), (a_sp, .inl (cy 0, 8, .inl c_sp)), (a_mv, .inl (cy 0, 8, .inl c_mv)), (a_A, .inr (1, [.ref a_A_le, .ref a_A_fo, .int c_A_to, .int c_A_kn])), (a_B, .inr (1, [.ref a_B_le, .ref a_B_fo, .int c_B_to, .int c_B_kn]))] (rowsW (cy 0) r_en rm c_en)) (rowsW (cy 0) r_Ra2 8 c_Ra2))) H → va_D A ((HAppend.hAppend (α := va_W) (β := va_W) (γ := va_W) (HAppend.hAppend (α := va_W) (β := va_W) (γ := va_W) [(a_this, .inr (0, [.int c_ro, .ref a_en, .ref a_wy, .ref a_sp, .ref a_mv, .ref a_A, .ref a_B, .ref a_C, .int c_pl, .int c_sz])), (a_en, .inl (cy 3, 12, .inr (.inr (.inr (.inr (rowsF r_en)))))), (a_sp, .inl (cy 0, 8, .inl c_sp)), (a_mv, .inl (cy 0, 8, .inl c_mv)), (a_A, .inr (1, [.ref a_A_le, .ref a_A_fo, .int c_A_to, .int c_A_kn])), (a_B, .inr (1, [.ref a_B_le, .ref a_B_fo, .int c_B_to, .int c_B_kn]))] (rowsW (cy 0) r_en rm c_en)) (rowsW (cy 0) r_Ra2 8 c_Ra2))) → va_S A s.heap H locs → lv_has ls 7 [(0, .ref a_this), (2, .ref (r_Ra2 i_a2)), (3, .ref (r_en j_3)), (4, .ref (r_en j_4)), (5, .int v_5), (6, .int v_6)] → W p l e (({ frames := 2, cells := 0, slots := 0, locals := 47 } : Room)) s m args below meth c H locs 0 0 Q (F0 m 47 ls []) := by
  obtain ⟨hx, hb, hml, hown, hts, hK, hA⟩ := id C0
  obtain ⟨tF, hFZ, hFT⟩ := hE.2.2.2.2.2.2.2.2.2
  intro N
  induction N with
  | zero =>
    intro v_6 c_mv H locs ls hw
    exact False.elim hw
  | succ N ih =>
    intro v_6 c_mv H locs ls hw hP hD hS hl
    rw [lp_X0_linkTurn_47] at hw
    refine lv_iload hx hb dX0_linkTurn_47 (lv_at hl 5 rfl) ?_
    refine lv_aload_n hx hb dX0_linkTurn_49 rfl (lv_at hl 0 rfl) ?_
    refine va_get (D := D) (ci := 0) (v := .int c_pl) (C := RX0) (T := TX0) (N := 10) hx hb hts k_X0_linkTurn_X0 hown hK hP 0 rfl rfl 8 (by decide) (hts _ q_X0_linkTurn_3) (fun _ h9 => h9) rfl dX0_linkTurn_50 ?_
    refine lv_icmp_ge (tgt := 78) hx hb dX0_linkTurn_53 (by decide) (fun c_5 => ?_) (fun c_5 => ?_)
    · replace hw := hw.1 c_5
      exact k78 _ _ _ _ _ hw hP hD hS (lv_sub hl [0, 1, 2, 3, 4] rfl)
    · replace hw := hw.2 c_5
      refine lv_aload_n hx hb dX0_linkTurn_56 rfl (lv_at hl 0 rfl) ?_
      refine va_get (D := D) (ci := 0) (v := .ref a_mv) (C := RX0) (T := TX0) (N := 10) hx hb hts k_X0_linkTurn_X0 hown hK hP 0 rfl rfl 4 (by decide) (hts _ q_X0_linkTurn_5) (fun _ h9 => h9) rfl dX0_linkTurn_57 ?_
      refine lv_iload hx hb dX0_linkTurn_60 (lv_at hl 5 rfl) ?_
      refine lv_aload_n hx hb dX0_linkTurn_62 rfl (lv_at hl 1 rfl) ?_
      refine lv_aload_n hx hb dX0_linkTurn_63 rfl (lv_at hl 0 rfl) ?_
      refine va_get (D := D) (ci := 0) (v := .ref a_sp) (C := RX0) (T := TX0) (N := 10) hx hb hts k_X0_linkTurn_X0 hown hK hP 0 rfl rfl 3 (by decide) (hts _ q_X0_linkTurn_2) (fun _ h9 => h9) rfl dX0_linkTurn_64 ?_
      refine lv_iload hx hb dX0_linkTurn_67 (lv_at hl 5 rfl) ?_
      obtain ⟨h_6, hw⟩ := hw
      refine va_iald hx hb hK hP 2 0 rfl rfl h_6 dX0_linkTurn_69 ?_
      obtain ⟨h_7, hw⟩ := hw
      refine va_iald hx hb hK hP _ 0 (rowsW_get _ _ _ _ _ hk_i_a2) rfl h_7 dX0_linkTurn_70 ?_
      obtain ⟨h_8, hw⟩ := hw
      refine va_iast hx hb hK hP hD hS 3 0 rfl rfl h_8 dX0_linkTurn_71 (fun H locs hP hD hS => ?_)
      have hP : va_P D vwCl ((HAppend.hAppend (α := va_W) (β := va_W) (γ := va_W) (HAppend.hAppend (α := va_W) (β := va_W) (γ := va_W) [(a_this, .inr (0, [.int c_ro, .ref a_en, .ref a_wy, .ref a_sp, .ref a_mv, .ref a_A, .ref a_B, .ref a_C, .int c_pl, .int c_sz])), (a_en, .inl (cy 3, 12, .inr (.inr (.inr (.inr (rowsF r_en)))))), (a_sp, .inl (cy 0, 8, .inl c_sp)), (a_mv, .inl (cy 0, 8, .inl (upd c_mv ((v_6 : Int32).toNatClampNeg) (c_Ra2 i_a2 (c_sp (v_6 : Int32).toNatClampNeg : Int32).toNatClampNeg)))), (a_A, .inr (1, [.ref a_A_le, .ref a_A_fo, .int c_A_to, .int c_A_kn])), (a_B, .inr (1, [.ref a_B_le, .ref a_B_fo, .int c_B_to, .int c_B_kn]))] (rowsW (cy 0) r_en rm c_en)) (rowsW (cy 0) r_Ra2 8 c_Ra2))) H := hP
      have hD : va_D A ((HAppend.hAppend (α := va_W) (β := va_W) (γ := va_W) (HAppend.hAppend (α := va_W) (β := va_W) (γ := va_W) [(a_this, .inr (0, [.int c_ro, .ref a_en, .ref a_wy, .ref a_sp, .ref a_mv, .ref a_A, .ref a_B, .ref a_C, .int c_pl, .int c_sz])), (a_en, .inl (cy 3, 12, .inr (.inr (.inr (.inr (rowsF r_en)))))), (a_sp, .inl (cy 0, 8, .inl c_sp)), (a_mv, .inl (cy 0, 8, .inl (upd c_mv ((v_6 : Int32).toNatClampNeg) (c_Ra2 i_a2 (c_sp (v_6 : Int32).toNatClampNeg : Int32).toNatClampNeg)))), (a_A, .inr (1, [.ref a_A_le, .ref a_A_fo, .int c_A_to, .int c_A_kn])), (a_B, .inr (1, [.ref a_B_le, .ref a_B_fo, .int c_B_to, .int c_B_kn]))] (rowsW (cy 0) r_en rm c_en)) (rowsW (cy 0) r_Ra2 8 c_Ra2))) := hD
      refine lv_iinc (v := v_6 + 1) (lv' := [(6, .int (v_6 + 1)), (0, .ref a_this), (2, .ref (r_Ra2 i_a2)), (3, .ref (r_en j_3)), (4, .ref (r_en j_4)), (5, .int v_5)]) hx hb dX0_linkTurn_72 hl (k := 5) rfl rfl (by decide) rfl (fun ls hl => ?_)
      refine lv_goto (tgt := 47) hx hb dX0_linkTurn_75 (by decide) ?_
      exact ih _ _ _ _ _ hw hP hD hS (lv_sub hl [1, 2, 3, 4, 5, 0] rfl)
set_option maxHeartbeats 4000000 in
set_option maxRecDepth 100000 in
theorem l_X0_linkTurn_r_35 {p : Program} {l : Launch} {e : Env} {s : State} {m : MethodId} {args : Array Value} {below : List Frame} {meth : Method} {c : Code} {A : Nat → Prop} {D : va_G} {cy : Nat → ClassId} {Q : State → Prop} {a_this : Nat} {a_en : Nat} {a_wy : Nat} {a_sp : Nat} {a_mv : Nat} {a_A : Nat} {a_B : Nat} {a_C : Nat} {r_en : Nat → Nat} {a_A_le : Nat} {a_A_fo : Nat} {a_B_le : Nat} {a_B_fo : Nat} {r_Ra2 : Nat → Nat} {c_ro : Int32} {c_pl : Int32} {c_sz : Int32} {c_A_to : Int32} {c_A_kn : Int32} {c_B_to : Int32} {c_B_kn : Int32} {c_Ra2 : Nat → Nat → Int32} {rm : Nat} {i_a2 : Nat} {j_3 : Nat} {j_4 : Nat} {K114 : Int32 → (Nat → Int32) → (Nat → Int32) → (Nat → Nat → Int32) → Prop} (C0 : Cx p s m args c cX0_linkTurn yX0_linkTurn.cls 7 wsX0_linkTurn D cy A) (hE : EV A s s.heap) (hk_i_a2 : i_a2 < 12) (hk_j_3 : j_3 < 12) (hk_j_4 : j_4 < 12)
    (k114 : ∀ (v_5 : Int32) (c_sp : Nat → Int32) (c_mv : Nat → Int32) (c_en : Nat → Nat → Int32) (H : Heap) (locs : List Loc) (ls : Array Slot), K114 v_5 c_sp c_mv c_en → va_P D vwCl ((HAppend.hAppend (α := va_W) (β := va_W) (γ := va_W) (HAppend.hAppend (α := va_W) (β := va_W) (γ := va_W) [(a_this, .inr (0, [.int c_ro, .ref a_en, .ref a_wy, .ref a_sp, .ref a_mv, .ref a_A, .ref a_B, .ref a_C, .int c_pl, .int c_sz])), (a_en, .inl (cy 3, 12, .inr (.inr (.inr (.inr (rowsF r_en)))))), (a_sp, .inl (cy 0, 8, .inl c_sp)), (a_mv, .inl (cy 0, 8, .inl c_mv)), (a_A, .inr (1, [.ref a_A_le, .ref a_A_fo, .int c_A_to, .int c_A_kn])), (a_B, .inr (1, [.ref a_B_le, .ref a_B_fo, .int c_B_to, .int c_B_kn]))] (rowsW (cy 0) r_en rm c_en)) (rowsW (cy 0) r_Ra2 8 c_Ra2))) H → va_D A ((HAppend.hAppend (α := va_W) (β := va_W) (γ := va_W) (HAppend.hAppend (α := va_W) (β := va_W) (γ := va_W) [(a_this, .inr (0, [.int c_ro, .ref a_en, .ref a_wy, .ref a_sp, .ref a_mv, .ref a_A, .ref a_B, .ref a_C, .int c_pl, .int c_sz])), (a_en, .inl (cy 3, 12, .inr (.inr (.inr (.inr (rowsF r_en)))))), (a_sp, .inl (cy 0, 8, .inl c_sp)), (a_mv, .inl (cy 0, 8, .inl c_mv)), (a_A, .inr (1, [.ref a_A_le, .ref a_A_fo, .int c_A_to, .int c_A_kn])), (a_B, .inr (1, [.ref a_B_le, .ref a_B_fo, .int c_B_to, .int c_B_kn]))] (rowsW (cy 0) r_en rm c_en)) (rowsW (cy 0) r_Ra2 8 c_Ra2))) → va_S A s.heap H locs → lv_has ls 7 [(0, .ref a_this)] → W p l e (({ frames := 2, cells := 0, slots := 0, locals := 47 } : Room)) s m args below meth c H locs 0 0 Q (F0 m 114 ls [])) :
    ∀ (N : Nat) (v_5 : Int32) (c_sp : Nat → Int32) (c_mv : Nat → Int32) (c_en : Nat → Nat → Int32) (H : Heap) (locs : List Loc) (ls : Array Slot), lp_X0_linkTurn_35 (c_Ra2 i_a2) c_pl c_sz j_3 j_4 rm K114 N v_5 c_sp c_mv c_en → va_P D vwCl ((HAppend.hAppend (α := va_W) (β := va_W) (γ := va_W) (HAppend.hAppend (α := va_W) (β := va_W) (γ := va_W) [(a_this, .inr (0, [.int c_ro, .ref a_en, .ref a_wy, .ref a_sp, .ref a_mv, .ref a_A, .ref a_B, .ref a_C, .int c_pl, .int c_sz])), (a_en, .inl (cy 3, 12, .inr (.inr (.inr (.inr (rowsF r_en)))))), (a_sp, .inl (cy 0, 8, .inl c_sp)), (a_mv, .inl (cy 0, 8, .inl c_mv)), (a_A, .inr (1, [.ref a_A_le, .ref a_A_fo, .int c_A_to, .int c_A_kn])), (a_B, .inr (1, [.ref a_B_le, .ref a_B_fo, .int c_B_to, .int c_B_kn]))] (rowsW (cy 0) r_en rm c_en)) (rowsW (cy 0) r_Ra2 8 c_Ra2))) H → va_D A ((HAppend.hAppend (α := va_W) (β := va_W) (γ := va_W) (HAppend.hAppend (α := va_W) (β := va_W) (γ := va_W) [(a_this, .inr (0, [.int c_ro, .ref a_en, .ref a_wy, .ref a_sp, .ref a_mv, .ref a_A, .ref a_B, .ref a_C, .int c_pl, .int c_sz])), (a_en, .inl (cy 3, 12, .inr (.inr (.inr (.inr (rowsF r_en)))))), (a_sp, .inl (cy 0, 8, .inl c_sp)), (a_mv, .inl (cy 0, 8, .inl c_mv)), (a_A, .inr (1, [.ref a_A_le, .ref a_A_fo, .int c_A_to, .int c_A_kn])), (a_B, .inr (1, [.ref a_B_le, .ref a_B_fo, .int c_B_to, .int c_B_kn]))] (rowsW (cy 0) r_en rm c_en)) (rowsW (cy 0) r_Ra2 8 c_Ra2))) → va_S A s.heap H locs → lv_has ls 7 [(0, .ref a_this), (2, .ref (r_Ra2 i_a2)), (3, .ref (r_en j_3)), (4, .ref (r_en j_4)), (5, .int v_5)] → W p l e (({ frames := 2, cells := 0, slots := 0, locals := 47 } : Room)) s m args below meth c H locs 0 0 Q (F0 m 35 ls []) := by
  obtain ⟨hx, hb, hml, hown, hts, hK, hA⟩ := id C0
  obtain ⟨tF, hFZ, hFT⟩ := hE.2.2.2.2.2.2.2.2.2
  intro N
  induction N with
  | zero =>
    intro v_5 c_sp c_mv c_en H locs ls hw
    exact False.elim hw
  | succ N ih =>
    intro v_5 c_sp c_mv c_en H locs ls hw hP hD hS hl
    rw [lp_X0_linkTurn_35] at hw
    refine lv_iload hx hb dX0_linkTurn_35 (lv_at hl 4 rfl) ?_
    refine lv_aload_n hx hb dX0_linkTurn_37 rfl (lv_at hl 0 rfl) ?_
    refine va_get (D := D) (ci := 0) (v := .int c_sz) (C := RX0) (T := TX0) (N := 10) hx hb hts k_X0_linkTurn_X0 hown hK hP 0 rfl rfl 9 (by decide) (hts _ q_X0_linkTurn_4) (fun _ h9 => h9) rfl dX0_linkTurn_38 ?_
    refine lv_icmp_ge (tgt := 114) hx hb dX0_linkTurn_41 (by decide) (fun c_4 => ?_) (fun c_4 => ?_)
    · replace hw := hw.1 c_4
      exact k114 _ _ _ _ _ _ _ hw hP hD hS (lv_sub hl [0] rfl)
    · replace hw := hw.2 c_4
      refine lv_iconst (v := 0) hx hb dX0_linkTurn_44 (by decide) ?_
      refine lv_istore (lv' := [(6, .int 0), (0, .ref a_this), (2, .ref (r_Ra2 i_a2)), (3, .ref (r_en j_3)), (4, .ref (r_en j_4)), (5, .int v_5)]) hx hb dX0_linkTurn_45 hl (by decide) rfl (fun ls hl => ?_)
      obtain ⟨N_9, hw⟩ := hw
      refine l_X0_linkTurn_r_47 C0 hE hk_i_a2 hk_j_3 hk_j_4 (fun v_10 c_11 H locs ls hw hP hD hS hl => ?_) _ _ _ _ _ _ hw hP hD hS (lv_sub hl [1, 2, 3, 4, 5, 0] rfl)
      refine lv_aload_n hx hb dX0_linkTurn_78 rfl (lv_at hl 0 rfl) ?_
      refine va_get (D := D) (ci := 0) (v := .ref a_mv) (C := RX0) (T := TX0) (N := 10) hx hb hts k_X0_linkTurn_X0 hown hK hP 0 rfl rfl 4 (by decide) (hts _ q_X0_linkTurn_5) (fun _ h9 => h9) rfl dX0_linkTurn_79 ?_
      refine lv_aload_n hx hb dX0_linkTurn_82 rfl (lv_at hl 0 rfl) ?_
      refine va_get (D := D) (ci := 0) (v := .int c_pl) (C := RX0) (T := TX0) (N := 10) hx hb hts k_X0_linkTurn_X0 hown hK hP 0 rfl rfl 8 (by decide) (hts _ q_X0_linkTurn_3) (fun _ h9 => h9) rfl dX0_linkTurn_83 ?_
      refine j_calli (wr := (HAppend.hAppend (α := va_W) (β := va_W) (γ := va_W) (HAppend.hAppend (α := va_W) (β := va_W) (γ := va_W) [(a_this, .inr (0, [.int c_ro, .ref a_en, .ref a_wy, .ref a_sp, .ref a_mv, .ref a_A, .ref a_B, .ref a_C, .int c_pl, .int c_sz])), (a_en, .inl (cy 3, 12, .inr (.inr (.inr (.inr (rowsF r_en)))))), (a_sp, .inl (cy 0, 8, .inl c_sp)), (a_A, .inr (1, [.ref a_A_le, .ref a_A_fo, .int c_A_to, .int c_A_kn])), (a_B, .inr (1, [.ref a_B_le, .ref a_B_fo, .int c_B_to, .int c_B_kn]))] (rowsW (cy 0) r_en rm c_en)) (rowsW (cy 0) r_Ra2 8 c_Ra2))) (va_runSN (As := [.ref a_mv, .int c_pl]) (rest := []) ⟨hx, hb, hml, hown, hts⟩ (c_X2_codeOf l D cy a_mv c_11 c_pl hw H.size) ⟨va_cnB 2 hts gX0_linkTurn_X2_codeOf_n65 rfl rfl rfl hE.2.2.1 (hts _ q_X0_linkTurn_7) (by decide +kernel) ⟨Nat.le_of_ble_eq_true rfl, Nat.le_of_ble_eq_true rfl⟩, hts _ q_X0_linkTurn_9, trivial⟩ (j_preS hK hP hD (isC := [3]) rfl (by decide +kernel)) rfl rfl hl.1 rfl (lv_room (Nat.le_of_ble_eq_true rfl)) dX0_linkTurn_86 ⟨Nat.le_of_ble_eq_true rfl, Nat.le_of_ble_eq_true rfl⟩) hP hD hS hA [3] [0, 1, 2, 4, 5, 6, 7, 8, 9, 10, 11, 12, 13, 14, 15, 16, 17, 18, 19, 20, 21, 22, 23, 24, 25, 26, 27, 28, 29] rfl rfl (by decide +kernel) (by decide +kernel) (fun u_12 => (HAppend.hAppend (α := va_W) (β := va_W) (γ := va_W) (HAppend.hAppend (α := va_W) (β := va_W) (γ := va_W) [(a_this, .inr (0, [.int c_ro, .ref a_en, .ref a_wy, .ref a_sp, .ref a_mv, .ref a_A, .ref a_B, .ref a_C, .int c_pl, .int c_sz])), (a_en, .inl (cy 3, 12, .inr (.inr (.inr (.inr (rowsF r_en)))))), (a_sp, .inl (cy 0, 8, .inl c_sp)), (a_mv, .inl (cy 0, 8, .inl c_11)), (a_A, .inr (1, [.ref a_A_le, .ref a_A_fo, .int c_A_to, .int c_A_kn])), (a_B, .inr (1, [.ref a_B_le, .ref a_B_fo, .int c_B_to, .int c_B_kn]))] (rowsW (cy 0) r_en rm c_en)) (rowsW (cy 0) r_Ra2 8 c_Ra2))) [0, 1, 2, 29, 3, 4, 5, 6, 7, 8, 9, 10, 11, 12, 13, 14, 15, 16, 17, 18, 19, 20, 21, 22, 23, 24, 25, 26, 27, 28] (by decide +kernel) (fun u => rfl) (fun r_13 u_12 H locs hw hP hD hS => ?_)
      have hP : va_P D vwCl ((HAppend.hAppend (α := va_W) (β := va_W) (γ := va_W) (HAppend.hAppend (α := va_W) (β := va_W) (γ := va_W) [(a_this, .inr (0, [.int c_ro, .ref a_en, .ref a_wy, .ref a_sp, .ref a_mv, .ref a_A, .ref a_B, .ref a_C, .int c_pl, .int c_sz])), (a_en, .inl (cy 3, 12, .inr (.inr (.inr (.inr (rowsF r_en)))))), (a_sp, .inl (cy 0, 8, .inl c_sp)), (a_mv, .inl (cy 0, 8, .inl c_11)), (a_A, .inr (1, [.ref a_A_le, .ref a_A_fo, .int c_A_to, .int c_A_kn])), (a_B, .inr (1, [.ref a_B_le, .ref a_B_fo, .int c_B_to, .int c_B_kn]))] (rowsW (cy 0) r_en rm c_en)) (rowsW (cy 0) r_Ra2 8 c_Ra2))) H := hP
      have hD : va_D A ((HAppend.hAppend (α := va_W) (β := va_W) (γ := va_W) (HAppend.hAppend (α := va_W) (β := va_W) (γ := va_W) [(a_this, .inr (0, [.int c_ro, .ref a_en, .ref a_wy, .ref a_sp, .ref a_mv, .ref a_A, .ref a_B, .ref a_C, .int c_pl, .int c_sz])), (a_en, .inl (cy 3, 12, .inr (.inr (.inr (.inr (rowsF r_en)))))), (a_sp, .inl (cy 0, 8, .inl c_sp)), (a_mv, .inl (cy 0, 8, .inl c_11)), (a_A, .inr (1, [.ref a_A_le, .ref a_A_fo, .int c_A_to, .int c_A_kn])), (a_B, .inr (1, [.ref a_B_le, .ref a_B_fo, .int c_B_to, .int c_B_kn]))] (rowsW (cy 0) r_en rm c_en)) (rowsW (cy 0) r_Ra2 8 c_Ra2))) := hD
      refine lv_istore (lv' := [(6, .int r_13), (0, .ref a_this), (2, .ref (r_Ra2 i_a2)), (3, .ref (r_en j_3)), (4, .ref (r_en j_4)), (5, .int v_5)]) hx hb dX0_linkTurn_89 hl (by decide) rfl (fun ls hl => ?_)
      refine lv_aload_n hx hb dX0_linkTurn_91 rfl (lv_at hl 3 rfl) ?_
      refine lv_iload hx hb dX0_linkTurn_92 (lv_at hl 5 rfl) ?_
      refine lv_iload hx hb dX0_linkTurn_94 (lv_at hl 0 rfl) ?_
      obtain ⟨h_14, hw⟩ := hw
      refine va_iast hx hb hK hP hD hS _ 0 (rowsW_get2 _ _ _ _ _ _ hk_j_3) rfl h_14 dX0_linkTurn_96 (fun H locs hP hD hS => ?_)
      rw [rowsW_set2 _ _ _ _ _ _ _ hk_j_3] at hP hD
      have hP : va_P D vwCl ((HAppend.hAppend (α := va_W) (β := va_W) (γ := va_W) (HAppend.hAppend (α := va_W) (β := va_W) (γ := va_W) [(a_this, .inr (0, [.int c_ro, .ref a_en, .ref a_wy, .ref a_sp, .ref a_mv, .ref a_A, .ref a_B, .ref a_C, .int c_pl, .int c_sz])), (a_en, .inl (cy 3, 12, .inr (.inr (.inr (.inr (rowsF r_en)))))), (a_sp, .inl (cy 0, 8, .inl c_sp)), (a_mv, .inl (cy 0, 8, .inl c_11)), (a_A, .inr (1, [.ref a_A_le, .ref a_A_fo, .int c_A_to, .int c_A_kn])), (a_B, .inr (1, [.ref a_B_le, .ref a_B_fo, .int c_B_to, .int c_B_kn]))] (rowsW (cy 0) r_en rm (rowsU c_en j_3 (upd (c_en j_3) (v_5 : Int32).toNatClampNeg r_13)))) (rowsW (cy 0) r_Ra2 8 c_Ra2))) H := hP
      have hD : va_D A ((HAppend.hAppend (α := va_W) (β := va_W) (γ := va_W) (HAppend.hAppend (α := va_W) (β := va_W) (γ := va_W) [(a_this, .inr (0, [.int c_ro, .ref a_en, .ref a_wy, .ref a_sp, .ref a_mv, .ref a_A, .ref a_B, .ref a_C, .int c_pl, .int c_sz])), (a_en, .inl (cy 3, 12, .inr (.inr (.inr (.inr (rowsF r_en)))))), (a_sp, .inl (cy 0, 8, .inl c_sp)), (a_mv, .inl (cy 0, 8, .inl c_11)), (a_A, .inr (1, [.ref a_A_le, .ref a_A_fo, .int c_A_to, .int c_A_kn])), (a_B, .inr (1, [.ref a_B_le, .ref a_B_fo, .int c_B_to, .int c_B_kn]))] (rowsW (cy 0) r_en rm (rowsU c_en j_3 (upd (c_en j_3) (v_5 : Int32).toNatClampNeg r_13)))) (rowsW (cy 0) r_Ra2 8 c_Ra2))) := hD
      refine lv_aload hx hb dX0_linkTurn_97 (lv_at hl 4 rfl) ?_
      refine lv_iload hx hb dX0_linkTurn_99 (lv_at hl 0 rfl) ?_
      refine lv_iload hx hb dX0_linkTurn_101 (lv_at hl 5 rfl) ?_
      obtain ⟨h_15, hw⟩ := hw
      refine va_iast hx hb hK hP hD hS _ 0 (rowsW_get2 _ _ _ _ _ _ hk_j_4) rfl h_15 dX0_linkTurn_103 (fun H locs hP hD hS => ?_)
      rw [rowsW_set2 _ _ _ _ _ _ _ hk_j_4] at hP hD
      have hP : va_P D vwCl ((HAppend.hAppend (α := va_W) (β := va_W) (γ := va_W) (HAppend.hAppend (α := va_W) (β := va_W) (γ := va_W) [(a_this, .inr (0, [.int c_ro, .ref a_en, .ref a_wy, .ref a_sp, .ref a_mv, .ref a_A, .ref a_B, .ref a_C, .int c_pl, .int c_sz])), (a_en, .inl (cy 3, 12, .inr (.inr (.inr (.inr (rowsF r_en)))))), (a_sp, .inl (cy 0, 8, .inl c_sp)), (a_mv, .inl (cy 0, 8, .inl c_11)), (a_A, .inr (1, [.ref a_A_le, .ref a_A_fo, .int c_A_to, .int c_A_kn])), (a_B, .inr (1, [.ref a_B_le, .ref a_B_fo, .int c_B_to, .int c_B_kn]))] (rowsW (cy 0) r_en rm (rowsU (rowsU c_en j_3 (upd (c_en j_3) (v_5 : Int32).toNatClampNeg r_13)) j_4 (upd ((rowsU c_en j_3 (upd (c_en j_3) (v_5 : Int32).toNatClampNeg r_13)) j_4) (r_13 : Int32).toNatClampNeg v_5)))) (rowsW (cy 0) r_Ra2 8 c_Ra2))) H := hP
      have hD : va_D A ((HAppend.hAppend (α := va_W) (β := va_W) (γ := va_W) (HAppend.hAppend (α := va_W) (β := va_W) (γ := va_W) [(a_this, .inr (0, [.int c_ro, .ref a_en, .ref a_wy, .ref a_sp, .ref a_mv, .ref a_A, .ref a_B, .ref a_C, .int c_pl, .int c_sz])), (a_en, .inl (cy 3, 12, .inr (.inr (.inr (.inr (rowsF r_en)))))), (a_sp, .inl (cy 0, 8, .inl c_sp)), (a_mv, .inl (cy 0, 8, .inl c_11)), (a_A, .inr (1, [.ref a_A_le, .ref a_A_fo, .int c_A_to, .int c_A_kn])), (a_B, .inr (1, [.ref a_B_le, .ref a_B_fo, .int c_B_to, .int c_B_kn]))] (rowsW (cy 0) r_en rm (rowsU (rowsU c_en j_3 (upd (c_en j_3) (v_5 : Int32).toNatClampNeg r_13)) j_4 (upd ((rowsU c_en j_3 (upd (c_en j_3) (v_5 : Int32).toNatClampNeg r_13)) j_4) (r_13 : Int32).toNatClampNeg v_5)))) (rowsW (cy 0) r_Ra2 8 c_Ra2))) := hD
      refine lv_aload_n hx hb dX0_linkTurn_104 rfl (lv_at hl 1 rfl) ?_
      refine j_callv (wr := (HAppend.hAppend (α := va_W) (β := va_W) (γ := va_W) (HAppend.hAppend (α := va_W) (β := va_W) (γ := va_W) [(a_en, .inl (cy 3, 12, .inr (.inr (.inr (.inr (rowsF r_en)))))), (a_mv, .inl (cy 0, 8, .inl c_11)), (a_A, .inr (1, [.ref a_A_le, .ref a_A_fo, .int c_A_to, .int c_A_kn])), (a_B, .inr (1, [.ref a_B_le, .ref a_B_fo, .int c_B_to, .int c_B_kn]))] (rowsW (cy 0) r_en rm (rowsU (rowsU c_en j_3 (upd (c_en j_3) (v_5 : Int32).toNatClampNeg r_13)) j_4 (upd ((rowsU c_en j_3 (upd (c_en j_3) (v_5 : Int32).toNatClampNeg r_13)) j_4) (r_13 : Int32).toNatClampNeg v_5)))) (rowsW (cy 0) r_Ra2 8 c_Ra2))) (va_runV (As := []) (rest := []) ⟨hx, hb, hml, hown, hts⟩ (c_X0_advanceSpots l D cy a_this a_en a_wy a_sp a_mv a_A a_B a_C c_ro c_pl c_sz c_sp hw H.size) (cwV 0 hts gX0_linkTurn_X0_advanceSpots rfl rfl rfl (by decide +kernel) ⟨Nat.le_of_ble_eq_true rfl, Nat.le_of_ble_eq_true rfl⟩) (j_preV hK hP hD (isC := [0, 2]) rfl (by decide +kernel) (ci := 0) (q0 := 0) rfl rfl) rfl rfl hl.1 rfl (lv_room (Nat.le_of_ble_eq_true rfl)) dX0_linkTurn_105 ⟨Nat.le_of_ble_eq_true rfl, Nat.le_of_ble_eq_true rfl⟩) hP hD hS hA [0, 2] [1, 3, 4, 5, 6, 7, 8, 9, 10, 11, 12, 13, 14, 15, 16, 17, 18, 19, 20, 21, 22, 23, 24, 25, 26, 27, 28, 29] rfl rfl (by decide +kernel) (by decide +kernel) (fun u_16 => (HAppend.hAppend (α := va_W) (β := va_W) (γ := va_W) (HAppend.hAppend (α := va_W) (β := va_W) (γ := va_W) [(a_this, .inr (0, [.int c_ro, .ref a_en, .ref a_wy, .ref a_sp, .ref a_mv, .ref a_A, .ref a_B, .ref a_C, .int c_pl, .int c_sz])), (a_en, .inl (cy 3, 12, .inr (.inr (.inr (.inr (rowsF r_en)))))), (a_sp, .inl (cy 0, 8, .inl u_16)), (a_mv, .inl (cy 0, 8, .inl c_11)), (a_A, .inr (1, [.ref a_A_le, .ref a_A_fo, .int c_A_to, .int c_A_kn])), (a_B, .inr (1, [.ref a_B_le, .ref a_B_fo, .int c_B_to, .int c_B_kn]))] (rowsW (cy 0) r_en rm (rowsU (rowsU c_en j_3 (upd (c_en j_3) (v_5 : Int32).toNatClampNeg r_13)) j_4 (upd ((rowsU c_en j_3 (upd (c_en j_3) (v_5 : Int32).toNatClampNeg r_13)) j_4) (r_13 : Int32).toNatClampNeg v_5)))) (rowsW (cy 0) r_Ra2 8 c_Ra2))) [28, 0, 29, 1, 2, 3, 4, 5, 6, 7, 8, 9, 10, 11, 12, 13, 14, 15, 16, 17, 18, 19, 20, 21, 22, 23, 24, 25, 26, 27] (by decide +kernel) (fun u => rfl) (fun u_16 H locs hw hP hD hS => ?_)
      have hP : va_P D vwCl ((HAppend.hAppend (α := va_W) (β := va_W) (γ := va_W) (HAppend.hAppend (α := va_W) (β := va_W) (γ := va_W) [(a_this, .inr (0, [.int c_ro, .ref a_en, .ref a_wy, .ref a_sp, .ref a_mv, .ref a_A, .ref a_B, .ref a_C, .int c_pl, .int c_sz])), (a_en, .inl (cy 3, 12, .inr (.inr (.inr (.inr (rowsF r_en)))))), (a_sp, .inl (cy 0, 8, .inl u_16)), (a_mv, .inl (cy 0, 8, .inl c_11)), (a_A, .inr (1, [.ref a_A_le, .ref a_A_fo, .int c_A_to, .int c_A_kn])), (a_B, .inr (1, [.ref a_B_le, .ref a_B_fo, .int c_B_to, .int c_B_kn]))] (rowsW (cy 0) r_en rm (rowsU (rowsU c_en j_3 (upd (c_en j_3) (v_5 : Int32).toNatClampNeg r_13)) j_4 (upd ((rowsU c_en j_3 (upd (c_en j_3) (v_5 : Int32).toNatClampNeg r_13)) j_4) (r_13 : Int32).toNatClampNeg v_5)))) (rowsW (cy 0) r_Ra2 8 c_Ra2))) H := hP
      have hD : va_D A ((HAppend.hAppend (α := va_W) (β := va_W) (γ := va_W) (HAppend.hAppend (α := va_W) (β := va_W) (γ := va_W) [(a_this, .inr (0, [.int c_ro, .ref a_en, .ref a_wy, .ref a_sp, .ref a_mv, .ref a_A, .ref a_B, .ref a_C, .int c_pl, .int c_sz])), (a_en, .inl (cy 3, 12, .inr (.inr (.inr (.inr (rowsF r_en)))))), (a_sp, .inl (cy 0, 8, .inl u_16)), (a_mv, .inl (cy 0, 8, .inl c_11)), (a_A, .inr (1, [.ref a_A_le, .ref a_A_fo, .int c_A_to, .int c_A_kn])), (a_B, .inr (1, [.ref a_B_le, .ref a_B_fo, .int c_B_to, .int c_B_kn]))] (rowsW (cy 0) r_en rm (rowsU (rowsU c_en j_3 (upd (c_en j_3) (v_5 : Int32).toNatClampNeg r_13)) j_4 (upd ((rowsU c_en j_3 (upd (c_en j_3) (v_5 : Int32).toNatClampNeg r_13)) j_4) (r_13 : Int32).toNatClampNeg v_5)))) (rowsW (cy 0) r_Ra2 8 c_Ra2))) := hD
      refine lv_iinc (v := v_5 + 1) (lv' := [(5, .int (v_5 + 1)), (6, .int r_13), (0, .ref a_this), (2, .ref (r_Ra2 i_a2)), (3, .ref (r_en j_3)), (4, .ref (r_en j_4))]) hx hb dX0_linkTurn_108 hl (k := 5) rfl rfl (by decide) rfl (fun ls hl => ?_)
      refine lv_goto (tgt := 35) hx hb dX0_linkTurn_111 (by decide) ?_
      exact ih _ _ _ _ _ _ _ hw hP hD hS (lv_sub hl [2, 3, 4, 5, 0] rfl)
set_option maxHeartbeats 4000000 in
set_option maxRecDepth 100000 in
theorem c_X0_linkTurn_r (l : Launch) (D : va_G) (cy : Nat → ClassId) (a_this : Nat) (a_en : Nat) (a_wy : Nat) (a_sp : Nat) (a_mv : Nat) (a_A : Nat) (a_B : Nat) (a_C : Nat) (r_en : Nat → Nat) (a_A_le : Nat) (a_A_fo : Nat) (a_B_le : Nat) (a_B_fo : Nat) (r_Ra2 : Nat → Nat) (c_ro : Int32) (c_pl : Int32) (c_sz : Int32) (c_sp : Nat → Int32) (c_mv : Nat → Int32) (c_A_to : Int32) (c_A_kn : Int32) (c_B_to : Int32) (c_B_kn : Int32) (c_en : Nat → Nat → Int32) (c_Ra2 : Nat → Nat → Int32) (rm : Nat) (p_1 : Int32) (i_a2 : Nat) (hk_i_a2 : i_a2 < 12) {post : ((Nat → Int32) × (Nat → Int32) × Int32 × Int32 × (Nat → Nat → Int32)) → Prop} (hw : wp_X0_linkTurn c_pl c_sz c_sp c_mv (c_Ra2 i_a2) c_en rm p_1 post) (sz : Nat) : Met l yX0_linkTurn wsX0_linkTurn ({ frames := 2, cells := 0, slots := 0, locals := 47 }) (va_Pc [.ref a_this, .int p_1, .ref (r_Ra2 i_a2)] (PreE D cy ((HAppend.hAppend (α := va_W) (β := va_W) (γ := va_W) (HAppend.hAppend (α := va_W) (β := va_W) (γ := va_W) [(a_this, .inr (0, [.int c_ro, .ref a_en, .ref a_wy, .ref a_sp, .ref a_mv, .ref a_A, .ref a_B, .ref a_C, .int c_pl, .int c_sz])), (a_en, .inl (cy 3, 12, .inr (.inr (.inr (.inr (rowsF r_en)))))), (a_sp, .inl (cy 0, 8, .inl c_sp)), (a_mv, .inl (cy 0, 8, .inl c_mv)), (a_A, .inr (1, [.ref a_A_le, .ref a_A_fo, .int c_A_to, .int c_A_kn])), (a_B, .inr (1, [.ref a_B_le, .ref a_B_fo, .int c_B_to, .int c_B_kn]))] (rowsW (cy 0) r_en rm c_en)) (rowsW (cy 0) r_Ra2 8 c_Ra2))) sz)) (va_Qv post (fun u t => PostW D cy (va_A ((HAppend.hAppend (α := va_W) (β := va_W) (γ := va_W) (HAppend.hAppend (α := va_W) (β := va_W) (γ := va_W) [(a_this, .inr (0, [.int c_ro, .ref a_en, .ref a_wy, .ref a_sp, .ref a_mv, .ref a_A, .ref a_B, .ref a_C, .int c_pl, .int c_sz])), (a_en, .inl (cy 3, 12, .inr (.inr (.inr (.inr (rowsF r_en)))))), (a_sp, .inl (cy 0, 8, .inl c_sp)), (a_mv, .inl (cy 0, 8, .inl c_mv)), (a_A, .inr (1, [.ref a_A_le, .ref a_A_fo, .int c_A_to, .int c_A_kn])), (a_B, .inr (1, [.ref a_B_le, .ref a_B_fo, .int c_B_to, .int c_B_kn]))] (rowsW (cy 0) r_en rm c_en)) (rowsW (cy 0) r_Ra2 8 c_Ra2))) sz) ((HAppend.hAppend (α := va_W) (β := va_W) (γ := va_W) (HAppend.hAppend (α := va_W) (β := va_W) (γ := va_W) [(a_this, .inr (0, [.int c_ro, .ref a_en, .ref a_wy, .ref a_sp, .ref a_mv, .ref a_A, .ref a_B, .ref a_C, .int c_pl, .int c_sz])), (a_en, .inl (cy 3, 12, .inr (.inr (.inr (.inr (rowsF r_en)))))), (a_sp, .inl (cy 0, 8, .inl u.1)), (a_mv, .inl (cy 0, 8, .inl u.2.1)), (a_A, .inr (1, [.ref a_A_le, .ref a_A_fo, .int c_A_to, .int u.2.2.1])), (a_B, .inr (1, [.ref a_B_le, .ref a_B_fo, .int c_B_to, .int u.2.2.2.1]))] (rowsW (cy 0) r_en rm u.2.2.2.2)) (rowsW (cy 0) r_Ra2 8 c_Ra2))) t) (va_A ((HAppend.hAppend (α := va_W) (β := va_W) (γ := va_W) (HAppend.hAppend (α := va_W) (β := va_W) (γ := va_W) [(a_this, .inr (0, [.int c_ro, .ref a_en, .ref a_wy, .ref a_sp, .ref a_mv, .ref a_A, .ref a_B, .ref a_C, .int c_pl, .int c_sz])), (a_en, .inl (cy 3, 12, .inr (.inr (.inr (.inr (rowsF r_en)))))), (a_sp, .inl (cy 0, 8, .inl c_sp)), (a_mv, .inl (cy 0, 8, .inl c_mv)), (a_A, .inr (1, [.ref a_A_le, .ref a_A_fo, .int c_A_to, .int c_A_kn])), (a_B, .inr (1, [.ref a_B_le, .ref a_B_fo, .int c_B_to, .int c_B_kn]))] (rowsW (cy 0) r_en rm c_en)) (rowsW (cy 0) r_Ra2 8 c_Ra2))) sz)) 0 0 (va_A ((HAppend.hAppend (α := va_W) (β := va_W) (γ := va_W) (HAppend.hAppend (α := va_W) (β := va_W) (γ := va_W) [(a_this, .inr (0, [.int c_ro, .ref a_en, .ref a_wy, .ref a_sp, .ref a_mv, .ref a_A, .ref a_B, .ref a_C, .int c_pl, .int c_sz])), (a_en, .inl (cy 3, 12, .inr (.inr (.inr (.inr (rowsF r_en)))))), (a_sp, .inl (cy 0, 8, .inl c_sp)), (a_mv, .inl (cy 0, 8, .inl c_mv)), (a_A, .inr (1, [.ref a_A_le, .ref a_A_fo, .int c_A_to, .int c_A_kn])), (a_B, .inr (1, [.ref a_B_le, .ref a_B_fo, .int c_B_to, .int c_B_kn]))] (rowsW (cy 0) r_en rm c_en)) (rowsW (cy 0) r_Ra2 8 c_Ra2))) sz) := by
  refine j_metE (l := l) (y := yX0_linkTurn) (ws := wsX0_linkTurn) (D := D) (cy := cy) (sz := sz) (av := [.ref a_this, .int p_1, .ref (r_Ra2 i_a2)]) (Qc := fun A => va_Qv post (fun u t => PostW D cy A ((HAppend.hAppend (α := va_W) (β := va_W) (γ := va_W) (HAppend.hAppend (α := va_W) (β := va_W) (γ := va_W) [(a_this, .inr (0, [.int c_ro, .ref a_en, .ref a_wy, .ref a_sp, .ref a_mv, .ref a_A, .ref a_B, .ref a_C, .int c_pl, .int c_sz])), (a_en, .inl (cy 3, 12, .inr (.inr (.inr (.inr (rowsF r_en)))))), (a_sp, .inl (cy 0, 8, .inl u.1)), (a_mv, .inl (cy 0, 8, .inl u.2.1)), (a_A, .inr (1, [.ref a_A_le, .ref a_A_fo, .int c_A_to, .int u.2.2.1])), (a_B, .inr (1, [.ref a_B_le, .ref a_B_fo, .int c_B_to, .int u.2.2.2.1]))] (rowsW (cy 0) r_en rm u.2.2.2.2)) (rowsW (cy 0) r_Ra2 8 c_Ra2))) t) A) (by decide +kernel) rfl (Nat.le_of_ble_eq_true rfl) ?_
  intro p e s m below meth c A ls C0 hr hlocks hP hD hS hl hE hin
  obtain ⟨hx, hb, hml, hown, hts, hK, hA⟩ := id C0
  have hown : s.vm.findClass RX0 = some m.cls := hown
  have hl : lv_has ls 7 [(0, .ref a_this), (1, .int p_1), (2, .ref (r_Ra2 i_a2))] := hl
  obtain ⟨tF, hFZ, hFT⟩ := hE.2.2.2.2.2.2.2.2.2
  unfold wp_X0_linkTurn at hw
  refine lv_aload_n hx hb dX0_linkTurn_0 rfl (lv_at hl 0 rfl) ?_
  refine va_get (D := D) (ci := 0) (v := .ref a_en) (C := RX0) (T := TX0) (N := 10) hx hb hts k_X0_linkTurn_X0 hown hK hP 0 rfl rfl 1 (by decide) (hts _ q_X0_linkTurn_1) (fun _ h9 => h9) rfl dX0_linkTurn_1 ?_
  refine lv_iconst (v := 2) hx hb dX0_linkTurn_4 (by decide) ?_
  refine lv_iload_n hx hb dX0_linkTurn_5 rfl (lv_at hl 1 rfl) ?_
  refine lv_imul hx hb dX0_linkTurn_6 ?_
  obtain ⟨h_1, hw⟩ := hw
  refine j_aald hx hb hK hP 1 3 rfl rfl h_1 dX0_linkTurn_7 ?_
  refine lv_astore_n (lv' := [(3, .ref (r_en ((2 * p_1 : Int32).toNatClampNeg))), (0, .ref a_this), (1, .int p_1), (2, .ref (r_Ra2 i_a2))]) hx hb dX0_linkTurn_8 rfl hl (by decide) rfl (fun ls hl => ?_)
  refine lv_aload_n hx hb dX0_linkTurn_9 rfl (lv_at hl 1 rfl) ?_
  refine va_get (D := D) (ci := 0) (v := .ref a_en) (C := RX0) (T := TX0) (N := 10) hx hb hts k_X0_linkTurn_X0 hown hK hP 0 rfl rfl 1 (by decide) (hts _ q_X0_linkTurn_1) (fun _ h9 => h9) rfl dX0_linkTurn_10 ?_
  refine lv_iconst (v := 2) hx hb dX0_linkTurn_13 (by decide) ?_
  refine lv_iload_n hx hb dX0_linkTurn_14 rfl (lv_at hl 2 rfl) ?_
  refine lv_imul hx hb dX0_linkTurn_15 ?_
  refine lv_iconst (v := 1) hx hb dX0_linkTurn_16 (by decide) ?_
  refine lv_iadd hx hb dX0_linkTurn_17 ?_
  obtain ⟨h_2, hw⟩ := hw
  refine j_aald hx hb hK hP 1 3 rfl rfl h_2 dX0_linkTurn_18 ?_
  refine lv_astore (lv' := [(4, .ref (r_en (((2 * p_1) + 1 : Int32).toNatClampNeg))), (3, .ref (r_en ((2 * p_1 : Int32).toNatClampNeg))), (0, .ref a_this), (1, .int p_1), (2, .ref (r_Ra2 i_a2))]) hx hb dX0_linkTurn_19 hl (by decide) rfl (fun ls hl => ?_)
  refine lv_aload_n hx hb dX0_linkTurn_21 rfl (lv_at hl 2 rfl) ?_
  refine va_get (D := D) (ci := 0) (v := .ref a_sp) (C := RX0) (T := TX0) (N := 10) hx hb hts k_X0_linkTurn_X0 hown hK hP 0 rfl rfl 3 (by decide) (hts _ q_X0_linkTurn_2) (fun _ h9 => h9) rfl dX0_linkTurn_22 ?_
  refine lv_aload_n hx hb dX0_linkTurn_25 rfl (lv_at hl 2 rfl) ?_
  refine va_get (D := D) (ci := 0) (v := .int c_pl) (C := RX0) (T := TX0) (N := 10) hx hb hts k_X0_linkTurn_X0 hown hK hP 0 rfl rfl 8 (by decide) (hts _ q_X0_linkTurn_3) (fun _ h9 => h9) rfl dX0_linkTurn_26 ?_
  refine j_callv (wr := (HAppend.hAppend (α := va_W) (β := va_W) (γ := va_W) (HAppend.hAppend (α := va_W) (β := va_W) (γ := va_W) [(a_this, .inr (0, [.int c_ro, .ref a_en, .ref a_wy, .ref a_sp, .ref a_mv, .ref a_A, .ref a_B, .ref a_C, .int c_pl, .int c_sz])), (a_en, .inl (cy 3, 12, .inr (.inr (.inr (.inr (rowsF r_en)))))), (a_mv, .inl (cy 0, 8, .inl c_mv)), (a_A, .inr (1, [.ref a_A_le, .ref a_A_fo, .int c_A_to, .int c_A_kn])), (a_B, .inr (1, [.ref a_B_le, .ref a_B_fo, .int c_B_to, .int c_B_kn]))] (rowsW (cy 0) r_en rm c_en)) (rowsW (cy 0) r_Ra2 8 c_Ra2))) (va_runSN (As := [.ref a_sp, .int c_pl]) (rest := []) ⟨hx, hb, hml, hown, hts⟩ (c_X2_setSolved l D cy a_sp c_sp c_pl hw s.heap.size) ⟨va_cnB 2 hts gX0_linkTurn_X2_setSolved_n61 rfl rfl rfl hE.2.1 (hts _ q_X0_linkTurn_7) (by decide +kernel) ⟨Nat.le_of_ble_eq_true rfl, Nat.le_of_ble_eq_true rfl⟩, hts _ q_X0_linkTurn_6, trivial⟩ (j_preS hK hP hD (isC := [2]) rfl (by decide +kernel)) rfl rfl hl.1 rfl (lv_room (Nat.le_of_ble_eq_true rfl)) dX0_linkTurn_29 ⟨Nat.le_of_ble_eq_true rfl, Nat.le_of_ble_eq_true rfl⟩) hP hD hS hA [2] [0, 1, 3, 4, 5, 6, 7, 8, 9, 10, 11, 12, 13, 14, 15, 16, 17, 18, 19, 20, 21, 22, 23, 24, 25, 26, 27, 28, 29] rfl rfl (by decide +kernel) (by decide +kernel) (fun u_3 => (HAppend.hAppend (α := va_W) (β := va_W) (γ := va_W) (HAppend.hAppend (α := va_W) (β := va_W) (γ := va_W) [(a_this, .inr (0, [.int c_ro, .ref a_en, .ref a_wy, .ref a_sp, .ref a_mv, .ref a_A, .ref a_B, .ref a_C, .int c_pl, .int c_sz])), (a_en, .inl (cy 3, 12, .inr (.inr (.inr (.inr (rowsF r_en)))))), (a_sp, .inl (cy 0, 8, .inl u_3)), (a_mv, .inl (cy 0, 8, .inl c_mv)), (a_A, .inr (1, [.ref a_A_le, .ref a_A_fo, .int c_A_to, .int c_A_kn])), (a_B, .inr (1, [.ref a_B_le, .ref a_B_fo, .int c_B_to, .int c_B_kn]))] (rowsW (cy 0) r_en rm c_en)) (rowsW (cy 0) r_Ra2 8 c_Ra2))) [0, 1, 29, 2, 3, 4, 5, 6, 7, 8, 9, 10, 11, 12, 13, 14, 15, 16, 17, 18, 19, 20, 21, 22, 23, 24, 25, 26, 27, 28] (by decide +kernel) (fun u => rfl) (fun u_3 H locs hw hP hD hS => ?_)
  have hP : va_P D vwCl ((HAppend.hAppend (α := va_W) (β := va_W) (γ := va_W) (HAppend.hAppend (α := va_W) (β := va_W) (γ := va_W) [(a_this, .inr (0, [.int c_ro, .ref a_en, .ref a_wy, .ref a_sp, .ref a_mv, .ref a_A, .ref a_B, .ref a_C, .int c_pl, .int c_sz])), (a_en, .inl (cy 3, 12, .inr (.inr (.inr (.inr (rowsF r_en)))))), (a_sp, .inl (cy 0, 8, .inl u_3)), (a_mv, .inl (cy 0, 8, .inl c_mv)), (a_A, .inr (1, [.ref a_A_le, .ref a_A_fo, .int c_A_to, .int c_A_kn])), (a_B, .inr (1, [.ref a_B_le, .ref a_B_fo, .int c_B_to, .int c_B_kn]))] (rowsW (cy 0) r_en rm c_en)) (rowsW (cy 0) r_Ra2 8 c_Ra2))) H := hP
  have hD : va_D A ((HAppend.hAppend (α := va_W) (β := va_W) (γ := va_W) (HAppend.hAppend (α := va_W) (β := va_W) (γ := va_W) [(a_this, .inr (0, [.int c_ro, .ref a_en, .ref a_wy, .ref a_sp, .ref a_mv, .ref a_A, .ref a_B, .ref a_C, .int c_pl, .int c_sz])), (a_en, .inl (cy 3, 12, .inr (.inr (.inr (.inr (rowsF r_en)))))), (a_sp, .inl (cy 0, 8, .inl u_3)), (a_mv, .inl (cy 0, 8, .inl c_mv)), (a_A, .inr (1, [.ref a_A_le, .ref a_A_fo, .int c_A_to, .int c_A_kn])), (a_B, .inr (1, [.ref a_B_le, .ref a_B_fo, .int c_B_to, .int c_B_kn]))] (rowsW (cy 0) r_en rm c_en)) (rowsW (cy 0) r_Ra2 8 c_Ra2))) := hD
  refine lv_iconst (v := 0) hx hb dX0_linkTurn_32 (by decide) ?_
  refine lv_istore (lv' := [(5, .int 0), (4, .ref (r_en (((2 * p_1) + 1 : Int32).toNatClampNeg))), (3, .ref (r_en ((2 * p_1 : Int32).toNatClampNeg))), (0, .ref a_this), (1, .int p_1), (2, .ref (r_Ra2 i_a2))]) hx hb dX0_linkTurn_33 hl (by decide) rfl (fun ls hl => ?_)
  obtain ⟨N_17, hw⟩ := hw
  refine l_X0_linkTurn_r_35 C0 hE hk_i_a2 (j_lt12 h_1) (j_lt12 h_2) (fun v_18 c_19 c_20 c_21 H locs ls hw hP hD hS hl => ?_) _ _ _ _ _ _ _ _ hw hP hD hS (lv_sub hl [3, 5, 2, 1, 0] rfl)
  refine lv_aload_n hx hb dX0_linkTurn_114 rfl (lv_at hl 0 rfl) ?_
  refine j_callv (wr := (HAppend.hAppend (α := va_W) (β := va_W) (γ := va_W) (HAppend.hAppend (α := va_W) (β := va_W) (γ := va_W) [(a_en, .inl (cy 3, 12, .inr (.inr (.inr (.inr (rowsF r_en)))))), (a_sp, .inl (cy 0, 8, .inl c_19)), (a_mv, .inl (cy 0, 8, .inl c_20))] (rowsW (cy 0) r_en rm c_21)) (rowsW (cy 0) r_Ra2 8 c_Ra2))) (va_runV (As := []) (rest := []) ⟨hx, hb, hml, hown, hts⟩ (c_X0_forgetSearches l D cy a_this a_en a_wy a_sp a_mv a_A a_B a_C a_A_le a_A_fo a_B_le a_B_fo c_ro c_pl c_sz c_A_to c_A_kn c_B_to c_B_kn hw H.size) (cwV 0 hts gX0_linkTurn_X0_forgetSearches rfl rfl rfl (by decide +kernel) ⟨Nat.le_of_ble_eq_true rfl, Nat.le_of_ble_eq_true rfl⟩) (j_preV hK hP hD (isC := [0, 4, 5]) rfl (by decide +kernel) (ci := 0) (q0 := 0) rfl rfl) rfl rfl hl.1 rfl (lv_room (Nat.le_of_ble_eq_true rfl)) dX0_linkTurn_115 ⟨Nat.le_of_ble_eq_true rfl, Nat.le_of_ble_eq_true rfl⟩) hP hD hS hA [0, 4, 5] [1, 2, 3, 6, 7, 8, 9, 10, 11, 12, 13, 14, 15, 16, 17, 18, 19, 20, 21, 22, 23, 24, 25, 26, 27, 28, 29] rfl rfl (by decide +kernel) (by decide +kernel) (fun u_22 => (HAppend.hAppend (α := va_W) (β := va_W) (γ := va_W) (HAppend.hAppend (α := va_W) (β := va_W) (γ := va_W) [(a_this, .inr (0, [.int c_ro, .ref a_en, .ref a_wy, .ref a_sp, .ref a_mv, .ref a_A, .ref a_B, .ref a_C, .int c_pl, .int c_sz])), (a_en, .inl (cy 3, 12, .inr (.inr (.inr (.inr (rowsF r_en)))))), (a_sp, .inl (cy 0, 8, .inl c_19)), (a_mv, .inl (cy 0, 8, .inl c_20)), (a_A, .inr (1, [.ref a_A_le, .ref a_A_fo, .int c_A_to, .int u_22.1])), (a_B, .inr (1, [.ref a_B_le, .ref a_B_fo, .int c_B_to, .int u_22.2]))] (rowsW (cy 0) r_en rm c_21)) (rowsW (cy 0) r_Ra2 8 c_Ra2))) [27, 0, 1, 2, 28, 29, 3, 4, 5, 6, 7, 8, 9, 10, 11, 12, 13, 14, 15, 16, 17, 18, 19, 20, 21, 22, 23, 24, 25, 26] (by decide +kernel) (fun u => rfl) (fun u_22 H locs hw hP hD hS => ?_)
  have hP : va_P D vwCl ((HAppend.hAppend (α := va_W) (β := va_W) (γ := va_W) (HAppend.hAppend (α := va_W) (β := va_W) (γ := va_W) [(a_this, .inr (0, [.int c_ro, .ref a_en, .ref a_wy, .ref a_sp, .ref a_mv, .ref a_A, .ref a_B, .ref a_C, .int c_pl, .int c_sz])), (a_en, .inl (cy 3, 12, .inr (.inr (.inr (.inr (rowsF r_en)))))), (a_sp, .inl (cy 0, 8, .inl c_19)), (a_mv, .inl (cy 0, 8, .inl c_20)), (a_A, .inr (1, [.ref a_A_le, .ref a_A_fo, .int c_A_to, .int u_22.1])), (a_B, .inr (1, [.ref a_B_le, .ref a_B_fo, .int c_B_to, .int u_22.2]))] (rowsW (cy 0) r_en rm c_21)) (rowsW (cy 0) r_Ra2 8 c_Ra2))) H := hP
  have hD : va_D A ((HAppend.hAppend (α := va_W) (β := va_W) (γ := va_W) (HAppend.hAppend (α := va_W) (β := va_W) (γ := va_W) [(a_this, .inr (0, [.int c_ro, .ref a_en, .ref a_wy, .ref a_sp, .ref a_mv, .ref a_A, .ref a_B, .ref a_C, .int c_pl, .int c_sz])), (a_en, .inl (cy 3, 12, .inr (.inr (.inr (.inr (rowsF r_en)))))), (a_sp, .inl (cy 0, 8, .inl c_19)), (a_mv, .inl (cy 0, 8, .inl c_20)), (a_A, .inr (1, [.ref a_A_le, .ref a_A_fo, .int c_A_to, .int u_22.1])), (a_B, .inr (1, [.ref a_B_le, .ref a_B_fo, .int c_B_to, .int u_22.2]))] (rowsW (cy 0) r_en rm c_21)) (rowsW (cy 0) r_Ra2 8 c_Ra2))) := hD
  exact j_vret (fun u => (HAppend.hAppend (α := va_W) (β := va_W) (γ := va_W) (HAppend.hAppend (α := va_W) (β := va_W) (γ := va_W) [(a_this, .inr (0, [.int c_ro, .ref a_en, .ref a_wy, .ref a_sp, .ref a_mv, .ref a_A, .ref a_B, .ref a_C, .int c_pl, .int c_sz])), (a_en, .inl (cy 3, 12, .inr (.inr (.inr (.inr (rowsF r_en)))))), (a_sp, .inl (cy 0, 8, .inl u.1)), (a_mv, .inl (cy 0, 8, .inl u.2.1)), (a_A, .inr (1, [.ref a_A_le, .ref a_A_fo, .int c_A_to, .int u.2.2.1])), (a_B, .inr (1, [.ref a_B_le, .ref a_B_fo, .int c_B_to, .int u.2.2.2.1]))] (rowsW (cy 0) r_en rm u.2.2.2.2)) (rowsW (cy 0) r_Ra2 8 c_Ra2))) ((c_19, c_20, u_22.1, u_22.2, c_21) : (Nat → Int32) × (Nat → Int32) × Int32 × Int32 × (Nat → Nat → Int32)) hx hb hr hlocks hK hP hD hS hw dX0_linkTurn_118
