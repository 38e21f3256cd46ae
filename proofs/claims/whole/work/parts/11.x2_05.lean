theorem q_X2_order_3 : Cond.fieldLink RX2 16 "TwistedRow" "wordRow" "[I" ∈ wsX2_order := List.mem_of_getElem? (i := 3) rfl
theorem k_X2_order_X2 : ∀ w ∈ wsX20, w ∈ wsX2_order := my_in _ [39, 40, 41, 42, 43, 44, 45, 46, 47, 48] (by decide +kernel)
theorem q_X2_order_4 : Cond.fieldLink RX2 28 "TwistedRow" "places" "I" ∈ wsX2_order := List.mem_of_getElem? (i := 4) rfl
theorem q_X2_order_5 : Cond.fieldLink RX2 61 "TwistedRow" "FACTORIALS" "[I" ∈ wsX2_order := List.mem_of_getElem? (i := 5) rfl
theorem q_X2_order_1 : Cond.classLink RX2 45 "java/lang/IllegalArgumentException" ∈ wsX2_order := List.mem_of_getElem? (i := 1) rfl
theorem q_X2_order_2 : Cond.initialized "java/lang/IllegalArgumentException" ∈ wsX2_order := List.mem_of_getElem? (i := 2) rfl
theorem t_X2_order_49 : ∀ w ∈ (vx_atS RX2 49 "java/lang/IllegalArgumentException" ["java/lang/RuntimeException", "java/lang/Exception"]).filter goodWord, w ∈ wsX2_order := fun w h => List.mem_cons_of_mem _ (List.mem_append_right _ h)
def lp_X2_order_38 (c_il : Int32) (c_inp : Nat → Int32) (c_pl : Int32) (c_so : Nat → Nat → Int32) (c_tu : Int32) (K79 : Int32 → (Nat → Int32) → (Nat → Int32) → Prop) : Nat → Int32 → (Nat → Int32) → (Nat → Int32) → Prop
  | 0, _, _, _ => False
  | N + 1, v_1, c_sc, c_wr => (vp_in c_pl 9 ∧ (((ev_fact (c_pl : Int32).toNatClampNeg) ≤ v_1 → (K79 v_1 c_sc c_wr)) ∧ (¬ (ev_fact (c_pl : Int32).toNatClampNeg) ≤ v_1 → (wp_X2_fixedPlaces c_pl c_wr (fun r_9 u_8 => ((c_pl ≤ r_9 → (K79 v_1 c_sc c_wr)) ∧ (¬ c_pl ≤ r_9 → (wp_X2_carryOutInput c_pl c_tu c_il c_sc c_inp c_wr c_so (fun u_11 => (lp_X2_order_38 c_il c_inp c_pl c_so c_tu K79 N (v_1 + 1) u_11.1 u_11.2))))))))))
set_option maxHeartbeats 4000000 in
set_option maxRecDepth 100000 in
theorem l_X2_order_38 {p : Program} {l : Launch} {e : Env} {s : State} {m : MethodId} {args : Array Value} {below : List Frame} {meth : Method} {c : Code} {A : Nat → Prop} {D : va_G} {cy : Nat → ClassId} {Q : State → Prop} {a_this : Nat} {a_ti : Nat} {a_sc : Nat} {a_wr : Nat} {a_so : Nat} {a_inp : Nat} {a_G : Nat} {r_so : Nat → Nat} {c_pl : Int32} {c_tu : Int32} {c_al : Int32} {c_il : Int32} {c_inp : Nat → Int32} {c_so : Nat → Nat → Int32} {K79 : Int32 → (Nat → Int32) → (Nat → Int32) → Prop} (C0 : Cx p s m args c cX2_order yX2_order.cls 2 wsX2_order D cy A) (hE : EV A s s.heap)
    (k79 : ∀ (v_1 : Int32) (c_sc : Nat → Int32) (c_wr : Nat → Int32) (H : Heap) (locs : List Loc) (ls : Array Slot), K79 v_1 c_sc c_wr → va_P D vwCl ((HAppend.hAppend (α := va_W) (β := va_W) (γ := va_W) [(a_this, .inr (2, [.ref a_ti, .ref a_sc, .ref a_wr, .ref a_so, .ref a_inp, .int c_pl, .int c_tu, .int c_al, .int c_il, .ref a_G])), (a_sc, .inl (cy 0, 8, .inl c_sc)), (a_wr, .inl (cy 0, 8, .inl c_wr)), (a_so, .inl (cy 3, 12, .inr (.inr (.inr (.inr (rowsF r_so)))))), (a_inp, .inl (cy 1, 60, .inl c_inp))] (rowsW (cy 0) r_so 8 c_so))) H → va_D A ((HAppend.hAppend (α := va_W) (β := va_W) (γ := va_W) [(a_this, .inr (2, [.ref a_ti, .ref a_sc, .ref a_wr, .ref a_so, .ref a_inp, .int c_pl, .int c_tu, .int c_al, .int c_il, .ref a_G])), (a_sc, .inl (cy 0, 8, .inl c_sc)), (a_wr, .inl (cy 0, 8, .inl c_wr)), (a_so, .inl (cy 3, 12, .inr (.inr (.inr (.inr (rowsF r_so)))))), (a_inp, .inl (cy 1, 60, .inl c_inp))] (rowsW (cy 0) r_so 8 c_so))) → va_S A s.heap H locs → lv_has ls 2 [(1, .int v_1)] → W p l e (({ frames := 6, cells := 1, slots := 6, locals := 82 } : Room)) s m args below meth c H locs 0 0 Q (F0 m 79 ls [])) :
    ∀ (N : Nat) (v_1 : Int32) (c_sc : Nat → Int32) (c_wr : Nat → Int32) (H : Heap) (locs : List Loc) (ls : Array Slot), lp_X2_order_38 c_il c_inp c_pl c_so c_tu K79 N v_1 c_sc c_wr → va_P D vwCl ((HAppend.hAppend (α := va_W) (β := va_W) (γ := va_W) [(a_this, .inr (2, [.ref a_ti, .ref a_sc, .ref a_wr, .ref a_so, .ref a_inp, .int c_pl, .int c_tu, .int c_al, .int c_il, .ref a_G])), (a_sc, .inl (cy 0, 8, .inl c_sc)), (a_wr, .inl (cy 0, 8, .inl c_wr)), (a_so, .inl (cy 3, 12, .inr (.inr (.inr (.inr (rowsF r_so)))))), (a_inp, .inl (cy 1, 60, .inl c_inp))] (rowsW (cy 0) r_so 8 c_so))) H → va_D A ((HAppend.hAppend (α := va_W) (β := va_W) (γ := va_W) [(a_this, .inr (2, [.ref a_ti, .ref a_sc, .ref a_wr, .ref a_so, .ref a_inp, .int c_pl, .int c_tu, .int c_al, .int c_il, .ref a_G])), (a_sc, .inl (cy 0, 8, .inl c_sc)), (a_wr, .inl (cy 0, 8, .inl c_wr)), (a_so, .inl (cy 3, 12, .inr (.inr (.inr (.inr (rowsF r_so)))))), (a_inp, .inl (cy 1, 60, .inl c_inp))] (rowsW (cy 0) r_so 8 c_so))) → va_S A s.heap H locs → lv_has ls 2 [(0, .ref a_this), (1, .int v_1)] → W p l e (({ frames := 6, cells := 1, slots := 6, locals := 82 } : Room)) s m args below meth c H locs 0 0 Q (F0 m 38 ls []) := by
  obtain ⟨hx, hb, hml, hown, hts, hK, hA⟩ := id C0
  obtain ⟨tF, hFZ, hFT⟩ := hE.2.2.2.2.2.2.2.2.2
  intro N
  induction N with
  | zero =>
    intro v_1 c_sc c_wr H locs ls hw
    exact False.elim hw
  | succ N ih =>
    intro v_1 c_sc c_wr H locs ls hw hP hD hS hl
    rw [lp_X2_order_38] at hw
    refine lv_iload_n hx hb dX2_order_38 rfl (lv_at hl 1 rfl) ?_
    refine va_gets (C := "TwistedRow") (n := "FACTORIALS") (d := "[I") (v := .ref tF) hx hb hFZ hS hown (hts _ q_X2_order_5) (fun _ h9 => h9) dX2_order_39 ?_
    refine lv_aload_n hx hb dX2_order_42 rfl (lv_at hl 0 rfl) ?_
    refine va_get (D := D) (ci := 2) (v := .int c_pl) (C := RX2) (T := TX2) (N := 10) hx hb hts k_X2_order_X2 hown hK hP 0 rfl rfl 5 (by decide) (hts _ q_X2_order_4) (fun _ h9 => h9) rfl dX2_order_43 ?_
    obtain ⟨h_6, hw⟩ := hw
    refine va_ti (v := .int (ev_fact (c_pl : Int32).toNatClampNeg)) hx hb hFT hS h_6 rfl dX2_order_46 ?_
    refine lv_icmp_ge (tgt := 79) hx hb dX2_order_47 (by decide) (fun c_7 => ?_) (fun c_7 => ?_)
    · replace hw := hw.1 c_7
      exact k79 _ _ _ _ _ _ hw hP hD hS (lv_sub hl [1] rfl)
    · replace hw := hw.2 c_7
      refine lv_aload_n hx hb dX2_order_50 rfl (lv_at hl 0 rfl) ?_
      refine lv_aload_n hx hb dX2_order_51 rfl (lv_at hl 0 rfl) ?_
      refine va_get (D := D) (ci := 2) (v := .ref a_wr) (C := RX2) (T := TX2) (N := 10) hx hb hts k_X2_order_X2 hown hK hP 0 rfl rfl 2 (by decide) (hts _ q_X2_order_3) (fun _ h9 => h9) rfl dX2_order_52 ?_
      refine j_calli (wr := (HAppend.hAppend (α := va_W) (β := va_W) (γ := va_W) [(a_sc, .inl (cy 0, 8, .inl c_sc)), (a_so, .inl (cy 3, 12, .inr (.inr (.inr (.inr (rowsF r_so)))))), (a_inp, .inl (cy 1, 60, .inl c_inp))] (rowsW (cy 0) r_so 8 c_so))) (va_runV (As := [.ref a_wr]) (rest := []) ⟨hx, hb, hml, hown, hts⟩ (c_X2_fixedPlaces l D cy a_this a_ti a_sc a_wr a_so a_inp a_G a_wr c_pl c_tu c_al c_il c_wr hw H.size) (cwV 1 hts gX2_order_X2_fixedPlaces rfl rfl rfl (by decide +kernel) ⟨Nat.le_of_ble_eq_true rfl, Nat.le_of_ble_eq_true rfl⟩) (j_preV hK hP hD (isC := [0, 2]) rfl (by decide +kernel) (ci := 2) (q0 := 0) rfl rfl) rfl rfl hl.1 rfl (lv_room (Nat.le_of_ble_eq_true rfl)) dX2_order_55 ⟨Nat.le_of_ble_eq_true rfl, Nat.le_of_ble_eq_true rfl⟩) hP hD hS hA [0, 2] [1, 3, 4, 5, 6, 7, 8, 9, 10, 11, 12, 13, 14, 15, 16] rfl rfl (by decide +kernel) (by decide +kernel) (fun u_8 => (HAppend.hAppend (α := va_W) (β := va_W) (γ := va_W) [(a_this, .inr (2, [.ref a_ti, .ref a_sc, .ref a_wr, .ref a_so, .ref a_inp, .int c_pl, .int c_tu, .int c_al, .int c_il, .ref a_G])), (a_sc, .inl (cy 0, 8, .inl c_sc)), (a_wr, .inl (cy 0, 8, .inl c_wr)), (a_so, .inl (cy 3, 12, .inr (.inr (.inr (.inr (rowsF r_so)))))), (a_inp, .inl (cy 1, 60, .inl c_inp))] (rowsW (cy 0) r_so 8 c_so))) [15, 0, 16, 1, 2, 3, 4, 5, 6, 7, 8, 9, 10, 11, 12, 13, 14] (by decide +kernel) (fun u => rfl) (fun r_9 u_8 H locs hw hP hD hS => ?_)
      have hP : va_P D vwCl ((HAppend.hAppend (α := va_W) (β := va_W) (γ := va_W) [(a_this, .inr (2, [.ref a_ti, .ref a_sc, .ref a_wr, .ref a_so, .ref a_inp, .int c_pl, .int c_tu, .int c_al, .int c_il, .ref a_G])), (a_sc, .inl (cy 0, 8, .inl c_sc)), (a_wr, .inl (cy 0, 8, .inl c_wr)), (a_so, .inl (cy 3, 12, .inr (.inr (.inr (.inr (rowsF r_so)))))), (a_inp, .inl (cy 1, 60, .inl c_inp))] (rowsW (cy 0) r_so 8 c_so))) H := hP
      have hD : va_D A ((HAppend.hAppend (α := va_W) (β := va_W) (γ := va_W) [(a_this, .inr (2, [.ref a_ti, .ref a_sc, .ref a_wr, .ref a_so, .ref a_inp, .int c_pl, .int c_tu, .int c_al, .int c_il, .ref a_G])), (a_sc, .inl (cy 0, 8, .inl c_sc)), (a_wr, .inl (cy 0, 8, .inl c_wr)), (a_so, .inl (cy 3, 12, .inr (.inr (.inr (.inr (rowsF r_so)))))), (a_inp, .inl (cy 1, 60, .inl c_inp))] (rowsW (cy 0) r_so 8 c_so))) := hD
      refine lv_aload_n hx hb dX2_order_58 rfl (lv_at hl 0 rfl) ?_
      refine va_get (D := D) (ci := 2) (v := .int c_pl) (C := RX2) (T := TX2) (N := 10) hx hb hts k_X2_order_X2 hown hK hP 0 rfl rfl 5 (by decide) (hts _ q_X2_order_4) (fun _ h9 => h9) rfl dX2_order_59 ?_
      refine lv_icmp_ge (tgt := 79) hx hb dX2_order_62 (by decide) (fun c_10 => ?_) (fun c_10 => ?_)
      · replace hw := hw.1 c_10
        exact k79 _ _ _ _ _ _ hw hP hD hS (lv_sub hl [1] rfl)
      · replace hw := hw.2 c_10
        refine lv_aload_n hx hb dX2_order_65 rfl (lv_at hl 0 rfl) ?_
        refine lv_aload_n hx hb dX2_order_66 rfl (lv_at hl 0 rfl) ?_
        refine va_get (D := D) (ci := 2) (v := .ref a_wr) (C := RX2) (T := TX2) (N := 10) hx hb hts k_X2_order_X2 hown hK hP 0 rfl rfl 2 (by decide) (hts _ q_X2_order_3) (fun _ h9 => h9) rfl dX2_order_67 ?_
        refine j_callv (wr := []) (va_runV (As := [.ref a_wr]) (rest := []) ⟨hx, hb, hml, hown, hts⟩ (c_X2_carryOutInput l D cy a_this a_ti a_sc a_wr a_so a_inp a_G r_so a_wr c_pl c_tu c_al c_il c_sc c_inp c_wr c_so hw H.size) (cwV 1 hts gX2_order_X2_carryOutInput rfl rfl rfl (by decide +kernel) ⟨Nat.le_of_ble_eq_true rfl, Nat.le_of_ble_eq_true rfl⟩) (j_preV hK hP hD (isC := [0, 1, 3, 4, 2, 5, 6, 7, 8, 9, 10, 11, 12, 13, 14, 15, 16]) rfl (by decide +kernel) (ci := 2) (q0 := 0) rfl rfl) rfl rfl hl.1 rfl (lv_room (Nat.le_of_ble_eq_true rfl)) dX2_order_70 ⟨Nat.le_of_ble_eq_true rfl, Nat.le_of_ble_eq_true rfl⟩) hP hD hS hA [0, 1, 3, 4, 2, 5, 6, 7, 8, 9, 10, 11, 12, 13, 14, 15, 16] [] rfl rfl (by decide +kernel) (by decide +kernel) (fun u_11 => (HAppend.hAppend (α := va_W) (β := va_W) (γ := va_W) [(a_this, .inr (2, [.ref a_ti, .ref a_sc, .ref a_wr, .ref a_so, .ref a_inp, .int c_pl, .int c_tu, .int c_al, .int c_il, .ref a_G])), (a_sc, .inl (cy 0, 8, .inl u_11.1)), (a_wr, .inl (cy 0, 8, .inl u_11.2)), (a_so, .inl (cy 3, 12, .inr (.inr (.inr (.inr (rowsF r_so)))))), (a_inp, .inl (cy 1, 60, .inl c_inp))] (rowsW (cy 0) r_so 8 c_so))) [0, 1, 4, 2, 3, 5, 6, 7, 8, 9, 10, 11, 12, 13, 14, 15, 16] (by decide +kernel) (fun u => rfl) (fun u_11 H locs hw hP hD hS => ?_)
        have hP : va_P D vwCl ((HAppend.hAppend (α := va_W) (β := va_W) (γ := va_W) [(a_this, .inr (2, [.ref a_ti, .ref a_sc, .ref a_wr, .ref a_so, .ref a_inp, .int c_pl, .int c_tu, .int c_al, .int c_il, .ref a_G])), (a_sc, .inl (cy 0, 8, .inl u_11.1)), (a_wr, .inl (cy 0, 8, .inl u_11.2)), (a_so, .inl (cy 3, 12, .inr (.inr (.inr (.inr (rowsF r_so)))))), (a_inp, .inl (cy 1, 60, .inl c_inp))] (rowsW (cy 0) r_so 8 c_so))) H := hP
        have hD : va_D A ((HAppend.hAppend (α := va_W) (β := va_W) (γ := va_W) [(a_this, .inr (2, [.ref a_ti, .ref a_sc, .ref a_wr, .ref a_so, .ref a_inp, .int c_pl, .int c_tu, .int c_al, .int c_il, .ref a_G])), (a_sc, .inl (cy 0, 8, .inl u_11.1)), (a_wr, .inl (cy 0, 8, .inl u_11.2)), (a_so, .inl (cy 3, 12, .inr (.inr (.inr (.inr (rowsF r_so)))))), (a_inp, .inl (cy 1, 60, .inl c_inp))] (rowsW (cy 0) r_so 8 c_so))) := hD
        refine lv_iinc (v := v_1 + 1) (lv' := [(1, .int (v_1 + 1)), (0, .ref a_this)]) hx hb dX2_order_73 hl (k := 1) rfl rfl (by decide) rfl (fun ls hl => ?_)
        refine lv_goto (tgt := 38) hx hb dX2_order_76 (by decide) ?_
        exact ih _ _ _ _ _ _ hw hP hD hS (lv_sub hl [1, 0] rfl)
def wp_X2_order (c_pl : Int32) (c_tu : Int32) (c_il : Int32) (c_sc : Nat → Int32) (c_wr : Nat → Int32) (c_inp : Nat → Int32) (c_so : Nat → Nat → Int32) (post : Int32 → ((Nat → Int32) × (Nat → Int32)) → Prop) (postX : String → Prop) : Prop := (wp_X2_isWord c_tu c_il c_inp (fun r_2 u_1 => ((¬ r_2 = 0 → (wp_X2_setSolved c_wr c_pl (fun u_4 => (wp_X2_carryOutInput c_pl c_tu c_il c_sc c_inp u_4 c_so (fun u_5 => (∃ N_12 : Nat, lp_X2_order_38 c_il c_inp c_pl c_so c_tu (fun (v_13 : Int32) (c_14 : Nat → Int32) (c_15 : Nat → Int32) => (post v_13 (c_14, c_15))) N_12 1 u_5.1 u_5.2)))))) ∧ (r_2 = 0 → (postX "java/lang/IllegalArgumentException")))))
set_option maxHeartbeats 4000000 in
set_option maxRecDepth 100000 in
theorem c_X2_order (l : Launch) (hfl : l.stackTraces = false) (D : va_G) (cy : Nat → ClassId) (a_this : Nat) (a_ti : Nat) (a_sc : Nat) (a_wr : Nat) (a_so : Nat) (a_inp : Nat) (a_G : Nat) (r_so : Nat → Nat) (c_pl : Int32) (c_tu : Int32) (c_al : Int32) (c_il : Int32) (c_sc : Nat → Int32) (c_wr : Nat → Int32) (c_inp : Nat → Int32) (c_so : Nat → Nat → Int32) {post : Int32 → ((Nat → Int32) × (Nat → Int32)) → Prop} {postX : String → Prop} (hw : wp_X2_order c_pl c_tu c_il c_sc c_wr c_inp c_so post postX) (sz : Nat) : vx_Met l yX2_order wsX2_order ({ frames := 6, cells := 1, slots := 6, locals := 82 }) (va_Pc [.ref a_this] (PreE D cy ((HAppend.hAppend (α := va_W) (β := va_W) (γ := va_W) [(a_this, .inr (2, [.ref a_ti, .ref a_sc, .ref a_wr, .ref a_so, .ref a_inp, .int c_pl, .int c_tu, .int c_al, .int c_il, .ref a_G])), (a_sc, .inl (cy 0, 8, .inl c_sc)), (a_wr, .inl (cy 0, 8, .inl c_wr)), (a_so, .inl (cy 3, 12, .inr (.inr (.inr (.inr (rowsF r_so)))))), (a_inp, .inl (cy 1, 60, .inl c_inp))] (rowsW (cy 0) r_so 8 c_so))) sz)) (va_Qi post (fun u t => PostW D cy (va_A ((HAppend.hAppend (α := va_W) (β := va_W) (γ := va_W) [(a_this, .inr (2, [.ref a_ti, .ref a_sc, .ref a_wr, .ref a_so, .ref a_inp, .int c_pl, .int c_tu, .int c_al, .int c_il, .ref a_G])), (a_sc, .inl (cy 0, 8, .inl c_sc)), (a_wr, .inl (cy 0, 8, .inl c_wr)), (a_so, .inl (cy 3, 12, .inr (.inr (.inr (.inr (rowsF r_so)))))), (a_inp, .inl (cy 1, 60, .inl c_inp))] (rowsW (cy 0) r_so 8 c_so))) sz) ((HAppend.hAppend (α := va_W) (β := va_W) (γ := va_W) [(a_this, .inr (2, [.ref a_ti, .ref a_sc, .ref a_wr, .ref a_so, .ref a_inp, .int c_pl, .int c_tu, .int c_al, .int c_il, .ref a_G])), (a_sc, .inl (cy 0, 8, .inl u.1)), (a_wr, .inl (cy 0, 8, .inl u.2)), (a_so, .inl (cy 3, 12, .inr (.inr (.inr (.inr (rowsF r_so)))))), (a_inp, .inl (cy 1, 60, .inl c_inp))] (rowsW (cy 0) r_so 8 c_so))) t) (va_A ((HAppend.hAppend (α := va_W) (β := va_W) (γ := va_W) [(a_this, .inr (2, [.ref a_ti, .ref a_sc, .ref a_wr, .ref a_so, .ref a_inp, .int c_pl, .int c_tu, .int c_al, .int c_il, .ref a_G])), (a_sc, .inl (cy 0, 8, .inl c_sc)), (a_wr, .inl (cy 0, 8, .inl c_wr)), (a_so, .inl (cy 3, 12, .inr (.inr (.inr (.inr (rowsF r_so)))))), (a_inp, .inl (cy 1, 60, .inl c_inp))] (rowsW (cy 0) r_so 8 c_so))) sz)) (vx_X postX (fun E u t => E = u ∧ PostW D cy (va_A ((HAppend.hAppend (α := va_W) (β := va_W) (γ := va_W) [(a_this, .inr (2, [.ref a_ti, .ref a_sc, .ref a_wr, .ref a_so, .ref a_inp, .int c_pl, .int c_tu, .int c_al, .int c_il, .ref a_G])), (a_sc, .inl (cy 0, 8, .inl c_sc)), (a_wr, .inl (cy 0, 8, .inl c_wr)), (a_so, .inl (cy 3, 12, .inr (.inr (.inr (.inr (rowsF r_so)))))), (a_inp, .inl (cy 1, 60, .inl c_inp))] (rowsW (cy 0) r_so 8 c_so))) sz) ((HAppend.hAppend (α := va_W) (β := va_W) (γ := va_W) [(a_this, .inr (2, [.ref a_ti, .ref a_sc, .ref a_wr, .ref a_so, .ref a_inp, .int c_pl, .int c_tu, .int c_al, .int c_il, .ref a_G])), (a_sc, .inl (cy 0, 8, .inl c_sc)), (a_wr, .inl (cy 0, 8, .inl c_wr)), (a_so, .inl (cy 3, 12, .inr (.inr (.inr (.inr (rowsF r_so)))))), (a_inp, .inl (cy 1, 60, .inl c_inp))] (rowsW (cy 0) r_so 8 c_so))) t) (va_A ((HAppend.hAppend (α := va_W) (β := va_W) (γ := va_W) [(a_this, .inr (2, [.ref a_ti, .ref a_sc, .ref a_wr, .ref a_so, .ref a_inp, .int c_pl, .int c_tu, .int c_al, .int c_il, .ref a_G])), (a_sc, .inl (cy 0, 8, .inl c_sc)), (a_wr, .inl (cy 0, 8, .inl c_wr)), (a_so, .inl (cy 3, 12, .inr (.inr (.inr (.inr (rowsF r_so)))))), (a_inp, .inl (cy 1, 60, .inl c_inp))] (rowsW (cy 0) r_so 8 c_so))) sz)) 1 6 (va_A ((HAppend.hAppend (α := va_W) (β := va_W) (γ := va_W) [(a_this, .inr (2, [.ref a_ti, .ref a_sc, .ref a_wr, .ref a_so, .ref a_inp, .int c_pl, .int c_tu, .int c_al, .int c_il, .ref a_G])), (a_sc, .inl (cy 0, 8, .inl c_sc)), (a_wr, .inl (cy 0, 8, .inl c_wr)), (a_so, .inl (cy 3, 12, .inr (.inr (.inr (.inr (rowsF r_so)))))), (a_inp, .inl (cy 1, 60, .inl c_inp))] (rowsW (cy 0) r_so 8 c_so))) sz) := by
  refine j_metX (l := l) (y := yX2_order) (ws := wsX2_order) (D := D) (cy := cy) (sz := sz) (av := [.ref a_this]) (Qc := fun A => va_Qi post (fun u t => PostW D cy A ((HAppend.hAppend (α := va_W) (β := va_W) (γ := va_W) [(a_this, .inr (2, [.ref a_ti, .ref a_sc, .ref a_wr, .ref a_so, .ref a_inp, .int c_pl, .int c_tu, .int c_al, .int c_il, .ref a_G])), (a_sc, .inl (cy 0, 8, .inl u.1)), (a_wr, .inl (cy 0, 8, .inl u.2)), (a_so, .inl (cy 3, 12, .inr (.inr (.inr (.inr (rowsF r_so)))))), (a_inp, .inl (cy 1, 60, .inl c_inp))] (rowsW (cy 0) r_so 8 c_so))) t) A) (XC := fun A => vx_X postX (fun E u t => E = u ∧ PostW D cy A ((HAppend.hAppend (α := va_W) (β := va_W) (γ := va_W) [(a_this, .inr (2, [.ref a_ti, .ref a_sc, .ref a_wr, .ref a_so, .ref a_inp, .int c_pl, .int c_tu, .int c_al, .int c_il, .ref a_G])), (a_sc, .inl (cy 0, 8, .inl c_sc)), (a_wr, .inl (cy 0, 8, .inl c_wr)), (a_so, .inl (cy 3, 12, .inr (.inr (.inr (.inr (rowsF r_so)))))), (a_inp, .inl (cy 1, 60, .inl c_inp))] (rowsW (cy 0) r_so 8 c_so))) t) A) (by decide +kernel) rfl (Nat.le_of_ble_eq_true rfl) ?_
  intro p e s m below meth c A ls C0 hr hlocks hP hD hS hl hE hex
  obtain ⟨hx, hb, hml, hown, hts, hK, hA⟩ := id C0
  have hown : s.vm.findClass RX2 = some m.cls := hown
  have hl : lv_has ls 2 [(0, .ref a_this)] := hl
  obtain ⟨tF, hFZ, hFT⟩ := hE.2.2.2.2.2.2.2.2.2
  unfold wp_X2_order at hw
  refine lv_aload_n hx hb dX2_order_0 rfl (lv_at hl 0 rfl) ?_
  refine j_calli (wr := (HAppend.hAppend (α := va_W) (β := va_W) (γ := va_W) [(a_sc, .inl (cy 0, 8, .inl c_sc)), (a_wr, .inl (cy 0, 8, .inl c_wr)), (a_so, .inl (cy 3, 12, .inr (.inr (.inr (.inr (rowsF r_so))))))] (rowsW (cy 0) r_so 8 c_so))) (va_runV (As := []) (rest := []) ⟨hx, hb, hml, hown, hts⟩ (c_X2_isWord l D cy a_this a_ti a_sc a_wr a_so a_inp a_G c_pl c_tu c_al c_il c_inp hw s.heap.size) (cwV 0 hts gX2_order_X2_isWord rfl rfl rfl (by decide +kernel) ⟨Nat.le_of_ble_eq_true rfl, Nat.le_of_ble_eq_true rfl⟩) (j_preV hK hP hD (isC := [0, 4]) rfl (by decide +kernel) (ci := 2) (q0 := 0) rfl rfl) rfl rfl hl.1 rfl (lv_room (Nat.le_of_ble_eq_true rfl)) dX2_order_1 ⟨Nat.le_of_ble_eq_true rfl, Nat.le_of_ble_eq_true rfl⟩) hP hD hS hA [0, 4] [1, 2, 3, 5, 6, 7, 8, 9, 10, 11, 12, 13, 14, 15, 16] rfl rfl (by decide +kernel) (by decide +kernel) (fun u_1 => (HAppend.hAppend (α := va_W) (β := va_W) (γ := va_W) [(a_this, .inr (2, [.ref a_ti, .ref a_sc, .ref a_wr, .ref a_so, .ref a_inp, .int c_pl, .int c_tu, .int c_al, .int c_il, .ref a_G])), (a_sc, .inl (cy 0, 8, .inl c_sc)), (a_wr, .inl (cy 0, 8, .inl c_wr)), (a_so, .inl (cy 3, 12, .inr (.inr (.inr (.inr (rowsF r_so)))))), (a_inp, .inl (cy 1, 60, .inl c_inp))] (rowsW (cy 0) r_so 8 c_so))) [15, 0, 1, 2, 16, 3, 4, 5, 6, 7, 8, 9, 10, 11, 12, 13, 14] (by decide +kernel) (fun u => rfl) (fun r_2 u_1 H locs hw hP hD hS => ?_)
  have hP : va_P D vwCl ((HAppend.hAppend (α := va_W) (β := va_W) (γ := va_W) [(a_this, .inr (2, [.ref a_ti, .ref a_sc, .ref a_wr, .ref a_so, .ref a_inp, .int c_pl, .int c_tu, .int c_al, .int c_il, .ref a_G])), (a_sc, .inl (cy 0, 8, .inl c_sc)), (a_wr, .inl (cy 0, 8, .inl c_wr)), (a_so, .inl (cy 3, 12, .inr (.inr (.inr (.inr (rowsF r_so)))))), (a_inp, .inl (cy 1, 60, .inl c_inp))] (rowsW (cy 0) r_so 8 c_so))) H := hP
  have hD : va_D A ((HAppend.hAppend (α := va_W) (β := va_W) (γ := va_W) [(a_this, .inr (2, [.ref a_ti, .ref a_sc, .ref a_wr, .ref a_so, .ref a_inp, .int c_pl, .int c_tu, .int c_al, .int c_il, .ref a_G])), (a_sc, .inl (cy 0, 8, .inl c_sc)), (a_wr, .inl (cy 0, 8, .inl c_wr)), (a_so, .inl (cy 3, 12, .inr (.inr (.inr (.inr (rowsF r_so)))))), (a_inp, .inl (cy 1, 60, .inl c_inp))] (rowsW (cy 0) r_so 8 c_so))) := hD
  refine lv_if_ne (tgt := 17) hx hb dX2_order_4 (by decide) (fun c_3 => ?_) (fun c_3 => ?_)
  · replace hw := hw.1 c_3
    refine lv_aload_n hx hb dX2_order_17 rfl (lv_at hl 0 rfl) ?_
    refine va_get (D := D) (ci := 2) (v := .ref a_wr) (C := RX2) (T := TX2) (N := 10) hx hb hts k_X2_order_X2 hown hK hP 0 rfl rfl 2 (by decide) (hts _ q_X2_order_3) (fun _ h9 => h9) rfl dX2_order_18 ?_
    refine lv_aload_n hx hb dX2_order_21 rfl (lv_at hl 0 rfl) ?_
    refine va_get (D := D) (ci := 2) (v := .int c_pl) (C := RX2) (T := TX2) (N := 10) hx hb hts k_X2_order_X2 hown hK hP 0 rfl rfl 5 (by decide) (hts _ q_X2_order_4) (fun _ h9 => h9) rfl dX2_order_22 ?_
    refine j_callv (wr := (HAppend.hAppend (α := va_W) (β := va_W) (γ := va_W) [(a_this, .inr (2, [.ref a_ti, .ref a_sc, .ref a_wr, .ref a_so, .ref a_inp, .int c_pl, .int c_tu, .int c_al, .int c_il, .ref a_G])), (a_sc, .inl (cy 0, 8, .inl c_sc)), (a_so, .inl (cy 3, 12, .inr (.inr (.inr (.inr (rowsF r_so)))))), (a_inp, .inl (cy 1, 60, .inl c_inp))] (rowsW (cy 0) r_so 8 c_so))) (va_runS (As := [.ref a_wr, .int c_pl]) (rest := []) ⟨hx, hb, hml, hown, hts⟩ (c_X2_setSolved l D cy a_wr c_wr c_pl hw H.size) (va_cwS 2 hts gX2_order_X2_setSolved rfl rfl rfl (by decide +kernel) ⟨Nat.le_of_ble_eq_true rfl, Nat.le_of_ble_eq_true rfl⟩) (j_preS hK hP hD (isC := [2]) rfl (by decide +kernel)) rfl rfl hl.1 rfl (lv_room (Nat.le_of_ble_eq_true rfl)) dX2_order_25 ⟨Nat.le_of_ble_eq_true rfl, Nat.le_of_ble_eq_true rfl⟩) hP hD hS hA [2] [0, 1, 3, 4, 5, 6, 7, 8, 9, 10, 11, 12, 13, 14, 15, 16] rfl rfl (by decide +kernel) (by decide +kernel) (fun u_4 => (HAppend.hAppend (α := va_W) (β := va_W) (γ := va_W) [(a_this, .inr (2, [.ref a_ti, .ref a_sc, .ref a_wr, .ref a_so, .ref a_inp, .int c_pl, .int c_tu, .int c_al, .int c_il, .ref a_G])), (a_sc, .inl (cy 0, 8, .inl c_sc)), (a_wr, .inl (cy 0, 8, .inl u_4)), (a_so, .inl (cy 3, 12, .inr (.inr (.inr (.inr (rowsF r_so)))))), (a_inp, .inl (cy 1, 60, .inl c_inp))] (rowsW (cy 0) r_so 8 c_so))) [0, 1, 16, 2, 3, 4, 5, 6, 7, 8, 9, 10, 11, 12, 13, 14, 15] (by decide +kernel) (fun u => rfl) (fun u_4 H locs hw hP hD hS => ?_)
    have hP : va_P D vwCl ((HAppend.hAppend (α := va_W) (β := va_W) (γ := va_W) [(a_this, .inr (2, [.ref a_ti, .ref a_sc, .ref a_wr, .ref a_so, .ref a_inp, .int c_pl, .int c_tu, .int c_al, .int c_il, .ref a_G])), (a_sc, .inl (cy 0, 8, .inl c_sc)), (a_wr, .inl (cy 0, 8, .inl u_4)), (a_so, .inl (cy 3, 12, .inr (.inr (.inr (.inr (rowsF r_so)))))), (a_inp, .inl (cy 1, 60, .inl c_inp))] (rowsW (cy 0) r_so 8 c_so))) H := hP
    have hD : va_D A ((HAppend.hAppend (α := va_W) (β := va_W) (γ := va_W) [(a_this, .inr (2, [.ref a_ti, .ref a_sc, .ref a_wr, .ref a_so, .ref a_inp, .int c_pl, .int c_tu, .int c_al, .int c_il, .ref a_G])), (a_sc, .inl (cy 0, 8, .inl c_sc)), (a_wr, .inl (cy 0, 8, .inl u_4)), (a_so, .inl (cy 3, 12, .inr (.inr (.inr (.inr (rowsF r_so)))))), (a_inp, .inl (cy 1, 60, .inl c_inp))] (rowsW (cy 0) r_so 8 c_so))) := hD
    refine lv_aload_n hx hb dX2_order_28 rfl (lv_at hl 0 rfl) ?_
    refine lv_aload_n hx hb dX2_order_29 rfl (lv_at hl 0 rfl) ?_
    refine va_get (D := D) (ci := 2) (v := .ref a_wr) (C := RX2) (T := TX2) (N := 10) hx hb hts k_X2_order_X2 hown hK hP 0 rfl rfl 2 (by decide) (hts _ q_X2_order_3) (fun _ h9 => h9) rfl dX2_order_30 ?_
    refine j_callv (wr := []) (va_runV (As := [.ref a_wr]) (rest := []) ⟨hx, hb, hml, hown, hts⟩ (c_X2_carryOutInput l D cy a_this a_ti a_sc a_wr a_so a_inp a_G r_so a_wr c_pl c_tu c_al c_il c_sc c_inp u_4 c_so hw H.size) (cwV 1 hts gX2_order_X2_carryOutInput rfl rfl rfl (by decide +kernel) ⟨Nat.le_of_ble_eq_true rfl, Nat.le_of_ble_eq_true rfl⟩) (j_preV hK hP hD (isC := [0, 1, 3, 4, 2, 5, 6, 7, 8, 9, 10, 11, 12, 13, 14, 15, 16]) rfl (by decide +kernel) (ci := 2) (q0 := 0) rfl rfl) rfl rfl hl.1 rfl (lv_room (Nat.le_of_ble_eq_true rfl)) dX2_order_33 ⟨Nat.le_of_ble_eq_true rfl, Nat.le_of_ble_eq_true rfl⟩) hP hD hS hA [0, 1, 3, 4, 2, 5, 6, 7, 8, 9, 10, 11, 12, 13, 14, 15, 16] [] rfl rfl (by decide +kernel) (by decide +kernel) (fun u_5 => (HAppend.hAppend (α := va_W) (β := va_W) (γ := va_W) [(a_this, .inr (2, [.ref a_ti, .ref a_sc, .ref a_wr, .ref a_so, .ref a_inp, .int c_pl, .int c_tu, .int c_al, .int c_il, .ref a_G])), (a_sc, .inl (cy 0, 8, .inl u_5.1)), (a_wr, .inl (cy 0, 8, .inl u_5.2)), (a_so, .inl (cy 3, 12, .inr (.inr (.inr (.inr (rowsF r_so)))))), (a_inp, .inl (cy 1, 60, .inl c_inp))] (rowsW (cy 0) r_so 8 c_so))) [0, 1, 4, 2, 3, 5, 6, 7, 8, 9, 10, 11, 12, 13, 14, 15, 16] (by decide +kernel) (fun u => rfl) (fun u_5 H locs hw hP hD hS => ?_)
    have hP : va_P D vwCl ((HAppend.hAppend (α := va_W) (β := va_W) (γ := va_W) [(a_this, .inr (2, [.ref a_ti, .ref a_sc, .ref a_wr, .ref a_so, .ref a_inp, .int c_pl, .int c_tu, .int c_al, .int c_il, .ref a_G])), (a_sc, .inl (cy 0, 8, .inl u_5.1)), (a_wr, .inl (cy 0, 8, .inl u_5.2)), (a_so, .inl (cy 3, 12, .inr (.inr (.inr (.inr (rowsF r_so)))))), (a_inp, .inl (cy 1, 60, .inl c_inp))] (rowsW (cy 0) r_so 8 c_so))) H := hP
    have hD : va_D A ((HAppend.hAppend (α := va_W) (β := va_W) (γ := va_W) [(a_this, .inr (2, [.ref a_ti, .ref a_sc, .ref a_wr, .ref a_so, .ref a_inp, .int c_pl, .int c_tu, .int c_al, .int c_il, .ref a_G])), (a_sc, .inl (cy 0, 8, .inl u_5.1)), (a_wr, .inl (cy 0, 8, .inl u_5.2)), (a_so, .inl (cy 3, 12, .inr (.inr (.inr (.inr (rowsF r_so)))))), (a_inp, .inl (cy 1, 60, .inl c_inp))] (rowsW (cy 0) r_so 8 c_so))) := hD
    refine lv_iconst (v := 1) hx hb dX2_order_36 (by decide) ?_
    refine lv_istore_n (lv' := [(1, .int 1), (0, .ref a_this)]) hx hb dX2_order_37 rfl hl (by decide) rfl (fun ls hl => ?_)
    obtain ⟨N_12, hw⟩ := hw
    refine l_X2_order_38 C0 hE (fun v_13 c_14 c_15 H locs ls hw hP hD hS hl => ?_) _ _ _ _ _ _ _ hw hP hD hS (lv_sub hl [1, 0] rfl)
    refine lv_iload_n hx hb dX2_order_79 rfl (lv_at hl 0 rfl) ?_
    exact vx_ret (W.widen (k := 1) (n := 6) (Nat.le_of_ble_eq_true rfl) (Nat.le_of_ble_eq_true rfl) (j_iret (fun u => (HAppend.hAppend (α := va_W) (β := va_W) (γ := va_W) [(a_this, .inr (2, [.ref a_ti, .ref a_sc, .ref a_wr, .ref a_so, .ref a_inp, .int c_pl, .int c_tu, .int c_al, .int c_il, .ref a_G])), (a_sc, .inl (cy 0, 8, .inl u.1)), (a_wr, .inl (cy 0, 8, .inl u.2)), (a_so, .inl (cy 3, 12, .inr (.inr (.inr (.inr (rowsF r_so)))))), (a_inp, .inl (cy 1, 60, .inl c_inp))] (rowsW (cy 0) r_so 8 c_so))) ((c_14, c_15) : (Nat → Int32) × (Nat → Int32)) hx hb hr hlocks hK hP hD hS hw dX2_order_80))
  · replace hw := hw.2 c_3
    obtain ⟨sa, hstr⟩ := hE.2.2.2.2.2.2.1 (138, "the buffer is not a word") (by decide +kernel)
    exact vx_throwS (own := RX2) (cls := "java/lang/IllegalArgumentException") (text := "the buffer is not a word") (names := jx_names) (ik := 45) (is := 138) (ic := 49) hx hb hfl hown (by decide +kernel) (by decide +kernel) (hts _ q_X2_order_1) (hts _ q_X2_order_2) hstr (jx_hat_A hE.1 (fun w h => hts w (t_X2_order_49 w h))) jx_good_A hE.2.2.2.2.2.2.2.1 hE.2.2.2.2.2.2.2.2.1 hS (by rw [hml]; exact hl.1) dX2_order_7 dX2_order_10 dX2_order_11 dX2_order_13 dX2_order_16 (fun z hz => (hex z hz).elim) (Nat.le_of_ble_eq_true rfl) (Nat.le_of_ble_eq_true rfl) (Nat.le_of_ble_eq_true rfl) (Nat.le_of_ble_eq_true rfl) hlocks (fun t hvm hsz hq => ⟨"java/lang/IllegalArgumentException", hw, ⟨rfl, jx_post hP hD hK hvm hq⟩, jx_frame hS hsz hq⟩) hS.2.2 (Nat.le_of_ble_eq_true rfl) (Nat.le_of_ble_eq_true rfl)
theorem q_X2_movedPlaces_1 : Cond.fieldLink RX2 28 "TwistedRow" "places" "I" ∈ wsX2_movedPlaces := List.mem_of_getElem? (i := 1) rfl
theorem k_X2_movedPlaces_X2 : ∀ w ∈ wsX20, w ∈ wsX2_movedPlaces := my_in _ [3, 4, 5, 6, 7, 8, 9, 10, 11, 12] (by decide +kernel)
theorem q_X2_movedPlaces_2 : Cond.fieldLink RX2 21 "TwistedRow" "sources" "[[I" ∈ wsX2_movedPlaces := List.mem_of_getElem? (i := 2) rfl
def lp_X2_movedPlaces_5 (c_pl : Int32) (c_so : Nat → Nat → Int32) (v_1 : Int32) (v_2 : Int32) (K43 : Int32 → Int32 → Prop) : Nat → Int32 → Int32 → Prop
  | 0, _, _ => False
  | N + 1, v_3, v_4 => ((c_pl ≤ v_4 → (K43 v_3 v_4)) ∧ (¬ c_pl ≤ v_4 → (vp_in v_1 12 ∧ (vp_in v_4 8 ∧ (((v_2 &&& (1 <<< ((c_so ((v_1 : Int32).toNatClampNeg) (v_4 : Int32).toNatClampNeg) &&& 31))) = 0 → (lp_X2_movedPlaces_5 c_pl c_so v_1 v_2 K43 N v_3 (v_4 + 1))) ∧ (¬ (v_2 &&& (1 <<< ((c_so ((v_1 : Int32).toNatClampNeg) (v_4 : Int32).toNatClampNeg) &&& 31))) = 0 → (∀ x_5 : Int32, x_5 = v_3 ||| (1 <<< (v_4 &&& 31)) → (lp_X2_movedPlaces_5 c_pl c_so v_1 v_2 K43 N x_5 (v_4 + 1)))))))))
set_option maxHeartbeats 4000000 in
set_option maxRecDepth 100000 in
theorem l_X2_movedPlaces_5 {p : Program} {l : Launch} {e : Env} {s : State} {m : MethodId} {args : Array Value} {below : List Frame} {meth : Method} {c : Code} {A : Nat → Prop} {D : va_G} {cy : Nat → ClassId} {Q : State → Prop} {a_this : Nat} {a_ti : Nat} {a_sc : Nat} {a_wr : Nat} {a_so : Nat} {a_inp : Nat} {a_G : Nat} {r_so : Nat → Nat} {c_pl : Int32} {c_tu : Int32} {c_al : Int32} {c_il : Int32} {c_so : Nat → Nat → Int32} {v_1 : Int32} {v_2 : Int32} {K43 : Int32 → Int32 → Prop} (C0 : Cx p s m args c cX2_movedPlaces yX2_movedPlaces.cls 5 wsX2_movedPlaces D cy A)
    (k43 : ∀ (v_3 : Int32) (v_4 : Int32) (H : Heap) (locs : List Loc) (ls : Array Slot), K43 v_3 v_4 → va_P D vwCl ((HAppend.hAppend (α := va_W) (β := va_W) (γ := va_W) [(a_this, .inr (2, [.ref a_ti, .ref a_sc, .ref a_wr, .ref a_so, .ref a_inp, .int c_pl, .int c_tu, .int c_al, .int c_il, .ref a_G])), (a_so, .inl (cy 3, 12, .inr (.inr (.inr (.inr (rowsF r_so))))))] (rowsW (cy 0) r_so 8 c_so))) H → va_D A ((HAppend.hAppend (α := va_W) (β := va_W) (γ := va_W) [(a_this, .inr (2, [.ref a_ti, .ref a_sc, .ref a_wr, .ref a_so, .ref a_inp, .int c_pl, .int c_tu, .int c_al, .int c_il, .ref a_G])), (a_so, .inl (cy 3, 12, .inr (.inr (.inr (.inr (rowsF r_so))))))] (rowsW (cy 0) r_so 8 c_so))) → va_S A s.heap H locs → lv_has ls 5 [(3, .int v_3)] → W p l e (({ frames := 0, cells := 0, slots := 0, locals := 0 } : Room)) s m args below meth c H locs 0 0 Q (F0 m 43 ls [])) :
    ∀ (N : Nat) (v_3 : Int32) (v_4 : Int32) (H : Heap) (locs : List Loc) (ls : Array Slot), lp_X2_movedPlaces_5 c_pl c_so v_1 v_2 K43 N v_3 v_4 → va_P D vwCl ((HAppend.hAppend (α := va_W) (β := va_W) (γ := va_W) [(a_this, .inr (2, [.ref a_ti, .ref a_sc, .ref a_wr, .ref a_so, .ref a_inp, .int c_pl, .int c_tu, .int c_al, .int c_il, .ref a_G])), (a_so, .inl (cy 3, 12, .inr (.inr (.inr (.inr (rowsF r_so))))))] (rowsW (cy 0) r_so 8 c_so))) H → va_D A ((HAppend.hAppend (α := va_W) (β := va_W) (γ := va_W) [(a_this, .inr (2, [.ref a_ti, .ref a_sc, .ref a_wr, .ref a_so, .ref a_inp, .int c_pl, .int c_tu, .int c_al, .int c_il, .ref a_G])), (a_so, .inl (cy 3, 12, .inr (.inr (.inr (.inr (rowsF r_so))))))] (rowsW (cy 0) r_so 8 c_so))) → va_S A s.heap H locs → lv_has ls 5 [(0, .ref a_this), (1, .int v_1), (2, .int v_2), (3, .int v_3), (4, .int v_4)] → W p l e (({ frames := 0, cells := 0, slots := 0, locals := 0 } : Room)) s m args below meth c H locs 0 0 Q (F0 m 5 ls []) := by
  obtain ⟨hx, hb, hml, hown, hts, hK, hA⟩ := id C0
  intro N
  induction N with
  | zero =>
    intro v_3 v_4 H locs ls hw
    exact False.elim hw
  | succ N ih =>
    intro v_3 v_4 H locs ls hw hP hD hS hl
    rw [lp_X2_movedPlaces_5] at hw
    refine lv_iload hx hb dX2_movedPlaces_5 (lv_at hl 4 rfl) ?_
    refine lv_aload_n hx hb dX2_movedPlaces_7 rfl (lv_at hl 0 rfl) ?_
    refine va_get (D := D) (ci := 2) (v := .int c_pl) (C := RX2) (T := TX2) (N := 10) hx hb hts k_X2_movedPlaces_X2 hown hK hP 0 rfl rfl 5 (by decide) (hts _ q_X2_movedPlaces_1) (fun _ h9 => h9) rfl dX2_movedPlaces_8 ?_
    refine lv_icmp_ge (tgt := 43) hx hb dX2_movedPlaces_11 (by decide) (fun c_1 => ?_) (fun c_1 => ?_)
    · replace hw := hw.1 c_1
      exact k43 _ _ _ _ _ hw hP hD hS (lv_sub hl [3] rfl)
    · replace hw := hw.2 c_1
      refine lv_iload_n hx hb dX2_movedPlaces_14 rfl (lv_at hl 2 rfl) ?_
      refine lv_iconst (v := 1) hx hb dX2_movedPlaces_15 (by decide) ?_
      refine lv_aload_n hx hb dX2_movedPlaces_16 rfl (lv_at hl 0 rfl) ?_
      refine va_get (D := D) (ci := 2) (v := .ref a_so) (C := RX2) (T := TX2) (N := 10) hx hb hts k_X2_movedPlaces_X2 hown hK hP 0 rfl rfl 3 (by decide) (hts _ q_X2_movedPlaces_2) (fun _ h9 => h9) rfl dX2_movedPlaces_17 ?_
      refine lv_iload_n hx hb dX2_movedPlaces_20 rfl (lv_at hl 1 rfl) ?_
      obtain ⟨h_2, hw⟩ := hw
      refine j_aald hx hb hK hP 1 3 rfl rfl h_2 dX2_movedPlaces_21 ?_
      refine lv_iload hx hb dX2_movedPlaces_22 (lv_at hl 4 rfl) ?_
      obtain ⟨h_3, hw⟩ := hw
      refine va_iald hx hb hK hP _ 0 (rowsW_get _ _ _ _ _ (j_lt12 h_2)) rfl h_3 dX2_movedPlaces_24 ?_
      refine lv_ishl hx hb dX2_movedPlaces_25 ?_
      refine lv_iand hx hb dX2_movedPlaces_26 ?_
      refine lv_if_eq (tgt := 37) hx hb dX2_movedPlaces_27 (by decide) (fun c_4 => ?_) (fun c_4 => ?_)
      · replace hw := hw.1 c_4
        refine lv_iinc (v := v_4 + 1) (lv' := [(4, .int (v_4 + 1)), (0, .ref a_this), (1, .int v_1), (2, .int v_2), (3, .int v_3)]) hx hb dX2_movedPlaces_37 hl (k := 4) rfl rfl (by decide) rfl (fun ls hl => ?_)
        refine lv_goto (tgt := 5) hx hb dX2_movedPlaces_40 (by decide) ?_
        exact ih _ _ _ _ _ hw hP hD hS (lv_sub hl [1, 2, 3, 4, 0] rfl)
      · replace hw := hw.2 c_4
        refine lv_iload_n hx hb dX2_movedPlaces_30 rfl (lv_at hl 3 rfl) ?_
        refine lv_iconst (v := 1) hx hb dX2_movedPlaces_31 (by decide) ?_
        refine lv_iload hx hb dX2_movedPlaces_32 (lv_at hl 4 rfl) ?_
        refine lv_ishl hx hb dX2_movedPlaces_34 ?_
        refine lv_ior hx hb dX2_movedPlaces_35 ?_
        refine lv_topi (fun x_5 ex_5 => ?_)
        replace hw := hw x_5 ex_5
        refine lv_istore_n (lv' := [(3, .int x_5), (0, .ref a_this), (1, .int v_1), (2, .int v_2), (4, .int v_4)]) hx hb dX2_movedPlaces_36 rfl hl (by decide) rfl (fun ls hl => ?_)
        refine lv_iinc (v := v_4 + 1) (lv' := [(4, .int (v_4 + 1)), (3, .int x_5), (0, .ref a_this), (1, .int v_1), (2, .int v_2)]) hx hb dX2_movedPlaces_37 hl (k := 4) rfl rfl (by decide) rfl (fun ls hl => ?_)
        refine lv_goto (tgt := 5) hx hb dX2_movedPlaces_40 (by decide) ?_
        exact ih _ _ _ _ _ hw hP hD hS (lv_sub hl [2, 3, 4, 1, 0] rfl)
def wp_X2_movedPlaces (c_pl : Int32) (c_so : Nat → Nat → Int32) (p_1 : Int32) (p_2 : Int32) (post : Int32 → Unit → Prop) : Prop := (∃ N_6 : Nat, lp_X2_movedPlaces_5 c_pl c_so p_1 p_2 (fun (v_7 : Int32) (v_8 : Int32) => (post v_7 ())) N_6 0 0)
set_option maxHeartbeats 4000000 in
set_option maxRecDepth 100000 in
theorem c_X2_movedPlaces (l : Launch) (D : va_G) (cy : Nat → ClassId) (a_this : Nat) (a_ti : Nat) (a_sc : Nat) (a_wr : Nat) (a_so : Nat) (a_inp : Nat) (a_G : Nat) (r_so : Nat → Nat) (c_pl : Int32) (c_tu : Int32) (c_al : Int32) (c_il : Int32) (c_so : Nat → Nat → Int32) (p_1 : Int32) (p_2 : Int32) {post : Int32 → Unit → Prop} (hw : wp_X2_movedPlaces c_pl c_so p_1 p_2 post) (sz : Nat) : Met l yX2_movedPlaces wsX2_movedPlaces ({ frames := 0, cells := 0, slots := 0, locals := 0 }) (va_Pc [.ref a_this, .int p_1, .int p_2] (PreW D cy ((HAppend.hAppend (α := va_W) (β := va_W) (γ := va_W) [(a_this, .inr (2, [.ref a_ti, .ref a_sc, .ref a_wr, .ref a_so, .ref a_inp, .int c_pl, .int c_tu, .int c_al, .int c_il, .ref a_G])), (a_so, .inl (cy 3, 12, .inr (.inr (.inr (.inr (rowsF r_so))))))] (rowsW (cy 0) r_so 8 c_so))) sz)) (va_Qi post (fun u t => PostW D cy (va_A ((HAppend.hAppend (α := va_W) (β := va_W) (γ := va_W) [(a_this, .inr (2, [.ref a_ti, .ref a_sc, .ref a_wr, .ref a_so, .ref a_inp, .int c_pl, .int c_tu, .int c_al, .int c_il, .ref a_G])), (a_so, .inl (cy 3, 12, .inr (.inr (.inr (.inr (rowsF r_so))))))] (rowsW (cy 0) r_so 8 c_so))) sz) ((HAppend.hAppend (α := va_W) (β := va_W) (γ := va_W) [(a_this, .inr (2, [.ref a_ti, .ref a_sc, .ref a_wr, .ref a_so, .ref a_inp, .int c_pl, .int c_tu, .int c_al, .int c_il, .ref a_G])), (a_so, .inl (cy 3, 12, .inr (.inr (.inr (.inr (rowsF r_so))))))] (rowsW (cy 0) r_so 8 c_so))) t) (va_A ((HAppend.hAppend (α := va_W) (β := va_W) (γ := va_W) [(a_this, .inr (2, [.ref a_ti, .ref a_sc, .ref a_wr, .ref a_so, .ref a_inp, .int c_pl, .int c_tu, .int c_al, .int c_il, .ref a_G])), (a_so, .inl (cy 3, 12, .inr (.inr (.inr (.inr (rowsF r_so))))))] (rowsW (cy 0) r_so 8 c_so))) sz)) 0 0 (va_A ((HAppend.hAppend (α := va_W) (β := va_W) (γ := va_W) [(a_this, .inr (2, [.ref a_ti, .ref a_sc, .ref a_wr, .ref a_so, .ref a_inp, .int c_pl, .int c_tu, .int c_al, .int c_il, .ref a_G])), (a_so, .inl (cy 3, 12, .inr (.inr (.inr (.inr (rowsF r_so))))))] (rowsW (cy 0) r_so 8 c_so))) sz) := by
  refine j_met (l := l) (y := yX2_movedPlaces) (ws := wsX2_movedPlaces) (D := D) (cy := cy) (sz := sz) (av := [.ref a_this, .int p_1, .int p_2]) (Qc := fun A => va_Qi post (fun u t => PostW D cy A ((HAppend.hAppend (α := va_W) (β := va_W) (γ := va_W) [(a_this, .inr (2, [.ref a_ti, .ref a_sc, .ref a_wr, .ref a_so, .ref a_inp, .int c_pl, .int c_tu, .int c_al, .int c_il, .ref a_G])), (a_so, .inl (cy 3, 12, .inr (.inr (.inr (.inr (rowsF r_so))))))] (rowsW (cy 0) r_so 8 c_so))) t) A) (by decide +kernel) rfl (Nat.le_of_ble_eq_true rfl) ?_
  intro p e s m below meth c A ls C0 hr hlocks hP hD hS hl
  obtain ⟨hx, hb, hml, hown, hts, hK, hA⟩ := id C0
  have hown : s.vm.findClass RX2 = some m.cls := hown
  have hl : lv_has ls 5 [(0, .ref a_this), (1, .int p_1), (2, .int p_2)] := hl
  unfold wp_X2_movedPlaces at hw
  refine lv_iconst (v := 0) hx hb dX2_movedPlaces_0 (by decide) ?_
  refine lv_istore_n (lv' := [(3, .int 0), (0, .ref a_this), (1, .int p_1), (2, .int p_2)]) hx hb dX2_movedPlaces_1 rfl hl (by decide) rfl (fun ls hl => ?_)
  refine lv_iconst (v := 0) hx hb dX2_movedPlaces_2 (by decide) ?_
  refine lv_istore (lv' := [(4, .int 0), (3, .int 0), (0, .ref a_this), (1, .int p_1), (2, .int p_2)]) hx hb dX2_movedPlaces_3 hl (by decide) rfl (fun ls hl => ?_)
  obtain ⟨N_6, hw⟩ := hw
  refine l_X2_movedPlaces_5 C0 (fun v_7 v_8 H locs ls hw hP hD hS hl => ?_) _ _ _ _ _ _ hw hP hD hS (lv_sub hl [2, 3, 4, 1, 0] rfl)
  refine lv_iload_n hx hb dX2_movedPlaces_43 rfl (lv_at hl 0 rfl) ?_
  exact j_iret (fun u => (HAppend.hAppend (α := va_W) (β := va_W) (γ := va_W) [(a_this, .inr (2, [.ref a_ti, .ref a_sc, .ref a_wr, .ref a_so, .ref a_inp, .int c_pl, .int c_tu, .int c_al, .int c_il, .ref a_G])), (a_so, .inl (cy 3, 12, .inr (.inr (.inr (.inr (rowsF r_so))))))] (rowsW (cy 0) r_so 8 c_so))) (() : Unit) hx hb hr hlocks hK hP hD hS hw dX2_movedPlaces_44
theorem q_X2_orbitOf_1 : Cond.fieldLink RX2 28 "TwistedRow" "places" "I" ∈ wsX2_orbitOf := List.mem_of_getElem? (i := 1) rfl
theorem k_X2_orbitOf_X2 : ∀ w ∈ wsX20, w ∈ wsX2_orbitOf := my_in _ [18, 19, 20, 21, 22, 23, 24, 25, 26, 27] (by decide +kernel)
theorem q_X2_orbitOf_2 : Cond.fieldLink RX2 52 "TwistedRow" "turns" "I" ∈ wsX2_orbitOf := List.mem_of_getElem? (i := 2) rfl
def lp_X2_orbitOf_17 (c_al : Int32) (c_pl : Int32) (c_so : Nat → Nat → Int32) (c_tu : Int32) (K53 : Int32 → Int32 → Prop) : Nat → Int32 → Int32 → Prop
  | 0, _, _ => False
  | N + 1, v_2, v_4 => (((2 * c_tu) ≤ v_4 → (K53 v_2 v_4)) ∧ (¬ (2 * c_tu) ≤ v_4 → (wp_X2_isAllowed c_tu c_al v_4 (fun r_5 u_4 => ((r_5 = 0 → (lp_X2_orbitOf_17 c_al c_pl c_so c_tu K53 N v_2 (v_4 + 1))) ∧ (¬ r_5 = 0 → (wp_X2_movedPlaces c_pl c_so v_4 v_2 (fun r_8 u_7 => (∀ x_9 : Int32, x_9 = v_2 ||| r_8 → (lp_X2_orbitOf_17 c_al c_pl c_so c_tu K53 N x_9 (v_4 + 1)))))))))))
set_option maxHeartbeats 4000000 in
set_option maxRecDepth 100000 in
theorem l_X2_orbitOf_17 {p : Program} {l : Launch} {e : Env} {s : State} {m : MethodId} {args : Array Value} {below : List Frame} {meth : Method} {c : Code} {A : Nat → Prop} {D : va_G} {cy : Nat → ClassId} {Q : State → Prop} {a_this : Nat} {a_ti : Nat} {a_sc : Nat} {a_wr : Nat} {a_so : Nat} {a_inp : Nat} {a_G : Nat} {r_so : Nat → Nat} {c_pl : Int32} {c_tu : Int32} {c_al : Int32} {c_il : Int32} {c_so : Nat → Nat → Int32} {v_3 : Int32} {K53 : Int32 → Int32 → Prop} (C0 : Cx p s m args c cX2_orbitOf yX2_orbitOf.cls 5 wsX2_orbitOf D cy A)
    (k53 : ∀ (v_2 : Int32) (v_4 : Int32) (H : Heap) (locs : List Loc) (ls : Array Slot), K53 v_2 v_4 → va_P D vwCl ((HAppend.hAppend (α := va_W) (β := va_W) (γ := va_W) [(a_this, .inr (2, [.ref a_ti, .ref a_sc, .ref a_wr, .ref a_so, .ref a_inp, .int c_pl, .int c_tu, .int c_al, .int c_il, .ref a_G])), (a_so, .inl (cy 3, 12, .inr (.inr (.inr (.inr (rowsF r_so))))))] (rowsW (cy 0) r_so 8 c_so))) H → va_D A ((HAppend.hAppend (α := va_W) (β := va_W) (γ := va_W) [(a_this, .inr (2, [.ref a_ti, .ref a_sc, .ref a_wr, .ref a_so, .ref a_inp, .int c_pl, .int c_tu, .int c_al, .int c_il, .ref a_G])), (a_so, .inl (cy 3, 12, .inr (.inr (.inr (.inr (rowsF r_so))))))] (rowsW (cy 0) r_so 8 c_so))) → va_S A s.heap H locs → lv_has ls 5 [(0, .ref a_this), (2, .int v_2), (3, .int v_3)] → W p l e (({ frames := 2, cells := 0, slots := 0, locals := 42 } : Room)) s m args below meth c H locs 0 0 Q (F0 m 53 ls [])) :
    ∀ (N : Nat) (v_2 : Int32) (v_4 : Int32) (H : Heap) (locs : List Loc) (ls : Array Slot), lp_X2_orbitOf_17 c_al c_pl c_so c_tu K53 N v_2 v_4 → va_P D vwCl ((HAppend.hAppend (α := va_W) (β := va_W) (γ := va_W) [(a_this, .inr (2, [.ref a_ti, .ref a_sc, .ref a_wr, .ref a_so, .ref a_inp, .int c_pl, .int c_tu, .int c_al, .int c_il, .ref a_G])), (a_so, .inl (cy 3, 12, .inr (.inr (.inr (.inr (rowsF r_so))))))] (rowsW (cy 0) r_so 8 c_so))) H → va_D A ((HAppend.hAppend (α := va_W) (β := va_W) (γ := va_W) [(a_this, .inr (2, [.ref a_ti, .ref a_sc, .ref a_wr, .ref a_so, .ref a_inp, .int c_pl, .int c_tu, .int c_al, .int c_il, .ref a_G])), (a_so, .inl (cy 3, 12, .inr (.inr (.inr (.inr (rowsF r_so))))))] (rowsW (cy 0) r_so 8 c_so))) → va_S A s.heap H locs → lv_has ls 5 [(0, .ref a_this), (2, .int v_2), (3, .int v_3), (4, .int v_4)] → W p l e (({ frames := 2, cells := 0, slots := 0, locals := 42 } : Room)) s m args below meth c H locs 0 0 Q (F0 m 17 ls []) := by
  obtain ⟨hx, hb, hml, hown, hts, hK, hA⟩ := id C0
  intro N
  induction N with
  | zero =>
    intro v_2 v_4 H locs ls hw
    exact False.elim hw
  | succ N ih =>
    intro v_2 v_4 H locs ls hw hP hD hS hl
    rw [lp_X2_orbitOf_17] at hw
    refine lv_iload hx hb dX2_orbitOf_17 (lv_at hl 3 rfl) ?_
    refine lv_iconst (v := 2) hx hb dX2_orbitOf_19 (by decide) ?_
    refine lv_aload_n hx hb dX2_orbitOf_20 rfl (lv_at hl 0 rfl) ?_
    refine va_get (D := D) (ci := 2) (v := .int c_tu) (C := RX2) (T := TX2) (N := 10) hx hb hts k_X2_orbitOf_X2 hown hK hP 0 rfl rfl 6 (by decide) (hts _ q_X2_orbitOf_2) (fun _ h9 => h9) rfl dX2_orbitOf_21 ?_
    refine lv_imul hx hb dX2_orbitOf_24 ?_
    refine lv_icmp_ge (tgt := 53) hx hb dX2_orbitOf_25 (by decide) (fun c_3 => ?_) (fun c_3 => ?_)
    · replace hw := hw.1 c_3
      exact k53 _ _ _ _ _ hw hP hD hS (lv_sub hl [0, 1, 2] rfl)
    · replace hw := hw.2 c_3
      refine lv_aload_n hx hb dX2_orbitOf_28 rfl (lv_at hl 0 rfl) ?_
      refine lv_iload hx hb dX2_orbitOf_29 (lv_at hl 3 rfl) ?_
      refine j_calli (wr := (HAppend.hAppend (α := va_W) (β := va_W) (γ := va_W) [(a_so, .inl (cy 3, 12, .inr (.inr (.inr (.inr (rowsF r_so))))))] (rowsW (cy 0) r_so 8 c_so))) (va_runV (As := [.int v_4]) (rest := []) ⟨hx, hb, hml, hown, hts⟩ (c_X2_isAllowed l D cy a_this a_ti a_sc a_wr a_so a_inp a_G c_pl c_tu c_al c_il v_4 hw H.size) (cwV 1 hts gX2_orbitOf_X2_isAllowed rfl rfl rfl (by decide +kernel) ⟨Nat.le_of_ble_eq_true rfl, Nat.le_of_ble_eq_true rfl⟩) (j_preV hK hP hD (isC := [0]) rfl (by decide +kernel) (ci := 2) (q0 := 0) rfl rfl) rfl rfl hl.1 rfl (lv_room (Nat.le_of_ble_eq_true rfl)) dX2_orbitOf_31 ⟨Nat.le_of_ble_eq_true rfl, Nat.le_of_ble_eq_true rfl⟩) hP hD hS hA [0] [1, 2, 3, 4, 5, 6, 7, 8, 9, 10, 11, 12, 13] rfl rfl (by decide +kernel) (by decide +kernel) (fun u_4 => (HAppend.hAppend (α := va_W) (β := va_W) (γ := va_W) [(a_this, .inr (2, [.ref a_ti, .ref a_sc, .ref a_wr, .ref a_so, .ref a_inp, .int c_pl, .int c_tu, .int c_al, .int c_il, .ref a_G])), (a_so, .inl (cy 3, 12, .inr (.inr (.inr (.inr (rowsF r_so))))))] (rowsW (cy 0) r_so 8 c_so))) [13, 0, 1, 2, 3, 4, 5, 6, 7, 8, 9, 10, 11, 12] (by decide +kernel) (fun u => rfl) (fun r_5 u_4 H locs hw hP hD hS => ?_)
      have hP : va_P D vwCl ((HAppend.hAppend (α := va_W) (β := va_W) (γ := va_W) [(a_this, .inr (2, [.ref a_ti, .ref a_sc, .ref a_wr, .ref a_so, .ref a_inp, .int c_pl, .int c_tu, .int c_al, .int c_il, .ref a_G])), (a_so, .inl (cy 3, 12, .inr (.inr (.inr (.inr (rowsF r_so))))))] (rowsW (cy 0) r_so 8 c_so))) H := hP
      have hD : va_D A ((HAppend.hAppend (α := va_W) (β := va_W) (γ := va_W) [(a_this, .inr (2, [.ref a_ti, .ref a_sc, .ref a_wr, .ref a_so, .ref a_inp, .int c_pl, .int c_tu, .int c_al, .int c_il, .ref a_G])), (a_so, .inl (cy 3, 12, .inr (.inr (.inr (.inr (rowsF r_so))))))] (rowsW (cy 0) r_so 8 c_so))) := hD
      refine lv_if_eq (tgt := 47) hx hb dX2_orbitOf_34 (by decide) (fun c_6 => ?_) (fun c_6 => ?_)
      · replace hw := hw.1 c_6
        refine lv_iinc (v := v_4 + 1) (lv' := [(4, .int (v_4 + 1)), (0, .ref a_this), (2, .int v_2), (3, .int v_3)]) hx hb dX2_orbitOf_47 hl (k := 3) rfl rfl (by decide) rfl (fun ls hl => ?_)
        refine lv_goto (tgt := 17) hx hb dX2_orbitOf_50 (by decide) ?_
        exact ih _ _ _ _ _ hw hP hD hS (lv_sub hl [1, 2, 3, 0] rfl)
      · replace hw := hw.2 c_6
        refine lv_iload_n hx hb dX2_orbitOf_37 rfl (lv_at hl 1 rfl) ?_
        refine lv_aload_n hx hb dX2_orbitOf_38 rfl (lv_at hl 0 rfl) ?_
        refine lv_iload hx hb dX2_orbitOf_39 (lv_at hl 3 rfl) ?_
        refine lv_iload_n hx hb dX2_orbitOf_41 rfl (lv_at hl 1 rfl) ?_
        refine j_calli (wr := []) (va_runV (As := [.int v_4, .int v_2]) (rest := [.int v_2]) ⟨hx, hb, hml, hown, hts⟩ (c_X2_movedPlaces l D cy a_this a_ti a_sc a_wr a_so a_inp a_G r_so c_pl c_tu c_al c_il c_so v_4 v_2 hw H.size) (cwV 2 hts gX2_orbitOf_X2_movedPlaces rfl rfl rfl (by decide +kernel) ⟨Nat.le_of_ble_eq_true rfl, Nat.le_of_ble_eq_true rfl⟩) (j_preV hK hP hD (isC := [0, 1, 2, 3, 4, 5, 6, 7, 8, 9, 10, 11, 12, 13]) rfl (by decide +kernel) (ci := 2) (q0 := 0) rfl rfl) rfl rfl hl.1 rfl (lv_room (Nat.le_of_ble_eq_true rfl)) dX2_orbitOf_42 ⟨Nat.le_of_ble_eq_true rfl, Nat.le_of_ble_eq_true rfl⟩) hP hD hS hA [0, 1, 2, 3, 4, 5, 6, 7, 8, 9, 10, 11, 12, 13] [] rfl rfl (by decide +kernel) (by decide +kernel) (fun u_7 => (HAppend.hAppend (α := va_W) (β := va_W) (γ := va_W) [(a_this, .inr (2, [.ref a_ti, .ref a_sc, .ref a_wr, .ref a_so, .ref a_inp, .int c_pl, .int c_tu, .int c_al, .int c_il, .ref a_G])), (a_so, .inl (cy 3, 12, .inr (.inr (.inr (.inr (rowsF r_so))))))] (rowsW (cy 0) r_so 8 c_so))) [0, 1, 2, 3, 4, 5, 6, 7, 8, 9, 10, 11, 12, 13] (by decide +kernel) (fun u => rfl) (fun r_8 u_7 H locs hw hP hD hS => ?_)
        have hP : va_P D vwCl ((HAppend.hAppend (α := va_W) (β := va_W) (γ := va_W) [(a_this, .inr (2, [.ref a_ti, .ref a_sc, .ref a_wr, .ref a_so, .ref a_inp, .int c_pl, .int c_tu, .int c_al, .int c_il, .ref a_G])), (a_so, .inl (cy 3, 12, .inr (.inr (.inr (.inr (rowsF r_so))))))] (rowsW (cy 0) r_so 8 c_so))) H := hP
        have hD : va_D A ((HAppend.hAppend (α := va_W) (β := va_W) (γ := va_W) [(a_this, .inr (2, [.ref a_ti, .ref a_sc, .ref a_wr, .ref a_so, .ref a_inp, .int c_pl, .int c_tu, .int c_al, .int c_il, .ref a_G])), (a_so, .inl (cy 3, 12, .inr (.inr (.inr (.inr (rowsF r_so))))))] (rowsW (cy 0) r_so 8 c_so))) := hD
        refine lv_ior hx hb dX2_orbitOf_45 ?_
        refine lv_topi (fun x_9 ex_9 => ?_)
        replace hw := hw x_9 ex_9
        refine lv_istore_n (lv' := [(2, .int x_9), (0, .ref a_this), (3, .int v_3), (4, .int v_4)]) hx hb dX2_orbitOf_46 rfl hl (by decide) rfl (fun ls hl => ?_)
        refine lv_iinc (v := v_4 + 1) (lv' := [(4, .int (v_4 + 1)), (2, .int x_9), (0, .ref a_this), (3, .int v_3)]) hx hb dX2_orbitOf_47 hl (k := 3) rfl rfl (by decide) rfl (fun ls hl => ?_)
        refine lv_goto (tgt := 17) hx hb dX2_orbitOf_50 (by decide) ?_
        exact ih _ _ _ _ _ hw hP hD hS (lv_sub hl [2, 1, 3, 0] rfl)
def lp_X2_orbitOf_6 (c_al : Int32) (c_pl : Int32) (c_so : Nat → Nat → Int32) (c_tu : Int32) (K59 : Int32 → Int32 → Prop) : Nat → Int32 → Int32 → Prop
  | 0, _, _ => False
  | N + 1, v_2, v_3 => ((c_pl ≤ v_3 → (K59 v_2 v_3)) ∧ (¬ c_pl ≤ v_3 → (∃ N_10 : Nat, lp_X2_orbitOf_17 c_al c_pl c_so c_tu (fun (v_11 : Int32) (v_12 : Int32) => (lp_X2_orbitOf_6 c_al c_pl c_so c_tu K59 N v_11 (v_3 + 1))) N_10 v_2 0)))
set_option maxHeartbeats 4000000 in
set_option maxRecDepth 100000 in
theorem l_X2_orbitOf_6 {p : Program} {l : Launch} {e : Env} {s : State} {m : MethodId} {args : Array Value} {below : List Frame} {meth : Method} {c : Code} {A : Nat → Prop} {D : va_G} {cy : Nat → ClassId} {Q : State → Prop} {a_this : Nat} {a_ti : Nat} {a_sc : Nat} {a_wr : Nat} {a_so : Nat} {a_inp : Nat} {a_G : Nat} {r_so : Nat → Nat} {c_pl : Int32} {c_tu : Int32} {c_al : Int32} {c_il : Int32} {c_so : Nat → Nat → Int32} {K59 : Int32 → Int32 → Prop} (C0 : Cx p s m args c cX2_orbitOf yX2_orbitOf.cls 5 wsX2_orbitOf D cy A)
    (k59 : ∀ (v_2 : Int32) (v_3 : Int32) (H : Heap) (locs : List Loc) (ls : Array Slot), K59 v_2 v_3 → va_P D vwCl ((HAppend.hAppend (α := va_W) (β := va_W) (γ := va_W) [(a_this, .inr (2, [.ref a_ti, .ref a_sc, .ref a_wr, .ref a_so, .ref a_inp, .int c_pl, .int c_tu, .int c_al, .int c_il, .ref a_G])), (a_so, .inl (cy 3, 12, .inr (.inr (.inr (.inr (rowsF r_so))))))] (rowsW (cy 0) r_so 8 c_so))) H → va_D A ((HAppend.hAppend (α := va_W) (β := va_W) (γ := va_W) [(a_this, .inr (2, [.ref a_ti, .ref a_sc, .ref a_wr, .ref a_so, .ref a_inp, .int c_pl, .int c_tu, .int c_al, .int c_il, .ref a_G])), (a_so, .inl (cy 3, 12, .inr (.inr (.inr (.inr (rowsF r_so))))))] (rowsW (cy 0) r_so 8 c_so))) → va_S A s.heap H locs → lv_has ls 5 [(2, .int v_2)] → W p l e (({ frames := 2, cells := 0, slots := 0, locals := 42 } : Room)) s m args below meth c H locs 0 0 Q (F0 m 59 ls [])) :
    ∀ (N : Nat) (v_2 : Int32) (v_3 : Int32) (H : Heap) (locs : List Loc) (ls : Array Slot), lp_X2_orbitOf_6 c_al c_pl c_so c_tu K59 N v_2 v_3 → va_P D vwCl ((HAppend.hAppend (α := va_W) (β := va_W) (γ := va_W) [(a_this, .inr (2, [.ref a_ti, .ref a_sc, .ref a_wr, .ref a_so, .ref a_inp, .int c_pl, .int c_tu, .int c_al, .int c_il, .ref a_G])), (a_so, .inl (cy 3, 12, .inr (.inr (.inr (.inr (rowsF r_so))))))] (rowsW (cy 0) r_so 8 c_so))) H → va_D A ((HAppend.hAppend (α := va_W) (β := va_W) (γ := va_W) [(a_this, .inr (2, [.ref a_ti, .ref a_sc, .ref a_wr, .ref a_so, .ref a_inp, .int c_pl, .int c_tu, .int c_al, .int c_il, .ref a_G])), (a_so, .inl (cy 3, 12, .inr (.inr (.inr (.inr (rowsF r_so))))))] (rowsW (cy 0) r_so 8 c_so))) → va_S A s.heap H locs → lv_has ls 5 [(0, .ref a_this), (2, .int v_2), (3, .int v_3)] → W p l e (({ frames := 2, cells := 0, slots := 0, locals := 42 } : Room)) s m args below meth c H locs 0 0 Q (F0 m 6 ls []) := by
  obtain ⟨hx, hb, hml, hown, hts, hK, hA⟩ := id C0
  intro N
  induction N with
  | zero =>
    intro v_2 v_3 H locs ls hw
    exact False.elim hw
  | succ N ih =>
    intro v_2 v_3 H locs ls hw hP hD hS hl
    rw [lp_X2_orbitOf_6] at hw
    refine lv_iload_n hx hb dX2_orbitOf_6 rfl (lv_at hl 2 rfl) ?_
    refine lv_aload_n hx hb dX2_orbitOf_7 rfl (lv_at hl 0 rfl) ?_
    refine va_get (D := D) (ci := 2) (v := .int c_pl) (C := RX2) (T := TX2) (N := 10) hx hb hts k_X2_orbitOf_X2 hown hK hP 0 rfl rfl 5 (by decide) (hts _ q_X2_orbitOf_1) (fun _ h9 => h9) rfl dX2_orbitOf_8 ?_
    refine lv_icmp_ge (tgt := 59) hx hb dX2_orbitOf_11 (by decide) (fun c_2 => ?_) (fun c_2 => ?_)
    · replace hw := hw.1 c_2
      exact k59 _ _ _ _ _ hw hP hD hS (lv_sub hl [1] rfl)
    · replace hw := hw.2 c_2
      refine lv_iconst (v := 0) hx hb dX2_orbitOf_14 (by decide) ?_
      refine lv_istore (lv' := [(4, .int 0), (0, .ref a_this), (2, .int v_2), (3, .int v_3)]) hx hb dX2_orbitOf_15 hl (by decide) rfl (fun ls hl => ?_)
      obtain ⟨N_10, hw⟩ := hw
      refine l_X2_orbitOf_17 C0 (fun v_11 v_12 H locs ls hw hP hD hS hl => ?_) _ _ _ _ _ _ hw hP hD hS (lv_sub hl [1, 2, 3, 0] rfl)
      refine lv_iinc (v := v_3 + 1) (lv' := [(3, .int (v_3 + 1)), (0, .ref a_this), (2, .int v_11)]) hx hb dX2_orbitOf_53 hl (k := 2) rfl rfl (by decide) rfl (fun ls hl => ?_)
      refine lv_goto (tgt := 6) hx hb dX2_orbitOf_56 (by decide) ?_
      exact ih _ _ _ _ _ hw hP hD hS (lv_sub hl [1, 2, 0] rfl)
def wp_X2_orbitOf (c_pl : Int32) (c_tu : Int32) (c_al : Int32) (c_so : Nat → Nat → Int32) (p_1 : Int32) (post : Int32 → Unit → Prop) : Prop := (∀ x_1 : Int32, x_1 = 1 <<< (p_1 &&& 31) → (∃ N_13 : Nat, lp_X2_orbitOf_6 c_al c_pl c_so c_tu (fun (v_14 : Int32) (v_15 : Int32) => (post v_14 ())) N_13 x_1 1))
set_option maxHeartbeats 4000000 in
set_option maxRecDepth 100000 in
theorem c_X2_orbitOf (l : Launch) (D : va_G) (cy : Nat → ClassId) (a_this : Nat) (a_ti : Nat) (a_sc : Nat) (a_wr : Nat) (a_so : Nat) (a_inp : Nat) (a_G : Nat) (r_so : Nat → Nat) (c_pl : Int32) (c_tu : Int32) (c_al : Int32) (c_il : Int32) (c_so : Nat → Nat → Int32) (p_1 : Int32) {post : Int32 → Unit → Prop} (hw : wp_X2_orbitOf c_pl c_tu c_al c_so p_1 post) (sz : Nat) : Met l yX2_orbitOf wsX2_orbitOf ({ frames := 2, cells := 0, slots := 0, locals := 42 }) (va_Pc [.ref a_this, .int p_1] (PreW D cy ((HAppend.hAppend (α := va_W) (β := va_W) (γ := va_W) [(a_this, .inr (2, [.ref a_ti, .ref a_sc, .ref a_wr, .ref a_so, .ref a_inp, .int c_pl, .int c_tu, .int c_al, .int c_il, .ref a_G])), (a_so, .inl (cy 3, 12, .inr (.inr (.inr (.inr (rowsF r_so))))))] (rowsW (cy 0) r_so 8 c_so))) sz)) (va_Qi post (fun u t => PostW D cy (va_A ((HAppend.hAppend (α := va_W) (β := va_W) (γ := va_W) [(a_this, .inr (2, [.ref a_ti, .ref a_sc, .ref a_wr, .ref a_so, .ref a_inp, .int c_pl, .int c_tu, .int c_al, .int c_il, .ref a_G])), (a_so, .inl (cy 3, 12, .inr (.inr (.inr (.inr (rowsF r_so))))))] (rowsW (cy 0) r_so 8 c_so))) sz) ((HAppend.hAppend (α := va_W) (β := va_W) (γ := va_W) [(a_this, .inr (2, [.ref a_ti, .ref a_sc, .ref a_wr, .ref a_so, .ref a_inp, .int c_pl, .int c_tu, .int c_al, .int c_il, .ref a_G])), (a_so, .inl (cy 3, 12, .inr (.inr (.inr (.inr (rowsF r_so))))))] (rowsW (cy 0) r_so 8 c_so))) t) (va_A ((HAppend.hAppend (α := va_W) (β := va_W) (γ := va_W) [(a_this, .inr (2, [.ref a_ti, .ref a_sc, .ref a_wr, .ref a_so, .ref a_inp, .int c_pl, .int c_tu, .int c_al, .int c_il, .ref a_G])), (a_so, .inl (cy 3, 12, .inr (.inr (.inr (.inr (rowsF r_so))))))] (rowsW (cy 0) r_so 8 c_so))) sz)) 0 0 (va_A ((HAppend.hAppend (α := va_W) (β := va_W) (γ := va_W) [(a_this, .inr (2, [.ref a_ti, .ref a_sc, .ref a_wr, .ref a_so, .ref a_inp, .int c_pl, .int c_tu, .int c_al, .int c_il, .ref a_G])), (a_so, .inl (cy 3, 12, .inr (.inr (.inr (.inr (rowsF r_so))))))] (rowsW (cy 0) r_so 8 c_so))) sz) := by
  refine j_met (l := l) (y := yX2_orbitOf) (ws := wsX2_orbitOf) (D := D) (cy := cy) (sz := sz) (av := [.ref a_this, .int p_1]) (Qc := fun A => va_Qi post (fun u t => PostW D cy A ((HAppend.hAppend (α := va_W) (β := va_W) (γ := va_W) [(a_this, .inr (2, [.ref a_ti, .ref a_sc, .ref a_wr, .ref a_so, .ref a_inp, .int c_pl, .int c_tu, .int c_al, .int c_il, .ref a_G])), (a_so, .inl (cy 3, 12, .inr (.inr (.inr (.inr (rowsF r_so))))))] (rowsW (cy 0) r_so 8 c_so))) t) A) (by decide +kernel) rfl (Nat.le_of_ble_eq_true rfl) ?_
  intro p e s m below meth c A ls C0 hr hlocks hP hD hS hl
  obtain ⟨hx, hb, hml, hown, hts, hK, hA⟩ := id C0
  have hown : s.vm.findClass RX2 = some m.cls := hown
  have hl : lv_has ls 5 [(0, .ref a_this), (1, .int p_1)] := hl
  unfold wp_X2_orbitOf at hw
  refine lv_iconst (v := 1) hx hb dX2_orbitOf_0 (by decide) ?_
  refine lv_iload_n hx hb dX2_orbitOf_1 rfl (lv_at hl 1 rfl) ?_
  refine lv_ishl hx hb dX2_orbitOf_2 ?_
  refine lv_topi (fun x_1 ex_1 => ?_)
  replace hw := hw x_1 ex_1
  refine lv_istore_n (lv' := [(2, .int x_1), (0, .ref a_this), (1, .int p_1)]) hx hb dX2_orbitOf_3 rfl hl (by decide) rfl (fun ls hl => ?_)
  refine lv_iconst (v := 1) hx hb dX2_orbitOf_4 (by decide) ?_
  refine lv_istore_n (lv' := [(3, .int 1), (2, .int x_1), (0, .ref a_this), (1, .int p_1)]) hx hb dX2_orbitOf_5 rfl hl (by decide) rfl (fun ls hl => ?_)
  obtain ⟨N_13, hw⟩ := hw
  refine l_X2_orbitOf_6 C0 (fun v_14 v_15 H locs ls hw hP hD hS hl => ?_) _ _ _ _ _ _ hw hP hD hS (lv_sub hl [2, 1, 0] rfl)
  refine lv_iload_n hx hb dX2_orbitOf_59 rfl (lv_at hl 0 rfl) ?_
  exact j_iret (fun u => (HAppend.hAppend (α := va_W) (β := va_W) (γ := va_W) [(a_this, .inr (2, [.ref a_ti, .ref a_sc, .ref a_wr, .ref a_so, .ref a_inp, .int c_pl, .int c_tu, .int c_al, .int c_il, .ref a_G])), (a_so, .inl (cy 3, 12, .inr (.inr (.inr (.inr (rowsF r_so))))))] (rowsW (cy 0) r_so 8 c_so))) (() : Unit) hx hb hr hlocks hK hP hD hS hw dX2_orbitOf_60
theorem q_X2_countOrbits_1 : Cond.fieldLink RX2 28 "TwistedRow" "places" "I" ∈ wsX2_countOrbits := List.mem_of_getElem? (i := 1) rfl
theorem k_X2_countOrbits_X2 : ∀ w ∈ wsX20, w ∈ wsX2_countOrbits := my_in _ [22, 23, 24, 25, 26, 27, 28, 29, 30, 31] (by decide +kernel)
def lp_X2_countOrbits_6 (c_al : Int32) (c_pl : Int32) (c_so : Nat → Nat → Int32) (c_tu : Int32) (K39 : Int32 → Int32 → Int32 → Prop) : Nat → Int32 → Int32 → Int32 → Prop
  | 0, _, _, _ => False
  | N + 1, v_1, v_2, v_3 => ((c_pl ≤ v_3 → (K39 v_1 v_2 v_3)) ∧ (¬ c_pl ≤ v_3 → ((¬ (v_1 &&& (1 <<< (v_3 &&& 31))) = 0 → (lp_X2_countOrbits_6 c_al c_pl c_so c_tu K39 N v_1 v_2 (v_3 + 1))) ∧ ((v_1 &&& (1 <<< (v_3 &&& 31))) = 0 → (wp_X2_orbitOf c_pl c_tu c_al c_so v_3 (fun r_4 u_3 => (∀ x_5 : Int32, x_5 = v_1 ||| r_4 → (lp_X2_countOrbits_6 c_al c_pl c_so c_tu K39 N x_5 (v_2 + 1) (v_3 + 1)))))))))
set_option maxHeartbeats 4000000 in
set_option maxRecDepth 100000 in
theorem l_X2_countOrbits_6 {p : Program} {l : Launch} {e : Env} {s : State} {m : MethodId} {args : Array Value} {below : List Frame} {meth : Method} {c : Code} {A : Nat → Prop} {D : va_G} {cy : Nat → ClassId} {Q : State → Prop} {a_this : Nat} {a_ti : Nat} {a_sc : Nat} {a_wr : Nat} {a_so : Nat} {a_inp : Nat} {a_G : Nat} {r_so : Nat → Nat} {c_pl : Int32} {c_tu : Int32} {c_al : Int32} {c_il : Int32} {c_so : Nat → Nat → Int32} {K39 : Int32 → Int32 → Int32 → Prop} (C0 : Cx p s m args c cX2_countOrbits yX2_countOrbits.cls 4 wsX2_countOrbits D cy A)
    (k39 : ∀ (v_1 : Int32) (v_2 : Int32) (v_3 : Int32) (H : Heap) (locs : List Loc) (ls : Array Slot), K39 v_1 v_2 v_3 → va_P D vwCl ((HAppend.hAppend (α := va_W) (β := va_W) (γ := va_W) [(a_this, .inr (2, [.ref a_ti, .ref a_sc, .ref a_wr, .ref a_so, .ref a_inp, .int c_pl, .int c_tu, .int c_al, .int c_il, .ref a_G])), (a_so, .inl (cy 3, 12, .inr (.inr (.inr (.inr (rowsF r_so))))))] (rowsW (cy 0) r_so 8 c_so))) H → va_D A ((HAppend.hAppend (α := va_W) (β := va_W) (γ := va_W) [(a_this, .inr (2, [.ref a_ti, .ref a_sc, .ref a_wr, .ref a_so, .ref a_inp, .int c_pl, .int c_tu, .int c_al, .int c_il, .ref a_G])), (a_so, .inl (cy 3, 12, .inr (.inr (.inr (.inr (rowsF r_so))))))] (rowsW (cy 0) r_so 8 c_so))) → va_S A s.heap H locs → lv_has ls 4 [(2, .int v_2)] → W p l e (({ frames := 3, cells := 0, slots := 0, locals := 66 } : Room)) s m args below meth c H locs 0 0 Q (F0 m 39 ls [])) :
    ∀ (N : Nat) (v_1 : Int32) (v_2 : Int32) (v_3 : Int32) (H : Heap) (locs : List Loc) (ls : Array Slot), lp_X2_countOrbits_6 c_al c_pl c_so c_tu K39 N v_1 v_2 v_3 → va_P D vwCl ((HAppend.hAppend (α := va_W) (β := va_W) (γ := va_W) [(a_this, .inr (2, [.ref a_ti, .ref a_sc, .ref a_wr, .ref a_so, .ref a_inp, .int c_pl, .int c_tu, .int c_al, .int c_il, .ref a_G])), (a_so, .inl (cy 3, 12, .inr (.inr (.inr (.inr (rowsF r_so))))))] (rowsW (cy 0) r_so 8 c_so))) H → va_D A ((HAppend.hAppend (α := va_W) (β := va_W) (γ := va_W) [(a_this, .inr (2, [.ref a_ti, .ref a_sc, .ref a_wr, .ref a_so, .ref a_inp, .int c_pl, .int c_tu, .int c_al, .int c_il, .ref a_G])), (a_so, .inl (cy 3, 12, .inr (.inr (.inr (.inr (rowsF r_so))))))] (rowsW (cy 0) r_so 8 c_so))) → va_S A s.heap H locs → lv_has ls 4 [(0, .ref a_this), (1, .int v_1), (2, .int v_2), (3, .int v_3)] → W p l e (({ frames := 3, cells := 0, slots := 0, locals := 66 } : Room)) s m args below meth c H locs 0 0 Q (F0 m 6 ls []) := by
  obtain ⟨hx, hb, hml, hown, hts, hK, hA⟩ := id C0
  intro N
  induction N with
  | zero =>
    intro v_1 v_2 v_3 H locs ls hw
    exact False.elim hw
  | succ N ih =>
    intro v_1 v_2 v_3 H locs ls hw hP hD hS hl
    rw [lp_X2_countOrbits_6] at hw
    refine lv_iload_n hx hb dX2_countOrbits_6 rfl (lv_at hl 3 rfl) ?_
    refine lv_aload_n hx hb dX2_countOrbits_7 rfl (lv_at hl 0 rfl) ?_
    refine va_get (D := D) (ci := 2) (v := .int c_pl) (C := RX2) (T := TX2) (N := 10) hx hb hts k_X2_countOrbits_X2 hown hK hP 0 rfl rfl 5 (by decide) (hts _ q_X2_countOrbits_1) (fun _ h9 => h9) rfl dX2_countOrbits_8 ?_
    refine lv_icmp_ge (tgt := 39) hx hb dX2_countOrbits_11 (by decide) (fun c_1 => ?_) (fun c_1 => ?_)
    · replace hw := hw.1 c_1
      exact k39 _ _ _ _ _ _ hw hP hD hS (lv_sub hl [2] rfl)
    · replace hw := hw.2 c_1
      refine lv_iload_n hx hb dX2_countOrbits_14 rfl (lv_at hl 1 rfl) ?_
      refine lv_iconst (v := 1) hx hb dX2_countOrbits_15 (by decide) ?_
      refine lv_iload_n hx hb dX2_countOrbits_16 rfl (lv_at hl 3 rfl) ?_
      refine lv_ishl hx hb dX2_countOrbits_17 ?_
      refine lv_iand hx hb dX2_countOrbits_18 ?_
      refine lv_if_ne (tgt := 33) hx hb dX2_countOrbits_19 (by decide) (fun c_2 => ?_) (fun c_2 => ?_)
      · replace hw := hw.1 c_2
        refine lv_iinc (v := v_3 + 1) (lv' := [(3, .int (v_3 + 1)), (0, .ref a_this), (1, .int v_1), (2, .int v_2)]) hx hb dX2_countOrbits_33 hl (k := 3) rfl rfl (by decide) rfl (fun ls hl => ?_)
        refine lv_goto (tgt := 6) hx hb dX2_countOrbits_36 (by decide) ?_
        exact ih _ _ _ _ _ _ hw hP hD hS (lv_sub hl [1, 2, 3, 0] rfl)
      · replace hw := hw.2 c_2
        refine lv_iload_n hx hb dX2_countOrbits_22 rfl (lv_at hl 1 rfl) ?_
        refine lv_aload_n hx hb dX2_countOrbits_23 rfl (lv_at hl 0 rfl) ?_
        refine lv_iload_n hx hb dX2_countOrbits_24 rfl (lv_at hl 3 rfl) ?_
        refine j_calli (wr := []) (va_runV (As := [.int v_3]) (rest := [.int v_1]) ⟨hx, hb, hml, hown, hts⟩ (c_X2_orbitOf l D cy a_this a_ti a_sc a_wr a_so a_inp a_G r_so c_pl c_tu c_al c_il c_so v_3 hw H.size) (cwV 1 hts gX2_countOrbits_X2_orbitOf rfl rfl rfl (by decide +kernel) ⟨Nat.le_of_ble_eq_true rfl, Nat.le_of_ble_eq_true rfl⟩) (j_preV hK hP hD (isC := [0, 1, 2, 3, 4, 5, 6, 7, 8, 9, 10, 11, 12, 13]) rfl (by decide +kernel) (ci := 2) (q0 := 0) rfl rfl) rfl rfl hl.1 rfl (lv_room (Nat.le_of_ble_eq_true rfl)) dX2_countOrbits_25 ⟨Nat.le_of_ble_eq_true rfl, Nat.le_of_ble_eq_true rfl⟩) hP hD hS hA [0, 1, 2, 3, 4, 5, 6, 7, 8, 9, 10, 11, 12, 13] [] rfl rfl (by decide +kernel) (by decide +kernel) (fun u_3 => (HAppend.hAppend (α := va_W) (β := va_W) (γ := va_W) [(a_this, .inr (2, [.ref a_ti, .ref a_sc, .ref a_wr, .ref a_so, .ref a_inp, .int c_pl, .int c_tu, .int c_al, .int c_il, .ref a_G])), (a_so, .inl (cy 3, 12, .inr (.inr (.inr (.inr (rowsF r_so))))))] (rowsW (cy 0) r_so 8 c_so))) [0, 1, 2, 3, 4, 5, 6, 7, 8, 9, 10, 11, 12, 13] (by decide +kernel) (fun u => rfl) (fun r_4 u_3 H locs hw hP hD hS => ?_)
        have hP : va_P D vwCl ((HAppend.hAppend (α := va_W) (β := va_W) (γ := va_W) [(a_this, .inr (2, [.ref a_ti, .ref a_sc, .ref a_wr, .ref a_so, .ref a_inp, .int c_pl, .int c_tu, .int c_al, .int c_il, .ref a_G])), (a_so, .inl (cy 3, 12, .inr (.inr (.inr (.inr (rowsF r_so))))))] (rowsW (cy 0) r_so 8 c_so))) H := hP
        have hD : va_D A ((HAppend.hAppend (α := va_W) (β := va_W) (γ := va_W) [(a_this, .inr (2, [.ref a_ti, .ref a_sc, .ref a_wr, .ref a_so, .ref a_inp, .int c_pl, .int c_tu, .int c_al, .int c_il, .ref a_G])), (a_so, .inl (cy 3, 12, .inr (.inr (.inr (.inr (rowsF r_so))))))] (rowsW (cy 0) r_so 8 c_so))) := hD
        refine lv_ior hx hb dX2_countOrbits_28 ?_
        refine lv_topi (fun x_5 ex_5 => ?_)
        replace hw := hw x_5 ex_5
        refine lv_istore_n (lv' := [(1, .int x_5), (0, .ref a_this), (2, .int v_2), (3, .int v_3)]) hx hb dX2_countOrbits_29 rfl hl (by decide) rfl (fun ls hl => ?_)
        refine lv_iinc (v := v_2 + 1) (lv' := [(2, .int (v_2 + 1)), (1, .int x_5), (0, .ref a_this), (3, .int v_3)]) hx hb dX2_countOrbits_30 hl (k := 2) rfl rfl (by decide) rfl (fun ls hl => ?_)
        refine lv_iinc (v := v_3 + 1) (lv' := [(3, .int (v_3 + 1)), (2, .int (v_2 + 1)), (1, .int x_5), (0, .ref a_this)]) hx hb dX2_countOrbits_33 hl (k := 3) rfl rfl (by decide) rfl (fun ls hl => ?_)
        refine lv_goto (tgt := 6) hx hb dX2_countOrbits_36 (by decide) ?_
        exact ih _ _ _ _ _ _ hw hP hD hS (lv_sub hl [3, 2, 1, 0] rfl)
def wp_X2_countOrbits (c_pl : Int32) (c_tu : Int32) (c_al : Int32) (c_so : Nat → Nat → Int32) (post : Int32 → Unit → Prop) : Prop := (∃ N_6 : Nat, lp_X2_countOrbits_6 c_al c_pl c_so c_tu (fun (v_7 : Int32) (v_8 : Int32) (v_9 : Int32) => (post v_8 ())) N_6 0 0 0)
set_option maxHeartbeats 4000000 in
set_option maxRecDepth 100000 in
theorem c_X2_countOrbits (l : Launch) (D : va_G) (cy : Nat → ClassId) (a_this : Nat) (a_ti : Nat) (a_sc : Nat) (a_wr : Nat) (a_so : Nat) (a_inp : Nat) (a_G : Nat) (r_so : Nat → Nat) (c_pl : Int32) (c_tu : Int32) (c_al : Int32) (c_il : Int32) (c_so : Nat → Nat → Int32) {post : Int32 → Unit → Prop} (hw : wp_X2_countOrbits c_pl c_tu c_al c_so post) (sz : Nat) : Met l yX2_countOrbits wsX2_countOrbits ({ frames := 3, cells := 0, slots := 0, locals := 66 }) (va_Pc [.ref a_this] (PreW D cy ((HAppend.hAppend (α := va_W) (β := va_W) (γ := va_W) [(a_this, .inr (2, [.ref a_ti, .ref a_sc, .ref a_wr, .ref a_so, .ref a_inp, .int c_pl, .int c_tu, .int c_al, .int c_il, .ref a_G])), (a_so, .inl (cy 3, 12, .inr (.inr (.inr (.inr (rowsF r_so))))))] (rowsW (cy 0) r_so 8 c_so))) sz)) (va_Qi post (fun u t => PostW D cy (va_A ((HAppend.hAppend (α := va_W) (β := va_W) (γ := va_W) [(a_this, .inr (2, [.ref a_ti, .ref a_sc, .ref a_wr, .ref a_so, .ref a_inp, .int c_pl, .int c_tu, .int c_al, .int c_il, .ref a_G])), (a_so, .inl (cy 3, 12, .inr (.inr (.inr (.inr (rowsF r_so))))))] (rowsW (cy 0) r_so 8 c_so))) sz) ((HAppend.hAppend (α := va_W) (β := va_W) (γ := va_W) [(a_this, .inr (2, [.ref a_ti, .ref a_sc, .ref a_wr, .ref a_so, .ref a_inp, .int c_pl, .int c_tu, .int c_al, .int c_il, .ref a_G])), (a_so, .inl (cy 3, 12, .inr (.inr (.inr (.inr (rowsF r_so))))))] (rowsW (cy 0) r_so 8 c_so))) t) (va_A ((HAppend.hAppend (α := va_W) (β := va_W) (γ := va_W) [(a_this, .inr (2, [.ref a_ti, .ref a_sc, .ref a_wr, .ref a_so, .ref a_inp, .int c_pl, .int c_tu, .int c_al, .int c_il, .ref a_G])), (a_so, .inl (cy 3, 12, .inr (.inr (.inr (.inr (rowsF r_so))))))] (rowsW (cy 0) r_so 8 c_so))) sz)) 0 0 (va_A ((HAppend.hAppend (α := va_W) (β := va_W) (γ := va_W) [(a_this, .inr (2, [.ref a_ti, .ref a_sc, .ref a_wr, .ref a_so, .ref a_inp, .int c_pl, .int c_tu, .int c_al, .int c_il, .ref a_G])), (a_so, .inl (cy 3, 12, .inr (.inr (.inr (.inr (rowsF r_so))))))] (rowsW (cy 0) r_so 8 c_so))) sz) := by
  refine j_met (l := l) (y := yX2_countOrbits) (ws := wsX2_countOrbits) (D := D) (cy := cy) (sz := sz) (av := [.ref a_this]) (Qc := fun A => va_Qi post (fun u t => PostW D cy A ((HAppend.hAppend (α := va_W) (β := va_W) (γ := va_W) [(a_this, .inr (2, [.ref a_ti, .ref a_sc, .ref a_wr, .ref a_so, .ref a_inp, .int c_pl, .int c_tu, .int c_al, .int c_il, .ref a_G])), (a_so, .inl (cy 3, 12, .inr (.inr (.inr (.inr (rowsF r_so))))))] (rowsW (cy 0) r_so 8 c_so))) t) A) (by decide +kernel) rfl (Nat.le_of_ble_eq_true rfl) ?_
  intro p e s m below meth c A ls C0 hr hlocks hP hD hS hl
  obtain ⟨hx, hb, hml, hown, hts, hK, hA⟩ := id C0
  have hown : s.vm.findClass RX2 = some m.cls := hown
  have hl : lv_has ls 4 [(0, .ref a_this)] := hl
  unfold wp_X2_countOrbits at hw
  refine lv_iconst (v := 0) hx hb dX2_countOrbits_0 (by decide) ?_
  refine lv_istore_n (lv' := [(1, .int 0), (0, .ref a_this)]) hx hb dX2_countOrbits_1 rfl hl (by decide) rfl (fun ls hl => ?_)
  refine lv_iconst (v := 0) hx hb dX2_countOrbits_2 (by decide) ?_
  refine lv_istore_n (lv' := [(2, .int 0), (1, .int 0), (0, .ref a_this)]) hx hb dX2_countOrbits_3 rfl hl (by decide) rfl (fun ls hl => ?_)
  refine lv_iconst (v := 0) hx hb dX2_countOrbits_4 (by decide) ?_
  refine lv_istore_n (lv' := [(3, .int 0), (2, .int 0), (1, .int 0), (0, .ref a_this)]) hx hb dX2_countOrbits_5 rfl hl (by decide) rfl (fun ls hl => ?_)
  obtain ⟨N_6, hw⟩ := hw
  refine l_X2_countOrbits_6 C0 (fun v_7 v_8 v_9 H locs ls hw hP hD hS hl => ?_) _ _ _ _ _ _ _ hw hP hD hS (lv_sub hl [3, 2, 1, 0] rfl)
  refine lv_iload_n hx hb dX2_countOrbits_39 rfl (lv_at hl 0 rfl) ?_
  exact j_iret (fun u => (HAppend.hAppend (α := va_W) (β := va_W) (γ := va_W) [(a_this, .inr (2, [.ref a_ti, .ref a_sc, .ref a_wr, .ref a_so, .ref a_inp, .int c_pl, .int c_tu, .int c_al, .int c_il, .ref a_G])), (a_so, .inl (cy 3, 12, .inr (.inr (.inr (.inr (rowsF r_so))))))] (rowsW (cy 0) r_so 8 c_so))) (() : Unit) hx hb hr hlocks hK hP hD hS hw dX2_countOrbits_40
theorem q_X1_greatestLength_1 : Cond.fieldLink RX1 31 "TwistedRow$Search" "total" "I" ∈ wsX1_greatestLength := List.mem_of_getElem? (i := 1) rfl
theorem k_X1_greatestLength_X1 : ∀ w ∈ wsX10, w ∈ wsX1_greatestLength := my_in _ [4, 5, 6, 7] (by decide +kernel)
theorem q_X1_greatestLength_2 : Cond.fieldLink RX1 9 "TwistedRow$Search" "lengths" "[I" ∈ wsX1_greatestLength := List.mem_of_getElem? (i := 2) rfl
theorem q_X1_greatestLength_3 : Cond.fieldLink RX1 15 "TwistedRow$Search" "found" "[I" ∈ wsX1_greatestLength := List.mem_of_getElem? (i := 3) rfl
def wp_X1_greatestLength (c_to : Int32) (c_le : Nat → Int32) (c_fo : Nat → Int32) (rm : Nat) (post : Int32 → Unit → Prop) : Prop := ((c_to ≤ 0 → (post 0 ())) ∧ (¬ c_to ≤ 0 → (vp_in (c_to - 1) rm ∧ (vp_in (c_fo (c_to - 1 : Int32).toNatClampNeg) rm ∧ (post (c_le (c_fo (c_to - 1 : Int32).toNatClampNeg : Int32).toNatClampNeg) ())))))
set_option maxHeartbeats 4000000 in
set_option maxRecDepth 100000 in
theorem c_X1_greatestLength (l : Launch) (D : va_G) (cy : Nat → ClassId) (a_this : Nat) (a_le : Nat) (a_fo : Nat) (c_to : Int32) (c_kn : Int32) (c_le : Nat → Int32) (c_fo : Nat → Int32) (rm : Nat) {post : Int32 → Unit → Prop} (hw : wp_X1_greatestLength c_to c_le c_fo rm post) (sz : Nat) : Met l yX1_greatestLength wsX1_greatestLength ({ frames := 0, cells := 0, slots := 0, locals := 0 }) (va_Pc [.ref a_this] (PreW D cy ([(a_this, .inr (1, [.ref a_le, .ref a_fo, .int c_to, .int c_kn])), (a_le, .inl (cy 0, rm, .inl c_le)), (a_fo, .inl (cy 0, rm, .inl c_fo))]) sz)) (va_Qi post (fun u t => PostW D cy (va_A ([(a_this, .inr (1, [.ref a_le, .ref a_fo, .int c_to, .int c_kn])), (a_le, .inl (cy 0, rm, .inl c_le)), (a_fo, .inl (cy 0, rm, .inl c_fo))]) sz) ([(a_this, .inr (1, [.ref a_le, .ref a_fo, .int c_to, .int c_kn])), (a_le, .inl (cy 0, rm, .inl c_le)), (a_fo, .inl (cy 0, rm, .inl c_fo))]) t) (va_A ([(a_this, .inr (1, [.ref a_le, .ref a_fo, .int c_to, .int c_kn])), (a_le, .inl (cy 0, rm, .inl c_le)), (a_fo, .inl (cy 0, rm, .inl c_fo))]) sz)) 0 0 (va_A ([(a_this, .inr (1, [.ref a_le, .ref a_fo, .int c_to, .int c_kn])), (a_le, .inl (cy 0, rm, .inl c_le)), (a_fo, .inl (cy 0, rm, .inl c_fo))]) sz) := by
  refine j_met (l := l) (y := yX1_greatestLength) (ws := wsX1_greatestLength) (D := D) (cy := cy) (sz := sz) (av := [.ref a_this]) (Qc := fun A => va_Qi post (fun u t => PostW D cy A ([(a_this, .inr (1, [.ref a_le, .ref a_fo, .int c_to, .int c_kn])), (a_le, .inl (cy 0, rm, .inl c_le)), (a_fo, .inl (cy 0, rm, .inl c_fo))]) t) A) (by decide +kernel) rfl (Nat.le_of_ble_eq_true rfl) ?_
  intro p e s m below meth c A ls C0 hr hlocks hP hD hS hl
  obtain ⟨hx, hb, hml, hown, hts, hK, hA⟩ := id C0
  have hown : s.vm.findClass RX1 = some m.cls := hown
  have hl : lv_has ls 1 [(0, .ref a_this)] := hl
  unfold wp_X1_greatestLength at hw
  refine lv_aload_n hx hb dX1_greatestLength_0 rfl (lv_at hl 0 rfl) ?_
  refine va_get (D := D) (ci := 1) (v := .int c_to) (C := RX1) (T := TX1) (N := 4) hx hb hts k_X1_greatestLength_X1 hown hK hP 0 rfl rfl 2 (by decide) (hts _ q_X1_greatestLength_1) (fun _ h9 => h9) rfl dX1_greatestLength_1 ?_
  refine lv_if_le (tgt := 26) hx hb dX1_greatestLength_4 (by decide) (fun c_1 => ?_) (fun c_1 => ?_)
  · replace hw := hw.1 c_1
    refine lv_iconst (v := 0) hx hb dX1_greatestLength_26 (by decide) ?_
    exact j_iret (fun u => [(a_this, .inr (1, [.ref a_le, .ref a_fo, .int c_to, .int c_kn])), (a_le, .inl (cy 0, rm, .inl c_le)), (a_fo, .inl (cy 0, rm, .inl c_fo))]) (() : Unit) hx hb hr hlocks hK hP hD hS hw dX1_greatestLength_27
  · replace hw := hw.2 c_1
    refine lv_aload_n hx hb dX1_greatestLength_7 rfl (lv_at hl 0 rfl) ?_
    refine va_get (D := D) (ci := 1) (v := .ref a_le) (C := RX1) (T := TX1) (N := 4) hx hb hts k_X1_greatestLength_X1 hown hK hP 0 rfl rfl 0 (by decide) (hts _ q_X1_greatestLength_2) (fun _ h9 => h9) rfl dX1_greatestLength_8 ?_
    refine lv_aload_n hx hb dX1_greatestLength_11 rfl (lv_at hl 0 rfl) ?_
    refine va_get (D := D) (ci := 1) (v := .ref a_fo) (C := RX1) (T := TX1) (N := 4) hx hb hts k_X1_greatestLength_X1 hown hK hP 0 rfl rfl 1 (by decide) (hts _ q_X1_greatestLength_3) (fun _ h9 => h9) rfl dX1_greatestLength_12 ?_
    refine lv_aload_n hx hb dX1_greatestLength_15 rfl (lv_at hl 0 rfl) ?_
    refine va_get (D := D) (ci := 1) (v := .int c_to) (C := RX1) (T := TX1) (N := 4) hx hb hts k_X1_greatestLength_X1 hown hK hP 0 rfl rfl 2 (by decide) (hts _ q_X1_greatestLength_1) (fun _ h9 => h9) rfl dX1_greatestLength_16 ?_
    refine lv_iconst (v := 1) hx hb dX1_greatestLength_19 (by decide) ?_
    refine lv_isub hx hb dX1_greatestLength_20 ?_
    obtain ⟨h_2, hw⟩ := hw
    refine va_iald hx hb hK hP 2 0 rfl rfl h_2 dX1_greatestLength_21 ?_
    obtain ⟨h_3, hw⟩ := hw
    refine va_iald hx hb hK hP 1 0 rfl rfl h_3 dX1_greatestLength_22 ?_
    refine lv_goto (tgt := 27) hx hb dX1_greatestLength_23 (by decide) ?_
    exact j_iret (fun u => [(a_this, .inr (1, [.ref a_le, .ref a_fo, .int c_to, .int c_kn])), (a_le, .inl (cy 0, rm, .inl c_le)), (a_fo, .inl (cy 0, rm, .inl c_fo))]) (() : Unit) hx hb hr hlocks hK hP hD hS hw dX1_greatestLength_27
theorem q_X2_isEven_1 : Cond.fieldLink RX2 28 "TwistedRow" "places" "I" ∈ wsX2_isEven := List.mem_of_getElem? (i := 1) rfl
theorem k_X2_isEven_X2 : ∀ w ∈ wsX20, w ∈ wsX2_isEven := my_in _ [2, 3, 4, 5, 6, 7, 8, 9, 10, 11] (by decide +kernel)
def lp_X2_isEven_15 (c_a1 : Nat → Int32) (v_3 : Int32) (K47 : Int32 → Int32 → Prop) : Nat → Int32 → Int32 → Prop
  | 0, _, _ => False
  | N + 1, v_2, v_4 => ((v_3 ≤ v_4 → (K47 v_2 v_4)) ∧ (¬ v_3 ≤ v_4 → (vp_in v_4 8 ∧ (vp_in v_3 8 ∧ (((c_a1 (v_4 : Int32).toNatClampNeg) ≤ (c_a1 (v_3 : Int32).toNatClampNeg) → (lp_X2_isEven_15 c_a1 v_3 K47 N v_2 (v_4 + 1))) ∧ (¬ (c_a1 (v_4 : Int32).toNatClampNeg) ≤ (c_a1 (v_3 : Int32).toNatClampNeg) → ((¬ v_2 = 0 → (lp_X2_isEven_15 c_a1 v_3 K47 N 0 (v_4 + 1))) ∧ (v_2 = 0 → (lp_X2_isEven_15 c_a1 v_3 K47 N 1 (v_4 + 1))))))))))
set_option maxHeartbeats 4000000 in
set_option maxRecDepth 100000 in
theorem l_X2_isEven_15 {p : Program} {l : Launch} {e : Env} {s : State} {m : MethodId} {args : Array Value} {below : List Frame} {meth : Method} {c : Code} {A : Nat → Prop} {D : va_G} {cy : Nat → ClassId} {Q : State → Prop} {a_this : Nat} {a_ti : Nat} {a_sc : Nat} {a_wr : Nat} {a_so : Nat} {a_inp : Nat} {a_G : Nat} {a_a1 : Nat} {c_pl : Int32} {c_tu : Int32} {c_al : Int32} {c_il : Int32} {c_a1 : Nat → Int32} {v_3 : Int32} {K47 : Int32 → Int32 → Prop} (C0 : Cx p s m args c cX2_isEven yX2_isEven.cls 5 wsX2_isEven D cy A)
    (k47 : ∀ (v_2 : Int32) (v_4 : Int32) (H : Heap) (locs : List Loc) (ls : Array Slot), K47 v_2 v_4 → va_P D vwCl ([(a_this, .inr (2, [.ref a_ti, .ref a_sc, .ref a_wr, .ref a_so, .ref a_inp, .int c_pl, .int c_tu, .int c_al, .int c_il, .ref a_G])), (a_a1, .inl (cy 0, 8, .inl c_a1))]) H → va_D A ([(a_this, .inr (2, [.ref a_ti, .ref a_sc, .ref a_wr, .ref a_so, .ref a_inp, .int c_pl, .int c_tu, .int c_al, .int c_il, .ref a_G])), (a_a1, .inl (cy 0, 8, .inl c_a1))]) → va_S A s.heap H locs → lv_has ls 5 [(0, .ref a_this), (1, .ref a_a1), (2, .int v_2), (3, .int v_3)] → W p l e (({ frames := 0, cells := 0, slots := 0, locals := 0 } : Room)) s m args below meth c H locs 0 0 Q (F0 m 47 ls [])) :
    ∀ (N : Nat) (v_2 : Int32) (v_4 : Int32) (H : Heap) (locs : List Loc) (ls : Array Slot), lp_X2_isEven_15 c_a1 v_3 K47 N v_2 v_4 → va_P D vwCl ([(a_this, .inr (2, [.ref a_ti, .ref a_sc, .ref a_wr, .ref a_so, .ref a_inp, .int c_pl, .int c_tu, .int c_al, .int c_il, .ref a_G])), (a_a1, .inl (cy 0, 8, .inl c_a1))]) H → va_D A ([(a_this, .inr (2, [.ref a_ti, .ref a_sc, .ref a_wr, .ref a_so, .ref a_inp, .int c_pl, .int c_tu, .int c_al, .int c_il, .ref a_G])), (a_a1, .inl (cy 0, 8, .inl c_a1))]) → va_S A s.heap H locs → lv_has ls 5 [(0, .ref a_this), (1, .ref a_a1), (2, .int v_2), (3, .int v_3), (4, .int v_4)] → W p l e (({ frames := 0, cells := 0, slots := 0, locals := 0 } : Room)) s m args below meth c H locs 0 0 Q (F0 m 15 ls []) := by
  obtain ⟨hx, hb, hml, hown, hts, hK, hA⟩ := id C0
  intro N
  induction N with
  | zero =>
    intro v_2 v_4 H locs ls hw
    exact False.elim hw
  | succ N ih =>
    intro v_2 v_4 H locs ls hw hP hD hS hl
    rw [lp_X2_isEven_15] at hw
    refine lv_iload hx hb dX2_isEven_15 (lv_at hl 4 rfl) ?_
    refine lv_iload_n hx hb dX2_isEven_17 rfl (lv_at hl 3 rfl) ?_
    refine lv_icmp_ge (tgt := 47) hx hb dX2_isEven_18 (by decide) (fun c_2 => ?_) (fun c_2 => ?_)
    · replace hw := hw.1 c_2
      exact k47 _ _ _ _ _ hw hP hD hS (lv_sub hl [0, 1, 2, 3] rfl)
    · replace hw := hw.2 c_2
      refine lv_aload_n hx hb dX2_isEven_21 rfl (lv_at hl 1 rfl) ?_
      refine lv_iload hx hb dX2_isEven_22 (lv_at hl 4 rfl) ?_
      obtain ⟨h_3, hw⟩ := hw
      refine va_iald hx hb hK hP 1 0 rfl rfl h_3 dX2_isEven_24 ?_
      refine lv_aload_n hx hb dX2_isEven_25 rfl (lv_at hl 1 rfl) ?_
      refine lv_iload_n hx hb dX2_isEven_26 rfl (lv_at hl 3 rfl) ?_
      obtain ⟨h_4, hw⟩ := hw
      refine va_iald hx hb hK hP 1 0 rfl rfl h_4 dX2_isEven_27 ?_
      refine lv_icmp_le (tgt := 41) hx hb dX2_isEven_28 (by decide) (fun c_5 => ?_) (fun c_5 => ?_)
      · replace hw := hw.1 c_5
        refine lv_iinc (v := v_4 + 1) (lv' := [(4, .int (v_4 + 1)), (0, .ref a_this), (1, .ref a_a1), (2, .int v_2), (3, .int v_3)]) hx hb dX2_isEven_41 hl (k := 4) rfl rfl (by decide) rfl (fun ls hl => ?_)
        refine lv_goto (tgt := 15) hx hb dX2_isEven_44 (by decide) ?_
        exact ih _ _ _ _ _ hw hP hD hS (lv_sub hl [1, 2, 3, 4, 0] rfl)
      · replace hw := hw.2 c_5
        refine lv_iload_n hx hb dX2_isEven_31 rfl (lv_at hl 2 rfl) ?_
        refine lv_if_ne (tgt := 39) hx hb dX2_isEven_32 (by decide) (fun c_6 => ?_) (fun c_6 => ?_)
        · replace hw := hw.1 c_6
          refine lv_iconst (v := 0) hx hb dX2_isEven_39 (by decide) ?_
          refine lv_istore_n (lv' := [(2, .int 0), (0, .ref a_this), (1, .ref a_a1), (3, .int v_3), (4, .int v_4)]) hx hb dX2_isEven_40 rfl hl (by decide) rfl (fun ls hl => ?_)
          refine lv_iinc (v := v_4 + 1) (lv' := [(4, .int (v_4 + 1)), (2, .int 0), (0, .ref a_this), (1, .ref a_a1), (3, .int v_3)]) hx hb dX2_isEven_41 hl (k := 4) rfl rfl (by decide) rfl (fun ls hl => ?_)
          refine lv_goto (tgt := 15) hx hb dX2_isEven_44 (by decide) ?_
          exact ih _ _ _ _ _ hw hP hD hS (lv_sub hl [2, 3, 1, 4, 0] rfl)
        · replace hw := hw.2 c_6
          refine lv_iconst (v := 1) hx hb dX2_isEven_35 (by decide) ?_
          refine lv_goto (tgt := 40) hx hb dX2_isEven_36 (by decide) ?_
          refine lv_istore_n (lv' := [(2, .int 1), (0, .ref a_this), (1, .ref a_a1), (3, .int v_3), (4, .int v_4)]) hx hb dX2_isEven_40 rfl hl (by decide) rfl (fun ls hl => ?_)
          refine lv_iinc (v := v_4 + 1) (lv' := [(4, .int (v_4 + 1)), (2, .int 1), (0, .ref a_this), (1, .ref a_a1), (3, .int v_3)]) hx hb dX2_isEven_41 hl (k := 4) rfl rfl (by decide) rfl (fun ls hl => ?_)
          refine lv_goto (tgt := 15) hx hb dX2_isEven_44 (by decide) ?_
          exact ih _ _ _ _ _ hw hP hD hS (lv_sub hl [2, 3, 1, 4, 0] rfl)
def lp_X2_isEven_4 (c_a1 : Nat → Int32) (c_pl : Int32) (K53 : Int32 → Int32 → Prop) : Nat → Int32 → Int32 → Prop
  | 0, _, _ => False
  | N + 1, v_2, v_3 => ((c_pl ≤ v_3 → (K53 v_2 v_3)) ∧ (¬ c_pl ≤ v_3 → (∃ N_7 : Nat, lp_X2_isEven_15 c_a1 v_3 (fun (v_8 : Int32) (v_9 : Int32) => (lp_X2_isEven_4 c_a1 c_pl K53 N v_8 (v_3 + 1))) N_7 v_2 0)))
set_option maxHeartbeats 4000000 in
set_option maxRecDepth 100000 in
theorem l_X2_isEven_4 {p : Program} {l : Launch} {e : Env} {s : State} {m : MethodId} {args : Array Value} {below : List Frame} {meth : Method} {c : Code} {A : Nat → Prop} {D : va_G} {cy : Nat → ClassId} {Q : State → Prop} {a_this : Nat} {a_ti : Nat} {a_sc : Nat} {a_wr : Nat} {a_so : Nat} {a_inp : Nat} {a_G : Nat} {a_a1 : Nat} {c_pl : Int32} {c_tu : Int32} {c_al : Int32} {c_il : Int32} {c_a1 : Nat → Int32} {K53 : Int32 → Int32 → Prop} (C0 : Cx p s m args c cX2_isEven yX2_isEven.cls 5 wsX2_isEven D cy A)
    (k53 : ∀ (v_2 : Int32) (v_3 : Int32) (H : Heap) (locs : List Loc) (ls : Array Slot), K53 v_2 v_3 → va_P D vwCl ([(a_this, .inr (2, [.ref a_ti, .ref a_sc, .ref a_wr, .ref a_so, .ref a_inp, .int c_pl, .int c_tu, .int c_al, .int c_il, .ref a_G])), (a_a1, .inl (cy 0, 8, .inl c_a1))]) H → va_D A ([(a_this, .inr (2, [.ref a_ti, .ref a_sc, .ref a_wr, .ref a_so, .ref a_inp, .int c_pl, .int c_tu, .int c_al, .int c_il, .ref a_G])), (a_a1, .inl (cy 0, 8, .inl c_a1))]) → va_S A s.heap H locs → lv_has ls 5 [(2, .int v_2)] → W p l e (({ frames := 0, cells := 0, slots := 0, locals := 0 } : Room)) s m args below meth c H locs 0 0 Q (F0 m 53 ls [])) :
    ∀ (N : Nat) (v_2 : Int32) (v_3 : Int32) (H : Heap) (locs : List Loc) (ls : Array Slot), lp_X2_isEven_4 c_a1 c_pl K53 N v_2 v_3 → va_P D vwCl ([(a_this, .inr (2, [.ref a_ti, .ref a_sc, .ref a_wr, .ref a_so, .ref a_inp, .int c_pl, .int c_tu, .int c_al, .int c_il, .ref a_G])), (a_a1, .inl (cy 0, 8, .inl c_a1))]) H → va_D A ([(a_this, .inr (2, [.ref a_ti, .ref a_sc, .ref a_wr, .ref a_so, .ref a_inp, .int c_pl, .int c_tu, .int c_al, .int c_il, .ref a_G])), (a_a1, .inl (cy 0, 8, .inl c_a1))]) → va_S A s.heap H locs → lv_has ls 5 [(0, .ref a_this), (1, .ref a_a1), (2, .int v_2), (3, .int v_3)] → W p l e (({ frames := 0, cells := 0, slots := 0, locals := 0 } : Room)) s m args below meth c H locs 0 0 Q (F0 m 4 ls []) := by
  obtain ⟨hx, hb, hml, hown, hts, hK, hA⟩ := id C0
  intro N
  induction N with
  | zero =>
    intro v_2 v_3 H locs ls hw
    exact False.elim hw
  | succ N ih =>
    intro v_2 v_3 H locs ls hw hP hD hS hl
    rw [lp_X2_isEven_4] at hw
    refine lv_iload_n hx hb dX2_isEven_4 rfl (lv_at hl 3 rfl) ?_
    refine lv_aload_n hx hb dX2_isEven_5 rfl (lv_at hl 0 rfl) ?_
    refine va_get (D := D) (ci := 2) (v := .int c_pl) (C := RX2) (T := TX2) (N := 10) hx hb hts k_X2_isEven_X2 hown hK hP 0 rfl rfl 5 (by decide) (hts _ q_X2_isEven_1) (fun _ h9 => h9) rfl dX2_isEven_6 ?_
    refine lv_icmp_ge (tgt := 53) hx hb dX2_isEven_9 (by decide) (fun c_1 => ?_) (fun c_1 => ?_)
    · replace hw := hw.1 c_1
      exact k53 _ _ _ _ _ hw hP hD hS (lv_sub hl [2] rfl)
    · replace hw := hw.2 c_1
      refine lv_iconst (v := 0) hx hb dX2_isEven_12 (by decide) ?_
      refine lv_istore (lv' := [(4, .int 0), (0, .ref a_this), (1, .ref a_a1), (2, .int v_2), (3, .int v_3)]) hx hb dX2_isEven_13 hl (by decide) rfl (fun ls hl => ?_)
      obtain ⟨N_7, hw⟩ := hw
      refine l_X2_isEven_15 C0 (fun v_8 v_9 H locs ls hw hP hD hS hl => ?_) _ _ _ _ _ _ hw hP hD hS (lv_sub hl [1, 2, 3, 4, 0] rfl)
      refine lv_iinc (v := v_3 + 1) (lv' := [(3, .int (v_3 + 1)), (0, .ref a_this), (1, .ref a_a1), (2, .int v_8)]) hx hb dX2_isEven_47 hl (k := 3) rfl rfl (by decide) rfl (fun ls hl => ?_)
      refine lv_goto (tgt := 4) hx hb dX2_isEven_50 (by decide) ?_
      exact ih _ _ _ _ _ hw hP hD hS (lv_sub hl [1, 2, 3, 0] rfl)
def wp_X2_isEven (c_pl : Int32) (c_a1 : Nat → Int32) (post : Int32 → Unit → Prop) : Prop := (∃ N_10 : Nat, lp_X2_isEven_4 c_a1 c_pl (fun (v_11 : Int32) (v_12 : Int32) => (narrow .boolean (.int v_11) = .int v_11 ∧ (post v_11 ()))) N_10 1 1)
set_option maxHeartbeats 4000000 in
set_option maxRecDepth 100000 in
theorem c_X2_isEven (l : Launch) (D : va_G) (cy : Nat → ClassId) (a_this : Nat) (a_ti : Nat) (a_sc : Nat) (a_wr : Nat) (a_so : Nat) (a_inp : Nat) (a_G : Nat) (a_a1 : Nat) (c_pl : Int32) (c_tu : Int32) (c_al : Int32) (c_il : Int32) (c_a1 : Nat → Int32) {post : Int32 → Unit → Prop} (hw : wp_X2_isEven c_pl c_a1 post) (sz : Nat) : Met l yX2_isEven wsX2_isEven ({ frames := 0, cells := 0, slots := 0, locals := 0 }) (va_Pc [.ref a_this, .ref a_a1] (PreW D cy ([(a_this, .inr (2, [.ref a_ti, .ref a_sc, .ref a_wr, .ref a_so, .ref a_inp, .int c_pl, .int c_tu, .int c_al, .int c_il, .ref a_G])), (a_a1, .inl (cy 0, 8, .inl c_a1))]) sz)) (va_Qi post (fun u t => PostW D cy (va_A ([(a_this, .inr (2, [.ref a_ti, .ref a_sc, .ref a_wr, .ref a_so, .ref a_inp, .int c_pl, .int c_tu, .int c_al, .int c_il, .ref a_G])), (a_a1, .inl (cy 0, 8, .inl c_a1))]) sz) ([(a_this, .inr (2, [.ref a_ti, .ref a_sc, .ref a_wr, .ref a_so, .ref a_inp, .int c_pl, .int c_tu, .int c_al, .int c_il, .ref a_G])), (a_a1, .inl (cy 0, 8, .inl c_a1))]) t) (va_A ([(a_this, .inr (2, [.ref a_ti, .ref a_sc, .ref a_wr, .ref a_so, .ref a_inp, .int c_pl, .int c_tu, .int c_al, .int c_il, .ref a_G])), (a_a1, .inl (cy 0, 8, .inl c_a1))]) sz)) 0 0 (va_A ([(a_this, .inr (2, [.ref a_ti, .ref a_sc, .ref a_wr, .ref a_so, .ref a_inp, .int c_pl, .int c_tu, .int c_al, .int c_il, .ref a_G])), (a_a1, .inl (cy 0, 8, .inl c_a1))]) sz) := by
  refine j_met (l := l) (y := yX2_isEven) (ws := wsX2_isEven) (D := D) (cy := cy) (sz := sz) (av := [.ref a_this, .ref a_a1]) (Qc := fun A => va_Qi post (fun u t => PostW D cy A ([(a_this, .inr (2, [.ref a_ti, .ref a_sc, .ref a_wr, .ref a_so, .ref a_inp, .int c_pl, .int c_tu, .int c_al, .int c_il, .ref a_G])), (a_a1, .inl (cy 0, 8, .inl c_a1))]) t) A) (by decide +kernel) rfl (Nat.le_of_ble_eq_true rfl) ?_
  intro p e s m below meth c A ls C0 hr hlocks hP hD hS hl
  obtain ⟨hx, hb, hml, hown, hts, hK, hA⟩ := id C0
  have hown : s.vm.findClass RX2 = some m.cls := hown
  have hl : lv_has ls 5 [(0, .ref a_this), (1, .ref a_a1)] := hl
  unfold wp_X2_isEven at hw
  refine lv_iconst (v := 1) hx hb dX2_isEven_0 (by decide) ?_
  refine lv_istore_n (lv' := [(2, .int 1), (0, .ref a_this), (1, .ref a_a1)]) hx hb dX2_isEven_1 rfl hl (by decide) rfl (fun ls hl => ?_)
  refine lv_iconst (v := 1) hx hb dX2_isEven_2 (by decide) ?_
  refine lv_istore_n (lv' := [(3, .int 1), (2, .int 1), (0, .ref a_this), (1, .ref a_a1)]) hx hb dX2_isEven_3 rfl hl (by decide) rfl (fun ls hl => ?_)
  obtain ⟨N_10, hw⟩ := hw
  refine l_X2_isEven_4 C0 (fun v_11 v_12 H locs ls hw hP hD hS hl => ?_) _ _ _ _ _ _ hw hP hD hS (lv_sub hl [2, 3, 1, 0] rfl)
  refine lv_iload_n hx hb dX2_isEven_53 rfl (lv_at hl 0 rfl) ?_
  obtain ⟨h_13, hw⟩ := hw
  exact j_zret (fun u => [(a_this, .inr (2, [.ref a_ti, .ref a_sc, .ref a_wr, .ref a_so, .ref a_inp, .int c_pl, .int c_tu, .int c_al, .int c_il, .ref a_G])), (a_a1, .inl (cy 0, 8, .inl c_a1))]) (() : Unit) hx hb hr h_13 hlocks hK hP hD hS hw dX2_isEven_54
set_option maxHeartbeats 4000000 in
set_option maxRecDepth 100000 in
theorem l_X2_isEven_r_15 {p : Program} {l : Launch} {e : Env} {s : State} {m : MethodId} {args : Array Value} {below : List Frame} {meth : Method} {c : Code} {A : Nat → Prop} {D : va_G} {cy : Nat → ClassId} {Q : State → Prop} {a_this : Nat} {a_ti : Nat} {a_sc : Nat} {a_wr : Nat} {a_so : Nat} {a_inp : Nat} {a_G : Nat} {r_Ra1 : Nat → Nat} {c_pl : Int32} {c_tu : Int32} {c_al : Int32} {c_il : Int32} {c_Ra1 : Nat → Nat → Int32} {i_a1 : Nat} {v_3 : Int32} {K47 : Int32 → Int32 → Prop} (C0 : Cx p s m args c cX2_isEven yX2_isEven.cls 5 wsX2_isEven D cy A) (hk_i_a1 : i_a1 < 12)
    (k47 : ∀ (v_2 : Int32) (v_4 : Int32) (H : Heap) (locs : List Loc) (ls : Array Slot), K47 v_2 v_4 → va_P D vwCl ((HAppend.hAppend (α := va_W) (β := va_W) (γ := va_W) [(a_this, .inr (2, [.ref a_ti, .ref a_sc, .ref a_wr, .ref a_so, .ref a_inp, .int c_pl, .int c_tu, .int c_al, .int c_il, .ref a_G]))] (rowsW (cy 0) r_Ra1 8 c_Ra1))) H → va_D A ((HAppend.hAppend (α := va_W) (β := va_W) (γ := va_W) [(a_this, .inr (2, [.ref a_ti, .ref a_sc, .ref a_wr, .ref a_so, .ref a_inp, .int c_pl, .int c_tu, .int c_al, .int c_il, .ref a_G]))] (rowsW (cy 0) r_Ra1 8 c_Ra1))) → va_S A s.heap H locs → lv_has ls 5 [(0, .ref a_this), (1, .ref (r_Ra1 i_a1)), (2, .int v_2), (3, .int v_3)] → W p l e (({ frames := 0, cells := 0, slots := 0, locals := 0 } : Room)) s m args below meth c H locs 0 0 Q (F0 m 47 ls [])) :
    ∀ (N : Nat) (v_2 : Int32) (v_4 : Int32) (H : Heap) (locs : List Loc) (ls : Array Slot), lp_X2_isEven_15 (c_Ra1 i_a1) v_3 K47 N v_2 v_4 → va_P D vwCl ((HAppend.hAppend (α := va_W) (β := va_W) (γ := va_W) [(a_this, .inr (2, [.ref a_ti, .ref a_sc, .ref a_wr, .ref a_so, .ref a_inp, .int c_pl, .int c_tu, .int c_al, .int c_il, .ref a_G]))] (rowsW (cy 0) r_Ra1 8 c_Ra1))) H → va_D A ((HAppend.hAppend (α := va_W) (β := va_W) (γ := va_W) [(a_this, .inr (2, [.ref a_ti, .ref a_sc, .ref a_wr, .ref a_so, .ref a_inp, .int c_pl, .int c_tu, .int c_al, .int c_il, .ref a_G]))] (rowsW (cy 0) r_Ra1 8 c_Ra1))) → va_S A s.heap H locs → lv_has ls 5 [(0, .ref a_this), (1, .ref (r_Ra1 i_a1)), (2, .int v_2), (3, .int v_3), (4, .int v_4)] → W p l e (({ frames := 0, cells := 0, slots := 0, locals := 0 } : Room)) s m args below meth c H locs 0 0 Q (F0 m 15 ls []) := by
  obtain ⟨hx, hb, hml, hown, hts, hK, hA⟩ := id C0
  intro N
  induction N with
  | zero =>
    intro v_2 v_4 H locs ls hw
    exact False.elim hw
  | succ N ih =>
    intro v_2 v_4 H locs ls hw hP hD hS hl
    rw [lp_X2_isEven_15] at hw
    refine lv_iload hx hb dX2_isEven_15 (lv_at hl 4 rfl) ?_
    refine lv_iload_n hx hb dX2_isEven_17 rfl (lv_at hl 3 rfl) ?_
    refine lv_icmp_ge (tgt := 47) hx hb dX2_isEven_18 (by decide) (fun c_2 => ?_) (fun c_2 => ?_)
    · replace hw := hw.1 c_2
      exact k47 _ _ _ _ _ hw hP hD hS (lv_sub hl [0, 1, 2, 3] rfl)
    · replace hw := hw.2 c_2
      refine lv_aload_n hx hb dX2_isEven_21 rfl (lv_at hl 1 rfl) ?_
      refine lv_iload hx hb dX2_isEven_22 (lv_at hl 4 rfl) ?_
      obtain ⟨h_3, hw⟩ := hw
      refine va_iald hx hb hK hP _ 0 (rowsW_get _ _ _ _ _ hk_i_a1) rfl h_3 dX2_isEven_24 ?_
      refine lv_aload_n hx hb dX2_isEven_25 rfl (lv_at hl 1 rfl) ?_
      refine lv_iload_n hx hb dX2_isEven_26 rfl (lv_at hl 3 rfl) ?_
      obtain ⟨h_4, hw⟩ := hw
      refine va_iald hx hb hK hP _ 0 (rowsW_get _ _ _ _ _ hk_i_a1) rfl h_4 dX2_isEven_27 ?_
      refine lv_icmp_le (tgt := 41) hx hb dX2_isEven_28 (by decide) (fun c_5 => ?_) (fun c_5 => ?_)
      · replace hw := hw.1 c_5
        refine lv_iinc (v := v_4 + 1) (lv' := [(4, .int (v_4 + 1)), (0, .ref a_this), (1, .ref (r_Ra1 i_a1)), (2, .int v_2), (3, .int v_3)]) hx hb dX2_isEven_41 hl (k := 4) rfl rfl (by decide) rfl (fun ls hl => ?_)
        refine lv_goto (tgt := 15) hx hb dX2_isEven_44 (by decide) ?_
        exact ih _ _ _ _ _ hw hP hD hS (lv_sub hl [1, 2, 3, 4, 0] rfl)
      · replace hw := hw.2 c_5
        refine lv_iload_n hx hb dX2_isEven_31 rfl (lv_at hl 2 rfl) ?_
        refine lv_if_ne (tgt := 39) hx hb dX2_isEven_32 (by decide) (fun c_6 => ?_) (fun c_6 => ?_)
        · replace hw := hw.1 c_6
          refine lv_iconst (v := 0) hx hb dX2_isEven_39 (by decide) ?_
          refine lv_istore_n (lv' := [(2, .int 0), (0, .ref a_this), (1, .ref (r_Ra1 i_a1)), (3, .int v_3), (4, .int v_4)]) hx hb dX2_isEven_40 rfl hl (by decide) rfl (fun ls hl => ?_)
          refine lv_iinc (v := v_4 + 1) (lv' := [(4, .int (v_4 + 1)), (2, .int 0), (0, .ref a_this), (1, .ref (r_Ra1 i_a1)), (3, .int v_3)]) hx hb dX2_isEven_41 hl (k := 4) rfl rfl (by decide) rfl (fun ls hl => ?_)
          refine lv_goto (tgt := 15) hx hb dX2_isEven_44 (by decide) ?_
          exact ih _ _ _ _ _ hw hP hD hS (lv_sub hl [2, 3, 1, 4, 0] rfl)
        · replace hw := hw.2 c_6
          refine lv_iconst (v := 1) hx hb dX2_isEven_35 (by decide) ?_
          refine lv_goto (tgt := 40) hx hb dX2_isEven_36 (by decide) ?_
          refine lv_istore_n (lv' := [(2, .int 1), (0, .ref a_this), (1, .ref (r_Ra1 i_a1)), (3, .int v_3), (4, .int v_4)]) hx hb dX2_isEven_40 rfl hl (by decide) rfl (fun ls hl => ?_)
          refine lv_iinc (v := v_4 + 1) (lv' := [(4, .int (v_4 + 1)), (2, .int 1), (0, .ref a_this), (1, .ref (r_Ra1 i_a1)), (3, .int v_3)]) hx hb dX2_isEven_41 hl (k := 4) rfl rfl (by decide) rfl (fun ls hl => ?_)
          refine lv_goto (tgt := 15) hx hb dX2_isEven_44 (by decide) ?_
          exact ih _ _ _ _ _ hw hP hD hS (lv_sub hl [2, 3, 1, 4, 0] rfl)
set_option maxHeartbeats 4000000 in
set_option maxRecDepth 100000 in
theorem l_X2_isEven_r_4 {p : Program} {l : Launch} {e : Env} {s : State} {m : MethodId} {args : Array Value} {below : List Frame} {meth : Method} {c : Code} {A : Nat → Prop} {D : va_G} {cy : Nat → ClassId} {Q : State → Prop} {a_this : Nat} {a_ti : Nat} {a_sc : Nat} {a_wr : Nat} {a_so : Nat} {a_inp : Nat} {a_G : Nat} {r_Ra1 : Nat → Nat} {c_pl : Int32} {c_tu : Int32} {c_al : Int32} {c_il : Int32} {c_Ra1 : Nat → Nat → Int32} {i_a1 : Nat} {K53 : Int32 → Int32 → Prop} (C0 : Cx p s m args c cX2_isEven yX2_isEven.cls 5 wsX2_isEven D cy A) (hk_i_a1 : i_a1 < 12)
    (k53 : ∀ (v_2 : Int32) (v_3 : Int32) (H : Heap) (locs : List Loc) (ls : Array Slot), K53 v_2 v_3 → va_P D vwCl ((HAppend.hAppend (α := va_W) (β := va_W) (γ := va_W) [(a_this, .inr (2, [.ref a_ti, .ref a_sc, .ref a_wr, .ref a_so, .ref a_inp, .int c_pl, .int c_tu, .int c_al, .int c_il, .ref a_G]))] (rowsW (cy 0) r_Ra1 8 c_Ra1))) H → va_D A ((HAppend.hAppend (α := va_W) (β := va_W) (γ := va_W) [(a_this, .inr (2, [.ref a_ti, .ref a_sc, .ref a_wr, .ref a_so, .ref a_inp, .int c_pl, .int c_tu, .int c_al, .int c_il, .ref a_G]))] (rowsW (cy 0) r_Ra1 8 c_Ra1))) → va_S A s.heap H locs → lv_has ls 5 [(2, .int v_2)] → W p l e (({ frames := 0, cells := 0, slots := 0, locals := 0 } : Room)) s m args below meth c H locs 0 0 Q (F0 m 53 ls [])) :
    ∀ (N : Nat) (v_2 : Int32) (v_3 : Int32) (H : Heap) (locs : List Loc) (ls : Array Slot), lp_X2_isEven_4 (c_Ra1 i_a1) c_pl K53 N v_2 v_3 → va_P D vwCl ((HAppend.hAppend (α := va_W) (β := va_W) (γ := va_W) [(a_this, .inr (2, [.ref a_ti, .ref a_sc, .ref a_wr, .ref a_so, .ref a_inp, .int c_pl, .int c_tu, .int c_al, .int c_il, .ref a_G]))] (rowsW (cy 0) r_Ra1 8 c_Ra1))) H → va_D A ((HAppend.hAppend (α := va_W) (β := va_W) (γ := va_W) [(a_this, .inr (2, [.ref a_ti, .ref a_sc, .ref a_wr, .ref a_so, .ref a_inp, .int c_pl, .int c_tu, .int c_al, .int c_il, .ref a_G]))] (rowsW (cy 0) r_Ra1 8 c_Ra1))) → va_S A s.heap H locs → lv_has ls 5 [(0, .ref a_this), (1, .ref (r_Ra1 i_a1)), (2, .int v_2), (3, .int v_3)] → W p l e (({ frames := 0, cells := 0, slots := 0, locals := 0 } : Room)) s m args below meth c H locs 0 0 Q (F0 m 4 ls []) := by
  obtain ⟨hx, hb, hml, hown, hts, hK, hA⟩ := id C0
  intro N
  induction N with
  | zero =>
    intro v_2 v_3 H locs ls hw
    exact False.elim hw
  | succ N ih =>
    intro v_2 v_3 H locs ls hw hP hD hS hl
    rw [lp_X2_isEven_4] at hw
    refine lv_iload_n hx hb dX2_isEven_4 rfl (lv_at hl 3 rfl) ?_
    refine lv_aload_n hx hb dX2_isEven_5 rfl (lv_at hl 0 rfl) ?_
    refine va_get (D := D) (ci := 2) (v := .int c_pl) (C := RX2) (T := TX2) (N := 10) hx hb hts k_X2_isEven_X2 hown hK hP 0 rfl rfl 5 (by decide) (hts _ q_X2_isEven_1) (fun _ h9 => h9) rfl dX2_isEven_6 ?_
    refine lv_icmp_ge (tgt := 53) hx hb dX2_isEven_9 (by decide) (fun c_1 => ?_) (fun c_1 => ?_)
    · replace hw := hw.1 c_1
      exact k53 _ _ _ _ _ hw hP hD hS (lv_sub hl [2] rfl)
    · replace hw := hw.2 c_1
      refine lv_iconst (v := 0) hx hb dX2_isEven_12 (by decide) ?_
      refine lv_istore (lv' := [(4, .int 0), (0, .ref a_this), (1, .ref (r_Ra1 i_a1)), (2, .int v_2), (3, .int v_3)]) hx hb dX2_isEven_13 hl (by decide) rfl (fun ls hl => ?_)
      obtain ⟨N_7, hw⟩ := hw
      refine l_X2_isEven_r_15 C0 hk_i_a1 (fun v_8 v_9 H locs ls hw hP hD hS hl => ?_) _ _ _ _ _ _ hw hP hD hS (lv_sub hl [1, 2, 3, 4, 0] rfl)
      refine lv_iinc (v := v_3 + 1) (lv' := [(3, .int (v_3 + 1)), (0, .ref a_this), (1, .ref (r_Ra1 i_a1)), (2, .int v_8)]) hx hb dX2_isEven_47 hl (k := 3) rfl rfl (by decide) rfl (fun ls hl => ?_)
      refine lv_goto (tgt := 4) hx hb dX2_isEven_50 (by decide) ?_
      exact ih _ _ _ _ _ hw hP hD hS (lv_sub hl [1, 2, 3, 0] rfl)
set_option maxHeartbeats 4000000 in
set_option maxRecDepth 100000 in
theorem c_X2_isEven_r (l : Launch) (D : va_G) (cy : Nat → ClassId) (a_this : Nat) (a_ti : Nat) (a_sc : Nat) (a_wr : Nat) (a_so : Nat) (a_inp : Nat) (a_G : Nat) (r_Ra1 : Nat → Nat) (c_pl : Int32) (c_tu : Int32) (c_al : Int32) (c_il : Int32) (c_Ra1 : Nat → Nat → Int32) (i_a1 : Nat) (hk_i_a1 : i_a1 < 12) {post : Int32 → Unit → Prop} (hw : wp_X2_isEven c_pl (c_Ra1 i_a1) post) (sz : Nat) : Met l yX2_isEven wsX2_isEven ({ frames := 0, cells := 0, slots := 0, locals := 0 }) (va_Pc [.ref a_this, .ref (r_Ra1 i_a1)] (PreW D cy ((HAppend.hAppend (α := va_W) (β := va_W) (γ := va_W) [(a_this, .inr (2, [.ref a_ti, .ref a_sc, .ref a_wr, .ref a_so, .ref a_inp, .int c_pl, .int c_tu, .int c_al, .int c_il, .ref a_G]))] (rowsW (cy 0) r_Ra1 8 c_Ra1))) sz)) (va_Qi post (fun u t => PostW D cy (va_A ((HAppend.hAppend (α := va_W) (β := va_W) (γ := va_W) [(a_this, .inr (2, [.ref a_ti, .ref a_sc, .ref a_wr, .ref a_so, .ref a_inp, .int c_pl, .int c_tu, .int c_al, .int c_il, .ref a_G]))] (rowsW (cy 0) r_Ra1 8 c_Ra1))) sz) ((HAppend.hAppend (α := va_W) (β := va_W) (γ := va_W) [(a_this, .inr (2, [.ref a_ti, .ref a_sc, .ref a_wr, .ref a_so, .ref a_inp, .int c_pl, .int c_tu, .int c_al, .int c_il, .ref a_G]))] (rowsW (cy 0) r_Ra1 8 c_Ra1))) t) (va_A ((HAppend.hAppend (α := va_W) (β := va_W) (γ := va_W) [(a_this, .inr (2, [.ref a_ti, .ref a_sc, .ref a_wr, .ref a_so, .ref a_inp, .int c_pl, .int c_tu, .int c_al, .int c_il, .ref a_G]))] (rowsW (cy 0) r_Ra1 8 c_Ra1))) sz)) 0 0 (va_A ((HAppend.hAppend (α := va_W) (β := va_W) (γ := va_W) [(a_this, .inr (2, [.ref a_ti, .ref a_sc, .ref a_wr, .ref a_so, .ref a_inp, .int c_pl, .int c_tu, .int c_al, .int c_il, .ref a_G]))] (rowsW (cy 0) r_Ra1 8 c_Ra1))) sz) := by
  refine j_met (l := l) (y := yX2_isEven) (ws := wsX2_isEven) (D := D) (cy := cy) (sz := sz) (av := [.ref a_this, .ref (r_Ra1 i_a1)]) (Qc := fun A => va_Qi post (fun u t => PostW D cy A ((HAppend.hAppend (α := va_W) (β := va_W) (γ := va_W) [(a_this, .inr (2, [.ref a_ti, .ref a_sc, .ref a_wr, .ref a_so, .ref a_inp, .int c_pl, .int c_tu, .int c_al, .int c_il, .ref a_G]))] (rowsW (cy 0) r_Ra1 8 c_Ra1))) t) A) (by decide +kernel) rfl (Nat.le_of_ble_eq_true rfl) ?_
  intro p e s m below meth c A ls C0 hr hlocks hP hD hS hl
  obtain ⟨hx, hb, hml, hown, hts, hK, hA⟩ := id C0
  have hown : s.vm.findClass RX2 = some m.cls := hown
  have hl : lv_has ls 5 [(0, .ref a_this), (1, .ref (r_Ra1 i_a1))] := hl
  unfold wp_X2_isEven at hw
  refine lv_iconst (v := 1) hx hb dX2_isEven_0 (by decide) ?_
  refine lv_istore_n (lv' := [(2, .int 1), (0, .ref a_this), (1, .ref (r_Ra1 i_a1))]) hx hb dX2_isEven_1 rfl hl (by decide) rfl (fun ls hl => ?_)
  refine lv_iconst (v := 1) hx hb dX2_isEven_2 (by decide) ?_
  refine lv_istore_n (lv' := [(3, .int 1), (2, .int 1), (0, .ref a_this), (1, .ref (r_Ra1 i_a1))]) hx hb dX2_isEven_3 rfl hl (by decide) rfl (fun ls hl => ?_)
  obtain ⟨N_10, hw⟩ := hw
  refine l_X2_isEven_r_4 C0 hk_i_a1 (fun v_11 v_12 H locs ls hw hP hD hS hl => ?_) _ _ _ _ _ _ hw hP hD hS (lv_sub hl [2, 3, 1, 0] rfl)
  refine lv_iload_n hx hb dX2_isEven_53 rfl (lv_at hl 0 rfl) ?_
  obtain ⟨h_13, hw⟩ := hw
  exact j_zret (fun u => (HAppend.hAppend (α := va_W) (β := va_W) (γ := va_W) [(a_this, .inr (2, [.ref a_ti, .ref a_sc, .ref a_wr, .ref a_so, .ref a_inp, .int c_pl, .int c_tu, .int c_al, .int c_il, .ref a_G]))] (rowsW (cy 0) r_Ra1 8 c_Ra1))) (() : Unit) hx hb hr h_13 hlocks hK hP hD hS hw dX2_isEven_54
theorem q_X2_countEvenArrangements_1 : Cond.fieldLink RX2 163 "TwistedRow$Search" "total" "I" ∈ wsX2_countEvenArrangements := List.mem_of_getElem? (i := 1) rfl
theorem k_X2_countEvenArrangements_X1 : ∀ w ∈ wsX10, w ∈ wsX2_countEvenArrangements := my_in _ [44, 45, 46, 47] (by decide +kernel)
theorem q_X2_countEvenArrangements_2 : Cond.fieldLink RX2 52 "TwistedRow" "turns" "I" ∈ wsX2_countEvenArrangements := List.mem_of_getElem? (i := 2) rfl
theorem k_X2_countEvenArrangements_X2 : ∀ w ∈ wsX20, w ∈ wsX2_countEvenArrangements := my_in _ [48, 49, 50, 51, 52, 53, 54, 55, 56, 57] (by decide +kernel)
theorem q_X2_countEvenArrangements_3 : Cond.fieldLink RX2 21 "TwistedRow" "sources" "[[I" ∈ wsX2_countEvenArrangements := List.mem_of_getElem? (i := 3) rfl
def lp_X2_countEvenArrangements_10 (c_al : Int32) (c_pl : Int32) (c_so : Nat → Nat → Int32) (c_tu : Int32) (K41 : Int32 → Prop) (K51 : Int32 → Prop) : Nat → Int32 → Prop
  | 0, _ => False
  | N + 1, v_2 => (((2 * c_tu) ≤ v_2 → (K51 v_2)) ∧ (¬ (2 * c_tu) ≤ v_2 → (wp_X2_isAllowed c_tu c_al v_2 (fun r_4 u_3 => ((r_4 = 0 → (lp_X2_countEvenArrangements_10 c_al c_pl c_so c_tu K41 K51 N (v_2 + 1))) ∧ (¬ r_4 = 0 → (vp_in v_2 12 ∧ (wp_X2_isEven c_pl (c_so ((v_2 : Int32).toNatClampNeg)) (fun r_8 u_7 => ((¬ r_8 = 0 → (lp_X2_countEvenArrangements_10 c_al c_pl c_so c_tu K41 K51 N (v_2 + 1))) ∧ (r_8 = 0 → (K41 v_2))))))))))))
set_option maxHeartbeats 4000000 in
set_option maxRecDepth 100000 in
theorem l_X2_countEvenArrangements_10 {p : Program} {l : Launch} {e : Env} {s : State} {m : MethodId} {args : Array Value} {below : List Frame} {meth : Method} {c : Code} {A : Nat → Prop} {D : va_G} {cy : Nat → ClassId} {Q : State → Prop} {a_this : Nat} {a_ti : Nat} {a_sc : Nat} {a_wr : Nat} {a_so : Nat} {a_inp : Nat} {a_G : Nat} {r_so : Nat → Nat} {a_G_en : Nat} {a_G_wy : Nat} {a_G_sp : Nat} {a_G_mv : Nat} {a_G_A : Nat} {a_G_B : Nat} {a_G_C : Nat} {r_G_en : Nat → Nat} {a_G_A_le : Nat} {a_G_A_fo : Nat} {c_pl : Int32} {c_tu : Int32} {c_al : Int32} {c_il : Int32} {c_G_ro : Int32} {c_G_pl : Int32} {c_G_sz : Int32} {c_G_A_to : Int32} {c_G_A_kn : Int32} {c_G_A_le : Nat → Int32} {c_G_A_fo : Nat → Int32} {c_so : Nat → Nat → Int32} {c_G_en : Nat → Nat → Int32} {rm : Nat} {v_1 : Int32} {K41 : Int32 → Prop} {K51 : Int32 → Prop} (C0 : Cx p s m args c cX2_countEvenArrangements yX2_countEvenArrangements.cls 3 wsX2_countEvenArrangements D cy A)
    (k41 : ∀ (v_2 : Int32) (H : Heap) (locs : List Loc) (ls : Array Slot), K41 v_2 → va_P D vwCl ((HAppend.hAppend (α := va_W) (β := va_W) (γ := va_W) (HAppend.hAppend (α := va_W) (β := va_W) (γ := va_W) [(a_this, .inr (2, [.ref a_ti, .ref a_sc, .ref a_wr, .ref a_so, .ref a_inp, .int c_pl, .int c_tu, .int c_al, .int c_il, .ref a_G])), (a_so, .inl (cy 3, 12, .inr (.inr (.inr (.inr (rowsF r_so)))))), (a_G, .inr (0, [.int c_G_ro, .ref a_G_en, .ref a_G_wy, .ref a_G_sp, .ref a_G_mv, .ref a_G_A, .ref a_G_B, .ref a_G_C, .int c_G_pl, .int c_G_sz])), (a_G_en, .inl (cy 3, 12, .inr (.inr (.inr (.inr (rowsF r_G_en)))))), (a_G_A, .inr (1, [.ref a_G_A_le, .ref a_G_A_fo, .int c_G_A_to, .int c_G_A_kn])), (a_G_A_le, .inl (cy 0, rm, .inl c_G_A_le)), (a_G_A_fo, .inl (cy 0, rm, .inl c_G_A_fo))] (rowsW (cy 0) r_so 8 c_so)) (rowsW (cy 0) r_G_en rm c_G_en))) H → va_D A ((HAppend.hAppend (α := va_W) (β := va_W) (γ := va_W) (HAppend.hAppend (α := va_W) (β := va_W) (γ := va_W) [(a_this, .inr (2, [.ref a_ti, .ref a_sc, .ref a_wr, .ref a_so, .ref a_inp, .int c_pl, .int c_tu, .int c_al, .int c_il, .ref a_G])), (a_so, .inl (cy 3, 12, .inr (.inr (.inr (.inr (rowsF r_so)))))), (a_G, .inr (0, [.int c_G_ro, .ref a_G_en, .ref a_G_wy, .ref a_G_sp, .ref a_G_mv, .ref a_G_A, .ref a_G_B, .ref a_G_C, .int c_G_pl, .int c_G_sz])), (a_G_en, .inl (cy 3, 12, .inr (.inr (.inr (.inr (rowsF r_G_en)))))), (a_G_A, .inr (1, [.ref a_G_A_le, .ref a_G_A_fo, .int c_G_A_to, .int c_G_A_kn])), (a_G_A_le, .inl (cy 0, rm, .inl c_G_A_le)), (a_G_A_fo, .inl (cy 0, rm, .inl c_G_A_fo))] (rowsW (cy 0) r_so 8 c_so)) (rowsW (cy 0) r_G_en rm c_G_en))) → va_S A s.heap H locs → lv_has ls 3 [(1, .int v_1)] → W p l e (({ frames := 3, cells := 0, slots := 0, locals := 67 } : Room)) s m args below meth c H locs 0 0 Q (F0 m 41 ls []))
    (k51 : ∀ (v_2 : Int32) (H : Heap) (locs : List Loc) (ls : Array Slot), K51 v_2 → va_P D vwCl ((HAppend.hAppend (α := va_W) (β := va_W) (γ := va_W) (HAppend.hAppend (α := va_W) (β := va_W) (γ := va_W) [(a_this, .inr (2, [.ref a_ti, .ref a_sc, .ref a_wr, .ref a_so, .ref a_inp, .int c_pl, .int c_tu, .int c_al, .int c_il, .ref a_G])), (a_so, .inl (cy 3, 12, .inr (.inr (.inr (.inr (rowsF r_so)))))), (a_G, .inr (0, [.int c_G_ro, .ref a_G_en, .ref a_G_wy, .ref a_G_sp, .ref a_G_mv, .ref a_G_A, .ref a_G_B, .ref a_G_C, .int c_G_pl, .int c_G_sz])), (a_G_en, .inl (cy 3, 12, .inr (.inr (.inr (.inr (rowsF r_G_en)))))), (a_G_A, .inr (1, [.ref a_G_A_le, .ref a_G_A_fo, .int c_G_A_to, .int c_G_A_kn])), (a_G_A_le, .inl (cy 0, rm, .inl c_G_A_le)), (a_G_A_fo, .inl (cy 0, rm, .inl c_G_A_fo))] (rowsW (cy 0) r_so 8 c_so)) (rowsW (cy 0) r_G_en rm c_G_en))) H → va_D A ((HAppend.hAppend (α := va_W) (β := va_W) (γ := va_W) (HAppend.hAppend (α := va_W) (β := va_W) (γ := va_W) [(a_this, .inr (2, [.ref a_ti, .ref a_sc, .ref a_wr, .ref a_so, .ref a_inp, .int c_pl, .int c_tu, .int c_al, .int c_il, .ref a_G])), (a_so, .inl (cy 3, 12, .inr (.inr (.inr (.inr (rowsF r_so)))))), (a_G, .inr (0, [.int c_G_ro, .ref a_G_en, .ref a_G_wy, .ref a_G_sp, .ref a_G_mv, .ref a_G_A, .ref a_G_B, .ref a_G_C, .int c_G_pl, .int c_G_sz])), (a_G_en, .inl (cy 3, 12, .inr (.inr (.inr (.inr (rowsF r_G_en)))))), (a_G_A, .inr (1, [.ref a_G_A_le, .ref a_G_A_fo, .int c_G_A_to, .int c_G_A_kn])), (a_G_A_le, .inl (cy 0, rm, .inl c_G_A_le)), (a_G_A_fo, .inl (cy 0, rm, .inl c_G_A_fo))] (rowsW (cy 0) r_so 8 c_so)) (rowsW (cy 0) r_G_en rm c_G_en))) → va_S A s.heap H locs → lv_has ls 3 [(1, .int v_1)] → W p l e (({ frames := 3, cells := 0, slots := 0, locals := 67 } : Room)) s m args below meth c H locs 0 0 Q (F0 m 51 ls [])) :
    ∀ (N : Nat) (v_2 : Int32) (H : Heap) (locs : List Loc) (ls : Array Slot), lp_X2_countEvenArrangements_10 c_al c_pl c_so c_tu K41 K51 N v_2 → va_P D vwCl ((HAppend.hAppend (α := va_W) (β := va_W) (γ := va_W) (HAppend.hAppend (α := va_W) (β := va_W) (γ := va_W) [(a_this, .inr (2, [.ref a_ti, .ref a_sc, .ref a_wr, .ref a_so, .ref a_inp, .int c_pl, .int c_tu, .int c_al, .int c_il, .ref a_G])), (a_so, .inl (cy 3, 12, .inr (.inr (.inr (.inr (rowsF r_so)))))), (a_G, .inr (0, [.int c_G_ro, .ref a_G_en, .ref a_G_wy, .ref a_G_sp, .ref a_G_mv, .ref a_G_A, .ref a_G_B, .ref a_G_C, .int c_G_pl, .int c_G_sz])), (a_G_en, .inl (cy 3, 12, .inr (.inr (.inr (.inr (rowsF r_G_en)))))), (a_G_A, .inr (1, [.ref a_G_A_le, .ref a_G_A_fo, .int c_G_A_to, .int c_G_A_kn])), (a_G_A_le, .inl (cy 0, rm, .inl c_G_A_le)), (a_G_A_fo, .inl (cy 0, rm, .inl c_G_A_fo))] (rowsW (cy 0) r_so 8 c_so)) (rowsW (cy 0) r_G_en rm c_G_en))) H → va_D A ((HAppend.hAppend (α := va_W) (β := va_W) (γ := va_W) (HAppend.hAppend (α := va_W) (β := va_W) (γ := va_W) [(a_this, .inr (2, [.ref a_ti, .ref a_sc, .ref a_wr, .ref a_so, .ref a_inp, .int c_pl, .int c_tu, .int c_al, .int c_il, .ref a_G])), (a_so, .inl (cy 3, 12, .inr (.inr (.inr (.inr (rowsF r_so)))))), (a_G, .inr (0, [.int c_G_ro, .ref a_G_en, .ref a_G_wy, .ref a_G_sp, .ref a_G_mv, .ref a_G_A, .ref a_G_B, .ref a_G_C, .int c_G_pl, .int c_G_sz])), (a_G_en, .inl (cy 3, 12, .inr (.inr (.inr (.inr (rowsF r_G_en)))))), (a_G_A, .inr (1, [.ref a_G_A_le, .ref a_G_A_fo, .int c_G_A_to, .int c_G_A_kn])), (a_G_A_le, .inl (cy 0, rm, .inl c_G_A_le)), (a_G_A_fo, .inl (cy 0, rm, .inl c_G_A_fo))] (rowsW (cy 0) r_so 8 c_so)) (rowsW (cy 0) r_G_en rm c_G_en))) → va_S A s.heap H locs → lv_has ls 3 [(0, .ref a_this), (1, .int v_1), (2, .int v_2)] → W p l e (({ frames := 3, cells := 0, slots := 0, locals := 67 } : Room)) s m args below meth c H locs 0 0 Q (F0 m 10 ls []) := by
  obtain ⟨hx, hb, hml, hown, hts, hK, hA⟩ := id C0
  intro N
  induction N with
  | zero =>
    intro v_2 H locs ls hw
    exact False.elim hw
  | succ N ih =>
    intro v_2 H locs ls hw hP hD hS hl
    rw [lp_X2_countEvenArrangements_10] at hw
    refine lv_iload_n hx hb dX2_countEvenArrangements_10 rfl (lv_at hl 2 rfl) ?_
    refine lv_iconst (v := 2) hx hb dX2_countEvenArrangements_11 (by decide) ?_
    refine lv_aload_n hx hb dX2_countEvenArrangements_12 rfl (lv_at hl 0 rfl) ?_
    refine va_get (D := D) (ci := 2) (v := .int c_tu) (C := RX2) (T := TX2) (N := 10) hx hb hts k_X2_countEvenArrangements_X2 hown hK hP 0 rfl rfl 6 (by decide) (hts _ q_X2_countEvenArrangements_2) (fun _ h9 => h9) rfl dX2_countEvenArrangements_13 ?_
    refine lv_imul hx hb dX2_countEvenArrangements_16 ?_
    refine lv_icmp_ge (tgt := 51) hx hb dX2_countEvenArrangements_17 (by decide) (fun c_2 => ?_) (fun c_2 => ?_)
    · replace hw := hw.1 c_2
      exact k51 _ _ _ _ hw hP hD hS (lv_sub hl [1] rfl)
    · replace hw := hw.2 c_2
      refine lv_aload_n hx hb dX2_countEvenArrangements_20 rfl (lv_at hl 0 rfl) ?_
      refine lv_iload_n hx hb dX2_countEvenArrangements_21 rfl (lv_at hl 2 rfl) ?_
      refine j_calli (wr := (HAppend.hAppend (α := va_W) (β := va_W) (γ := va_W) (HAppend.hAppend (α := va_W) (β := va_W) (γ := va_W) [(a_so, .inl (cy 3, 12, .inr (.inr (.inr (.inr (rowsF r_so)))))), (a_G, .inr (0, [.int c_G_ro, .ref a_G_en, .ref a_G_wy, .ref a_G_sp, .ref a_G_mv, .ref a_G_A, .ref a_G_B, .ref a_G_C, .int c_G_pl, .int c_G_sz])), (a_G_en, .inl (cy 3, 12, .inr (.inr (.inr (.inr (rowsF r_G_en)))))), (a_G_A, .inr (1, [.ref a_G_A_le, .ref a_G_A_fo, .int c_G_A_to, .int c_G_A_kn])), (a_G_A_le, .inl (cy 0, rm, .inl c_G_A_le)), (a_G_A_fo, .inl (cy 0, rm, .inl c_G_A_fo))] (rowsW (cy 0) r_so 8 c_so)) (rowsW (cy 0) r_G_en rm c_G_en))) (va_runV (As := [.int v_2]) (rest := []) ⟨hx, hb, hml, hown, hts⟩ (c_X2_isAllowed l D cy a_this a_ti a_sc a_wr a_so a_inp a_G c_pl c_tu c_al c_il v_2 hw H.size) (cwV 1 hts gX2_countEvenArrangements_X2_isAllowed rfl rfl rfl (by decide +kernel) ⟨Nat.le_of_ble_eq_true rfl, Nat.le_of_ble_eq_true rfl⟩) (j_preV hK hP hD (isC := [0]) rfl (by decide +kernel) (ci := 2) (q0 := 0) rfl rfl) rfl rfl hl.1 rfl (lv_room (Nat.le_of_ble_eq_true rfl)) dX2_countEvenArrangements_22 ⟨Nat.le_of_ble_eq_true rfl, Nat.le_of_ble_eq_true rfl⟩) hP hD hS hA [0] [1, 2, 3, 4, 5, 6, 7, 8, 9, 10, 11, 12, 13, 14, 15, 16, 17, 18, 19, 20, 21, 22, 23, 24, 25, 26, 27, 28, 29, 30] rfl rfl (by decide +kernel) (by decide +kernel) (fun u_3 => (HAppend.hAppend (α := va_W) (β := va_W) (γ := va_W) (HAppend.hAppend (α := va_W) (β := va_W) (γ := va_W) [(a_this, .inr (2, [.ref a_ti, .ref a_sc, .ref a_wr, .ref a_so, .ref a_inp, .int c_pl, .int c_tu, .int c_al, .int c_il, .ref a_G])), (a_so, .inl (cy 3, 12, .inr (.inr (.inr (.inr (rowsF r_so)))))), (a_G, .inr (0, [.int c_G_ro, .ref a_G_en, .ref a_G_wy, .ref a_G_sp, .ref a_G_mv, .ref a_G_A, .ref a_G_B, .ref a_G_C, .int c_G_pl, .int c_G_sz])), (a_G_en, .inl (cy 3, 12, .inr (.inr (.inr (.inr (rowsF r_G_en)))))), (a_G_A, .inr (1, [.ref a_G_A_le, .ref a_G_A_fo, .int c_G_A_to, .int c_G_A_kn])), (a_G_A_le, .inl (cy 0, rm, .inl c_G_A_le)), (a_G_A_fo, .inl (cy 0, rm, .inl c_G_A_fo))] (rowsW (cy 0) r_so 8 c_so)) (rowsW (cy 0) r_G_en rm c_G_en))) [30, 0, 1, 2, 3, 4, 5, 6, 7, 8, 9, 10, 11, 12, 13, 14, 15, 16, 17, 18, 19, 20, 21, 22, 23, 24, 25, 26, 27, 28, 29] (by decide +kernel) (fun u => rfl) (fun r_4 u_3 H locs hw hP hD hS => ?_)
      have hP : va_P D vwCl ((HAppend.hAppend (α := va_W) (β := va_W) (γ := va_W) (HAppend.hAppend (α := va_W) (β := va_W) (γ := va_W) [(a_this, .inr (2, [.ref a_ti, .ref a_sc, .ref a_wr, .ref a_so, .ref a_inp, .int c_pl, .int c_tu, .int c_al, .int c_il, .ref a_G])), (a_so, .inl (cy 3, 12, .inr (.inr (.inr (.inr (rowsF r_so)))))), (a_G, .inr (0, [.int c_G_ro, .ref a_G_en, .ref a_G_wy, .ref a_G_sp, .ref a_G_mv, .ref a_G_A, .ref a_G_B, .ref a_G_C, .int c_G_pl, .int c_G_sz])), (a_G_en, .inl (cy 3, 12, .inr (.inr (.inr (.inr (rowsF r_G_en)))))), (a_G_A, .inr (1, [.ref a_G_A_le, .ref a_G_A_fo, .int c_G_A_to, .int c_G_A_kn])), (a_G_A_le, .inl (cy 0, rm, .inl c_G_A_le)), (a_G_A_fo, .inl (cy 0, rm, .inl c_G_A_fo))] (rowsW (cy 0) r_so 8 c_so)) (rowsW (cy 0) r_G_en rm c_G_en))) H := hP
      have hD : va_D A ((HAppend.hAppend (α := va_W) (β := va_W) (γ := va_W) (HAppend.hAppend (α := va_W) (β := va_W) (γ := va_W) [(a_this, .inr (2, [.ref a_ti, .ref a_sc, .ref a_wr, .ref a_so, .ref a_inp, .int c_pl, .int c_tu, .int c_al, .int c_il, .ref a_G])), (a_so, .inl (cy 3, 12, .inr (.inr (.inr (.inr (rowsF r_so)))))), (a_G, .inr (0, [.int c_G_ro, .ref a_G_en, .ref a_G_wy, .ref a_G_sp, .ref a_G_mv, .ref a_G_A, .ref a_G_B, .ref a_G_C, .int c_G_pl, .int c_G_sz])), (a_G_en, .inl (cy 3, 12, .inr (.inr (.inr (.inr (rowsF r_G_en)))))), (a_G_A, .inr (1, [.ref a_G_A_le, .ref a_G_A_fo, .int c_G_A_to, .int c_G_A_kn])), (a_G_A_le, .inl (cy 0, rm, .inl c_G_A_le)), (a_G_A_fo, .inl (cy 0, rm, .inl c_G_A_fo))] (rowsW (cy 0) r_so 8 c_so)) (rowsW (cy 0) r_G_en rm c_G_en))) := hD
      refine lv_if_eq (tgt := 45) hx hb dX2_countEvenArrangements_25 (by decide) (fun c_5 => ?_) (fun c_5 => ?_)
      · replace hw := hw.1 c_5
        refine lv_iinc (v := v_2 + 1) (lv' := [(2, .int (v_2 + 1)), (0, .ref a_this), (1, .int v_1)]) hx hb dX2_countEvenArrangements_45 hl (k := 2) rfl rfl (by decide) rfl (fun ls hl => ?_)
        refine lv_goto (tgt := 10) hx hb dX2_countEvenArrangements_48 (by decide) ?_
        exact ih _ _ _ _ hw hP hD hS (lv_sub hl [1, 2, 0] rfl)
      · replace hw := hw.2 c_5
        refine lv_aload_n hx hb dX2_countEvenArrangements_28 rfl (lv_at hl 0 rfl) ?_
        refine lv_aload_n hx hb dX2_countEvenArrangements_29 rfl (lv_at hl 0 rfl) ?_
        refine va_get (D := D) (ci := 2) (v := .ref a_so) (C := RX2) (T := TX2) (N := 10) hx hb hts k_X2_countEvenArrangements_X2 hown hK hP 0 rfl rfl 3 (by decide) (hts _ q_X2_countEvenArrangements_3) (fun _ h9 => h9) rfl dX2_countEvenArrangements_30 ?_
        refine lv_iload_n hx hb dX2_countEvenArrangements_33 rfl (lv_at hl 2 rfl) ?_
        obtain ⟨h_6, hw⟩ := hw
        refine j_aald hx hb hK hP 1 3 rfl rfl h_6 dX2_countEvenArrangements_34 ?_
        refine j_calli (wr := (HAppend.hAppend (α := va_W) (β := va_W) (γ := va_W) [(a_so, .inl (cy 3, 12, .inr (.inr (.inr (.inr (rowsF r_so)))))), (a_G, .inr (0, [.int c_G_ro, .ref a_G_en, .ref a_G_wy, .ref a_G_sp, .ref a_G_mv, .ref a_G_A, .ref a_G_B, .ref a_G_C, .int c_G_pl, .int c_G_sz])), (a_G_en, .inl (cy 3, 12, .inr (.inr (.inr (.inr (rowsF r_G_en)))))), (a_G_A, .inr (1, [.ref a_G_A_le, .ref a_G_A_fo, .int c_G_A_to, .int c_G_A_kn])), (a_G_A_le, .inl (cy 0, rm, .inl c_G_A_le)), (a_G_A_fo, .inl (cy 0, rm, .inl c_G_A_fo))] (rowsW (cy 0) r_G_en rm c_G_en))) (va_runV (As := [.ref (r_so ((v_2 : Int32).toNatClampNeg))]) (rest := []) ⟨hx, hb, hml, hown, hts⟩ (c_X2_isEven_r l D cy a_this a_ti a_sc a_wr a_so a_inp a_G r_so c_pl c_tu c_al c_il c_so ((v_2 : Int32).toNatClampNeg) (j_lt12 h_6) hw H.size) (cwV 1 hts gX2_countEvenArrangements_X2_isEven rfl rfl rfl (by decide +kernel) ⟨Nat.le_of_ble_eq_true rfl, Nat.le_of_ble_eq_true rfl⟩) (j_preV hK hP hD (isC := [0, 7, 8, 9, 10, 11, 12, 13, 14, 15, 16, 17, 18]) rfl (by decide +kernel) (ci := 2) (q0 := 0) rfl rfl) rfl rfl hl.1 rfl (lv_room (Nat.le_of_ble_eq_true rfl)) dX2_countEvenArrangements_35 ⟨Nat.le_of_ble_eq_true rfl, Nat.le_of_ble_eq_true rfl⟩) hP hD hS hA [0, 7, 8, 9, 10, 11, 12, 13, 14, 15, 16, 17, 18] [1, 2, 3, 4, 5, 6, 19, 20, 21, 22, 23, 24, 25, 26, 27, 28, 29, 30] rfl rfl (by decide +kernel) (by decide +kernel) (fun u_7 => (HAppend.hAppend (α := va_W) (β := va_W) (γ := va_W) (HAppend.hAppend (α := va_W) (β := va_W) (γ := va_W) [(a_this, .inr (2, [.ref a_ti, .ref a_sc, .ref a_wr, .ref a_so, .ref a_inp, .int c_pl, .int c_tu, .int c_al, .int c_il, .ref a_G])), (a_so, .inl (cy 3, 12, .inr (.inr (.inr (.inr (rowsF r_so)))))), (a_G, .inr (0, [.int c_G_ro, .ref a_G_en, .ref a_G_wy, .ref a_G_sp, .ref a_G_mv, .ref a_G_A, .ref a_G_B, .ref a_G_C, .int c_G_pl, .int c_G_sz])), (a_G_en, .inl (cy 3, 12, .inr (.inr (.inr (.inr (rowsF r_G_en)))))), (a_G_A, .inr (1, [.ref a_G_A_le, .ref a_G_A_fo, .int c_G_A_to, .int c_G_A_kn])), (a_G_A_le, .inl (cy 0, rm, .inl c_G_A_le)), (a_G_A_fo, .inl (cy 0, rm, .inl c_G_A_fo))] (rowsW (cy 0) r_so 8 c_so)) (rowsW (cy 0) r_G_en rm c_G_en))) [18, 0, 1, 2, 3, 4, 5, 19, 20, 21, 22, 23, 24, 25, 26, 27, 28, 29, 30, 6, 7, 8, 9, 10, 11, 12, 13, 14, 15, 16, 17] (by decide +kernel) (fun u => rfl) (fun r_8 u_7 H locs hw hP hD hS => ?_)
        have hP : va_P D vwCl ((HAppend.hAppend (α := va_W) (β := va_W) (γ := va_W) (HAppend.hAppend (α := va_W) (β := va_W) (γ := va_W) [(a_this, .inr (2, [.ref a_ti, .ref a_sc, .ref a_wr, .ref a_so, .ref a_inp, .int c_pl, .int c_tu, .int c_al, .int c_il, .ref a_G])), (a_so, .inl (cy 3, 12, .inr (.inr (.inr (.inr (rowsF r_so)))))), (a_G, .inr (0, [.int c_G_ro, .ref a_G_en, .ref a_G_wy, .ref a_G_sp, .ref a_G_mv, .ref a_G_A, .ref a_G_B, .ref a_G_C, .int c_G_pl, .int c_G_sz])), (a_G_en, .inl (cy 3, 12, .inr (.inr (.inr (.inr (rowsF r_G_en)))))), (a_G_A, .inr (1, [.ref a_G_A_le, .ref a_G_A_fo, .int c_G_A_to, .int c_G_A_kn])), (a_G_A_le, .inl (cy 0, rm, .inl c_G_A_le)), (a_G_A_fo, .inl (cy 0, rm, .inl c_G_A_fo))] (rowsW (cy 0) r_so 8 c_so)) (rowsW (cy 0) r_G_en rm c_G_en))) H := hP
        have hD : va_D A ((HAppend.hAppend (α := va_W) (β := va_W) (γ := va_W) (HAppend.hAppend (α := va_W) (β := va_W) (γ := va_W) [(a_this, .inr (2, [.ref a_ti, .ref a_sc, .ref a_wr, .ref a_so, .ref a_inp, .int c_pl, .int c_tu, .int c_al, .int c_il, .ref a_G])), (a_so, .inl (cy 3, 12, .inr (.inr (.inr (.inr (rowsF r_so)))))), (a_G, .inr (0, [.int c_G_ro, .ref a_G_en, .ref a_G_wy, .ref a_G_sp, .ref a_G_mv, .ref a_G_A, .ref a_G_B, .ref a_G_C, .int c_G_pl, .int c_G_sz])), (a_G_en, .inl (cy 3, 12, .inr (.inr (.inr (.inr (rowsF r_G_en)))))), (a_G_A, .inr (1, [.ref a_G_A_le, .ref a_G_A_fo, .int c_G_A_to, .int c_G_A_kn])), (a_G_A_le, .inl (cy 0, rm, .inl c_G_A_le)), (a_G_A_fo, .inl (cy 0, rm, .inl c_G_A_fo))] (rowsW (cy 0) r_so 8 c_so)) (rowsW (cy 0) r_G_en rm c_G_en))) := hD
        refine lv_if_ne (tgt := 45) hx hb dX2_countEvenArrangements_38 (by decide) (fun c_9 => ?_) (fun c_9 => ?_)
        · replace hw := hw.1 c_9
          refine lv_iinc (v := v_2 + 1) (lv' := [(2, .int (v_2 + 1)), (0, .ref a_this), (1, .int v_1)]) hx hb dX2_countEvenArrangements_45 hl (k := 2) rfl rfl (by decide) rfl (fun ls hl => ?_)
          refine lv_goto (tgt := 10) hx hb dX2_countEvenArrangements_48 (by decide) ?_
          exact ih _ _ _ _ hw hP hD hS (lv_sub hl [1, 2, 0] rfl)
        · replace hw := hw.2 c_9
          exact k41 _ _ _ _ hw hP hD hS (lv_sub hl [1] rfl)
def wp_X2_countEvenArrangements (c_pl : Int32) (c_tu : Int32) (c_al : Int32) (c_G_sz : Int32) (c_G_A_to : Int32) (c_G_A_kn : Int32) (c_G_A_le : Nat → Int32) (c_G_A_fo : Nat → Int32) (c_so : Nat → Nat → Int32) (c_G_en : Nat → Nat → Int32) (rm : Nat) (post : Int32 → (Int32 × Int32 × (Nat → Int32) × (Nat → Int32)) → Prop) : Prop := (wp_X2_solutions c_al c_G_sz c_G_A_to c_G_A_kn c_G_A_le c_G_A_fo c_G_en rm (fun u_1 => (∃ N_10 : Nat, lp_X2_countEvenArrangements_10 c_al c_pl c_so c_tu (fun (v_11 : Int32) => (post (u_1.1 / 2) (u_1.1, u_1.2.1, u_1.2.2.1, u_1.2.2.2))) (fun (v_12 : Int32) => (post u_1.1 (u_1.1, u_1.2.1, u_1.2.2.1, u_1.2.2.2))) N_10 0)))
set_option maxHeartbeats 4000000 in
set_option maxRecDepth 100000 in
theorem c_X2_countEvenArrangements (l : Launch) (D : va_G) (cy : Nat → ClassId) (a_this : Nat) (a_ti : Nat) (a_sc : Nat) (a_wr : Nat) (a_so : Nat) (a_inp : Nat) (a_G : Nat) (r_so : Nat → Nat) (a_G_en : Nat) (a_G_wy : Nat) (a_G_sp : Nat) (a_G_mv : Nat) (a_G_A : Nat) (a_G_B : Nat) (a_G_C : Nat) (r_G_en : Nat → Nat) (a_G_A_le : Nat) (a_G_A_fo : Nat) (c_pl : Int32) (c_tu : Int32) (c_al : Int32) (c_il : Int32) (c_G_ro : Int32) (c_G_pl : Int32) (c_G_sz : Int32) (c_G_A_to : Int32) (c_G_A_kn : Int32) (c_G_A_le : Nat → Int32) (c_G_A_fo : Nat → Int32) (c_so : Nat → Nat → Int32) (c_G_en : Nat → Nat → Int32) (rm : Nat) {post : Int32 → (Int32 × Int32 × (Nat → Int32) × (Nat → Int32)) → Prop} (hw : wp_X2_countEvenArrangements c_pl c_tu c_al c_G_sz c_G_A_to c_G_A_kn c_G_A_le c_G_A_fo c_so c_G_en rm post) (sz : Nat) : Met l yX2_countEvenArrangements wsX2_countEvenArrangements ({ frames := 3, cells := 0, slots := 0, locals := 67 }) (va_Pc [.ref a_this] (PreW D cy ((HAppend.hAppend (α := va_W) (β := va_W) (γ := va_W) (HAppend.hAppend (α := va_W) (β := va_W) (γ := va_W) [(a_this, .inr (2, [.ref a_ti, .ref a_sc, .ref a_wr, .ref a_so, .ref a_inp, .int c_pl, .int c_tu, .int c_al, .int c_il, .ref a_G])), (a_so, .inl (cy 3, 12, .inr (.inr (.inr (.inr (rowsF r_so)))))), (a_G, .inr (0, [.int c_G_ro, .ref a_G_en, .ref a_G_wy, .ref a_G_sp, .ref a_G_mv, .ref a_G_A, .ref a_G_B, .ref a_G_C, .int c_G_pl, .int c_G_sz])), (a_G_en, .inl (cy 3, 12, .inr (.inr (.inr (.inr (rowsF r_G_en)))))), (a_G_A, .inr (1, [.ref a_G_A_le, .ref a_G_A_fo, .int c_G_A_to, .int c_G_A_kn])), (a_G_A_le, .inl (cy 0, rm, .inl c_G_A_le)), (a_G_A_fo, .inl (cy 0, rm, .inl c_G_A_fo))] (rowsW (cy 0) r_so 8 c_so)) (rowsW (cy 0) r_G_en rm c_G_en))) sz)) (va_Qi post (fun u t => PostW D cy (va_A ((HAppend.hAppend (α := va_W) (β := va_W) (γ := va_W) (HAppend.hAppend (α := va_W) (β := va_W) (γ := va_W) [(a_this, .inr (2, [.ref a_ti, .ref a_sc, .ref a_wr, .ref a_so, .ref a_inp, .int c_pl, .int c_tu, .int c_al, .int c_il, .ref a_G])), (a_so, .inl (cy 3, 12, .inr (.inr (.inr (.inr (rowsF r_so)))))), (a_G, .inr (0, [.int c_G_ro, .ref a_G_en, .ref a_G_wy, .ref a_G_sp, .ref a_G_mv, .ref a_G_A, .ref a_G_B, .ref a_G_C, .int c_G_pl, .int c_G_sz])), (a_G_en, .inl (cy 3, 12, .inr (.inr (.inr (.inr (rowsF r_G_en)))))), (a_G_A, .inr (1, [.ref a_G_A_le, .ref a_G_A_fo, .int c_G_A_to, .int c_G_A_kn])), (a_G_A_le, .inl (cy 0, rm, .inl c_G_A_le)), (a_G_A_fo, .inl (cy 0, rm, .inl c_G_A_fo))] (rowsW (cy 0) r_so 8 c_so)) (rowsW (cy 0) r_G_en rm c_G_en))) sz) ((HAppend.hAppend (α := va_W) (β := va_W) (γ := va_W) (HAppend.hAppend (α := va_W) (β := va_W) (γ := va_W) [(a_this, .inr (2, [.ref a_ti, .ref a_sc, .ref a_wr, .ref a_so, .ref a_inp, .int c_pl, .int c_tu, .int c_al, .int c_il, .ref a_G])), (a_so, .inl (cy 3, 12, .inr (.inr (.inr (.inr (rowsF r_so)))))), (a_G, .inr (0, [.int c_G_ro, .ref a_G_en, .ref a_G_wy, .ref a_G_sp, .ref a_G_mv, .ref a_G_A, .ref a_G_B, .ref a_G_C, .int c_G_pl, .int c_G_sz])), (a_G_en, .inl (cy 3, 12, .inr (.inr (.inr (.inr (rowsF r_G_en)))))), (a_G_A, .inr (1, [.ref a_G_A_le, .ref a_G_A_fo, .int u.1, .int u.2.1])), (a_G_A_le, .inl (cy 0, rm, .inl u.2.2.1)), (a_G_A_fo, .inl (cy 0, rm, .inl u.2.2.2))] (rowsW (cy 0) r_so 8 c_so)) (rowsW (cy 0) r_G_en rm c_G_en))) t) (va_A ((HAppend.hAppend (α := va_W) (β := va_W) (γ := va_W) (HAppend.hAppend (α := va_W) (β := va_W) (γ := va_W) [(a_this, .inr (2, [.ref a_ti, .ref a_sc, .ref a_wr, .ref a_so, .ref a_inp, .int c_pl, .int c_tu, .int c_al, .int c_il, .ref a_G])), (a_so, .inl (cy 3, 12, .inr (.inr (.inr (.inr (rowsF r_so)))))), (a_G, .inr (0, [.int c_G_ro, .ref a_G_en, .ref a_G_wy, .ref a_G_sp, .ref a_G_mv, .ref a_G_A, .ref a_G_B, .ref a_G_C, .int c_G_pl, .int c_G_sz])), (a_G_en, .inl (cy 3, 12, .inr (.inr (.inr (.inr (rowsF r_G_en)))))), (a_G_A, .inr (1, [.ref a_G_A_le, .ref a_G_A_fo, .int c_G_A_to, .int c_G_A_kn])), (a_G_A_le, .inl (cy 0, rm, .inl c_G_A_le)), (a_G_A_fo, .inl (cy 0, rm, .inl c_G_A_fo))] (rowsW (cy 0) r_so 8 c_so)) (rowsW (cy 0) r_G_en rm c_G_en))) sz)) 0 0 (va_A ((HAppend.hAppend (α := va_W) (β := va_W) (γ := va_W) (HAppend.hAppend (α := va_W) (β := va_W) (γ := va_W) [(a_this, .inr (2, [.ref a_ti, .ref a_sc, .ref a_wr, .ref a_so, .ref a_inp, .int c_pl, .int c_tu, .int c_al, .int c_il, .ref a_G])), (a_so, .inl (cy 3, 12, .inr (.inr (.inr (.inr (rowsF r_so)))))), (a_G, .inr (0, [.int c_G_ro, .ref a_G_en, .ref a_G_wy, .ref a_G_sp, .ref a_G_mv, .ref a_G_A, .ref a_G_B, .ref a_G_C, .int c_G_pl, .int c_G_sz])), (a_G_en, .inl (cy 3, 12, .inr (.inr (.inr (.inr (rowsF r_G_en)))))), (a_G_A, .inr (1, [.ref a_G_A_le, .ref a_G_A_fo, .int c_G_A_to, .int c_G_A_kn])), (a_G_A_le, .inl (cy 0, rm, .inl c_G_A_le)), (a_G_A_fo, .inl (cy 0, rm, .inl c_G_A_fo))] (rowsW (cy 0) r_so 8 c_so)) (rowsW (cy 0) r_G_en rm c_G_en))) sz) := by
  refine j_met (l := l) (y := yX2_countEvenArrangements) (ws := wsX2_countEvenArrangements) (D := D) (cy := cy) (sz := sz) (av := [.ref a_this]) (Qc := fun A => va_Qi post (fun u t => PostW D cy A ((HAppend.hAppend (α := va_W) (β := va_W) (γ := va_W) (HAppend.hAppend (α := va_W) (β := va_W) (γ := va_W) [(a_this, .inr (2, [.ref a_ti, .ref a_sc, .ref a_wr, .ref a_so, .ref a_inp, .int c_pl, .int c_tu, .int c_al, .int c_il, .ref a_G])), (a_so, .inl (cy 3, 12, .inr (.inr (.inr (.inr (rowsF r_so)))))), (a_G, .inr (0, [.int c_G_ro, .ref a_G_en, .ref a_G_wy, .ref a_G_sp, .ref a_G_mv, .ref a_G_A, .ref a_G_B, .ref a_G_C, .int c_G_pl, .int c_G_sz])), (a_G_en, .inl (cy 3, 12, .inr (.inr (.inr (.inr (rowsF r_G_en)))))), (a_G_A, .inr (1, [.ref a_G_A_le, .ref a_G_A_fo, .int u.1, .int u.2.1])), (a_G_A_le, .inl (cy 0, rm, .inl u.2.2.1)), (a_G_A_fo, .inl (cy 0, rm, .inl u.2.2.2))] (rowsW (cy 0) r_so 8 c_so)) (rowsW (cy 0) r_G_en rm c_G_en))) t) A) (by decide +kernel) rfl (Nat.le_of_ble_eq_true rfl) ?_
  intro p e s m below meth c A ls C0 hr hlocks hP hD hS hl
  obtain ⟨hx, hb, hml, hown, hts, hK, hA⟩ := id C0
  have hown : s.vm.findClass RX2 = some m.cls := hown
  have hl : lv_has ls 3 [(0, .ref a_this)] := hl
  unfold wp_X2_countEvenArrangements at hw
  refine lv_aload_n hx hb dX2_countEvenArrangements_0 rfl (lv_at hl 0 rfl) ?_
  refine j_callr (ra := a_G_A) (wr := (HAppend.hAppend (α := va_W) (β := va_W) (γ := va_W) [(a_so, .inl (cy 3, 12, .inr (.inr (.inr (.inr (rowsF r_so))))))] (rowsW (cy 0) r_so 8 c_so))) (va_runV (As := []) (rest := []) ⟨hx, hb, hml, hown, hts⟩ (c_X2_solutions l D cy a_this a_ti a_sc a_wr a_so a_inp a_G a_G_en a_G_wy a_G_sp a_G_mv a_G_A a_G_B a_G_C r_G_en a_G_A_le a_G_A_fo c_pl c_tu c_al c_il c_G_ro c_G_pl c_G_sz c_G_A_to c_G_A_kn c_G_A_le c_G_A_fo c_G_en rm hw s.heap.size) (cwV 0 hts gX2_countEvenArrangements_X2_solutions rfl rfl rfl (by decide +kernel) ⟨Nat.le_of_ble_eq_true rfl, Nat.le_of_ble_eq_true rfl⟩) (j_preV hK hP hD (isC := [0, 2, 3, 4, 5, 6, 19, 20, 21, 22, 23, 24, 25, 26, 27, 28, 29, 30]) rfl (by decide +kernel) (ci := 2) (q0 := 0) rfl rfl) rfl rfl hl.1 rfl (lv_room (Nat.le_of_ble_eq_true rfl)) dX2_countEvenArrangements_1 ⟨Nat.le_of_ble_eq_true rfl, Nat.le_of_ble_eq_true rfl⟩) hP hD hS hA [0, 2, 3, 4, 5, 6, 19, 20, 21, 22, 23, 24, 25, 26, 27, 28, 29, 30] [1, 7, 8, 9, 10, 11, 12, 13, 14, 15, 16, 17, 18] rfl rfl (by decide +kernel) (by decide +kernel) (fun u_1 => (HAppend.hAppend (α := va_W) (β := va_W) (γ := va_W) (HAppend.hAppend (α := va_W) (β := va_W) (γ := va_W) [(a_this, .inr (2, [.ref a_ti, .ref a_sc, .ref a_wr, .ref a_so, .ref a_inp, .int c_pl, .int c_tu, .int c_al, .int c_il, .ref a_G])), (a_so, .inl (cy 3, 12, .inr (.inr (.inr (.inr (rowsF r_so)))))), (a_G, .inr (0, [.int c_G_ro, .ref a_G_en, .ref a_G_wy, .ref a_G_sp, .ref a_G_mv, .ref a_G_A, .ref a_G_B, .ref a_G_C, .int c_G_pl, .int c_G_sz])), (a_G_en, .inl (cy 3, 12, .inr (.inr (.inr (.inr (rowsF r_G_en)))))), (a_G_A, .inr (1, [.ref a_G_A_le, .ref a_G_A_fo, .int u_1.1, .int u_1.2.1])), (a_G_A_le, .inl (cy 0, rm, .inl u_1.2.2.1)), (a_G_A_fo, .inl (cy 0, rm, .inl u_1.2.2.2))] (rowsW (cy 0) r_so 8 c_so)) (rowsW (cy 0) r_G_en rm c_G_en))) [13, 0, 14, 15, 16, 17, 18, 1, 2, 3, 4, 5, 6, 7, 8, 9, 10, 11, 12, 19, 20, 21, 22, 23, 24, 25, 26, 27, 28, 29, 30] (by decide +kernel) (fun u => rfl) (fun u_1 H locs hw hP hD hS => ?_)
  have hP : va_P D vwCl ((HAppend.hAppend (α := va_W) (β := va_W) (γ := va_W) (HAppend.hAppend (α := va_W) (β := va_W) (γ := va_W) [(a_this, .inr (2, [.ref a_ti, .ref a_sc, .ref a_wr, .ref a_so, .ref a_inp, .int c_pl, .int c_tu, .int c_al, .int c_il, .ref a_G])), (a_so, .inl (cy 3, 12, .inr (.inr (.inr (.inr (rowsF r_so)))))), (a_G, .inr (0, [.int c_G_ro, .ref a_G_en, .ref a_G_wy, .ref a_G_sp, .ref a_G_mv, .ref a_G_A, .ref a_G_B, .ref a_G_C, .int c_G_pl, .int c_G_sz])), (a_G_en, .inl (cy 3, 12, .inr (.inr (.inr (.inr (rowsF r_G_en)))))), (a_G_A, .inr (1, [.ref a_G_A_le, .ref a_G_A_fo, .int u_1.1, .int u_1.2.1])), (a_G_A_le, .inl (cy 0, rm, .inl u_1.2.2.1)), (a_G_A_fo, .inl (cy 0, rm, .inl u_1.2.2.2))] (rowsW (cy 0) r_so 8 c_so)) (rowsW (cy 0) r_G_en rm c_G_en))) H := hP
  have hD : va_D A ((HAppend.hAppend (α := va_W) (β := va_W) (γ := va_W) (HAppend.hAppend (α := va_W) (β := va_W) (γ := va_W) [(a_this, .inr (2, [.ref a_ti, .ref a_sc, .ref a_wr, .ref a_so, .ref a_inp, .int c_pl, .int c_tu, .int c_al, .int c_il, .ref a_G])), (a_so, .inl (cy 3, 12, .inr (.inr (.inr (.inr (rowsF r_so)))))), (a_G, .inr (0, [.int c_G_ro, .ref a_G_en, .ref a_G_wy, .ref a_G_sp, .ref a_G_mv, .ref a_G_A, .ref a_G_B, .ref a_G_C, .int c_G_pl, .int c_G_sz])), (a_G_en, .inl (cy 3, 12, .inr (.inr (.inr (.inr (rowsF r_G_en)))))), (a_G_A, .inr (1, [.ref a_G_A_le, .ref a_G_A_fo, .int u_1.1, .int u_1.2.1])), (a_G_A_le, .inl (cy 0, rm, .inl u_1.2.2.1)), (a_G_A_fo, .inl (cy 0, rm, .inl u_1.2.2.2))] (rowsW (cy 0) r_so 8 c_so)) (rowsW (cy 0) r_G_en rm c_G_en))) := hD
  refine va_get (D := D) (ci := 1) (v := .int u_1.1) (C := RX1) (T := TX1) (N := 4) hx hb hts k_X2_countEvenArrangements_X1 hown hK hP 4 rfl rfl 2 (by decide) (hts _ q_X2_countEvenArrangements_1) (fun _ h9 => h9) rfl dX2_countEvenArrangements_4 ?_
  refine lv_istore_n (lv' := [(1, .int u_1.1), (0, .ref a_this)]) hx hb dX2_countEvenArrangements_7 rfl hl (by decide) rfl (fun ls hl => ?_)
  refine lv_iconst (v := 0) hx hb dX2_countEvenArrangements_8 (by decide) ?_
  refine lv_istore_n (lv' := [(2, .int 0), (1, .int u_1.1), (0, .ref a_this)]) hx hb dX2_countEvenArrangements_9 rfl hl (by decide) rfl (fun ls hl => ?_)
  obtain ⟨N_10, hw⟩ := hw
  refine l_X2_countEvenArrangements_10 C0 (fun v_11 H locs ls hw hP hD hS hl => ?_) (fun v_12 H locs ls hw hP hD hS hl => ?_) _ _ _ _ _ hw hP hD hS (lv_sub hl [2, 1, 0] rfl)
  · skip
    refine lv_iload_n hx hb dX2_countEvenArrangements_41 rfl (lv_at hl 0 rfl) ?_
    refine lv_iconst (v := 2) hx hb dX2_countEvenArrangements_42 (by decide) ?_
    refine lv_idiv hx hb dX2_countEvenArrangements_43 (by decide) ?_
    exact j_iret (fun u => (HAppend.hAppend (α := va_W) (β := va_W) (γ := va_W) (HAppend.hAppend (α := va_W) (β := va_W) (γ := va_W) [(a_this, .inr (2, [.ref a_ti, .ref a_sc, .ref a_wr, .ref a_so, .ref a_inp, .int c_pl, .int c_tu, .int c_al, .int c_il, .ref a_G])), (a_so, .inl (cy 3, 12, .inr (.inr (.inr (.inr (rowsF r_so)))))), (a_G, .inr (0, [.int c_G_ro, .ref a_G_en, .ref a_G_wy, .ref a_G_sp, .ref a_G_mv, .ref a_G_A, .ref a_G_B, .ref a_G_C, .int c_G_pl, .int c_G_sz])), (a_G_en, .inl (cy 3, 12, .inr (.inr (.inr (.inr (rowsF r_G_en)))))), (a_G_A, .inr (1, [.ref a_G_A_le, .ref a_G_A_fo, .int u.1, .int u.2.1])), (a_G_A_le, .inl (cy 0, rm, .inl u.2.2.1)), (a_G_A_fo, .inl (cy 0, rm, .inl u.2.2.2))] (rowsW (cy 0) r_so 8 c_so)) (rowsW (cy 0) r_G_en rm c_G_en))) ((u_1.1, u_1.2.1, u_1.2.2.1, u_1.2.2.2) : Int32 × Int32 × (Nat → Int32) × (Nat → Int32)) hx hb hr hlocks hK hP hD hS hw dX2_countEvenArrangements_44
  · skip
    refine lv_iload_n hx hb dX2_countEvenArrangements_51 rfl (lv_at hl 0 rfl) ?_
    exact j_iret (fun u => (HAppend.hAppend (α := va_W) (β := va_W) (γ := va_W) (HAppend.hAppend (α := va_W) (β := va_W) (γ := va_W) [(a_this, .inr (2, [.ref a_ti, .ref a_sc, .ref a_wr, .ref a_so, .ref a_inp, .int c_pl, .int c_tu, .int c_al, .int c_il, .ref a_G])), (a_so, .inl (cy 3, 12, .inr (.inr (.inr (.inr (rowsF r_so)))))), (a_G, .inr (0, [.int c_G_ro, .ref a_G_en, .ref a_G_wy, .ref a_G_sp, .ref a_G_mv, .ref a_G_A, .ref a_G_B, .ref a_G_C, .int c_G_pl, .int c_G_sz])), (a_G_en, .inl (cy 3, 12, .inr (.inr (.inr (.inr (rowsF r_G_en)))))), (a_G_A, .inr (1, [.ref a_G_A_le, .ref a_G_A_fo, .int u.1, .int u.2.1])), (a_G_A_le, .inl (cy 0, rm, .inl u.2.2.1)), (a_G_A_fo, .inl (cy 0, rm, .inl u.2.2.2))] (rowsW (cy 0) r_so 8 c_so)) (rowsW (cy 0) r_G_en rm c_G_en))) ((u_1.1, u_1.2.1, u_1.2.2.1, u_1.2.2.2) : Int32 × Int32 × (Nat → Int32) × (Nat → Int32)) hx hb hr hlocks hK hP hD hS hw dX2_countEvenArrangements_52
