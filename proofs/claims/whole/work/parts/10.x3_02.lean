theorem q_X3_putTurn_1 : Cond.fieldLink RX3 7 "TwistedRowModel" "n" "I" ∈ wsX3_putTurn := List.mem_of_getElem? (i := 1) rfl
theorem k_X3_putTurn_X3 : ∀ w ∈ wsX30, w ∈ wsX3_putTurn := my_in _ [6, 7, 8, 9, 10, 11, 12, 13, 14, 15, 16, 17, 18, 19, 20, 21, 22, 23, 24] (by decide +kernel)
theorem q_X3_putTurn_2 : Cond.fieldLink RX3 17 "TwistedRowModel" "from" "[I" ∈ wsX3_putTurn := List.mem_of_getElem? (i := 2) rfl
theorem q_X3_putTurn_3 : Cond.fieldLink RX3 53 "TwistedRowModel" "turns" "I" ∈ wsX3_putTurn := List.mem_of_getElem? (i := 3) rfl
theorem q_X3_putTurn_4 : Cond.fieldLink RX3 23 "TwistedRowModel" "now" "[I" ∈ wsX3_putTurn := List.mem_of_getElem? (i := 4) rfl
theorem q_X3_putTurn_5 : Cond.fieldLink RX3 96 "TwistedRowModel" "allowed" "I" ∈ wsX3_putTurn := List.mem_of_getElem? (i := 5) rfl
def lp_X3_putTurn_2 (c_n : Int32) (c_no : Nat → Int32) (c_tu : Int32) (K60 : Int32 → (Nat → Int32) → Prop) : Nat → Int32 → (Nat → Int32) → Prop
  | 0, _, _ => False
  | N + 1, v_1, c_fr => ((c_n ≤ v_1 → (K60 v_1 c_fr)) ∧ (¬ c_n ≤ v_1 → (vp_in v_1 8 ∧ (vp_in ((16 * c_tu) + v_1) 96 ∧ (vp_in v_1 8 ∧ (vp_in ((8 * ((2 * c_tu) + 1)) + (c_no (v_1 : Int32).toNatClampNeg)) 96 ∧ (lp_X3_putTurn_2 c_n c_no c_tu K60 N (v_1 + 1) (upd (upd c_fr (((16 * c_tu) + v_1 : Int32).toNatClampNeg) (c_no (v_1 : Int32).toNatClampNeg)) (((8 * ((2 * c_tu) + 1)) + (c_no (v_1 : Int32).toNatClampNeg) : Int32).toNatClampNeg) v_1))))))))
set_option maxHeartbeats 4000000 in
set_option maxRecDepth 100000 in
theorem l_X3_putTurn_2 {p : Program} {l : Launch} {e : Env} {s : State} {m : MethodId} {args : Array Value} {below : List Frame} {meth : Method} {c : Code} {A : Nat → Prop} {D : va_G} {cy : Nat → ClassId} {Q : State → Prop} {a_this : Nat} {a_ro : Nat} {a_fr : Nat} {a_bu : Nat} {a_no : Nat} {a_te : Nat} {a_fa : Nat} {a_li : Nat} {a_wy : Nat} {a_su : Nat} {c_th : Int32} {c_n : Int32} {c_tu : Int32} {c_al : Int32} {c_le : Int32} {c_wa : Int32} {c_re : Int32} {c_us : Int32} {c_di : Int32} {c_ha : Int64} {c_no : Nat → Int32} {K60 : Int32 → (Nat → Int32) → Prop} (C0 : Cx p s m args c cX3_putTurn yX3_putTurn.cls 2 wsX3_putTurn D cy A)
    (k60 : ∀ (v_1 : Int32) (c_fr : Nat → Int32) (H : Heap) (locs : List Loc) (ls : Array Slot), K60 v_1 c_fr → va_P D vwCl ([(a_this, .inr (3, [.int c_th, .int c_n, .int c_tu, .int c_al, .ref a_ro, .ref a_fr, .int c_le, .ref a_bu, .ref a_no, .ref a_te, .ref a_fa, .ref a_li, .int c_wa, .int c_re, .int c_us, .int c_di, .ref a_wy, .ref a_su, .long c_ha])), (a_fr, .inl (cy 0, 96, .inl c_fr)), (a_no, .inl (cy 0, 8, .inl c_no))]) H → va_D A ([(a_this, .inr (3, [.int c_th, .int c_n, .int c_tu, .int c_al, .ref a_ro, .ref a_fr, .int c_le, .ref a_bu, .ref a_no, .ref a_te, .ref a_fa, .ref a_li, .int c_wa, .int c_re, .int c_us, .int c_di, .ref a_wy, .ref a_su, .long c_ha])), (a_fr, .inl (cy 0, 96, .inl c_fr)), (a_no, .inl (cy 0, 8, .inl c_no))]) → va_S A s.heap H locs → lv_has ls 2 [(0, .ref a_this)] → W p l e (({ frames := 0, cells := 0, slots := 0, locals := 0 } : Room)) s m args below meth c H locs 0 0 Q (F0 m 60 ls [])) :
    ∀ (N : Nat) (v_1 : Int32) (c_fr : Nat → Int32) (H : Heap) (locs : List Loc) (ls : Array Slot), lp_X3_putTurn_2 c_n c_no c_tu K60 N v_1 c_fr → va_P D vwCl ([(a_this, .inr (3, [.int c_th, .int c_n, .int c_tu, .int c_al, .ref a_ro, .ref a_fr, .int c_le, .ref a_bu, .ref a_no, .ref a_te, .ref a_fa, .ref a_li, .int c_wa, .int c_re, .int c_us, .int c_di, .ref a_wy, .ref a_su, .long c_ha])), (a_fr, .inl (cy 0, 96, .inl c_fr)), (a_no, .inl (cy 0, 8, .inl c_no))]) H → va_D A ([(a_this, .inr (3, [.int c_th, .int c_n, .int c_tu, .int c_al, .ref a_ro, .ref a_fr, .int c_le, .ref a_bu, .ref a_no, .ref a_te, .ref a_fa, .ref a_li, .int c_wa, .int c_re, .int c_us, .int c_di, .ref a_wy, .ref a_su, .long c_ha])), (a_fr, .inl (cy 0, 96, .inl c_fr)), (a_no, .inl (cy 0, 8, .inl c_no))]) → va_S A s.heap H locs → lv_has ls 2 [(0, .ref a_this), (1, .int v_1)] → W p l e (({ frames := 0, cells := 0, slots := 0, locals := 0 } : Room)) s m args below meth c H locs 0 0 Q (F0 m 2 ls []) := by
  obtain ⟨hx, hb, hml, hown, hts, hK, hA⟩ := id C0
  intro N
  induction N with
  | zero =>
    intro v_1 c_fr H locs ls hw
    exact False.elim hw
  | succ N ih =>
    intro v_1 c_fr H locs ls hw hP hD hS hl
    rw [lp_X3_putTurn_2] at hw
    refine lv_iload_n hx hb dX3_putTurn_2 rfl (lv_at hl 1 rfl) ?_
    refine lv_aload_n hx hb dX3_putTurn_3 rfl (lv_at hl 0 rfl) ?_
    refine va_get (D := D) (ci := 3) (v := .int c_n) (C := RX3) (T := TX3) (N := 19) hx hb hts k_X3_putTurn_X3 hown hK hP 0 rfl rfl 1 (by decide) (hts _ q_X3_putTurn_1) (fun _ h9 => h9) rfl dX3_putTurn_4 ?_
    refine lv_icmp_ge (tgt := 60) hx hb dX3_putTurn_7 (by decide) (fun c_1 => ?_) (fun c_1 => ?_)
    · replace hw := hw.1 c_1
      exact k60 _ _ _ _ _ hw hP hD hS (lv_sub hl [0] rfl)
    · replace hw := hw.2 c_1
      refine lv_aload_n hx hb dX3_putTurn_10 rfl (lv_at hl 0 rfl) ?_
      refine va_get (D := D) (ci := 3) (v := .ref a_fr) (C := RX3) (T := TX3) (N := 19) hx hb hts k_X3_putTurn_X3 hown hK hP 0 rfl rfl 5 (by decide) (hts _ q_X3_putTurn_2) (fun _ h9 => h9) rfl dX3_putTurn_11 ?_
      refine lv_bipush (v := 16) hx hb dX3_putTurn_14 (by decide) ?_
      refine lv_aload_n hx hb dX3_putTurn_16 rfl (lv_at hl 0 rfl) ?_
      refine va_get (D := D) (ci := 3) (v := .int c_tu) (C := RX3) (T := TX3) (N := 19) hx hb hts k_X3_putTurn_X3 hown hK hP 0 rfl rfl 2 (by decide) (hts _ q_X3_putTurn_3) (fun _ h9 => h9) rfl dX3_putTurn_17 ?_
      refine lv_imul hx hb dX3_putTurn_20 ?_
      refine lv_iload_n hx hb dX3_putTurn_21 rfl (lv_at hl 1 rfl) ?_
      refine lv_iadd hx hb dX3_putTurn_22 ?_
      refine lv_aload_n hx hb dX3_putTurn_23 rfl (lv_at hl 0 rfl) ?_
      refine va_get (D := D) (ci := 3) (v := .ref a_no) (C := RX3) (T := TX3) (N := 19) hx hb hts k_X3_putTurn_X3 hown hK hP 0 rfl rfl 8 (by decide) (hts _ q_X3_putTurn_4) (fun _ h9 => h9) rfl dX3_putTurn_24 ?_
      refine lv_iload_n hx hb dX3_putTurn_27 rfl (lv_at hl 1 rfl) ?_
      obtain ⟨h_2, hw⟩ := hw
      refine va_iald hx hb hK hP 2 0 rfl rfl h_2 dX3_putTurn_28 ?_
      obtain ⟨h_3, hw⟩ := hw
      refine va_iast hx hb hK hP hD hS 1 0 rfl rfl h_3 dX3_putTurn_29 (fun H locs hP hD hS => ?_)
      have hP : va_P D vwCl ([(a_this, .inr (3, [.int c_th, .int c_n, .int c_tu, .int c_al, .ref a_ro, .ref a_fr, .int c_le, .ref a_bu, .ref a_no, .ref a_te, .ref a_fa, .ref a_li, .int c_wa, .int c_re, .int c_us, .int c_di, .ref a_wy, .ref a_su, .long c_ha])), (a_fr, .inl (cy 0, 96, .inl (upd c_fr (((16 * c_tu) + v_1 : Int32).toNatClampNeg) (c_no (v_1 : Int32).toNatClampNeg)))), (a_no, .inl (cy 0, 8, .inl c_no))]) H := hP
      have hD : va_D A ([(a_this, .inr (3, [.int c_th, .int c_n, .int c_tu, .int c_al, .ref a_ro, .ref a_fr, .int c_le, .ref a_bu, .ref a_no, .ref a_te, .ref a_fa, .ref a_li, .int c_wa, .int c_re, .int c_us, .int c_di, .ref a_wy, .ref a_su, .long c_ha])), (a_fr, .inl (cy 0, 96, .inl (upd c_fr (((16 * c_tu) + v_1 : Int32).toNatClampNeg) (c_no (v_1 : Int32).toNatClampNeg)))), (a_no, .inl (cy 0, 8, .inl c_no))]) := hD
      refine lv_aload_n hx hb dX3_putTurn_30 rfl (lv_at hl 0 rfl) ?_
      refine va_get (D := D) (ci := 3) (v := .ref a_fr) (C := RX3) (T := TX3) (N := 19) hx hb hts k_X3_putTurn_X3 hown hK hP 0 rfl rfl 5 (by decide) (hts _ q_X3_putTurn_2) (fun _ h9 => h9) rfl dX3_putTurn_31 ?_
      refine lv_bipush (v := 8) hx hb dX3_putTurn_34 (by decide) ?_
      refine lv_iconst (v := 2) hx hb dX3_putTurn_36 (by decide) ?_
      refine lv_aload_n hx hb dX3_putTurn_37 rfl (lv_at hl 0 rfl) ?_
      refine va_get (D := D) (ci := 3) (v := .int c_tu) (C := RX3) (T := TX3) (N := 19) hx hb hts k_X3_putTurn_X3 hown hK hP 0 rfl rfl 2 (by decide) (hts _ q_X3_putTurn_3) (fun _ h9 => h9) rfl dX3_putTurn_38 ?_
      refine lv_imul hx hb dX3_putTurn_41 ?_
      refine lv_iconst (v := 1) hx hb dX3_putTurn_42 (by decide) ?_
      refine lv_iadd hx hb dX3_putTurn_43 ?_
      refine lv_imul hx hb dX3_putTurn_44 ?_
      refine lv_aload_n hx hb dX3_putTurn_45 rfl (lv_at hl 0 rfl) ?_
      refine va_get (D := D) (ci := 3) (v := .ref a_no) (C := RX3) (T := TX3) (N := 19) hx hb hts k_X3_putTurn_X3 hown hK hP 0 rfl rfl 8 (by decide) (hts _ q_X3_putTurn_4) (fun _ h9 => h9) rfl dX3_putTurn_46 ?_
      refine lv_iload_n hx hb dX3_putTurn_49 rfl (lv_at hl 1 rfl) ?_
      obtain ⟨h_4, hw⟩ := hw
      refine va_iald hx hb hK hP 2 0 rfl rfl h_4 dX3_putTurn_50 ?_
      refine lv_iadd hx hb dX3_putTurn_51 ?_
      refine lv_iload_n hx hb dX3_putTurn_52 rfl (lv_at hl 1 rfl) ?_
      obtain ⟨h_5, hw⟩ := hw
      refine va_iast hx hb hK hP hD hS 1 0 rfl rfl h_5 dX3_putTurn_53 (fun H locs hP hD hS => ?_)
      have hP : va_P D vwCl ([(a_this, .inr (3, [.int c_th, .int c_n, .int c_tu, .int c_al, .ref a_ro, .ref a_fr, .int c_le, .ref a_bu, .ref a_no, .ref a_te, .ref a_fa, .ref a_li, .int c_wa, .int c_re, .int c_us, .int c_di, .ref a_wy, .ref a_su, .long c_ha])), (a_fr, .inl (cy 0, 96, .inl (upd (upd c_fr (((16 * c_tu) + v_1 : Int32).toNatClampNeg) (c_no (v_1 : Int32).toNatClampNeg)) (((8 * ((2 * c_tu) + 1)) + (c_no (v_1 : Int32).toNatClampNeg) : Int32).toNatClampNeg) v_1))), (a_no, .inl (cy 0, 8, .inl c_no))]) H := hP
      have hD : va_D A ([(a_this, .inr (3, [.int c_th, .int c_n, .int c_tu, .int c_al, .ref a_ro, .ref a_fr, .int c_le, .ref a_bu, .ref a_no, .ref a_te, .ref a_fa, .ref a_li, .int c_wa, .int c_re, .int c_us, .int c_di, .ref a_wy, .ref a_su, .long c_ha])), (a_fr, .inl (cy 0, 96, .inl (upd (upd c_fr (((16 * c_tu) + v_1 : Int32).toNatClampNeg) (c_no (v_1 : Int32).toNatClampNeg)) (((8 * ((2 * c_tu) + 1)) + (c_no (v_1 : Int32).toNatClampNeg) : Int32).toNatClampNeg) v_1))), (a_no, .inl (cy 0, 8, .inl c_no))]) := hD
      refine lv_iinc (v := v_1 + 1) (lv' := [(1, .int (v_1 + 1)), (0, .ref a_this)]) hx hb dX3_putTurn_54 hl (k := 1) rfl rfl (by decide) rfl (fun ls hl => ?_)
      refine lv_goto (tgt := 2) hx hb dX3_putTurn_57 (by decide) ?_
      exact ih _ _ _ _ _ hw hP hD hS (lv_sub hl [1, 0] rfl)
def wp_X3_putTurn (c_n : Int32) (c_tu : Int32) (c_al : Int32) (c_fr : Nat → Int32) (c_no : Nat → Int32) (post : (Int32 × Int32 × (Nat → Int32)) → Prop) : Prop := (∃ N_6 : Nat, lp_X3_putTurn_2 c_n c_no c_tu (fun (v_7 : Int32) (c_8 : Nat → Int32) => (∀ x_9 : Int32, x_9 = c_al ||| (3 <<< ((2 * c_tu) &&& 31)) → (∀ x_10 : Int32, x_10 = c_tu + 1 → (post (x_10, x_9, c_8))))) N_6 0 c_fr)
set_option maxHeartbeats 4000000 in
set_option maxRecDepth 100000 in
theorem c_X3_putTurn (l : Launch) (D : va_G) (cy : Nat → ClassId) (a_this : Nat) (a_ro : Nat) (a_fr : Nat) (a_bu : Nat) (a_no : Nat) (a_te : Nat) (a_fa : Nat) (a_li : Nat) (a_wy : Nat) (a_su : Nat) (c_th : Int32) (c_n : Int32) (c_tu : Int32) (c_al : Int32) (c_le : Int32) (c_wa : Int32) (c_re : Int32) (c_us : Int32) (c_di : Int32) (c_ha : Int64) (c_fr : Nat → Int32) (c_no : Nat → Int32) {post : (Int32 × Int32 × (Nat → Int32)) → Prop} (hw : wp_X3_putTurn c_n c_tu c_al c_fr c_no post) (sz : Nat) : Met l yX3_putTurn wsX3_putTurn ({ frames := 0, cells := 0, slots := 0, locals := 0 }) (va_Pc [.ref a_this] (PreW D cy ([(a_this, .inr (3, [.int c_th, .int c_n, .int c_tu, .int c_al, .ref a_ro, .ref a_fr, .int c_le, .ref a_bu, .ref a_no, .ref a_te, .ref a_fa, .ref a_li, .int c_wa, .int c_re, .int c_us, .int c_di, .ref a_wy, .ref a_su, .long c_ha])), (a_fr, .inl (cy 0, 96, .inl c_fr)), (a_no, .inl (cy 0, 8, .inl c_no))]) sz)) (va_Qv post (fun u t => PostW D cy (va_A ([(a_this, .inr (3, [.int c_th, .int c_n, .int c_tu, .int c_al, .ref a_ro, .ref a_fr, .int c_le, .ref a_bu, .ref a_no, .ref a_te, .ref a_fa, .ref a_li, .int c_wa, .int c_re, .int c_us, .int c_di, .ref a_wy, .ref a_su, .long c_ha])), (a_fr, .inl (cy 0, 96, .inl c_fr)), (a_no, .inl (cy 0, 8, .inl c_no))]) sz) ([(a_this, .inr (3, [.int c_th, .int c_n, .int u.1, .int u.2.1, .ref a_ro, .ref a_fr, .int c_le, .ref a_bu, .ref a_no, .ref a_te, .ref a_fa, .ref a_li, .int c_wa, .int c_re, .int c_us, .int c_di, .ref a_wy, .ref a_su, .long c_ha])), (a_fr, .inl (cy 0, 96, .inl u.2.2)), (a_no, .inl (cy 0, 8, .inl c_no))]) t) (va_A ([(a_this, .inr (3, [.int c_th, .int c_n, .int c_tu, .int c_al, .ref a_ro, .ref a_fr, .int c_le, .ref a_bu, .ref a_no, .ref a_te, .ref a_fa, .ref a_li, .int c_wa, .int c_re, .int c_us, .int c_di, .ref a_wy, .ref a_su, .long c_ha])), (a_fr, .inl (cy 0, 96, .inl c_fr)), (a_no, .inl (cy 0, 8, .inl c_no))]) sz)) 0 0 (va_A ([(a_this, .inr (3, [.int c_th, .int c_n, .int c_tu, .int c_al, .ref a_ro, .ref a_fr, .int c_le, .ref a_bu, .ref a_no, .ref a_te, .ref a_fa, .ref a_li, .int c_wa, .int c_re, .int c_us, .int c_di, .ref a_wy, .ref a_su, .long c_ha])), (a_fr, .inl (cy 0, 96, .inl c_fr)), (a_no, .inl (cy 0, 8, .inl c_no))]) sz) := by
  refine j_met (Qc := fun A => va_Qv post (fun u t => PostW D cy A ([(a_this, .inr (3, [.int c_th, .int c_n, .int u.1, .int u.2.1, .ref a_ro, .ref a_fr, .int c_le, .ref a_bu, .ref a_no, .ref a_te, .ref a_fa, .ref a_li, .int c_wa, .int c_re, .int c_us, .int c_di, .ref a_wy, .ref a_su, .long c_ha])), (a_fr, .inl (cy 0, 96, .inl u.2.2)), (a_no, .inl (cy 0, 8, .inl c_no))]) t) A) (by decide +kernel) rfl (Nat.le_of_ble_eq_true rfl) ?_
  intro p e s m below meth c A ls C0 hr hlocks hP hD hS hl
  obtain ⟨hx, hb, hml, hown, hts, hK, hA⟩ := id C0
  have hown : s.vm.findClass RX3 = some m.cls := hown
  have hl : lv_has ls 2 [(0, .ref a_this)] := hl
  unfold wp_X3_putTurn at hw
  refine lv_iconst (v := 0) hx hb dX3_putTurn_0 (by decide) ?_
  refine lv_istore_n (lv' := [(1, .int 0), (0, .ref a_this)]) hx hb dX3_putTurn_1 rfl hl (by decide) rfl (fun ls hl => ?_)
  obtain ⟨N_6, hw⟩ := hw
  refine l_X3_putTurn_2 C0 (fun v_7 c_8 H locs ls hw hP hD hS hl => ?_) _ _ _ _ _ _ hw hP hD hS (lv_sub hl [1, 0] rfl)
  refine lv_aload_n hx hb dX3_putTurn_60 rfl (lv_at hl 0 rfl) ?_
  refine lv_dup hx hb dX3_putTurn_61 rfl ?_
  refine va_get (D := D) (ci := 3) (v := .int c_al) (C := RX3) (T := TX3) (N := 19) hx hb hts k_X3_putTurn_X3 hown hK hP 0 rfl rfl 3 (by decide) (hts _ q_X3_putTurn_5) (fun _ h9 => h9) rfl dX3_putTurn_62 ?_
  refine lv_iconst (v := 3) hx hb dX3_putTurn_65 (by decide) ?_
  refine lv_iconst (v := 2) hx hb dX3_putTurn_66 (by decide) ?_
  refine lv_aload_n hx hb dX3_putTurn_67 rfl (lv_at hl 0 rfl) ?_
  refine va_get (D := D) (ci := 3) (v := .int c_tu) (C := RX3) (T := TX3) (N := 19) hx hb hts k_X3_putTurn_X3 hown hK hP 0 rfl rfl 2 (by decide) (hts _ q_X3_putTurn_3) (fun _ h9 => h9) rfl dX3_putTurn_68 ?_
  refine lv_imul hx hb dX3_putTurn_71 ?_
  refine lv_ishl hx hb dX3_putTurn_72 ?_
  refine lv_ior hx hb dX3_putTurn_73 ?_
  refine lv_topi (fun x_9 ex_9 => ?_)
  replace hw := hw x_9 ex_9
  refine va_put (D := D) (ci := 3) (v := .int x_9) (ty := .int) (C := RX3) (T := TX3) (N := 19) hx hb hts k_X3_putTurn_X3 tyX3 tyX3_ok nmX3 hown hK hP hD hS 0 rfl rfl 3 (by decide) (hts _ q_X3_putTurn_5) (fun _ h9 => h9) rfl (by decide +kernel) rfl rfl (Nat.le_of_ble_eq_true rfl) dX3_putTurn_74 (fun H locs hP hD hS => ?_)
  have hP : va_P D vwCl ([(a_this, .inr (3, [.int c_th, .int c_n, .int c_tu, .int x_9, .ref a_ro, .ref a_fr, .int c_le, .ref a_bu, .ref a_no, .ref a_te, .ref a_fa, .ref a_li, .int c_wa, .int c_re, .int c_us, .int c_di, .ref a_wy, .ref a_su, .long c_ha])), (a_fr, .inl (cy 0, 96, .inl c_8)), (a_no, .inl (cy 0, 8, .inl c_no))]) H := hP
  have hD : va_D A ([(a_this, .inr (3, [.int c_th, .int c_n, .int c_tu, .int x_9, .ref a_ro, .ref a_fr, .int c_le, .ref a_bu, .ref a_no, .ref a_te, .ref a_fa, .ref a_li, .int c_wa, .int c_re, .int c_us, .int c_di, .ref a_wy, .ref a_su, .long c_ha])), (a_fr, .inl (cy 0, 96, .inl c_8)), (a_no, .inl (cy 0, 8, .inl c_no))]) := hD
  refine lv_aload_n hx hb dX3_putTurn_77 rfl (lv_at hl 0 rfl) ?_
  refine lv_dup hx hb dX3_putTurn_78 rfl ?_
  refine va_get (D := D) (ci := 3) (v := .int c_tu) (C := RX3) (T := TX3) (N := 19) hx hb hts k_X3_putTurn_X3 hown hK hP 0 rfl rfl 2 (by decide) (hts _ q_X3_putTurn_3) (fun _ h9 => h9) rfl dX3_putTurn_79 ?_
  refine lv_iconst (v := 1) hx hb dX3_putTurn_82 (by decide) ?_
  refine lv_iadd hx hb dX3_putTurn_83 ?_
  refine lv_topi (fun x_10 ex_10 => ?_)
  replace hw := hw x_10 ex_10
  refine va_put (D := D) (ci := 3) (v := .int x_10) (ty := .int) (C := RX3) (T := TX3) (N := 19) hx hb hts k_X3_putTurn_X3 tyX3 tyX3_ok nmX3 hown hK hP hD hS 0 rfl rfl 2 (by decide) (hts _ q_X3_putTurn_3) (fun _ h9 => h9) rfl (by decide +kernel) rfl rfl (Nat.le_of_ble_eq_true rfl) dX3_putTurn_84 (fun H locs hP hD hS => ?_)
  have hP : va_P D vwCl ([(a_this, .inr (3, [.int c_th, .int c_n, .int x_10, .int x_9, .ref a_ro, .ref a_fr, .int c_le, .ref a_bu, .ref a_no, .ref a_te, .ref a_fa, .ref a_li, .int c_wa, .int c_re, .int c_us, .int c_di, .ref a_wy, .ref a_su, .long c_ha])), (a_fr, .inl (cy 0, 96, .inl c_8)), (a_no, .inl (cy 0, 8, .inl c_no))]) H := hP
  have hD : va_D A ([(a_this, .inr (3, [.int c_th, .int c_n, .int x_10, .int x_9, .ref a_ro, .ref a_fr, .int c_le, .ref a_bu, .ref a_no, .ref a_te, .ref a_fa, .ref a_li, .int c_wa, .int c_re, .int c_us, .int c_di, .ref a_wy, .ref a_su, .long c_ha])), (a_fr, .inl (cy 0, 96, .inl c_8)), (a_no, .inl (cy 0, 8, .inl c_no))]) := hD
  exact j_vret (fun u => [(a_this, .inr (3, [.int c_th, .int c_n, .int u.1, .int u.2.1, .ref a_ro, .ref a_fr, .int c_le, .ref a_bu, .ref a_no, .ref a_te, .ref a_fa, .ref a_li, .int c_wa, .int c_re, .int c_us, .int c_di, .ref a_wy, .ref a_su, .long c_ha])), (a_fr, .inl (cy 0, 96, .inl u.2.2)), (a_no, .inl (cy 0, 8, .inl c_no))]) ((x_10, x_9, c_8) : Int32 × Int32 × (Nat → Int32)) hx hb hr hlocks hK hP hD hS hw dX3_putTurn_87
theorem q_X3_addTurn_2 : Cond.fieldLink RX3 46 "TwistedRowModel" "thrown" "I" ∈ wsX3_addTurn := List.mem_of_getElem? (i := 2) rfl
theorem k_X3_addTurn_X3 : ∀ w ∈ wsX30, w ∈ wsX3_addTurn := my_in _ [19, 20, 21, 22, 23, 24, 25, 26, 27, 28, 29, 30, 31, 32, 33, 34, 35, 36, 37] (by decide +kernel)
theorem q_X3_addTurn_3 : Cond.fieldLink RX3 7 "TwistedRowModel" "n" "I" ∈ wsX3_addTurn := List.mem_of_getElem? (i := 3) rfl
theorem q_X3_addTurn_4 : Cond.fieldLink RX3 23 "TwistedRowModel" "now" "[I" ∈ wsX3_addTurn := List.mem_of_getElem? (i := 4) rfl
theorem q_X3_addTurn_1 : Cond.fieldLink RX3 53 "TwistedRowModel" "turns" "I" ∈ wsX3_addTurn := List.mem_of_getElem? (i := 1) rfl
def lp_X3_addTurn_80 (c_n : Int32) (v_1 : Int32) (v_2 : Int32) (v_3 : Int32) (K172 : Int32 → (Nat → Int32) → Prop) : Nat → Int32 → (Nat → Int32) → Prop
  | 0, _, _ => False
  | N + 1, v_5, c_no => ((c_n ≤ v_5 → (K172 v_5 c_no)) ∧ (¬ c_n ≤ v_5 → (wp_X3_within v_5 v_2 v_3 (fun r_8 u_7 => ((¬ v_1 = 0 → ((¬ v_5 = v_2 → ((¬ v_1 = 1 → ((¬ v_5 = v_3 → ((r_8 = 0 → (vp_in v_5 8 ∧ (lp_X3_addTurn_80 c_n v_1 v_2 v_3 K172 N (v_5 + 1) (upd c_no ((v_5 : Int32).toNatClampNeg) v_5)))) ∧ (¬ r_8 = 0 → (vp_in v_5 8 ∧ (lp_X3_addTurn_80 c_n v_1 v_2 v_3 K172 N (v_5 + 1) (upd c_no ((v_5 : Int32).toNatClampNeg) v_5)))))) ∧ (v_5 = v_3 → ((r_8 = 0 → (vp_in v_5 8 ∧ (lp_X3_addTurn_80 c_n v_1 v_2 v_3 K172 N (v_5 + 1) (upd c_no ((v_5 : Int32).toNatClampNeg) v_5)))) ∧ (¬ r_8 = 0 → (vp_in v_5 8 ∧ (lp_X3_addTurn_80 c_n v_1 v_2 v_3 K172 N (v_5 + 1) (upd c_no ((v_5 : Int32).toNatClampNeg) v_2)))))))) ∧ (v_1 = 1 → (∀ x_19 : Int32, x_19 = v_5 - 1 → ((r_8 = 0 → (vp_in v_5 8 ∧ (lp_X3_addTurn_80 c_n v_1 v_2 v_3 K172 N (v_5 + 1) (upd c_no ((v_5 : Int32).toNatClampNeg) v_5)))) ∧ (¬ r_8 = 0 → (vp_in v_5 8 ∧ (lp_X3_addTurn_80 c_n v_1 v_2 v_3 K172 N (v_5 + 1) (upd c_no ((v_5 : Int32).toNatClampNeg) x_19))))))))) ∧ (v_5 = v_2 → ((r_8 = 0 → (vp_in v_5 8 ∧ (lp_X3_addTurn_80 c_n v_1 v_2 v_3 K172 N (v_5 + 1) (upd c_no ((v_5 : Int32).toNatClampNeg) v_5)))) ∧ (¬ r_8 = 0 → (vp_in v_5 8 ∧ (lp_X3_addTurn_80 c_n v_1 v_2 v_3 K172 N (v_5 + 1) (upd c_no ((v_5 : Int32).toNatClampNeg) v_3)))))))) ∧ (v_1 = 0 → (∀ x_26 : Int32, x_26 = (v_2 + v_3) - v_5 → ((r_8 = 0 → (vp_in v_5 8 ∧ (lp_X3_addTurn_80 c_n v_1 v_2 v_3 K172 N (v_5 + 1) (upd c_no ((v_5 : Int32).toNatClampNeg) v_5)))) ∧ (¬ r_8 = 0 → (vp_in v_5 8 ∧ (lp_X3_addTurn_80 c_n v_1 v_2 v_3 K172 N (v_5 + 1) (upd c_no ((v_5 : Int32).toNatClampNeg) x_26))))))))))))
set_option maxHeartbeats 4000000 in
set_option maxRecDepth 100000 in
theorem l_X3_addTurn_80 {p : Program} {l : Launch} {e : Env} {s : State} {m : MethodId} {args : Array Value} {below : List Frame} {meth : Method} {c : Code} {A : Nat → Prop} {D : va_G} {cy : Nat → ClassId} {Q : State → Prop} {a_this : Nat} {a_ro : Nat} {a_fr : Nat} {a_bu : Nat} {a_no : Nat} {a_te : Nat} {a_fa : Nat} {a_li : Nat} {a_wy : Nat} {a_su : Nat} {c_th : Int32} {c_n : Int32} {c_tu : Int32} {c_al : Int32} {c_le : Int32} {c_wa : Int32} {c_re : Int32} {c_us : Int32} {c_di : Int32} {c_ha : Int64} {c_fr : Nat → Int32} {v_1 : Int32} {v_2 : Int32} {v_3 : Int32} {K172 : Int32 → (Nat → Int32) → Prop} (C0 : Cx p s m args c cX3_addTurn yX3_addTurn.cls 8 wsX3_addTurn D cy A)
    (k172 : ∀ (v_5 : Int32) (c_no : Nat → Int32) (H : Heap) (locs : List Loc) (ls : Array Slot), K172 v_5 c_no → va_P D vwCl ([(a_this, .inr (3, [.int c_th, .int c_n, .int c_tu, .int c_al, .ref a_ro, .ref a_fr, .int c_le, .ref a_bu, .ref a_no, .ref a_te, .ref a_fa, .ref a_li, .int c_wa, .int c_re, .int c_us, .int c_di, .ref a_wy, .ref a_su, .long c_ha])), (a_fr, .inl (cy 0, 96, .inl c_fr)), (a_no, .inl (cy 0, 8, .inl c_no))]) H → va_D A ([(a_this, .inr (3, [.int c_th, .int c_n, .int c_tu, .int c_al, .ref a_ro, .ref a_fr, .int c_le, .ref a_bu, .ref a_no, .ref a_te, .ref a_fa, .ref a_li, .int c_wa, .int c_re, .int c_us, .int c_di, .ref a_wy, .ref a_su, .long c_ha])), (a_fr, .inl (cy 0, 96, .inl c_fr)), (a_no, .inl (cy 0, 8, .inl c_no))]) → va_S A s.heap H locs → lv_has ls 8 [(0, .ref a_this)] → W p l e (({ frames := 2, cells := 0, slots := 0, locals := 43 } : Room)) s m args below meth c H locs 0 0 Q (F0 m 172 ls [])) :
    ∀ (N : Nat) (v_5 : Int32) (c_no : Nat → Int32) (H : Heap) (locs : List Loc) (ls : Array Slot), lp_X3_addTurn_80 c_n v_1 v_2 v_3 K172 N v_5 c_no → va_P D vwCl ([(a_this, .inr (3, [.int c_th, .int c_n, .int c_tu, .int c_al, .ref a_ro, .ref a_fr, .int c_le, .ref a_bu, .ref a_no, .ref a_te, .ref a_fa, .ref a_li, .int c_wa, .int c_re, .int c_us, .int c_di, .ref a_wy, .ref a_su, .long c_ha])), (a_fr, .inl (cy 0, 96, .inl c_fr)), (a_no, .inl (cy 0, 8, .inl c_no))]) H → va_D A ([(a_this, .inr (3, [.int c_th, .int c_n, .int c_tu, .int c_al, .ref a_ro, .ref a_fr, .int c_le, .ref a_bu, .ref a_no, .ref a_te, .ref a_fa, .ref a_li, .int c_wa, .int c_re, .int c_us, .int c_di, .ref a_wy, .ref a_su, .long c_ha])), (a_fr, .inl (cy 0, 96, .inl c_fr)), (a_no, .inl (cy 0, 8, .inl c_no))]) → va_S A s.heap H locs → lv_has ls 8 [(0, .ref a_this), (1, .int v_1), (2, .int v_2), (3, .int v_3), (5, .int v_5)] → W p l e (({ frames := 2, cells := 0, slots := 0, locals := 43 } : Room)) s m args below meth c H locs 0 0 Q (F0 m 80 ls []) := by
  obtain ⟨hx, hb, hml, hown, hts, hK, hA⟩ := id C0
  intro N
  induction N with
  | zero =>
    intro v_5 c_no H locs ls hw
    exact False.elim hw
  | succ N ih =>
    intro v_5 c_no H locs ls hw hP hD hS hl
    rw [lp_X3_addTurn_80] at hw
    refine lv_iload hx hb dX3_addTurn_80 (lv_at hl 4 rfl) ?_
    refine lv_aload_n hx hb dX3_addTurn_82 rfl (lv_at hl 0 rfl) ?_
    refine va_get (D := D) (ci := 3) (v := .int c_n) (C := RX3) (T := TX3) (N := 19) hx hb hts k_X3_addTurn_X3 hown hK hP 0 rfl rfl 1 (by decide) (hts _ q_X3_addTurn_3) (fun _ h9 => h9) rfl dX3_addTurn_83 ?_
    refine lv_icmp_ge (tgt := 172) hx hb dX3_addTurn_86 (by decide) (fun c_6 => ?_) (fun c_6 => ?_)
    · replace hw := hw.1 c_6
      exact k172 _ _ _ _ _ hw hP hD hS (lv_sub hl [0] rfl)
    · replace hw := hw.2 c_6
      refine lv_iload hx hb dX3_addTurn_89 (lv_at hl 4 rfl) ?_
      refine lv_iload_n hx hb dX3_addTurn_91 rfl (lv_at hl 2 rfl) ?_
      refine lv_iload_n hx hb dX3_addTurn_92 rfl (lv_at hl 3 rfl) ?_
      refine j_calli (wr := [(a_this, .inr (3, [.int c_th, .int c_n, .int c_tu, .int c_al, .ref a_ro, .ref a_fr, .int c_le, .ref a_bu, .ref a_no, .ref a_te, .ref a_fa, .ref a_li, .int c_wa, .int c_re, .int c_us, .int c_di, .ref a_wy, .ref a_su, .long c_ha])), (a_fr, .inl (cy 0, 96, .inl c_fr)), (a_no, .inl (cy 0, 8, .inl c_no))]) (va_runS (As := [.int v_5, .int v_2, .int v_3]) (rest := []) ⟨hx, hb, hml, hown, hts⟩ (c_X3_within l D cy v_5 v_2 v_3 hw H.size) (va_cwS 3 hts gX3_addTurn_X3_within rfl rfl rfl (by decide +kernel) ⟨Nat.le_of_ble_eq_true rfl, Nat.le_of_ble_eq_true rfl⟩) (j_preS hK hP hD (isC := []) rfl (by decide +kernel)) rfl rfl hl.1 rfl (lv_room (Nat.le_of_ble_eq_true rfl)) dX3_addTurn_93 ⟨Nat.le_of_ble_eq_true rfl, Nat.le_of_ble_eq_true rfl⟩) hP hD hS hA [] [0, 1, 2] rfl rfl (by decide +kernel) (by decide +kernel) (fun u_7 => [(a_this, .inr (3, [.int c_th, .int c_n, .int c_tu, .int c_al, .ref a_ro, .ref a_fr, .int c_le, .ref a_bu, .ref a_no, .ref a_te, .ref a_fa, .ref a_li, .int c_wa, .int c_re, .int c_us, .int c_di, .ref a_wy, .ref a_su, .long c_ha])), (a_fr, .inl (cy 0, 96, .inl c_fr)), (a_no, .inl (cy 0, 8, .inl c_no))]) [0, 1, 2] (by decide +kernel) (fun u => rfl) (fun r_8 u_7 H locs hw hP hD hS => ?_)
      have hP : va_P D vwCl ([(a_this, .inr (3, [.int c_th, .int c_n, .int c_tu, .int c_al, .ref a_ro, .ref a_fr, .int c_le, .ref a_bu, .ref a_no, .ref a_te, .ref a_fa, .ref a_li, .int c_wa, .int c_re, .int c_us, .int c_di, .ref a_wy, .ref a_su, .long c_ha])), (a_fr, .inl (cy 0, 96, .inl c_fr)), (a_no, .inl (cy 0, 8, .inl c_no))]) H := hP
      have hD : va_D A ([(a_this, .inr (3, [.int c_th, .int c_n, .int c_tu, .int c_al, .ref a_ro, .ref a_fr, .int c_le, .ref a_bu, .ref a_no, .ref a_te, .ref a_fa, .ref a_li, .int c_wa, .int c_re, .int c_us, .int c_di, .ref a_wy, .ref a_su, .long c_ha])), (a_fr, .inl (cy 0, 96, .inl c_fr)), (a_no, .inl (cy 0, 8, .inl c_no))]) := hD
      refine lv_istore (lv' := [(6, .int r_8), (0, .ref a_this), (1, .int v_1), (2, .int v_2), (3, .int v_3), (5, .int v_5)]) hx hb dX3_addTurn_96 hl (by decide) rfl (fun ls hl => ?_)
      refine lv_iload_n hx hb dX3_addTurn_98 rfl (lv_at hl 2 rfl) ?_
      refine lv_if_ne (tgt := 111) hx hb dX3_addTurn_99 (by decide) (fun c_9 => ?_) (fun c_9 => ?_)
      · replace hw := hw.1 c_9
        refine lv_iload hx hb dX3_addTurn_111 (lv_at hl 5 rfl) ?_
        refine lv_iload_n hx hb dX3_addTurn_113 rfl (lv_at hl 3 rfl) ?_
        refine lv_icmp_ne (tgt := 121) hx hb dX3_addTurn_114 (by decide) (fun c_10 => ?_) (fun c_10 => ?_)
        · replace hw := hw.1 c_10
          refine lv_iload_n hx hb dX3_addTurn_121 rfl (lv_at hl 2 rfl) ?_
          refine lv_iconst (v := 1) hx hb dX3_addTurn_122 (by decide) ?_
          refine lv_icmp_ne (tgt := 133) hx hb dX3_addTurn_123 (by decide) (fun c_11 => ?_) (fun c_11 => ?_)
          · replace hw := hw.1 c_11
            refine lv_iload hx hb dX3_addTurn_133 (lv_at hl 5 rfl) ?_
            refine lv_iload_n hx hb dX3_addTurn_135 rfl (lv_at hl 4 rfl) ?_
            refine lv_icmp_ne (tgt := 143) hx hb dX3_addTurn_136 (by decide) (fun c_12 => ?_) (fun c_12 => ?_)
            · replace hw := hw.1 c_12
              refine lv_iload hx hb dX3_addTurn_143 (lv_at hl 5 rfl) ?_
              refine lv_istore (lv' := [(7, .int v_5), (6, .int r_8), (0, .ref a_this), (1, .int v_1), (2, .int v_2), (3, .int v_3), (5, .int v_5)]) hx hb dX3_addTurn_145 hl (by decide) rfl (fun ls hl => ?_)
              refine lv_aload_n hx hb dX3_addTurn_147 rfl (lv_at hl 2 rfl) ?_
              refine va_get (D := D) (ci := 3) (v := .ref a_no) (C := RX3) (T := TX3) (N := 19) hx hb hts k_X3_addTurn_X3 hown hK hP 0 rfl rfl 8 (by decide) (hts _ q_X3_addTurn_4) (fun _ h9 => h9) rfl dX3_addTurn_148 ?_
              refine lv_iload hx hb dX3_addTurn_151 (lv_at hl 6 rfl) ?_
              refine lv_iload hx hb dX3_addTurn_153 (lv_at hl 1 rfl) ?_
              refine lv_if_eq (tgt := 163) hx hb dX3_addTurn_155 (by decide) (fun c_13 => ?_) (fun c_13 => ?_)
              · replace hw := hw.1 c_13
                refine lv_iload hx hb dX3_addTurn_163 (lv_at hl 6 rfl) ?_
                obtain ⟨h_14, hw⟩ := hw
                refine va_iast hx hb hK hP hD hS 2 0 rfl rfl h_14 dX3_addTurn_165 (fun H locs hP hD hS => ?_)
                have hP : va_P D vwCl ([(a_this, .inr (3, [.int c_th, .int c_n, .int c_tu, .int c_al, .ref a_ro, .ref a_fr, .int c_le, .ref a_bu, .ref a_no, .ref a_te, .ref a_fa, .ref a_li, .int c_wa, .int c_re, .int c_us, .int c_di, .ref a_wy, .ref a_su, .long c_ha])), (a_fr, .inl (cy 0, 96, .inl c_fr)), (a_no, .inl (cy 0, 8, .inl (upd c_no ((v_5 : Int32).toNatClampNeg) v_5)))]) H := hP
                have hD : va_D A ([(a_this, .inr (3, [.int c_th, .int c_n, .int c_tu, .int c_al, .ref a_ro, .ref a_fr, .int c_le, .ref a_bu, .ref a_no, .ref a_te, .ref a_fa, .ref a_li, .int c_wa, .int c_re, .int c_us, .int c_di, .ref a_wy, .ref a_su, .long c_ha])), (a_fr, .inl (cy 0, 96, .inl c_fr)), (a_no, .inl (cy 0, 8, .inl (upd c_no ((v_5 : Int32).toNatClampNeg) v_5)))]) := hD
                refine lv_iinc (v := v_5 + 1) (lv' := [(5, .int (v_5 + 1)), (7, .int v_5), (6, .int r_8), (0, .ref a_this), (1, .int v_1), (2, .int v_2), (3, .int v_3)]) hx hb dX3_addTurn_166 hl (k := 6) rfl rfl (by decide) rfl (fun ls hl => ?_)
                refine lv_goto (tgt := 80) hx hb dX3_addTurn_169 (by decide) ?_
                exact ih _ _ _ _ _ hw hP hD hS (lv_sub hl [3, 4, 5, 6, 0] rfl)
              · replace hw := hw.2 c_13
                refine lv_iload hx hb dX3_addTurn_158 (lv_at hl 0 rfl) ?_
                refine lv_goto (tgt := 165) hx hb dX3_addTurn_160 (by decide) ?_
                obtain ⟨h_15, hw⟩ := hw
                refine va_iast hx hb hK hP hD hS 2 0 rfl rfl h_15 dX3_addTurn_165 (fun H locs hP hD hS => ?_)
                have hP : va_P D vwCl ([(a_this, .inr (3, [.int c_th, .int c_n, .int c_tu, .int c_al, .ref a_ro, .ref a_fr, .int c_le, .ref a_bu, .ref a_no, .ref a_te, .ref a_fa, .ref a_li, .int c_wa, .int c_re, .int c_us, .int c_di, .ref a_wy, .ref a_su, .long c_ha])), (a_fr, .inl (cy 0, 96, .inl c_fr)), (a_no, .inl (cy 0, 8, .inl (upd c_no ((v_5 : Int32).toNatClampNeg) v_5)))]) H := hP
                have hD : va_D A ([(a_this, .inr (3, [.int c_th, .int c_n, .int c_tu, .int c_al, .ref a_ro, .ref a_fr, .int c_le, .ref a_bu, .ref a_no, .ref a_te, .ref a_fa, .ref a_li, .int c_wa, .int c_re, .int c_us, .int c_di, .ref a_wy, .ref a_su, .long c_ha])), (a_fr, .inl (cy 0, 96, .inl c_fr)), (a_no, .inl (cy 0, 8, .inl (upd c_no ((v_5 : Int32).toNatClampNeg) v_5)))]) := hD
                refine lv_iinc (v := v_5 + 1) (lv' := [(5, .int (v_5 + 1)), (7, .int v_5), (6, .int r_8), (0, .ref a_this), (1, .int v_1), (2, .int v_2), (3, .int v_3)]) hx hb dX3_addTurn_166 hl (k := 6) rfl rfl (by decide) rfl (fun ls hl => ?_)
                refine lv_goto (tgt := 80) hx hb dX3_addTurn_169 (by decide) ?_
                exact ih _ _ _ _ _ hw hP hD hS (lv_sub hl [3, 4, 5, 6, 0] rfl)
            · replace hw := hw.2 c_12
              refine lv_iload_n hx hb dX3_addTurn_139 rfl (lv_at hl 3 rfl) ?_
              refine lv_goto (tgt := 145) hx hb dX3_addTurn_140 (by decide) ?_
              refine lv_istore (lv' := [(7, .int v_2), (6, .int r_8), (0, .ref a_this), (1, .int v_1), (2, .int v_2), (3, .int v_3), (5, .int v_5)]) hx hb dX3_addTurn_145 hl (by decide) rfl (fun ls hl => ?_)
              refine lv_aload_n hx hb dX3_addTurn_147 rfl (lv_at hl 2 rfl) ?_
              refine va_get (D := D) (ci := 3) (v := .ref a_no) (C := RX3) (T := TX3) (N := 19) hx hb hts k_X3_addTurn_X3 hown hK hP 0 rfl rfl 8 (by decide) (hts _ q_X3_addTurn_4) (fun _ h9 => h9) rfl dX3_addTurn_148 ?_
              refine lv_iload hx hb dX3_addTurn_151 (lv_at hl 6 rfl) ?_
              refine lv_iload hx hb dX3_addTurn_153 (lv_at hl 1 rfl) ?_
              refine lv_if_eq (tgt := 163) hx hb dX3_addTurn_155 (by decide) (fun c_16 => ?_) (fun c_16 => ?_)
              · replace hw := hw.1 c_16
                refine lv_iload hx hb dX3_addTurn_163 (lv_at hl 6 rfl) ?_
                obtain ⟨h_17, hw⟩ := hw
                refine va_iast hx hb hK hP hD hS 2 0 rfl rfl h_17 dX3_addTurn_165 (fun H locs hP hD hS => ?_)
                have hP : va_P D vwCl ([(a_this, .inr (3, [.int c_th, .int c_n, .int c_tu, .int c_al, .ref a_ro, .ref a_fr, .int c_le, .ref a_bu, .ref a_no, .ref a_te, .ref a_fa, .ref a_li, .int c_wa, .int c_re, .int c_us, .int c_di, .ref a_wy, .ref a_su, .long c_ha])), (a_fr, .inl (cy 0, 96, .inl c_fr)), (a_no, .inl (cy 0, 8, .inl (upd c_no ((v_5 : Int32).toNatClampNeg) v_5)))]) H := hP
                have hD : va_D A ([(a_this, .inr (3, [.int c_th, .int c_n, .int c_tu, .int c_al, .ref a_ro, .ref a_fr, .int c_le, .ref a_bu, .ref a_no, .ref a_te, .ref a_fa, .ref a_li, .int c_wa, .int c_re, .int c_us, .int c_di, .ref a_wy, .ref a_su, .long c_ha])), (a_fr, .inl (cy 0, 96, .inl c_fr)), (a_no, .inl (cy 0, 8, .inl (upd c_no ((v_5 : Int32).toNatClampNeg) v_5)))]) := hD
                refine lv_iinc (v := v_5 + 1) (lv' := [(5, .int (v_5 + 1)), (7, .int v_2), (6, .int r_8), (0, .ref a_this), (1, .int v_1), (2, .int v_2), (3, .int v_3)]) hx hb dX3_addTurn_166 hl (k := 6) rfl rfl (by decide) rfl (fun ls hl => ?_)
                refine lv_goto (tgt := 80) hx hb dX3_addTurn_169 (by decide) ?_
                exact ih _ _ _ _ _ hw hP hD hS (lv_sub hl [3, 4, 5, 6, 0] rfl)
              · replace hw := hw.2 c_16
                refine lv_iload hx hb dX3_addTurn_158 (lv_at hl 0 rfl) ?_
                refine lv_goto (tgt := 165) hx hb dX3_addTurn_160 (by decide) ?_
                obtain ⟨h_18, hw⟩ := hw
                refine va_iast hx hb hK hP hD hS 2 0 rfl rfl h_18 dX3_addTurn_165 (fun H locs hP hD hS => ?_)
                have hP : va_P D vwCl ([(a_this, .inr (3, [.int c_th, .int c_n, .int c_tu, .int c_al, .ref a_ro, .ref a_fr, .int c_le, .ref a_bu, .ref a_no, .ref a_te, .ref a_fa, .ref a_li, .int c_wa, .int c_re, .int c_us, .int c_di, .ref a_wy, .ref a_su, .long c_ha])), (a_fr, .inl (cy 0, 96, .inl c_fr)), (a_no, .inl (cy 0, 8, .inl (upd c_no ((v_5 : Int32).toNatClampNeg) v_2)))]) H := hP
                have hD : va_D A ([(a_this, .inr (3, [.int c_th, .int c_n, .int c_tu, .int c_al, .ref a_ro, .ref a_fr, .int c_le, .ref a_bu, .ref a_no, .ref a_te, .ref a_fa, .ref a_li, .int c_wa, .int c_re, .int c_us, .int c_di, .ref a_wy, .ref a_su, .long c_ha])), (a_fr, .inl (cy 0, 96, .inl c_fr)), (a_no, .inl (cy 0, 8, .inl (upd c_no ((v_5 : Int32).toNatClampNeg) v_2)))]) := hD
                refine lv_iinc (v := v_5 + 1) (lv' := [(5, .int (v_5 + 1)), (7, .int v_2), (6, .int r_8), (0, .ref a_this), (1, .int v_1), (2, .int v_2), (3, .int v_3)]) hx hb dX3_addTurn_166 hl (k := 6) rfl rfl (by decide) rfl (fun ls hl => ?_)
                refine lv_goto (tgt := 80) hx hb dX3_addTurn_169 (by decide) ?_
                exact ih _ _ _ _ _ hw hP hD hS (lv_sub hl [3, 4, 5, 6, 0] rfl)
          · replace hw := hw.2 c_11
            refine lv_iload hx hb dX3_addTurn_126 (lv_at hl 5 rfl) ?_
            refine lv_iconst (v := 1) hx hb dX3_addTurn_128 (by decide) ?_
            refine lv_isub hx hb dX3_addTurn_129 ?_
            refine lv_goto (tgt := 145) hx hb dX3_addTurn_130 (by decide) ?_
            refine lv_topi (fun x_19 ex_19 => ?_)
            replace hw := hw x_19 ex_19
            refine lv_istore (lv' := [(7, .int x_19), (6, .int r_8), (0, .ref a_this), (1, .int v_1), (2, .int v_2), (3, .int v_3), (5, .int v_5)]) hx hb dX3_addTurn_145 hl (by decide) rfl (fun ls hl => ?_)
            refine lv_aload_n hx hb dX3_addTurn_147 rfl (lv_at hl 2 rfl) ?_
            refine va_get (D := D) (ci := 3) (v := .ref a_no) (C := RX3) (T := TX3) (N := 19) hx hb hts k_X3_addTurn_X3 hown hK hP 0 rfl rfl 8 (by decide) (hts _ q_X3_addTurn_4) (fun _ h9 => h9) rfl dX3_addTurn_148 ?_
            refine lv_iload hx hb dX3_addTurn_151 (lv_at hl 6 rfl) ?_
            refine lv_iload hx hb dX3_addTurn_153 (lv_at hl 1 rfl) ?_
            refine lv_if_eq (tgt := 163) hx hb dX3_addTurn_155 (by decide) (fun c_20 => ?_) (fun c_20 => ?_)
            · replace hw := hw.1 c_20
              refine lv_iload hx hb dX3_addTurn_163 (lv_at hl 6 rfl) ?_
              obtain ⟨h_21, hw⟩ := hw
              refine va_iast hx hb hK hP hD hS 2 0 rfl rfl h_21 dX3_addTurn_165 (fun H locs hP hD hS => ?_)
              have hP : va_P D vwCl ([(a_this, .inr (3, [.int c_th, .int c_n, .int c_tu, .int c_al, .ref a_ro, .ref a_fr, .int c_le, .ref a_bu, .ref a_no, .ref a_te, .ref a_fa, .ref a_li, .int c_wa, .int c_re, .int c_us, .int c_di, .ref a_wy, .ref a_su, .long c_ha])), (a_fr, .inl (cy 0, 96, .inl c_fr)), (a_no, .inl (cy 0, 8, .inl (upd c_no ((v_5 : Int32).toNatClampNeg) v_5)))]) H := hP
              have hD : va_D A ([(a_this, .inr (3, [.int c_th, .int c_n, .int c_tu, .int c_al, .ref a_ro, .ref a_fr, .int c_le, .ref a_bu, .ref a_no, .ref a_te, .ref a_fa, .ref a_li, .int c_wa, .int c_re, .int c_us, .int c_di, .ref a_wy, .ref a_su, .long c_ha])), (a_fr, .inl (cy 0, 96, .inl c_fr)), (a_no, .inl (cy 0, 8, .inl (upd c_no ((v_5 : Int32).toNatClampNeg) v_5)))]) := hD
              refine lv_iinc (v := v_5 + 1) (lv' := [(5, .int (v_5 + 1)), (7, .int x_19), (6, .int r_8), (0, .ref a_this), (1, .int v_1), (2, .int v_2), (3, .int v_3)]) hx hb dX3_addTurn_166 hl (k := 6) rfl rfl (by decide) rfl (fun ls hl => ?_)
              refine lv_goto (tgt := 80) hx hb dX3_addTurn_169 (by decide) ?_
              exact ih _ _ _ _ _ hw hP hD hS (lv_sub hl [3, 4, 5, 6, 0] rfl)
            · replace hw := hw.2 c_20
              refine lv_iload hx hb dX3_addTurn_158 (lv_at hl 0 rfl) ?_
              refine lv_goto (tgt := 165) hx hb dX3_addTurn_160 (by decide) ?_
              obtain ⟨h_22, hw⟩ := hw
              refine va_iast hx hb hK hP hD hS 2 0 rfl rfl h_22 dX3_addTurn_165 (fun H locs hP hD hS => ?_)
              have hP : va_P D vwCl ([(a_this, .inr (3, [.int c_th, .int c_n, .int c_tu, .int c_al, .ref a_ro, .ref a_fr, .int c_le, .ref a_bu, .ref a_no, .ref a_te, .ref a_fa, .ref a_li, .int c_wa, .int c_re, .int c_us, .int c_di, .ref a_wy, .ref a_su, .long c_ha])), (a_fr, .inl (cy 0, 96, .inl c_fr)), (a_no, .inl (cy 0, 8, .inl (upd c_no ((v_5 : Int32).toNatClampNeg) x_19)))]) H := hP
              have hD : va_D A ([(a_this, .inr (3, [.int c_th, .int c_n, .int c_tu, .int c_al, .ref a_ro, .ref a_fr, .int c_le, .ref a_bu, .ref a_no, .ref a_te, .ref a_fa, .ref a_li, .int c_wa, .int c_re, .int c_us, .int c_di, .ref a_wy, .ref a_su, .long c_ha])), (a_fr, .inl (cy 0, 96, .inl c_fr)), (a_no, .inl (cy 0, 8, .inl (upd c_no ((v_5 : Int32).toNatClampNeg) x_19)))]) := hD
              refine lv_iinc (v := v_5 + 1) (lv' := [(5, .int (v_5 + 1)), (7, .int x_19), (6, .int r_8), (0, .ref a_this), (1, .int v_1), (2, .int v_2), (3, .int v_3)]) hx hb dX3_addTurn_166 hl (k := 6) rfl rfl (by decide) rfl (fun ls hl => ?_)
              refine lv_goto (tgt := 80) hx hb dX3_addTurn_169 (by decide) ?_
              exact ih _ _ _ _ _ hw hP hD hS (lv_sub hl [3, 4, 5, 6, 0] rfl)
        · replace hw := hw.2 c_10
          refine lv_iload_n hx hb dX3_addTurn_117 rfl (lv_at hl 4 rfl) ?_
          refine lv_goto (tgt := 145) hx hb dX3_addTurn_118 (by decide) ?_
          refine lv_istore (lv' := [(7, .int v_3), (6, .int r_8), (0, .ref a_this), (1, .int v_1), (2, .int v_2), (3, .int v_3), (5, .int v_5)]) hx hb dX3_addTurn_145 hl (by decide) rfl (fun ls hl => ?_)
          refine lv_aload_n hx hb dX3_addTurn_147 rfl (lv_at hl 2 rfl) ?_
          refine va_get (D := D) (ci := 3) (v := .ref a_no) (C := RX3) (T := TX3) (N := 19) hx hb hts k_X3_addTurn_X3 hown hK hP 0 rfl rfl 8 (by decide) (hts _ q_X3_addTurn_4) (fun _ h9 => h9) rfl dX3_addTurn_148 ?_
          refine lv_iload hx hb dX3_addTurn_151 (lv_at hl 6 rfl) ?_
          refine lv_iload hx hb dX3_addTurn_153 (lv_at hl 1 rfl) ?_
          refine lv_if_eq (tgt := 163) hx hb dX3_addTurn_155 (by decide) (fun c_23 => ?_) (fun c_23 => ?_)
          · replace hw := hw.1 c_23
            refine lv_iload hx hb dX3_addTurn_163 (lv_at hl 6 rfl) ?_
            obtain ⟨h_24, hw⟩ := hw
            refine va_iast hx hb hK hP hD hS 2 0 rfl rfl h_24 dX3_addTurn_165 (fun H locs hP hD hS => ?_)
            have hP : va_P D vwCl ([(a_this, .inr (3, [.int c_th, .int c_n, .int c_tu, .int c_al, .ref a_ro, .ref a_fr, .int c_le, .ref a_bu, .ref a_no, .ref a_te, .ref a_fa, .ref a_li, .int c_wa, .int c_re, .int c_us, .int c_di, .ref a_wy, .ref a_su, .long c_ha])), (a_fr, .inl (cy 0, 96, .inl c_fr)), (a_no, .inl (cy 0, 8, .inl (upd c_no ((v_5 : Int32).toNatClampNeg) v_5)))]) H := hP
            have hD : va_D A ([(a_this, .inr (3, [.int c_th, .int c_n, .int c_tu, .int c_al, .ref a_ro, .ref a_fr, .int c_le, .ref a_bu, .ref a_no, .ref a_te, .ref a_fa, .ref a_li, .int c_wa, .int c_re, .int c_us, .int c_di, .ref a_wy, .ref a_su, .long c_ha])), (a_fr, .inl (cy 0, 96, .inl c_fr)), (a_no, .inl (cy 0, 8, .inl (upd c_no ((v_5 : Int32).toNatClampNeg) v_5)))]) := hD
            refine lv_iinc (v := v_5 + 1) (lv' := [(5, .int (v_5 + 1)), (7, .int v_3), (6, .int r_8), (0, .ref a_this), (1, .int v_1), (2, .int v_2), (3, .int v_3)]) hx hb dX3_addTurn_166 hl (k := 6) rfl rfl (by decide) rfl (fun ls hl => ?_)
            refine lv_goto (tgt := 80) hx hb dX3_addTurn_169 (by decide) ?_
            exact ih _ _ _ _ _ hw hP hD hS (lv_sub hl [3, 4, 5, 6, 0] rfl)
          · replace hw := hw.2 c_23
            refine lv_iload hx hb dX3_addTurn_158 (lv_at hl 0 rfl) ?_
            refine lv_goto (tgt := 165) hx hb dX3_addTurn_160 (by decide) ?_
            obtain ⟨h_25, hw⟩ := hw
            refine va_iast hx hb hK hP hD hS 2 0 rfl rfl h_25 dX3_addTurn_165 (fun H locs hP hD hS => ?_)
            have hP : va_P D vwCl ([(a_this, .inr (3, [.int c_th, .int c_n, .int c_tu, .int c_al, .ref a_ro, .ref a_fr, .int c_le, .ref a_bu, .ref a_no, .ref a_te, .ref a_fa, .ref a_li, .int c_wa, .int c_re, .int c_us, .int c_di, .ref a_wy, .ref a_su, .long c_ha])), (a_fr, .inl (cy 0, 96, .inl c_fr)), (a_no, .inl (cy 0, 8, .inl (upd c_no ((v_5 : Int32).toNatClampNeg) v_3)))]) H := hP
            have hD : va_D A ([(a_this, .inr (3, [.int c_th, .int c_n, .int c_tu, .int c_al, .ref a_ro, .ref a_fr, .int c_le, .ref a_bu, .ref a_no, .ref a_te, .ref a_fa, .ref a_li, .int c_wa, .int c_re, .int c_us, .int c_di, .ref a_wy, .ref a_su, .long c_ha])), (a_fr, .inl (cy 0, 96, .inl c_fr)), (a_no, .inl (cy 0, 8, .inl (upd c_no ((v_5 : Int32).toNatClampNeg) v_3)))]) := hD
            refine lv_iinc (v := v_5 + 1) (lv' := [(5, .int (v_5 + 1)), (7, .int v_3), (6, .int r_8), (0, .ref a_this), (1, .int v_1), (2, .int v_2), (3, .int v_3)]) hx hb dX3_addTurn_166 hl (k := 6) rfl rfl (by decide) rfl (fun ls hl => ?_)
            refine lv_goto (tgt := 80) hx hb dX3_addTurn_169 (by decide) ?_
            exact ih _ _ _ _ _ hw hP hD hS (lv_sub hl [3, 4, 5, 6, 0] rfl)
      · replace hw := hw.2 c_9
        refine lv_iload_n hx hb dX3_addTurn_102 rfl (lv_at hl 3 rfl) ?_
        refine lv_iload_n hx hb dX3_addTurn_103 rfl (lv_at hl 4 rfl) ?_
        refine lv_iadd hx hb dX3_addTurn_104 ?_
        refine lv_iload hx hb dX3_addTurn_105 (lv_at hl 5 rfl) ?_
        refine lv_isub hx hb dX3_addTurn_107 ?_
        refine lv_goto (tgt := 145) hx hb dX3_addTurn_108 (by decide) ?_
        refine lv_topi (fun x_26 ex_26 => ?_)
        replace hw := hw x_26 ex_26
        refine lv_istore (lv' := [(7, .int x_26), (6, .int r_8), (0, .ref a_this), (1, .int v_1), (2, .int v_2), (3, .int v_3), (5, .int v_5)]) hx hb dX3_addTurn_145 hl (by decide) rfl (fun ls hl => ?_)
        refine lv_aload_n hx hb dX3_addTurn_147 rfl (lv_at hl 2 rfl) ?_
        refine va_get (D := D) (ci := 3) (v := .ref a_no) (C := RX3) (T := TX3) (N := 19) hx hb hts k_X3_addTurn_X3 hown hK hP 0 rfl rfl 8 (by decide) (hts _ q_X3_addTurn_4) (fun _ h9 => h9) rfl dX3_addTurn_148 ?_
        refine lv_iload hx hb dX3_addTurn_151 (lv_at hl 6 rfl) ?_
        refine lv_iload hx hb dX3_addTurn_153 (lv_at hl 1 rfl) ?_
        refine lv_if_eq (tgt := 163) hx hb dX3_addTurn_155 (by decide) (fun c_27 => ?_) (fun c_27 => ?_)
        · replace hw := hw.1 c_27
          refine lv_iload hx hb dX3_addTurn_163 (lv_at hl 6 rfl) ?_
          obtain ⟨h_28, hw⟩ := hw
          refine va_iast hx hb hK hP hD hS 2 0 rfl rfl h_28 dX3_addTurn_165 (fun H locs hP hD hS => ?_)
          have hP : va_P D vwCl ([(a_this, .inr (3, [.int c_th, .int c_n, .int c_tu, .int c_al, .ref a_ro, .ref a_fr, .int c_le, .ref a_bu, .ref a_no, .ref a_te, .ref a_fa, .ref a_li, .int c_wa, .int c_re, .int c_us, .int c_di, .ref a_wy, .ref a_su, .long c_ha])), (a_fr, .inl (cy 0, 96, .inl c_fr)), (a_no, .inl (cy 0, 8, .inl (upd c_no ((v_5 : Int32).toNatClampNeg) v_5)))]) H := hP
          have hD : va_D A ([(a_this, .inr (3, [.int c_th, .int c_n, .int c_tu, .int c_al, .ref a_ro, .ref a_fr, .int c_le, .ref a_bu, .ref a_no, .ref a_te, .ref a_fa, .ref a_li, .int c_wa, .int c_re, .int c_us, .int c_di, .ref a_wy, .ref a_su, .long c_ha])), (a_fr, .inl (cy 0, 96, .inl c_fr)), (a_no, .inl (cy 0, 8, .inl (upd c_no ((v_5 : Int32).toNatClampNeg) v_5)))]) := hD
          refine lv_iinc (v := v_5 + 1) (lv' := [(5, .int (v_5 + 1)), (7, .int x_26), (6, .int r_8), (0, .ref a_this), (1, .int v_1), (2, .int v_2), (3, .int v_3)]) hx hb dX3_addTurn_166 hl (k := 6) rfl rfl (by decide) rfl (fun ls hl => ?_)
          refine lv_goto (tgt := 80) hx hb dX3_addTurn_169 (by decide) ?_
          exact ih _ _ _ _ _ hw hP hD hS (lv_sub hl [3, 4, 5, 6, 0] rfl)
        · replace hw := hw.2 c_27
          refine lv_iload hx hb dX3_addTurn_158 (lv_at hl 0 rfl) ?_
          refine lv_goto (tgt := 165) hx hb dX3_addTurn_160 (by decide) ?_
          obtain ⟨h_29, hw⟩ := hw
          refine va_iast hx hb hK hP hD hS 2 0 rfl rfl h_29 dX3_addTurn_165 (fun H locs hP hD hS => ?_)
          have hP : va_P D vwCl ([(a_this, .inr (3, [.int c_th, .int c_n, .int c_tu, .int c_al, .ref a_ro, .ref a_fr, .int c_le, .ref a_bu, .ref a_no, .ref a_te, .ref a_fa, .ref a_li, .int c_wa, .int c_re, .int c_us, .int c_di, .ref a_wy, .ref a_su, .long c_ha])), (a_fr, .inl (cy 0, 96, .inl c_fr)), (a_no, .inl (cy 0, 8, .inl (upd c_no ((v_5 : Int32).toNatClampNeg) x_26)))]) H := hP
          have hD : va_D A ([(a_this, .inr (3, [.int c_th, .int c_n, .int c_tu, .int c_al, .ref a_ro, .ref a_fr, .int c_le, .ref a_bu, .ref a_no, .ref a_te, .ref a_fa, .ref a_li, .int c_wa, .int c_re, .int c_us, .int c_di, .ref a_wy, .ref a_su, .long c_ha])), (a_fr, .inl (cy 0, 96, .inl c_fr)), (a_no, .inl (cy 0, 8, .inl (upd c_no ((v_5 : Int32).toNatClampNeg) x_26)))]) := hD
          refine lv_iinc (v := v_5 + 1) (lv' := [(5, .int (v_5 + 1)), (7, .int x_26), (6, .int r_8), (0, .ref a_this), (1, .int v_1), (2, .int v_2), (3, .int v_3)]) hx hb dX3_addTurn_166 hl (k := 6) rfl rfl (by decide) rfl (fun ls hl => ?_)
          refine lv_goto (tgt := 80) hx hb dX3_addTurn_169 (by decide) ?_
          exact ih _ _ _ _ _ hw hP hD hS (lv_sub hl [3, 4, 5, 6, 0] rfl)
def wp_X3_addTurn (c_n : Int32) (c_tu : Int32) (c_al : Int32) (c_fr : Nat → Int32) (c_no : Nat → Int32) (p_1 : Int32) (p_2 : Int32) (p_3 : Int32) (post : Int32 → (Int32 × Int32 × Int32 × (Nat → Int32) × (Nat → Int32)) → Prop) : Prop := (wp_X3_isPlace c_n p_2 (fun r_2 u_1 => ((r_2 = 0 → (((1 : Int32) ≤ 0 → (∃ N_30 : Nat, lp_X3_addTurn_80 c_n p_1 p_2 p_3 (fun (v_31 : Int32) (c_32 : Nat → Int32) => (wp_X3_putTurn c_n c_tu c_al c_fr c_32 (fun u_33 => (post (u_33.1 - 1) ((1 : Int32), u_33.1, u_33.2.1, u_33.2.2, c_32))))) N_30 0 c_no)) ∧ (¬ (1 : Int32) ≤ 0 → (post 0 ((1 : Int32), c_tu, c_al, c_fr, c_no))))) ∧ (¬ r_2 = 0 → (wp_X3_isPlace c_n p_3 (fun r_35 u_34 => ((r_35 = 0 → (((1 : Int32) ≤ 0 → (∃ N_39 : Nat, lp_X3_addTurn_80 c_n p_1 p_2 p_3 (fun (v_40 : Int32) (c_41 : Nat → Int32) => (wp_X3_putTurn c_n c_tu c_al c_fr c_41 (fun u_42 => (post (u_42.1 - 1) ((1 : Int32), u_42.1, u_42.2.1, u_42.2.2, c_41))))) N_39 0 c_no)) ∧ (¬ (1 : Int32) ≤ 0 → (post 0 ((1 : Int32), c_tu, c_al, c_fr, c_no))))) ∧ (¬ r_35 = 0 → (wp_X3_within p_1 (0 : Int32) (2 : Int32) (fun r_45 u_44 => ((r_45 = 0 → (((2 : Int32) ≤ 0 → (∃ N_48 : Nat, lp_X3_addTurn_80 c_n p_1 p_2 p_3 (fun (v_49 : Int32) (c_50 : Nat → Int32) => (wp_X3_putTurn c_n c_tu c_al c_fr c_50 (fun u_51 => (post (u_51.1 - 1) ((2 : Int32), u_51.1, u_51.2.1, u_51.2.2, c_50))))) N_48 0 c_no)) ∧ (¬ (2 : Int32) ≤ 0 → (post 0 ((2 : Int32), c_tu, c_al, c_fr, c_no))))) ∧ (¬ r_45 = 0 → ((p_2 < p_3 → ((¬ c_tu = 6 → (((0 : Int32) ≤ 0 → (∃ N_55 : Nat, lp_X3_addTurn_80 c_n p_1 p_2 p_3 (fun (v_56 : Int32) (c_57 : Nat → Int32) => (wp_X3_putTurn c_n c_tu c_al c_fr c_57 (fun u_58 => (post (u_58.1 - 1) ((0 : Int32), u_58.1, u_58.2.1, u_58.2.2, c_57))))) N_55 0 c_no)) ∧ (¬ (0 : Int32) ≤ 0 → (post 0 ((0 : Int32), c_tu, c_al, c_fr, c_no))))) ∧ (c_tu = 6 → (((3 : Int32) ≤ 0 → (∃ N_60 : Nat, lp_X3_addTurn_80 c_n p_1 p_2 p_3 (fun (v_61 : Int32) (c_62 : Nat → Int32) => (wp_X3_putTurn c_n c_tu c_al c_fr c_62 (fun u_63 => (post (u_63.1 - 1) ((3 : Int32), u_63.1, u_63.2.1, u_63.2.2, c_62))))) N_60 0 c_no)) ∧ (¬ (3 : Int32) ≤ 0 → (post 0 ((3 : Int32), c_tu, c_al, c_fr, c_no))))))) ∧ (¬ p_2 < p_3 → (((2 : Int32) ≤ 0 → (∃ N_65 : Nat, lp_X3_addTurn_80 c_n p_1 p_2 p_3 (fun (v_66 : Int32) (c_67 : Nat → Int32) => (wp_X3_putTurn c_n c_tu c_al c_fr c_67 (fun u_68 => (post (u_68.1 - 1) ((2 : Int32), u_68.1, u_68.2.1, u_68.2.2, c_67))))) N_65 0 c_no)) ∧ (¬ (2 : Int32) ≤ 0 → (post 0 ((2 : Int32), c_tu, c_al, c_fr, c_no))))))))))))))))))
set_option maxHeartbeats 4000000 in
set_option maxRecDepth 100000 in
theorem c_X3_addTurn (l : Launch) (D : va_G) (cy : Nat → ClassId) (a_this : Nat) (a_ro : Nat) (a_fr : Nat) (a_bu : Nat) (a_no : Nat) (a_te : Nat) (a_fa : Nat) (a_li : Nat) (a_wy : Nat) (a_su : Nat) (c_th : Int32) (c_n : Int32) (c_tu : Int32) (c_al : Int32) (c_le : Int32) (c_wa : Int32) (c_re : Int32) (c_us : Int32) (c_di : Int32) (c_ha : Int64) (c_fr : Nat → Int32) (c_no : Nat → Int32) (p_1 : Int32) (p_2 : Int32) (p_3 : Int32) {post : Int32 → (Int32 × Int32 × Int32 × (Nat → Int32) × (Nat → Int32)) → Prop} (hw : wp_X3_addTurn c_n c_tu c_al c_fr c_no p_1 p_2 p_3 post) (sz : Nat) : Met l yX3_addTurn wsX3_addTurn ({ frames := 2, cells := 0, slots := 0, locals := 43 }) (va_Pc [.ref a_this, .int p_1, .int p_2, .int p_3] (PreW D cy ([(a_this, .inr (3, [.int c_th, .int c_n, .int c_tu, .int c_al, .ref a_ro, .ref a_fr, .int c_le, .ref a_bu, .ref a_no, .ref a_te, .ref a_fa, .ref a_li, .int c_wa, .int c_re, .int c_us, .int c_di, .ref a_wy, .ref a_su, .long c_ha])), (a_fr, .inl (cy 0, 96, .inl c_fr)), (a_no, .inl (cy 0, 8, .inl c_no))]) sz)) (va_Qi post (fun u t => PostW D cy (va_A ([(a_this, .inr (3, [.int c_th, .int c_n, .int c_tu, .int c_al, .ref a_ro, .ref a_fr, .int c_le, .ref a_bu, .ref a_no, .ref a_te, .ref a_fa, .ref a_li, .int c_wa, .int c_re, .int c_us, .int c_di, .ref a_wy, .ref a_su, .long c_ha])), (a_fr, .inl (cy 0, 96, .inl c_fr)), (a_no, .inl (cy 0, 8, .inl c_no))]) sz) ([(a_this, .inr (3, [.int u.1, .int c_n, .int u.2.1, .int u.2.2.1, .ref a_ro, .ref a_fr, .int c_le, .ref a_bu, .ref a_no, .ref a_te, .ref a_fa, .ref a_li, .int c_wa, .int c_re, .int c_us, .int c_di, .ref a_wy, .ref a_su, .long c_ha])), (a_fr, .inl (cy 0, 96, .inl u.2.2.2.1)), (a_no, .inl (cy 0, 8, .inl u.2.2.2.2))]) t) (va_A ([(a_this, .inr (3, [.int c_th, .int c_n, .int c_tu, .int c_al, .ref a_ro, .ref a_fr, .int c_le, .ref a_bu, .ref a_no, .ref a_te, .ref a_fa, .ref a_li, .int c_wa, .int c_re, .int c_us, .int c_di, .ref a_wy, .ref a_su, .long c_ha])), (a_fr, .inl (cy 0, 96, .inl c_fr)), (a_no, .inl (cy 0, 8, .inl c_no))]) sz)) 0 0 (va_A ([(a_this, .inr (3, [.int c_th, .int c_n, .int c_tu, .int c_al, .ref a_ro, .ref a_fr, .int c_le, .ref a_bu, .ref a_no, .ref a_te, .ref a_fa, .ref a_li, .int c_wa, .int c_re, .int c_us, .int c_di, .ref a_wy, .ref a_su, .long c_ha])), (a_fr, .inl (cy 0, 96, .inl c_fr)), (a_no, .inl (cy 0, 8, .inl c_no))]) sz) := by
  refine j_met (Qc := fun A => va_Qi post (fun u t => PostW D cy A ([(a_this, .inr (3, [.int u.1, .int c_n, .int u.2.1, .int u.2.2.1, .ref a_ro, .ref a_fr, .int c_le, .ref a_bu, .ref a_no, .ref a_te, .ref a_fa, .ref a_li, .int c_wa, .int c_re, .int c_us, .int c_di, .ref a_wy, .ref a_su, .long c_ha])), (a_fr, .inl (cy 0, 96, .inl u.2.2.2.1)), (a_no, .inl (cy 0, 8, .inl u.2.2.2.2))]) t) A) (by decide +kernel) rfl (Nat.le_of_ble_eq_true rfl) ?_
  intro p e s m below meth c A ls C0 hr hlocks hP hD hS hl
  obtain ⟨hx, hb, hml, hown, hts, hK, hA⟩ := id C0
  have hown : s.vm.findClass RX3 = some m.cls := hown
  have hl : lv_has ls 8 [(0, .ref a_this), (1, .int p_1), (2, .int p_2), (3, .int p_3)] := hl
  unfold wp_X3_addTurn at hw
  refine lv_aload_n hx hb dX3_addTurn_0 rfl (lv_at hl 0 rfl) ?_
  refine lv_iload_n hx hb dX3_addTurn_1 rfl (lv_at hl 2 rfl) ?_
  refine j_calli (wr := [(a_fr, .inl (cy 0, 96, .inl c_fr)), (a_no, .inl (cy 0, 8, .inl c_no))]) (va_runV (As := [.int p_2]) (rest := []) ⟨hx, hb, hml, hown, hts⟩ (c_X3_isPlace l D cy a_this a_ro a_fr a_bu a_no a_te a_fa a_li a_wy a_su c_th c_n c_tu c_al c_le c_wa c_re c_us c_di c_ha p_2 hw s.heap.size) (cwV 1 hts gX3_addTurn_X3_isPlace rfl rfl rfl (by decide +kernel) ⟨Nat.le_of_ble_eq_true rfl, Nat.le_of_ble_eq_true rfl⟩) (j_preV hK hP hD (isC := [0]) rfl (by decide +kernel) (ci := 3) (q0 := 0) rfl rfl) rfl rfl hl.1 rfl (lv_room (Nat.le_of_ble_eq_true rfl)) dX3_addTurn_2 ⟨Nat.le_of_ble_eq_true rfl, Nat.le_of_ble_eq_true rfl⟩) hP hD hS hA [0] [1, 2] rfl rfl (by decide +kernel) (by decide +kernel) (fun u_1 => [(a_this, .inr (3, [.int c_th, .int c_n, .int c_tu, .int c_al, .ref a_ro, .ref a_fr, .int c_le, .ref a_bu, .ref a_no, .ref a_te, .ref a_fa, .ref a_li, .int c_wa, .int c_re, .int c_us, .int c_di, .ref a_wy, .ref a_su, .long c_ha])), (a_fr, .inl (cy 0, 96, .inl c_fr)), (a_no, .inl (cy 0, 8, .inl c_no))]) [2, 0, 1] (by decide +kernel) (fun u => rfl) (fun r_2 u_1 H locs hw hP hD hS => ?_)
  have hP : va_P D vwCl ([(a_this, .inr (3, [.int c_th, .int c_n, .int c_tu, .int c_al, .ref a_ro, .ref a_fr, .int c_le, .ref a_bu, .ref a_no, .ref a_te, .ref a_fa, .ref a_li, .int c_wa, .int c_re, .int c_us, .int c_di, .ref a_wy, .ref a_su, .long c_ha])), (a_fr, .inl (cy 0, 96, .inl c_fr)), (a_no, .inl (cy 0, 8, .inl c_no))]) H := hP
  have hD : va_D A ([(a_this, .inr (3, [.int c_th, .int c_n, .int c_tu, .int c_al, .ref a_ro, .ref a_fr, .int c_le, .ref a_bu, .ref a_no, .ref a_te, .ref a_fa, .ref a_li, .int c_wa, .int c_re, .int c_us, .int c_di, .ref a_wy, .ref a_su, .long c_ha])), (a_fr, .inl (cy 0, 96, .inl c_fr)), (a_no, .inl (cy 0, 8, .inl c_no))]) := hD
  refine lv_if_eq (tgt := 20) hx hb dX3_addTurn_5 (by decide) (fun c_3 => ?_) (fun c_3 => ?_)
  · replace hw := hw.1 c_3
    refine lv_iconst (v := 0) hx hb dX3_addTurn_20 (by decide) ?_
    refine lv_istore (lv' := [(4, .int 0), (0, .ref a_this), (1, .int p_1), (2, .int p_2), (3, .int p_3)]) hx hb dX3_addTurn_21 hl (by decide) rfl (fun ls hl => ?_)
    refine lv_aload_n hx hb dX3_addTurn_23 rfl (lv_at hl 1 rfl) ?_
    refine lv_iload hx hb dX3_addTurn_24 (lv_at hl 0 rfl) ?_
    refine lv_if_ne (tgt := 33) hx hb dX3_addTurn_26 (by decide) (fun c_4 => absurd c_4 (by decide)) (fun _ => ?_)
    refine lv_iconst (v := 1) hx hb dX3_addTurn_29 (by decide) ?_
    refine lv_goto (tgt := 65) hx hb dX3_addTurn_30 (by decide) ?_
    refine va_put (D := D) (ci := 3) (v := .int 1) (ty := .int) (C := RX3) (T := TX3) (N := 19) hx hb hts k_X3_addTurn_X3 tyX3 tyX3_ok nmX3 hown hK hP hD hS 0 rfl rfl 0 (by decide) (hts _ q_X3_addTurn_2) (fun _ h9 => h9) rfl (by decide +kernel) rfl rfl (Nat.le_of_ble_eq_true rfl) dX3_addTurn_65 (fun H locs hP hD hS => ?_)
    have hP : va_P D vwCl ([(a_this, .inr (3, [.int (1 : Int32), .int c_n, .int c_tu, .int c_al, .ref a_ro, .ref a_fr, .int c_le, .ref a_bu, .ref a_no, .ref a_te, .ref a_fa, .ref a_li, .int c_wa, .int c_re, .int c_us, .int c_di, .ref a_wy, .ref a_su, .long c_ha])), (a_fr, .inl (cy 0, 96, .inl c_fr)), (a_no, .inl (cy 0, 8, .inl c_no))]) H := hP
    have hD : va_D A ([(a_this, .inr (3, [.int (1 : Int32), .int c_n, .int c_tu, .int c_al, .ref a_ro, .ref a_fr, .int c_le, .ref a_bu, .ref a_no, .ref a_te, .ref a_fa, .ref a_li, .int c_wa, .int c_re, .int c_us, .int c_di, .ref a_wy, .ref a_su, .long c_ha])), (a_fr, .inl (cy 0, 96, .inl c_fr)), (a_no, .inl (cy 0, 8, .inl c_no))]) := hD
    refine lv_aload_n hx hb dX3_addTurn_68 rfl (lv_at hl 1 rfl) ?_
    refine va_get (D := D) (ci := 3) (v := .int (1 : Int32)) (C := RX3) (T := TX3) (N := 19) hx hb hts k_X3_addTurn_X3 hown hK hP 0 rfl rfl 0 (by decide) (hts _ q_X3_addTurn_2) (fun _ h9 => h9) rfl dX3_addTurn_69 ?_
    refine lv_if_le (tgt := 77) hx hb dX3_addTurn_72 (by decide) (fun c_5 => ?_) (fun c_5 => ?_)
    · replace hw := hw.1 c_5
      refine lv_iconst (v := 0) hx hb dX3_addTurn_77 (by decide) ?_
      refine lv_istore (lv' := [(5, .int 0), (4, .int 0), (0, .ref a_this), (1, .int p_1), (2, .int p_2), (3, .int p_3)]) hx hb dX3_addTurn_78 hl (by decide) rfl (fun ls hl => ?_)
      obtain ⟨N_30, hw⟩ := hw
      refine l_X3_addTurn_80 C0 (fun v_31 c_32 H locs ls hw hP hD hS hl => ?_) _ _ _ _ _ _ hw hP hD hS (lv_sub hl [2, 3, 4, 5, 0] rfl)
      refine lv_aload_n hx hb dX3_addTurn_172 rfl (lv_at hl 0 rfl) ?_
      refine j_callv (wr := []) (va_runV (As := []) (rest := []) ⟨hx, hb, hml, hown, hts⟩ (c_X3_putTurn l D cy a_this a_ro a_fr a_bu a_no a_te a_fa a_li a_wy a_su (1 : Int32) c_n c_tu c_al c_le c_wa c_re c_us c_di c_ha c_fr c_32 hw H.size) (cwV 0 hts gX3_addTurn_X3_putTurn rfl rfl rfl (by decide +kernel) ⟨Nat.le_of_ble_eq_true rfl, Nat.le_of_ble_eq_true rfl⟩) (j_preV hK hP hD (isC := [0, 1, 2]) rfl (by decide +kernel) (ci := 3) (q0 := 0) rfl rfl) rfl rfl hl.1 rfl (lv_room (Nat.le_of_ble_eq_true rfl)) dX3_addTurn_173 ⟨Nat.le_of_ble_eq_true rfl, Nat.le_of_ble_eq_true rfl⟩) hP hD hS hA [0, 1, 2] [] rfl rfl (by decide +kernel) (by decide +kernel) (fun u_33 => [(a_this, .inr (3, [.int (1 : Int32), .int c_n, .int u_33.1, .int u_33.2.1, .ref a_ro, .ref a_fr, .int c_le, .ref a_bu, .ref a_no, .ref a_te, .ref a_fa, .ref a_li, .int c_wa, .int c_re, .int c_us, .int c_di, .ref a_wy, .ref a_su, .long c_ha])), (a_fr, .inl (cy 0, 96, .inl u_33.2.2)), (a_no, .inl (cy 0, 8, .inl c_32))]) [0, 1, 2] (by decide +kernel) (fun u => rfl) (fun u_33 H locs hw hP hD hS => ?_)
      have hP : va_P D vwCl ([(a_this, .inr (3, [.int (1 : Int32), .int c_n, .int u_33.1, .int u_33.2.1, .ref a_ro, .ref a_fr, .int c_le, .ref a_bu, .ref a_no, .ref a_te, .ref a_fa, .ref a_li, .int c_wa, .int c_re, .int c_us, .int c_di, .ref a_wy, .ref a_su, .long c_ha])), (a_fr, .inl (cy 0, 96, .inl u_33.2.2)), (a_no, .inl (cy 0, 8, .inl c_32))]) H := hP
      have hD : va_D A ([(a_this, .inr (3, [.int (1 : Int32), .int c_n, .int u_33.1, .int u_33.2.1, .ref a_ro, .ref a_fr, .int c_le, .ref a_bu, .ref a_no, .ref a_te, .ref a_fa, .ref a_li, .int c_wa, .int c_re, .int c_us, .int c_di, .ref a_wy, .ref a_su, .long c_ha])), (a_fr, .inl (cy 0, 96, .inl u_33.2.2)), (a_no, .inl (cy 0, 8, .inl c_32))]) := hD
      refine lv_aload_n hx hb dX3_addTurn_176 rfl (lv_at hl 0 rfl) ?_
      refine va_get (D := D) (ci := 3) (v := .int u_33.1) (C := RX3) (T := TX3) (N := 19) hx hb hts k_X3_addTurn_X3 hown hK hP 0 rfl rfl 2 (by decide) (hts _ q_X3_addTurn_1) (fun _ h9 => h9) rfl dX3_addTurn_177 ?_
      refine lv_iconst (v := 1) hx hb dX3_addTurn_180 (by decide) ?_
      refine lv_isub hx hb dX3_addTurn_181 ?_
      exact j_iret (fun u => [(a_this, .inr (3, [.int u.1, .int c_n, .int u.2.1, .int u.2.2.1, .ref a_ro, .ref a_fr, .int c_le, .ref a_bu, .ref a_no, .ref a_te, .ref a_fa, .ref a_li, .int c_wa, .int c_re, .int c_us, .int c_di, .ref a_wy, .ref a_su, .long c_ha])), (a_fr, .inl (cy 0, 96, .inl u.2.2.2.1)), (a_no, .inl (cy 0, 8, .inl u.2.2.2.2))]) (((1 : Int32), u_33.1, u_33.2.1, u_33.2.2, c_32) : Int32 × Int32 × Int32 × (Nat → Int32) × (Nat → Int32)) hx hb hr hlocks hK hP hD hS hw dX3_addTurn_182
    · replace hw := hw.2 c_5
      refine lv_iconst (v := 0) hx hb dX3_addTurn_75 (by decide) ?_
      exact j_iret (fun u => [(a_this, .inr (3, [.int u.1, .int c_n, .int u.2.1, .int u.2.2.1, .ref a_ro, .ref a_fr, .int c_le, .ref a_bu, .ref a_no, .ref a_te, .ref a_fa, .ref a_li, .int c_wa, .int c_re, .int c_us, .int c_di, .ref a_wy, .ref a_su, .long c_ha])), (a_fr, .inl (cy 0, 96, .inl u.2.2.2.1)), (a_no, .inl (cy 0, 8, .inl u.2.2.2.2))]) (((1 : Int32), c_tu, c_al, c_fr, c_no) : Int32 × Int32 × Int32 × (Nat → Int32) × (Nat → Int32)) hx hb hr hlocks hK hP hD hS hw dX3_addTurn_76
  · replace hw := hw.2 c_3
    refine lv_aload_n hx hb dX3_addTurn_8 rfl (lv_at hl 0 rfl) ?_
    refine lv_iload_n hx hb dX3_addTurn_9 rfl (lv_at hl 3 rfl) ?_
    refine j_calli (wr := [(a_fr, .inl (cy 0, 96, .inl c_fr)), (a_no, .inl (cy 0, 8, .inl c_no))]) (va_runV (As := [.int p_3]) (rest := []) ⟨hx, hb, hml, hown, hts⟩ (c_X3_isPlace l D cy a_this a_ro a_fr a_bu a_no a_te a_fa a_li a_wy a_su c_th c_n c_tu c_al c_le c_wa c_re c_us c_di c_ha p_3 hw H.size) (cwV 1 hts gX3_addTurn_X3_isPlace rfl rfl rfl (by decide +kernel) ⟨Nat.le_of_ble_eq_true rfl, Nat.le_of_ble_eq_true rfl⟩) (j_preV hK hP hD (isC := [0]) rfl (by decide +kernel) (ci := 3) (q0 := 0) rfl rfl) rfl rfl hl.1 rfl (lv_room (Nat.le_of_ble_eq_true rfl)) dX3_addTurn_10 ⟨Nat.le_of_ble_eq_true rfl, Nat.le_of_ble_eq_true rfl⟩) hP hD hS hA [0] [1, 2] rfl rfl (by decide +kernel) (by decide +kernel) (fun u_34 => [(a_this, .inr (3, [.int c_th, .int c_n, .int c_tu, .int c_al, .ref a_ro, .ref a_fr, .int c_le, .ref a_bu, .ref a_no, .ref a_te, .ref a_fa, .ref a_li, .int c_wa, .int c_re, .int c_us, .int c_di, .ref a_wy, .ref a_su, .long c_ha])), (a_fr, .inl (cy 0, 96, .inl c_fr)), (a_no, .inl (cy 0, 8, .inl c_no))]) [2, 0, 1] (by decide +kernel) (fun u => rfl) (fun r_35 u_34 H locs hw hP hD hS => ?_)
    have hP : va_P D vwCl ([(a_this, .inr (3, [.int c_th, .int c_n, .int c_tu, .int c_al, .ref a_ro, .ref a_fr, .int c_le, .ref a_bu, .ref a_no, .ref a_te, .ref a_fa, .ref a_li, .int c_wa, .int c_re, .int c_us, .int c_di, .ref a_wy, .ref a_su, .long c_ha])), (a_fr, .inl (cy 0, 96, .inl c_fr)), (a_no, .inl (cy 0, 8, .inl c_no))]) H := hP
    have hD : va_D A ([(a_this, .inr (3, [.int c_th, .int c_n, .int c_tu, .int c_al, .ref a_ro, .ref a_fr, .int c_le, .ref a_bu, .ref a_no, .ref a_te, .ref a_fa, .ref a_li, .int c_wa, .int c_re, .int c_us, .int c_di, .ref a_wy, .ref a_su, .long c_ha])), (a_fr, .inl (cy 0, 96, .inl c_fr)), (a_no, .inl (cy 0, 8, .inl c_no))]) := hD
    refine lv_if_eq (tgt := 20) hx hb dX3_addTurn_13 (by decide) (fun c_36 => ?_) (fun c_36 => ?_)
    · replace hw := hw.1 c_36
      refine lv_iconst (v := 0) hx hb dX3_addTurn_20 (by decide) ?_
      refine lv_istore (lv' := [(4, .int 0), (0, .ref a_this), (1, .int p_1), (2, .int p_2), (3, .int p_3)]) hx hb dX3_addTurn_21 hl (by decide) rfl (fun ls hl => ?_)
      refine lv_aload_n hx hb dX3_addTurn_23 rfl (lv_at hl 1 rfl) ?_
      refine lv_iload hx hb dX3_addTurn_24 (lv_at hl 0 rfl) ?_
      refine lv_if_ne (tgt := 33) hx hb dX3_addTurn_26 (by decide) (fun c_37 => absurd c_37 (by decide)) (fun _ => ?_)
      refine lv_iconst (v := 1) hx hb dX3_addTurn_29 (by decide) ?_
      refine lv_goto (tgt := 65) hx hb dX3_addTurn_30 (by decide) ?_
      refine va_put (D := D) (ci := 3) (v := .int 1) (ty := .int) (C := RX3) (T := TX3) (N := 19) hx hb hts k_X3_addTurn_X3 tyX3 tyX3_ok nmX3 hown hK hP hD hS 0 rfl rfl 0 (by decide) (hts _ q_X3_addTurn_2) (fun _ h9 => h9) rfl (by decide +kernel) rfl rfl (Nat.le_of_ble_eq_true rfl) dX3_addTurn_65 (fun H locs hP hD hS => ?_)
      have hP : va_P D vwCl ([(a_this, .inr (3, [.int (1 : Int32), .int c_n, .int c_tu, .int c_al, .ref a_ro, .ref a_fr, .int c_le, .ref a_bu, .ref a_no, .ref a_te, .ref a_fa, .ref a_li, .int c_wa, .int c_re, .int c_us, .int c_di, .ref a_wy, .ref a_su, .long c_ha])), (a_fr, .inl (cy 0, 96, .inl c_fr)), (a_no, .inl (cy 0, 8, .inl c_no))]) H := hP
      have hD : va_D A ([(a_this, .inr (3, [.int (1 : Int32), .int c_n, .int c_tu, .int c_al, .ref a_ro, .ref a_fr, .int c_le, .ref a_bu, .ref a_no, .ref a_te, .ref a_fa, .ref a_li, .int c_wa, .int c_re, .int c_us, .int c_di, .ref a_wy, .ref a_su, .long c_ha])), (a_fr, .inl (cy 0, 96, .inl c_fr)), (a_no, .inl (cy 0, 8, .inl c_no))]) := hD
      refine lv_aload_n hx hb dX3_addTurn_68 rfl (lv_at hl 1 rfl) ?_
      refine va_get (D := D) (ci := 3) (v := .int (1 : Int32)) (C := RX3) (T := TX3) (N := 19) hx hb hts k_X3_addTurn_X3 hown hK hP 0 rfl rfl 0 (by decide) (hts _ q_X3_addTurn_2) (fun _ h9 => h9) rfl dX3_addTurn_69 ?_
      refine lv_if_le (tgt := 77) hx hb dX3_addTurn_72 (by decide) (fun c_38 => ?_) (fun c_38 => ?_)
      · replace hw := hw.1 c_38
        refine lv_iconst (v := 0) hx hb dX3_addTurn_77 (by decide) ?_
        refine lv_istore (lv' := [(5, .int 0), (4, .int 0), (0, .ref a_this), (1, .int p_1), (2, .int p_2), (3, .int p_3)]) hx hb dX3_addTurn_78 hl (by decide) rfl (fun ls hl => ?_)
        obtain ⟨N_39, hw⟩ := hw
        refine l_X3_addTurn_80 C0 (fun v_40 c_41 H locs ls hw hP hD hS hl => ?_) _ _ _ _ _ _ hw hP hD hS (lv_sub hl [2, 3, 4, 5, 0] rfl)
        refine lv_aload_n hx hb dX3_addTurn_172 rfl (lv_at hl 0 rfl) ?_
        refine j_callv (wr := []) (va_runV (As := []) (rest := []) ⟨hx, hb, hml, hown, hts⟩ (c_X3_putTurn l D cy a_this a_ro a_fr a_bu a_no a_te a_fa a_li a_wy a_su (1 : Int32) c_n c_tu c_al c_le c_wa c_re c_us c_di c_ha c_fr c_41 hw H.size) (cwV 0 hts gX3_addTurn_X3_putTurn rfl rfl rfl (by decide +kernel) ⟨Nat.le_of_ble_eq_true rfl, Nat.le_of_ble_eq_true rfl⟩) (j_preV hK hP hD (isC := [0, 1, 2]) rfl (by decide +kernel) (ci := 3) (q0 := 0) rfl rfl) rfl rfl hl.1 rfl (lv_room (Nat.le_of_ble_eq_true rfl)) dX3_addTurn_173 ⟨Nat.le_of_ble_eq_true rfl, Nat.le_of_ble_eq_true rfl⟩) hP hD hS hA [0, 1, 2] [] rfl rfl (by decide +kernel) (by decide +kernel) (fun u_42 => [(a_this, .inr (3, [.int (1 : Int32), .int c_n, .int u_42.1, .int u_42.2.1, .ref a_ro, .ref a_fr, .int c_le, .ref a_bu, .ref a_no, .ref a_te, .ref a_fa, .ref a_li, .int c_wa, .int c_re, .int c_us, .int c_di, .ref a_wy, .ref a_su, .long c_ha])), (a_fr, .inl (cy 0, 96, .inl u_42.2.2)), (a_no, .inl (cy 0, 8, .inl c_41))]) [0, 1, 2] (by decide +kernel) (fun u => rfl) (fun u_42 H locs hw hP hD hS => ?_)
        have hP : va_P D vwCl ([(a_this, .inr (3, [.int (1 : Int32), .int c_n, .int u_42.1, .int u_42.2.1, .ref a_ro, .ref a_fr, .int c_le, .ref a_bu, .ref a_no, .ref a_te, .ref a_fa, .ref a_li, .int c_wa, .int c_re, .int c_us, .int c_di, .ref a_wy, .ref a_su, .long c_ha])), (a_fr, .inl (cy 0, 96, .inl u_42.2.2)), (a_no, .inl (cy 0, 8, .inl c_41))]) H := hP
        have hD : va_D A ([(a_this, .inr (3, [.int (1 : Int32), .int c_n, .int u_42.1, .int u_42.2.1, .ref a_ro, .ref a_fr, .int c_le, .ref a_bu, .ref a_no, .ref a_te, .ref a_fa, .ref a_li, .int c_wa, .int c_re, .int c_us, .int c_di, .ref a_wy, .ref a_su, .long c_ha])), (a_fr, .inl (cy 0, 96, .inl u_42.2.2)), (a_no, .inl (cy 0, 8, .inl c_41))]) := hD
        refine lv_aload_n hx hb dX3_addTurn_176 rfl (lv_at hl 0 rfl) ?_
        refine va_get (D := D) (ci := 3) (v := .int u_42.1) (C := RX3) (T := TX3) (N := 19) hx hb hts k_X3_addTurn_X3 hown hK hP 0 rfl rfl 2 (by decide) (hts _ q_X3_addTurn_1) (fun _ h9 => h9) rfl dX3_addTurn_177 ?_
        refine lv_iconst (v := 1) hx hb dX3_addTurn_180 (by decide) ?_
        refine lv_isub hx hb dX3_addTurn_181 ?_
        exact j_iret (fun u => [(a_this, .inr (3, [.int u.1, .int c_n, .int u.2.1, .int u.2.2.1, .ref a_ro, .ref a_fr, .int c_le, .ref a_bu, .ref a_no, .ref a_te, .ref a_fa, .ref a_li, .int c_wa, .int c_re, .int c_us, .int c_di, .ref a_wy, .ref a_su, .long c_ha])), (a_fr, .inl (cy 0, 96, .inl u.2.2.2.1)), (a_no, .inl (cy 0, 8, .inl u.2.2.2.2))]) (((1 : Int32), u_42.1, u_42.2.1, u_42.2.2, c_41) : Int32 × Int32 × Int32 × (Nat → Int32) × (Nat → Int32)) hx hb hr hlocks hK hP hD hS hw dX3_addTurn_182
      · replace hw := hw.2 c_38
        refine lv_iconst (v := 0) hx hb dX3_addTurn_75 (by decide) ?_
        exact j_iret (fun u => [(a_this, .inr (3, [.int u.1, .int c_n, .int u.2.1, .int u.2.2.1, .ref a_ro, .ref a_fr, .int c_le, .ref a_bu, .ref a_no, .ref a_te, .ref a_fa, .ref a_li, .int c_wa, .int c_re, .int c_us, .int c_di, .ref a_wy, .ref a_su, .long c_ha])), (a_fr, .inl (cy 0, 96, .inl u.2.2.2.1)), (a_no, .inl (cy 0, 8, .inl u.2.2.2.2))]) (((1 : Int32), c_tu, c_al, c_fr, c_no) : Int32 × Int32 × Int32 × (Nat → Int32) × (Nat → Int32)) hx hb hr hlocks hK hP hD hS hw dX3_addTurn_76
    · replace hw := hw.2 c_36
      refine lv_iconst (v := 1) hx hb dX3_addTurn_16 (by decide) ?_
      refine lv_goto (tgt := 21) hx hb dX3_addTurn_17 (by decide) ?_
      refine lv_istore (lv' := [(4, .int 1), (0, .ref a_this), (1, .int p_1), (2, .int p_2), (3, .int p_3)]) hx hb dX3_addTurn_21 hl (by decide) rfl (fun ls hl => ?_)
      refine lv_aload_n hx hb dX3_addTurn_23 rfl (lv_at hl 1 rfl) ?_
      refine lv_iload hx hb dX3_addTurn_24 (lv_at hl 0 rfl) ?_
      refine lv_if_ne (tgt := 33) hx hb dX3_addTurn_26 (by decide) (fun _ => ?_) (fun c_43 => absurd c_43 (by decide))
      refine lv_iload_n hx hb dX3_addTurn_33 rfl (lv_at hl 2 rfl) ?_
      refine lv_iconst (v := 0) hx hb dX3_addTurn_34 (by decide) ?_
      refine lv_iconst (v := 2) hx hb dX3_addTurn_35 (by decide) ?_
      refine j_calli (wr := [(a_this, .inr (3, [.int c_th, .int c_n, .int c_tu, .int c_al, .ref a_ro, .ref a_fr, .int c_le, .ref a_bu, .ref a_no, .ref a_te, .ref a_fa, .ref a_li, .int c_wa, .int c_re, .int c_us, .int c_di, .ref a_wy, .ref a_su, .long c_ha])), (a_fr, .inl (cy 0, 96, .inl c_fr)), (a_no, .inl (cy 0, 8, .inl c_no))]) (va_runS (As := [.int p_1, .int 0, .int 2]) (rest := [.ref a_this]) ⟨hx, hb, hml, hown, hts⟩ (c_X3_within l D cy p_1 (0 : Int32) (2 : Int32) hw H.size) (va_cwS 3 hts gX3_addTurn_X3_within rfl rfl rfl (by decide +kernel) ⟨Nat.le_of_ble_eq_true rfl, Nat.le_of_ble_eq_true rfl⟩) (j_preS hK hP hD (isC := []) rfl (by decide +kernel)) rfl rfl hl.1 rfl (lv_room (Nat.le_of_ble_eq_true rfl)) dX3_addTurn_36 ⟨Nat.le_of_ble_eq_true rfl, Nat.le_of_ble_eq_true rfl⟩) hP hD hS hA [] [0, 1, 2] rfl rfl (by decide +kernel) (by decide +kernel) (fun u_44 => [(a_this, .inr (3, [.int c_th, .int c_n, .int c_tu, .int c_al, .ref a_ro, .ref a_fr, .int c_le, .ref a_bu, .ref a_no, .ref a_te, .ref a_fa, .ref a_li, .int c_wa, .int c_re, .int c_us, .int c_di, .ref a_wy, .ref a_su, .long c_ha])), (a_fr, .inl (cy 0, 96, .inl c_fr)), (a_no, .inl (cy 0, 8, .inl c_no))]) [0, 1, 2] (by decide +kernel) (fun u => rfl) (fun r_45 u_44 H locs hw hP hD hS => ?_)
      have hP : va_P D vwCl ([(a_this, .inr (3, [.int c_th, .int c_n, .int c_tu, .int c_al, .ref a_ro, .ref a_fr, .int c_le, .ref a_bu, .ref a_no, .ref a_te, .ref a_fa, .ref a_li, .int c_wa, .int c_re, .int c_us, .int c_di, .ref a_wy, .ref a_su, .long c_ha])), (a_fr, .inl (cy 0, 96, .inl c_fr)), (a_no, .inl (cy 0, 8, .inl c_no))]) H := hP
      have hD : va_D A ([(a_this, .inr (3, [.int c_th, .int c_n, .int c_tu, .int c_al, .ref a_ro, .ref a_fr, .int c_le, .ref a_bu, .ref a_no, .ref a_te, .ref a_fa, .ref a_li, .int c_wa, .int c_re, .int c_us, .int c_di, .ref a_wy, .ref a_su, .long c_ha])), (a_fr, .inl (cy 0, 96, .inl c_fr)), (a_no, .inl (cy 0, 8, .inl c_no))]) := hD
      refine lv_if_eq (tgt := 47) hx hb dX3_addTurn_39 (by decide) (fun c_46 => ?_) (fun c_46 => ?_)
      · replace hw := hw.1 c_46
        refine lv_iconst (v := 2) hx hb dX3_addTurn_47 (by decide) ?_
        refine lv_goto (tgt := 65) hx hb dX3_addTurn_48 (by decide) ?_
        refine va_put (D := D) (ci := 3) (v := .int 2) (ty := .int) (C := RX3) (T := TX3) (N := 19) hx hb hts k_X3_addTurn_X3 tyX3 tyX3_ok nmX3 hown hK hP hD hS 0 rfl rfl 0 (by decide) (hts _ q_X3_addTurn_2) (fun _ h9 => h9) rfl (by decide +kernel) rfl rfl (Nat.le_of_ble_eq_true rfl) dX3_addTurn_65 (fun H locs hP hD hS => ?_)
        have hP : va_P D vwCl ([(a_this, .inr (3, [.int (2 : Int32), .int c_n, .int c_tu, .int c_al, .ref a_ro, .ref a_fr, .int c_le, .ref a_bu, .ref a_no, .ref a_te, .ref a_fa, .ref a_li, .int c_wa, .int c_re, .int c_us, .int c_di, .ref a_wy, .ref a_su, .long c_ha])), (a_fr, .inl (cy 0, 96, .inl c_fr)), (a_no, .inl (cy 0, 8, .inl c_no))]) H := hP
        have hD : va_D A ([(a_this, .inr (3, [.int (2 : Int32), .int c_n, .int c_tu, .int c_al, .ref a_ro, .ref a_fr, .int c_le, .ref a_bu, .ref a_no, .ref a_te, .ref a_fa, .ref a_li, .int c_wa, .int c_re, .int c_us, .int c_di, .ref a_wy, .ref a_su, .long c_ha])), (a_fr, .inl (cy 0, 96, .inl c_fr)), (a_no, .inl (cy 0, 8, .inl c_no))]) := hD
        refine lv_aload_n hx hb dX3_addTurn_68 rfl (lv_at hl 1 rfl) ?_
        refine va_get (D := D) (ci := 3) (v := .int (2 : Int32)) (C := RX3) (T := TX3) (N := 19) hx hb hts k_X3_addTurn_X3 hown hK hP 0 rfl rfl 0 (by decide) (hts _ q_X3_addTurn_2) (fun _ h9 => h9) rfl dX3_addTurn_69 ?_
        refine lv_if_le (tgt := 77) hx hb dX3_addTurn_72 (by decide) (fun c_47 => ?_) (fun c_47 => ?_)
        · replace hw := hw.1 c_47
          refine lv_iconst (v := 0) hx hb dX3_addTurn_77 (by decide) ?_
          refine lv_istore (lv' := [(5, .int 0), (4, .int 1), (0, .ref a_this), (1, .int p_1), (2, .int p_2), (3, .int p_3)]) hx hb dX3_addTurn_78 hl (by decide) rfl (fun ls hl => ?_)
          obtain ⟨N_48, hw⟩ := hw
          refine l_X3_addTurn_80 C0 (fun v_49 c_50 H locs ls hw hP hD hS hl => ?_) _ _ _ _ _ _ hw hP hD hS (lv_sub hl [2, 3, 4, 5, 0] rfl)
          refine lv_aload_n hx hb dX3_addTurn_172 rfl (lv_at hl 0 rfl) ?_
          refine j_callv (wr := []) (va_runV (As := []) (rest := []) ⟨hx, hb, hml, hown, hts⟩ (c_X3_putTurn l D cy a_this a_ro a_fr a_bu a_no a_te a_fa a_li a_wy a_su (2 : Int32) c_n c_tu c_al c_le c_wa c_re c_us c_di c_ha c_fr c_50 hw H.size) (cwV 0 hts gX3_addTurn_X3_putTurn rfl rfl rfl (by decide +kernel) ⟨Nat.le_of_ble_eq_true rfl, Nat.le_of_ble_eq_true rfl⟩) (j_preV hK hP hD (isC := [0, 1, 2]) rfl (by decide +kernel) (ci := 3) (q0 := 0) rfl rfl) rfl rfl hl.1 rfl (lv_room (Nat.le_of_ble_eq_true rfl)) dX3_addTurn_173 ⟨Nat.le_of_ble_eq_true rfl, Nat.le_of_ble_eq_true rfl⟩) hP hD hS hA [0, 1, 2] [] rfl rfl (by decide +kernel) (by decide +kernel) (fun u_51 => [(a_this, .inr (3, [.int (2 : Int32), .int c_n, .int u_51.1, .int u_51.2.1, .ref a_ro, .ref a_fr, .int c_le, .ref a_bu, .ref a_no, .ref a_te, .ref a_fa, .ref a_li, .int c_wa, .int c_re, .int c_us, .int c_di, .ref a_wy, .ref a_su, .long c_ha])), (a_fr, .inl (cy 0, 96, .inl u_51.2.2)), (a_no, .inl (cy 0, 8, .inl c_50))]) [0, 1, 2] (by decide +kernel) (fun u => rfl) (fun u_51 H locs hw hP hD hS => ?_)
          have hP : va_P D vwCl ([(a_this, .inr (3, [.int (2 : Int32), .int c_n, .int u_51.1, .int u_51.2.1, .ref a_ro, .ref a_fr, .int c_le, .ref a_bu, .ref a_no, .ref a_te, .ref a_fa, .ref a_li, .int c_wa, .int c_re, .int c_us, .int c_di, .ref a_wy, .ref a_su, .long c_ha])), (a_fr, .inl (cy 0, 96, .inl u_51.2.2)), (a_no, .inl (cy 0, 8, .inl c_50))]) H := hP
          have hD : va_D A ([(a_this, .inr (3, [.int (2 : Int32), .int c_n, .int u_51.1, .int u_51.2.1, .ref a_ro, .ref a_fr, .int c_le, .ref a_bu, .ref a_no, .ref a_te, .ref a_fa, .ref a_li, .int c_wa, .int c_re, .int c_us, .int c_di, .ref a_wy, .ref a_su, .long c_ha])), (a_fr, .inl (cy 0, 96, .inl u_51.2.2)), (a_no, .inl (cy 0, 8, .inl c_50))]) := hD
          refine lv_aload_n hx hb dX3_addTurn_176 rfl (lv_at hl 0 rfl) ?_
          refine va_get (D := D) (ci := 3) (v := .int u_51.1) (C := RX3) (T := TX3) (N := 19) hx hb hts k_X3_addTurn_X3 hown hK hP 0 rfl rfl 2 (by decide) (hts _ q_X3_addTurn_1) (fun _ h9 => h9) rfl dX3_addTurn_177 ?_
          refine lv_iconst (v := 1) hx hb dX3_addTurn_180 (by decide) ?_
          refine lv_isub hx hb dX3_addTurn_181 ?_
          exact j_iret (fun u => [(a_this, .inr (3, [.int u.1, .int c_n, .int u.2.1, .int u.2.2.1, .ref a_ro, .ref a_fr, .int c_le, .ref a_bu, .ref a_no, .ref a_te, .ref a_fa, .ref a_li, .int c_wa, .int c_re, .int c_us, .int c_di, .ref a_wy, .ref a_su, .long c_ha])), (a_fr, .inl (cy 0, 96, .inl u.2.2.2.1)), (a_no, .inl (cy 0, 8, .inl u.2.2.2.2))]) (((2 : Int32), u_51.1, u_51.2.1, u_51.2.2, c_50) : Int32 × Int32 × Int32 × (Nat → Int32) × (Nat → Int32)) hx hb hr hlocks hK hP hD hS hw dX3_addTurn_182
        · replace hw := hw.2 c_47
          refine lv_iconst (v := 0) hx hb dX3_addTurn_75 (by decide) ?_
          exact j_iret (fun u => [(a_this, .inr (3, [.int u.1, .int c_n, .int u.2.1, .int u.2.2.1, .ref a_ro, .ref a_fr, .int c_le, .ref a_bu, .ref a_no, .ref a_te, .ref a_fa, .ref a_li, .int c_wa, .int c_re, .int c_us, .int c_di, .ref a_wy, .ref a_su, .long c_ha])), (a_fr, .inl (cy 0, 96, .inl u.2.2.2.1)), (a_no, .inl (cy 0, 8, .inl u.2.2.2.2))]) (((2 : Int32), c_tu, c_al, c_fr, c_no) : Int32 × Int32 × Int32 × (Nat → Int32) × (Nat → Int32)) hx hb hr hlocks hK hP hD hS hw dX3_addTurn_76
      · replace hw := hw.2 c_46
        refine lv_iload_n hx hb dX3_addTurn_42 rfl (lv_at hl 4 rfl) ?_
        refine lv_iload_n hx hb dX3_addTurn_43 rfl (lv_at hl 3 rfl) ?_
        refine lv_icmp_gt (tgt := 51) hx hb dX3_addTurn_44 (by decide) (fun c_52 => ?_) (fun c_52 => ?_)
        · replace hw := hw.1 c_52
          refine lv_aload_n hx hb dX3_addTurn_51 rfl (lv_at hl 1 rfl) ?_
          refine va_get (D := D) (ci := 3) (v := .int c_tu) (C := RX3) (T := TX3) (N := 19) hx hb hts k_X3_addTurn_X3 hown hK hP 0 rfl rfl 2 (by decide) (hts _ q_X3_addTurn_1) (fun _ h9 => h9) rfl dX3_addTurn_52 ?_
          refine lv_bipush (v := 6) hx hb dX3_addTurn_55 (by decide) ?_
          refine lv_icmp_ne (tgt := 64) hx hb dX3_addTurn_57 (by decide) (fun c_53 => ?_) (fun c_53 => ?_)
          · replace hw := hw.1 c_53
            refine lv_iconst (v := 0) hx hb dX3_addTurn_64 (by decide) ?_
            refine va_put (D := D) (ci := 3) (v := .int 0) (ty := .int) (C := RX3) (T := TX3) (N := 19) hx hb hts k_X3_addTurn_X3 tyX3 tyX3_ok nmX3 hown hK hP hD hS 0 rfl rfl 0 (by decide) (hts _ q_X3_addTurn_2) (fun _ h9 => h9) rfl (by decide +kernel) rfl rfl (Nat.le_of_ble_eq_true rfl) dX3_addTurn_65 (fun H locs hP hD hS => ?_)
            have hP : va_P D vwCl ([(a_this, .inr (3, [.int (0 : Int32), .int c_n, .int c_tu, .int c_al, .ref a_ro, .ref a_fr, .int c_le, .ref a_bu, .ref a_no, .ref a_te, .ref a_fa, .ref a_li, .int c_wa, .int c_re, .int c_us, .int c_di, .ref a_wy, .ref a_su, .long c_ha])), (a_fr, .inl (cy 0, 96, .inl c_fr)), (a_no, .inl (cy 0, 8, .inl c_no))]) H := hP
            have hD : va_D A ([(a_this, .inr (3, [.int (0 : Int32), .int c_n, .int c_tu, .int c_al, .ref a_ro, .ref a_fr, .int c_le, .ref a_bu, .ref a_no, .ref a_te, .ref a_fa, .ref a_li, .int c_wa, .int c_re, .int c_us, .int c_di, .ref a_wy, .ref a_su, .long c_ha])), (a_fr, .inl (cy 0, 96, .inl c_fr)), (a_no, .inl (cy 0, 8, .inl c_no))]) := hD
            refine lv_aload_n hx hb dX3_addTurn_68 rfl (lv_at hl 1 rfl) ?_
            refine va_get (D := D) (ci := 3) (v := .int (0 : Int32)) (C := RX3) (T := TX3) (N := 19) hx hb hts k_X3_addTurn_X3 hown hK hP 0 rfl rfl 0 (by decide) (hts _ q_X3_addTurn_2) (fun _ h9 => h9) rfl dX3_addTurn_69 ?_
            refine lv_if_le (tgt := 77) hx hb dX3_addTurn_72 (by decide) (fun c_54 => ?_) (fun c_54 => ?_)
            · replace hw := hw.1 c_54
              refine lv_iconst (v := 0) hx hb dX3_addTurn_77 (by decide) ?_
              refine lv_istore (lv' := [(5, .int 0), (4, .int 1), (0, .ref a_this), (1, .int p_1), (2, .int p_2), (3, .int p_3)]) hx hb dX3_addTurn_78 hl (by decide) rfl (fun ls hl => ?_)
              obtain ⟨N_55, hw⟩ := hw
              refine l_X3_addTurn_80 C0 (fun v_56 c_57 H locs ls hw hP hD hS hl => ?_) _ _ _ _ _ _ hw hP hD hS (lv_sub hl [2, 3, 4, 5, 0] rfl)
              refine lv_aload_n hx hb dX3_addTurn_172 rfl (lv_at hl 0 rfl) ?_
              refine j_callv (wr := []) (va_runV (As := []) (rest := []) ⟨hx, hb, hml, hown, hts⟩ (c_X3_putTurn l D cy a_this a_ro a_fr a_bu a_no a_te a_fa a_li a_wy a_su (0 : Int32) c_n c_tu c_al c_le c_wa c_re c_us c_di c_ha c_fr c_57 hw H.size) (cwV 0 hts gX3_addTurn_X3_putTurn rfl rfl rfl (by decide +kernel) ⟨Nat.le_of_ble_eq_true rfl, Nat.le_of_ble_eq_true rfl⟩) (j_preV hK hP hD (isC := [0, 1, 2]) rfl (by decide +kernel) (ci := 3) (q0 := 0) rfl rfl) rfl rfl hl.1 rfl (lv_room (Nat.le_of_ble_eq_true rfl)) dX3_addTurn_173 ⟨Nat.le_of_ble_eq_true rfl, Nat.le_of_ble_eq_true rfl⟩) hP hD hS hA [0, 1, 2] [] rfl rfl (by decide +kernel) (by decide +kernel) (fun u_58 => [(a_this, .inr (3, [.int (0 : Int32), .int c_n, .int u_58.1, .int u_58.2.1, .ref a_ro, .ref a_fr, .int c_le, .ref a_bu, .ref a_no, .ref a_te, .ref a_fa, .ref a_li, .int c_wa, .int c_re, .int c_us, .int c_di, .ref a_wy, .ref a_su, .long c_ha])), (a_fr, .inl (cy 0, 96, .inl u_58.2.2)), (a_no, .inl (cy 0, 8, .inl c_57))]) [0, 1, 2] (by decide +kernel) (fun u => rfl) (fun u_58 H locs hw hP hD hS => ?_)
              have hP : va_P D vwCl ([(a_this, .inr (3, [.int (0 : Int32), .int c_n, .int u_58.1, .int u_58.2.1, .ref a_ro, .ref a_fr, .int c_le, .ref a_bu, .ref a_no, .ref a_te, .ref a_fa, .ref a_li, .int c_wa, .int c_re, .int c_us, .int c_di, .ref a_wy, .ref a_su, .long c_ha])), (a_fr, .inl (cy 0, 96, .inl u_58.2.2)), (a_no, .inl (cy 0, 8, .inl c_57))]) H := hP
              have hD : va_D A ([(a_this, .inr (3, [.int (0 : Int32), .int c_n, .int u_58.1, .int u_58.2.1, .ref a_ro, .ref a_fr, .int c_le, .ref a_bu, .ref a_no, .ref a_te, .ref a_fa, .ref a_li, .int c_wa, .int c_re, .int c_us, .int c_di, .ref a_wy, .ref a_su, .long c_ha])), (a_fr, .inl (cy 0, 96, .inl u_58.2.2)), (a_no, .inl (cy 0, 8, .inl c_57))]) := hD
              refine lv_aload_n hx hb dX3_addTurn_176 rfl (lv_at hl 0 rfl) ?_
              refine va_get (D := D) (ci := 3) (v := .int u_58.1) (C := RX3) (T := TX3) (N := 19) hx hb hts k_X3_addTurn_X3 hown hK hP 0 rfl rfl 2 (by decide) (hts _ q_X3_addTurn_1) (fun _ h9 => h9) rfl dX3_addTurn_177 ?_
              refine lv_iconst (v := 1) hx hb dX3_addTurn_180 (by decide) ?_
              refine lv_isub hx hb dX3_addTurn_181 ?_
              exact j_iret (fun u => [(a_this, .inr (3, [.int u.1, .int c_n, .int u.2.1, .int u.2.2.1, .ref a_ro, .ref a_fr, .int c_le, .ref a_bu, .ref a_no, .ref a_te, .ref a_fa, .ref a_li, .int c_wa, .int c_re, .int c_us, .int c_di, .ref a_wy, .ref a_su, .long c_ha])), (a_fr, .inl (cy 0, 96, .inl u.2.2.2.1)), (a_no, .inl (cy 0, 8, .inl u.2.2.2.2))]) (((0 : Int32), u_58.1, u_58.2.1, u_58.2.2, c_57) : Int32 × Int32 × Int32 × (Nat → Int32) × (Nat → Int32)) hx hb hr hlocks hK hP hD hS hw dX3_addTurn_182
            · replace hw := hw.2 c_54
              refine lv_iconst (v := 0) hx hb dX3_addTurn_75 (by decide) ?_
              exact j_iret (fun u => [(a_this, .inr (3, [.int u.1, .int c_n, .int u.2.1, .int u.2.2.1, .ref a_ro, .ref a_fr, .int c_le, .ref a_bu, .ref a_no, .ref a_te, .ref a_fa, .ref a_li, .int c_wa, .int c_re, .int c_us, .int c_di, .ref a_wy, .ref a_su, .long c_ha])), (a_fr, .inl (cy 0, 96, .inl u.2.2.2.1)), (a_no, .inl (cy 0, 8, .inl u.2.2.2.2))]) (((0 : Int32), c_tu, c_al, c_fr, c_no) : Int32 × Int32 × Int32 × (Nat → Int32) × (Nat → Int32)) hx hb hr hlocks hK hP hD hS hw dX3_addTurn_76
          · replace hw := hw.2 c_53
            refine lv_iconst (v := 3) hx hb dX3_addTurn_60 (by decide) ?_
            refine lv_goto (tgt := 65) hx hb dX3_addTurn_61 (by decide) ?_
            refine va_put (D := D) (ci := 3) (v := .int 3) (ty := .int) (C := RX3) (T := TX3) (N := 19) hx hb hts k_X3_addTurn_X3 tyX3 tyX3_ok nmX3 hown hK hP hD hS 0 rfl rfl 0 (by decide) (hts _ q_X3_addTurn_2) (fun _ h9 => h9) rfl (by decide +kernel) rfl rfl (Nat.le_of_ble_eq_true rfl) dX3_addTurn_65 (fun H locs hP hD hS => ?_)
            have hP : va_P D vwCl ([(a_this, .inr (3, [.int (3 : Int32), .int c_n, .int c_tu, .int c_al, .ref a_ro, .ref a_fr, .int c_le, .ref a_bu, .ref a_no, .ref a_te, .ref a_fa, .ref a_li, .int c_wa, .int c_re, .int c_us, .int c_di, .ref a_wy, .ref a_su, .long c_ha])), (a_fr, .inl (cy 0, 96, .inl c_fr)), (a_no, .inl (cy 0, 8, .inl c_no))]) H := hP
            have hD : va_D A ([(a_this, .inr (3, [.int (3 : Int32), .int c_n, .int c_tu, .int c_al, .ref a_ro, .ref a_fr, .int c_le, .ref a_bu, .ref a_no, .ref a_te, .ref a_fa, .ref a_li, .int c_wa, .int c_re, .int c_us, .int c_di, .ref a_wy, .ref a_su, .long c_ha])), (a_fr, .inl (cy 0, 96, .inl c_fr)), (a_no, .inl (cy 0, 8, .inl c_no))]) := hD
            refine lv_aload_n hx hb dX3_addTurn_68 rfl (lv_at hl 1 rfl) ?_
            refine va_get (D := D) (ci := 3) (v := .int (3 : Int32)) (C := RX3) (T := TX3) (N := 19) hx hb hts k_X3_addTurn_X3 hown hK hP 0 rfl rfl 0 (by decide) (hts _ q_X3_addTurn_2) (fun _ h9 => h9) rfl dX3_addTurn_69 ?_
            refine lv_if_le (tgt := 77) hx hb dX3_addTurn_72 (by decide) (fun c_59 => ?_) (fun c_59 => ?_)
            · replace hw := hw.1 c_59
              refine lv_iconst (v := 0) hx hb dX3_addTurn_77 (by decide) ?_
              refine lv_istore (lv' := [(5, .int 0), (4, .int 1), (0, .ref a_this), (1, .int p_1), (2, .int p_2), (3, .int p_3)]) hx hb dX3_addTurn_78 hl (by decide) rfl (fun ls hl => ?_)
              obtain ⟨N_60, hw⟩ := hw
              refine l_X3_addTurn_80 C0 (fun v_61 c_62 H locs ls hw hP hD hS hl => ?_) _ _ _ _ _ _ hw hP hD hS (lv_sub hl [2, 3, 4, 5, 0] rfl)
              refine lv_aload_n hx hb dX3_addTurn_172 rfl (lv_at hl 0 rfl) ?_
              refine j_callv (wr := []) (va_runV (As := []) (rest := []) ⟨hx, hb, hml, hown, hts⟩ (c_X3_putTurn l D cy a_this a_ro a_fr a_bu a_no a_te a_fa a_li a_wy a_su (3 : Int32) c_n c_tu c_al c_le c_wa c_re c_us c_di c_ha c_fr c_62 hw H.size) (cwV 0 hts gX3_addTurn_X3_putTurn rfl rfl rfl (by decide +kernel) ⟨Nat.le_of_ble_eq_true rfl, Nat.le_of_ble_eq_true rfl⟩) (j_preV hK hP hD (isC := [0, 1, 2]) rfl (by decide +kernel) (ci := 3) (q0 := 0) rfl rfl) rfl rfl hl.1 rfl (lv_room (Nat.le_of_ble_eq_true rfl)) dX3_addTurn_173 ⟨Nat.le_of_ble_eq_true rfl, Nat.le_of_ble_eq_true rfl⟩) hP hD hS hA [0, 1, 2] [] rfl rfl (by decide +kernel) (by decide +kernel) (fun u_63 => [(a_this, .inr (3, [.int (3 : Int32), .int c_n, .int u_63.1, .int u_63.2.1, .ref a_ro, .ref a_fr, .int c_le, .ref a_bu, .ref a_no, .ref a_te, .ref a_fa, .ref a_li, .int c_wa, .int c_re, .int c_us, .int c_di, .ref a_wy, .ref a_su, .long c_ha])), (a_fr, .inl (cy 0, 96, .inl u_63.2.2)), (a_no, .inl (cy 0, 8, .inl c_62))]) [0, 1, 2] (by decide +kernel) (fun u => rfl) (fun u_63 H locs hw hP hD hS => ?_)
              have hP : va_P D vwCl ([(a_this, .inr (3, [.int (3 : Int32), .int c_n, .int u_63.1, .int u_63.2.1, .ref a_ro, .ref a_fr, .int c_le, .ref a_bu, .ref a_no, .ref a_te, .ref a_fa, .ref a_li, .int c_wa, .int c_re, .int c_us, .int c_di, .ref a_wy, .ref a_su, .long c_ha])), (a_fr, .inl (cy 0, 96, .inl u_63.2.2)), (a_no, .inl (cy 0, 8, .inl c_62))]) H := hP
              have hD : va_D A ([(a_this, .inr (3, [.int (3 : Int32), .int c_n, .int u_63.1, .int u_63.2.1, .ref a_ro, .ref a_fr, .int c_le, .ref a_bu, .ref a_no, .ref a_te, .ref a_fa, .ref a_li, .int c_wa, .int c_re, .int c_us, .int c_di, .ref a_wy, .ref a_su, .long c_ha])), (a_fr, .inl (cy 0, 96, .inl u_63.2.2)), (a_no, .inl (cy 0, 8, .inl c_62))]) := hD
              refine lv_aload_n hx hb dX3_addTurn_176 rfl (lv_at hl 0 rfl) ?_
              refine va_get (D := D) (ci := 3) (v := .int u_63.1) (C := RX3) (T := TX3) (N := 19) hx hb hts k_X3_addTurn_X3 hown hK hP 0 rfl rfl 2 (by decide) (hts _ q_X3_addTurn_1) (fun _ h9 => h9) rfl dX3_addTurn_177 ?_
              refine lv_iconst (v := 1) hx hb dX3_addTurn_180 (by decide) ?_
              refine lv_isub hx hb dX3_addTurn_181 ?_
              exact j_iret (fun u => [(a_this, .inr (3, [.int u.1, .int c_n, .int u.2.1, .int u.2.2.1, .ref a_ro, .ref a_fr, .int c_le, .ref a_bu, .ref a_no, .ref a_te, .ref a_fa, .ref a_li, .int c_wa, .int c_re, .int c_us, .int c_di, .ref a_wy, .ref a_su, .long c_ha])), (a_fr, .inl (cy 0, 96, .inl u.2.2.2.1)), (a_no, .inl (cy 0, 8, .inl u.2.2.2.2))]) (((3 : Int32), u_63.1, u_63.2.1, u_63.2.2, c_62) : Int32 × Int32 × Int32 × (Nat → Int32) × (Nat → Int32)) hx hb hr hlocks hK hP hD hS hw dX3_addTurn_182
            · replace hw := hw.2 c_59
              refine lv_iconst (v := 0) hx hb dX3_addTurn_75 (by decide) ?_
              exact j_iret (fun u => [(a_this, .inr (3, [.int u.1, .int c_n, .int u.2.1, .int u.2.2.1, .ref a_ro, .ref a_fr, .int c_le, .ref a_bu, .ref a_no, .ref a_te, .ref a_fa, .ref a_li, .int c_wa, .int c_re, .int c_us, .int c_di, .ref a_wy, .ref a_su, .long c_ha])), (a_fr, .inl (cy 0, 96, .inl u.2.2.2.1)), (a_no, .inl (cy 0, 8, .inl u.2.2.2.2))]) (((3 : Int32), c_tu, c_al, c_fr, c_no) : Int32 × Int32 × Int32 × (Nat → Int32) × (Nat → Int32)) hx hb hr hlocks hK hP hD hS hw dX3_addTurn_76
        · replace hw := hw.2 c_52
          refine lv_iconst (v := 2) hx hb dX3_addTurn_47 (by decide) ?_
          refine lv_goto (tgt := 65) hx hb dX3_addTurn_48 (by decide) ?_
          refine va_put (D := D) (ci := 3) (v := .int 2) (ty := .int) (C := RX3) (T := TX3) (N := 19) hx hb hts k_X3_addTurn_X3 tyX3 tyX3_ok nmX3 hown hK hP hD hS 0 rfl rfl 0 (by decide) (hts _ q_X3_addTurn_2) (fun _ h9 => h9) rfl (by decide +kernel) rfl rfl (Nat.le_of_ble_eq_true rfl) dX3_addTurn_65 (fun H locs hP hD hS => ?_)
          have hP : va_P D vwCl ([(a_this, .inr (3, [.int (2 : Int32), .int c_n, .int c_tu, .int c_al, .ref a_ro, .ref a_fr, .int c_le, .ref a_bu, .ref a_no, .ref a_te, .ref a_fa, .ref a_li, .int c_wa, .int c_re, .int c_us, .int c_di, .ref a_wy, .ref a_su, .long c_ha])), (a_fr, .inl (cy 0, 96, .inl c_fr)), (a_no, .inl (cy 0, 8, .inl c_no))]) H := hP
          have hD : va_D A ([(a_this, .inr (3, [.int (2 : Int32), .int c_n, .int c_tu, .int c_al, .ref a_ro, .ref a_fr, .int c_le, .ref a_bu, .ref a_no, .ref a_te, .ref a_fa, .ref a_li, .int c_wa, .int c_re, .int c_us, .int c_di, .ref a_wy, .ref a_su, .long c_ha])), (a_fr, .inl (cy 0, 96, .inl c_fr)), (a_no, .inl (cy 0, 8, .inl c_no))]) := hD
          refine lv_aload_n hx hb dX3_addTurn_68 rfl (lv_at hl 1 rfl) ?_
          refine va_get (D := D) (ci := 3) (v := .int (2 : Int32)) (C := RX3) (T := TX3) (N := 19) hx hb hts k_X3_addTurn_X3 hown hK hP 0 rfl rfl 0 (by decide) (hts _ q_X3_addTurn_2) (fun _ h9 => h9) rfl dX3_addTurn_69 ?_
          refine lv_if_le (tgt := 77) hx hb dX3_addTurn_72 (by decide) (fun c_64 => ?_) (fun c_64 => ?_)
          · replace hw := hw.1 c_64
            refine lv_iconst (v := 0) hx hb dX3_addTurn_77 (by decide) ?_
            refine lv_istore (lv' := [(5, .int 0), (4, .int 1), (0, .ref a_this), (1, .int p_1), (2, .int p_2), (3, .int p_3)]) hx hb dX3_addTurn_78 hl (by decide) rfl (fun ls hl => ?_)
            obtain ⟨N_65, hw⟩ := hw
            refine l_X3_addTurn_80 C0 (fun v_66 c_67 H locs ls hw hP hD hS hl => ?_) _ _ _ _ _ _ hw hP hD hS (lv_sub hl [2, 3, 4, 5, 0] rfl)
            refine lv_aload_n hx hb dX3_addTurn_172 rfl (lv_at hl 0 rfl) ?_
            refine j_callv (wr := []) (va_runV (As := []) (rest := []) ⟨hx, hb, hml, hown, hts⟩ (c_X3_putTurn l D cy a_this a_ro a_fr a_bu a_no a_te a_fa a_li a_wy a_su (2 : Int32) c_n c_tu c_al c_le c_wa c_re c_us c_di c_ha c_fr c_67 hw H.size) (cwV 0 hts gX3_addTurn_X3_putTurn rfl rfl rfl (by decide +kernel) ⟨Nat.le_of_ble_eq_true rfl, Nat.le_of_ble_eq_true rfl⟩) (j_preV hK hP hD (isC := [0, 1, 2]) rfl (by decide +kernel) (ci := 3) (q0 := 0) rfl rfl) rfl rfl hl.1 rfl (lv_room (Nat.le_of_ble_eq_true rfl)) dX3_addTurn_173 ⟨Nat.le_of_ble_eq_true rfl, Nat.le_of_ble_eq_true rfl⟩) hP hD hS hA [0, 1, 2] [] rfl rfl (by decide +kernel) (by decide +kernel) (fun u_68 => [(a_this, .inr (3, [.int (2 : Int32), .int c_n, .int u_68.1, .int u_68.2.1, .ref a_ro, .ref a_fr, .int c_le, .ref a_bu, .ref a_no, .ref a_te, .ref a_fa, .ref a_li, .int c_wa, .int c_re, .int c_us, .int c_di, .ref a_wy, .ref a_su, .long c_ha])), (a_fr, .inl (cy 0, 96, .inl u_68.2.2)), (a_no, .inl (cy 0, 8, .inl c_67))]) [0, 1, 2] (by decide +kernel) (fun u => rfl) (fun u_68 H locs hw hP hD hS => ?_)
            have hP : va_P D vwCl ([(a_this, .inr (3, [.int (2 : Int32), .int c_n, .int u_68.1, .int u_68.2.1, .ref a_ro, .ref a_fr, .int c_le, .ref a_bu, .ref a_no, .ref a_te, .ref a_fa, .ref a_li, .int c_wa, .int c_re, .int c_us, .int c_di, .ref a_wy, .ref a_su, .long c_ha])), (a_fr, .inl (cy 0, 96, .inl u_68.2.2)), (a_no, .inl (cy 0, 8, .inl c_67))]) H := hP
            have hD : va_D A ([(a_this, .inr (3, [.int (2 : Int32), .int c_n, .int u_68.1, .int u_68.2.1, .ref a_ro, .ref a_fr, .int c_le, .ref a_bu, .ref a_no, .ref a_te, .ref a_fa, .ref a_li, .int c_wa, .int c_re, .int c_us, .int c_di, .ref a_wy, .ref a_su, .long c_ha])), (a_fr, .inl (cy 0, 96, .inl u_68.2.2)), (a_no, .inl (cy 0, 8, .inl c_67))]) := hD
            refine lv_aload_n hx hb dX3_addTurn_176 rfl (lv_at hl 0 rfl) ?_
            refine va_get (D := D) (ci := 3) (v := .int u_68.1) (C := RX3) (T := TX3) (N := 19) hx hb hts k_X3_addTurn_X3 hown hK hP 0 rfl rfl 2 (by decide) (hts _ q_X3_addTurn_1) (fun _ h9 => h9) rfl dX3_addTurn_177 ?_
            refine lv_iconst (v := 1) hx hb dX3_addTurn_180 (by decide) ?_
            refine lv_isub hx hb dX3_addTurn_181 ?_
            exact j_iret (fun u => [(a_this, .inr (3, [.int u.1, .int c_n, .int u.2.1, .int u.2.2.1, .ref a_ro, .ref a_fr, .int c_le, .ref a_bu, .ref a_no, .ref a_te, .ref a_fa, .ref a_li, .int c_wa, .int c_re, .int c_us, .int c_di, .ref a_wy, .ref a_su, .long c_ha])), (a_fr, .inl (cy 0, 96, .inl u.2.2.2.1)), (a_no, .inl (cy 0, 8, .inl u.2.2.2.2))]) (((2 : Int32), u_68.1, u_68.2.1, u_68.2.2, c_67) : Int32 × Int32 × Int32 × (Nat → Int32) × (Nat → Int32)) hx hb hr hlocks hK hP hD hS hw dX3_addTurn_182
          · replace hw := hw.2 c_64
            refine lv_iconst (v := 0) hx hb dX3_addTurn_75 (by decide) ?_
            exact j_iret (fun u => [(a_this, .inr (3, [.int u.1, .int c_n, .int u.2.1, .int u.2.2.1, .ref a_ro, .ref a_fr, .int c_le, .ref a_bu, .ref a_no, .ref a_te, .ref a_fa, .ref a_li, .int c_wa, .int c_re, .int c_us, .int c_di, .ref a_wy, .ref a_su, .long c_ha])), (a_fr, .inl (cy 0, 96, .inl u.2.2.2.1)), (a_no, .inl (cy 0, 8, .inl u.2.2.2.2))]) (((2 : Int32), c_tu, c_al, c_fr, c_no) : Int32 × Int32 × Int32 × (Nat → Int32) × (Nat → Int32)) hx hb hr hlocks hK hP hD hS hw dX3_addTurn_76
theorem q_X3_dropTurn_1 : Cond.fieldLink RX3 53 "TwistedRowModel" "turns" "I" ∈ wsX3_dropTurn := List.mem_of_getElem? (i := 1) rfl
theorem k_X3_dropTurn_X3 : ∀ w ∈ wsX30, w ∈ wsX3_dropTurn := my_in _ [4, 5, 6, 7, 8, 9, 10, 11, 12, 13, 14, 15, 16, 17, 18, 19, 20, 21, 22] (by decide +kernel)
theorem q_X3_dropTurn_2 : Cond.fieldLink RX3 46 "TwistedRowModel" "thrown" "I" ∈ wsX3_dropTurn := List.mem_of_getElem? (i := 2) rfl
theorem q_X3_dropTurn_3 : Cond.fieldLink RX3 96 "TwistedRowModel" "allowed" "I" ∈ wsX3_dropTurn := List.mem_of_getElem? (i := 3) rfl
def wp_X3_dropTurn (c_tu : Int32) (c_al : Int32) (post : Int32 → (Int32 × Int32 × Int32) → Prop) : Prop := ((c_tu ≤ 0 → (((1 : Int32) ≤ 0 → (∀ x_3 : Int32, x_3 = c_tu - 1 → (∀ x_4 : Int32, x_4 = c_al &&& ((1 <<< ((2 * x_3) &&& 31)) - 1) → (post x_3 ((1 : Int32), x_3, x_4))))) ∧ (¬ (1 : Int32) ≤ 0 → (post 0 ((1 : Int32), c_tu, c_al))))) ∧ (¬ c_tu ≤ 0 → (((0 : Int32) ≤ 0 → (∀ x_6 : Int32, x_6 = c_tu - 1 → (∀ x_7 : Int32, x_7 = c_al &&& ((1 <<< ((2 * x_6) &&& 31)) - 1) → (post x_6 ((0 : Int32), x_6, x_7))))) ∧ (¬ (0 : Int32) ≤ 0 → (post 0 ((0 : Int32), c_tu, c_al))))))
set_option maxHeartbeats 4000000 in
set_option maxRecDepth 100000 in
theorem c_X3_dropTurn (l : Launch) (D : va_G) (cy : Nat → ClassId) (a_this : Nat) (a_ro : Nat) (a_fr : Nat) (a_bu : Nat) (a_no : Nat) (a_te : Nat) (a_fa : Nat) (a_li : Nat) (a_wy : Nat) (a_su : Nat) (c_th : Int32) (c_n : Int32) (c_tu : Int32) (c_al : Int32) (c_le : Int32) (c_wa : Int32) (c_re : Int32) (c_us : Int32) (c_di : Int32) (c_ha : Int64) {post : Int32 → (Int32 × Int32 × Int32) → Prop} (hw : wp_X3_dropTurn c_tu c_al post) (sz : Nat) : Met l yX3_dropTurn wsX3_dropTurn ({ frames := 0, cells := 0, slots := 0, locals := 0 }) (va_Pc [.ref a_this] (PreW D cy ([(a_this, .inr (3, [.int c_th, .int c_n, .int c_tu, .int c_al, .ref a_ro, .ref a_fr, .int c_le, .ref a_bu, .ref a_no, .ref a_te, .ref a_fa, .ref a_li, .int c_wa, .int c_re, .int c_us, .int c_di, .ref a_wy, .ref a_su, .long c_ha]))]) sz)) (va_Qi post (fun u t => PostW D cy (va_A ([(a_this, .inr (3, [.int c_th, .int c_n, .int c_tu, .int c_al, .ref a_ro, .ref a_fr, .int c_le, .ref a_bu, .ref a_no, .ref a_te, .ref a_fa, .ref a_li, .int c_wa, .int c_re, .int c_us, .int c_di, .ref a_wy, .ref a_su, .long c_ha]))]) sz) ([(a_this, .inr (3, [.int u.1, .int c_n, .int u.2.1, .int u.2.2, .ref a_ro, .ref a_fr, .int c_le, .ref a_bu, .ref a_no, .ref a_te, .ref a_fa, .ref a_li, .int c_wa, .int c_re, .int c_us, .int c_di, .ref a_wy, .ref a_su, .long c_ha]))]) t) (va_A ([(a_this, .inr (3, [.int c_th, .int c_n, .int c_tu, .int c_al, .ref a_ro, .ref a_fr, .int c_le, .ref a_bu, .ref a_no, .ref a_te, .ref a_fa, .ref a_li, .int c_wa, .int c_re, .int c_us, .int c_di, .ref a_wy, .ref a_su, .long c_ha]))]) sz)) 0 0 (va_A ([(a_this, .inr (3, [.int c_th, .int c_n, .int c_tu, .int c_al, .ref a_ro, .ref a_fr, .int c_le, .ref a_bu, .ref a_no, .ref a_te, .ref a_fa, .ref a_li, .int c_wa, .int c_re, .int c_us, .int c_di, .ref a_wy, .ref a_su, .long c_ha]))]) sz) := by
  refine j_met (Qc := fun A => va_Qi post (fun u t => PostW D cy A ([(a_this, .inr (3, [.int u.1, .int c_n, .int u.2.1, .int u.2.2, .ref a_ro, .ref a_fr, .int c_le, .ref a_bu, .ref a_no, .ref a_te, .ref a_fa, .ref a_li, .int c_wa, .int c_re, .int c_us, .int c_di, .ref a_wy, .ref a_su, .long c_ha]))]) t) A) (by decide +kernel) rfl (Nat.le_of_ble_eq_true rfl) ?_
  intro p e s m below meth c A ls C0 hr hlocks hP hD hS hl
  obtain ⟨hx, hb, hml, hown, hts, hK, hA⟩ := id C0
  have hown : s.vm.findClass RX3 = some m.cls := hown
  have hl : lv_has ls 1 [(0, .ref a_this)] := hl
  unfold wp_X3_dropTurn at hw
  refine lv_aload_n hx hb dX3_dropTurn_0 rfl (lv_at hl 0 rfl) ?_
  refine lv_aload_n hx hb dX3_dropTurn_1 rfl (lv_at hl 0 rfl) ?_
  refine va_get (D := D) (ci := 3) (v := .int c_tu) (C := RX3) (T := TX3) (N := 19) hx hb hts k_X3_dropTurn_X3 hown hK hP 0 rfl rfl 2 (by decide) (hts _ q_X3_dropTurn_1) (fun _ h9 => h9) rfl dX3_dropTurn_2 ?_
  refine lv_if_le (tgt := 12) hx hb dX3_dropTurn_5 (by decide) (fun c_1 => ?_) (fun c_1 => ?_)
  · replace hw := hw.1 c_1
    refine lv_iconst (v := 1) hx hb dX3_dropTurn_12 (by decide) ?_
    refine va_put (D := D) (ci := 3) (v := .int 1) (ty := .int) (C := RX3) (T := TX3) (N := 19) hx hb hts k_X3_dropTurn_X3 tyX3 tyX3_ok nmX3 hown hK hP hD hS 0 rfl rfl 0 (by decide) (hts _ q_X3_dropTurn_2) (fun _ h9 => h9) rfl (by decide +kernel) rfl rfl (Nat.le_of_ble_eq_true rfl) dX3_dropTurn_13 (fun H locs hP hD hS => ?_)
    have hP : va_P D vwCl ([(a_this, .inr (3, [.int (1 : Int32), .int c_n, .int c_tu, .int c_al, .ref a_ro, .ref a_fr, .int c_le, .ref a_bu, .ref a_no, .ref a_te, .ref a_fa, .ref a_li, .int c_wa, .int c_re, .int c_us, .int c_di, .ref a_wy, .ref a_su, .long c_ha]))]) H := hP
    have hD : va_D A ([(a_this, .inr (3, [.int (1 : Int32), .int c_n, .int c_tu, .int c_al, .ref a_ro, .ref a_fr, .int c_le, .ref a_bu, .ref a_no, .ref a_te, .ref a_fa, .ref a_li, .int c_wa, .int c_re, .int c_us, .int c_di, .ref a_wy, .ref a_su, .long c_ha]))]) := hD
    refine lv_aload_n hx hb dX3_dropTurn_16 rfl (lv_at hl 0 rfl) ?_
    refine va_get (D := D) (ci := 3) (v := .int (1 : Int32)) (C := RX3) (T := TX3) (N := 19) hx hb hts k_X3_dropTurn_X3 hown hK hP 0 rfl rfl 0 (by decide) (hts _ q_X3_dropTurn_2) (fun _ h9 => h9) rfl dX3_dropTurn_17 ?_
    refine lv_if_le (tgt := 25) hx hb dX3_dropTurn_20 (by decide) (fun c_2 => ?_) (fun c_2 => ?_)
    · replace hw := hw.1 c_2
      refine lv_aload_n hx hb dX3_dropTurn_25 rfl (lv_at hl 0 rfl) ?_
      refine lv_dup hx hb dX3_dropTurn_26 rfl ?_
      refine va_get (D := D) (ci := 3) (v := .int c_tu) (C := RX3) (T := TX3) (N := 19) hx hb hts k_X3_dropTurn_X3 hown hK hP 0 rfl rfl 2 (by decide) (hts _ q_X3_dropTurn_1) (fun _ h9 => h9) rfl dX3_dropTurn_27 ?_
      refine lv_iconst (v := 1) hx hb dX3_dropTurn_30 (by decide) ?_
      refine lv_isub hx hb dX3_dropTurn_31 ?_
      refine lv_topi (fun x_3 ex_3 => ?_)
      replace hw := hw x_3 ex_3
      refine va_put (D := D) (ci := 3) (v := .int x_3) (ty := .int) (C := RX3) (T := TX3) (N := 19) hx hb hts k_X3_dropTurn_X3 tyX3 tyX3_ok nmX3 hown hK hP hD hS 0 rfl rfl 2 (by decide) (hts _ q_X3_dropTurn_1) (fun _ h9 => h9) rfl (by decide +kernel) rfl rfl (Nat.le_of_ble_eq_true rfl) dX3_dropTurn_32 (fun H locs hP hD hS => ?_)
      have hP : va_P D vwCl ([(a_this, .inr (3, [.int (1 : Int32), .int c_n, .int x_3, .int c_al, .ref a_ro, .ref a_fr, .int c_le, .ref a_bu, .ref a_no, .ref a_te, .ref a_fa, .ref a_li, .int c_wa, .int c_re, .int c_us, .int c_di, .ref a_wy, .ref a_su, .long c_ha]))]) H := hP
      have hD : va_D A ([(a_this, .inr (3, [.int (1 : Int32), .int c_n, .int x_3, .int c_al, .ref a_ro, .ref a_fr, .int c_le, .ref a_bu, .ref a_no, .ref a_te, .ref a_fa, .ref a_li, .int c_wa, .int c_re, .int c_us, .int c_di, .ref a_wy, .ref a_su, .long c_ha]))]) := hD
      refine lv_aload_n hx hb dX3_dropTurn_35 rfl (lv_at hl 0 rfl) ?_
      refine lv_dup hx hb dX3_dropTurn_36 rfl ?_
      refine va_get (D := D) (ci := 3) (v := .int c_al) (C := RX3) (T := TX3) (N := 19) hx hb hts k_X3_dropTurn_X3 hown hK hP 0 rfl rfl 3 (by decide) (hts _ q_X3_dropTurn_3) (fun _ h9 => h9) rfl dX3_dropTurn_37 ?_
      refine lv_iconst (v := 1) hx hb dX3_dropTurn_40 (by decide) ?_
      refine lv_iconst (v := 2) hx hb dX3_dropTurn_41 (by decide) ?_
      refine lv_aload_n hx hb dX3_dropTurn_42 rfl (lv_at hl 0 rfl) ?_
      refine va_get (D := D) (ci := 3) (v := .int x_3) (C := RX3) (T := TX3) (N := 19) hx hb hts k_X3_dropTurn_X3 hown hK hP 0 rfl rfl 2 (by decide) (hts _ q_X3_dropTurn_1) (fun _ h9 => h9) rfl dX3_dropTurn_43 ?_
      refine lv_imul hx hb dX3_dropTurn_46 ?_
      refine lv_ishl hx hb dX3_dropTurn_47 ?_
      refine lv_iconst (v := 1) hx hb dX3_dropTurn_48 (by decide) ?_
      refine lv_isub hx hb dX3_dropTurn_49 ?_
      refine lv_iand hx hb dX3_dropTurn_50 ?_
      refine lv_topi (fun x_4 ex_4 => ?_)
      replace hw := hw x_4 ex_4
      refine va_put (D := D) (ci := 3) (v := .int x_4) (ty := .int) (C := RX3) (T := TX3) (N := 19) hx hb hts k_X3_dropTurn_X3 tyX3 tyX3_ok nmX3 hown hK hP hD hS 0 rfl rfl 3 (by decide) (hts _ q_X3_dropTurn_3) (fun _ h9 => h9) rfl (by decide +kernel) rfl rfl (Nat.le_of_ble_eq_true rfl) dX3_dropTurn_51 (fun H locs hP hD hS => ?_)
      have hP : va_P D vwCl ([(a_this, .inr (3, [.int (1 : Int32), .int c_n, .int x_3, .int x_4, .ref a_ro, .ref a_fr, .int c_le, .ref a_bu, .ref a_no, .ref a_te, .ref a_fa, .ref a_li, .int c_wa, .int c_re, .int c_us, .int c_di, .ref a_wy, .ref a_su, .long c_ha]))]) H := hP
      have hD : va_D A ([(a_this, .inr (3, [.int (1 : Int32), .int c_n, .int x_3, .int x_4, .ref a_ro, .ref a_fr, .int c_le, .ref a_bu, .ref a_no, .ref a_te, .ref a_fa, .ref a_li, .int c_wa, .int c_re, .int c_us, .int c_di, .ref a_wy, .ref a_su, .long c_ha]))]) := hD
      refine lv_aload_n hx hb dX3_dropTurn_54 rfl (lv_at hl 0 rfl) ?_
      refine va_get (D := D) (ci := 3) (v := .int x_3) (C := RX3) (T := TX3) (N := 19) hx hb hts k_X3_dropTurn_X3 hown hK hP 0 rfl rfl 2 (by decide) (hts _ q_X3_dropTurn_1) (fun _ h9 => h9) rfl dX3_dropTurn_55 ?_
      exact j_iret (fun u => [(a_this, .inr (3, [.int u.1, .int c_n, .int u.2.1, .int u.2.2, .ref a_ro, .ref a_fr, .int c_le, .ref a_bu, .ref a_no, .ref a_te, .ref a_fa, .ref a_li, .int c_wa, .int c_re, .int c_us, .int c_di, .ref a_wy, .ref a_su, .long c_ha]))]) (((1 : Int32), x_3, x_4) : Int32 × Int32 × Int32) hx hb hr hlocks hK hP hD hS hw dX3_dropTurn_58
    · replace hw := hw.2 c_2
      refine lv_iconst (v := 0) hx hb dX3_dropTurn_23 (by decide) ?_
      exact j_iret (fun u => [(a_this, .inr (3, [.int u.1, .int c_n, .int u.2.1, .int u.2.2, .ref a_ro, .ref a_fr, .int c_le, .ref a_bu, .ref a_no, .ref a_te, .ref a_fa, .ref a_li, .int c_wa, .int c_re, .int c_us, .int c_di, .ref a_wy, .ref a_su, .long c_ha]))]) (((1 : Int32), c_tu, c_al) : Int32 × Int32 × Int32) hx hb hr hlocks hK hP hD hS hw dX3_dropTurn_24
  · replace hw := hw.2 c_1
    refine lv_iconst (v := 0) hx hb dX3_dropTurn_8 (by decide) ?_
    refine lv_goto (tgt := 13) hx hb dX3_dropTurn_9 (by decide) ?_
    refine va_put (D := D) (ci := 3) (v := .int 0) (ty := .int) (C := RX3) (T := TX3) (N := 19) hx hb hts k_X3_dropTurn_X3 tyX3 tyX3_ok nmX3 hown hK hP hD hS 0 rfl rfl 0 (by decide) (hts _ q_X3_dropTurn_2) (fun _ h9 => h9) rfl (by decide +kernel) rfl rfl (Nat.le_of_ble_eq_true rfl) dX3_dropTurn_13 (fun H locs hP hD hS => ?_)
    have hP : va_P D vwCl ([(a_this, .inr (3, [.int (0 : Int32), .int c_n, .int c_tu, .int c_al, .ref a_ro, .ref a_fr, .int c_le, .ref a_bu, .ref a_no, .ref a_te, .ref a_fa, .ref a_li, .int c_wa, .int c_re, .int c_us, .int c_di, .ref a_wy, .ref a_su, .long c_ha]))]) H := hP
    have hD : va_D A ([(a_this, .inr (3, [.int (0 : Int32), .int c_n, .int c_tu, .int c_al, .ref a_ro, .ref a_fr, .int c_le, .ref a_bu, .ref a_no, .ref a_te, .ref a_fa, .ref a_li, .int c_wa, .int c_re, .int c_us, .int c_di, .ref a_wy, .ref a_su, .long c_ha]))]) := hD
    refine lv_aload_n hx hb dX3_dropTurn_16 rfl (lv_at hl 0 rfl) ?_
    refine va_get (D := D) (ci := 3) (v := .int (0 : Int32)) (C := RX3) (T := TX3) (N := 19) hx hb hts k_X3_dropTurn_X3 hown hK hP 0 rfl rfl 0 (by decide) (hts _ q_X3_dropTurn_2) (fun _ h9 => h9) rfl dX3_dropTurn_17 ?_
    refine lv_if_le (tgt := 25) hx hb dX3_dropTurn_20 (by decide) (fun c_5 => ?_) (fun c_5 => ?_)
    · replace hw := hw.1 c_5
      refine lv_aload_n hx hb dX3_dropTurn_25 rfl (lv_at hl 0 rfl) ?_
      refine lv_dup hx hb dX3_dropTurn_26 rfl ?_
      refine va_get (D := D) (ci := 3) (v := .int c_tu) (C := RX3) (T := TX3) (N := 19) hx hb hts k_X3_dropTurn_X3 hown hK hP 0 rfl rfl 2 (by decide) (hts _ q_X3_dropTurn_1) (fun _ h9 => h9) rfl dX3_dropTurn_27 ?_
      refine lv_iconst (v := 1) hx hb dX3_dropTurn_30 (by decide) ?_
      refine lv_isub hx hb dX3_dropTurn_31 ?_
      refine lv_topi (fun x_6 ex_6 => ?_)
      replace hw := hw x_6 ex_6
      refine va_put (D := D) (ci := 3) (v := .int x_6) (ty := .int) (C := RX3) (T := TX3) (N := 19) hx hb hts k_X3_dropTurn_X3 tyX3 tyX3_ok nmX3 hown hK hP hD hS 0 rfl rfl 2 (by decide) (hts _ q_X3_dropTurn_1) (fun _ h9 => h9) rfl (by decide +kernel) rfl rfl (Nat.le_of_ble_eq_true rfl) dX3_dropTurn_32 (fun H locs hP hD hS => ?_)
      have hP : va_P D vwCl ([(a_this, .inr (3, [.int (0 : Int32), .int c_n, .int x_6, .int c_al, .ref a_ro, .ref a_fr, .int c_le, .ref a_bu, .ref a_no, .ref a_te, .ref a_fa, .ref a_li, .int c_wa, .int c_re, .int c_us, .int c_di, .ref a_wy, .ref a_su, .long c_ha]))]) H := hP
      have hD : va_D A ([(a_this, .inr (3, [.int (0 : Int32), .int c_n, .int x_6, .int c_al, .ref a_ro, .ref a_fr, .int c_le, .ref a_bu, .ref a_no, .ref a_te, .ref a_fa, .ref a_li, .int c_wa, .int c_re, .int c_us, .int c_di, .ref a_wy, .ref a_su, .long c_ha]))]) := hD
      refine lv_aload_n hx hb dX3_dropTurn_35 rfl (lv_at hl 0 rfl) ?_
      refine lv_dup hx hb dX3_dropTurn_36 rfl ?_
      refine va_get (D := D) (ci := 3) (v := .int c_al) (C := RX3) (T := TX3) (N := 19) hx hb hts k_X3_dropTurn_X3 hown hK hP 0 rfl rfl 3 (by decide) (hts _ q_X3_dropTurn_3) (fun _ h9 => h9) rfl dX3_dropTurn_37 ?_
      refine lv_iconst (v := 1) hx hb dX3_dropTurn_40 (by decide) ?_
      refine lv_iconst (v := 2) hx hb dX3_dropTurn_41 (by decide) ?_
      refine lv_aload_n hx hb dX3_dropTurn_42 rfl (lv_at hl 0 rfl) ?_
      refine va_get (D := D) (ci := 3) (v := .int x_6) (C := RX3) (T := TX3) (N := 19) hx hb hts k_X3_dropTurn_X3 hown hK hP 0 rfl rfl 2 (by decide) (hts _ q_X3_dropTurn_1) (fun _ h9 => h9) rfl dX3_dropTurn_43 ?_
      refine lv_imul hx hb dX3_dropTurn_46 ?_
      refine lv_ishl hx hb dX3_dropTurn_47 ?_
      refine lv_iconst (v := 1) hx hb dX3_dropTurn_48 (by decide) ?_
      refine lv_isub hx hb dX3_dropTurn_49 ?_
      refine lv_iand hx hb dX3_dropTurn_50 ?_
      refine lv_topi (fun x_7 ex_7 => ?_)
      replace hw := hw x_7 ex_7
      refine va_put (D := D) (ci := 3) (v := .int x_7) (ty := .int) (C := RX3) (T := TX3) (N := 19) hx hb hts k_X3_dropTurn_X3 tyX3 tyX3_ok nmX3 hown hK hP hD hS 0 rfl rfl 3 (by decide) (hts _ q_X3_dropTurn_3) (fun _ h9 => h9) rfl (by decide +kernel) rfl rfl (Nat.le_of_ble_eq_true rfl) dX3_dropTurn_51 (fun H locs hP hD hS => ?_)
      have hP : va_P D vwCl ([(a_this, .inr (3, [.int (0 : Int32), .int c_n, .int x_6, .int x_7, .ref a_ro, .ref a_fr, .int c_le, .ref a_bu, .ref a_no, .ref a_te, .ref a_fa, .ref a_li, .int c_wa, .int c_re, .int c_us, .int c_di, .ref a_wy, .ref a_su, .long c_ha]))]) H := hP
      have hD : va_D A ([(a_this, .inr (3, [.int (0 : Int32), .int c_n, .int x_6, .int x_7, .ref a_ro, .ref a_fr, .int c_le, .ref a_bu, .ref a_no, .ref a_te, .ref a_fa, .ref a_li, .int c_wa, .int c_re, .int c_us, .int c_di, .ref a_wy, .ref a_su, .long c_ha]))]) := hD
      refine lv_aload_n hx hb dX3_dropTurn_54 rfl (lv_at hl 0 rfl) ?_
      refine va_get (D := D) (ci := 3) (v := .int x_6) (C := RX3) (T := TX3) (N := 19) hx hb hts k_X3_dropTurn_X3 hown hK hP 0 rfl rfl 2 (by decide) (hts _ q_X3_dropTurn_1) (fun _ h9 => h9) rfl dX3_dropTurn_55 ?_
      exact j_iret (fun u => [(a_this, .inr (3, [.int u.1, .int c_n, .int u.2.1, .int u.2.2, .ref a_ro, .ref a_fr, .int c_le, .ref a_bu, .ref a_no, .ref a_te, .ref a_fa, .ref a_li, .int c_wa, .int c_re, .int c_us, .int c_di, .ref a_wy, .ref a_su, .long c_ha]))]) (((0 : Int32), x_6, x_7) : Int32 × Int32 × Int32) hx hb hr hlocks hK hP hD hS hw dX3_dropTurn_58
    · replace hw := hw.2 c_5
      refine lv_iconst (v := 0) hx hb dX3_dropTurn_23 (by decide) ?_
      exact j_iret (fun u => [(a_this, .inr (3, [.int u.1, .int c_n, .int u.2.1, .int u.2.2, .ref a_ro, .ref a_fr, .int c_le, .ref a_bu, .ref a_no, .ref a_te, .ref a_fa, .ref a_li, .int c_wa, .int c_re, .int c_us, .int c_di, .ref a_wy, .ref a_su, .long c_ha]))]) (((0 : Int32), c_tu, c_al) : Int32 × Int32 × Int32) hx hb hr hlocks hK hP hD hS hw dX3_dropTurn_24
theorem q_X3_allow_1 : Cond.fieldLink RX3 53 "TwistedRowModel" "turns" "I" ∈ wsX3_allow := List.mem_of_getElem? (i := 1) rfl
theorem k_X3_allow_X3 : ∀ w ∈ wsX30, w ∈ wsX3_allow := my_in _ [8, 9, 10, 11, 12, 13, 14, 15, 16, 17, 18, 19, 20, 21, 22, 23, 24, 25, 26] (by decide +kernel)
theorem q_X3_allow_2 : Cond.fieldLink RX3 46 "TwistedRowModel" "thrown" "I" ∈ wsX3_allow := List.mem_of_getElem? (i := 2) rfl
theorem q_X3_allow_3 : Cond.fieldLink RX3 96 "TwistedRowModel" "allowed" "I" ∈ wsX3_allow := List.mem_of_getElem? (i := 3) rfl
def wp_X3_allow (c_tu : Int32) (c_al : Int32) (p_1 : Int32) (post : Int32 → (Int32 × Int32) → Prop) : Prop := (wp_X3_within p_1 (0 : Int32) ((1 <<< ((2 * c_tu) &&& 31)) - 1) (fun r_2 u_1 => ((r_2 = 0 → (((1 : Int32) ≤ 0 → (post c_al ((1 : Int32), p_1))) ∧ (¬ (1 : Int32) ≤ 0 → (post 0 ((1 : Int32), c_al))))) ∧ (¬ r_2 = 0 → (((0 : Int32) ≤ 0 → (post c_al ((0 : Int32), p_1))) ∧ (¬ (0 : Int32) ≤ 0 → (post 0 ((0 : Int32), c_al))))))))
set_option maxHeartbeats 4000000 in
set_option maxRecDepth 100000 in
theorem c_X3_allow (l : Launch) (D : va_G) (cy : Nat → ClassId) (a_this : Nat) (a_ro : Nat) (a_fr : Nat) (a_bu : Nat) (a_no : Nat) (a_te : Nat) (a_fa : Nat) (a_li : Nat) (a_wy : Nat) (a_su : Nat) (c_th : Int32) (c_n : Int32) (c_tu : Int32) (c_al : Int32) (c_le : Int32) (c_wa : Int32) (c_re : Int32) (c_us : Int32) (c_di : Int32) (c_ha : Int64) (p_1 : Int32) {post : Int32 → (Int32 × Int32) → Prop} (hw : wp_X3_allow c_tu c_al p_1 post) (sz : Nat) : Met l yX3_allow wsX3_allow ({ frames := 1, cells := 0, slots := 0, locals := 22 }) (va_Pc [.ref a_this, .int p_1] (PreW D cy ([(a_this, .inr (3, [.int c_th, .int c_n, .int c_tu, .int c_al, .ref a_ro, .ref a_fr, .int c_le, .ref a_bu, .ref a_no, .ref a_te, .ref a_fa, .ref a_li, .int c_wa, .int c_re, .int c_us, .int c_di, .ref a_wy, .ref a_su, .long c_ha]))]) sz)) (va_Qi post (fun u t => PostW D cy (va_A ([(a_this, .inr (3, [.int c_th, .int c_n, .int c_tu, .int c_al, .ref a_ro, .ref a_fr, .int c_le, .ref a_bu, .ref a_no, .ref a_te, .ref a_fa, .ref a_li, .int c_wa, .int c_re, .int c_us, .int c_di, .ref a_wy, .ref a_su, .long c_ha]))]) sz) ([(a_this, .inr (3, [.int u.1, .int c_n, .int c_tu, .int u.2, .ref a_ro, .ref a_fr, .int c_le, .ref a_bu, .ref a_no, .ref a_te, .ref a_fa, .ref a_li, .int c_wa, .int c_re, .int c_us, .int c_di, .ref a_wy, .ref a_su, .long c_ha]))]) t) (va_A ([(a_this, .inr (3, [.int c_th, .int c_n, .int c_tu, .int c_al, .ref a_ro, .ref a_fr, .int c_le, .ref a_bu, .ref a_no, .ref a_te, .ref a_fa, .ref a_li, .int c_wa, .int c_re, .int c_us, .int c_di, .ref a_wy, .ref a_su, .long c_ha]))]) sz)) 0 0 (va_A ([(a_this, .inr (3, [.int c_th, .int c_n, .int c_tu, .int c_al, .ref a_ro, .ref a_fr, .int c_le, .ref a_bu, .ref a_no, .ref a_te, .ref a_fa, .ref a_li, .int c_wa, .int c_re, .int c_us, .int c_di, .ref a_wy, .ref a_su, .long c_ha]))]) sz) := by
  refine j_met (Qc := fun A => va_Qi post (fun u t => PostW D cy A ([(a_this, .inr (3, [.int u.1, .int c_n, .int c_tu, .int u.2, .ref a_ro, .ref a_fr, .int c_le, .ref a_bu, .ref a_no, .ref a_te, .ref a_fa, .ref a_li, .int c_wa, .int c_re, .int c_us, .int c_di, .ref a_wy, .ref a_su, .long c_ha]))]) t) A) (by decide +kernel) rfl (Nat.le_of_ble_eq_true rfl) ?_
  intro p e s m below meth c A ls C0 hr hlocks hP hD hS hl
  obtain ⟨hx, hb, hml, hown, hts, hK, hA⟩ := id C0
  have hown : s.vm.findClass RX3 = some m.cls := hown
  have hl : lv_has ls 3 [(0, .ref a_this), (1, .int p_1)] := hl
  unfold wp_X3_allow at hw
  refine lv_aload_n hx hb dX3_allow_0 rfl (lv_at hl 0 rfl) ?_
  refine lv_iload_n hx hb dX3_allow_1 rfl (lv_at hl 1 rfl) ?_
  refine lv_iconst (v := 0) hx hb dX3_allow_2 (by decide) ?_
  refine lv_iconst (v := 1) hx hb dX3_allow_3 (by decide) ?_
  refine lv_iconst (v := 2) hx hb dX3_allow_4 (by decide) ?_
  refine lv_aload_n hx hb dX3_allow_5 rfl (lv_at hl 0 rfl) ?_
  refine va_get (D := D) (ci := 3) (v := .int c_tu) (C := RX3) (T := TX3) (N := 19) hx hb hts k_X3_allow_X3 hown hK hP 0 rfl rfl 2 (by decide) (hts _ q_X3_allow_1) (fun _ h9 => h9) rfl dX3_allow_6 ?_
  refine lv_imul hx hb dX3_allow_9 ?_
  refine lv_ishl hx hb dX3_allow_10 ?_
  refine lv_iconst (v := 1) hx hb dX3_allow_11 (by decide) ?_
  refine lv_isub hx hb dX3_allow_12 ?_
  refine j_calli (wr := [(a_this, .inr (3, [.int c_th, .int c_n, .int c_tu, .int c_al, .ref a_ro, .ref a_fr, .int c_le, .ref a_bu, .ref a_no, .ref a_te, .ref a_fa, .ref a_li, .int c_wa, .int c_re, .int c_us, .int c_di, .ref a_wy, .ref a_su, .long c_ha]))]) (va_runS (As := [.int p_1, .int 0, .int ((1 <<< ((2 * c_tu) &&& 31)) - 1)]) (rest := [.ref a_this]) ⟨hx, hb, hml, hown, hts⟩ (c_X3_within l D cy p_1 (0 : Int32) ((1 <<< ((2 * c_tu) &&& 31)) - 1) hw s.heap.size) (va_cwS 3 hts gX3_allow_X3_within rfl rfl rfl (by decide +kernel) ⟨Nat.le_of_ble_eq_true rfl, Nat.le_of_ble_eq_true rfl⟩) (j_preS hK hP hD (isC := []) rfl (by decide +kernel)) rfl rfl hl.1 rfl (lv_room (Nat.le_of_ble_eq_true rfl)) dX3_allow_13 ⟨Nat.le_of_ble_eq_true rfl, Nat.le_of_ble_eq_true rfl⟩) hP hD hS hA [] [0] rfl rfl (by decide +kernel) (by decide +kernel) (fun u_1 => [(a_this, .inr (3, [.int c_th, .int c_n, .int c_tu, .int c_al, .ref a_ro, .ref a_fr, .int c_le, .ref a_bu, .ref a_no, .ref a_te, .ref a_fa, .ref a_li, .int c_wa, .int c_re, .int c_us, .int c_di, .ref a_wy, .ref a_su, .long c_ha]))]) [0] (by decide +kernel) (fun u => rfl) (fun r_2 u_1 H locs hw hP hD hS => ?_)
  have hP : va_P D vwCl ([(a_this, .inr (3, [.int c_th, .int c_n, .int c_tu, .int c_al, .ref a_ro, .ref a_fr, .int c_le, .ref a_bu, .ref a_no, .ref a_te, .ref a_fa, .ref a_li, .int c_wa, .int c_re, .int c_us, .int c_di, .ref a_wy, .ref a_su, .long c_ha]))]) H := hP
  have hD : va_D A ([(a_this, .inr (3, [.int c_th, .int c_n, .int c_tu, .int c_al, .ref a_ro, .ref a_fr, .int c_le, .ref a_bu, .ref a_no, .ref a_te, .ref a_fa, .ref a_li, .int c_wa, .int c_re, .int c_us, .int c_di, .ref a_wy, .ref a_su, .long c_ha]))]) := hD
  refine lv_if_eq (tgt := 23) hx hb dX3_allow_16 (by decide) (fun c_3 => ?_) (fun c_3 => ?_)
  · replace hw := hw.1 c_3
    refine lv_iconst (v := 1) hx hb dX3_allow_23 (by decide) ?_
    refine va_put (D := D) (ci := 3) (v := .int 1) (ty := .int) (C := RX3) (T := TX3) (N := 19) hx hb hts k_X3_allow_X3 tyX3 tyX3_ok nmX3 hown hK hP hD hS 0 rfl rfl 0 (by decide) (hts _ q_X3_allow_2) (fun _ h9 => h9) rfl (by decide +kernel) rfl rfl (Nat.le_of_ble_eq_true rfl) dX3_allow_24 (fun H locs hP hD hS => ?_)
    have hP : va_P D vwCl ([(a_this, .inr (3, [.int (1 : Int32), .int c_n, .int c_tu, .int c_al, .ref a_ro, .ref a_fr, .int c_le, .ref a_bu, .ref a_no, .ref a_te, .ref a_fa, .ref a_li, .int c_wa, .int c_re, .int c_us, .int c_di, .ref a_wy, .ref a_su, .long c_ha]))]) H := hP
    have hD : va_D A ([(a_this, .inr (3, [.int (1 : Int32), .int c_n, .int c_tu, .int c_al, .ref a_ro, .ref a_fr, .int c_le, .ref a_bu, .ref a_no, .ref a_te, .ref a_fa, .ref a_li, .int c_wa, .int c_re, .int c_us, .int c_di, .ref a_wy, .ref a_su, .long c_ha]))]) := hD
    refine lv_aload_n hx hb dX3_allow_27 rfl (lv_at hl 0 rfl) ?_
    refine va_get (D := D) (ci := 3) (v := .int (1 : Int32)) (C := RX3) (T := TX3) (N := 19) hx hb hts k_X3_allow_X3 hown hK hP 0 rfl rfl 0 (by decide) (hts _ q_X3_allow_2) (fun _ h9 => h9) rfl dX3_allow_28 ?_
    refine lv_if_le (tgt := 36) hx hb dX3_allow_31 (by decide) (fun c_4 => ?_) (fun c_4 => ?_)
    · replace hw := hw.1 c_4
      refine lv_aload_n hx hb dX3_allow_36 rfl (lv_at hl 0 rfl) ?_
      refine va_get (D := D) (ci := 3) (v := .int c_al) (C := RX3) (T := TX3) (N := 19) hx hb hts k_X3_allow_X3 hown hK hP 0 rfl rfl 3 (by decide) (hts _ q_X3_allow_3) (fun _ h9 => h9) rfl dX3_allow_37 ?_
      refine lv_istore_n (lv' := [(2, .int c_al), (0, .ref a_this), (1, .int p_1)]) hx hb dX3_allow_40 rfl hl (by decide) rfl (fun ls hl => ?_)
      refine lv_aload_n hx hb dX3_allow_41 rfl (lv_at hl 1 rfl) ?_
      refine lv_iload_n hx hb dX3_allow_42 rfl (lv_at hl 2 rfl) ?_
      refine va_put (D := D) (ci := 3) (v := .int p_1) (ty := .int) (C := RX3) (T := TX3) (N := 19) hx hb hts k_X3_allow_X3 tyX3 tyX3_ok nmX3 hown hK hP hD hS 0 rfl rfl 3 (by decide) (hts _ q_X3_allow_3) (fun _ h9 => h9) rfl (by decide +kernel) rfl rfl (Nat.le_of_ble_eq_true rfl) dX3_allow_43 (fun H locs hP hD hS => ?_)
      have hP : va_P D vwCl ([(a_this, .inr (3, [.int (1 : Int32), .int c_n, .int c_tu, .int p_1, .ref a_ro, .ref a_fr, .int c_le, .ref a_bu, .ref a_no, .ref a_te, .ref a_fa, .ref a_li, .int c_wa, .int c_re, .int c_us, .int c_di, .ref a_wy, .ref a_su, .long c_ha]))]) H := hP
      have hD : va_D A ([(a_this, .inr (3, [.int (1 : Int32), .int c_n, .int c_tu, .int p_1, .ref a_ro, .ref a_fr, .int c_le, .ref a_bu, .ref a_no, .ref a_te, .ref a_fa, .ref a_li, .int c_wa, .int c_re, .int c_us, .int c_di, .ref a_wy, .ref a_su, .long c_ha]))]) := hD
      refine lv_iload_n hx hb dX3_allow_46 rfl (lv_at hl 0 rfl) ?_
      exact j_iret (fun u => [(a_this, .inr (3, [.int u.1, .int c_n, .int c_tu, .int u.2, .ref a_ro, .ref a_fr, .int c_le, .ref a_bu, .ref a_no, .ref a_te, .ref a_fa, .ref a_li, .int c_wa, .int c_re, .int c_us, .int c_di, .ref a_wy, .ref a_su, .long c_ha]))]) (((1 : Int32), p_1) : Int32 × Int32) hx hb hr hlocks hK hP hD hS hw dX3_allow_47
    · replace hw := hw.2 c_4
      refine lv_iconst (v := 0) hx hb dX3_allow_34 (by decide) ?_
      exact j_iret (fun u => [(a_this, .inr (3, [.int u.1, .int c_n, .int c_tu, .int u.2, .ref a_ro, .ref a_fr, .int c_le, .ref a_bu, .ref a_no, .ref a_te, .ref a_fa, .ref a_li, .int c_wa, .int c_re, .int c_us, .int c_di, .ref a_wy, .ref a_su, .long c_ha]))]) (((1 : Int32), c_al) : Int32 × Int32) hx hb hr hlocks hK hP hD hS hw dX3_allow_35
  · replace hw := hw.2 c_3
    refine lv_iconst (v := 0) hx hb dX3_allow_19 (by decide) ?_
    refine lv_goto (tgt := 24) hx hb dX3_allow_20 (by decide) ?_
    refine va_put (D := D) (ci := 3) (v := .int 0) (ty := .int) (C := RX3) (T := TX3) (N := 19) hx hb hts k_X3_allow_X3 tyX3 tyX3_ok nmX3 hown hK hP hD hS 0 rfl rfl 0 (by decide) (hts _ q_X3_allow_2) (fun _ h9 => h9) rfl (by decide +kernel) rfl rfl (Nat.le_of_ble_eq_true rfl) dX3_allow_24 (fun H locs hP hD hS => ?_)
    have hP : va_P D vwCl ([(a_this, .inr (3, [.int (0 : Int32), .int c_n, .int c_tu, .int c_al, .ref a_ro, .ref a_fr, .int c_le, .ref a_bu, .ref a_no, .ref a_te, .ref a_fa, .ref a_li, .int c_wa, .int c_re, .int c_us, .int c_di, .ref a_wy, .ref a_su, .long c_ha]))]) H := hP
    have hD : va_D A ([(a_this, .inr (3, [.int (0 : Int32), .int c_n, .int c_tu, .int c_al, .ref a_ro, .ref a_fr, .int c_le, .ref a_bu, .ref a_no, .ref a_te, .ref a_fa, .ref a_li, .int c_wa, .int c_re, .int c_us, .int c_di, .ref a_wy, .ref a_su, .long c_ha]))]) := hD
    refine lv_aload_n hx hb dX3_allow_27 rfl (lv_at hl 0 rfl) ?_
    refine va_get (D := D) (ci := 3) (v := .int (0 : Int32)) (C := RX3) (T := TX3) (N := 19) hx hb hts k_X3_allow_X3 hown hK hP 0 rfl rfl 0 (by decide) (hts _ q_X3_allow_2) (fun _ h9 => h9) rfl dX3_allow_28 ?_
    refine lv_if_le (tgt := 36) hx hb dX3_allow_31 (by decide) (fun c_5 => ?_) (fun c_5 => ?_)
    · replace hw := hw.1 c_5
      refine lv_aload_n hx hb dX3_allow_36 rfl (lv_at hl 0 rfl) ?_
      refine va_get (D := D) (ci := 3) (v := .int c_al) (C := RX3) (T := TX3) (N := 19) hx hb hts k_X3_allow_X3 hown hK hP 0 rfl rfl 3 (by decide) (hts _ q_X3_allow_3) (fun _ h9 => h9) rfl dX3_allow_37 ?_
      refine lv_istore_n (lv' := [(2, .int c_al), (0, .ref a_this), (1, .int p_1)]) hx hb dX3_allow_40 rfl hl (by decide) rfl (fun ls hl => ?_)
      refine lv_aload_n hx hb dX3_allow_41 rfl (lv_at hl 1 rfl) ?_
      refine lv_iload_n hx hb dX3_allow_42 rfl (lv_at hl 2 rfl) ?_
      refine va_put (D := D) (ci := 3) (v := .int p_1) (ty := .int) (C := RX3) (T := TX3) (N := 19) hx hb hts k_X3_allow_X3 tyX3 tyX3_ok nmX3 hown hK hP hD hS 0 rfl rfl 3 (by decide) (hts _ q_X3_allow_3) (fun _ h9 => h9) rfl (by decide +kernel) rfl rfl (Nat.le_of_ble_eq_true rfl) dX3_allow_43 (fun H locs hP hD hS => ?_)
      have hP : va_P D vwCl ([(a_this, .inr (3, [.int (0 : Int32), .int c_n, .int c_tu, .int p_1, .ref a_ro, .ref a_fr, .int c_le, .ref a_bu, .ref a_no, .ref a_te, .ref a_fa, .ref a_li, .int c_wa, .int c_re, .int c_us, .int c_di, .ref a_wy, .ref a_su, .long c_ha]))]) H := hP
      have hD : va_D A ([(a_this, .inr (3, [.int (0 : Int32), .int c_n, .int c_tu, .int p_1, .ref a_ro, .ref a_fr, .int c_le, .ref a_bu, .ref a_no, .ref a_te, .ref a_fa, .ref a_li, .int c_wa, .int c_re, .int c_us, .int c_di, .ref a_wy, .ref a_su, .long c_ha]))]) := hD
      refine lv_iload_n hx hb dX3_allow_46 rfl (lv_at hl 0 rfl) ?_
      exact j_iret (fun u => [(a_this, .inr (3, [.int u.1, .int c_n, .int c_tu, .int u.2, .ref a_ro, .ref a_fr, .int c_le, .ref a_bu, .ref a_no, .ref a_te, .ref a_fa, .ref a_li, .int c_wa, .int c_re, .int c_us, .int c_di, .ref a_wy, .ref a_su, .long c_ha]))]) (((0 : Int32), p_1) : Int32 × Int32) hx hb hr hlocks hK hP hD hS hw dX3_allow_47
    · replace hw := hw.2 c_5
      refine lv_iconst (v := 0) hx hb dX3_allow_34 (by decide) ?_
      exact j_iret (fun u => [(a_this, .inr (3, [.int u.1, .int c_n, .int c_tu, .int u.2, .ref a_ro, .ref a_fr, .int c_le, .ref a_bu, .ref a_no, .ref a_te, .ref a_fa, .ref a_li, .int c_wa, .int c_re, .int c_us, .int c_di, .ref a_wy, .ref a_su, .long c_ha]))]) (((0 : Int32), c_al) : Int32 × Int32) hx hb hr hlocks hK hP hD hS hw dX3_allow_35
theorem q_X3_exchange_1 : Cond.fieldLink RX3 46 "TwistedRowModel" "thrown" "I" ∈ wsX3_exchange := List.mem_of_getElem? (i := 1) rfl
theorem k_X3_exchange_X3 : ∀ w ∈ wsX30, w ∈ wsX3_exchange := my_in _ [12, 13, 14, 15, 16, 17, 18, 19, 20, 21, 22, 23, 24, 25, 26, 27, 28, 29, 30] (by decide +kernel)
theorem q_X3_exchange_2 : Cond.fieldLink RX3 13 "TwistedRowModel" "row" "[I" ∈ wsX3_exchange := List.mem_of_getElem? (i := 2) rfl
def wp_X3_exchange (c_n : Int32) (c_ro : Nat → Int32) (p_1 : Int32) (p_2 : Int32) (post : Int32 → (Int32 × (Nat → Int32)) → Prop) : Prop := (wp_X3_isPlace c_n p_1 (fun r_2 u_1 => ((r_2 = 0 → (((1 : Int32) ≤ 0 → (vp_in p_1 8 ∧ (∀ x_6 : Int32, x_6 = c_ro (p_1 : Int32).toNatClampNeg → (vp_in p_2 8 ∧ (vp_in p_1 8 ∧ (vp_in p_2 8 ∧ (vp_in p_1 8 ∧ (post ((upd (upd c_ro ((p_1 : Int32).toNatClampNeg) (c_ro (p_2 : Int32).toNatClampNeg)) ((p_2 : Int32).toNatClampNeg) x_6) (p_1 : Int32).toNatClampNeg) ((1 : Int32), upd (upd c_ro ((p_1 : Int32).toNatClampNeg) (c_ro (p_2 : Int32).toNatClampNeg)) ((p_2 : Int32).toNatClampNeg) x_6))))))))) ∧ (¬ (1 : Int32) ≤ 0 → (post 0 ((1 : Int32), c_ro))))) ∧ (¬ r_2 = 0 → (wp_X3_isPlace c_n p_2 (fun r_12 u_11 => ((r_12 = 0 → (((1 : Int32) ≤ 0 → (vp_in p_1 8 ∧ (∀ x_16 : Int32, x_16 = c_ro (p_1 : Int32).toNatClampNeg → (vp_in p_2 8 ∧ (vp_in p_1 8 ∧ (vp_in p_2 8 ∧ (vp_in p_1 8 ∧ (post ((upd (upd c_ro ((p_1 : Int32).toNatClampNeg) (c_ro (p_2 : Int32).toNatClampNeg)) ((p_2 : Int32).toNatClampNeg) x_16) (p_1 : Int32).toNatClampNeg) ((1 : Int32), upd (upd c_ro ((p_1 : Int32).toNatClampNeg) (c_ro (p_2 : Int32).toNatClampNeg)) ((p_2 : Int32).toNatClampNeg) x_16))))))))) ∧ (¬ (1 : Int32) ≤ 0 → (post 0 ((1 : Int32), c_ro))))) ∧ (¬ r_12 = 0 → (((0 : Int32) ≤ 0 → (vp_in p_1 8 ∧ (∀ x_23 : Int32, x_23 = c_ro (p_1 : Int32).toNatClampNeg → (vp_in p_2 8 ∧ (vp_in p_1 8 ∧ (vp_in p_2 8 ∧ (vp_in p_1 8 ∧ (post ((upd (upd c_ro ((p_1 : Int32).toNatClampNeg) (c_ro (p_2 : Int32).toNatClampNeg)) ((p_2 : Int32).toNatClampNeg) x_23) (p_1 : Int32).toNatClampNeg) ((0 : Int32), upd (upd c_ro ((p_1 : Int32).toNatClampNeg) (c_ro (p_2 : Int32).toNatClampNeg)) ((p_2 : Int32).toNatClampNeg) x_23))))))))) ∧ (¬ (0 : Int32) ≤ 0 → (post 0 ((0 : Int32), c_ro))))))))))))
set_option maxHeartbeats 4000000 in
set_option maxRecDepth 100000 in
theorem c_X3_exchange (l : Launch) (D : va_G) (cy : Nat → ClassId) (a_this : Nat) (a_ro : Nat) (a_fr : Nat) (a_bu : Nat) (a_no : Nat) (a_te : Nat) (a_fa : Nat) (a_li : Nat) (a_wy : Nat) (a_su : Nat) (c_th : Int32) (c_n : Int32) (c_tu : Int32) (c_al : Int32) (c_le : Int32) (c_wa : Int32) (c_re : Int32) (c_us : Int32) (c_di : Int32) (c_ha : Int64) (c_ro : Nat → Int32) (p_1 : Int32) (p_2 : Int32) {post : Int32 → (Int32 × (Nat → Int32)) → Prop} (hw : wp_X3_exchange c_n c_ro p_1 p_2 post) (sz : Nat) : Met l yX3_exchange wsX3_exchange ({ frames := 2, cells := 0, slots := 0, locals := 43 }) (va_Pc [.ref a_this, .int p_1, .int p_2] (PreW D cy ([(a_this, .inr (3, [.int c_th, .int c_n, .int c_tu, .int c_al, .ref a_ro, .ref a_fr, .int c_le, .ref a_bu, .ref a_no, .ref a_te, .ref a_fa, .ref a_li, .int c_wa, .int c_re, .int c_us, .int c_di, .ref a_wy, .ref a_su, .long c_ha])), (a_ro, .inl (cy 0, 8, .inl c_ro))]) sz)) (va_Qi post (fun u t => PostW D cy (va_A ([(a_this, .inr (3, [.int c_th, .int c_n, .int c_tu, .int c_al, .ref a_ro, .ref a_fr, .int c_le, .ref a_bu, .ref a_no, .ref a_te, .ref a_fa, .ref a_li, .int c_wa, .int c_re, .int c_us, .int c_di, .ref a_wy, .ref a_su, .long c_ha])), (a_ro, .inl (cy 0, 8, .inl c_ro))]) sz) ([(a_this, .inr (3, [.int u.1, .int c_n, .int c_tu, .int c_al, .ref a_ro, .ref a_fr, .int c_le, .ref a_bu, .ref a_no, .ref a_te, .ref a_fa, .ref a_li, .int c_wa, .int c_re, .int c_us, .int c_di, .ref a_wy, .ref a_su, .long c_ha])), (a_ro, .inl (cy 0, 8, .inl u.2))]) t) (va_A ([(a_this, .inr (3, [.int c_th, .int c_n, .int c_tu, .int c_al, .ref a_ro, .ref a_fr, .int c_le, .ref a_bu, .ref a_no, .ref a_te, .ref a_fa, .ref a_li, .int c_wa, .int c_re, .int c_us, .int c_di, .ref a_wy, .ref a_su, .long c_ha])), (a_ro, .inl (cy 0, 8, .inl c_ro))]) sz)) 0 0 (va_A ([(a_this, .inr (3, [.int c_th, .int c_n, .int c_tu, .int c_al, .ref a_ro, .ref a_fr, .int c_le, .ref a_bu, .ref a_no, .ref a_te, .ref a_fa, .ref a_li, .int c_wa, .int c_re, .int c_us, .int c_di, .ref a_wy, .ref a_su, .long c_ha])), (a_ro, .inl (cy 0, 8, .inl c_ro))]) sz) := by
  refine j_met (Qc := fun A => va_Qi post (fun u t => PostW D cy A ([(a_this, .inr (3, [.int u.1, .int c_n, .int c_tu, .int c_al, .ref a_ro, .ref a_fr, .int c_le, .ref a_bu, .ref a_no, .ref a_te, .ref a_fa, .ref a_li, .int c_wa, .int c_re, .int c_us, .int c_di, .ref a_wy, .ref a_su, .long c_ha])), (a_ro, .inl (cy 0, 8, .inl u.2))]) t) A) (by decide +kernel) rfl (Nat.le_of_ble_eq_true rfl) ?_
  intro p e s m below meth c A ls C0 hr hlocks hP hD hS hl
  obtain ⟨hx, hb, hml, hown, hts, hK, hA⟩ := id C0
  have hown : s.vm.findClass RX3 = some m.cls := hown
  have hl : lv_has ls 4 [(0, .ref a_this), (1, .int p_1), (2, .int p_2)] := hl
  unfold wp_X3_exchange at hw
  refine lv_aload_n hx hb dX3_exchange_0 rfl (lv_at hl 0 rfl) ?_
  refine lv_aload_n hx hb dX3_exchange_1 rfl (lv_at hl 0 rfl) ?_
  refine lv_iload_n hx hb dX3_exchange_2 rfl (lv_at hl 1 rfl) ?_
  refine j_calli (wr := [(a_ro, .inl (cy 0, 8, .inl c_ro))]) (va_runV (As := [.int p_1]) (rest := [.ref a_this]) ⟨hx, hb, hml, hown, hts⟩ (c_X3_isPlace l D cy a_this a_ro a_fr a_bu a_no a_te a_fa a_li a_wy a_su c_th c_n c_tu c_al c_le c_wa c_re c_us c_di c_ha p_1 hw s.heap.size) (cwV 1 hts gX3_exchange_X3_isPlace rfl rfl rfl (by decide +kernel) ⟨Nat.le_of_ble_eq_true rfl, Nat.le_of_ble_eq_true rfl⟩) (j_preV hK hP hD (isC := [0]) rfl (by decide +kernel) (ci := 3) (q0 := 0) rfl rfl) rfl rfl hl.1 rfl (lv_room (Nat.le_of_ble_eq_true rfl)) dX3_exchange_3 ⟨Nat.le_of_ble_eq_true rfl, Nat.le_of_ble_eq_true rfl⟩) hP hD hS hA [0] [1] rfl rfl (by decide +kernel) (by decide +kernel) (fun u_1 => [(a_this, .inr (3, [.int c_th, .int c_n, .int c_tu, .int c_al, .ref a_ro, .ref a_fr, .int c_le, .ref a_bu, .ref a_no, .ref a_te, .ref a_fa, .ref a_li, .int c_wa, .int c_re, .int c_us, .int c_di, .ref a_wy, .ref a_su, .long c_ha])), (a_ro, .inl (cy 0, 8, .inl c_ro))]) [1, 0] (by decide +kernel) (fun u => rfl) (fun r_2 u_1 H locs hw hP hD hS => ?_)
  have hP : va_P D vwCl ([(a_this, .inr (3, [.int c_th, .int c_n, .int c_tu, .int c_al, .ref a_ro, .ref a_fr, .int c_le, .ref a_bu, .ref a_no, .ref a_te, .ref a_fa, .ref a_li, .int c_wa, .int c_re, .int c_us, .int c_di, .ref a_wy, .ref a_su, .long c_ha])), (a_ro, .inl (cy 0, 8, .inl c_ro))]) H := hP
  have hD : va_D A ([(a_this, .inr (3, [.int c_th, .int c_n, .int c_tu, .int c_al, .ref a_ro, .ref a_fr, .int c_le, .ref a_bu, .ref a_no, .ref a_te, .ref a_fa, .ref a_li, .int c_wa, .int c_re, .int c_us, .int c_di, .ref a_wy, .ref a_su, .long c_ha])), (a_ro, .inl (cy 0, 8, .inl c_ro))]) := hD
  refine lv_if_eq (tgt := 21) hx hb dX3_exchange_6 (by decide) (fun c_3 => ?_) (fun c_3 => ?_)
  · replace hw := hw.1 c_3
    refine lv_iconst (v := 1) hx hb dX3_exchange_21 (by decide) ?_
    refine va_put (D := D) (ci := 3) (v := .int 1) (ty := .int) (C := RX3) (T := TX3) (N := 19) hx hb hts k_X3_exchange_X3 tyX3 tyX3_ok nmX3 hown hK hP hD hS 0 rfl rfl 0 (by decide) (hts _ q_X3_exchange_1) (fun _ h9 => h9) rfl (by decide +kernel) rfl rfl (Nat.le_of_ble_eq_true rfl) dX3_exchange_22 (fun H locs hP hD hS => ?_)
    have hP : va_P D vwCl ([(a_this, .inr (3, [.int (1 : Int32), .int c_n, .int c_tu, .int c_al, .ref a_ro, .ref a_fr, .int c_le, .ref a_bu, .ref a_no, .ref a_te, .ref a_fa, .ref a_li, .int c_wa, .int c_re, .int c_us, .int c_di, .ref a_wy, .ref a_su, .long c_ha])), (a_ro, .inl (cy 0, 8, .inl c_ro))]) H := hP
    have hD : va_D A ([(a_this, .inr (3, [.int (1 : Int32), .int c_n, .int c_tu, .int c_al, .ref a_ro, .ref a_fr, .int c_le, .ref a_bu, .ref a_no, .ref a_te, .ref a_fa, .ref a_li, .int c_wa, .int c_re, .int c_us, .int c_di, .ref a_wy, .ref a_su, .long c_ha])), (a_ro, .inl (cy 0, 8, .inl c_ro))]) := hD
    refine lv_aload_n hx hb dX3_exchange_25 rfl (lv_at hl 0 rfl) ?_
    refine va_get (D := D) (ci := 3) (v := .int (1 : Int32)) (C := RX3) (T := TX3) (N := 19) hx hb hts k_X3_exchange_X3 hown hK hP 0 rfl rfl 0 (by decide) (hts _ q_X3_exchange_1) (fun _ h9 => h9) rfl dX3_exchange_26 ?_
    refine lv_if_le (tgt := 34) hx hb dX3_exchange_29 (by decide) (fun c_4 => ?_) (fun c_4 => ?_)
    · replace hw := hw.1 c_4
      refine lv_aload_n hx hb dX3_exchange_34 rfl (lv_at hl 0 rfl) ?_
      refine va_get (D := D) (ci := 3) (v := .ref a_ro) (C := RX3) (T := TX3) (N := 19) hx hb hts k_X3_exchange_X3 hown hK hP 0 rfl rfl 4 (by decide) (hts _ q_X3_exchange_2) (fun _ h9 => h9) rfl dX3_exchange_35 ?_
      refine lv_iload_n hx hb dX3_exchange_38 rfl (lv_at hl 1 rfl) ?_
      obtain ⟨h_5, hw⟩ := hw
      refine va_iald hx hb hK hP 1 0 rfl rfl h_5 dX3_exchange_39 ?_
      refine lv_topi (fun x_6 ex_6 => ?_)
      replace hw := hw x_6 ex_6
      refine lv_istore_n (lv' := [(3, .int x_6), (0, .ref a_this), (1, .int p_1), (2, .int p_2)]) hx hb dX3_exchange_40 rfl hl (by decide) rfl (fun ls hl => ?_)
      refine lv_aload_n hx hb dX3_exchange_41 rfl (lv_at hl 1 rfl) ?_
      refine va_get (D := D) (ci := 3) (v := .ref a_ro) (C := RX3) (T := TX3) (N := 19) hx hb hts k_X3_exchange_X3 hown hK hP 0 rfl rfl 4 (by decide) (hts _ q_X3_exchange_2) (fun _ h9 => h9) rfl dX3_exchange_42 ?_
      refine lv_iload_n hx hb dX3_exchange_45 rfl (lv_at hl 2 rfl) ?_
      refine lv_aload_n hx hb dX3_exchange_46 rfl (lv_at hl 1 rfl) ?_
      refine va_get (D := D) (ci := 3) (v := .ref a_ro) (C := RX3) (T := TX3) (N := 19) hx hb hts k_X3_exchange_X3 hown hK hP 0 rfl rfl 4 (by decide) (hts _ q_X3_exchange_2) (fun _ h9 => h9) rfl dX3_exchange_47 ?_
      refine lv_iload_n hx hb dX3_exchange_50 rfl (lv_at hl 3 rfl) ?_
      obtain ⟨h_7, hw⟩ := hw
      refine va_iald hx hb hK hP 1 0 rfl rfl h_7 dX3_exchange_51 ?_
      obtain ⟨h_8, hw⟩ := hw
      refine va_iast hx hb hK hP hD hS 1 0 rfl rfl h_8 dX3_exchange_52 (fun H locs hP hD hS => ?_)
      have hP : va_P D vwCl ([(a_this, .inr (3, [.int (1 : Int32), .int c_n, .int c_tu, .int c_al, .ref a_ro, .ref a_fr, .int c_le, .ref a_bu, .ref a_no, .ref a_te, .ref a_fa, .ref a_li, .int c_wa, .int c_re, .int c_us, .int c_di, .ref a_wy, .ref a_su, .long c_ha])), (a_ro, .inl (cy 0, 8, .inl (upd c_ro ((p_1 : Int32).toNatClampNeg) (c_ro (p_2 : Int32).toNatClampNeg))))]) H := hP
      have hD : va_D A ([(a_this, .inr (3, [.int (1 : Int32), .int c_n, .int c_tu, .int c_al, .ref a_ro, .ref a_fr, .int c_le, .ref a_bu, .ref a_no, .ref a_te, .ref a_fa, .ref a_li, .int c_wa, .int c_re, .int c_us, .int c_di, .ref a_wy, .ref a_su, .long c_ha])), (a_ro, .inl (cy 0, 8, .inl (upd c_ro ((p_1 : Int32).toNatClampNeg) (c_ro (p_2 : Int32).toNatClampNeg))))]) := hD
      refine lv_aload_n hx hb dX3_exchange_53 rfl (lv_at hl 1 rfl) ?_
      refine va_get (D := D) (ci := 3) (v := .ref a_ro) (C := RX3) (T := TX3) (N := 19) hx hb hts k_X3_exchange_X3 hown hK hP 0 rfl rfl 4 (by decide) (hts _ q_X3_exchange_2) (fun _ h9 => h9) rfl dX3_exchange_54 ?_
      refine lv_iload_n hx hb dX3_exchange_57 rfl (lv_at hl 3 rfl) ?_
      refine lv_iload_n hx hb dX3_exchange_58 rfl (lv_at hl 0 rfl) ?_
      obtain ⟨h_9, hw⟩ := hw
      refine va_iast hx hb hK hP hD hS 1 0 rfl rfl h_9 dX3_exchange_59 (fun H locs hP hD hS => ?_)
      have hP : va_P D vwCl ([(a_this, .inr (3, [.int (1 : Int32), .int c_n, .int c_tu, .int c_al, .ref a_ro, .ref a_fr, .int c_le, .ref a_bu, .ref a_no, .ref a_te, .ref a_fa, .ref a_li, .int c_wa, .int c_re, .int c_us, .int c_di, .ref a_wy, .ref a_su, .long c_ha])), (a_ro, .inl (cy 0, 8, .inl (upd (upd c_ro ((p_1 : Int32).toNatClampNeg) (c_ro (p_2 : Int32).toNatClampNeg)) ((p_2 : Int32).toNatClampNeg) x_6)))]) H := hP
      have hD : va_D A ([(a_this, .inr (3, [.int (1 : Int32), .int c_n, .int c_tu, .int c_al, .ref a_ro, .ref a_fr, .int c_le, .ref a_bu, .ref a_no, .ref a_te, .ref a_fa, .ref a_li, .int c_wa, .int c_re, .int c_us, .int c_di, .ref a_wy, .ref a_su, .long c_ha])), (a_ro, .inl (cy 0, 8, .inl (upd (upd c_ro ((p_1 : Int32).toNatClampNeg) (c_ro (p_2 : Int32).toNatClampNeg)) ((p_2 : Int32).toNatClampNeg) x_6)))]) := hD
      refine lv_aload_n hx hb dX3_exchange_60 rfl (lv_at hl 1 rfl) ?_
      refine va_get (D := D) (ci := 3) (v := .ref a_ro) (C := RX3) (T := TX3) (N := 19) hx hb hts k_X3_exchange_X3 hown hK hP 0 rfl rfl 4 (by decide) (hts _ q_X3_exchange_2) (fun _ h9 => h9) rfl dX3_exchange_61 ?_
      refine lv_iload_n hx hb dX3_exchange_64 rfl (lv_at hl 2 rfl) ?_
      obtain ⟨h_10, hw⟩ := hw
      refine va_iald hx hb hK hP 1 0 rfl rfl h_10 dX3_exchange_65 ?_
      exact j_iret (fun u => [(a_this, .inr (3, [.int u.1, .int c_n, .int c_tu, .int c_al, .ref a_ro, .ref a_fr, .int c_le, .ref a_bu, .ref a_no, .ref a_te, .ref a_fa, .ref a_li, .int c_wa, .int c_re, .int c_us, .int c_di, .ref a_wy, .ref a_su, .long c_ha])), (a_ro, .inl (cy 0, 8, .inl u.2))]) (((1 : Int32), upd (upd c_ro ((p_1 : Int32).toNatClampNeg) (c_ro (p_2 : Int32).toNatClampNeg)) ((p_2 : Int32).toNatClampNeg) x_6) : Int32 × (Nat → Int32)) hx hb hr hlocks hK hP hD hS hw dX3_exchange_66
    · replace hw := hw.2 c_4
      refine lv_iconst (v := 0) hx hb dX3_exchange_32 (by decide) ?_
      exact j_iret (fun u => [(a_this, .inr (3, [.int u.1, .int c_n, .int c_tu, .int c_al, .ref a_ro, .ref a_fr, .int c_le, .ref a_bu, .ref a_no, .ref a_te, .ref a_fa, .ref a_li, .int c_wa, .int c_re, .int c_us, .int c_di, .ref a_wy, .ref a_su, .long c_ha])), (a_ro, .inl (cy 0, 8, .inl u.2))]) (((1 : Int32), c_ro) : Int32 × (Nat → Int32)) hx hb hr hlocks hK hP hD hS hw dX3_exchange_33
  · replace hw := hw.2 c_3
    refine lv_aload_n hx hb dX3_exchange_9 rfl (lv_at hl 0 rfl) ?_
    refine lv_iload_n hx hb dX3_exchange_10 rfl (lv_at hl 2 rfl) ?_
    refine j_calli (wr := [(a_ro, .inl (cy 0, 8, .inl c_ro))]) (va_runV (As := [.int p_2]) (rest := [.ref a_this]) ⟨hx, hb, hml, hown, hts⟩ (c_X3_isPlace l D cy a_this a_ro a_fr a_bu a_no a_te a_fa a_li a_wy a_su c_th c_n c_tu c_al c_le c_wa c_re c_us c_di c_ha p_2 hw H.size) (cwV 1 hts gX3_exchange_X3_isPlace rfl rfl rfl (by decide +kernel) ⟨Nat.le_of_ble_eq_true rfl, Nat.le_of_ble_eq_true rfl⟩) (j_preV hK hP hD (isC := [0]) rfl (by decide +kernel) (ci := 3) (q0 := 0) rfl rfl) rfl rfl hl.1 rfl (lv_room (Nat.le_of_ble_eq_true rfl)) dX3_exchange_11 ⟨Nat.le_of_ble_eq_true rfl, Nat.le_of_ble_eq_true rfl⟩) hP hD hS hA [0] [1] rfl rfl (by decide +kernel) (by decide +kernel) (fun u_11 => [(a_this, .inr (3, [.int c_th, .int c_n, .int c_tu, .int c_al, .ref a_ro, .ref a_fr, .int c_le, .ref a_bu, .ref a_no, .ref a_te, .ref a_fa, .ref a_li, .int c_wa, .int c_re, .int c_us, .int c_di, .ref a_wy, .ref a_su, .long c_ha])), (a_ro, .inl (cy 0, 8, .inl c_ro))]) [1, 0] (by decide +kernel) (fun u => rfl) (fun r_12 u_11 H locs hw hP hD hS => ?_)
    have hP : va_P D vwCl ([(a_this, .inr (3, [.int c_th, .int c_n, .int c_tu, .int c_al, .ref a_ro, .ref a_fr, .int c_le, .ref a_bu, .ref a_no, .ref a_te, .ref a_fa, .ref a_li, .int c_wa, .int c_re, .int c_us, .int c_di, .ref a_wy, .ref a_su, .long c_ha])), (a_ro, .inl (cy 0, 8, .inl c_ro))]) H := hP
    have hD : va_D A ([(a_this, .inr (3, [.int c_th, .int c_n, .int c_tu, .int c_al, .ref a_ro, .ref a_fr, .int c_le, .ref a_bu, .ref a_no, .ref a_te, .ref a_fa, .ref a_li, .int c_wa, .int c_re, .int c_us, .int c_di, .ref a_wy, .ref a_su, .long c_ha])), (a_ro, .inl (cy 0, 8, .inl c_ro))]) := hD
    refine lv_if_eq (tgt := 21) hx hb dX3_exchange_14 (by decide) (fun c_13 => ?_) (fun c_13 => ?_)
    · replace hw := hw.1 c_13
      refine lv_iconst (v := 1) hx hb dX3_exchange_21 (by decide) ?_
      refine va_put (D := D) (ci := 3) (v := .int 1) (ty := .int) (C := RX3) (T := TX3) (N := 19) hx hb hts k_X3_exchange_X3 tyX3 tyX3_ok nmX3 hown hK hP hD hS 0 rfl rfl 0 (by decide) (hts _ q_X3_exchange_1) (fun _ h9 => h9) rfl (by decide +kernel) rfl rfl (Nat.le_of_ble_eq_true rfl) dX3_exchange_22 (fun H locs hP hD hS => ?_)
      have hP : va_P D vwCl ([(a_this, .inr (3, [.int (1 : Int32), .int c_n, .int c_tu, .int c_al, .ref a_ro, .ref a_fr, .int c_le, .ref a_bu, .ref a_no, .ref a_te, .ref a_fa, .ref a_li, .int c_wa, .int c_re, .int c_us, .int c_di, .ref a_wy, .ref a_su, .long c_ha])), (a_ro, .inl (cy 0, 8, .inl c_ro))]) H := hP
      have hD : va_D A ([(a_this, .inr (3, [.int (1 : Int32), .int c_n, .int c_tu, .int c_al, .ref a_ro, .ref a_fr, .int c_le, .ref a_bu, .ref a_no, .ref a_te, .ref a_fa, .ref a_li, .int c_wa, .int c_re, .int c_us, .int c_di, .ref a_wy, .ref a_su, .long c_ha])), (a_ro, .inl (cy 0, 8, .inl c_ro))]) := hD
      refine lv_aload_n hx hb dX3_exchange_25 rfl (lv_at hl 0 rfl) ?_
      refine va_get (D := D) (ci := 3) (v := .int (1 : Int32)) (C := RX3) (T := TX3) (N := 19) hx hb hts k_X3_exchange_X3 hown hK hP 0 rfl rfl 0 (by decide) (hts _ q_X3_exchange_1) (fun _ h9 => h9) rfl dX3_exchange_26 ?_
      refine lv_if_le (tgt := 34) hx hb dX3_exchange_29 (by decide) (fun c_14 => ?_) (fun c_14 => ?_)
      · replace hw := hw.1 c_14
        refine lv_aload_n hx hb dX3_exchange_34 rfl (lv_at hl 0 rfl) ?_
        refine va_get (D := D) (ci := 3) (v := .ref a_ro) (C := RX3) (T := TX3) (N := 19) hx hb hts k_X3_exchange_X3 hown hK hP 0 rfl rfl 4 (by decide) (hts _ q_X3_exchange_2) (fun _ h9 => h9) rfl dX3_exchange_35 ?_
        refine lv_iload_n hx hb dX3_exchange_38 rfl (lv_at hl 1 rfl) ?_
        obtain ⟨h_15, hw⟩ := hw
        refine va_iald hx hb hK hP 1 0 rfl rfl h_15 dX3_exchange_39 ?_
        refine lv_topi (fun x_16 ex_16 => ?_)
        replace hw := hw x_16 ex_16
        refine lv_istore_n (lv' := [(3, .int x_16), (0, .ref a_this), (1, .int p_1), (2, .int p_2)]) hx hb dX3_exchange_40 rfl hl (by decide) rfl (fun ls hl => ?_)
        refine lv_aload_n hx hb dX3_exchange_41 rfl (lv_at hl 1 rfl) ?_
        refine va_get (D := D) (ci := 3) (v := .ref a_ro) (C := RX3) (T := TX3) (N := 19) hx hb hts k_X3_exchange_X3 hown hK hP 0 rfl rfl 4 (by decide) (hts _ q_X3_exchange_2) (fun _ h9 => h9) rfl dX3_exchange_42 ?_
        refine lv_iload_n hx hb dX3_exchange_45 rfl (lv_at hl 2 rfl) ?_
        refine lv_aload_n hx hb dX3_exchange_46 rfl (lv_at hl 1 rfl) ?_
        refine va_get (D := D) (ci := 3) (v := .ref a_ro) (C := RX3) (T := TX3) (N := 19) hx hb hts k_X3_exchange_X3 hown hK hP 0 rfl rfl 4 (by decide) (hts _ q_X3_exchange_2) (fun _ h9 => h9) rfl dX3_exchange_47 ?_
        refine lv_iload_n hx hb dX3_exchange_50 rfl (lv_at hl 3 rfl) ?_
        obtain ⟨h_17, hw⟩ := hw
        refine va_iald hx hb hK hP 1 0 rfl rfl h_17 dX3_exchange_51 ?_
        obtain ⟨h_18, hw⟩ := hw
        refine va_iast hx hb hK hP hD hS 1 0 rfl rfl h_18 dX3_exchange_52 (fun H locs hP hD hS => ?_)
        have hP : va_P D vwCl ([(a_this, .inr (3, [.int (1 : Int32), .int c_n, .int c_tu, .int c_al, .ref a_ro, .ref a_fr, .int c_le, .ref a_bu, .ref a_no, .ref a_te, .ref a_fa, .ref a_li, .int c_wa, .int c_re, .int c_us, .int c_di, .ref a_wy, .ref a_su, .long c_ha])), (a_ro, .inl (cy 0, 8, .inl (upd c_ro ((p_1 : Int32).toNatClampNeg) (c_ro (p_2 : Int32).toNatClampNeg))))]) H := hP
        have hD : va_D A ([(a_this, .inr (3, [.int (1 : Int32), .int c_n, .int c_tu, .int c_al, .ref a_ro, .ref a_fr, .int c_le, .ref a_bu, .ref a_no, .ref a_te, .ref a_fa, .ref a_li, .int c_wa, .int c_re, .int c_us, .int c_di, .ref a_wy, .ref a_su, .long c_ha])), (a_ro, .inl (cy 0, 8, .inl (upd c_ro ((p_1 : Int32).toNatClampNeg) (c_ro (p_2 : Int32).toNatClampNeg))))]) := hD
        refine lv_aload_n hx hb dX3_exchange_53 rfl (lv_at hl 1 rfl) ?_
        refine va_get (D := D) (ci := 3) (v := .ref a_ro) (C := RX3) (T := TX3) (N := 19) hx hb hts k_X3_exchange_X3 hown hK hP 0 rfl rfl 4 (by decide) (hts _ q_X3_exchange_2) (fun _ h9 => h9) rfl dX3_exchange_54 ?_
        refine lv_iload_n hx hb dX3_exchange_57 rfl (lv_at hl 3 rfl) ?_
        refine lv_iload_n hx hb dX3_exchange_58 rfl (lv_at hl 0 rfl) ?_
        obtain ⟨h_19, hw⟩ := hw
        refine va_iast hx hb hK hP hD hS 1 0 rfl rfl h_19 dX3_exchange_59 (fun H locs hP hD hS => ?_)
        have hP : va_P D vwCl ([(a_this, .inr (3, [.int (1 : Int32), .int c_n, .int c_tu, .int c_al, .ref a_ro, .ref a_fr, .int c_le, .ref a_bu, .ref a_no, .ref a_te, .ref a_fa, .ref a_li, .int c_wa, .int c_re, .int c_us, .int c_di, .ref a_wy, .ref a_su, .long c_ha])), (a_ro, .inl (cy 0, 8, .inl (upd (upd c_ro ((p_1 : Int32).toNatClampNeg) (c_ro (p_2 : Int32).toNatClampNeg)) ((p_2 : Int32).toNatClampNeg) x_16)))]) H := hP
        have hD : va_D A ([(a_this, .inr (3, [.int (1 : Int32), .int c_n, .int c_tu, .int c_al, .ref a_ro, .ref a_fr, .int c_le, .ref a_bu, .ref a_no, .ref a_te, .ref a_fa, .ref a_li, .int c_wa, .int c_re, .int c_us, .int c_di, .ref a_wy, .ref a_su, .long c_ha])), (a_ro, .inl (cy 0, 8, .inl (upd (upd c_ro ((p_1 : Int32).toNatClampNeg) (c_ro (p_2 : Int32).toNatClampNeg)) ((p_2 : Int32).toNatClampNeg) x_16)))]) := hD
        refine lv_aload_n hx hb dX3_exchange_60 rfl (lv_at hl 1 rfl) ?_
        refine va_get (D := D) (ci := 3) (v := .ref a_ro) (C := RX3) (T := TX3) (N := 19) hx hb hts k_X3_exchange_X3 hown hK hP 0 rfl rfl 4 (by decide) (hts _ q_X3_exchange_2) (fun _ h9 => h9) rfl dX3_exchange_61 ?_
        refine lv_iload_n hx hb dX3_exchange_64 rfl (lv_at hl 2 rfl) ?_
        obtain ⟨h_20, hw⟩ := hw
        refine va_iald hx hb hK hP 1 0 rfl rfl h_20 dX3_exchange_65 ?_
        exact j_iret (fun u => [(a_this, .inr (3, [.int u.1, .int c_n, .int c_tu, .int c_al, .ref a_ro, .ref a_fr, .int c_le, .ref a_bu, .ref a_no, .ref a_te, .ref a_fa, .ref a_li, .int c_wa, .int c_re, .int c_us, .int c_di, .ref a_wy, .ref a_su, .long c_ha])), (a_ro, .inl (cy 0, 8, .inl u.2))]) (((1 : Int32), upd (upd c_ro ((p_1 : Int32).toNatClampNeg) (c_ro (p_2 : Int32).toNatClampNeg)) ((p_2 : Int32).toNatClampNeg) x_16) : Int32 × (Nat → Int32)) hx hb hr hlocks hK hP hD hS hw dX3_exchange_66
      · replace hw := hw.2 c_14
        refine lv_iconst (v := 0) hx hb dX3_exchange_32 (by decide) ?_
        exact j_iret (fun u => [(a_this, .inr (3, [.int u.1, .int c_n, .int c_tu, .int c_al, .ref a_ro, .ref a_fr, .int c_le, .ref a_bu, .ref a_no, .ref a_te, .ref a_fa, .ref a_li, .int c_wa, .int c_re, .int c_us, .int c_di, .ref a_wy, .ref a_su, .long c_ha])), (a_ro, .inl (cy 0, 8, .inl u.2))]) (((1 : Int32), c_ro) : Int32 × (Nat → Int32)) hx hb hr hlocks hK hP hD hS hw dX3_exchange_33
    · replace hw := hw.2 c_13
      refine lv_iconst (v := 0) hx hb dX3_exchange_17 (by decide) ?_
      refine lv_goto (tgt := 22) hx hb dX3_exchange_18 (by decide) ?_
      refine va_put (D := D) (ci := 3) (v := .int 0) (ty := .int) (C := RX3) (T := TX3) (N := 19) hx hb hts k_X3_exchange_X3 tyX3 tyX3_ok nmX3 hown hK hP hD hS 0 rfl rfl 0 (by decide) (hts _ q_X3_exchange_1) (fun _ h9 => h9) rfl (by decide +kernel) rfl rfl (Nat.le_of_ble_eq_true rfl) dX3_exchange_22 (fun H locs hP hD hS => ?_)
      have hP : va_P D vwCl ([(a_this, .inr (3, [.int (0 : Int32), .int c_n, .int c_tu, .int c_al, .ref a_ro, .ref a_fr, .int c_le, .ref a_bu, .ref a_no, .ref a_te, .ref a_fa, .ref a_li, .int c_wa, .int c_re, .int c_us, .int c_di, .ref a_wy, .ref a_su, .long c_ha])), (a_ro, .inl (cy 0, 8, .inl c_ro))]) H := hP
      have hD : va_D A ([(a_this, .inr (3, [.int (0 : Int32), .int c_n, .int c_tu, .int c_al, .ref a_ro, .ref a_fr, .int c_le, .ref a_bu, .ref a_no, .ref a_te, .ref a_fa, .ref a_li, .int c_wa, .int c_re, .int c_us, .int c_di, .ref a_wy, .ref a_su, .long c_ha])), (a_ro, .inl (cy 0, 8, .inl c_ro))]) := hD
      refine lv_aload_n hx hb dX3_exchange_25 rfl (lv_at hl 0 rfl) ?_
      refine va_get (D := D) (ci := 3) (v := .int (0 : Int32)) (C := RX3) (T := TX3) (N := 19) hx hb hts k_X3_exchange_X3 hown hK hP 0 rfl rfl 0 (by decide) (hts _ q_X3_exchange_1) (fun _ h9 => h9) rfl dX3_exchange_26 ?_
      refine lv_if_le (tgt := 34) hx hb dX3_exchange_29 (by decide) (fun c_21 => ?_) (fun c_21 => ?_)
      · replace hw := hw.1 c_21
        refine lv_aload_n hx hb dX3_exchange_34 rfl (lv_at hl 0 rfl) ?_
        refine va_get (D := D) (ci := 3) (v := .ref a_ro) (C := RX3) (T := TX3) (N := 19) hx hb hts k_X3_exchange_X3 hown hK hP 0 rfl rfl 4 (by decide) (hts _ q_X3_exchange_2) (fun _ h9 => h9) rfl dX3_exchange_35 ?_
        refine lv_iload_n hx hb dX3_exchange_38 rfl (lv_at hl 1 rfl) ?_
        obtain ⟨h_22, hw⟩ := hw
        refine va_iald hx hb hK hP 1 0 rfl rfl h_22 dX3_exchange_39 ?_
        refine lv_topi (fun x_23 ex_23 => ?_)
        replace hw := hw x_23 ex_23
        refine lv_istore_n (lv' := [(3, .int x_23), (0, .ref a_this), (1, .int p_1), (2, .int p_2)]) hx hb dX3_exchange_40 rfl hl (by decide) rfl (fun ls hl => ?_)
        refine lv_aload_n hx hb dX3_exchange_41 rfl (lv_at hl 1 rfl) ?_
        refine va_get (D := D) (ci := 3) (v := .ref a_ro) (C := RX3) (T := TX3) (N := 19) hx hb hts k_X3_exchange_X3 hown hK hP 0 rfl rfl 4 (by decide) (hts _ q_X3_exchange_2) (fun _ h9 => h9) rfl dX3_exchange_42 ?_
        refine lv_iload_n hx hb dX3_exchange_45 rfl (lv_at hl 2 rfl) ?_
        refine lv_aload_n hx hb dX3_exchange_46 rfl (lv_at hl 1 rfl) ?_
        refine va_get (D := D) (ci := 3) (v := .ref a_ro) (C := RX3) (T := TX3) (N := 19) hx hb hts k_X3_exchange_X3 hown hK hP 0 rfl rfl 4 (by decide) (hts _ q_X3_exchange_2) (fun _ h9 => h9) rfl dX3_exchange_47 ?_
        refine lv_iload_n hx hb dX3_exchange_50 rfl (lv_at hl 3 rfl) ?_
        obtain ⟨h_24, hw⟩ := hw
        refine va_iald hx hb hK hP 1 0 rfl rfl h_24 dX3_exchange_51 ?_
        obtain ⟨h_25, hw⟩ := hw
        refine va_iast hx hb hK hP hD hS 1 0 rfl rfl h_25 dX3_exchange_52 (fun H locs hP hD hS => ?_)
        have hP : va_P D vwCl ([(a_this, .inr (3, [.int (0 : Int32), .int c_n, .int c_tu, .int c_al, .ref a_ro, .ref a_fr, .int c_le, .ref a_bu, .ref a_no, .ref a_te, .ref a_fa, .ref a_li, .int c_wa, .int c_re, .int c_us, .int c_di, .ref a_wy, .ref a_su, .long c_ha])), (a_ro, .inl (cy 0, 8, .inl (upd c_ro ((p_1 : Int32).toNatClampNeg) (c_ro (p_2 : Int32).toNatClampNeg))))]) H := hP
        have hD : va_D A ([(a_this, .inr (3, [.int (0 : Int32), .int c_n, .int c_tu, .int c_al, .ref a_ro, .ref a_fr, .int c_le, .ref a_bu, .ref a_no, .ref a_te, .ref a_fa, .ref a_li, .int c_wa, .int c_re, .int c_us, .int c_di, .ref a_wy, .ref a_su, .long c_ha])), (a_ro, .inl (cy 0, 8, .inl (upd c_ro ((p_1 : Int32).toNatClampNeg) (c_ro (p_2 : Int32).toNatClampNeg))))]) := hD
        refine lv_aload_n hx hb dX3_exchange_53 rfl (lv_at hl 1 rfl) ?_
        refine va_get (D := D) (ci := 3) (v := .ref a_ro) (C := RX3) (T := TX3) (N := 19) hx hb hts k_X3_exchange_X3 hown hK hP 0 rfl rfl 4 (by decide) (hts _ q_X3_exchange_2) (fun _ h9 => h9) rfl dX3_exchange_54 ?_
        refine lv_iload_n hx hb dX3_exchange_57 rfl (lv_at hl 3 rfl) ?_
        refine lv_iload_n hx hb dX3_exchange_58 rfl (lv_at hl 0 rfl) ?_
        obtain ⟨h_26, hw⟩ := hw
        refine va_iast hx hb hK hP hD hS 1 0 rfl rfl h_26 dX3_exchange_59 (fun H locs hP hD hS => ?_)
        have hP : va_P D vwCl ([(a_this, .inr (3, [.int (0 : Int32), .int c_n, .int c_tu, .int c_al, .ref a_ro, .ref a_fr, .int c_le, .ref a_bu, .ref a_no, .ref a_te, .ref a_fa, .ref a_li, .int c_wa, .int c_re, .int c_us, .int c_di, .ref a_wy, .ref a_su, .long c_ha])), (a_ro, .inl (cy 0, 8, .inl (upd (upd c_ro ((p_1 : Int32).toNatClampNeg) (c_ro (p_2 : Int32).toNatClampNeg)) ((p_2 : Int32).toNatClampNeg) x_23)))]) H := hP
        have hD : va_D A ([(a_this, .inr (3, [.int (0 : Int32), .int c_n, .int c_tu, .int c_al, .ref a_ro, .ref a_fr, .int c_le, .ref a_bu, .ref a_no, .ref a_te, .ref a_fa, .ref a_li, .int c_wa, .int c_re, .int c_us, .int c_di, .ref a_wy, .ref a_su, .long c_ha])), (a_ro, .inl (cy 0, 8, .inl (upd (upd c_ro ((p_1 : Int32).toNatClampNeg) (c_ro (p_2 : Int32).toNatClampNeg)) ((p_2 : Int32).toNatClampNeg) x_23)))]) := hD
        refine lv_aload_n hx hb dX3_exchange_60 rfl (lv_at hl 1 rfl) ?_
        refine va_get (D := D) (ci := 3) (v := .ref a_ro) (C := RX3) (T := TX3) (N := 19) hx hb hts k_X3_exchange_X3 hown hK hP 0 rfl rfl 4 (by decide) (hts _ q_X3_exchange_2) (fun _ h9 => h9) rfl dX3_exchange_61 ?_
        refine lv_iload_n hx hb dX3_exchange_64 rfl (lv_at hl 2 rfl) ?_
        obtain ⟨h_27, hw⟩ := hw
        refine va_iald hx hb hK hP 1 0 rfl rfl h_27 dX3_exchange_65 ?_
        exact j_iret (fun u => [(a_this, .inr (3, [.int u.1, .int c_n, .int c_tu, .int c_al, .ref a_ro, .ref a_fr, .int c_le, .ref a_bu, .ref a_no, .ref a_te, .ref a_fa, .ref a_li, .int c_wa, .int c_re, .int c_us, .int c_di, .ref a_wy, .ref a_su, .long c_ha])), (a_ro, .inl (cy 0, 8, .inl u.2))]) (((0 : Int32), upd (upd c_ro ((p_1 : Int32).toNatClampNeg) (c_ro (p_2 : Int32).toNatClampNeg)) ((p_2 : Int32).toNatClampNeg) x_23) : Int32 × (Nat → Int32)) hx hb hr hlocks hK hP hD hS hw dX3_exchange_66
      · replace hw := hw.2 c_21
        refine lv_iconst (v := 0) hx hb dX3_exchange_32 (by decide) ?_
        exact j_iret (fun u => [(a_this, .inr (3, [.int u.1, .int c_n, .int c_tu, .int c_al, .ref a_ro, .ref a_fr, .int c_le, .ref a_bu, .ref a_no, .ref a_te, .ref a_fa, .ref a_li, .int c_wa, .int c_re, .int c_us, .int c_di, .ref a_wy, .ref a_su, .long c_ha])), (a_ro, .inl (cy 0, 8, .inl u.2))]) (((0 : Int32), c_ro) : Int32 × (Nat → Int32)) hx hb hr hlocks hK hP hD hS hw dX3_exchange_33
theorem q_X3_doMove_1 : Cond.fieldLink RX3 13 "TwistedRowModel" "row" "[I" ∈ wsX3_doMove := List.mem_of_getElem? (i := 1) rfl
theorem k_X3_doMove_X3 : ∀ w ∈ wsX30, w ∈ wsX3_doMove := my_in _ [10, 11, 12, 13, 14, 15, 16, 17, 18, 19, 20, 21, 22, 23, 24, 25, 26, 27, 28] (by decide +kernel)
theorem q_X3_doMove_2 : Cond.fieldLink RX3 26 "TwistedRowModel" "then" "[I" ∈ wsX3_doMove := List.mem_of_getElem? (i := 2) rfl
theorem q_X3_doMove_3 : Cond.fieldLink RX3 7 "TwistedRowModel" "n" "I" ∈ wsX3_doMove := List.mem_of_getElem? (i := 3) rfl
def lp_X3_doMove_17 (c_n : Int32) (c_ro : Nat → Int32) (c_te : Nat → Int32) (K54 : Int32 → Int32 → Prop) : Nat → Int32 → Int32 → Prop
  | 0, _, _ => False
  | N + 1, v_2, v_3 => ((c_n ≤ v_3 → (K54 v_2 v_3)) ∧ (¬ c_n ≤ v_3 → (vp_in v_3 8 ∧ (vp_in v_3 8 ∧ ((¬ (c_te (v_3 : Int32).toNatClampNeg) = (c_ro (v_3 : Int32).toNatClampNeg) → (∀ x_6 : Int32, x_6 = v_2 + 1 → (lp_X3_doMove_17 c_n c_ro c_te K54 N x_6 (v_3 + 1)))) ∧ ((c_te (v_3 : Int32).toNatClampNeg) = (c_ro (v_3 : Int32).toNatClampNeg) → (∀ x_7 : Int32, x_7 = v_2 + 0 → (lp_X3_doMove_17 c_n c_ro c_te K54 N x_7 (v_3 + 1)))))))))
set_option maxHeartbeats 4000000 in
set_option maxRecDepth 100000 in
theorem l_X3_doMove_17 {p : Program} {l : Launch} {e : Env} {s : State} {m : MethodId} {args : Array Value} {below : List Frame} {meth : Method} {c : Code} {A : Nat → Prop} {D : va_G} {cy : Nat → ClassId} {Q : State → Prop} {a_this : Nat} {a_ro : Nat} {a_fr : Nat} {a_bu : Nat} {a_no : Nat} {a_te : Nat} {a_fa : Nat} {a_li : Nat} {a_wy : Nat} {a_su : Nat} {c_th : Int32} {c_n : Int32} {c_tu : Int32} {c_al : Int32} {c_le : Int32} {c_wa : Int32} {c_re : Int32} {c_us : Int32} {c_di : Int32} {c_ha : Int64} {c_ro : Nat → Int32} {c_fr : Nat → Int32} {c_te : Nat → Int32} {K54 : Int32 → Int32 → Prop} (C0 : Cx p s m args c cX3_doMove yX3_doMove.cls 4 wsX3_doMove D cy A)
    (k54 : ∀ (v_2 : Int32) (v_3 : Int32) (H : Heap) (locs : List Loc) (ls : Array Slot), K54 v_2 v_3 → va_P D vwCl ([(a_this, .inr (3, [.int c_th, .int c_n, .int c_tu, .int c_al, .ref a_ro, .ref a_fr, .int c_le, .ref a_bu, .ref a_no, .ref a_te, .ref a_fa, .ref a_li, .int c_wa, .int c_re, .int c_us, .int c_di, .ref a_wy, .ref a_su, .long c_ha])), (a_ro, .inl (cy 0, 8, .inl c_ro)), (a_fr, .inl (cy 0, 96, .inl c_fr)), (a_te, .inl (cy 0, 8, .inl c_te))]) H → va_D A ([(a_this, .inr (3, [.int c_th, .int c_n, .int c_tu, .int c_al, .ref a_ro, .ref a_fr, .int c_le, .ref a_bu, .ref a_no, .ref a_te, .ref a_fa, .ref a_li, .int c_wa, .int c_re, .int c_us, .int c_di, .ref a_wy, .ref a_su, .long c_ha])), (a_ro, .inl (cy 0, 8, .inl c_ro)), (a_fr, .inl (cy 0, 96, .inl c_fr)), (a_te, .inl (cy 0, 8, .inl c_te))]) → va_S A s.heap H locs → lv_has ls 4 [(0, .ref a_this), (2, .int v_2)] → W p l e (({ frames := 1, cells := 0, slots := 0, locals := 24 } : Room)) s m args below meth c H locs 0 0 Q (F0 m 54 ls [])) :
    ∀ (N : Nat) (v_2 : Int32) (v_3 : Int32) (H : Heap) (locs : List Loc) (ls : Array Slot), lp_X3_doMove_17 c_n c_ro c_te K54 N v_2 v_3 → va_P D vwCl ([(a_this, .inr (3, [.int c_th, .int c_n, .int c_tu, .int c_al, .ref a_ro, .ref a_fr, .int c_le, .ref a_bu, .ref a_no, .ref a_te, .ref a_fa, .ref a_li, .int c_wa, .int c_re, .int c_us, .int c_di, .ref a_wy, .ref a_su, .long c_ha])), (a_ro, .inl (cy 0, 8, .inl c_ro)), (a_fr, .inl (cy 0, 96, .inl c_fr)), (a_te, .inl (cy 0, 8, .inl c_te))]) H → va_D A ([(a_this, .inr (3, [.int c_th, .int c_n, .int c_tu, .int c_al, .ref a_ro, .ref a_fr, .int c_le, .ref a_bu, .ref a_no, .ref a_te, .ref a_fa, .ref a_li, .int c_wa, .int c_re, .int c_us, .int c_di, .ref a_wy, .ref a_su, .long c_ha])), (a_ro, .inl (cy 0, 8, .inl c_ro)), (a_fr, .inl (cy 0, 96, .inl c_fr)), (a_te, .inl (cy 0, 8, .inl c_te))]) → va_S A s.heap H locs → lv_has ls 4 [(0, .ref a_this), (2, .int v_2), (3, .int v_3)] → W p l e (({ frames := 1, cells := 0, slots := 0, locals := 24 } : Room)) s m args below meth c H locs 0 0 Q (F0 m 17 ls []) := by
  obtain ⟨hx, hb, hml, hown, hts, hK, hA⟩ := id C0
  intro N
  induction N with
  | zero =>
    intro v_2 v_3 H locs ls hw
    exact False.elim hw
  | succ N ih =>
    intro v_2 v_3 H locs ls hw hP hD hS hl
    rw [lp_X3_doMove_17] at hw
    refine lv_iload_n hx hb dX3_doMove_17 rfl (lv_at hl 2 rfl) ?_
    refine lv_aload_n hx hb dX3_doMove_18 rfl (lv_at hl 0 rfl) ?_
    refine va_get (D := D) (ci := 3) (v := .int c_n) (C := RX3) (T := TX3) (N := 19) hx hb hts k_X3_doMove_X3 hown hK hP 0 rfl rfl 1 (by decide) (hts _ q_X3_doMove_3) (fun _ h9 => h9) rfl dX3_doMove_19 ?_
    refine lv_icmp_ge (tgt := 54) hx hb dX3_doMove_22 (by decide) (fun c_2 => ?_) (fun c_2 => ?_)
    · replace hw := hw.1 c_2
      exact k54 _ _ _ _ _ hw hP hD hS (lv_sub hl [0, 1] rfl)
    · replace hw := hw.2 c_2
      refine lv_iload_n hx hb dX3_doMove_25 rfl (lv_at hl 1 rfl) ?_
      refine lv_aload_n hx hb dX3_doMove_26 rfl (lv_at hl 0 rfl) ?_
      refine va_get (D := D) (ci := 3) (v := .ref a_te) (C := RX3) (T := TX3) (N := 19) hx hb hts k_X3_doMove_X3 hown hK hP 0 rfl rfl 9 (by decide) (hts _ q_X3_doMove_2) (fun _ h9 => h9) rfl dX3_doMove_27 ?_
      refine lv_iload_n hx hb dX3_doMove_30 rfl (lv_at hl 2 rfl) ?_
      obtain ⟨h_3, hw⟩ := hw
      refine va_iald hx hb hK hP 3 0 rfl rfl h_3 dX3_doMove_31 ?_
      refine lv_aload_n hx hb dX3_doMove_32 rfl (lv_at hl 0 rfl) ?_
      refine va_get (D := D) (ci := 3) (v := .ref a_ro) (C := RX3) (T := TX3) (N := 19) hx hb hts k_X3_doMove_X3 hown hK hP 0 rfl rfl 4 (by decide) (hts _ q_X3_doMove_1) (fun _ h9 => h9) rfl dX3_doMove_33 ?_
      refine lv_iload_n hx hb dX3_doMove_36 rfl (lv_at hl 2 rfl) ?_
      obtain ⟨h_4, hw⟩ := hw
      refine va_iald hx hb hK hP 1 0 rfl rfl h_4 dX3_doMove_37 ?_
      refine lv_icmp_ne (tgt := 45) hx hb dX3_doMove_38 (by decide) (fun c_5 => ?_) (fun c_5 => ?_)
      · replace hw := hw.1 c_5
        refine lv_iconst (v := 1) hx hb dX3_doMove_45 (by decide) ?_
        refine lv_iadd hx hb dX3_doMove_46 ?_
        refine lv_topi (fun x_6 ex_6 => ?_)
        replace hw := hw x_6 ex_6
        refine lv_istore_n (lv' := [(2, .int x_6), (0, .ref a_this), (3, .int v_3)]) hx hb dX3_doMove_47 rfl hl (by decide) rfl (fun ls hl => ?_)
        refine lv_iinc (v := v_3 + 1) (lv' := [(3, .int (v_3 + 1)), (2, .int x_6), (0, .ref a_this)]) hx hb dX3_doMove_48 hl (k := 2) rfl rfl (by decide) rfl (fun ls hl => ?_)
        refine lv_goto (tgt := 17) hx hb dX3_doMove_51 (by decide) ?_
        exact ih _ _ _ _ _ hw hP hD hS (lv_sub hl [2, 1, 0] rfl)
      · replace hw := hw.2 c_5
        refine lv_iconst (v := 0) hx hb dX3_doMove_41 (by decide) ?_
        refine lv_goto (tgt := 46) hx hb dX3_doMove_42 (by decide) ?_
        refine lv_iadd hx hb dX3_doMove_46 ?_
        refine lv_topi (fun x_7 ex_7 => ?_)
        replace hw := hw x_7 ex_7
        refine lv_istore_n (lv' := [(2, .int x_7), (0, .ref a_this), (3, .int v_3)]) hx hb dX3_doMove_47 rfl hl (by decide) rfl (fun ls hl => ?_)
        refine lv_iinc (v := v_3 + 1) (lv' := [(3, .int (v_3 + 1)), (2, .int x_7), (0, .ref a_this)]) hx hb dX3_doMove_48 hl (k := 2) rfl rfl (by decide) rfl (fun ls hl => ?_)
        refine lv_goto (tgt := 17) hx hb dX3_doMove_51 (by decide) ?_
        exact ih _ _ _ _ _ hw hP hD hS (lv_sub hl [2, 1, 0] rfl)
def lp_X3_doMove_56 (c_n : Int32) (c_te : Nat → Int32) (K82 : Int32 → (Nat → Int32) → Prop) : Nat → Int32 → (Nat → Int32) → Prop
  | 0, _, _ => False
  | N + 1, v_3, c_ro => ((c_n ≤ v_3 → (K82 v_3 c_ro)) ∧ (¬ c_n ≤ v_3 → (vp_in v_3 8 ∧ (vp_in v_3 8 ∧ (lp_X3_doMove_56 c_n c_te K82 N (v_3 + 1) (upd c_ro ((v_3 : Int32).toNatClampNeg) (c_te (v_3 : Int32).toNatClampNeg)))))))
set_option maxHeartbeats 4000000 in
set_option maxRecDepth 100000 in
theorem l_X3_doMove_56 {p : Program} {l : Launch} {e : Env} {s : State} {m : MethodId} {args : Array Value} {below : List Frame} {meth : Method} {c : Code} {A : Nat → Prop} {D : va_G} {cy : Nat → ClassId} {Q : State → Prop} {a_this : Nat} {a_ro : Nat} {a_fr : Nat} {a_bu : Nat} {a_no : Nat} {a_te : Nat} {a_fa : Nat} {a_li : Nat} {a_wy : Nat} {a_su : Nat} {c_th : Int32} {c_n : Int32} {c_tu : Int32} {c_al : Int32} {c_le : Int32} {c_wa : Int32} {c_re : Int32} {c_us : Int32} {c_di : Int32} {c_ha : Int64} {c_fr : Nat → Int32} {c_te : Nat → Int32} {v_2 : Int32} {K82 : Int32 → (Nat → Int32) → Prop} (C0 : Cx p s m args c cX3_doMove yX3_doMove.cls 4 wsX3_doMove D cy A)
    (k82 : ∀ (v_3 : Int32) (c_ro : Nat → Int32) (H : Heap) (locs : List Loc) (ls : Array Slot), K82 v_3 c_ro → va_P D vwCl ([(a_this, .inr (3, [.int c_th, .int c_n, .int c_tu, .int c_al, .ref a_ro, .ref a_fr, .int c_le, .ref a_bu, .ref a_no, .ref a_te, .ref a_fa, .ref a_li, .int c_wa, .int c_re, .int c_us, .int c_di, .ref a_wy, .ref a_su, .long c_ha])), (a_ro, .inl (cy 0, 8, .inl c_ro)), (a_fr, .inl (cy 0, 96, .inl c_fr)), (a_te, .inl (cy 0, 8, .inl c_te))]) H → va_D A ([(a_this, .inr (3, [.int c_th, .int c_n, .int c_tu, .int c_al, .ref a_ro, .ref a_fr, .int c_le, .ref a_bu, .ref a_no, .ref a_te, .ref a_fa, .ref a_li, .int c_wa, .int c_re, .int c_us, .int c_di, .ref a_wy, .ref a_su, .long c_ha])), (a_ro, .inl (cy 0, 8, .inl c_ro)), (a_fr, .inl (cy 0, 96, .inl c_fr)), (a_te, .inl (cy 0, 8, .inl c_te))]) → va_S A s.heap H locs → lv_has ls 4 [(2, .int v_2)] → W p l e (({ frames := 1, cells := 0, slots := 0, locals := 24 } : Room)) s m args below meth c H locs 0 0 Q (F0 m 82 ls [])) :
    ∀ (N : Nat) (v_3 : Int32) (c_ro : Nat → Int32) (H : Heap) (locs : List Loc) (ls : Array Slot), lp_X3_doMove_56 c_n c_te K82 N v_3 c_ro → va_P D vwCl ([(a_this, .inr (3, [.int c_th, .int c_n, .int c_tu, .int c_al, .ref a_ro, .ref a_fr, .int c_le, .ref a_bu, .ref a_no, .ref a_te, .ref a_fa, .ref a_li, .int c_wa, .int c_re, .int c_us, .int c_di, .ref a_wy, .ref a_su, .long c_ha])), (a_ro, .inl (cy 0, 8, .inl c_ro)), (a_fr, .inl (cy 0, 96, .inl c_fr)), (a_te, .inl (cy 0, 8, .inl c_te))]) H → va_D A ([(a_this, .inr (3, [.int c_th, .int c_n, .int c_tu, .int c_al, .ref a_ro, .ref a_fr, .int c_le, .ref a_bu, .ref a_no, .ref a_te, .ref a_fa, .ref a_li, .int c_wa, .int c_re, .int c_us, .int c_di, .ref a_wy, .ref a_su, .long c_ha])), (a_ro, .inl (cy 0, 8, .inl c_ro)), (a_fr, .inl (cy 0, 96, .inl c_fr)), (a_te, .inl (cy 0, 8, .inl c_te))]) → va_S A s.heap H locs → lv_has ls 4 [(0, .ref a_this), (2, .int v_2), (3, .int v_3)] → W p l e (({ frames := 1, cells := 0, slots := 0, locals := 24 } : Room)) s m args below meth c H locs 0 0 Q (F0 m 56 ls []) := by
  obtain ⟨hx, hb, hml, hown, hts, hK, hA⟩ := id C0
  intro N
  induction N with
  | zero =>
    intro v_3 c_ro H locs ls hw
    exact False.elim hw
  | succ N ih =>
    intro v_3 c_ro H locs ls hw hP hD hS hl
    rw [lp_X3_doMove_56] at hw
    refine lv_iload_n hx hb dX3_doMove_56 rfl (lv_at hl 2 rfl) ?_
    refine lv_aload_n hx hb dX3_doMove_57 rfl (lv_at hl 0 rfl) ?_
    refine va_get (D := D) (ci := 3) (v := .int c_n) (C := RX3) (T := TX3) (N := 19) hx hb hts k_X3_doMove_X3 hown hK hP 0 rfl rfl 1 (by decide) (hts _ q_X3_doMove_3) (fun _ h9 => h9) rfl dX3_doMove_58 ?_
    refine lv_icmp_ge (tgt := 82) hx hb dX3_doMove_61 (by decide) (fun c_11 => ?_) (fun c_11 => ?_)
    · replace hw := hw.1 c_11
      exact k82 _ _ _ _ _ hw hP hD hS (lv_sub hl [1] rfl)
    · replace hw := hw.2 c_11
      refine lv_aload_n hx hb dX3_doMove_64 rfl (lv_at hl 0 rfl) ?_
      refine va_get (D := D) (ci := 3) (v := .ref a_ro) (C := RX3) (T := TX3) (N := 19) hx hb hts k_X3_doMove_X3 hown hK hP 0 rfl rfl 4 (by decide) (hts _ q_X3_doMove_1) (fun _ h9 => h9) rfl dX3_doMove_65 ?_
      refine lv_iload_n hx hb dX3_doMove_68 rfl (lv_at hl 2 rfl) ?_
      refine lv_aload_n hx hb dX3_doMove_69 rfl (lv_at hl 0 rfl) ?_
      refine va_get (D := D) (ci := 3) (v := .ref a_te) (C := RX3) (T := TX3) (N := 19) hx hb hts k_X3_doMove_X3 hown hK hP 0 rfl rfl 9 (by decide) (hts _ q_X3_doMove_2) (fun _ h9 => h9) rfl dX3_doMove_70 ?_
      refine lv_iload_n hx hb dX3_doMove_73 rfl (lv_at hl 2 rfl) ?_
      obtain ⟨h_12, hw⟩ := hw
      refine va_iald hx hb hK hP 3 0 rfl rfl h_12 dX3_doMove_74 ?_
      obtain ⟨h_13, hw⟩ := hw
      refine va_iast hx hb hK hP hD hS 1 0 rfl rfl h_13 dX3_doMove_75 (fun H locs hP hD hS => ?_)
      have hP : va_P D vwCl ([(a_this, .inr (3, [.int c_th, .int c_n, .int c_tu, .int c_al, .ref a_ro, .ref a_fr, .int c_le, .ref a_bu, .ref a_no, .ref a_te, .ref a_fa, .ref a_li, .int c_wa, .int c_re, .int c_us, .int c_di, .ref a_wy, .ref a_su, .long c_ha])), (a_ro, .inl (cy 0, 8, .inl (upd c_ro ((v_3 : Int32).toNatClampNeg) (c_te (v_3 : Int32).toNatClampNeg)))), (a_fr, .inl (cy 0, 96, .inl c_fr)), (a_te, .inl (cy 0, 8, .inl c_te))]) H := hP
      have hD : va_D A ([(a_this, .inr (3, [.int c_th, .int c_n, .int c_tu, .int c_al, .ref a_ro, .ref a_fr, .int c_le, .ref a_bu, .ref a_no, .ref a_te, .ref a_fa, .ref a_li, .int c_wa, .int c_re, .int c_us, .int c_di, .ref a_wy, .ref a_su, .long c_ha])), (a_ro, .inl (cy 0, 8, .inl (upd c_ro ((v_3 : Int32).toNatClampNeg) (c_te (v_3 : Int32).toNatClampNeg)))), (a_fr, .inl (cy 0, 96, .inl c_fr)), (a_te, .inl (cy 0, 8, .inl c_te))]) := hD
      refine lv_iinc (v := v_3 + 1) (lv' := [(3, .int (v_3 + 1)), (0, .ref a_this), (2, .int v_2)]) hx hb dX3_doMove_76 hl (k := 2) rfl rfl (by decide) rfl (fun ls hl => ?_)
      refine lv_goto (tgt := 56) hx hb dX3_doMove_79 (by decide) ?_
      exact ih _ _ _ _ _ hw hP hD hS (lv_sub hl [1, 2, 0] rfl)
def wp_X3_doMove (c_n : Int32) (c_ro : Nat → Int32) (c_fr : Nat → Int32) (c_te : Nat → Int32) (p_1 : Int32) (post : Int32 → ((Nat → Int32) × (Nat → Int32)) → Prop) : Prop := (wp_X3_shift c_n c_fr c_ro c_te p_1 (fun u_1 => (∃ N_8 : Nat, lp_X3_doMove_17 c_n c_ro u_1 (fun (v_9 : Int32) (v_10 : Int32) => (∃ N_14 : Nat, lp_X3_doMove_56 c_n u_1 (fun (v_15 : Int32) (c_16 : Nat → Int32) => (post v_9 (c_16, u_1))) N_14 0 c_ro)) N_8 0 0)))
set_option maxHeartbeats 4000000 in
set_option maxRecDepth 100000 in
theorem c_X3_doMove (l : Launch) (D : va_G) (cy : Nat → ClassId) (a_this : Nat) (a_ro : Nat) (a_fr : Nat) (a_bu : Nat) (a_no : Nat) (a_te : Nat) (a_fa : Nat) (a_li : Nat) (a_wy : Nat) (a_su : Nat) (c_th : Int32) (c_n : Int32) (c_tu : Int32) (c_al : Int32) (c_le : Int32) (c_wa : Int32) (c_re : Int32) (c_us : Int32) (c_di : Int32) (c_ha : Int64) (c_ro : Nat → Int32) (c_fr : Nat → Int32) (c_te : Nat → Int32) (p_1 : Int32) {post : Int32 → ((Nat → Int32) × (Nat → Int32)) → Prop} (hw : wp_X3_doMove c_n c_ro c_fr c_te p_1 post) (sz : Nat) : Met l yX3_doMove wsX3_doMove ({ frames := 1, cells := 0, slots := 0, locals := 24 }) (va_Pc [.ref a_this, .int p_1] (PreW D cy ([(a_this, .inr (3, [.int c_th, .int c_n, .int c_tu, .int c_al, .ref a_ro, .ref a_fr, .int c_le, .ref a_bu, .ref a_no, .ref a_te, .ref a_fa, .ref a_li, .int c_wa, .int c_re, .int c_us, .int c_di, .ref a_wy, .ref a_su, .long c_ha])), (a_ro, .inl (cy 0, 8, .inl c_ro)), (a_fr, .inl (cy 0, 96, .inl c_fr)), (a_te, .inl (cy 0, 8, .inl c_te))]) sz)) (va_Qi post (fun u t => PostW D cy (va_A ([(a_this, .inr (3, [.int c_th, .int c_n, .int c_tu, .int c_al, .ref a_ro, .ref a_fr, .int c_le, .ref a_bu, .ref a_no, .ref a_te, .ref a_fa, .ref a_li, .int c_wa, .int c_re, .int c_us, .int c_di, .ref a_wy, .ref a_su, .long c_ha])), (a_ro, .inl (cy 0, 8, .inl c_ro)), (a_fr, .inl (cy 0, 96, .inl c_fr)), (a_te, .inl (cy 0, 8, .inl c_te))]) sz) ([(a_this, .inr (3, [.int c_th, .int c_n, .int c_tu, .int c_al, .ref a_ro, .ref a_fr, .int c_le, .ref a_bu, .ref a_no, .ref a_te, .ref a_fa, .ref a_li, .int c_wa, .int c_re, .int c_us, .int c_di, .ref a_wy, .ref a_su, .long c_ha])), (a_ro, .inl (cy 0, 8, .inl u.1)), (a_fr, .inl (cy 0, 96, .inl c_fr)), (a_te, .inl (cy 0, 8, .inl u.2))]) t) (va_A ([(a_this, .inr (3, [.int c_th, .int c_n, .int c_tu, .int c_al, .ref a_ro, .ref a_fr, .int c_le, .ref a_bu, .ref a_no, .ref a_te, .ref a_fa, .ref a_li, .int c_wa, .int c_re, .int c_us, .int c_di, .ref a_wy, .ref a_su, .long c_ha])), (a_ro, .inl (cy 0, 8, .inl c_ro)), (a_fr, .inl (cy 0, 96, .inl c_fr)), (a_te, .inl (cy 0, 8, .inl c_te))]) sz)) 0 0 (va_A ([(a_this, .inr (3, [.int c_th, .int c_n, .int c_tu, .int c_al, .ref a_ro, .ref a_fr, .int c_le, .ref a_bu, .ref a_no, .ref a_te, .ref a_fa, .ref a_li, .int c_wa, .int c_re, .int c_us, .int c_di, .ref a_wy, .ref a_su, .long c_ha])), (a_ro, .inl (cy 0, 8, .inl c_ro)), (a_fr, .inl (cy 0, 96, .inl c_fr)), (a_te, .inl (cy 0, 8, .inl c_te))]) sz) := by
  refine j_met (Qc := fun A => va_Qi post (fun u t => PostW D cy A ([(a_this, .inr (3, [.int c_th, .int c_n, .int c_tu, .int c_al, .ref a_ro, .ref a_fr, .int c_le, .ref a_bu, .ref a_no, .ref a_te, .ref a_fa, .ref a_li, .int c_wa, .int c_re, .int c_us, .int c_di, .ref a_wy, .ref a_su, .long c_ha])), (a_ro, .inl (cy 0, 8, .inl u.1)), (a_fr, .inl (cy 0, 96, .inl c_fr)), (a_te, .inl (cy 0, 8, .inl u.2))]) t) A) (by decide +kernel) rfl (Nat.le_of_ble_eq_true rfl) ?_
  intro p e s m below meth c A ls C0 hr hlocks hP hD hS hl
  obtain ⟨hx, hb, hml, hown, hts, hK, hA⟩ := id C0
  have hown : s.vm.findClass RX3 = some m.cls := hown
  have hl : lv_has ls 4 [(0, .ref a_this), (1, .int p_1)] := hl
  unfold wp_X3_doMove at hw
  refine lv_iconst (v := 0) hx hb dX3_doMove_0 (by decide) ?_
  refine lv_istore_n (lv' := [(2, .int 0), (0, .ref a_this), (1, .int p_1)]) hx hb dX3_doMove_1 rfl hl (by decide) rfl (fun ls hl => ?_)
  refine lv_aload_n hx hb dX3_doMove_2 rfl (lv_at hl 1 rfl) ?_
  refine lv_iload_n hx hb dX3_doMove_3 rfl (lv_at hl 2 rfl) ?_
  refine lv_aload_n hx hb dX3_doMove_4 rfl (lv_at hl 1 rfl) ?_
  refine va_get (D := D) (ci := 3) (v := .ref a_ro) (C := RX3) (T := TX3) (N := 19) hx hb hts k_X3_doMove_X3 hown hK hP 0 rfl rfl 4 (by decide) (hts _ q_X3_doMove_1) (fun _ h9 => h9) rfl dX3_doMove_5 ?_
  refine lv_aload_n hx hb dX3_doMove_8 rfl (lv_at hl 1 rfl) ?_
  refine va_get (D := D) (ci := 3) (v := .ref a_te) (C := RX3) (T := TX3) (N := 19) hx hb hts k_X3_doMove_X3 hown hK hP 0 rfl rfl 9 (by decide) (hts _ q_X3_doMove_2) (fun _ h9 => h9) rfl dX3_doMove_9 ?_
  refine j_callv (wr := []) (va_runV (As := [.int p_1, .ref a_ro, .ref a_te]) (rest := []) ⟨hx, hb, hml, hown, hts⟩ (c_X3_shift l D cy a_this a_ro a_fr a_bu a_no a_te a_fa a_li a_wy a_su a_ro a_te c_th c_n c_tu c_al c_le c_wa c_re c_us c_di c_ha c_fr c_ro c_te p_1 hw s.heap.size) (cwV 3 hts gX3_doMove_X3_shift rfl rfl rfl (by decide +kernel) ⟨Nat.le_of_ble_eq_true rfl, Nat.le_of_ble_eq_true rfl⟩) (j_preV hK hP hD (isC := [0, 2, 1, 3]) rfl (by decide +kernel) (ci := 3) (q0 := 0) rfl rfl) rfl rfl hl.1 rfl (lv_room (Nat.le_of_ble_eq_true rfl)) dX3_doMove_12 ⟨Nat.le_of_ble_eq_true rfl, Nat.le_of_ble_eq_true rfl⟩) hP hD hS hA [0, 2, 1, 3] [] rfl rfl (by decide +kernel) (by decide +kernel) (fun u_1 => [(a_this, .inr (3, [.int c_th, .int c_n, .int c_tu, .int c_al, .ref a_ro, .ref a_fr, .int c_le, .ref a_bu, .ref a_no, .ref a_te, .ref a_fa, .ref a_li, .int c_wa, .int c_re, .int c_us, .int c_di, .ref a_wy, .ref a_su, .long c_ha])), (a_ro, .inl (cy 0, 8, .inl c_ro)), (a_fr, .inl (cy 0, 96, .inl c_fr)), (a_te, .inl (cy 0, 8, .inl u_1))]) [0, 2, 1, 3] (by decide +kernel) (fun u => rfl) (fun u_1 H locs hw hP hD hS => ?_)
  have hP : va_P D vwCl ([(a_this, .inr (3, [.int c_th, .int c_n, .int c_tu, .int c_al, .ref a_ro, .ref a_fr, .int c_le, .ref a_bu, .ref a_no, .ref a_te, .ref a_fa, .ref a_li, .int c_wa, .int c_re, .int c_us, .int c_di, .ref a_wy, .ref a_su, .long c_ha])), (a_ro, .inl (cy 0, 8, .inl c_ro)), (a_fr, .inl (cy 0, 96, .inl c_fr)), (a_te, .inl (cy 0, 8, .inl u_1))]) H := hP
  have hD : va_D A ([(a_this, .inr (3, [.int c_th, .int c_n, .int c_tu, .int c_al, .ref a_ro, .ref a_fr, .int c_le, .ref a_bu, .ref a_no, .ref a_te, .ref a_fa, .ref a_li, .int c_wa, .int c_re, .int c_us, .int c_di, .ref a_wy, .ref a_su, .long c_ha])), (a_ro, .inl (cy 0, 8, .inl c_ro)), (a_fr, .inl (cy 0, 96, .inl c_fr)), (a_te, .inl (cy 0, 8, .inl u_1))]) := hD
  refine lv_iconst (v := 0) hx hb dX3_doMove_15 (by decide) ?_
  refine lv_istore_n (lv' := [(3, .int 0), (2, .int 0), (0, .ref a_this), (1, .int p_1)]) hx hb dX3_doMove_16 rfl hl (by decide) rfl (fun ls hl => ?_)
  obtain ⟨N_8, hw⟩ := hw
  refine l_X3_doMove_17 C0 (fun v_9 v_10 H locs ls hw hP hD hS hl => ?_) _ _ _ _ _ _ hw hP hD hS (lv_sub hl [2, 1, 0] rfl)
  refine lv_iconst (v := 0) hx hb dX3_doMove_54 (by decide) ?_
  refine lv_istore_n (lv' := [(3, .int 0), (0, .ref a_this), (2, .int v_9)]) hx hb dX3_doMove_55 rfl hl (by decide) rfl (fun ls hl => ?_)
  obtain ⟨N_14, hw⟩ := hw
  refine l_X3_doMove_56 C0 (fun v_15 c_16 H locs ls hw hP hD hS hl => ?_) _ _ _ _ _ _ hw hP hD hS (lv_sub hl [1, 2, 0] rfl)
  refine lv_iload_n hx hb dX3_doMove_82 rfl (lv_at hl 0 rfl) ?_
  exact j_iret (fun u => [(a_this, .inr (3, [.int c_th, .int c_n, .int c_tu, .int c_al, .ref a_ro, .ref a_fr, .int c_le, .ref a_bu, .ref a_no, .ref a_te, .ref a_fa, .ref a_li, .int c_wa, .int c_re, .int c_us, .int c_di, .ref a_wy, .ref a_su, .long c_ha])), (a_ro, .inl (cy 0, 8, .inl u.1)), (a_fr, .inl (cy 0, 96, .inl c_fr)), (a_te, .inl (cy 0, 8, .inl u.2))]) ((c_16, u_1) : (Nat → Int32) × (Nat → Int32)) hx hb hr hlocks hK hP hD hS hw dX3_doMove_83
theorem q_X3_make_1 : Cond.fieldLink RX3 96 "TwistedRowModel" "allowed" "I" ∈ wsX3_make := List.mem_of_getElem? (i := 1) rfl
theorem k_X3_make_X3 : ∀ w ∈ wsX30, w ∈ wsX3_make := my_in _ [27, 28, 29, 30, 31, 32, 33, 34, 35, 36, 37, 38, 39, 40, 41, 42, 43, 44, 45] (by decide +kernel)
theorem q_X3_make_2 : Cond.fieldLink RX3 46 "TwistedRowModel" "thrown" "I" ∈ wsX3_make := List.mem_of_getElem? (i := 2) rfl
def wp_X3_make (c_n : Int32) (c_tu : Int32) (c_al : Int32) (c_ro : Nat → Int32) (c_fr : Nat → Int32) (c_te : Nat → Int32) (p_1 : Int32) (post : Int32 → (Int32 × (Nat → Int32) × (Nat → Int32)) → Prop) : Prop := (wp_X3_isMove c_tu p_1 (fun r_2 u_1 => ((¬ r_2 = 0 → (wp_X3_has c_al p_1 (fun r_5 u_4 => ((r_5 = 0 → (((2 : Int32) ≤ 0 → (wp_X3_doMove c_n c_ro c_fr c_te p_1 (fun r_9 u_8 => (post r_9 ((2 : Int32), u_8.1, u_8.2))))) ∧ (¬ (2 : Int32) ≤ 0 → (post 0 ((2 : Int32), c_ro, c_te))))) ∧ (¬ r_5 = 0 → (((0 : Int32) ≤ 0 → (wp_X3_doMove c_n c_ro c_fr c_te p_1 (fun r_12 u_11 => (post r_12 ((0 : Int32), u_11.1, u_11.2))))) ∧ (¬ (0 : Int32) ≤ 0 → (post 0 ((0 : Int32), c_ro, c_te))))))))) ∧ (r_2 = 0 → (((1 : Int32) ≤ 0 → (wp_X3_doMove c_n c_ro c_fr c_te p_1 (fun r_15 u_14 => (post r_15 ((1 : Int32), u_14.1, u_14.2))))) ∧ (¬ (1 : Int32) ≤ 0 → (post 0 ((1 : Int32), c_ro, c_te))))))))
set_option maxHeartbeats 4000000 in
set_option maxRecDepth 100000 in
theorem c_X3_make (l : Launch) (D : va_G) (cy : Nat → ClassId) (a_this : Nat) (a_ro : Nat) (a_fr : Nat) (a_bu : Nat) (a_no : Nat) (a_te : Nat) (a_fa : Nat) (a_li : Nat) (a_wy : Nat) (a_su : Nat) (c_th : Int32) (c_n : Int32) (c_tu : Int32) (c_al : Int32) (c_le : Int32) (c_wa : Int32) (c_re : Int32) (c_us : Int32) (c_di : Int32) (c_ha : Int64) (c_ro : Nat → Int32) (c_fr : Nat → Int32) (c_te : Nat → Int32) (p_1 : Int32) {post : Int32 → (Int32 × (Nat → Int32) × (Nat → Int32)) → Prop} (hw : wp_X3_make c_n c_tu c_al c_ro c_fr c_te p_1 post) (sz : Nat) : Met l yX3_make wsX3_make ({ frames := 2, cells := 0, slots := 0, locals := 47 }) (va_Pc [.ref a_this, .int p_1] (PreW D cy ([(a_this, .inr (3, [.int c_th, .int c_n, .int c_tu, .int c_al, .ref a_ro, .ref a_fr, .int c_le, .ref a_bu, .ref a_no, .ref a_te, .ref a_fa, .ref a_li, .int c_wa, .int c_re, .int c_us, .int c_di, .ref a_wy, .ref a_su, .long c_ha])), (a_ro, .inl (cy 0, 8, .inl c_ro)), (a_fr, .inl (cy 0, 96, .inl c_fr)), (a_te, .inl (cy 0, 8, .inl c_te))]) sz)) (va_Qi post (fun u t => PostW D cy (va_A ([(a_this, .inr (3, [.int c_th, .int c_n, .int c_tu, .int c_al, .ref a_ro, .ref a_fr, .int c_le, .ref a_bu, .ref a_no, .ref a_te, .ref a_fa, .ref a_li, .int c_wa, .int c_re, .int c_us, .int c_di, .ref a_wy, .ref a_su, .long c_ha])), (a_ro, .inl (cy 0, 8, .inl c_ro)), (a_fr, .inl (cy 0, 96, .inl c_fr)), (a_te, .inl (cy 0, 8, .inl c_te))]) sz) ([(a_this, .inr (3, [.int u.1, .int c_n, .int c_tu, .int c_al, .ref a_ro, .ref a_fr, .int c_le, .ref a_bu, .ref a_no, .ref a_te, .ref a_fa, .ref a_li, .int c_wa, .int c_re, .int c_us, .int c_di, .ref a_wy, .ref a_su, .long c_ha])), (a_ro, .inl (cy 0, 8, .inl u.2.1)), (a_fr, .inl (cy 0, 96, .inl c_fr)), (a_te, .inl (cy 0, 8, .inl u.2.2))]) t) (va_A ([(a_this, .inr (3, [.int c_th, .int c_n, .int c_tu, .int c_al, .ref a_ro, .ref a_fr, .int c_le, .ref a_bu, .ref a_no, .ref a_te, .ref a_fa, .ref a_li, .int c_wa, .int c_re, .int c_us, .int c_di, .ref a_wy, .ref a_su, .long c_ha])), (a_ro, .inl (cy 0, 8, .inl c_ro)), (a_fr, .inl (cy 0, 96, .inl c_fr)), (a_te, .inl (cy 0, 8, .inl c_te))]) sz)) 0 0 (va_A ([(a_this, .inr (3, [.int c_th, .int c_n, .int c_tu, .int c_al, .ref a_ro, .ref a_fr, .int c_le, .ref a_bu, .ref a_no, .ref a_te, .ref a_fa, .ref a_li, .int c_wa, .int c_re, .int c_us, .int c_di, .ref a_wy, .ref a_su, .long c_ha])), (a_ro, .inl (cy 0, 8, .inl c_ro)), (a_fr, .inl (cy 0, 96, .inl c_fr)), (a_te, .inl (cy 0, 8, .inl c_te))]) sz) := by
  refine j_met (Qc := fun A => va_Qi post (fun u t => PostW D cy A ([(a_this, .inr (3, [.int u.1, .int c_n, .int c_tu, .int c_al, .ref a_ro, .ref a_fr, .int c_le, .ref a_bu, .ref a_no, .ref a_te, .ref a_fa, .ref a_li, .int c_wa, .int c_re, .int c_us, .int c_di, .ref a_wy, .ref a_su, .long c_ha])), (a_ro, .inl (cy 0, 8, .inl u.2.1)), (a_fr, .inl (cy 0, 96, .inl c_fr)), (a_te, .inl (cy 0, 8, .inl u.2.2))]) t) A) (by decide +kernel) rfl (Nat.le_of_ble_eq_true rfl) ?_
  intro p e s m below meth c A ls C0 hr hlocks hP hD hS hl
  obtain ⟨hx, hb, hml, hown, hts, hK, hA⟩ := id C0
  have hown : s.vm.findClass RX3 = some m.cls := hown
  have hl : lv_has ls 2 [(0, .ref a_this), (1, .int p_1)] := hl
  unfold wp_X3_make at hw
  refine lv_aload_n hx hb dX3_make_0 rfl (lv_at hl 0 rfl) ?_
  refine lv_aload_n hx hb dX3_make_1 rfl (lv_at hl 0 rfl) ?_
  refine lv_iload_n hx hb dX3_make_2 rfl (lv_at hl 1 rfl) ?_
  refine j_calli (wr := [(a_ro, .inl (cy 0, 8, .inl c_ro)), (a_fr, .inl (cy 0, 96, .inl c_fr)), (a_te, .inl (cy 0, 8, .inl c_te))]) (va_runV (As := [.int p_1]) (rest := [.ref a_this]) ⟨hx, hb, hml, hown, hts⟩ (c_X3_isMove l D cy a_this a_ro a_fr a_bu a_no a_te a_fa a_li a_wy a_su c_th c_n c_tu c_al c_le c_wa c_re c_us c_di c_ha p_1 hw s.heap.size) (cwV 1 hts gX3_make_X3_isMove rfl rfl rfl (by decide +kernel) ⟨Nat.le_of_ble_eq_true rfl, Nat.le_of_ble_eq_true rfl⟩) (j_preV hK hP hD (isC := [0]) rfl (by decide +kernel) (ci := 3) (q0 := 0) rfl rfl) rfl rfl hl.1 rfl (lv_room (Nat.le_of_ble_eq_true rfl)) dX3_make_3 ⟨Nat.le_of_ble_eq_true rfl, Nat.le_of_ble_eq_true rfl⟩) hP hD hS hA [0] [1, 2, 3] rfl rfl (by decide +kernel) (by decide +kernel) (fun u_1 => [(a_this, .inr (3, [.int c_th, .int c_n, .int c_tu, .int c_al, .ref a_ro, .ref a_fr, .int c_le, .ref a_bu, .ref a_no, .ref a_te, .ref a_fa, .ref a_li, .int c_wa, .int c_re, .int c_us, .int c_di, .ref a_wy, .ref a_su, .long c_ha])), (a_ro, .inl (cy 0, 8, .inl c_ro)), (a_fr, .inl (cy 0, 96, .inl c_fr)), (a_te, .inl (cy 0, 8, .inl c_te))]) [3, 0, 1, 2] (by decide +kernel) (fun u => rfl) (fun r_2 u_1 H locs hw hP hD hS => ?_)
  have hP : va_P D vwCl ([(a_this, .inr (3, [.int c_th, .int c_n, .int c_tu, .int c_al, .ref a_ro, .ref a_fr, .int c_le, .ref a_bu, .ref a_no, .ref a_te, .ref a_fa, .ref a_li, .int c_wa, .int c_re, .int c_us, .int c_di, .ref a_wy, .ref a_su, .long c_ha])), (a_ro, .inl (cy 0, 8, .inl c_ro)), (a_fr, .inl (cy 0, 96, .inl c_fr)), (a_te, .inl (cy 0, 8, .inl c_te))]) H := hP
  have hD : va_D A ([(a_this, .inr (3, [.int c_th, .int c_n, .int c_tu, .int c_al, .ref a_ro, .ref a_fr, .int c_le, .ref a_bu, .ref a_no, .ref a_te, .ref a_fa, .ref a_li, .int c_wa, .int c_re, .int c_us, .int c_di, .ref a_wy, .ref a_su, .long c_ha])), (a_ro, .inl (cy 0, 8, .inl c_ro)), (a_fr, .inl (cy 0, 96, .inl c_fr)), (a_te, .inl (cy 0, 8, .inl c_te))]) := hD
  refine lv_if_ne (tgt := 13) hx hb dX3_make_6 (by decide) (fun c_3 => ?_) (fun c_3 => ?_)
  · replace hw := hw.1 c_3
    refine lv_aload_n hx hb dX3_make_13 rfl (lv_at hl 0 rfl) ?_
    refine va_get (D := D) (ci := 3) (v := .int c_al) (C := RX3) (T := TX3) (N := 19) hx hb hts k_X3_make_X3 hown hK hP 0 rfl rfl 3 (by decide) (hts _ q_X3_make_1) (fun _ h9 => h9) rfl dX3_make_14 ?_
    refine lv_iload_n hx hb dX3_make_17 rfl (lv_at hl 1 rfl) ?_
    refine j_calli (wr := [(a_this, .inr (3, [.int c_th, .int c_n, .int c_tu, .int c_al, .ref a_ro, .ref a_fr, .int c_le, .ref a_bu, .ref a_no, .ref a_te, .ref a_fa, .ref a_li, .int c_wa, .int c_re, .int c_us, .int c_di, .ref a_wy, .ref a_su, .long c_ha])), (a_ro, .inl (cy 0, 8, .inl c_ro)), (a_fr, .inl (cy 0, 96, .inl c_fr)), (a_te, .inl (cy 0, 8, .inl c_te))]) (va_runS (As := [.int c_al, .int p_1]) (rest := [.ref a_this]) ⟨hx, hb, hml, hown, hts⟩ (c_X3_has l D cy c_al p_1 hw H.size) (va_cwS 2 hts gX3_make_X3_has rfl rfl rfl (by decide +kernel) ⟨Nat.le_of_ble_eq_true rfl, Nat.le_of_ble_eq_true rfl⟩) (j_preS hK hP hD (isC := []) rfl (by decide +kernel)) rfl rfl hl.1 rfl (lv_room (Nat.le_of_ble_eq_true rfl)) dX3_make_18 ⟨Nat.le_of_ble_eq_true rfl, Nat.le_of_ble_eq_true rfl⟩) hP hD hS hA [] [0, 1, 2, 3] rfl rfl (by decide +kernel) (by decide +kernel) (fun u_4 => [(a_this, .inr (3, [.int c_th, .int c_n, .int c_tu, .int c_al, .ref a_ro, .ref a_fr, .int c_le, .ref a_bu, .ref a_no, .ref a_te, .ref a_fa, .ref a_li, .int c_wa, .int c_re, .int c_us, .int c_di, .ref a_wy, .ref a_su, .long c_ha])), (a_ro, .inl (cy 0, 8, .inl c_ro)), (a_fr, .inl (cy 0, 96, .inl c_fr)), (a_te, .inl (cy 0, 8, .inl c_te))]) [0, 1, 2, 3] (by decide +kernel) (fun u => rfl) (fun r_5 u_4 H locs hw hP hD hS => ?_)
    have hP : va_P D vwCl ([(a_this, .inr (3, [.int c_th, .int c_n, .int c_tu, .int c_al, .ref a_ro, .ref a_fr, .int c_le, .ref a_bu, .ref a_no, .ref a_te, .ref a_fa, .ref a_li, .int c_wa, .int c_re, .int c_us, .int c_di, .ref a_wy, .ref a_su, .long c_ha])), (a_ro, .inl (cy 0, 8, .inl c_ro)), (a_fr, .inl (cy 0, 96, .inl c_fr)), (a_te, .inl (cy 0, 8, .inl c_te))]) H := hP
    have hD : va_D A ([(a_this, .inr (3, [.int c_th, .int c_n, .int c_tu, .int c_al, .ref a_ro, .ref a_fr, .int c_le, .ref a_bu, .ref a_no, .ref a_te, .ref a_fa, .ref a_li, .int c_wa, .int c_re, .int c_us, .int c_di, .ref a_wy, .ref a_su, .long c_ha])), (a_ro, .inl (cy 0, 8, .inl c_ro)), (a_fr, .inl (cy 0, 96, .inl c_fr)), (a_te, .inl (cy 0, 8, .inl c_te))]) := hD
    refine lv_if_eq (tgt := 28) hx hb dX3_make_21 (by decide) (fun c_6 => ?_) (fun c_6 => ?_)
    · replace hw := hw.1 c_6
      refine lv_iconst (v := 2) hx hb dX3_make_28 (by decide) ?_
      refine va_put (D := D) (ci := 3) (v := .int 2) (ty := .int) (C := RX3) (T := TX3) (N := 19) hx hb hts k_X3_make_X3 tyX3 tyX3_ok nmX3 hown hK hP hD hS 0 rfl rfl 0 (by decide) (hts _ q_X3_make_2) (fun _ h9 => h9) rfl (by decide +kernel) rfl rfl (Nat.le_of_ble_eq_true rfl) dX3_make_29 (fun H locs hP hD hS => ?_)
      have hP : va_P D vwCl ([(a_this, .inr (3, [.int (2 : Int32), .int c_n, .int c_tu, .int c_al, .ref a_ro, .ref a_fr, .int c_le, .ref a_bu, .ref a_no, .ref a_te, .ref a_fa, .ref a_li, .int c_wa, .int c_re, .int c_us, .int c_di, .ref a_wy, .ref a_su, .long c_ha])), (a_ro, .inl (cy 0, 8, .inl c_ro)), (a_fr, .inl (cy 0, 96, .inl c_fr)), (a_te, .inl (cy 0, 8, .inl c_te))]) H := hP
      have hD : va_D A ([(a_this, .inr (3, [.int (2 : Int32), .int c_n, .int c_tu, .int c_al, .ref a_ro, .ref a_fr, .int c_le, .ref a_bu, .ref a_no, .ref a_te, .ref a_fa, .ref a_li, .int c_wa, .int c_re, .int c_us, .int c_di, .ref a_wy, .ref a_su, .long c_ha])), (a_ro, .inl (cy 0, 8, .inl c_ro)), (a_fr, .inl (cy 0, 96, .inl c_fr)), (a_te, .inl (cy 0, 8, .inl c_te))]) := hD
      refine lv_aload_n hx hb dX3_make_32 rfl (lv_at hl 0 rfl) ?_
      refine va_get (D := D) (ci := 3) (v := .int (2 : Int32)) (C := RX3) (T := TX3) (N := 19) hx hb hts k_X3_make_X3 hown hK hP 0 rfl rfl 0 (by decide) (hts _ q_X3_make_2) (fun _ h9 => h9) rfl dX3_make_33 ?_
      refine lv_if_le (tgt := 43) hx hb dX3_make_36 (by decide) (fun c_7 => ?_) (fun c_7 => ?_)
      · replace hw := hw.1 c_7
        refine lv_aload_n hx hb dX3_make_43 rfl (lv_at hl 0 rfl) ?_
        refine lv_iload_n hx hb dX3_make_44 rfl (lv_at hl 1 rfl) ?_
        refine j_calli (wr := []) (va_runV (As := [.int p_1]) (rest := []) ⟨hx, hb, hml, hown, hts⟩ (c_X3_doMove l D cy a_this a_ro a_fr a_bu a_no a_te a_fa a_li a_wy a_su (2 : Int32) c_n c_tu c_al c_le c_wa c_re c_us c_di c_ha c_ro c_fr c_te p_1 hw H.size) (cwV 1 hts gX3_make_X3_doMove rfl rfl rfl (by decide +kernel) ⟨Nat.le_of_ble_eq_true rfl, Nat.le_of_ble_eq_true rfl⟩) (j_preV hK hP hD (isC := [0, 1, 2, 3]) rfl (by decide +kernel) (ci := 3) (q0 := 0) rfl rfl) rfl rfl hl.1 rfl (lv_room (Nat.le_of_ble_eq_true rfl)) dX3_make_45 ⟨Nat.le_of_ble_eq_true rfl, Nat.le_of_ble_eq_true rfl⟩) hP hD hS hA [0, 1, 2, 3] [] rfl rfl (by decide +kernel) (by decide +kernel) (fun u_8 => [(a_this, .inr (3, [.int (2 : Int32), .int c_n, .int c_tu, .int c_al, .ref a_ro, .ref a_fr, .int c_le, .ref a_bu, .ref a_no, .ref a_te, .ref a_fa, .ref a_li, .int c_wa, .int c_re, .int c_us, .int c_di, .ref a_wy, .ref a_su, .long c_ha])), (a_ro, .inl (cy 0, 8, .inl u_8.1)), (a_fr, .inl (cy 0, 96, .inl c_fr)), (a_te, .inl (cy 0, 8, .inl u_8.2))]) [0, 1, 2, 3] (by decide +kernel) (fun u => rfl) (fun r_9 u_8 H locs hw hP hD hS => ?_)
        have hP : va_P D vwCl ([(a_this, .inr (3, [.int (2 : Int32), .int c_n, .int c_tu, .int c_al, .ref a_ro, .ref a_fr, .int c_le, .ref a_bu, .ref a_no, .ref a_te, .ref a_fa, .ref a_li, .int c_wa, .int c_re, .int c_us, .int c_di, .ref a_wy, .ref a_su, .long c_ha])), (a_ro, .inl (cy 0, 8, .inl u_8.1)), (a_fr, .inl (cy 0, 96, .inl c_fr)), (a_te, .inl (cy 0, 8, .inl u_8.2))]) H := hP
        have hD : va_D A ([(a_this, .inr (3, [.int (2 : Int32), .int c_n, .int c_tu, .int c_al, .ref a_ro, .ref a_fr, .int c_le, .ref a_bu, .ref a_no, .ref a_te, .ref a_fa, .ref a_li, .int c_wa, .int c_re, .int c_us, .int c_di, .ref a_wy, .ref a_su, .long c_ha])), (a_ro, .inl (cy 0, 8, .inl u_8.1)), (a_fr, .inl (cy 0, 96, .inl c_fr)), (a_te, .inl (cy 0, 8, .inl u_8.2))]) := hD
        exact j_iret (fun u => [(a_this, .inr (3, [.int u.1, .int c_n, .int c_tu, .int c_al, .ref a_ro, .ref a_fr, .int c_le, .ref a_bu, .ref a_no, .ref a_te, .ref a_fa, .ref a_li, .int c_wa, .int c_re, .int c_us, .int c_di, .ref a_wy, .ref a_su, .long c_ha])), (a_ro, .inl (cy 0, 8, .inl u.2.1)), (a_fr, .inl (cy 0, 96, .inl c_fr)), (a_te, .inl (cy 0, 8, .inl u.2.2))]) (((2 : Int32), u_8.1, u_8.2) : Int32 × (Nat → Int32) × (Nat → Int32)) hx hb hr hlocks hK hP hD hS hw dX3_make_48
      · replace hw := hw.2 c_7
        refine lv_iconst (v := 0) hx hb dX3_make_39 (by decide) ?_
        refine lv_goto (tgt := 48) hx hb dX3_make_40 (by decide) ?_
        exact j_iret (fun u => [(a_this, .inr (3, [.int u.1, .int c_n, .int c_tu, .int c_al, .ref a_ro, .ref a_fr, .int c_le, .ref a_bu, .ref a_no, .ref a_te, .ref a_fa, .ref a_li, .int c_wa, .int c_re, .int c_us, .int c_di, .ref a_wy, .ref a_su, .long c_ha])), (a_ro, .inl (cy 0, 8, .inl u.2.1)), (a_fr, .inl (cy 0, 96, .inl c_fr)), (a_te, .inl (cy 0, 8, .inl u.2.2))]) (((2 : Int32), c_ro, c_te) : Int32 × (Nat → Int32) × (Nat → Int32)) hx hb hr hlocks hK hP hD hS hw dX3_make_48
    · replace hw := hw.2 c_6
      refine lv_iconst (v := 0) hx hb dX3_make_24 (by decide) ?_
      refine lv_goto (tgt := 29) hx hb dX3_make_25 (by decide) ?_
      refine va_put (D := D) (ci := 3) (v := .int 0) (ty := .int) (C := RX3) (T := TX3) (N := 19) hx hb hts k_X3_make_X3 tyX3 tyX3_ok nmX3 hown hK hP hD hS 0 rfl rfl 0 (by decide) (hts _ q_X3_make_2) (fun _ h9 => h9) rfl (by decide +kernel) rfl rfl (Nat.le_of_ble_eq_true rfl) dX3_make_29 (fun H locs hP hD hS => ?_)
      have hP : va_P D vwCl ([(a_this, .inr (3, [.int (0 : Int32), .int c_n, .int c_tu, .int c_al, .ref a_ro, .ref a_fr, .int c_le, .ref a_bu, .ref a_no, .ref a_te, .ref a_fa, .ref a_li, .int c_wa, .int c_re, .int c_us, .int c_di, .ref a_wy, .ref a_su, .long c_ha])), (a_ro, .inl (cy 0, 8, .inl c_ro)), (a_fr, .inl (cy 0, 96, .inl c_fr)), (a_te, .inl (cy 0, 8, .inl c_te))]) H := hP
      have hD : va_D A ([(a_this, .inr (3, [.int (0 : Int32), .int c_n, .int c_tu, .int c_al, .ref a_ro, .ref a_fr, .int c_le, .ref a_bu, .ref a_no, .ref a_te, .ref a_fa, .ref a_li, .int c_wa, .int c_re, .int c_us, .int c_di, .ref a_wy, .ref a_su, .long c_ha])), (a_ro, .inl (cy 0, 8, .inl c_ro)), (a_fr, .inl (cy 0, 96, .inl c_fr)), (a_te, .inl (cy 0, 8, .inl c_te))]) := hD
      refine lv_aload_n hx hb dX3_make_32 rfl (lv_at hl 0 rfl) ?_
      refine va_get (D := D) (ci := 3) (v := .int (0 : Int32)) (C := RX3) (T := TX3) (N := 19) hx hb hts k_X3_make_X3 hown hK hP 0 rfl rfl 0 (by decide) (hts _ q_X3_make_2) (fun _ h9 => h9) rfl dX3_make_33 ?_
      refine lv_if_le (tgt := 43) hx hb dX3_make_36 (by decide) (fun c_10 => ?_) (fun c_10 => ?_)
      · replace hw := hw.1 c_10
        refine lv_aload_n hx hb dX3_make_43 rfl (lv_at hl 0 rfl) ?_
        refine lv_iload_n hx hb dX3_make_44 rfl (lv_at hl 1 rfl) ?_
        refine j_calli (wr := []) (va_runV (As := [.int p_1]) (rest := []) ⟨hx, hb, hml, hown, hts⟩ (c_X3_doMove l D cy a_this a_ro a_fr a_bu a_no a_te a_fa a_li a_wy a_su (0 : Int32) c_n c_tu c_al c_le c_wa c_re c_us c_di c_ha c_ro c_fr c_te p_1 hw H.size) (cwV 1 hts gX3_make_X3_doMove rfl rfl rfl (by decide +kernel) ⟨Nat.le_of_ble_eq_true rfl, Nat.le_of_ble_eq_true rfl⟩) (j_preV hK hP hD (isC := [0, 1, 2, 3]) rfl (by decide +kernel) (ci := 3) (q0 := 0) rfl rfl) rfl rfl hl.1 rfl (lv_room (Nat.le_of_ble_eq_true rfl)) dX3_make_45 ⟨Nat.le_of_ble_eq_true rfl, Nat.le_of_ble_eq_true rfl⟩) hP hD hS hA [0, 1, 2, 3] [] rfl rfl (by decide +kernel) (by decide +kernel) (fun u_11 => [(a_this, .inr (3, [.int (0 : Int32), .int c_n, .int c_tu, .int c_al, .ref a_ro, .ref a_fr, .int c_le, .ref a_bu, .ref a_no, .ref a_te, .ref a_fa, .ref a_li, .int c_wa, .int c_re, .int c_us, .int c_di, .ref a_wy, .ref a_su, .long c_ha])), (a_ro, .inl (cy 0, 8, .inl u_11.1)), (a_fr, .inl (cy 0, 96, .inl c_fr)), (a_te, .inl (cy 0, 8, .inl u_11.2))]) [0, 1, 2, 3] (by decide +kernel) (fun u => rfl) (fun r_12 u_11 H locs hw hP hD hS => ?_)
        have hP : va_P D vwCl ([(a_this, .inr (3, [.int (0 : Int32), .int c_n, .int c_tu, .int c_al, .ref a_ro, .ref a_fr, .int c_le, .ref a_bu, .ref a_no, .ref a_te, .ref a_fa, .ref a_li, .int c_wa, .int c_re, .int c_us, .int c_di, .ref a_wy, .ref a_su, .long c_ha])), (a_ro, .inl (cy 0, 8, .inl u_11.1)), (a_fr, .inl (cy 0, 96, .inl c_fr)), (a_te, .inl (cy 0, 8, .inl u_11.2))]) H := hP
        have hD : va_D A ([(a_this, .inr (3, [.int (0 : Int32), .int c_n, .int c_tu, .int c_al, .ref a_ro, .ref a_fr, .int c_le, .ref a_bu, .ref a_no, .ref a_te, .ref a_fa, .ref a_li, .int c_wa, .int c_re, .int c_us, .int c_di, .ref a_wy, .ref a_su, .long c_ha])), (a_ro, .inl (cy 0, 8, .inl u_11.1)), (a_fr, .inl (cy 0, 96, .inl c_fr)), (a_te, .inl (cy 0, 8, .inl u_11.2))]) := hD
        exact j_iret (fun u => [(a_this, .inr (3, [.int u.1, .int c_n, .int c_tu, .int c_al, .ref a_ro, .ref a_fr, .int c_le, .ref a_bu, .ref a_no, .ref a_te, .ref a_fa, .ref a_li, .int c_wa, .int c_re, .int c_us, .int c_di, .ref a_wy, .ref a_su, .long c_ha])), (a_ro, .inl (cy 0, 8, .inl u.2.1)), (a_fr, .inl (cy 0, 96, .inl c_fr)), (a_te, .inl (cy 0, 8, .inl u.2.2))]) (((0 : Int32), u_11.1, u_11.2) : Int32 × (Nat → Int32) × (Nat → Int32)) hx hb hr hlocks hK hP hD hS hw dX3_make_48
      · replace hw := hw.2 c_10
        refine lv_iconst (v := 0) hx hb dX3_make_39 (by decide) ?_
        refine lv_goto (tgt := 48) hx hb dX3_make_40 (by decide) ?_
        exact j_iret (fun u => [(a_this, .inr (3, [.int u.1, .int c_n, .int c_tu, .int c_al, .ref a_ro, .ref a_fr, .int c_le, .ref a_bu, .ref a_no, .ref a_te, .ref a_fa, .ref a_li, .int c_wa, .int c_re, .int c_us, .int c_di, .ref a_wy, .ref a_su, .long c_ha])), (a_ro, .inl (cy 0, 8, .inl u.2.1)), (a_fr, .inl (cy 0, 96, .inl c_fr)), (a_te, .inl (cy 0, 8, .inl u.2.2))]) (((0 : Int32), c_ro, c_te) : Int32 × (Nat → Int32) × (Nat → Int32)) hx hb hr hlocks hK hP hD hS hw dX3_make_48
  · replace hw := hw.2 c_3
    refine lv_iconst (v := 1) hx hb dX3_make_9 (by decide) ?_
    refine lv_goto (tgt := 29) hx hb dX3_make_10 (by decide) ?_
    refine va_put (D := D) (ci := 3) (v := .int 1) (ty := .int) (C := RX3) (T := TX3) (N := 19) hx hb hts k_X3_make_X3 tyX3 tyX3_ok nmX3 hown hK hP hD hS 0 rfl rfl 0 (by decide) (hts _ q_X3_make_2) (fun _ h9 => h9) rfl (by decide +kernel) rfl rfl (Nat.le_of_ble_eq_true rfl) dX3_make_29 (fun H locs hP hD hS => ?_)
    have hP : va_P D vwCl ([(a_this, .inr (3, [.int (1 : Int32), .int c_n, .int c_tu, .int c_al, .ref a_ro, .ref a_fr, .int c_le, .ref a_bu, .ref a_no, .ref a_te, .ref a_fa, .ref a_li, .int c_wa, .int c_re, .int c_us, .int c_di, .ref a_wy, .ref a_su, .long c_ha])), (a_ro, .inl (cy 0, 8, .inl c_ro)), (a_fr, .inl (cy 0, 96, .inl c_fr)), (a_te, .inl (cy 0, 8, .inl c_te))]) H := hP
    have hD : va_D A ([(a_this, .inr (3, [.int (1 : Int32), .int c_n, .int c_tu, .int c_al, .ref a_ro, .ref a_fr, .int c_le, .ref a_bu, .ref a_no, .ref a_te, .ref a_fa, .ref a_li, .int c_wa, .int c_re, .int c_us, .int c_di, .ref a_wy, .ref a_su, .long c_ha])), (a_ro, .inl (cy 0, 8, .inl c_ro)), (a_fr, .inl (cy 0, 96, .inl c_fr)), (a_te, .inl (cy 0, 8, .inl c_te))]) := hD
    refine lv_aload_n hx hb dX3_make_32 rfl (lv_at hl 0 rfl) ?_
    refine va_get (D := D) (ci := 3) (v := .int (1 : Int32)) (C := RX3) (T := TX3) (N := 19) hx hb hts k_X3_make_X3 hown hK hP 0 rfl rfl 0 (by decide) (hts _ q_X3_make_2) (fun _ h9 => h9) rfl dX3_make_33 ?_
    refine lv_if_le (tgt := 43) hx hb dX3_make_36 (by decide) (fun c_13 => ?_) (fun c_13 => ?_)
    · replace hw := hw.1 c_13
      refine lv_aload_n hx hb dX3_make_43 rfl (lv_at hl 0 rfl) ?_
      refine lv_iload_n hx hb dX3_make_44 rfl (lv_at hl 1 rfl) ?_
      refine j_calli (wr := []) (va_runV (As := [.int p_1]) (rest := []) ⟨hx, hb, hml, hown, hts⟩ (c_X3_doMove l D cy a_this a_ro a_fr a_bu a_no a_te a_fa a_li a_wy a_su (1 : Int32) c_n c_tu c_al c_le c_wa c_re c_us c_di c_ha c_ro c_fr c_te p_1 hw H.size) (cwV 1 hts gX3_make_X3_doMove rfl rfl rfl (by decide +kernel) ⟨Nat.le_of_ble_eq_true rfl, Nat.le_of_ble_eq_true rfl⟩) (j_preV hK hP hD (isC := [0, 1, 2, 3]) rfl (by decide +kernel) (ci := 3) (q0 := 0) rfl rfl) rfl rfl hl.1 rfl (lv_room (Nat.le_of_ble_eq_true rfl)) dX3_make_45 ⟨Nat.le_of_ble_eq_true rfl, Nat.le_of_ble_eq_true rfl⟩) hP hD hS hA [0, 1, 2, 3] [] rfl rfl (by decide +kernel) (by decide +kernel) (fun u_14 => [(a_this, .inr (3, [.int (1 : Int32), .int c_n, .int c_tu, .int c_al, .ref a_ro, .ref a_fr, .int c_le, .ref a_bu, .ref a_no, .ref a_te, .ref a_fa, .ref a_li, .int c_wa, .int c_re, .int c_us, .int c_di, .ref a_wy, .ref a_su, .long c_ha])), (a_ro, .inl (cy 0, 8, .inl u_14.1)), (a_fr, .inl (cy 0, 96, .inl c_fr)), (a_te, .inl (cy 0, 8, .inl u_14.2))]) [0, 1, 2, 3] (by decide +kernel) (fun u => rfl) (fun r_15 u_14 H locs hw hP hD hS => ?_)
      have hP : va_P D vwCl ([(a_this, .inr (3, [.int (1 : Int32), .int c_n, .int c_tu, .int c_al, .ref a_ro, .ref a_fr, .int c_le, .ref a_bu, .ref a_no, .ref a_te, .ref a_fa, .ref a_li, .int c_wa, .int c_re, .int c_us, .int c_di, .ref a_wy, .ref a_su, .long c_ha])), (a_ro, .inl (cy 0, 8, .inl u_14.1)), (a_fr, .inl (cy 0, 96, .inl c_fr)), (a_te, .inl (cy 0, 8, .inl u_14.2))]) H := hP
      have hD : va_D A ([(a_this, .inr (3, [.int (1 : Int32), .int c_n, .int c_tu, .int c_al, .ref a_ro, .ref a_fr, .int c_le, .ref a_bu, .ref a_no, .ref a_te, .ref a_fa, .ref a_li, .int c_wa, .int c_re, .int c_us, .int c_di, .ref a_wy, .ref a_su, .long c_ha])), (a_ro, .inl (cy 0, 8, .inl u_14.1)), (a_fr, .inl (cy 0, 96, .inl c_fr)), (a_te, .inl (cy 0, 8, .inl u_14.2))]) := hD
      exact j_iret (fun u => [(a_this, .inr (3, [.int u.1, .int c_n, .int c_tu, .int c_al, .ref a_ro, .ref a_fr, .int c_le, .ref a_bu, .ref a_no, .ref a_te, .ref a_fa, .ref a_li, .int c_wa, .int c_re, .int c_us, .int c_di, .ref a_wy, .ref a_su, .long c_ha])), (a_ro, .inl (cy 0, 8, .inl u.2.1)), (a_fr, .inl (cy 0, 96, .inl c_fr)), (a_te, .inl (cy 0, 8, .inl u.2.2))]) (((1 : Int32), u_14.1, u_14.2) : Int32 × (Nat → Int32) × (Nat → Int32)) hx hb hr hlocks hK hP hD hS hw dX3_make_48
    · replace hw := hw.2 c_13
      refine lv_iconst (v := 0) hx hb dX3_make_39 (by decide) ?_
      refine lv_goto (tgt := 48) hx hb dX3_make_40 (by decide) ?_
      exact j_iret (fun u => [(a_this, .inr (3, [.int u.1, .int c_n, .int c_tu, .int c_al, .ref a_ro, .ref a_fr, .int c_le, .ref a_bu, .ref a_no, .ref a_te, .ref a_fa, .ref a_li, .int c_wa, .int c_re, .int c_us, .int c_di, .ref a_wy, .ref a_su, .long c_ha])), (a_ro, .inl (cy 0, 8, .inl u.2.1)), (a_fr, .inl (cy 0, 96, .inl c_fr)), (a_te, .inl (cy 0, 8, .inl u.2.2))]) (((1 : Int32), c_ro, c_te) : Int32 × (Nat → Int32) × (Nat → Int32)) hx hb hr hlocks hK hP hD hS hw dX3_make_48
theorem q_X3_solve_1 : Cond.fieldLink RX3 46 "TwistedRowModel" "thrown" "I" ∈ wsX3_solve := List.mem_of_getElem? (i := 1) rfl
theorem k_X3_solve_X3 : ∀ w ∈ wsX30, w ∈ wsX3_solve := my_in _ [67, 68, 69, 70, 71, 72, 73, 74, 75, 76, 77, 78, 79, 80, 81, 82, 83, 84, 85] (by decide +kernel)
theorem q_X3_solve_2 : Cond.fieldLink RX3 96 "TwistedRowModel" "allowed" "I" ∈ wsX3_solve := List.mem_of_getElem? (i := 2) rfl
theorem q_X3_solve_3 : Cond.fieldLink RX3 30 "TwistedRowModel" "far" "[I" ∈ wsX3_solve := List.mem_of_getElem? (i := 3) rfl
def lp_X3_solve_25 (c_al : Int32) (c_fa : Nat → Int32) (c_fr : Nat → Int32) (c_n : Int32) (c_tu : Int32) (v_1 : Int32) (K53 : Int32 → (Nat → Int32) → (Nat → Int32) → (Nat → Int32) → Prop) : Nat → Int32 → (Nat → Int32) → (Nat → Int32) → (Nat → Int32) → Prop
  | 0, _, _, _, _ => False
  | N + 1, v_2, c_ro, c_no, c_te => ((v_1 ≤ v_2 → (K53 v_2 c_ro c_no c_te)) ∧ (¬ v_1 ≤ v_2 → (wp_X3_present c_n c_ro (fun r_8 u_7 => (wp_X3_nearer c_n c_tu c_fr c_no c_te c_fa r_8 c_al (fun r_10 u_9 => (wp_X3_doMove c_n c_ro c_fr u_9.2 r_10 (fun r_12 u_11 => (lp_X3_solve_25 c_al c_fa c_fr c_n c_tu v_1 K53 N (v_2 + 1) u_11.1 u_9.1 u_11.2)))))))))
set_option maxHeartbeats 4000000 in
set_option maxRecDepth 100000 in
theorem l_X3_solve_25 {p : Program} {l : Launch} {e : Env} {s : State} {m : MethodId} {args : Array Value} {below : List Frame} {meth : Method} {c : Code} {A : Nat → Prop} {D : va_G} {cy : Nat → ClassId} {Q : State → Prop} {a_this : Nat} {a_ro : Nat} {a_fr : Nat} {a_bu : Nat} {a_no : Nat} {a_te : Nat} {a_fa : Nat} {a_li : Nat} {a_wy : Nat} {a_su : Nat} {c_th : Int32} {c_n : Int32} {c_tu : Int32} {c_al : Int32} {c_le : Int32} {c_wa : Int32} {c_re : Int32} {c_us : Int32} {c_di : Int32} {c_ha : Int64} {c_fr : Nat → Int32} {c_fa : Nat → Int32} {c_li : Nat → Int32} {v_1 : Int32} {K53 : Int32 → (Nat → Int32) → (Nat → Int32) → (Nat → Int32) → Prop} (C0 : Cx p s m args c cX3_solve yX3_solve.cls 3 wsX3_solve D cy A)
    (k53 : ∀ (v_2 : Int32) (c_ro : Nat → Int32) (c_no : Nat → Int32) (c_te : Nat → Int32) (H : Heap) (locs : List Loc) (ls : Array Slot), K53 v_2 c_ro c_no c_te → va_P D vwCl ([(a_this, .inr (3, [.int c_th, .int c_n, .int c_tu, .int c_al, .ref a_ro, .ref a_fr, .int c_le, .ref a_bu, .ref a_no, .ref a_te, .ref a_fa, .ref a_li, .int c_wa, .int c_re, .int c_us, .int c_di, .ref a_wy, .ref a_su, .long c_ha])), (a_ro, .inl (cy 0, 8, .inl c_ro)), (a_fr, .inl (cy 0, 96, .inl c_fr)), (a_no, .inl (cy 0, 8, .inl c_no)), (a_te, .inl (cy 0, 8, .inl c_te)), (a_fa, .inl (cy 0, 40320, .inl c_fa)), (a_li, .inl (cy 0, 40320, .inl c_li))]) H → va_D A ([(a_this, .inr (3, [.int c_th, .int c_n, .int c_tu, .int c_al, .ref a_ro, .ref a_fr, .int c_le, .ref a_bu, .ref a_no, .ref a_te, .ref a_fa, .ref a_li, .int c_wa, .int c_re, .int c_us, .int c_di, .ref a_wy, .ref a_su, .long c_ha])), (a_ro, .inl (cy 0, 8, .inl c_ro)), (a_fr, .inl (cy 0, 96, .inl c_fr)), (a_no, .inl (cy 0, 8, .inl c_no)), (a_te, .inl (cy 0, 8, .inl c_te)), (a_fa, .inl (cy 0, 40320, .inl c_fa)), (a_li, .inl (cy 0, 40320, .inl c_li))]) → va_S A s.heap H locs → lv_has ls 3 [(1, .int v_1)] → W p l e (({ frames := 4, cells := 0, slots := 0, locals := 96 } : Room)) s m args below meth c H locs 0 0 Q (F0 m 53 ls [])) :
    ∀ (N : Nat) (v_2 : Int32) (c_ro : Nat → Int32) (c_no : Nat → Int32) (c_te : Nat → Int32) (H : Heap) (locs : List Loc) (ls : Array Slot), lp_X3_solve_25 c_al c_fa c_fr c_n c_tu v_1 K53 N v_2 c_ro c_no c_te → va_P D vwCl ([(a_this, .inr (3, [.int c_th, .int c_n, .int c_tu, .int c_al, .ref a_ro, .ref a_fr, .int c_le, .ref a_bu, .ref a_no, .ref a_te, .ref a_fa, .ref a_li, .int c_wa, .int c_re, .int c_us, .int c_di, .ref a_wy, .ref a_su, .long c_ha])), (a_ro, .inl (cy 0, 8, .inl c_ro)), (a_fr, .inl (cy 0, 96, .inl c_fr)), (a_no, .inl (cy 0, 8, .inl c_no)), (a_te, .inl (cy 0, 8, .inl c_te)), (a_fa, .inl (cy 0, 40320, .inl c_fa)), (a_li, .inl (cy 0, 40320, .inl c_li))]) H → va_D A ([(a_this, .inr (3, [.int c_th, .int c_n, .int c_tu, .int c_al, .ref a_ro, .ref a_fr, .int c_le, .ref a_bu, .ref a_no, .ref a_te, .ref a_fa, .ref a_li, .int c_wa, .int c_re, .int c_us, .int c_di, .ref a_wy, .ref a_su, .long c_ha])), (a_ro, .inl (cy 0, 8, .inl c_ro)), (a_fr, .inl (cy 0, 96, .inl c_fr)), (a_no, .inl (cy 0, 8, .inl c_no)), (a_te, .inl (cy 0, 8, .inl c_te)), (a_fa, .inl (cy 0, 40320, .inl c_fa)), (a_li, .inl (cy 0, 40320, .inl c_li))]) → va_S A s.heap H locs → lv_has ls 3 [(0, .ref a_this), (1, .int v_1), (2, .int v_2)] → W p l e (({ frames := 4, cells := 0, slots := 0, locals := 96 } : Room)) s m args below meth c H locs 0 0 Q (F0 m 25 ls []) := by
  obtain ⟨hx, hb, hml, hown, hts, hK, hA⟩ := id C0
  intro N
  induction N with
  | zero =>
    intro v_2 c_ro c_no c_te H locs ls hw
    exact False.elim hw
  | succ N ih =>
    intro v_2 c_ro c_no c_te H locs ls hw hP hD hS hl
    rw [lp_X3_solve_25] at hw
    refine lv_iload_n hx hb dX3_solve_25 rfl (lv_at hl 2 rfl) ?_
    refine lv_iload_n hx hb dX3_solve_26 rfl (lv_at hl 1 rfl) ?_
    refine lv_icmp_ge (tgt := 53) hx hb dX3_solve_27 (by decide) (fun c_6 => ?_) (fun c_6 => ?_)
    · replace hw := hw.1 c_6
      exact k53 _ _ _ _ _ _ _ hw hP hD hS (lv_sub hl [1] rfl)
    · replace hw := hw.2 c_6
      refine lv_aload_n hx hb dX3_solve_30 rfl (lv_at hl 0 rfl) ?_
      refine lv_aload_n hx hb dX3_solve_31 rfl (lv_at hl 0 rfl) ?_
      refine lv_aload_n hx hb dX3_solve_32 rfl (lv_at hl 0 rfl) ?_
      refine j_calli (wr := [(a_fr, .inl (cy 0, 96, .inl c_fr)), (a_no, .inl (cy 0, 8, .inl c_no)), (a_te, .inl (cy 0, 8, .inl c_te)), (a_fa, .inl (cy 0, 40320, .inl c_fa)), (a_li, .inl (cy 0, 40320, .inl c_li))]) (va_runV (As := []) (rest := [.ref a_this, .ref a_this]) ⟨hx, hb, hml, hown, hts⟩ (c_X3_present l D cy a_this a_ro a_fr a_bu a_no a_te a_fa a_li a_wy a_su c_th c_n c_tu c_al c_le c_wa c_re c_us c_di c_ha c_ro hw H.size) (cwV 0 hts gX3_solve_X3_present rfl rfl rfl (by decide +kernel) ⟨Nat.le_of_ble_eq_true rfl, Nat.le_of_ble_eq_true rfl⟩) (j_preV hK hP hD (isC := [0, 1]) rfl (by decide +kernel) (ci := 3) (q0 := 0) rfl rfl) rfl rfl hl.1 rfl (lv_room (Nat.le_of_ble_eq_true rfl)) dX3_solve_33 ⟨Nat.le_of_ble_eq_true rfl, Nat.le_of_ble_eq_true rfl⟩) hP hD hS hA [0, 1] [2, 3, 4, 5, 6] rfl rfl (by decide +kernel) (by decide +kernel) (fun u_7 => [(a_this, .inr (3, [.int c_th, .int c_n, .int c_tu, .int c_al, .ref a_ro, .ref a_fr, .int c_le, .ref a_bu, .ref a_no, .ref a_te, .ref a_fa, .ref a_li, .int c_wa, .int c_re, .int c_us, .int c_di, .ref a_wy, .ref a_su, .long c_ha])), (a_ro, .inl (cy 0, 8, .inl c_ro)), (a_fr, .inl (cy 0, 96, .inl c_fr)), (a_no, .inl (cy 0, 8, .inl c_no)), (a_te, .inl (cy 0, 8, .inl c_te)), (a_fa, .inl (cy 0, 40320, .inl c_fa)), (a_li, .inl (cy 0, 40320, .inl c_li))]) [5, 6, 0, 1, 2, 3, 4] (by decide +kernel) (fun u => rfl) (fun r_8 u_7 H locs hw hP hD hS => ?_)
      have hP : va_P D vwCl ([(a_this, .inr (3, [.int c_th, .int c_n, .int c_tu, .int c_al, .ref a_ro, .ref a_fr, .int c_le, .ref a_bu, .ref a_no, .ref a_te, .ref a_fa, .ref a_li, .int c_wa, .int c_re, .int c_us, .int c_di, .ref a_wy, .ref a_su, .long c_ha])), (a_ro, .inl (cy 0, 8, .inl c_ro)), (a_fr, .inl (cy 0, 96, .inl c_fr)), (a_no, .inl (cy 0, 8, .inl c_no)), (a_te, .inl (cy 0, 8, .inl c_te)), (a_fa, .inl (cy 0, 40320, .inl c_fa)), (a_li, .inl (cy 0, 40320, .inl c_li))]) H := hP
      have hD : va_D A ([(a_this, .inr (3, [.int c_th, .int c_n, .int c_tu, .int c_al, .ref a_ro, .ref a_fr, .int c_le, .ref a_bu, .ref a_no, .ref a_te, .ref a_fa, .ref a_li, .int c_wa, .int c_re, .int c_us, .int c_di, .ref a_wy, .ref a_su, .long c_ha])), (a_ro, .inl (cy 0, 8, .inl c_ro)), (a_fr, .inl (cy 0, 96, .inl c_fr)), (a_no, .inl (cy 0, 8, .inl c_no)), (a_te, .inl (cy 0, 8, .inl c_te)), (a_fa, .inl (cy 0, 40320, .inl c_fa)), (a_li, .inl (cy 0, 40320, .inl c_li))]) := hD
      refine lv_aload_n hx hb dX3_solve_36 rfl (lv_at hl 0 rfl) ?_
      refine va_get (D := D) (ci := 3) (v := .int c_al) (C := RX3) (T := TX3) (N := 19) hx hb hts k_X3_solve_X3 hown hK hP 0 rfl rfl 3 (by decide) (hts _ q_X3_solve_2) (fun _ h9 => h9) rfl dX3_solve_37 ?_
      refine j_calli (wr := [(a_ro, .inl (cy 0, 8, .inl c_ro)), (a_li, .inl (cy 0, 40320, .inl c_li))]) (va_runV (As := [.int r_8, .int c_al]) (rest := [.ref a_this]) ⟨hx, hb, hml, hown, hts⟩ (c_X3_nearer l D cy a_this a_ro a_fr a_bu a_no a_te a_fa a_li a_wy a_su c_th c_n c_tu c_al c_le c_wa c_re c_us c_di c_ha c_fr c_no c_te c_fa r_8 c_al hw H.size) (cwV 2 hts gX3_solve_X3_nearer rfl rfl rfl (by decide +kernel) ⟨Nat.le_of_ble_eq_true rfl, Nat.le_of_ble_eq_true rfl⟩) (j_preV hK hP hD (isC := [0, 2, 3, 4, 5]) rfl (by decide +kernel) (ci := 3) (q0 := 0) rfl rfl) rfl rfl hl.1 rfl (lv_room (Nat.le_of_ble_eq_true rfl)) dX3_solve_40 ⟨Nat.le_of_ble_eq_true rfl, Nat.le_of_ble_eq_true rfl⟩) hP hD hS hA [0, 2, 3, 4, 5] [1, 6] rfl rfl (by decide +kernel) (by decide +kernel) (fun u_9 => [(a_this, .inr (3, [.int c_th, .int c_n, .int c_tu, .int c_al, .ref a_ro, .ref a_fr, .int c_le, .ref a_bu, .ref a_no, .ref a_te, .ref a_fa, .ref a_li, .int c_wa, .int c_re, .int c_us, .int c_di, .ref a_wy, .ref a_su, .long c_ha])), (a_ro, .inl (cy 0, 8, .inl c_ro)), (a_fr, .inl (cy 0, 96, .inl c_fr)), (a_no, .inl (cy 0, 8, .inl u_9.1)), (a_te, .inl (cy 0, 8, .inl u_9.2)), (a_fa, .inl (cy 0, 40320, .inl c_fa)), (a_li, .inl (cy 0, 40320, .inl c_li))]) [2, 0, 3, 4, 5, 6, 1] (by decide +kernel) (fun u => rfl) (fun r_10 u_9 H locs hw hP hD hS => ?_)
      have hP : va_P D vwCl ([(a_this, .inr (3, [.int c_th, .int c_n, .int c_tu, .int c_al, .ref a_ro, .ref a_fr, .int c_le, .ref a_bu, .ref a_no, .ref a_te, .ref a_fa, .ref a_li, .int c_wa, .int c_re, .int c_us, .int c_di, .ref a_wy, .ref a_su, .long c_ha])), (a_ro, .inl (cy 0, 8, .inl c_ro)), (a_fr, .inl (cy 0, 96, .inl c_fr)), (a_no, .inl (cy 0, 8, .inl u_9.1)), (a_te, .inl (cy 0, 8, .inl u_9.2)), (a_fa, .inl (cy 0, 40320, .inl c_fa)), (a_li, .inl (cy 0, 40320, .inl c_li))]) H := hP
      have hD : va_D A ([(a_this, .inr (3, [.int c_th, .int c_n, .int c_tu, .int c_al, .ref a_ro, .ref a_fr, .int c_le, .ref a_bu, .ref a_no, .ref a_te, .ref a_fa, .ref a_li, .int c_wa, .int c_re, .int c_us, .int c_di, .ref a_wy, .ref a_su, .long c_ha])), (a_ro, .inl (cy 0, 8, .inl c_ro)), (a_fr, .inl (cy 0, 96, .inl c_fr)), (a_no, .inl (cy 0, 8, .inl u_9.1)), (a_te, .inl (cy 0, 8, .inl u_9.2)), (a_fa, .inl (cy 0, 40320, .inl c_fa)), (a_li, .inl (cy 0, 40320, .inl c_li))]) := hD
      refine j_calli (wr := [(a_no, .inl (cy 0, 8, .inl u_9.1)), (a_fa, .inl (cy 0, 40320, .inl c_fa)), (a_li, .inl (cy 0, 40320, .inl c_li))]) (va_runV (As := [.int r_10]) (rest := []) ⟨hx, hb, hml, hown, hts⟩ (c_X3_doMove l D cy a_this a_ro a_fr a_bu a_no a_te a_fa a_li a_wy a_su c_th c_n c_tu c_al c_le c_wa c_re c_us c_di c_ha c_ro c_fr u_9.2 r_10 hw H.size) (cwV 1 hts gX3_solve_X3_doMove rfl rfl rfl (by decide +kernel) ⟨Nat.le_of_ble_eq_true rfl, Nat.le_of_ble_eq_true rfl⟩) (j_preV hK hP hD (isC := [0, 1, 2, 4]) rfl (by decide +kernel) (ci := 3) (q0 := 0) rfl rfl) rfl rfl hl.1 rfl (lv_room (Nat.le_of_ble_eq_true rfl)) dX3_solve_43 ⟨Nat.le_of_ble_eq_true rfl, Nat.le_of_ble_eq_true rfl⟩) hP hD hS hA [0, 1, 2, 4] [3, 5, 6] rfl rfl (by decide +kernel) (by decide +kernel) (fun u_11 => [(a_this, .inr (3, [.int c_th, .int c_n, .int c_tu, .int c_al, .ref a_ro, .ref a_fr, .int c_le, .ref a_bu, .ref a_no, .ref a_te, .ref a_fa, .ref a_li, .int c_wa, .int c_re, .int c_us, .int c_di, .ref a_wy, .ref a_su, .long c_ha])), (a_ro, .inl (cy 0, 8, .inl u_11.1)), (a_fr, .inl (cy 0, 96, .inl c_fr)), (a_no, .inl (cy 0, 8, .inl u_9.1)), (a_te, .inl (cy 0, 8, .inl u_11.2)), (a_fa, .inl (cy 0, 40320, .inl c_fa)), (a_li, .inl (cy 0, 40320, .inl c_li))]) [3, 4, 5, 0, 6, 1, 2] (by decide +kernel) (fun u => rfl) (fun r_12 u_11 H locs hw hP hD hS => ?_)
      have hP : va_P D vwCl ([(a_this, .inr (3, [.int c_th, .int c_n, .int c_tu, .int c_al, .ref a_ro, .ref a_fr, .int c_le, .ref a_bu, .ref a_no, .ref a_te, .ref a_fa, .ref a_li, .int c_wa, .int c_re, .int c_us, .int c_di, .ref a_wy, .ref a_su, .long c_ha])), (a_ro, .inl (cy 0, 8, .inl u_11.1)), (a_fr, .inl (cy 0, 96, .inl c_fr)), (a_no, .inl (cy 0, 8, .inl u_9.1)), (a_te, .inl (cy 0, 8, .inl u_11.2)), (a_fa, .inl (cy 0, 40320, .inl c_fa)), (a_li, .inl (cy 0, 40320, .inl c_li))]) H := hP
      have hD : va_D A ([(a_this, .inr (3, [.int c_th, .int c_n, .int c_tu, .int c_al, .ref a_ro, .ref a_fr, .int c_le, .ref a_bu, .ref a_no, .ref a_te, .ref a_fa, .ref a_li, .int c_wa, .int c_re, .int c_us, .int c_di, .ref a_wy, .ref a_su, .long c_ha])), (a_ro, .inl (cy 0, 8, .inl u_11.1)), (a_fr, .inl (cy 0, 96, .inl c_fr)), (a_no, .inl (cy 0, 8, .inl u_9.1)), (a_te, .inl (cy 0, 8, .inl u_11.2)), (a_fa, .inl (cy 0, 40320, .inl c_fa)), (a_li, .inl (cy 0, 40320, .inl c_li))]) := hD
      refine lv_pop hx hb dX3_solve_46 rfl ?_
      refine lv_iinc (v := v_2 + 1) (lv' := [(2, .int (v_2 + 1)), (0, .ref a_this), (1, .int v_1)]) hx hb dX3_solve_47 hl (k := 2) rfl rfl (by decide) rfl (fun ls hl => ?_)
      refine lv_goto (tgt := 25) hx hb dX3_solve_50 (by decide) ?_
      exact ih _ _ _ _ _ _ _ hw hP hD hS (lv_sub hl [1, 2, 0] rfl)
def wp_X3_solve (c_n : Int32) (c_tu : Int32) (c_al : Int32) (c_ro : Nat → Int32) (c_fr : Nat → Int32) (c_no : Nat → Int32) (c_te : Nat → Int32) (c_fa : Nat → Int32) (c_li : Nat → Int32) (post : Int32 → (Int32 × Int32 × (Nat → Int32) × (Nat → Int32) × (Nat → Int32) × (Nat → Int32) × (Nat → Int32)) → Prop) : Prop := (wp_X3_layFor c_n c_tu c_fr c_no c_te c_fa c_li c_al (fun u_1 => (wp_X3_present c_n c_ro (fun r_3 u_2 => (vp_in r_3 40320 ∧ (∀ x_5 : Int32, x_5 = u_1.2.2.2.1 (r_3 : Int32).toNatClampNeg → (∃ N_13 : Nat, lp_X3_solve_25 c_al u_1.2.2.2.1 c_fr c_n c_tu x_5 (fun (v_14 : Int32) (c_15 : Nat → Int32) (c_16 : Nat → Int32) (c_17 : Nat → Int32) => (post x_5 ((0 : Int32), u_1.1, c_15, c_16, c_17, u_1.2.2.2.1, u_1.2.2.2.2))) N_13 0 c_ro u_1.2.1 u_1.2.2.1)))))))
set_option maxHeartbeats 4000000 in
set_option maxRecDepth 100000 in
theorem c_X3_solve (l : Launch) (D : va_G) (cy : Nat → ClassId) (a_this : Nat) (a_ro : Nat) (a_fr : Nat) (a_bu : Nat) (a_no : Nat) (a_te : Nat) (a_fa : Nat) (a_li : Nat) (a_wy : Nat) (a_su : Nat) (c_th : Int32) (c_n : Int32) (c_tu : Int32) (c_al : Int32) (c_le : Int32) (c_wa : Int32) (c_re : Int32) (c_us : Int32) (c_di : Int32) (c_ha : Int64) (c_ro : Nat → Int32) (c_fr : Nat → Int32) (c_no : Nat → Int32) (c_te : Nat → Int32) (c_fa : Nat → Int32) (c_li : Nat → Int32) {post : Int32 → (Int32 × Int32 × (Nat → Int32) × (Nat → Int32) × (Nat → Int32) × (Nat → Int32) × (Nat → Int32)) → Prop} (hw : wp_X3_solve c_n c_tu c_al c_ro c_fr c_no c_te c_fa c_li post) (sz : Nat) : Met l yX3_solve wsX3_solve ({ frames := 4, cells := 0, slots := 0, locals := 96 }) (va_Pc [.ref a_this] (PreW D cy ([(a_this, .inr (3, [.int c_th, .int c_n, .int c_tu, .int c_al, .ref a_ro, .ref a_fr, .int c_le, .ref a_bu, .ref a_no, .ref a_te, .ref a_fa, .ref a_li, .int c_wa, .int c_re, .int c_us, .int c_di, .ref a_wy, .ref a_su, .long c_ha])), (a_ro, .inl (cy 0, 8, .inl c_ro)), (a_fr, .inl (cy 0, 96, .inl c_fr)), (a_no, .inl (cy 0, 8, .inl c_no)), (a_te, .inl (cy 0, 8, .inl c_te)), (a_fa, .inl (cy 0, 40320, .inl c_fa)), (a_li, .inl (cy 0, 40320, .inl c_li))]) sz)) (va_Qi post (fun u t => PostW D cy (va_A ([(a_this, .inr (3, [.int c_th, .int c_n, .int c_tu, .int c_al, .ref a_ro, .ref a_fr, .int c_le, .ref a_bu, .ref a_no, .ref a_te, .ref a_fa, .ref a_li, .int c_wa, .int c_re, .int c_us, .int c_di, .ref a_wy, .ref a_su, .long c_ha])), (a_ro, .inl (cy 0, 8, .inl c_ro)), (a_fr, .inl (cy 0, 96, .inl c_fr)), (a_no, .inl (cy 0, 8, .inl c_no)), (a_te, .inl (cy 0, 8, .inl c_te)), (a_fa, .inl (cy 0, 40320, .inl c_fa)), (a_li, .inl (cy 0, 40320, .inl c_li))]) sz) ([(a_this, .inr (3, [.int u.1, .int c_n, .int c_tu, .int c_al, .ref a_ro, .ref a_fr, .int c_le, .ref a_bu, .ref a_no, .ref a_te, .ref a_fa, .ref a_li, .int u.2.1, .int c_re, .int c_us, .int c_di, .ref a_wy, .ref a_su, .long c_ha])), (a_ro, .inl (cy 0, 8, .inl u.2.2.1)), (a_fr, .inl (cy 0, 96, .inl c_fr)), (a_no, .inl (cy 0, 8, .inl u.2.2.2.1)), (a_te, .inl (cy 0, 8, .inl u.2.2.2.2.1)), (a_fa, .inl (cy 0, 40320, .inl u.2.2.2.2.2.1)), (a_li, .inl (cy 0, 40320, .inl u.2.2.2.2.2.2))]) t) (va_A ([(a_this, .inr (3, [.int c_th, .int c_n, .int c_tu, .int c_al, .ref a_ro, .ref a_fr, .int c_le, .ref a_bu, .ref a_no, .ref a_te, .ref a_fa, .ref a_li, .int c_wa, .int c_re, .int c_us, .int c_di, .ref a_wy, .ref a_su, .long c_ha])), (a_ro, .inl (cy 0, 8, .inl c_ro)), (a_fr, .inl (cy 0, 96, .inl c_fr)), (a_no, .inl (cy 0, 8, .inl c_no)), (a_te, .inl (cy 0, 8, .inl c_te)), (a_fa, .inl (cy 0, 40320, .inl c_fa)), (a_li, .inl (cy 0, 40320, .inl c_li))]) sz)) 0 0 (va_A ([(a_this, .inr (3, [.int c_th, .int c_n, .int c_tu, .int c_al, .ref a_ro, .ref a_fr, .int c_le, .ref a_bu, .ref a_no, .ref a_te, .ref a_fa, .ref a_li, .int c_wa, .int c_re, .int c_us, .int c_di, .ref a_wy, .ref a_su, .long c_ha])), (a_ro, .inl (cy 0, 8, .inl c_ro)), (a_fr, .inl (cy 0, 96, .inl c_fr)), (a_no, .inl (cy 0, 8, .inl c_no)), (a_te, .inl (cy 0, 8, .inl c_te)), (a_fa, .inl (cy 0, 40320, .inl c_fa)), (a_li, .inl (cy 0, 40320, .inl c_li))]) sz) := by
  refine j_met (Qc := fun A => va_Qi post (fun u t => PostW D cy A ([(a_this, .inr (3, [.int u.1, .int c_n, .int c_tu, .int c_al, .ref a_ro, .ref a_fr, .int c_le, .ref a_bu, .ref a_no, .ref a_te, .ref a_fa, .ref a_li, .int u.2.1, .int c_re, .int c_us, .int c_di, .ref a_wy, .ref a_su, .long c_ha])), (a_ro, .inl (cy 0, 8, .inl u.2.2.1)), (a_fr, .inl (cy 0, 96, .inl c_fr)), (a_no, .inl (cy 0, 8, .inl u.2.2.2.1)), (a_te, .inl (cy 0, 8, .inl u.2.2.2.2.1)), (a_fa, .inl (cy 0, 40320, .inl u.2.2.2.2.2.1)), (a_li, .inl (cy 0, 40320, .inl u.2.2.2.2.2.2))]) t) A) (by decide +kernel) rfl (Nat.le_of_ble_eq_true rfl) ?_
  intro p e s m below meth c A ls C0 hr hlocks hP hD hS hl
  obtain ⟨hx, hb, hml, hown, hts, hK, hA⟩ := id C0
  have hown : s.vm.findClass RX3 = some m.cls := hown
  have hl : lv_has ls 3 [(0, .ref a_this)] := hl
  unfold wp_X3_solve at hw
  refine lv_aload_n hx hb dX3_solve_0 rfl (lv_at hl 0 rfl) ?_
  refine lv_iconst (v := 0) hx hb dX3_solve_1 (by decide) ?_
  refine va_put (D := D) (ci := 3) (v := .int 0) (ty := .int) (C := RX3) (T := TX3) (N := 19) hx hb hts k_X3_solve_X3 tyX3 tyX3_ok nmX3 hown hK hP hD hS 0 rfl rfl 0 (by decide) (hts _ q_X3_solve_1) (fun _ h9 => h9) rfl (by decide +kernel) rfl rfl (Nat.le_of_ble_eq_true rfl) dX3_solve_2 (fun H locs hP hD hS => ?_)
  have hP : va_P D vwCl ([(a_this, .inr (3, [.int (0 : Int32), .int c_n, .int c_tu, .int c_al, .ref a_ro, .ref a_fr, .int c_le, .ref a_bu, .ref a_no, .ref a_te, .ref a_fa, .ref a_li, .int c_wa, .int c_re, .int c_us, .int c_di, .ref a_wy, .ref a_su, .long c_ha])), (a_ro, .inl (cy 0, 8, .inl c_ro)), (a_fr, .inl (cy 0, 96, .inl c_fr)), (a_no, .inl (cy 0, 8, .inl c_no)), (a_te, .inl (cy 0, 8, .inl c_te)), (a_fa, .inl (cy 0, 40320, .inl c_fa)), (a_li, .inl (cy 0, 40320, .inl c_li))]) H := hP
  have hD : va_D A ([(a_this, .inr (3, [.int (0 : Int32), .int c_n, .int c_tu, .int c_al, .ref a_ro, .ref a_fr, .int c_le, .ref a_bu, .ref a_no, .ref a_te, .ref a_fa, .ref a_li, .int c_wa, .int c_re, .int c_us, .int c_di, .ref a_wy, .ref a_su, .long c_ha])), (a_ro, .inl (cy 0, 8, .inl c_ro)), (a_fr, .inl (cy 0, 96, .inl c_fr)), (a_no, .inl (cy 0, 8, .inl c_no)), (a_te, .inl (cy 0, 8, .inl c_te)), (a_fa, .inl (cy 0, 40320, .inl c_fa)), (a_li, .inl (cy 0, 40320, .inl c_li))]) := hD
  refine lv_aload_n hx hb dX3_solve_5 rfl (lv_at hl 0 rfl) ?_
  refine lv_aload_n hx hb dX3_solve_6 rfl (lv_at hl 0 rfl) ?_
  refine va_get (D := D) (ci := 3) (v := .int c_al) (C := RX3) (T := TX3) (N := 19) hx hb hts k_X3_solve_X3 hown hK hP 0 rfl rfl 3 (by decide) (hts _ q_X3_solve_2) (fun _ h9 => h9) rfl dX3_solve_7 ?_
  refine j_callv (wr := [(a_ro, .inl (cy 0, 8, .inl c_ro))]) (va_runV (As := [.int c_al]) (rest := []) ⟨hx, hb, hml, hown, hts⟩ (c_X3_layFor l D cy a_this a_ro a_fr a_bu a_no a_te a_fa a_li a_wy a_su (0 : Int32) c_n c_tu c_al c_le c_wa c_re c_us c_di c_ha c_fr c_no c_te c_fa c_li c_al hw H.size) (cwV 1 hts gX3_solve_X3_layFor rfl rfl rfl (by decide +kernel) ⟨Nat.le_of_ble_eq_true rfl, Nat.le_of_ble_eq_true rfl⟩) (j_preV hK hP hD (isC := [0, 2, 3, 4, 5, 6]) rfl (by decide +kernel) (ci := 3) (q0 := 0) rfl rfl) rfl rfl hl.1 rfl (lv_room (Nat.le_of_ble_eq_true rfl)) dX3_solve_10 ⟨Nat.le_of_ble_eq_true rfl, Nat.le_of_ble_eq_true rfl⟩) hP hD hS hA [0, 2, 3, 4, 5, 6] [1] rfl rfl (by decide +kernel) (by decide +kernel) (fun u_1 => [(a_this, .inr (3, [.int (0 : Int32), .int c_n, .int c_tu, .int c_al, .ref a_ro, .ref a_fr, .int c_le, .ref a_bu, .ref a_no, .ref a_te, .ref a_fa, .ref a_li, .int u_1.1, .int c_re, .int c_us, .int c_di, .ref a_wy, .ref a_su, .long c_ha])), (a_ro, .inl (cy 0, 8, .inl c_ro)), (a_fr, .inl (cy 0, 96, .inl c_fr)), (a_no, .inl (cy 0, 8, .inl u_1.2.1)), (a_te, .inl (cy 0, 8, .inl u_1.2.2.1)), (a_fa, .inl (cy 0, 40320, .inl u_1.2.2.2.1)), (a_li, .inl (cy 0, 40320, .inl u_1.2.2.2.2))]) [1, 0, 2, 3, 4, 5, 6] (by decide +kernel) (fun u => rfl) (fun u_1 H locs hw hP hD hS => ?_)
  have hP : va_P D vwCl ([(a_this, .inr (3, [.int (0 : Int32), .int c_n, .int c_tu, .int c_al, .ref a_ro, .ref a_fr, .int c_le, .ref a_bu, .ref a_no, .ref a_te, .ref a_fa, .ref a_li, .int u_1.1, .int c_re, .int c_us, .int c_di, .ref a_wy, .ref a_su, .long c_ha])), (a_ro, .inl (cy 0, 8, .inl c_ro)), (a_fr, .inl (cy 0, 96, .inl c_fr)), (a_no, .inl (cy 0, 8, .inl u_1.2.1)), (a_te, .inl (cy 0, 8, .inl u_1.2.2.1)), (a_fa, .inl (cy 0, 40320, .inl u_1.2.2.2.1)), (a_li, .inl (cy 0, 40320, .inl u_1.2.2.2.2))]) H := hP
  have hD : va_D A ([(a_this, .inr (3, [.int (0 : Int32), .int c_n, .int c_tu, .int c_al, .ref a_ro, .ref a_fr, .int c_le, .ref a_bu, .ref a_no, .ref a_te, .ref a_fa, .ref a_li, .int u_1.1, .int c_re, .int c_us, .int c_di, .ref a_wy, .ref a_su, .long c_ha])), (a_ro, .inl (cy 0, 8, .inl c_ro)), (a_fr, .inl (cy 0, 96, .inl c_fr)), (a_no, .inl (cy 0, 8, .inl u_1.2.1)), (a_te, .inl (cy 0, 8, .inl u_1.2.2.1)), (a_fa, .inl (cy 0, 40320, .inl u_1.2.2.2.1)), (a_li, .inl (cy 0, 40320, .inl u_1.2.2.2.2))]) := hD
  refine lv_aload_n hx hb dX3_solve_13 rfl (lv_at hl 0 rfl) ?_
  refine va_get (D := D) (ci := 3) (v := .ref a_fa) (C := RX3) (T := TX3) (N := 19) hx hb hts k_X3_solve_X3 hown hK hP 0 rfl rfl 10 (by decide) (hts _ q_X3_solve_3) (fun _ h9 => h9) rfl dX3_solve_14 ?_
  refine lv_aload_n hx hb dX3_solve_17 rfl (lv_at hl 0 rfl) ?_
  refine j_calli (wr := [(a_fr, .inl (cy 0, 96, .inl c_fr)), (a_no, .inl (cy 0, 8, .inl u_1.2.1)), (a_te, .inl (cy 0, 8, .inl u_1.2.2.1)), (a_fa, .inl (cy 0, 40320, .inl u_1.2.2.2.1)), (a_li, .inl (cy 0, 40320, .inl u_1.2.2.2.2))]) (va_runV (As := []) (rest := [.ref a_fa]) ⟨hx, hb, hml, hown, hts⟩ (c_X3_present l D cy a_this a_ro a_fr a_bu a_no a_te a_fa a_li a_wy a_su (0 : Int32) c_n c_tu c_al c_le u_1.1 c_re c_us c_di c_ha c_ro hw H.size) (cwV 0 hts gX3_solve_X3_present rfl rfl rfl (by decide +kernel) ⟨Nat.le_of_ble_eq_true rfl, Nat.le_of_ble_eq_true rfl⟩) (j_preV hK hP hD (isC := [0, 1]) rfl (by decide +kernel) (ci := 3) (q0 := 0) rfl rfl) rfl rfl hl.1 rfl (lv_room (Nat.le_of_ble_eq_true rfl)) dX3_solve_18 ⟨Nat.le_of_ble_eq_true rfl, Nat.le_of_ble_eq_true rfl⟩) hP hD hS hA [0, 1] [2, 3, 4, 5, 6] rfl rfl (by decide +kernel) (by decide +kernel) (fun u_2 => [(a_this, .inr (3, [.int (0 : Int32), .int c_n, .int c_tu, .int c_al, .ref a_ro, .ref a_fr, .int c_le, .ref a_bu, .ref a_no, .ref a_te, .ref a_fa, .ref a_li, .int u_1.1, .int c_re, .int c_us, .int c_di, .ref a_wy, .ref a_su, .long c_ha])), (a_ro, .inl (cy 0, 8, .inl c_ro)), (a_fr, .inl (cy 0, 96, .inl c_fr)), (a_no, .inl (cy 0, 8, .inl u_1.2.1)), (a_te, .inl (cy 0, 8, .inl u_1.2.2.1)), (a_fa, .inl (cy 0, 40320, .inl u_1.2.2.2.1)), (a_li, .inl (cy 0, 40320, .inl u_1.2.2.2.2))]) [5, 6, 0, 1, 2, 3, 4] (by decide +kernel) (fun u => rfl) (fun r_3 u_2 H locs hw hP hD hS => ?_)
  have hP : va_P D vwCl ([(a_this, .inr (3, [.int (0 : Int32), .int c_n, .int c_tu, .int c_al, .ref a_ro, .ref a_fr, .int c_le, .ref a_bu, .ref a_no, .ref a_te, .ref a_fa, .ref a_li, .int u_1.1, .int c_re, .int c_us, .int c_di, .ref a_wy, .ref a_su, .long c_ha])), (a_ro, .inl (cy 0, 8, .inl c_ro)), (a_fr, .inl (cy 0, 96, .inl c_fr)), (a_no, .inl (cy 0, 8, .inl u_1.2.1)), (a_te, .inl (cy 0, 8, .inl u_1.2.2.1)), (a_fa, .inl (cy 0, 40320, .inl u_1.2.2.2.1)), (a_li, .inl (cy 0, 40320, .inl u_1.2.2.2.2))]) H := hP
  have hD : va_D A ([(a_this, .inr (3, [.int (0 : Int32), .int c_n, .int c_tu, .int c_al, .ref a_ro, .ref a_fr, .int c_le, .ref a_bu, .ref a_no, .ref a_te, .ref a_fa, .ref a_li, .int u_1.1, .int c_re, .int c_us, .int c_di, .ref a_wy, .ref a_su, .long c_ha])), (a_ro, .inl (cy 0, 8, .inl c_ro)), (a_fr, .inl (cy 0, 96, .inl c_fr)), (a_no, .inl (cy 0, 8, .inl u_1.2.1)), (a_te, .inl (cy 0, 8, .inl u_1.2.2.1)), (a_fa, .inl (cy 0, 40320, .inl u_1.2.2.2.1)), (a_li, .inl (cy 0, 40320, .inl u_1.2.2.2.2))]) := hD
  obtain ⟨h_4, hw⟩ := hw
  refine va_iald hx hb hK hP 5 0 rfl rfl h_4 dX3_solve_21 ?_
  refine lv_topi (fun x_5 ex_5 => ?_)
  replace hw := hw x_5 ex_5
  refine lv_istore_n (lv' := [(1, .int x_5), (0, .ref a_this)]) hx hb dX3_solve_22 rfl hl (by decide) rfl (fun ls hl => ?_)
  refine lv_iconst (v := 0) hx hb dX3_solve_23 (by decide) ?_
  refine lv_istore_n (lv' := [(2, .int 0), (1, .int x_5), (0, .ref a_this)]) hx hb dX3_solve_24 rfl hl (by decide) rfl (fun ls hl => ?_)
  obtain ⟨N_13, hw⟩ := hw
  refine l_X3_solve_25 C0 (fun v_14 c_15 c_16 c_17 H locs ls hw hP hD hS hl => ?_) _ _ _ _ _ _ _ _ hw hP hD hS (lv_sub hl [2, 1, 0] rfl)
  refine lv_iload_n hx hb dX3_solve_53 rfl (lv_at hl 0 rfl) ?_
  exact j_iret (fun u => [(a_this, .inr (3, [.int u.1, .int c_n, .int c_tu, .int c_al, .ref a_ro, .ref a_fr, .int c_le, .ref a_bu, .ref a_no, .ref a_te, .ref a_fa, .ref a_li, .int u.2.1, .int c_re, .int c_us, .int c_di, .ref a_wy, .ref a_su, .long c_ha])), (a_ro, .inl (cy 0, 8, .inl u.2.2.1)), (a_fr, .inl (cy 0, 96, .inl c_fr)), (a_no, .inl (cy 0, 8, .inl u.2.2.2.1)), (a_te, .inl (cy 0, 8, .inl u.2.2.2.2.1)), (a_fa, .inl (cy 0, 40320, .inl u.2.2.2.2.2.1)), (a_li, .inl (cy 0, 40320, .inl u.2.2.2.2.2.2))]) (((0 : Int32), u_1.1, c_15, c_16, c_17, u_1.2.2.2.1, u_1.2.2.2.2) : Int32 × Int32 × (Nat → Int32) × (Nat → Int32) × (Nat → Int32) × (Nat → Int32) × (Nat → Int32)) hx hb hr hlocks hK hP hD hS hw dX3_solve_54
theorem q_X3_append_1 : Cond.fieldLink RX3 122 "TwistedRowModel" "length" "I" ∈ wsX3_append := List.mem_of_getElem? (i := 1) rfl
theorem k_X3_append_X3 : ∀ w ∈ wsX30, w ∈ wsX3_append := my_in _ [8, 9, 10, 11, 12, 13, 14, 15, 16, 17, 18, 19, 20, 21, 22, 23, 24, 25, 26] (by decide +kernel)
theorem q_X3_append_2 : Cond.fieldLink RX3 46 "TwistedRowModel" "thrown" "I" ∈ wsX3_append := List.mem_of_getElem? (i := 2) rfl
theorem q_X3_append_3 : Cond.fieldLink RX3 20 "TwistedRowModel" "buffer" "[I" ∈ wsX3_append := List.mem_of_getElem? (i := 3) rfl
def wp_X3_append (c_le : Int32) (c_bu : Nat → Int32) (p_1 : Int32) (post : Int32 → (Int32 × Int32 × (Nat → Int32)) → Prop) : Prop := (wp_X3_within p_1 (32 : Int32) (126 : Int32) (fun r_2 u_1 => ((¬ r_2 = 0 → ((¬ c_le = 60 → (((0 : Int32) ≤ 0 → (vp_in c_le 60 ∧ (∀ x_7 : Int32, x_7 = c_le + 1 → (post x_7 ((0 : Int32), x_7, upd c_bu ((c_le : Int32).toNatClampNeg) p_1))))) ∧ (¬ (0 : Int32) ≤ 0 → (post 0 ((0 : Int32), c_le, c_bu))))) ∧ (c_le = 60 → (((2 : Int32) ≤ 0 → (vp_in c_le 60 ∧ (∀ x_10 : Int32, x_10 = c_le + 1 → (post x_10 ((2 : Int32), x_10, upd c_bu ((c_le : Int32).toNatClampNeg) p_1))))) ∧ (¬ (2 : Int32) ≤ 0 → (post 0 ((2 : Int32), c_le, c_bu))))))) ∧ (r_2 = 0 → (((1 : Int32) ≤ 0 → (vp_in c_le 60 ∧ (∀ x_13 : Int32, x_13 = c_le + 1 → (post x_13 ((1 : Int32), x_13, upd c_bu ((c_le : Int32).toNatClampNeg) p_1))))) ∧ (¬ (1 : Int32) ≤ 0 → (post 0 ((1 : Int32), c_le, c_bu))))))))
set_option maxHeartbeats 4000000 in
set_option maxRecDepth 100000 in
theorem c_X3_append (l : Launch) (D : va_G) (cy : Nat → ClassId) (a_this : Nat) (a_ro : Nat) (a_fr : Nat) (a_bu : Nat) (a_no : Nat) (a_te : Nat) (a_fa : Nat) (a_li : Nat) (a_wy : Nat) (a_su : Nat) (c_th : Int32) (c_n : Int32) (c_tu : Int32) (c_al : Int32) (c_le : Int32) (c_wa : Int32) (c_re : Int32) (c_us : Int32) (c_di : Int32) (c_ha : Int64) (c_bu : Nat → Int32) (p_1 : Int32) {post : Int32 → (Int32 × Int32 × (Nat → Int32)) → Prop} (hw : wp_X3_append c_le c_bu p_1 post) (sz : Nat) : Met l yX3_append wsX3_append ({ frames := 1, cells := 0, slots := 0, locals := 22 }) (va_Pc [.ref a_this, .int p_1] (PreW D cy ([(a_this, .inr (3, [.int c_th, .int c_n, .int c_tu, .int c_al, .ref a_ro, .ref a_fr, .int c_le, .ref a_bu, .ref a_no, .ref a_te, .ref a_fa, .ref a_li, .int c_wa, .int c_re, .int c_us, .int c_di, .ref a_wy, .ref a_su, .long c_ha])), (a_bu, .inl (cy 0, 60, .inl c_bu))]) sz)) (va_Qi post (fun u t => PostW D cy (va_A ([(a_this, .inr (3, [.int c_th, .int c_n, .int c_tu, .int c_al, .ref a_ro, .ref a_fr, .int c_le, .ref a_bu, .ref a_no, .ref a_te, .ref a_fa, .ref a_li, .int c_wa, .int c_re, .int c_us, .int c_di, .ref a_wy, .ref a_su, .long c_ha])), (a_bu, .inl (cy 0, 60, .inl c_bu))]) sz) ([(a_this, .inr (3, [.int u.1, .int c_n, .int c_tu, .int c_al, .ref a_ro, .ref a_fr, .int u.2.1, .ref a_bu, .ref a_no, .ref a_te, .ref a_fa, .ref a_li, .int c_wa, .int c_re, .int c_us, .int c_di, .ref a_wy, .ref a_su, .long c_ha])), (a_bu, .inl (cy 0, 60, .inl u.2.2))]) t) (va_A ([(a_this, .inr (3, [.int c_th, .int c_n, .int c_tu, .int c_al, .ref a_ro, .ref a_fr, .int c_le, .ref a_bu, .ref a_no, .ref a_te, .ref a_fa, .ref a_li, .int c_wa, .int c_re, .int c_us, .int c_di, .ref a_wy, .ref a_su, .long c_ha])), (a_bu, .inl (cy 0, 60, .inl c_bu))]) sz)) 0 0 (va_A ([(a_this, .inr (3, [.int c_th, .int c_n, .int c_tu, .int c_al, .ref a_ro, .ref a_fr, .int c_le, .ref a_bu, .ref a_no, .ref a_te, .ref a_fa, .ref a_li, .int c_wa, .int c_re, .int c_us, .int c_di, .ref a_wy, .ref a_su, .long c_ha])), (a_bu, .inl (cy 0, 60, .inl c_bu))]) sz) := by
  refine j_met (Qc := fun A => va_Qi post (fun u t => PostW D cy A ([(a_this, .inr (3, [.int u.1, .int c_n, .int c_tu, .int c_al, .ref a_ro, .ref a_fr, .int u.2.1, .ref a_bu, .ref a_no, .ref a_te, .ref a_fa, .ref a_li, .int c_wa, .int c_re, .int c_us, .int c_di, .ref a_wy, .ref a_su, .long c_ha])), (a_bu, .inl (cy 0, 60, .inl u.2.2))]) t) A) (by decide +kernel) rfl (Nat.le_of_ble_eq_true rfl) ?_
  intro p e s m below meth c A ls C0 hr hlocks hP hD hS hl
  obtain ⟨hx, hb, hml, hown, hts, hK, hA⟩ := id C0
  have hown : s.vm.findClass RX3 = some m.cls := hown
  have hl : lv_has ls 2 [(0, .ref a_this), (1, .int p_1)] := hl
  unfold wp_X3_append at hw
  refine lv_aload_n hx hb dX3_append_0 rfl (lv_at hl 0 rfl) ?_
  refine lv_iload_n hx hb dX3_append_1 rfl (lv_at hl 1 rfl) ?_
  refine lv_bipush (v := 32) hx hb dX3_append_2 (by decide) ?_
  refine lv_bipush (v := 126) hx hb dX3_append_4 (by decide) ?_
  refine j_calli (wr := [(a_this, .inr (3, [.int c_th, .int c_n, .int c_tu, .int c_al, .ref a_ro, .ref a_fr, .int c_le, .ref a_bu, .ref a_no, .ref a_te, .ref a_fa, .ref a_li, .int c_wa, .int c_re, .int c_us, .int c_di, .ref a_wy, .ref a_su, .long c_ha])), (a_bu, .inl (cy 0, 60, .inl c_bu))]) (va_runS (As := [.int p_1, .int 32, .int 126]) (rest := [.ref a_this]) ⟨hx, hb, hml, hown, hts⟩ (c_X3_within l D cy p_1 (32 : Int32) (126 : Int32) hw s.heap.size) (va_cwS 3 hts gX3_append_X3_within rfl rfl rfl (by decide +kernel) ⟨Nat.le_of_ble_eq_true rfl, Nat.le_of_ble_eq_true rfl⟩) (j_preS hK hP hD (isC := []) rfl (by decide +kernel)) rfl rfl hl.1 rfl (lv_room (Nat.le_of_ble_eq_true rfl)) dX3_append_6 ⟨Nat.le_of_ble_eq_true rfl, Nat.le_of_ble_eq_true rfl⟩) hP hD hS hA [] [0, 1] rfl rfl (by decide +kernel) (by decide +kernel) (fun u_1 => [(a_this, .inr (3, [.int c_th, .int c_n, .int c_tu, .int c_al, .ref a_ro, .ref a_fr, .int c_le, .ref a_bu, .ref a_no, .ref a_te, .ref a_fa, .ref a_li, .int c_wa, .int c_re, .int c_us, .int c_di, .ref a_wy, .ref a_su, .long c_ha])), (a_bu, .inl (cy 0, 60, .inl c_bu))]) [0, 1] (by decide +kernel) (fun u => rfl) (fun r_2 u_1 H locs hw hP hD hS => ?_)
  have hP : va_P D vwCl ([(a_this, .inr (3, [.int c_th, .int c_n, .int c_tu, .int c_al, .ref a_ro, .ref a_fr, .int c_le, .ref a_bu, .ref a_no, .ref a_te, .ref a_fa, .ref a_li, .int c_wa, .int c_re, .int c_us, .int c_di, .ref a_wy, .ref a_su, .long c_ha])), (a_bu, .inl (cy 0, 60, .inl c_bu))]) H := hP
  have hD : va_D A ([(a_this, .inr (3, [.int c_th, .int c_n, .int c_tu, .int c_al, .ref a_ro, .ref a_fr, .int c_le, .ref a_bu, .ref a_no, .ref a_te, .ref a_fa, .ref a_li, .int c_wa, .int c_re, .int c_us, .int c_di, .ref a_wy, .ref a_su, .long c_ha])), (a_bu, .inl (cy 0, 60, .inl c_bu))]) := hD
  refine lv_if_ne (tgt := 16) hx hb dX3_append_9 (by decide) (fun c_3 => ?_) (fun c_3 => ?_)
  · replace hw := hw.1 c_3
    refine lv_aload_n hx hb dX3_append_16 rfl (lv_at hl 0 rfl) ?_
    refine va_get (D := D) (ci := 3) (v := .int c_le) (C := RX3) (T := TX3) (N := 19) hx hb hts k_X3_append_X3 hown hK hP 0 rfl rfl 6 (by decide) (hts _ q_X3_append_1) (fun _ h9 => h9) rfl dX3_append_17 ?_
    refine lv_bipush (v := 60) hx hb dX3_append_20 (by decide) ?_
    refine lv_icmp_ne (tgt := 29) hx hb dX3_append_22 (by decide) (fun c_4 => ?_) (fun c_4 => ?_)
    · replace hw := hw.1 c_4
      refine lv_iconst (v := 0) hx hb dX3_append_29 (by decide) ?_
      refine va_put (D := D) (ci := 3) (v := .int 0) (ty := .int) (C := RX3) (T := TX3) (N := 19) hx hb hts k_X3_append_X3 tyX3 tyX3_ok nmX3 hown hK hP hD hS 0 rfl rfl 0 (by decide) (hts _ q_X3_append_2) (fun _ h9 => h9) rfl (by decide +kernel) rfl rfl (Nat.le_of_ble_eq_true rfl) dX3_append_30 (fun H locs hP hD hS => ?_)
      have hP : va_P D vwCl ([(a_this, .inr (3, [.int (0 : Int32), .int c_n, .int c_tu, .int c_al, .ref a_ro, .ref a_fr, .int c_le, .ref a_bu, .ref a_no, .ref a_te, .ref a_fa, .ref a_li, .int c_wa, .int c_re, .int c_us, .int c_di, .ref a_wy, .ref a_su, .long c_ha])), (a_bu, .inl (cy 0, 60, .inl c_bu))]) H := hP
      have hD : va_D A ([(a_this, .inr (3, [.int (0 : Int32), .int c_n, .int c_tu, .int c_al, .ref a_ro, .ref a_fr, .int c_le, .ref a_bu, .ref a_no, .ref a_te, .ref a_fa, .ref a_li, .int c_wa, .int c_re, .int c_us, .int c_di, .ref a_wy, .ref a_su, .long c_ha])), (a_bu, .inl (cy 0, 60, .inl c_bu))]) := hD
      refine lv_aload_n hx hb dX3_append_33 rfl (lv_at hl 0 rfl) ?_
      refine va_get (D := D) (ci := 3) (v := .int (0 : Int32)) (C := RX3) (T := TX3) (N := 19) hx hb hts k_X3_append_X3 hown hK hP 0 rfl rfl 0 (by decide) (hts _ q_X3_append_2) (fun _ h9 => h9) rfl dX3_append_34 ?_
      refine lv_if_le (tgt := 42) hx hb dX3_append_37 (by decide) (fun c_5 => ?_) (fun c_5 => ?_)
      · replace hw := hw.1 c_5
        refine lv_aload_n hx hb dX3_append_42 rfl (lv_at hl 0 rfl) ?_
        refine va_get (D := D) (ci := 3) (v := .ref a_bu) (C := RX3) (T := TX3) (N := 19) hx hb hts k_X3_append_X3 hown hK hP 0 rfl rfl 7 (by decide) (hts _ q_X3_append_3) (fun _ h9 => h9) rfl dX3_append_43 ?_
        refine lv_aload_n hx hb dX3_append_46 rfl (lv_at hl 0 rfl) ?_
        refine va_get (D := D) (ci := 3) (v := .int c_le) (C := RX3) (T := TX3) (N := 19) hx hb hts k_X3_append_X3 hown hK hP 0 rfl rfl 6 (by decide) (hts _ q_X3_append_1) (fun _ h9 => h9) rfl dX3_append_47 ?_
        refine lv_iload_n hx hb dX3_append_50 rfl (lv_at hl 1 rfl) ?_
        obtain ⟨h_6, hw⟩ := hw
        refine va_iast hx hb hK hP hD hS 1 0 rfl rfl h_6 dX3_append_51 (fun H locs hP hD hS => ?_)
        have hP : va_P D vwCl ([(a_this, .inr (3, [.int (0 : Int32), .int c_n, .int c_tu, .int c_al, .ref a_ro, .ref a_fr, .int c_le, .ref a_bu, .ref a_no, .ref a_te, .ref a_fa, .ref a_li, .int c_wa, .int c_re, .int c_us, .int c_di, .ref a_wy, .ref a_su, .long c_ha])), (a_bu, .inl (cy 0, 60, .inl (upd c_bu ((c_le : Int32).toNatClampNeg) p_1)))]) H := hP
        have hD : va_D A ([(a_this, .inr (3, [.int (0 : Int32), .int c_n, .int c_tu, .int c_al, .ref a_ro, .ref a_fr, .int c_le, .ref a_bu, .ref a_no, .ref a_te, .ref a_fa, .ref a_li, .int c_wa, .int c_re, .int c_us, .int c_di, .ref a_wy, .ref a_su, .long c_ha])), (a_bu, .inl (cy 0, 60, .inl (upd c_bu ((c_le : Int32).toNatClampNeg) p_1)))]) := hD
        refine lv_aload_n hx hb dX3_append_52 rfl (lv_at hl 0 rfl) ?_
        refine lv_dup hx hb dX3_append_53 rfl ?_
        refine va_get (D := D) (ci := 3) (v := .int c_le) (C := RX3) (T := TX3) (N := 19) hx hb hts k_X3_append_X3 hown hK hP 0 rfl rfl 6 (by decide) (hts _ q_X3_append_1) (fun _ h9 => h9) rfl dX3_append_54 ?_
        refine lv_iconst (v := 1) hx hb dX3_append_57 (by decide) ?_
        refine lv_iadd hx hb dX3_append_58 ?_
        refine lv_topi (fun x_7 ex_7 => ?_)
        replace hw := hw x_7 ex_7
        refine va_put (D := D) (ci := 3) (v := .int x_7) (ty := .int) (C := RX3) (T := TX3) (N := 19) hx hb hts k_X3_append_X3 tyX3 tyX3_ok nmX3 hown hK hP hD hS 0 rfl rfl 6 (by decide) (hts _ q_X3_append_1) (fun _ h9 => h9) rfl (by decide +kernel) rfl rfl (Nat.le_of_ble_eq_true rfl) dX3_append_59 (fun H locs hP hD hS => ?_)
        have hP : va_P D vwCl ([(a_this, .inr (3, [.int (0 : Int32), .int c_n, .int c_tu, .int c_al, .ref a_ro, .ref a_fr, .int x_7, .ref a_bu, .ref a_no, .ref a_te, .ref a_fa, .ref a_li, .int c_wa, .int c_re, .int c_us, .int c_di, .ref a_wy, .ref a_su, .long c_ha])), (a_bu, .inl (cy 0, 60, .inl (upd c_bu ((c_le : Int32).toNatClampNeg) p_1)))]) H := hP
        have hD : va_D A ([(a_this, .inr (3, [.int (0 : Int32), .int c_n, .int c_tu, .int c_al, .ref a_ro, .ref a_fr, .int x_7, .ref a_bu, .ref a_no, .ref a_te, .ref a_fa, .ref a_li, .int c_wa, .int c_re, .int c_us, .int c_di, .ref a_wy, .ref a_su, .long c_ha])), (a_bu, .inl (cy 0, 60, .inl (upd c_bu ((c_le : Int32).toNatClampNeg) p_1)))]) := hD
        refine lv_aload_n hx hb dX3_append_62 rfl (lv_at hl 0 rfl) ?_
        refine va_get (D := D) (ci := 3) (v := .int x_7) (C := RX3) (T := TX3) (N := 19) hx hb hts k_X3_append_X3 hown hK hP 0 rfl rfl 6 (by decide) (hts _ q_X3_append_1) (fun _ h9 => h9) rfl dX3_append_63 ?_
        exact j_iret (fun u => [(a_this, .inr (3, [.int u.1, .int c_n, .int c_tu, .int c_al, .ref a_ro, .ref a_fr, .int u.2.1, .ref a_bu, .ref a_no, .ref a_te, .ref a_fa, .ref a_li, .int c_wa, .int c_re, .int c_us, .int c_di, .ref a_wy, .ref a_su, .long c_ha])), (a_bu, .inl (cy 0, 60, .inl u.2.2))]) (((0 : Int32), x_7, upd c_bu ((c_le : Int32).toNatClampNeg) p_1) : Int32 × Int32 × (Nat → Int32)) hx hb hr hlocks hK hP hD hS hw dX3_append_66
      · replace hw := hw.2 c_5
        refine lv_iconst (v := 0) hx hb dX3_append_40 (by decide) ?_
        exact j_iret (fun u => [(a_this, .inr (3, [.int u.1, .int c_n, .int c_tu, .int c_al, .ref a_ro, .ref a_fr, .int u.2.1, .ref a_bu, .ref a_no, .ref a_te, .ref a_fa, .ref a_li, .int c_wa, .int c_re, .int c_us, .int c_di, .ref a_wy, .ref a_su, .long c_ha])), (a_bu, .inl (cy 0, 60, .inl u.2.2))]) (((0 : Int32), c_le, c_bu) : Int32 × Int32 × (Nat → Int32)) hx hb hr hlocks hK hP hD hS hw dX3_append_41
    · replace hw := hw.2 c_4
      refine lv_iconst (v := 2) hx hb dX3_append_25 (by decide) ?_
      refine lv_goto (tgt := 30) hx hb dX3_append_26 (by decide) ?_
      refine va_put (D := D) (ci := 3) (v := .int 2) (ty := .int) (C := RX3) (T := TX3) (N := 19) hx hb hts k_X3_append_X3 tyX3 tyX3_ok nmX3 hown hK hP hD hS 0 rfl rfl 0 (by decide) (hts _ q_X3_append_2) (fun _ h9 => h9) rfl (by decide +kernel) rfl rfl (Nat.le_of_ble_eq_true rfl) dX3_append_30 (fun H locs hP hD hS => ?_)
      have hP : va_P D vwCl ([(a_this, .inr (3, [.int (2 : Int32), .int c_n, .int c_tu, .int c_al, .ref a_ro, .ref a_fr, .int c_le, .ref a_bu, .ref a_no, .ref a_te, .ref a_fa, .ref a_li, .int c_wa, .int c_re, .int c_us, .int c_di, .ref a_wy, .ref a_su, .long c_ha])), (a_bu, .inl (cy 0, 60, .inl c_bu))]) H := hP
      have hD : va_D A ([(a_this, .inr (3, [.int (2 : Int32), .int c_n, .int c_tu, .int c_al, .ref a_ro, .ref a_fr, .int c_le, .ref a_bu, .ref a_no, .ref a_te, .ref a_fa, .ref a_li, .int c_wa, .int c_re, .int c_us, .int c_di, .ref a_wy, .ref a_su, .long c_ha])), (a_bu, .inl (cy 0, 60, .inl c_bu))]) := hD
      refine lv_aload_n hx hb dX3_append_33 rfl (lv_at hl 0 rfl) ?_
      refine va_get (D := D) (ci := 3) (v := .int (2 : Int32)) (C := RX3) (T := TX3) (N := 19) hx hb hts k_X3_append_X3 hown hK hP 0 rfl rfl 0 (by decide) (hts _ q_X3_append_2) (fun _ h9 => h9) rfl dX3_append_34 ?_
      refine lv_if_le (tgt := 42) hx hb dX3_append_37 (by decide) (fun c_8 => ?_) (fun c_8 => ?_)
      · replace hw := hw.1 c_8
        refine lv_aload_n hx hb dX3_append_42 rfl (lv_at hl 0 rfl) ?_
        refine va_get (D := D) (ci := 3) (v := .ref a_bu) (C := RX3) (T := TX3) (N := 19) hx hb hts k_X3_append_X3 hown hK hP 0 rfl rfl 7 (by decide) (hts _ q_X3_append_3) (fun _ h9 => h9) rfl dX3_append_43 ?_
        refine lv_aload_n hx hb dX3_append_46 rfl (lv_at hl 0 rfl) ?_
        refine va_get (D := D) (ci := 3) (v := .int c_le) (C := RX3) (T := TX3) (N := 19) hx hb hts k_X3_append_X3 hown hK hP 0 rfl rfl 6 (by decide) (hts _ q_X3_append_1) (fun _ h9 => h9) rfl dX3_append_47 ?_
        refine lv_iload_n hx hb dX3_append_50 rfl (lv_at hl 1 rfl) ?_
        obtain ⟨h_9, hw⟩ := hw
        refine va_iast hx hb hK hP hD hS 1 0 rfl rfl h_9 dX3_append_51 (fun H locs hP hD hS => ?_)
        have hP : va_P D vwCl ([(a_this, .inr (3, [.int (2 : Int32), .int c_n, .int c_tu, .int c_al, .ref a_ro, .ref a_fr, .int c_le, .ref a_bu, .ref a_no, .ref a_te, .ref a_fa, .ref a_li, .int c_wa, .int c_re, .int c_us, .int c_di, .ref a_wy, .ref a_su, .long c_ha])), (a_bu, .inl (cy 0, 60, .inl (upd c_bu ((c_le : Int32).toNatClampNeg) p_1)))]) H := hP
        have hD : va_D A ([(a_this, .inr (3, [.int (2 : Int32), .int c_n, .int c_tu, .int c_al, .ref a_ro, .ref a_fr, .int c_le, .ref a_bu, .ref a_no, .ref a_te, .ref a_fa, .ref a_li, .int c_wa, .int c_re, .int c_us, .int c_di, .ref a_wy, .ref a_su, .long c_ha])), (a_bu, .inl (cy 0, 60, .inl (upd c_bu ((c_le : Int32).toNatClampNeg) p_1)))]) := hD
        refine lv_aload_n hx hb dX3_append_52 rfl (lv_at hl 0 rfl) ?_
        refine lv_dup hx hb dX3_append_53 rfl ?_
        refine va_get (D := D) (ci := 3) (v := .int c_le) (C := RX3) (T := TX3) (N := 19) hx hb hts k_X3_append_X3 hown hK hP 0 rfl rfl 6 (by decide) (hts _ q_X3_append_1) (fun _ h9 => h9) rfl dX3_append_54 ?_
        refine lv_iconst (v := 1) hx hb dX3_append_57 (by decide) ?_
        refine lv_iadd hx hb dX3_append_58 ?_
        refine lv_topi (fun x_10 ex_10 => ?_)
        replace hw := hw x_10 ex_10
        refine va_put (D := D) (ci := 3) (v := .int x_10) (ty := .int) (C := RX3) (T := TX3) (N := 19) hx hb hts k_X3_append_X3 tyX3 tyX3_ok nmX3 hown hK hP hD hS 0 rfl rfl 6 (by decide) (hts _ q_X3_append_1) (fun _ h9 => h9) rfl (by decide +kernel) rfl rfl (Nat.le_of_ble_eq_true rfl) dX3_append_59 (fun H locs hP hD hS => ?_)
        have hP : va_P D vwCl ([(a_this, .inr (3, [.int (2 : Int32), .int c_n, .int c_tu, .int c_al, .ref a_ro, .ref a_fr, .int x_10, .ref a_bu, .ref a_no, .ref a_te, .ref a_fa, .ref a_li, .int c_wa, .int c_re, .int c_us, .int c_di, .ref a_wy, .ref a_su, .long c_ha])), (a_bu, .inl (cy 0, 60, .inl (upd c_bu ((c_le : Int32).toNatClampNeg) p_1)))]) H := hP
        have hD : va_D A ([(a_this, .inr (3, [.int (2 : Int32), .int c_n, .int c_tu, .int c_al, .ref a_ro, .ref a_fr, .int x_10, .ref a_bu, .ref a_no, .ref a_te, .ref a_fa, .ref a_li, .int c_wa, .int c_re, .int c_us, .int c_di, .ref a_wy, .ref a_su, .long c_ha])), (a_bu, .inl (cy 0, 60, .inl (upd c_bu ((c_le : Int32).toNatClampNeg) p_1)))]) := hD
        refine lv_aload_n hx hb dX3_append_62 rfl (lv_at hl 0 rfl) ?_
        refine va_get (D := D) (ci := 3) (v := .int x_10) (C := RX3) (T := TX3) (N := 19) hx hb hts k_X3_append_X3 hown hK hP 0 rfl rfl 6 (by decide) (hts _ q_X3_append_1) (fun _ h9 => h9) rfl dX3_append_63 ?_
        exact j_iret (fun u => [(a_this, .inr (3, [.int u.1, .int c_n, .int c_tu, .int c_al, .ref a_ro, .ref a_fr, .int u.2.1, .ref a_bu, .ref a_no, .ref a_te, .ref a_fa, .ref a_li, .int c_wa, .int c_re, .int c_us, .int c_di, .ref a_wy, .ref a_su, .long c_ha])), (a_bu, .inl (cy 0, 60, .inl u.2.2))]) (((2 : Int32), x_10, upd c_bu ((c_le : Int32).toNatClampNeg) p_1) : Int32 × Int32 × (Nat → Int32)) hx hb hr hlocks hK hP hD hS hw dX3_append_66
      · replace hw := hw.2 c_8
        refine lv_iconst (v := 0) hx hb dX3_append_40 (by decide) ?_
        exact j_iret (fun u => [(a_this, .inr (3, [.int u.1, .int c_n, .int c_tu, .int c_al, .ref a_ro, .ref a_fr, .int u.2.1, .ref a_bu, .ref a_no, .ref a_te, .ref a_fa, .ref a_li, .int c_wa, .int c_re, .int c_us, .int c_di, .ref a_wy, .ref a_su, .long c_ha])), (a_bu, .inl (cy 0, 60, .inl u.2.2))]) (((2 : Int32), c_le, c_bu) : Int32 × Int32 × (Nat → Int32)) hx hb hr hlocks hK hP hD hS hw dX3_append_41
  · replace hw := hw.2 c_3
    refine lv_iconst (v := 1) hx hb dX3_append_12 (by decide) ?_
    refine lv_goto (tgt := 30) hx hb dX3_append_13 (by decide) ?_
    refine va_put (D := D) (ci := 3) (v := .int 1) (ty := .int) (C := RX3) (T := TX3) (N := 19) hx hb hts k_X3_append_X3 tyX3 tyX3_ok nmX3 hown hK hP hD hS 0 rfl rfl 0 (by decide) (hts _ q_X3_append_2) (fun _ h9 => h9) rfl (by decide +kernel) rfl rfl (Nat.le_of_ble_eq_true rfl) dX3_append_30 (fun H locs hP hD hS => ?_)
    have hP : va_P D vwCl ([(a_this, .inr (3, [.int (1 : Int32), .int c_n, .int c_tu, .int c_al, .ref a_ro, .ref a_fr, .int c_le, .ref a_bu, .ref a_no, .ref a_te, .ref a_fa, .ref a_li, .int c_wa, .int c_re, .int c_us, .int c_di, .ref a_wy, .ref a_su, .long c_ha])), (a_bu, .inl (cy 0, 60, .inl c_bu))]) H := hP
    have hD : va_D A ([(a_this, .inr (3, [.int (1 : Int32), .int c_n, .int c_tu, .int c_al, .ref a_ro, .ref a_fr, .int c_le, .ref a_bu, .ref a_no, .ref a_te, .ref a_fa, .ref a_li, .int c_wa, .int c_re, .int c_us, .int c_di, .ref a_wy, .ref a_su, .long c_ha])), (a_bu, .inl (cy 0, 60, .inl c_bu))]) := hD
    refine lv_aload_n hx hb dX3_append_33 rfl (lv_at hl 0 rfl) ?_
    refine va_get (D := D) (ci := 3) (v := .int (1 : Int32)) (C := RX3) (T := TX3) (N := 19) hx hb hts k_X3_append_X3 hown hK hP 0 rfl rfl 0 (by decide) (hts _ q_X3_append_2) (fun _ h9 => h9) rfl dX3_append_34 ?_
    refine lv_if_le (tgt := 42) hx hb dX3_append_37 (by decide) (fun c_11 => ?_) (fun c_11 => ?_)
    · replace hw := hw.1 c_11
      refine lv_aload_n hx hb dX3_append_42 rfl (lv_at hl 0 rfl) ?_
      refine va_get (D := D) (ci := 3) (v := .ref a_bu) (C := RX3) (T := TX3) (N := 19) hx hb hts k_X3_append_X3 hown hK hP 0 rfl rfl 7 (by decide) (hts _ q_X3_append_3) (fun _ h9 => h9) rfl dX3_append_43 ?_
      refine lv_aload_n hx hb dX3_append_46 rfl (lv_at hl 0 rfl) ?_
      refine va_get (D := D) (ci := 3) (v := .int c_le) (C := RX3) (T := TX3) (N := 19) hx hb hts k_X3_append_X3 hown hK hP 0 rfl rfl 6 (by decide) (hts _ q_X3_append_1) (fun _ h9 => h9) rfl dX3_append_47 ?_
      refine lv_iload_n hx hb dX3_append_50 rfl (lv_at hl 1 rfl) ?_
      obtain ⟨h_12, hw⟩ := hw
      refine va_iast hx hb hK hP hD hS 1 0 rfl rfl h_12 dX3_append_51 (fun H locs hP hD hS => ?_)
      have hP : va_P D vwCl ([(a_this, .inr (3, [.int (1 : Int32), .int c_n, .int c_tu, .int c_al, .ref a_ro, .ref a_fr, .int c_le, .ref a_bu, .ref a_no, .ref a_te, .ref a_fa, .ref a_li, .int c_wa, .int c_re, .int c_us, .int c_di, .ref a_wy, .ref a_su, .long c_ha])), (a_bu, .inl (cy 0, 60, .inl (upd c_bu ((c_le : Int32).toNatClampNeg) p_1)))]) H := hP
      have hD : va_D A ([(a_this, .inr (3, [.int (1 : Int32), .int c_n, .int c_tu, .int c_al, .ref a_ro, .ref a_fr, .int c_le, .ref a_bu, .ref a_no, .ref a_te, .ref a_fa, .ref a_li, .int c_wa, .int c_re, .int c_us, .int c_di, .ref a_wy, .ref a_su, .long c_ha])), (a_bu, .inl (cy 0, 60, .inl (upd c_bu ((c_le : Int32).toNatClampNeg) p_1)))]) := hD
      refine lv_aload_n hx hb dX3_append_52 rfl (lv_at hl 0 rfl) ?_
      refine lv_dup hx hb dX3_append_53 rfl ?_
      refine va_get (D := D) (ci := 3) (v := .int c_le) (C := RX3) (T := TX3) (N := 19) hx hb hts k_X3_append_X3 hown hK hP 0 rfl rfl 6 (by decide) (hts _ q_X3_append_1) (fun _ h9 => h9) rfl dX3_append_54 ?_
      refine lv_iconst (v := 1) hx hb dX3_append_57 (by decide) ?_
      refine lv_iadd hx hb dX3_append_58 ?_
      refine lv_topi (fun x_13 ex_13 => ?_)
      replace hw := hw x_13 ex_13
      refine va_put (D := D) (ci := 3) (v := .int x_13) (ty := .int) (C := RX3) (T := TX3) (N := 19) hx hb hts k_X3_append_X3 tyX3 tyX3_ok nmX3 hown hK hP hD hS 0 rfl rfl 6 (by decide) (hts _ q_X3_append_1) (fun _ h9 => h9) rfl (by decide +kernel) rfl rfl (Nat.le_of_ble_eq_true rfl) dX3_append_59 (fun H locs hP hD hS => ?_)
      have hP : va_P D vwCl ([(a_this, .inr (3, [.int (1 : Int32), .int c_n, .int c_tu, .int c_al, .ref a_ro, .ref a_fr, .int x_13, .ref a_bu, .ref a_no, .ref a_te, .ref a_fa, .ref a_li, .int c_wa, .int c_re, .int c_us, .int c_di, .ref a_wy, .ref a_su, .long c_ha])), (a_bu, .inl (cy 0, 60, .inl (upd c_bu ((c_le : Int32).toNatClampNeg) p_1)))]) H := hP
      have hD : va_D A ([(a_this, .inr (3, [.int (1 : Int32), .int c_n, .int c_tu, .int c_al, .ref a_ro, .ref a_fr, .int x_13, .ref a_bu, .ref a_no, .ref a_te, .ref a_fa, .ref a_li, .int c_wa, .int c_re, .int c_us, .int c_di, .ref a_wy, .ref a_su, .long c_ha])), (a_bu, .inl (cy 0, 60, .inl (upd c_bu ((c_le : Int32).toNatClampNeg) p_1)))]) := hD
      refine lv_aload_n hx hb dX3_append_62 rfl (lv_at hl 0 rfl) ?_
      refine va_get (D := D) (ci := 3) (v := .int x_13) (C := RX3) (T := TX3) (N := 19) hx hb hts k_X3_append_X3 hown hK hP 0 rfl rfl 6 (by decide) (hts _ q_X3_append_1) (fun _ h9 => h9) rfl dX3_append_63 ?_
      exact j_iret (fun u => [(a_this, .inr (3, [.int u.1, .int c_n, .int c_tu, .int c_al, .ref a_ro, .ref a_fr, .int u.2.1, .ref a_bu, .ref a_no, .ref a_te, .ref a_fa, .ref a_li, .int c_wa, .int c_re, .int c_us, .int c_di, .ref a_wy, .ref a_su, .long c_ha])), (a_bu, .inl (cy 0, 60, .inl u.2.2))]) (((1 : Int32), x_13, upd c_bu ((c_le : Int32).toNatClampNeg) p_1) : Int32 × Int32 × (Nat → Int32)) hx hb hr hlocks hK hP hD hS hw dX3_append_66
    · replace hw := hw.2 c_11
      refine lv_iconst (v := 0) hx hb dX3_append_40 (by decide) ?_
      exact j_iret (fun u => [(a_this, .inr (3, [.int u.1, .int c_n, .int c_tu, .int c_al, .ref a_ro, .ref a_fr, .int u.2.1, .ref a_bu, .ref a_no, .ref a_te, .ref a_fa, .ref a_li, .int c_wa, .int c_re, .int c_us, .int c_di, .ref a_wy, .ref a_su, .long c_ha])), (a_bu, .inl (cy 0, 60, .inl u.2.2))]) (((1 : Int32), c_le, c_bu) : Int32 × Int32 × (Nat → Int32)) hx hb hr hlocks hK hP hD hS hw dX3_append_41
