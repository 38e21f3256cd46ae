/-! what both sides hold between two calls -/
def Sf (n tu mask : Nat) (T : Nat → List Nat) (p b : List Nat) (rm : Nat) (ti inp : Nat → Int32) (ato akn : Int32) (ale afo : Nat → Int32) (bto bkn : Int32) (ble bfo : Nat → Int32) (so en : Nat → Nat → Int32) (ro fr bu : Nat → Int32) : Prop :=
  (3 ≤ n ∧ n ≤ 8) ∧ (rm = 120 ∨ rm = 720 ∨ rm = 5040 ∨ rm = 40320) ∧ fac n ≤ rm ∧ Tw n tu T ∧ mask < 2 ^ (2 * tu) ∧ IsP n p ∧ At ti p ∧ Bu b inp ∧ Kp n tu T ato akn ale afo ∧ Kp n tu T bto bkn ble bfo ∧ Ss tu T so ∧ En n tu T en ∧ At ro p ∧ Fr n tu T fr ∧ Bu b bu
theorem lg_self (a : Int64) : lg_cmp a a = 0 := by
  unfold lg_cmp
  simp
theorem lx_th {c : Int32} {post : Int32 → Unit → Prop} (h : post c ()) : wp_X3_thrown c post := h
theorem lx_ok {O : Nat → Int64} {r : Int32} {A B : Prop} (h : A) : ((0 : Int32) = 0 → ((¬ (0 : Int32) = 0 → B) ∧ ((0 : Int32) = 0 → (vp_in 0 1 ∧ ((lg_cmp (vp_updL O ((0 : Int32).toNatClampNeg) ((r : Int32).toInt64) (0 : Int32).toNatClampNeg) ((r : Int32).toInt64) = 0 → A) ∧ (¬ lg_cmp (vp_updL O ((0 : Int32).toNatClampNeg) ((r : Int32).toInt64) (0 : Int32).toNatClampNeg) ((r : Int32).toInt64) = 0 → False)))))) ∧ (¬ (0 : Int32) = 0 → False) := by
  rw [pk_uLs, lg_self]
  exact ⟨fun _ => ⟨fun z => absurd rfl z, fun _ => ⟨vp_in_nI (n := 0) (by decide) (by decide), fun _ => h, fun z => z rfl⟩⟩, fun z => z rfl⟩
theorem lx_thr {k : Int32} {A B : Prop} (hk : k ≠ 0) (h : A) : (k = k → ((¬ k = 0 → A) ∧ (k = 0 → B))) ∧ (¬ k = k → False) := ⟨fun _ => ⟨fun _ => h, fun e => absurd e hk⟩, fun e => e rfl⟩
theorem lx_eq {r : Int32} {A : Prop} (h : A) : (r = r → A) ∧ (¬ r = r → False) := ⟨fun _ => h, fun e => e rfl⟩
theorem lx_eqL {r : Int64} {A : Prop} (h : A) : (lg_cmp r r = 0 → A) ∧ (¬ lg_cmp r r = 0 → False) := by
  rw [lg_self]
  exact ⟨fun _ => h, fun e => e rfl⟩
theorem v01 : vp_in 0 1 := vp_in_nI (n := 0) (by decide) (by decide)
/-- a turn less -/
theorem fnd_less {n tu mask : Nat} {T : Nat → List Nat} (htu : 0 < tu) (h : mask < 2 ^ (2 * (tu - 1))) : fnd n tu T mask = fnd n (tu - 1) T mask := by
  have e : mvs mask (2 * tu) = mvs mask (2 * (tu - 1)) := by
    have := mvs_more h 2
    rw [show 2 * (tu - 1) + 2 = 2 * tu by omega] at this
    exact this
  unfold fnd
  rw [e]
theorem Kp.less {n tu : Nat} {T : Nat → List Nat} {to kn : Int32} {le fo : Nat → Int32} (htu : 0 < tu) (h : Kp n tu T to kn le fo) : Kp n (tu - 1) T to kn le fo := by
  intro mask hm e
  have hle : 2 ^ (2 * (tu - 1)) ≤ 2 ^ (2 * tu) := Nat.pow_le_pow_right (by decide) (by omega)
  have := h mask (by omega) e
  rwa [fnd_less htu hm] at this
theorem Ss.less {tu : Nat} {T : Nat → List Nat} {so : Nat → Nat → Int32} (h : Ss tu T so) : Ss (tu - 1) T so := fun m hm => h m (by omega)
theorem En.less {n tu : Nat} {T : Nat → List Nat} {en : Nat → Nat → Int32} (h : En n tu T en) : En n (tu - 1) T en := ⟨by have := h.1; omega, fun m hm => h.2 m (by omega)⟩
theorem Fr.less {n tu : Nat} {T : Nat → List Nat} {fr : Nat → Int32} (h : Fr n tu T fr) : Fr n (tu - 1) T fr := ⟨by have := h.1; omega, fun m hm => h.2 m (by omega)⟩
theorem Ss.zero (T : Nat → List Nat) (so : Nat → Nat → Int32) : Ss 0 T so := fun m hm => by omega
theorem En.zero (n : Nat) (T : Nat → List Nat) (en : Nat → Nat → Int32) : En n 0 T en := ⟨by omega, fun m hm => by omega⟩
theorem Fr.zero (n : Nat) (T : Nat → List Nat) (fr : Nat → Int32) : Fr n 0 T fr := ⟨by omega, fun m hm => by omega⟩
theorem mod_lt2 (mask t : Nat) : mask % 2 ^ (2 * t) < 2 ^ (2 * t) := Nat.mod_lt _ (Nat.two_pow_pos _)
theorem m31 {tu mask : Nat} (htu : tu ≤ 6) (h : mask < 2 ^ (2 * tu)) : mask < 2 ^ 31 := by
  have := pow12 htu
  omega
/-! constructors and begin -/
theorem s_x1init {r : Nat} (hr : r < 2 ^ 31) {post : (Nat × Nat × Int32 × Int32 × (Nat → Int32) × (Nat → Int32)) → Prop} (h : ∀ a c, post (a, c, 0, -1, (fun _ => 0), (fun _ => 0))) : wp_X1_init (nI r) r post := by
  unfold wp_X1_init
  exact ⟨i_nneg hr, nI_c hr, fun a => ⟨i_nneg hr, nI_c hr, fun c => h a c⟩⟩
theorem s_setPlaces {k : Nat} (hk : k ≤ 8) {post : (Int32 × Int32 × Int32 × Int32) → Prop} (h : post (nI k, nI (fac k), -1, -1)) : wp_X0_setPlaces (nI k) post := by
  unfold wp_X0_setPlaces wp_X0_forgetSearches
  rw [nI_c (n := k) (by omega), ev_fac k (by omega)]
  refine ⟨vp_in_nI (by omega) (by decide), fun x hx => ?_⟩
  subst hx
  exact h
theorem s_x0init {k : Nat} (hk : k ≤ 8) {post : (Nat × (Nat → Nat) × Nat × Nat × Nat × Nat × Nat × Nat × Nat × Nat × Nat × Nat × Nat × Nat × Int32 × Int32 × Int32 × (Nat → Int64) × (Nat → Int32) × (Nat → Int32) × Int32 × Int32 × (Nat → Int32) × (Nat → Int32) × Int32 × Int32 × (Nat → Int32) × (Nat → Int32) × Int32 × Int32 × (Nat → Int32) × (Nat → Int32) × (Nat → Nat → Int32)) → Prop} (h : ∀ a1 a2 a3 a4 a5 a6 a7 a8 a9 a10 a11 a12 a13 a14, post (a1, a2, a3, a4, a5, a6, a7, a8, a9, a10, a11, a12, a13, a14, nI (fac k), nI k, nI (fac k), (fun _ => 0), (fun _ => 0), (fun _ => 0), 0, -1, (fun _ => 0), (fun _ => 0), 0, -1, (fun _ => 0), (fun _ => 0), 0, -1, (fun _ => 0), (fun _ => 0), (fun _ _ => 0))) : wp_X0_init (nI k) (fac k) post := by
  have hf := fac_le hk
  have hf31 : fac k < 2 ^ 31 := by omega
  unfold wp_X0_init
  rw [nI_c (n := k) (by omega), ev_fac k (by omega)]
  refine ⟨vp_in_nI (by omega) (by decide), fun x hx => ?_⟩
  subst hx
  refine ⟨i_nneg hf31, nI_c hf31, fun a1 a2 => ⟨i_nneg hf31, nI_c hf31, fun a3 a4 a5 a6 => ?_⟩⟩
  refine s_x1init hf31 (fun a7 a8 a9 => ?_)
  refine s_x1init hf31 (fun a10 a11 a12 => ?_)
  refine s_x1init hf31 (fun a13 a14 => ?_)
  refine s_setPlaces hk ?_
  exact h a1 a2 a3 a4 a5 a6 a7 a8 a9 a10 a11 a12 a13 a14
theorem three8 {x : Int32} : (∃ k, 3 ≤ k ∧ k ≤ 8 ∧ x = nI k) ∨ (∀ k, 3 ≤ k → k ≤ 8 → x ≠ nI k) := by
  by_cases h : ∃ k, 3 ≤ k ∧ k ≤ 8 ∧ x = nI k
  · exact Or.inl h
  · exact Or.inr (fun k a b e => h ⟨k, a, b, e⟩)
theorem three8_not {x : Int32} (h : ∀ k, 3 ≤ k → k ≤ 8 → x ≠ nI k) {A : Prop} (hA : A) : (x < 3 → A) ∧ (¬ x < 3 → x ≤ 8 → False) := by
  refine ⟨fun _ => hA, fun a b => ?_⟩
  have hx0 : ¬ x < 0 := fun q => a (Int32.lt_trans q (by decide))
  obtain ⟨c, hc, e⟩ := nI_of hx0
  subst e
  refine h c ?_ ((nI_leI (a := c) (b := 8) hc (by omega)).mp b) rfl
  rcases Nat.lt_or_ge c 3 with q | q
  · exact absurd ((nI_ltI (a := c) (b := 3) hc (by omega)).mpr q) a
  · exact q
theorem s_beginC_s {k rm : Nat} {pl : Int32} {ti : Nat → Int32} (h3 : 3 ≤ k) (h8 : k ≤ 8) (hrm : rm < 2 ^ 31) (hf : fac k ≤ rm) {post : Int32 → (Int32 × Int32 × Int32 × (Nat → Int32) × Int32 × Int32 × Int32 × Int32) → Prop} {postX : String → Prop} (h : ∀ ti, At ti (List.range k) → post pl (nI k, 0, 0, ti, nI k, nI (fac k), -1, -1)) : wp_X2_begin_s pl ti (nI rm) (nI k) post postX := by
  unfold wp_X2_begin_s
  refine b_lt (b := 3) (by omega) (by omega) (fun z => by omega) (fun _ => ?_)
  refine b_le (b := 8) (by omega) (by omega) (fun _ => ?_) (fun z => by omega)
  refine s_setSolved h8 (fun ti' hti => ?_)
  rw [nI_c (n := k) (by omega), ev_fac k (by omega)]
  refine ⟨vp_in_nI (by omega) (by decide), (nI_leI (by omega) hrm).mpr hf, ?_⟩
  exact s_setPlaces h8 (h ti' hti)
theorem s_beginC_no {rm : Nat} {pl : Int32} {ti : Nat → Int32} {x : Int32} (h : ∀ k, 3 ≤ k → k ≤ 8 → x ≠ nI k) {post : Int32 → (Int32 × Int32 × Int32 × (Nat → Int32) × Int32 × Int32 × Int32 × Int32) → Prop} {postX : String → Prop} (hX : postX "java/lang/IllegalArgumentException") : wp_X2_begin_s pl ti (nI rm) x post postX := by
  unfold wp_X2_begin_s
  exact ⟨fun _ => hX, fun z => ⟨fun w => absurd w ((three8_not h hX).2 z), fun _ => hX⟩⟩
theorem lphi_ok {k rm : Nat} (h3 : 3 ≤ k) (h8 : k ≤ 8) (hrm : rm = 120 ∨ rm = 720 ∨ rm = 5040 ∨ rm = 40320) (hf : rm < fac k) : 50 + 19 * fac k + lphi (fac k) ≤ lphi rm := by
  rcases (show k = 3 ∨ k = 4 ∨ k = 5 ∨ k = 6 ∨ k = 7 ∨ k = 8 by omega) with rfl | rfl | rfl | rfl | rfl | rfl <;> rcases hrm with rfl | rfl | rfl | rfl <;> revert hf <;> decide
theorem facs {k : Nat} (h3 : 3 ≤ k) (h8 : k ≤ 8) {rm : Nat} (hrm : rm = 120 ∨ rm = 720 ∨ rm = 5040 ∨ rm = 40320) (hf : rm < fac k) : fac k = 120 ∨ fac k = 720 ∨ fac k = 5040 ∨ fac k = 40320 := by
  rcases (show k = 3 ∨ k = 4 ∨ k = 5 ∨ k = 6 ∨ k = 7 ∨ k = 8 by omega) with rfl | rfl | rfl | rfl | rfl | rfl
  · have e : fac 3 = 6 := rfl
    omega
  · have e : fac 4 = 24 := rfl
    omega
  · exact Or.inl rfl
  · exact Or.inr (Or.inl rfl)
  · exact Or.inr (Or.inr (Or.inl rfl))
  · exact Or.inr (Or.inr (Or.inr rfl))
