/-! places and moves: any int against a small range -/
theorem i_pred_lt {k : Nat} (hk : k < 2 ^ 31) {x : Int32} (h0 : ¬ x < 0) (h : nI k ≤ x) : nI k - 1 < x := by
  cases k with
  | zero =>
    have e : nI 0 - 1 = -1 := by decide
    rw [e]
    exact Int32.lt_of_lt_of_le (by decide : (-1 : Int32) < 0) (Int32.not_lt.mp h0)
  | succ k =>
    have e : nI (k + 1) - 1 = nI k := pk_sub (b := 1) (a := k + 1) (by omega)
    rw [e]
    exact Int32.lt_of_lt_of_le ((nI_ltI (by omega) (by omega)).mpr (by omega)) h
theorem i_nneg {j : Nat} (hj : j < 2 ^ 31) : ¬ nI j < 0 := fun z => by
  have := (nI_ltI (b := 0) hj (by omega)).mp z
  omega
theorem w_range {k : Nat} (hk : k < 2 ^ 31) (x : Int32) {A B : Prop} (h1 : ∀ j, j < k → x = nI j → B) (h0 : (∀ j, j < k → x ≠ nI j) → A) : (x < 0 → A) ∧ (¬ x < 0 → (nI k - 1 < x → A) ∧ (¬ nI k - 1 < x → B)) := by
  rcases b_ix x k hk with ⟨j, hj, e⟩ | h
  · refine ⟨fun z => absurd z (by rw [e]; exact i_nneg (by omega)), fun _ => ⟨fun z => ?_, fun _ => h1 j hj e⟩⟩
    exfalso
    rw [e, show nI k - 1 = nI (k - 1) from pk_sub (b := 1) (by omega)] at z
    have := (nI_ltI (by omega) (by omega)).mp z
    omega
  · refine ⟨fun _ => h0 h, fun z => ⟨fun _ => h0 h, fun y => ?_⟩⟩
    rcases b_out hk h with a | a
    · exact absurd a z
    · exact absurd (i_pred_lt hk z a) y
theorem c_range {k : Nat} (hk : k < 2 ^ 31) (x : Int32) {A B : Prop} (h1 : ∀ j, j < k → x = nI j → B) (h0 : (∀ j, j < k → x ≠ nI j) → A) : (x < 0 → A) ∧ (¬ x < 0 → (nI k ≤ x → A) ∧ (¬ nI k ≤ x → B)) := by
  rcases b_ix x k hk with ⟨j, hj, e⟩ | h
  · refine ⟨fun z => absurd z (by rw [e]; exact i_nneg (by omega)), fun _ => ⟨fun z => ?_, fun _ => h1 j hj e⟩⟩
    exfalso
    rw [e] at z
    have := (nI_leI (by omega) (by omega)).mp z
    omega
  · refine ⟨fun _ => h0 h, fun z => ⟨fun _ => h0 h, fun y => ?_⟩⟩
    rcases b_out hk h with a | a
    · exact absurd a z
    · exact absurd a y
theorem s_within0 {k : Nat} (hk : k < 2 ^ 31) {x : Int32} {post : Int32 → Unit → Prop} (h1 : ∀ j, j < k → x = nI j → post 1 ()) (h0 : (∀ j, j < k → x ≠ nI j) → post 0 ()) : wp_X3_within x 0 (nI k - 1) post := w_range hk x h1 h0
theorem s_isPlaceM {n : Nat} (hn : n ≤ 8) {x : Int32} {post : Int32 → Unit → Prop} (h1 : ∀ j, j < n → x = nI j → post 1 ()) (h0 : (∀ j, j < n → x ≠ nI j) → post 0 ()) : wp_X3_isPlace (nI n) x post :=
  s_within0 (by omega) (fun j hj e => ⟨by decide, h1 j hj e⟩) (fun h => ⟨by decide, h0 h⟩)
theorem s_isMoveM {tu : Nat} (htu : tu ≤ 6) {x : Int32} {post : Int32 → Unit → Prop} (h1 : ∀ j, j < 2 * tu → x = nI j → post 1 ()) (h0 : (∀ j, j < 2 * tu → x ≠ nI j) → post 0 ()) : wp_X3_isMove (nI tu) x post := by
  unfold wp_X3_isMove
  rw [show (2 : Int32) * nI tu = nI (2 * tu) from pk_mul 2 tu]
  exact s_within0 (by omega) (fun j hj e => ⟨by decide, h1 j hj e⟩) (fun h => ⟨by decide, h0 h⟩)
theorem s_isPlaceC {n : Nat} (hn : n ≤ 8) {x : Int32} {post : Int32 → Unit → Prop} (h1 : ∀ j, j < n → x = nI j → post 1 ()) (h0 : (∀ j, j < n → x ≠ nI j) → post 0 ()) : wp_X2_isPlace (nI n) x post := c_range (by omega) x h1 h0
theorem s_isMoveC {tu : Nat} (htu : tu ≤ 6) {x : Int32} {post : Int32 → Unit → Prop} (h1 : ∀ j, j < 2 * tu → x = nI j → post 1 ()) (h0 : (∀ j, j < 2 * tu → x ≠ nI j) → post 0 ()) : wp_X2_isMove (nI tu) x post := by
  unfold wp_X2_isMove
  rw [show (2 : Int32) * nI tu = nI (2 * tu) from pk_mul 2 tu]
  exact c_range (by omega) x h1 h0
theorem s_isAllowedC {tu mask : Nat} (htu : tu ≤ 6) {x : Int32} {post : Int32 → Unit → Prop} (h1 : ∀ j, j < 2 * tu → x = nI j → mask.testBit j = true → post 1 ()) (h0 : (∀ j, j < 2 * tu → x = nI j → mask.testBit j = false) → post 0 ()) : wp_X2_isAllowed (nI tu) (nI mask) x post := by
  unfold wp_X2_isAllowed
  refine s_isMoveC htu (fun j hj e => ?_) (fun h => ?_)
  · refine ⟨fun z => absurd z (by decide), fun _ => ?_⟩
    rw [e]
    refine c_bit (by omega) (fun hb => h0 (fun i hi e2 => ?_)) (fun hb => h1 j hj e hb)
    rw [e] at e2
    have := (nI_eq (by omega) (by omega)).mp e2
    subst this; exact hb
  · exact ⟨fun _ => h0 (fun j hj e => absurd e (h j hj)), fun z => absurd rfl z⟩
