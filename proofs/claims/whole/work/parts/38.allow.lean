/-! masks of allowed moves -/
theorem i_low {mask t : Nat} (ht : t < 6) {x : Int32} (hx : x = nI t) : nI mask &&& ((1 <<< ((2 * x) &&& 31)) - 1) = nI (mask % 2 ^ (2 * t)) := by
  have hp : 1 ≤ 2 ^ (2 * t) := Nat.pow_pos (by decide)
  rw [hx, show (2 : Int32) * nI t = nI (2 * t) from pk_mul 2 t, i_shl (by omega), show nI (2 ^ (2 * t)) - 1 = nI (2 ^ (2 * t) - 1) from pk_sub (b := 1) hp, i_and, Nat.and_two_pow_sub_one_eq_mod]
theorem s_dropM {tu mask : Nat} (htu : tu ≤ 6) {post : Int32 → (Int32 × Int32 × Int32) → Prop} (h0 : tu = 0 → post 0 (1, nI tu, nI mask)) (h1 : 0 < tu → post (nI (tu - 1)) (0, nI (tu - 1), nI (mask % 2 ^ (2 * (tu - 1))))) : wp_X3_dropTurn (nI tu) (nI mask) post := by
  unfold wp_X3_dropTurn
  refine b_le (b := 0) (by omega) (by omega) (fun h => ?_) (fun h => ?_)
  · exact ⟨fun z => absurd z (by decide), fun _ => h0 (by omega)⟩
  · refine ⟨fun _ => ?_, fun z => absurd (by decide) z⟩
    intro x hx y hy
    have e : x = nI (tu - 1) := by rw [hx]; exact pk_sub (b := 1) (by omega)
    rw [i_low (by omega) e] at hy
    rw [e, hy]
    exact h1 h
theorem s_dropC {tu mask : Nat} (htu : tu ≤ 6) {post : Int32 → (Int32 × Int32) → Prop} {postX : String → Prop} (h0 : tu = 0 → postX "java/lang/IllegalStateException") (h1 : 0 < tu → post (nI (tu - 1)) (nI (tu - 1), nI (mask % 2 ^ (2 * (tu - 1))))) : wp_X2_dropTurn (nI tu) (nI mask) post postX := by
  unfold wp_X2_dropTurn
  refine b_lt (a := 0) (by omega) (by omega) (fun h => ?_) (fun h => h0 (by omega))
  intro x hx y hy
  have e : x = nI (tu - 1) := by rw [hx]; exact pk_sub (b := 1) (by omega)
  rw [i_low (by omega) e] at hy
  rw [e, hy]
  exact h1 h
theorem pow12 {tu : Nat} (htu : tu ≤ 6) : 2 ^ (2 * tu) ≤ 4096 := Nat.pow_le_pow_right (n := 2) (by decide) (show 2 * tu ≤ 12 by omega)
theorem s_allowM {tu mask : Nat} (htu : tu ≤ 6) {x : Int32} {post : Int32 → (Int32 × Int32) → Prop} (h1 : ∀ m, m < 2 ^ (2 * tu) → x = nI m → post (nI mask) (0, nI m)) (h0 : (∀ m, m < 2 ^ (2 * tu) → x ≠ nI m) → post 0 (1, nI mask)) : wp_X3_allow (nI tu) (nI mask) x post := by
  have hp := pow12 htu
  unfold wp_X3_allow
  rw [show (2 : Int32) * nI tu = nI (2 * tu) from pk_mul 2 tu, i_shl (by omega)]
  refine s_within0 (by omega) (fun m hm e => ?_) (fun h => ?_)
  · refine ⟨fun z => absurd z (by decide), fun _ => ⟨fun _ => ?_, fun z => absurd (by decide) z⟩⟩
    rw [e]; exact h1 m hm e
  · exact ⟨fun _ => ⟨fun z => absurd z (by decide), fun _ => h0 h⟩, fun z => absurd rfl z⟩
theorem s_allowC {tu mask : Nat} (htu : tu ≤ 6) {x : Int32} {post : Int32 → Int32 → Prop} {postX : String → Prop} (h1 : ∀ m, m < 2 ^ (2 * tu) → x = nI m → post (nI mask) (nI m)) (h0 : (∀ m, m < 2 ^ (2 * tu) → x ≠ nI m) → postX "java/lang/IllegalArgumentException") : wp_X2_allow (nI tu) (nI mask) x post postX := by
  have hp := pow12 htu
  have hpos : 0 < 2 ^ (2 * tu) := Nat.pow_pos (by decide)
  unfold wp_X2_allow
  refine ⟨fun z => h0 (fun m hm e => ?_), fun z => ?_⟩
  · rw [e] at z; exact i_nneg (by omega) z
  · obtain ⟨j, hj, e⟩ := nI_of z
    rw [show (2 : Int32) * nI tu = nI (2 * tu) from pk_mul 2 tu, e, i_shr hj (by omega)]
    have hd : j / 2 ^ (2 * tu) < 2 ^ 31 := Nat.lt_of_le_of_lt (Nat.div_le_self _ _) hj
    refine b_eq (b := 0) hd (by omega) (fun h => ?_) (fun h => ?_)
    · have hlt : j < 2 ^ (2 * tu) := by
        rcases Nat.div_eq_zero_iff.mp h with a | a
        · omega
        · exact a
      exact h1 j hlt e
    · refine h0 (fun m hm e2 => h ?_)
      rw [e] at e2
      have := (nI_eq hj (by omega)).mp e2
      rw [this]
      exact Nat.div_eq_of_lt hm
