/-! masks as plain numbers -/
theorem i_sh : ∀ k, k < 31 → ((nI k &&& 31).toBitVec.smod 32).toNat = k := by decide
theorem i_shl {k : Nat} (hk : k < 31) : (1 : Int32) <<< (nI k &&& 31) = nI (2 ^ k) := by
  have h := pk_shlN (n := 1) (nI k &&& 31) k (i_sh k hk) (by rw [Nat.one_mul]; exact Nat.lt_trans (Nat.pow_lt_pow_right (by decide) hk) (by decide))
  rw [Nat.one_mul] at h
  exact h
theorem i_shr {m k : Nat} (hm : m < 2 ^ 31) (hk : k < 31) : nI m >>> (nI k &&& 31) = nI (m / 2 ^ k) := pk_shrN hm (nI k &&& 31) k (i_sh k hk)
theorem i_one (m : Nat) (hm : m < 2 ^ 31) : nI m &&& 1 = nI (m % 2) := pk_andN (Nat.lt_trans hm (by decide)) 1 (by decide)
theorem i_bit {m k : Nat} (hm : m < 2 ^ 31) (hk : k < 31) : (nI m >>> (nI k &&& 31)) &&& 1 = nI (m.testBit k).toNat := by
  rw [i_shr hm hk, i_one _ (Nat.lt_of_le_of_lt (Nat.div_le_self _ _) hm), Nat.testBit_eq_decide_div_mod_eq]
  rcases Nat.mod_two_eq_zero_or_one (m / 2 ^ k) with h | h <;> rw [h] <;> rfl
/-- one bit put out -/
theorem i_clear {m k : Nat} (hm : m < 2 ^ 31) (hk : k < 31) : nI m &&& (nI (2 ^ k) ^^^ (-1)) = nI (m &&& (2 ^ 31 - 1 - 2 ^ k)) := by
  have hp : 2 ^ k < 2 ^ 31 := Nat.pow_lt_pow_right (by decide) hk
  apply Int32.toBitVec_inj.1
  show BitVec.ofNat 32 m &&& (BitVec.ofNat 32 (2 ^ k) ^^^ (-1 : Int32).toBitVec) = BitVec.ofNat 32 (m &&& (2 ^ 31 - 1 - 2 ^ k))
  apply BitVec.eq_of_getLsbD_eq
  intro i hi
  have h1 : (-1 : Int32).toBitVec.getLsbD i = true := by
    have : (-1 : Int32).toBitVec = BitVec.allOnes 32 := by decide
    rw [this, BitVec.getLsbD_allOnes]; exact decide_eq_true hi
  have h2 : (2 ^ 31 - 1 - 2 ^ k).testBit i = (decide (i < 31) && !decide (k = i)) := by
    have e : 2 ^ 31 - 1 - 2 ^ k = (2 ^ 31 - 1) ^^^ 2 ^ k := by
      have h3 : (2 ^ 31 - 1) ^^^ 2 ^ k = 2 ^ 31 - (2 ^ k + 1) := by
        apply Nat.eq_of_testBit_eq
        intro j
        rw [Nat.testBit_two_pow_sub_succ hp, Nat.testBit_xor, Nat.testBit_two_pow_sub_one]
        by_cases q : j < 31
        · simp [q]
        · have : (2 ^ k).testBit j = false := Nat.testBit_lt_two_pow (Nat.lt_of_lt_of_le hp (Nat.pow_le_pow_right (by decide) (by omega)))
          simp [q, this]
      rw [h3]; omega
    rw [e, Nat.testBit_xor, Nat.testBit_two_pow_sub_one, Nat.testBit_two_pow]
    by_cases q : i < 31
    · simp [q]
    · have : ¬ k = i := by omega
      simp [q, this]
  simp only [BitVec.getLsbD_and, BitVec.getLsbD_xor, h1, BitVec.getLsbD_ofNat, hi, decide_true, Bool.true_and, Nat.testBit_and, h2, Nat.testBit_two_pow, Bool.xor_true]
  by_cases q : i < 31
  · simp [q]
  · have h31 : m.testBit i = false := Nat.testBit_lt_two_pow (Nat.lt_of_lt_of_le hm (Nat.pow_le_pow_right (by decide) (by omega)))
    simp [h31]
theorem t_clear {m k u : Nat} (hk : k < 31) (hu : u < 31) : (m &&& (2 ^ 31 - 1 - 2 ^ k)).testBit u = (m.testBit u && !decide (k = u)) := by
  have hp : 2 ^ k < 2 ^ 31 := Nat.pow_lt_pow_right (by decide) hk
  have e : 2 ^ 31 - 1 - 2 ^ k = 2 ^ 31 - (2 ^ k + 1) := by omega
  rw [Nat.testBit_and, e, Nat.testBit_two_pow_sub_succ hp, Nat.testBit_two_pow]
  simp [hu]
theorem t_or {m k u : Nat} : (m ||| 2 ^ k).testBit u = (m.testBit u || decide (k = u)) := by rw [Nat.testBit_or, Nat.testBit_two_pow]
theorem or_lt {m k b : Nat} (hm : m < 2 ^ b) (hk : k < b) : m ||| 2 ^ k < 2 ^ b := Nat.or_lt_two_pow hm (Nat.pow_lt_pow_right (by decide) hk)
theorem and_le31 {m x : Nat} (hm : m < 2 ^ 31) : m &&& x < 2 ^ 31 := Nat.lt_of_le_of_lt Nat.and_le_left hm
theorem i_or (a b : Nat) : nI a ||| nI b = nI (a ||| b) := fa_or a b
theorem i_and (a b : Nat) : nI a &&& nI b = nI (a &&& b) := fa_and a b
/-- the model's has -/
theorem s_has {m k : Nat} (hm : m < 2 ^ 31) (hk : k < 31) {post : Int32 → Unit → Prop} (h1 : m.testBit k = true → post 1 ()) (h0 : m.testBit k = false → post 0 ()) : wp_X3_has (nI m) (nI k) post := by
  unfold wp_X3_has
  rw [i_bit hm hk]
  cases h : m.testBit k with
  | true => exact ⟨fun q => absurd rfl q, fun _ => h1 h⟩
  | false => exact ⟨fun _ => h0 h, fun q => absurd q (by decide)⟩
theorem l_fac {k : Nat} (hk : k ≤ 8) {K : Int32 → Int32 → Prop} (hK : ∀ v, K (nI (fac k)) v) : ∀ N j, k + 2 - j < N → 2 ≤ j → (j ≤ k + 1 ∨ j = 2) → lp_X3_factorial_4 (nI k) K N (nI (fac (j - 1))) (nI j) := by
  intro N
  induction N with
  | zero => intro j h; omega
  | succ N ih =>
    intro j h1 h2 h3
    rw [lp_X3_factorial_4]
    refine b_lt (by omega) (by omega) (fun h => ?_) (fun h => ?_)
    · have : fac (j - 1) = fac k := by
        rcases h3 with h3 | h3
        · rw [show j - 1 = k by omega]
        · subst h3
          rcases (show k = 0 ∨ k = 1 by omega) with rfl | rfl <;> rfl
      rw [this]
      exact hK _
    · intro x hx
      have e : x = nI (fac j) := by
        rw [hx, pk_mul]
        obtain ⟨i, rfl⟩ : ∃ i, j = i + 1 := ⟨j - 1, by omega⟩
        rw [Nat.add_sub_cancel, fac, Nat.mul_comm]
      rw [e, nI_1]
      have := ih (j + 1) (by omega) (by omega) (Or.inl (by omega))
      rwa [Nat.add_sub_cancel] at this
theorem s_fac {k : Nat} (hk : k ≤ 8) {post : Int32 → Unit → Prop} (h : post (nI (fac k)) ()) : wp_X3_factorial (nI k) post := by
  unfold wp_X3_factorial
  exact ⟨k + 3, l_fac hk (fun _ => h) (k + 3) 2 (by omega) (by omega) (Or.inr rfl)⟩
theorem s_inverse {m : Nat} (hm : m < 2 ^ 30) {post : Int32 → Unit → Prop} (h : post (nI (if m % 2 = 0 then m + 1 else m - 1)) ()) : wp_X3_inverse (nI m) post := by
  unfold wp_X3_inverse
  have e : nI m - nI m / 2 * 2 = nI (m % 2) := pk_rem (by omega) (by decide) (by decide)
  rw [e]
  rcases Nat.mod_two_eq_zero_or_one m with q | q
  · rw [q] at h ⊢
    refine ⟨fun z => absurd rfl z, fun _ => ?_⟩
    rw [nI_1]; exact h
  · rw [q] at h ⊢
    refine ⟨fun _ => ?_, fun z => absurd z (by decide)⟩
    have : nI m - 1 = nI (m - 1) := by
      have := pk_sub (a := m) (b := 1) (by omega)
      exact this
    rw [this]; exact h
