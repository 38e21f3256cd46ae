/-! the bits of the mean, made by halving and doubling -/
theorem log_up {s : Nat} (hs : 0 < s) (h : s < 4503599627370496) : s.log2 ≤ 51 ∧ 4503599627370496 ≤ s * 2 ^ (52 - s.log2) ∧ s * 2 ^ (52 - s.log2) < 9007199254740992 := by
  have a1 : 2 ^ s.log2 ≤ s := Nat.log2_self_le (by omega)
  have a2 : s < 2 ^ (s.log2 + 1) := Nat.lt_log2_self
  have hl : s.log2 ≤ 51 := by
    have : s.log2 < 52 := (Nat.log2_lt (by omega)).mpr (by rw [show 2 ^ 52 = 4503599627370496 by decide]; exact h)
    omega
  refine ⟨hl, ?_, ?_⟩
  · have := Nat.mul_le_mul_right (2 ^ (52 - s.log2)) a1
    rw [← Nat.pow_add, show s.log2 + (52 - s.log2) = 52 by omega, show 2 ^ 52 = 4503599627370496 by decide] at this
    exact this
  · have := Nat.mul_lt_mul_of_pos_right a2 (Nat.two_pow_pos (52 - s.log2))
    rw [← Nat.pow_add, show s.log2 + 1 + (52 - s.log2) = 53 by omega, show 2 ^ 53 = 9007199254740992 by decide] at this
    exact this
theorem f_i2d {s : Nat} (hs : 0 < s) (h : s < 2 ^ 31) : FP.i2d (nI s) = nb (s.log2 + 1023) (s * 2 ^ (52 - s.log2) - 4503599627370496) := by
  obtain ⟨l1, l2, l3⟩ := log_up hs (by omega)
  show UInt64.ofNat (FP.Core.fromInt FP.Core.b64 (nI s).toInt) = _
  rw [nI_toInt h]
  unfold FP.Core.fromInt
  refine nb_of (by omega) ?_
  have e : FP.Core.ofInt (s : Int) = .fin false s 0 := by
    unfold FP.Core.ofInt
    rw [show decide ((s : Int) < 0) = false from decide_eq_false (by omega)]
    rfl
  rw [e]
  show FP.Core.roundRatio FP.Core.b64 false s 1 0 = _
  rw [show 4503599627370496 + (s * 2 ^ (52 - s.log2) - 4503599627370496) = s * 2 ^ (52 - s.log2) by omega]
  refine f_rr (x := 52 - s.log2) (by decide) l2 l3 (by omega) (by omega) (Or.inl ⟨by omega, ?_⟩)
  rw [Nat.mul_one]
theorem f_near_le {A D M : Nat} (hD : 0 < D) (h : A < M * D) : FP.Core.nearest A D ≤ M := by
  have h1 : A / D < M := (Nat.div_lt_iff_lt_mul hD).mpr h
  unfold FP.Core.nearest
  split
  · omega
  · split
    · omega
    · have := Nat.mod_lt (A / D) (show 0 < 2 by decide)
      omega
theorem f_near_ge {A D M : Nat} (hD : 0 < D) (h : M * D ≤ A) : M ≤ FP.Core.nearest A D := by
  have h1 : M ≤ A / D := (Nat.le_div_iff_mul_le hD).mpr h
  unfold FP.Core.nearest
  split
  · exact h1
  · split <;> omega
theorem f_mean {c1 c2 : Nat} {e : Int} (a1 : 4503599627370496 ≤ c1) (a2 : c1 < 9007199254740992) (b1 : 4503599627370496 ≤ c2) (b2 : c2 < 9007199254740992) (e1 : -31 ≤ e) (e2 : e ≤ 31) : ∃ E t : Nat, 960 ≤ E ∧ E ≤ 1086 ∧ t < 4503599627370496 ∧ FP.Core.roundRatio FP.Core.b64 false c1 c2 e = .fin false (4503599627370496 + t) ((E : Int) - 1075) := by
  have key : ∀ N q : Nat, 4503599627370496 ≤ N → N ≤ 9007199254740992 → 960 ≤ q → q ≤ 1085 → ∃ E t : Nat, 960 ≤ E ∧ E ≤ 1086 ∧ t < 4503599627370496 ∧ FP.Core.settle FP.Core.b64 false N ((q : Int) - 1075) = .fin false (4503599627370496 + t) ((E : Int) - 1075) := by
    intro N q n1 n2 q1 q2
    unfold FP.Core.settle FP.Core.bound
    rw [f_two, f_qmax, f_tails]
    by_cases hN : N < 9007199254740992
    · rw [if_pos hN, if_pos (by omega)]
      exact ⟨q, N - 4503599627370496, q1, by omega, by omega, by rw [show 4503599627370496 + (N - 4503599627370496) = N by omega]⟩
    · rw [if_neg hN, if_pos (by omega)]
      exact ⟨q + 1, 0, by omega, by omega, by decide, by rw [Nat.add_zero, show (q : Int) - 1075 + 1 = ((q + 1 : Nat) : Int) - 1075 by omega]⟩
  unfold FP.Core.roundRatio
  rw [if_neg (by omega)]
  unfold FP.Core.roundAt FP.Core.quantum
  rw [f_qmin, f_p]
  rcases Nat.lt_or_ge c1 c2 with h | h
  · rw [f_lead (A := c1) (B := c2) (a := 0) (b := 1) (by omega) (by omega) (by omega)]
    have eq : max (-1074 : Int) (((0 : Nat) : Int) - ((1 : Nat) : Int) + e - (53 - 1)) = ((e + 1022).toNat : Int) - 1075 := by omega
    rw [eq]
    refine key _ _ ?_ ?_ (by omega) (by omega)
    · unfold FP.Core.unitsNum FP.Core.unitsDen
      rw [show (e - (((e + 1022).toNat : Int) - 1075)).toNat = 53 by omega, show ((((e + 1022).toNat : Int) - 1075) - e).toNat = 0 by omega, show 2 ^ 53 = 9007199254740992 by decide]
      refine f_near_ge (by omega) ?_
      omega
    · unfold FP.Core.unitsNum FP.Core.unitsDen
      rw [show (e - (((e + 1022).toNat : Int) - 1075)).toNat = 53 by omega, show ((((e + 1022).toNat : Int) - 1075) - e).toNat = 0 by omega, show 2 ^ 53 = 9007199254740992 by decide]
      refine f_near_le (by omega) ?_
      omega
  · rw [f_lead (A := c1) (B := c2) (a := 0) (b := 0) (by omega) (by omega) (by omega)]
    have eq : max (-1074 : Int) (((0 : Nat) : Int) - ((0 : Nat) : Int) + e - (53 - 1)) = ((e + 1023).toNat : Int) - 1075 := by omega
    rw [eq]
    refine key _ _ ?_ ?_ (by omega) (by omega)
    · unfold FP.Core.unitsNum FP.Core.unitsDen
      rw [show (e - (((e + 1023).toNat : Int) - 1075)).toNat = 52 by omega, show ((((e + 1023).toNat : Int) - 1075) - e).toNat = 0 by omega, show 2 ^ 52 = 4503599627370496 by decide]
      refine f_near_ge (by omega) ?_
      omega
    · unfold FP.Core.unitsNum FP.Core.unitsDen
      rw [show (e - (((e + 1023).toNat : Int) - 1075)).toNat = 52 by omega, show ((((e + 1023).toNat : Int) - 1075) - e).toNat = 0 by omega, show 2 ^ 52 = 4503599627370496 by decide]
      refine f_near_le (by omega) ?_
      omega
def mnU (s k : Nat) : UInt64 := FP.ddiv (FP.i2d (nI s)) (FP.i2d (nI k))
theorem mnU_form {s k : Nat} (hs : 0 < s) (hs2 : s < 2 ^ 31) (hk : 0 < k) (hk2 : k < 2 ^ 31) : ∃ E t : Nat, 960 ≤ E ∧ E ≤ 1086 ∧ t < 4503599627370496 ∧ mnU s k = nb E t := by
  obtain ⟨l1, l2, l3⟩ := log_up hs (by omega)
  obtain ⟨m1, m2, m3⟩ := log_up hk (by omega)
  have ls : s.log2 < 31 := (Nat.log2_lt (by omega)).mpr hs2
  have lk : k.log2 < 31 := (Nat.log2_lt (by omega)).mpr hk2
  unfold mnU
  rw [f_i2d hs hs2, f_i2d hk hk2]
  obtain ⟨E, t, h1, h2, h3, h4⟩ := f_mean (e := ((s.log2 + 1023 : Nat) : Int) - 1075 - (((k.log2 + 1023 : Nat) : Int) - 1075)) l2 l3 m2 m3 (by omega) (by omega)
  refine ⟨E, t, h1, h2, h3, ?_⟩
  show UInt64.ofNat (FP.Core.div FP.Core.b64 _ _) = _
  unfold FP.Core.div
  rw [nb_dec (by omega) (by omega) (by omega), nb_dec (by omega) (by omega) (by omega)]
  rw [show 4503599627370496 + (s * 2 ^ (52 - s.log2) - 4503599627370496) = s * 2 ^ (52 - s.log2) by omega, show 4503599627370496 + (k * 2 ^ (52 - k.log2) - 4503599627370496) = k * 2 ^ (52 - k.log2) by omega]
  refine nb_of (by omega) ?_
  rw [f_quot (by omega)]
  exact h4
theorem f_i2d0 : FP.i2d (nI 0) = 0 := by decide +kernel
theorem f_dec0 : FP.Core.decode FP.Core.b64 (0 : UInt64).toNat = .fin false 0 (-1074) := by decide +kernel
theorem mnU_zero {k : Nat} (hk : 0 < k) (hk2 : k < 2 ^ 31) : mnU 0 k = 0 := by
  obtain ⟨m1, m2, m3⟩ := log_up hk (by omega)
  have lk : k.log2 < 31 := (Nat.log2_lt (by omega)).mpr hk2
  unfold mnU
  rw [f_i2d0, f_i2d hk hk2]
  show UInt64.ofNat (FP.Core.div FP.Core.b64 _ _) = _
  unfold FP.Core.div
  rw [f_dec0, nb_dec (by omega) (by omega) (by omega)]
  rw [f_quot (by omega)]
  unfold FP.Core.roundRatio
  rw [if_pos rfl]
  decide +kernel
theorem vf_0 : vf_n64 0 := by unfold vf_n64; decide +kernel
theorem mnU_num {s k : Nat} (hs2 : s < 2 ^ 31) (hk : 0 < k) (hk2 : k < 2 ^ 31) : vf_n64 (mnU s k) := by
  rcases Nat.eq_zero_or_pos s with e | e
  · subst e
    rw [mnU_zero hk hk2]
    exact vf_0
  · obtain ⟨E, t, h1, h2, h3, h4⟩ := mnU_form e hs2 hk hk2
    rw [h4]
    exact f_num (by omega) h3
/-! a part between one and two, less one, as a whole number -/
theorem f_part {t : Nat} (ht : t < 4503599627370496) : vf_n64 (FP.dsub (nb 1023 t) FP.dconst1) ∧ vf_n64 (FP.dmul (FP.dsub (nb 1023 t) FP.dconst1) (4841369599423283200 : UInt64)) ∧ FP.d2l (FP.dmul (FP.dsub (nb 1023 t) FP.dconst1) (4841369599423283200 : UInt64)) = lN t := by
  rcases Nat.eq_zero_or_pos t with e | e
  · subst e
    have h1 : FP.dsub (nb 1023 0) FP.dconst1 = 0 := by decide +kernel
    have h2 : FP.dmul 0 (4841369599423283200 : UInt64) = 0 := by decide +kernel
    rw [h1, h2]
    exact ⟨vf_0, vf_0, by decide +kernel⟩
  · obtain ⟨l1, l2, l3⟩ := log_up e ht
    have h1 : FP.dsub (nb 1023 t) FP.dconst1 = nb (t.log2 + 971) (t * 2 ^ (52 - t.log2) - 4503599627370496) := by
      show UInt64.ofNat (FP.Core.sub FP.Core.b64 (nb 1023 t).toNat (FP.dconst1 : UInt64).toNat) = _
      unfold FP.Core.sub
      rw [nb_dec (by decide) (by decide) ht, f_dec1]
      refine nb_of (by omega) ?_
      have hx : FP.Core.exactSum (.fin false (4503599627370496 + t) (((1023 : Nat) : Int) - 1075)) (FP.Core.negate (.fin false 4503599627370496 (-52))) = .fin false t (-52) := by
        show FP.Core.Datum.fin (FP.Core.sumSign false true (FP.Core.sumUnits false (4503599627370496 + t) (((1023 : Nat) : Int) - 1075) true 4503599627370496 (-52) (min (((1023 : Nat) : Int) - 1075) (-52)))) (FP.Core.sumUnits false (4503599627370496 + t) (((1023 : Nat) : Int) - 1075) true 4503599627370496 (-52) (min (((1023 : Nat) : Int) - 1075) (-52))).natAbs (min (((1023 : Nat) : Int) - 1075) (-52)) = _
        have hm : min (((1023 : Nat) : Int) - 1075) (-52) = -52 := by decide
        rw [hm]
        have hv : FP.Core.sumUnits false (4503599627370496 + t) (((1023 : Nat) : Int) - 1075) true 4503599627370496 (-52) (-52) = (t : Int) := by
          show FP.Core.signed false (FP.Core.inUnits (4503599627370496 + t) (((1023 : Nat) : Int) - 1075) (-52)) + FP.Core.signed true (FP.Core.inUnits 4503599627370496 (-52) (-52)) = _
          unfold FP.Core.signed FP.Core.inUnits
          rw [if_neg (by decide), if_pos rfl]
          have z1 : ((((1023 : Nat) : Int) - 1075) - -52).toNat = 0 := by decide
          have z2 : ((-52 : Int) - -52).toNat = 0 := by decide
          rw [z1, z2, Nat.pow_zero, Nat.mul_one, Nat.mul_one]
          omega
        rw [hv]
        have hs : FP.Core.sumSign false true (t : Int) = false := by
          unfold FP.Core.sumSign
          rw [if_neg (by omega)]
          exact decide_eq_false (by omega)
        rw [hs]
        rfl
      rw [hx]
      show FP.Core.roundRatio FP.Core.b64 false t 1 (-52) = _
      rw [show 4503599627370496 + (t * 2 ^ (52 - t.log2) - 4503599627370496) = t * 2 ^ (52 - t.log2) by omega]
      refine f_rr (x := 52 - t.log2) (by decide) l2 l3 (by omega) (by omega) (Or.inl ⟨by omega, ?_⟩)
      rw [Nat.mul_one]
    have h2 : FP.dmul (nb (t.log2 + 971) (t * 2 ^ (52 - t.log2) - 4503599627370496)) (4841369599423283200 : UInt64) = nb (t.log2 + 1023) (t * 2 ^ (52 - t.log2) - 4503599627370496) := by
      show UInt64.ofNat (FP.Core.mul FP.Core.b64 _ (4841369599423283200 : UInt64).toNat) = _
      unfold FP.Core.mul
      rw [nb_dec (by omega) (by omega) (by omega), f_dec52]
      refine nb_of (by omega) ?_
      rw [show 4503599627370496 + (t * 2 ^ (52 - t.log2) - 4503599627370496) = t * 2 ^ (52 - t.log2) by omega]
      show FP.Core.roundRatio FP.Core.b64 (false != false) (t * 2 ^ (52 - t.log2) * 4503599627370496) 1 (((t.log2 + 971 : Nat) : Int) - 1075 + 0) = _
      refine f_rr (x := 52) (by decide) l2 l3 (by omega) (by omega) (Or.inr ⟨by omega, ?_⟩)
      rw [show 2 ^ 52 = 4503599627370496 by decide, Nat.mul_one]
    have h3 : FP.d2l (nb (t.log2 + 1023) (t * 2 ^ (52 - t.log2) - 4503599627370496)) = lN t := by
      show FP.Core.toL (FP.Core.decode FP.Core.b64 _) = _
      rw [nb_dec (by omega) (by omega) (by omega), show 4503599627370496 + (t * 2 ^ (52 - t.log2) - 4503599627370496) = t * 2 ^ (52 - t.log2) by omega]
      have hx : FP.Core.truncate false (t * 2 ^ (52 - t.log2)) (((t.log2 + 1023 : Nat) : Int) - 1075) = (t : Int) := by
        unfold FP.Core.truncate FP.Core.signed
        rw [if_neg (by decide)]
        have z1 : ((((t.log2 + 1023 : Nat) : Int) - 1075)).toNat = 0 := by omega
        have z2 : (-(((t.log2 + 1023 : Nat) : Int) - 1075)).toNat = 52 - t.log2 := by omega
        rw [z1, z2, Nat.pow_zero, Nat.mul_one, Nat.mul_div_cancel _ (Nat.two_pow_pos _)]
      show Int64.ofInt (max (-2 ^ 63) (min (2 ^ 63 - 1) (FP.Core.truncate false (t * 2 ^ (52 - t.log2)) (((t.log2 + 1023 : Nat) : Int) - 1075)))) = lN t
      rw [hx]
      have z3 : max (-2 ^ 63 : Int) (min (2 ^ 63 - 1) (t : Int)) = (t : Int) := by omega
      rw [z3]
      rfl
    rw [h1, h2, h3]
    exact ⟨f_num (by omega) (by omega), f_num (by omega) (by omega), rfl⟩
theorem l_shl52 (n : Nat) : (lN n : Int64) <<< ((52 : Int32).toInt64 &&& 63) = lN (n * 4503599627370496) := by
  have e : ((52 : Int32).toInt64 &&& 63) = 52 := by decide
  rw [e]
  apply Int64.toBitVec_inj.1
  show (BitVec.ofNat 64 n) <<< ((52 : Int64).toBitVec.smod 64) = BitVec.ofNat 64 (n * 4503599627370496)
  have e2 : ((52 : Int64).toBitVec.smod 64) = 52#64 := by decide
  rw [e2]
  apply BitVec.eq_of_toNat_eq
  rw [BitVec.shiftLeft_eq', BitVec.toNat_shiftLeft, BitVec.toNat_ofNat, BitVec.toNat_ofNat, BitVec.toNat_ofNat, Nat.shiftLeft_eq]
  rw [show 52 % 2 ^ 64 = 52 by decide, show 2 ^ 52 = 4503599627370496 by decide, Nat.mod_mul_mod]
theorem nb_long (E t : Nat) : (nb E t).toInt64 = lN (E * 4503599627370496 + t) := rfl
theorem l_bits18 {E J t : Nat} (hJ : J = E - 1023) (h1 : 960 ≤ E) (hE : E ≤ 1086) (ht : t < 4503599627370496) {K : UInt64 → Int64 → Int32 → Prop} (hK : ∀ a, K (nb (E - J) t) (lN (1023 + J)) a) : ∀ N j, 64 - j < N → j ≤ J → lp_X2_bitsOf_18 K N (nb (E - j) t) (lN (1023 + j)) (nI j) := by
  intro N
  induction N with
  | zero => intro j h; omega
  | succ N ih =>
    intro j g1 g2
    rw [lp_X2_bitsOf_18, show nI j + 1 = nI (j + 1) from nI_add j 1]
    refine b_le (a := 64) (by omega) (by omega) (fun h => by omega) (fun h => ?_)
    refine f_cmp2 (by omega) (by omega) ht (fun hlt => ?_) (fun hge => ?_)
    · have : j = J := by omega
      rw [this]; exact hK _
    · rw [f_div2 (by omega) (by omega) ht]
      refine ⟨f_num (by omega) ht, fun x hx y hy => ?_⟩
      rw [show lN (1023 + j) + 1 = lN (1023 + (j + 1)) from lN_1 _] at hy
      subst hx hy
      exact ih (j + 1) (by omega) (by omega)
theorem l_bits54 {F X t : Nat} (h1 : 960 ≤ F) (hF : F ≤ 1023) (hX : 1023 - F ≤ X) (ht : t < 4503599627370496) {K : UInt64 → Int64 → Int32 → Prop} (hK : ∀ a, K (nb 1023 t) (lN (X - (1023 - F))) a) : ∀ N j, 64 - j < N → j ≤ 1023 - F → lp_X2_bitsOf_54 K N (nb (F + j) t) (lN (X - j)) (nI j) := by
  intro N
  induction N with
  | zero => intro j h; omega
  | succ N ih =>
    intro j g1 g2
    rw [lp_X2_bitsOf_54, show nI j + 1 = nI (j + 1) from nI_add j 1]
    refine b_le (a := 64) (by omega) (by omega) (fun h => by omega) (fun h => ?_)
    refine f_cmp1 (by omega) (by omega) ht (fun hge => ?_) (fun hlt => ?_)
    · have e1 : j = 1023 - F := by omega
      have e2 : F + j = 1023 := by omega
      rw [e2, e1]; exact hK _
    · rw [f_mul2 (by omega) (by omega) ht]
      refine ⟨f_num (by omega) ht, fun x hx y hy => ?_⟩
      rw [show lN (X - j) - 1 = lN (X - j - 1) from lN_sub (b := 1) (by omega), show X - j - 1 = X - (j + 1) by omega] at hy
      subst hx hy
      exact ih (j + 1) (by omega) (by omega)
theorem s_bitsC {E t : Nat} (h1 : 960 ≤ E) (hE : E ≤ 1086) (ht : t < 4503599627370496) {post : Int64 → Unit → Prop} (h : post ((nb E t).toInt64) ()) : wp_X2_bitsOf (nb E t) post := by
  have hgt : FP.dcmp (nb E t) FP.dconst0 = some .gt := by
    show FP.Core.order (FP.Core.decode FP.Core.b64 (nb E t).toNat) (FP.Core.decode FP.Core.b64 (0 : UInt64).toNat) = _
    rw [nb_dec (by omega) (by omega) ht, f_dec0]
    show some (compare (FP.Core.signed false (FP.Core.inUnits (4503599627370496 + t) ((E : Int) - 1075) (min ((E : Int) - 1075) (-1074)))) (FP.Core.signed false (FP.Core.inUnits 0 (-1074) (min ((E : Int) - 1075) (-1074))))) = _
    unfold FP.Core.signed FP.Core.inUnits
    rw [if_neg (by decide), if_neg (by decide), Nat.zero_mul]
    have h2 : 1 ≤ 2 ^ ((E : Int) - 1075 - min ((E : Int) - 1075) (-1074)).toNat := Nat.two_pow_pos _
    have h4 : (4503599627370496 + t) * 1 ≤ (4503599627370496 + t) * 2 ^ ((E : Int) - 1075 - min ((E : Int) - 1075) (-1074)).toNat := Nat.mul_le_mul_left _ h2
    congr 1
    simp only [compare, compareOfLessAndEq]
    rw [if_neg (by omega), if_neg (by omega)]
  unfold wp_X2_bitsOf
  rw [hgt]
  refine ⟨fun _ => ?_, fun z => absurd (by decide) z⟩
  refine ⟨65, ?_⟩
  obtain ⟨J, hJ⟩ : ∃ J, J = E - 1023 := ⟨_, rfl⟩
  have hl := l_bits18 hJ h1 hE ht (K := fun v_8 v_9 v_10 => ∃ N_16 : Nat, lp_X2_bitsOf_54 (fun v_17 v_18 v_19 => vf_n64 (FP.dsub v_17 FP.dconst1) ∧ (vf_n64 (FP.dmul (FP.dsub v_17 FP.dconst1) (4841369599423283200 : UInt64)) ∧ (post (((v_18 : Int64) <<< ((52 : Int32).toInt64 &&& 63)) + (FP.d2l (FP.dmul (FP.dsub v_17 FP.dconst1) (4841369599423283200 : UInt64)))) ()))) N_16 v_8 v_9 0) (fun _ => ?_) 65 0 (by omega) (Nat.zero_le _)
  · exact hl
  · refine ⟨65, ?_⟩
    obtain ⟨F, hF⟩ : ∃ F, F = E - J := ⟨_, rfl⟩
    obtain ⟨X, hX⟩ : ∃ X, X = 1023 + J := ⟨_, rfl⟩
    rw [← hF, ← hX]
    have hb := l_bits54 (F := F) (X := X) (t := t) (by omega) (by omega) (by omega) ht (K := fun v_17 v_18 v_19 => vf_n64 (FP.dsub v_17 FP.dconst1) ∧ (vf_n64 (FP.dmul (FP.dsub v_17 FP.dconst1) (4841369599423283200 : UInt64)) ∧ (post (((v_18 : Int64) <<< ((52 : Int32).toInt64 &&& 63)) + (FP.d2l (FP.dmul (FP.dsub v_17 FP.dconst1) (4841369599423283200 : UInt64)))) ()))) (fun _ => ?_) 65 0 (by omega) (Nat.zero_le _)
    · rw [Nat.add_zero, Nat.sub_zero] at hb
      exact hb
    · obtain ⟨p1, p2, p3⟩ := f_part ht
      refine ⟨p1, p2, ?_⟩
      rw [p3, l_shl52, lN_add, show X - (1023 - F) = E by omega, ← nb_long]
      exact h
theorem s_bitsU {s k : Nat} (hs2 : s < 2 ^ 31) (hk : 0 < k) (hk2 : k < 2 ^ 31) {post : Int64 → Unit → Prop} (h : post ((mnU s k).toInt64) ()) : wp_X2_bitsOf (mnU s k) post := by
  rcases Nat.eq_zero_or_pos s with e | e
  · subst e
    rw [mnU_zero hk hk2] at h ⊢
    unfold wp_X2_bitsOf
    have hc : FP.dcmp 0 FP.dconst0 = some .eq := by decide +kernel
    rw [hc]
    exact ⟨fun z => absurd z (by decide), fun _ => h⟩
  · obtain ⟨E, t, h1, h2, h3, h4⟩ := mnU_form e hs2 hk hk2
    rw [h4] at h ⊢
    exact s_bitsC h1 h2 h3 h
theorem mnU_eq {s k : Nat} (hs2 : s < 2 ^ 31) (hk : 0 < k) (hk2 : k < 2 ^ 31) : FP.dcmp (mnU s k) (mnU s k) = some .eq := by
  rcases Nat.eq_zero_or_pos s with e | e
  · subst e
    rw [mnU_zero hk hk2]
    decide +kernel
  · obtain ⟨E, t, h1, h2, h3, h4⟩ := mnU_form e hs2 hk hk2
    rw [h4]
    show FP.Core.order (FP.Core.decode FP.Core.b64 (nb E t).toNat) (FP.Core.decode FP.Core.b64 (nb E t).toNat) = _
    rw [nb_dec (by omega) (by omega) h3]
    show some (compare _ _) = _
    congr 1
    simp only [compare, compareOfLessAndEq]
    rw [if_neg (Int.lt_irrefl _), if_pos trivial]
theorem s_rawBits {s k : Nat} (hs2 : s < 2 ^ 31) (hk : 0 < k) (hk2 : k < 2 ^ 31) {post : Int64 → Unit → Prop} (h : post ((mnU s k).toInt64) ()) : wp_Jxe99ae_doubleToLongBits_ccdee (mnU s k) post := by
  unfold wp_Jxe99ae_doubleToLongBits_ccdee wp_Jxe99ae_isNaN_b9ae7
  rw [mnU_eq hs2 hk hk2]
  exact ⟨fun _ => ⟨fun z => absurd rfl z, fun _ => h⟩, fun z => absurd rfl z⟩
/-! means on both sides -/
theorem s_meanNow {n : Nat} (hn : n ≤ 8) {L : List (List Nat × Nat)} {fa li : Nat → Int32} (hR : Rp n rank L fa li) (hL : 0 < L.length) {post : UInt64 → Unit → Prop} (h : post (mnU (sumD L) L.length) ()) : wp_X3_meanNow (nI L.length) fa li post := by
  have hlen := Nat.le_trans hR.1.len (fac_le hn)
  have hsum := hR.sum hn
  unfold wp_X3_meanNow
  exact ⟨L.length + 1, l_mean hn hR (K := fun v_6 v_7 => vf_n64 (FP.ddiv (FP.i2d v_6) (FP.i2d (nI L.length))) ∧ post (FP.ddiv (FP.i2d v_6) (FP.i2d (nI L.length))) ()) (fun _ => ⟨mnU_num (by omega) hL (by omega), h⟩) (L.length + 1) 0 (by omega) (Nat.zero_le _)⟩
theorem s_meanM {n tu mask : Nat} {T : Nat → List Nat} {fr no te fa li : Nat → Int32} (hn : n ≤ 8) (hW : Tw n tu T) (hT : Fr n tu T fr) (hmask : mask < 2 ^ 31) {post : UInt64 → (Int32 × Int32 × (Nat → Int32) × (Nat → Int32) × (Nat → Int32) × (Nat → Int32)) → Prop} (h : ∀ wa no te fa li, post (mnU (sumD (fnd n tu T mask)) (fnd n tu T mask).length) (0, wa, no, te, fa, li)) : wp_X3_meanLength (nI n) (nI tu) (nI mask) fr no te fa li post := by
  unfold wp_X3_meanLength
  refine s_layFor hn hmask hT (fun no' te' fa' li' hR => ?_)
  exact s_meanNow hn hR (fnd_pos hW mask) (h _ no' te' fa' li')
theorem s_meanC {n tu mask rm : Nat} {T : Nat → List Nat} {en : Nat → Nat → Int32} {to kn : Int32} {le fo : Nat → Int32} (hn : n ≤ 8) (hr1 : fac n ≤ rm) (hr2 : rm ≤ 40320) (hT : Tw n tu T) (hmask : mask < 2 ^ (2 * tu)) (hE : En n tu T en) (hk : Kp n tu T to kn le fo) {post : UInt64 → (Int32 × Int32 × (Nat → Int32) × (Nat → Int32)) → Prop} (h : ∀ le fo, Rp n nu (fnd n tu T mask) le fo → post (mnU (sumD (fnd n tu T mask)) (fnd n tu T mask).length) (nI (fnd n tu T mask).length, nI mask, le, fo)) : wp_X2_meanLength (nI mask) (nI (fac n)) to kn le fo en rm post := by
  unfold wp_X2_meanLength
  refine s_solutions hn hr1 hr2 hmask hE hk (fun le' fo' hR => ?_)
  have hlen := Nat.le_trans hR.1.len (fac_le hn)
  have hsum := hR.sum hn
  have hL := fnd_pos hT mask
  refine b_le (b := 0) (by omega) (by omega) (fun z => by omega) (fun _ => ?_)
  refine ⟨(fnd n tu T mask).length + 1, l_sumOf hn hr1 hr2 hR (K := fun v_6 v_7 => vf_n64 (FP.ddiv (FP.l2d v_6) (FP.i2d (nI (fnd n tu T mask).length))) ∧ post (FP.ddiv (FP.l2d v_6) (FP.i2d (nI (fnd n tu T mask).length))) (nI (fnd n tu T mask).length, nI mask, le', fo')) (fun _ => ?_) ((fnd n tu T mask).length + 1) 0 (by omega) (Nat.zero_le _)⟩
  rw [l2d_i2d (by omega)]
  exact ⟨mnU_num (by omega) hL (by omega), h le' fo' hR⟩
