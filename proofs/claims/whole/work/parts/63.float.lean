/-! the mean as a double: its bits -/
theorem f_tails : FP.Core.b64.tails = 4503599627370496 := by decide
theorem f_exps : FP.Core.b64.exps = 2048 := by decide
theorem f_qmin : FP.Core.b64.qmin = -1074 := by decide
theorem f_qmax : FP.Core.b64.qmax = 971 := by decide
theorem f_two : 2 ^ FP.Core.b64.p = 9007199254740992 := by decide
theorem f_p : (FP.Core.b64.p : Int) = 53 := by decide
/-- a normal number's bits -/
def nb (E t : Nat) : UInt64 := UInt64.ofNat (E * 4503599627370496 + t)
theorem nb_toNat {E t : Nat} (hE : E ≤ 2046) (ht : t < 4503599627370496) : (nb E t).toNat = E * 4503599627370496 + t := by
  unfold nb
  rw [UInt64.toNat_ofNat_of_lt']
  show _ < 18446744073709551616
  omega
theorem nb_dec {E t : Nat} (h1 : 1 ≤ E) (hE : E ≤ 2046) (ht : t < 4503599627370496) : FP.Core.decode FP.Core.b64 (nb E t).toNat = .fin false (4503599627370496 + t) ((E : Int) - 1075) := by
  rw [nb_toNat hE ht]
  unfold FP.Core.decode FP.Core.fieldE FP.Core.fieldT FP.Core.fieldS
  rw [f_tails, f_exps, f_qmin]
  have e1 : (E * 4503599627370496 + t) / 4503599627370496 = E := by omega
  have e2 : (E * 4503599627370496 + t) % 4503599627370496 = t := by omega
  rw [e1, e2]
  have e3 : E % 2048 = E := by omega
  have e4 : E / 2048 = 0 := by omega
  rw [e3, e4, if_neg (by omega), if_neg (by omega)]
  have e5 : (-1074 : Int) + ((E : Int) - 1) = (E : Int) - 1075 := by omega
  rw [e5]
  rfl
theorem nb_enc {E t : Nat} (h1 : 1 ≤ E) : FP.Core.encode FP.Core.b64 (.fin false (4503599627370496 + t) ((E : Int) - 1075)) = E * 4503599627370496 + t := by
  show (if _ then _ else _) = _
  rw [f_tails, f_qmin, if_neg (by omega)]
  unfold FP.Core.assemble
  rw [f_tails, f_exps]
  have e1 : ((E : Int) - 1075 - -1074).toNat + 1 = E := by omega
  have e2 : 4503599627370496 + t - 4503599627370496 = t := by omega
  rw [e1, e2]
  show (0 * 2048 + E) * 4503599627370496 + t = _
  omega
/-- the leading digit -/
theorem f_lead {A B a b : Nat} (hB : 0 < B) (h1 : B * 2 ^ a ≤ A * 2 ^ b) (h2 : A * 2 ^ b < B * 2 ^ (a + 1)) : FP.Core.leading A B = (a : Int) - (b : Int) := by
  have hA : A ≠ 0 := by
    intro e
    subst e
    have : 0 < B * 2 ^ a := Nat.mul_pos hB (Nat.two_pow_pos a)
    omega
  have a1 : 2 ^ A.log2 ≤ A := Nat.log2_self_le hA
  have a2 : A < 2 ^ (A.log2 + 1) := Nat.lt_log2_self
  have b1 : 2 ^ B.log2 ≤ B := Nat.log2_self_le (by omega)
  have b2 : B < 2 ^ (B.log2 + 1) := Nat.lt_log2_self
  unfold FP.Core.leading
  generalize A.log2 = n at a1 a2 ⊢
  generalize B.log2 = d at b1 b2 ⊢
  have c1 : d + a < n + 1 + b := by
    have x1 : 2 ^ d * 2 ^ a ≤ B * 2 ^ a := Nat.mul_le_mul_right _ b1
    have x2 : A * 2 ^ b < 2 ^ (n + 1) * 2 ^ b := Nat.mul_lt_mul_of_pos_right a2 (Nat.two_pow_pos b)
    rw [← Nat.pow_add] at x1 x2
    exact (Nat.pow_lt_pow_iff_right (by decide : 1 < 2)).mp (Nat.lt_of_le_of_lt x1 (Nat.lt_of_le_of_lt h1 x2))
  have c2 : n + b < d + 1 + (a + 1) := by
    have x1 : 2 ^ n * 2 ^ b ≤ A * 2 ^ b := Nat.mul_le_mul_right _ a1
    have x2 : B * 2 ^ (a + 1) < 2 ^ (d + 1) * 2 ^ (a + 1) := Nat.mul_lt_mul_of_pos_right b2 (Nat.two_pow_pos _)
    rw [← Nat.pow_add] at x1 x2
    exact (Nat.pow_lt_pow_iff_right (by decide : 1 < 2)).mp (Nat.lt_of_le_of_lt x1 (Nat.lt_trans h2 x2))
  show (if B * 2 ^ ((n : Int) - (d : Int)).toNat ≤ A * 2 ^ (-((n : Int) - (d : Int))).toNat then (n : Int) - (d : Int) else (n : Int) - (d : Int) - 1) = _
  rcases (show (n : Int) - (d : Int) = (a : Int) - (b : Int) ∨ (n : Int) - (d : Int) = (a : Int) - (b : Int) + 1 by omega) with e | e
  · rw [if_pos, e]
    rw [e]
    have x1 : a = ((a : Int) - (b : Int)).toNat + min a b := by omega
    have x2 : b = (-((a : Int) - (b : Int))).toNat + min a b := by omega
    generalize ((a : Int) - (b : Int)).toNat = u at x1 ⊢
    generalize (-((a : Int) - (b : Int))).toNat = v at x2 ⊢
    generalize min a b = m at x1 x2
    subst x1 x2
    rw [Nat.pow_add, Nat.pow_add, ← Nat.mul_assoc, ← Nat.mul_assoc] at h1
    exact Nat.le_of_mul_le_mul_right h1 (Nat.two_pow_pos m)
  · rw [if_neg, e]
    · omega
    · rw [e]
      intro h3
      have x1 : a + 1 = ((a : Int) - (b : Int) + 1).toNat + min (a + 1) b := by omega
      have x2 : b = (-((a : Int) - (b : Int) + 1)).toNat + min (a + 1) b := by omega
      generalize ((a : Int) - (b : Int) + 1).toNat = u at x1 h3
      generalize (-((a : Int) - (b : Int) + 1)).toNat = v at x2 h3
      generalize min (a + 1) b = m at x1 x2
      rw [x1, x2, Nat.pow_add, Nat.pow_add, ← Nat.mul_assoc, ← Nat.mul_assoc] at h2
      have := Nat.mul_le_mul_right (2 ^ m) h3
      omega
theorem f_near {M D : Nat} (hD : 0 < D) : FP.Core.nearest (M * D) D = M := by
  unfold FP.Core.nearest
  rw [Nat.mul_mod_left, if_pos (by omega), Nat.mul_div_cancel _ hD]
theorem f_near1 {M D : Nat} (hD : 0 < D) : M * D / D = M := Nat.mul_div_cancel _ hD
/-- a ratio that is a number of the format is rounded to itself -/
theorem f_rr {s : Bool} {A B c x : Nat} {e q : Int} (hB : 0 < B) (hc1 : 4503599627370496 ≤ c) (hc2 : c < 9007199254740992) (hq1 : -1074 ≤ q) (hq2 : q ≤ 971) (h : (e - q = x ∧ A * 2 ^ x = c * B) ∨ (q - e = x ∧ A = c * B * 2 ^ x)) : FP.Core.roundRatio FP.Core.b64 s A B e = .fin s c q := by
  have hcB : 4503599627370496 * B ≤ c * B := Nat.mul_le_mul_right _ hc1
  have hcB2 : c * B < 9007199254740992 * B := Nat.mul_lt_mul_of_pos_right hc2 hB
  have hp52 : 2 ^ 52 = 4503599627370496 := by decide
  have hp53 : 2 ^ 53 = 9007199254740992 := by decide
  have hA : A ≠ 0 := by
    intro e
    subst e
    rcases h with ⟨_, h⟩ | ⟨_, h⟩
    · rw [Nat.zero_mul] at h
      omega
    · have : 0 < c * B * 2 ^ x := Nat.mul_pos (by omega) (Nat.two_pow_pos x)
      omega
  unfold FP.Core.roundRatio
  rw [if_neg hA]
  have hq : FP.Core.quantum FP.Core.b64 A B e = q := by
    unfold FP.Core.quantum
    rw [f_qmin, f_p]
    rcases h with ⟨h1, h2⟩ | ⟨h1, h2⟩
    · rw [f_lead (a := 52) (b := x) hB (by rw [h2, hp52, Nat.mul_comm B]; exact hcB) (by rw [h2, hp53, Nat.mul_comm B]; exact hcB2)]
      omega
    · rw [f_lead (a := 52 + x) (b := 0) hB (by rw [h2, Nat.pow_zero, Nat.mul_one, Nat.pow_add, ← Nat.mul_assoc, hp52, Nat.mul_comm B]; exact Nat.mul_le_mul_right _ hcB) (by rw [h2, Nat.pow_zero, Nat.mul_one, show 52 + x + 1 = 53 + x by omega, Nat.pow_add, ← Nat.mul_assoc, hp53, Nat.mul_comm B]; exact Nat.mul_lt_mul_of_pos_right hcB2 (Nat.two_pow_pos x))]
      omega
  rw [hq]
  unfold FP.Core.roundAt FP.Core.unitsNum FP.Core.unitsDen
  have hn : FP.Core.nearest (A * 2 ^ (e - q).toNat) (B * 2 ^ (q - e).toNat) = c := by
    rcases h with ⟨h1, h2⟩ | ⟨h1, h2⟩
    · rw [show (e - q).toNat = x by omega, h2]
      by_cases x0 : x = 0
      · rw [show (q - e).toNat = 0 by omega, Nat.pow_zero, Nat.mul_one]
        exact f_near hB
      · rw [show (q - e).toNat = 0 by omega, Nat.pow_zero, Nat.mul_one]
        exact f_near hB
    · rw [show (q - e).toNat = x by omega, h2, show (e - q).toNat = 0 by omega, Nat.pow_zero, Nat.mul_one, Nat.mul_assoc]
      exact f_near (Nat.mul_pos hB (Nat.two_pow_pos x))
  rw [hn]
  unfold FP.Core.settle FP.Core.bound
  rw [f_two, f_qmax, if_pos hc2, if_pos hq2]
theorem nb_of {E t : Nat} {d : FP.Core.Datum} (h1 : 1 ≤ E) (h : d = .fin false (4503599627370496 + t) ((E : Int) - 1075)) : UInt64.ofNat (FP.Core.encode FP.Core.b64 d) = nb E t := by
  rw [h, nb_enc h1]; rfl
theorem f_dec2 : FP.Core.decode FP.Core.b64 (4611686018427387904 : UInt64).toNat = .fin false 4503599627370496 (-51) := by decide +kernel
theorem f_dec1 : FP.Core.decode FP.Core.b64 (FP.dconst1 : UInt64).toNat = .fin false 4503599627370496 (-52) := by decide +kernel
theorem f_dec52 : FP.Core.decode FP.Core.b64 (4841369599423283200 : UInt64).toNat = .fin false 4503599627370496 0 := by decide +kernel
theorem f_quot {c d : Nat} {q r : Int} (hd : d ≠ 0) : FP.Core.quotient FP.Core.b64 (.fin false c q) (.fin false d r) = FP.Core.roundRatio FP.Core.b64 (false != false) c d (q - r) := if_neg hd
theorem f_div2 {E t : Nat} (h1 : 2 ≤ E) (hE : E ≤ 2046) (ht : t < 4503599627370496) : FP.ddiv (nb E t) (4611686018427387904 : UInt64) = nb (E - 1) t := by
  show UInt64.ofNat (FP.Core.div FP.Core.b64 (nb E t).toNat (4611686018427387904 : UInt64).toNat) = _
  unfold FP.Core.div
  rw [nb_dec (by omega) hE ht, f_dec2]
  refine nb_of (by omega) ?_
  rw [f_quot (by decide)]
  refine f_rr (x := 52) (by decide) (by omega) (by omega) (by omega) (by omega) (Or.inl ⟨by omega, ?_⟩)
  rw [show 2 ^ 52 = 4503599627370496 by decide]
theorem f_mul2 {E t : Nat} (h1 : 1 ≤ E) (hE : E + 1 ≤ 2046) (ht : t < 4503599627370496) : FP.dmul (nb E t) (4611686018427387904 : UInt64) = nb (E + 1) t := by
  show UInt64.ofNat (FP.Core.mul FP.Core.b64 (nb E t).toNat (4611686018427387904 : UInt64).toNat) = _
  unfold FP.Core.mul
  rw [nb_dec h1 (by omega) ht, f_dec2]
  refine nb_of (by omega) ?_
  show FP.Core.roundRatio FP.Core.b64 (false != false) ((4503599627370496 + t) * 4503599627370496) 1 ((E : Int) - 1075 + -51) = _
  refine f_rr (x := 52) (by decide) (by omega) (by omega) (by omega) (by omega) (Or.inr ⟨by omega, ?_⟩)
  rw [show 2 ^ 52 = 4503599627370496 by decide, Nat.mul_one]
/-- against a power of two -/
theorem f_ord {c : Nat} {q r : Int} (hc1 : 4503599627370496 ≤ c) (hc2 : c < 9007199254740992) : (q < r → FP.Core.order (.fin false c q) (.fin false 4503599627370496 r) = some .lt) ∧ (r ≤ q → FP.Core.order (.fin false c q) (.fin false 4503599627370496 r) ≠ some .lt ∧ FP.Core.order (.fin false c q) (.fin false 4503599627370496 r) ≠ none) := by
  constructor
  · intro h
    show some (compare (FP.Core.signed false (FP.Core.inUnits c q (min q r))) (FP.Core.signed false (FP.Core.inUnits 4503599627370496 r (min q r)))) = some .lt
    unfold FP.Core.signed FP.Core.inUnits
    rw [if_neg (by decide), if_neg (by decide), show min q r = q by omega, Int.sub_self]
    show some (compare ((c * 2 ^ 0 : Nat) : Int) ((4503599627370496 * 2 ^ (r - q).toNat : Nat) : Int)) = some .lt
    obtain ⟨k, hk⟩ : ∃ k, (r - q).toNat = k + 1 := ⟨(r - q).toNat - 1, by omega⟩
    rw [hk]
    have h2 : 1 ≤ 2 ^ k := Nat.two_pow_pos k
    have h3 : 4503599627370496 * 2 ^ (k + 1) = 9007199254740992 * 2 ^ k := by rw [Nat.pow_succ]; omega
    have h4 : 9007199254740992 * 1 ≤ 9007199254740992 * 2 ^ k := Nat.mul_le_mul_left _ h2
    congr 1
    rw [h3, Nat.pow_zero, Nat.mul_one]
    simp only [compare, compareOfLessAndEq]
    rw [if_pos (by omega)]
  · intro h
    have e : FP.Core.order (.fin false c q) (.fin false 4503599627370496 r) = some (compare ((c * 2 ^ (q - r).toNat : Nat) : Int) ((4503599627370496 * 2 ^ (r - r).toNat : Nat) : Int)) := by
      show some (compare (FP.Core.signed false (FP.Core.inUnits c q (min q r))) (FP.Core.signed false (FP.Core.inUnits 4503599627370496 r (min q r)))) = _
      unfold FP.Core.signed FP.Core.inUnits
      rw [if_neg (by decide), if_neg (by decide), show min q r = r by omega]
    rw [e]
    refine ⟨fun z => ?_, fun z => by cases z⟩
    have z := Option.some.inj z
    have h2 : 1 ≤ 2 ^ (q - r).toNat := Nat.two_pow_pos _
    have h4 : c * 1 ≤ c * 2 ^ (q - r).toNat := Nat.mul_le_mul_left _ h2
    rw [Int.sub_self] at z
    simp only [compare, compareOfLessAndEq] at z
    rw [if_neg (by
      show ¬ ((c * 2 ^ (q - r).toNat : Nat) : Int) < ((4503599627370496 * 2 ^ 0 : Nat) : Int)
      omega)] at z
    split at z <;> cases z
theorem f_cmp2 {E t : Nat} (h1 : 1 ≤ E) (hE : E ≤ 2046) (ht : t < 4503599627370496) {A B : Prop} (ha : E < 1024 → A) (hb : 1024 ≤ E → B) : (Op.cmpValue (FP.dcmp (nb E t) (4611686018427387904 : UInt64)) .l < 0 → A) ∧ (¬ Op.cmpValue (FP.dcmp (nb E t) (4611686018427387904 : UInt64)) .l < 0 → B) := by
  have e : FP.dcmp (nb E t) (4611686018427387904 : UInt64) = FP.Core.order (.fin false (4503599627370496 + t) ((E : Int) - 1075)) (.fin false 4503599627370496 (-51)) := by
    show FP.Core.order (FP.Core.decode FP.Core.b64 (nb E t).toNat) (FP.Core.decode FP.Core.b64 (4611686018427387904 : UInt64).toNat) = _
    rw [nb_dec h1 hE ht, f_dec2]
  rw [e]
  obtain ⟨o1, o2⟩ := f_ord (c := 4503599627370496 + t) (q := (E : Int) - 1075) (r := -51) (by omega) (by omega)
  rcases Nat.lt_or_ge E 1024 with h | h
  · rw [o1 (by omega)]
    exact ⟨fun _ => ha h, fun z => absurd (by decide) z⟩
  · obtain ⟨p1, p2⟩ := o2 (by omega)
    refine ⟨fun z => ?_, fun _ => hb h⟩
    exfalso
    cases ho : FP.Core.order (.fin false (4503599627370496 + t) ((E : Int) - 1075)) (.fin false 4503599627370496 (-51)) with
    | none => exact p2 ho
    | some o =>
      rw [ho] at z
      cases o with
      | lt => exact p1 ho
      | eq => exact absurd z (by decide)
      | gt => exact absurd z (by decide)
theorem f_cmp1 {E t : Nat} (h1 : 1 ≤ E) (hE : E ≤ 2046) (ht : t < 4503599627370496) {A B : Prop} (ha : 1023 ≤ E → A) (hb : E < 1023 → B) : (0 ≤ Op.cmpValue (FP.dcmp (nb E t) FP.dconst1) .g → A) ∧ (¬ 0 ≤ Op.cmpValue (FP.dcmp (nb E t) FP.dconst1) .g → B) := by
  have e : FP.dcmp (nb E t) FP.dconst1 = FP.Core.order (.fin false (4503599627370496 + t) ((E : Int) - 1075)) (.fin false 4503599627370496 (-52)) := by
    show FP.Core.order (FP.Core.decode FP.Core.b64 (nb E t).toNat) (FP.Core.decode FP.Core.b64 (FP.dconst1 : UInt64).toNat) = _
    rw [nb_dec h1 hE ht, f_dec1]
  rw [e]
  obtain ⟨o1, o2⟩ := f_ord (c := 4503599627370496 + t) (q := (E : Int) - 1075) (r := -52) (by omega) (by omega)
  rcases Nat.lt_or_ge E 1023 with h | h
  · rw [o1 (by omega)]
    exact ⟨fun z => absurd z (by decide), fun _ => hb h⟩
  · obtain ⟨p1, p2⟩ := o2 (by omega)
    refine ⟨fun _ => ha h, fun z => ?_⟩
    exfalso
    cases ho : FP.Core.order (.fin false (4503599627370496 + t) ((E : Int) - 1075)) (.fin false 4503599627370496 (-52)) with
    | none => exact p2 ho
    | some o =>
      rw [ho] at z
      cases o with
      | lt => exact p1 ho
      | eq => exact absurd (by decide) z
      | gt => exact absurd (by decide) z
theorem f_num {E t : Nat} (hE : E ≤ 2046) (ht : t < 4503599627370496) : vf_n64 (nb E t) := by
  unfold vf_n64
  rw [UInt64.le_iff_toNat_le]
  have h := nb_toNat hE ht
  rw [UInt64.toNat_and, h]
  show (E * 4503599627370496 + t) &&& 9223372036854775807 ≤ 9218868437227405312
  have : (9223372036854775807 : Nat) = 2 ^ 63 - 1 := by decide
  rw [this, Nat.and_two_pow_sub_one_eq_mod, Nat.mod_eq_of_lt (by omega)]
  omega
