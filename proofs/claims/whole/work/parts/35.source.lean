/-! the class lays a turn's sources -/
def So (tu : Nat) (s : Nat → Nat) (j : Nat) (so0 so : Nat → Nat → Int32) : Prop :=
  (∀ r, r ≠ 2 * tu → r ≠ 2 * tu + 1 → so r = so0 r) ∧ ∀ i, i < j → so (2 * tu) i = nI (s i) ∧ so (2 * tu + 1) (s i) = nI i
theorem s_setSource {tu j y : Nat} {s : Nat → Nat} {so0 so : Nat → Nat → Int32} (htu : tu < 6) (hj : j < 8) (hy : y < 8) (hs : s j = y) (hinj : ∀ i, i < j → s i ≠ y) (h : So tu s j so0 so) {post : (Nat → Nat → Int32) → Prop} (hp : ∀ so', So tu s (j + 1) so0 so' → post so') : wp_X2_setSource (nI tu) so (nI j) (nI y) post := by
  have e1 : (2 : Int32) * nI tu = nI (2 * tu) := pk_mul 2 tu
  have e2 : nI (2 * tu) + 1 = nI (2 * tu + 1) := nI_add _ 1
  have hne : 2 * tu ≠ 2 * tu + 1 := by omega
  unfold wp_X2_setSource
  rw [e1, e2, nI_c (n := 2 * tu) (by omega), nI_c (n := 2 * tu + 1) (by omega), nI_c (n := j) (by omega), nI_c (n := y) (by omega)]
  refine ⟨vp_in_nI (by omega) (by decide), vp_in_nI (by omega) (by decide), vp_in_nI (by omega) (by decide), vp_in_nI (by omega) (by decide), ?_⟩
  refine hp _ ⟨fun r h1 h2 => ?_, fun i hi => ?_⟩
  · rw [rowsU_ne _ _ h2, rowsU_ne _ _ h1]; exact h.1 r h1 h2
  · rw [rowsU_ne _ _ hne, rowsU_same, rowsU_same, rowsU_ne _ _ (Ne.symm hne)]
    by_cases e : i = j
    · subst e
      rw [hs]
      exact ⟨if_pos rfl, if_pos rfl⟩
    · have h3 := h.2 i (by omega)
      have h4 := hinj i (by omega)
      exact ⟨by rw [← h3.1]; exact if_neg e, by rw [← h3.2]; exact if_neg h4⟩
theorem s_byKind {kind a b j : Nat} (hk : kind ≤ 2) (hb : b < 8) (hab : a < b) (h1 : a ≤ j) (h2 : j ≤ b) {post : Int32 → Unit → Prop} (h : post (nI (srcK kind a b j)) ()) : wp_X2_sourceByKind (nI kind) (nI a) (nI b) (nI j) post := by
  have hs : srcK kind a b j = if kind = 0 then a + b - j else if kind = 1 then (if j = a then b else j - 1) else (if j = a then b else if j = b then a else j) := if_neg (by omega)
  rw [hs] at h
  unfold wp_X2_sourceByKind
  refine b_ne (a := kind) (b := 0) (by omega) (by omega) (fun k0 => ?_) (fun k0 => ?_)
  · rw [if_neg k0] at h
    refine b_ne (a := kind) (b := 1) (by omega) (by omega) (fun k1 => ?_) (fun k1 => ?_)
    · rw [if_neg k1] at h
      refine b_ne (by omega) (by omega) (fun ja => ?_) (fun ja => ?_)
      · rw [if_neg ja] at h
        refine b_ne (by omega) (by omega) (fun jb => ?_) (fun jb => ?_)
        · rw [if_neg jb] at h; exact h
        · rw [if_pos jb] at h; exact h
      · rw [if_pos ja] at h; exact h
    · rw [if_pos k1] at h
      refine b_ne (by omega) (by omega) (fun ja => ?_) (fun ja => ?_)
      · rw [if_neg ja] at h
        rw [show nI j - 1 = nI (j - 1) from pk_sub (b := 1) (by omega)]; exact h
      · rw [if_pos ja] at h; exact h
  · rw [if_pos k0] at h
    rw [nI_add, pk_sub (by omega)]; exact h
theorem l_add72 {n tu kind a b : Nat} (hn : n ≤ 8) (htu : tu < 6) (hk : kind ≤ 2) (hab : a < b) (hb : b < n) {so0 : Nat → Nat → Int32} {K : Int32 → (Nat → Nat → Int32) → Prop} (hK : ∀ x so, So tu (srcK kind a b) n so0 so → K x so) : ∀ N j so, n - j < N → j ≤ n → So tu (srcK kind a b) j so0 so → lp_X2_addTurn_72 (nI n) (nI tu) (nI kind) (nI a) (nI b) K N (nI j) so := by
  intro N
  induction N with
  | zero => intro j so h; omega
  | succ N ih =>
    intro j so h1 h2 h3
    rw [lp_X2_addTurn_72]
    refine b_le (by omega) (by omega) (fun h => ?_) (fun h => ?_)
    · have e : j = n := by omega
      subst e
      exact hK _ so h3
    · have hgo : ∀ so', So tu (srcK kind a b) (j + 1) so0 so' → lp_X2_addTurn_72 (nI n) (nI tu) (nI kind) (nI a) (nI b) K N (nI j + 1) so' := by
        intro so' hso
        rw [show nI j + 1 = nI (j + 1) from nI_add j 1]
        exact ih (j + 1) so' (by omega) (by omega) hso
      have hinj : ∀ y, srcK kind a b j = y → ∀ i, i < j → srcK kind a b i ≠ y := fun y hy i hi e => by
        have := srcK_inj (kind := kind) hab (e.trans hy.symm)
        omega
      have hlt : srcK kind a b j < n := srcK_lt hab hb h
      have hout : (j < a ∨ b < j) → srcK kind a b j = j := fun z => if_pos z
      refine b_lt (by omega) (by omega) (fun ja => ?_) (fun ja => ?_)
      · exact s_setSource htu (by omega) (by omega) (hout (Or.inl ja)) (hinj _ (hout (Or.inl ja))) h3 hgo
      · refine b_le (by omega) (by omega) (fun jb => ?_) (fun jb => ?_)
        · refine s_byKind hk (by omega) hab ja jb ?_
          exact s_setSource htu (by omega) (by omega) rfl (hinj _ rfl) h3 hgo
        · exact s_setSource htu (by omega) (by omega) (hout (Or.inr jb)) (hinj _ (hout (Or.inr jb))) h3 hgo
/-- the two rows, as lists -/
theorem So.rows {n tu kind a b : Nat} (hab : a < b) (hb : b < n) {so0 so : Nat → Nat → Int32} (h : So tu (srcK kind a b) n so0 so) : At (so (2 * tu)) (turn n kind a b) ∧ At (so (2 * tu + 1)) (inv (turn n kind a b)) := by
  have hP := turn_P (n := n) (kind := kind) hab hb
  refine ⟨fun j hj => ?_, fun t ht => ?_⟩
  · rw [turn_len] at hj
    rw [turn_get hj]; exact (h.2 j hj).1
  · rw [inv_len, turn_len] at ht
    have h1 := hP.invP.lt ht
    have h2 := (h.2 _ h1).2
    have h3 := hP.at_inv ht
    rw [turn_get h1] at h3
    rw [h3] at h2
    exact h2
