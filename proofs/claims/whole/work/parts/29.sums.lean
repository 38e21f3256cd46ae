/-! what is read off a search's list -/
def cntD (p : Int32) (L : List (List Nat × Nat)) : Nat := L.countP (fun q => decide (nI q.2 = p))
def sumD (L : List (List Nat × Nat)) : Nat := (L.map (·.2)).sum
theorem cntD_step {p : Int32} {L : List (List Nat × Nat)} {i : Nat} {q : List Nat × Nat} (h : L[i]? = some q) : cntD p (L.take (i + 1)) = cntD p (L.take i) + (if nI q.2 = p then 1 else 0) := by
  unfold cntD
  rw [List.take_add_one, h, List.countP_append]
  by_cases e : nI q.2 = p <;> simp [e]
theorem sumD_step {L : List (List Nat × Nat)} {i : Nat} {q : List Nat × Nat} (h : L[i]? = some q) : sumD (L.take (i + 1)) = sumD (L.take i) + q.2 := by
  unfold sumD
  rw [List.take_add_one, h, List.map_append, List.sum_append]
  simp
theorem sum_le {l : List Nat} {b : Nat} (h : ∀ x, x ∈ l → x ≤ b) : l.sum ≤ l.length * b := by
  induction l with
  | nil => simp
  | cons x l ih =>
    rw [List.sum_cons, List.length_cons, Nat.succ_mul]
    have h1 := h x (List.mem_cons_self ..)
    have h2 := ih (fun y hy => h y (List.mem_cons_of_mem _ hy))
    omega
theorem Rp.dle {n : Nat} {ν : List Nat → Nat} {L : List (List Nat × Nat)} {fa li : Nat → Int32} (h : Rp n ν L fa li) (hn : n ≤ 8) {q : List Nat × Nat} (hq : q ∈ L) : q.2 ≤ 40319 := by
  obtain ⟨i, hi, e⟩ := List.mem_iff_getElem.mp hq
  have := h.depth hn (q := q) (i := i) (by rw [List.getElem?_eq_getElem hi, e])
  omega
theorem Rp.sum {n : Nat} {ν : List Nat → Nat} {L : List (List Nat × Nat)} {fa li : Nat → Int32} (h : Rp n ν L fa li) (hn : n ≤ 8) : sumD L ≤ 40320 * 40319 := by
  have h1 : sumD L ≤ (L.map (·.2)).length * 40319 := sum_le (fun x hx => by
    obtain ⟨q, hq, rfl⟩ := List.mem_map.mp hx
    exact h.dle hn hq)
  rw [List.length_map] at h1
  have h2 := h.1.len
  have h3 := fac_le hn
  have h4 : L.length * 40319 ≤ 40320 * 40319 := Nat.mul_le_mul_right _ (by omega)
  exact Nat.le_trans h1 h4
/-- the arrays at a place of the list -/
theorem Rp.at' {n : Nat} {ν : List Nat → Nat} (hν : Nu n ν) {L : List (List Nat × Nat)} {fa li : Nat → Int32} (h : Rp n ν L fa li) {i : Nat} (hi : i < L.length) : ∃ q : List Nat × Nat, L[i]? = some q ∧ li i = nI (ν q.1) ∧ fa (ν q.1) = nI q.2 ∧ ν q.1 < fac n := by
  refine ⟨L[i], List.getElem?_eq_getElem hi, ?_⟩
  have h1 := h.2.1 i L[i] (List.getElem?_eq_getElem hi)
  exact ⟨h1.1, h1.2, hν.1 _ (h.1.1 _ (List.getElem_mem hi))⟩
theorem l_layer {n : Nat} (hn : n ≤ 8) {L : List (List Nat × Nat)} {fa li : Nat → Int32} (hR : Rp n rank L fa li) {p : Int32} {K : Int32 → Int32 → Prop} (hK : ∀ a, K (nI (cntD p L)) a) : ∀ N i, L.length - i < N → i ≤ L.length → lp_X3_layerNow_4 fa li (nI L.length) p K N (nI (cntD p (L.take i))) (nI i) := by
  have hl := hR.1.len
  have hf := fac_le hn
  intro N
  induction N with
  | zero => intro i h; omega
  | succ N ih =>
    intro i h1 hi
    rw [lp_X3_layerNow_4]
    refine b_le (by omega) (by omega) (fun h => ?_) (fun h => ?_)
    · have e : i = L.length := by omega
      subst e
      rw [List.take_length]
      exact hK _
    · obtain ⟨q, hq, h2, h3, h4⟩ := hR.at' (Nu.rank n) h
      have hs := cntD_step (p := p) hq
      rw [nI_c (n := i) (by omega), h2, nI_c (n := rank q.1) (by omega), h3]
      refine ⟨vp_in_nI (by omega) (by decide), vp_in_nI (by omega) (by decide), fun hne => ?_, fun he => ?_⟩
      · intro z hz
        rw [if_neg hne] at hs
        rw [hz, show nI i + 1 = nI (i + 1) from nI_add i 1, show nI (cntD p (L.take i)) + 0 = nI (cntD p (L.take i) + 0) from nI_add _ 0, ← hs]
        exact ih (i + 1) (by omega) (by omega)
      · intro z hz
        rw [if_pos he] at hs
        rw [hz, show nI i + 1 = nI (i + 1) from nI_add i 1, show nI (cntD p (L.take i)) + 1 = nI (cntD p (L.take i) + 1) from nI_add _ 1, ← hs]
        exact ih (i + 1) (by omega) (by omega)
theorem s_layerNow {n : Nat} (hn : n ≤ 8) {L : List (List Nat × Nat)} {fa li : Nat → Int32} (hR : Rp n rank L fa li) {p : Int32} {post : Int32 → Unit → Prop} (h : post (nI (cntD p L)) ()) : wp_X3_layerNow (nI L.length) fa li p post :=
  ⟨L.length + 1, l_layer hn hR (fun _ => h) (L.length + 1) 0 (by omega) (Nat.zero_le _)⟩
theorem l_countOf {n rm : Nat} (hn : n ≤ 8) (hr1 : fac n ≤ rm) (hr2 : rm ≤ 40320) {L : List (List Nat × Nat)} {le fo : Nat → Int32} (hR : Rp n nu L le fo) {p : Int32} {K : Int32 → Int32 → Prop} (hK : ∀ a, K (nI (cntD p L)) a) : ∀ N i, L.length - i < N → i ≤ L.length → lp_X1_countOfLength_4 fo le (nI L.length) rm p K N (nI (cntD p (L.take i))) (nI i) := by
  have hl := hR.1.len
  have hf := fac_le hn
  intro N
  induction N with
  | zero => intro i h; omega
  | succ N ih =>
    intro i h1 hi
    rw [lp_X1_countOfLength_4]
    refine b_le (by omega) (by omega) (fun h => ?_) (fun h => ?_)
    · have e : i = L.length := by omega
      subst e
      rw [List.take_length]
      exact hK _
    · obtain ⟨q, hq, h2, h3, h4⟩ := hR.at' (Nu.nu n) h
      have hs := cntD_step (p := p) hq
      rw [nI_c (n := i) (by omega), h2, nI_c (n := nu q.1) (by omega), h3]
      refine ⟨vp_in_nI (by omega) (by omega), vp_in_nI (by omega) (by omega), fun hne => ?_, fun he => ?_⟩
      · rw [if_neg hne] at hs
        rw [show nI i + 1 = nI (i + 1) from nI_add i 1, ← Nat.add_zero (cntD p (L.take i)), ← hs]
        exact ih (i + 1) (by omega) (by omega)
      · rw [if_pos he] at hs
        rw [show nI i + 1 = nI (i + 1) from nI_add i 1, show nI (cntD p (L.take i)) + 1 = nI (cntD p (L.take i) + 1) from nI_add _ 1, ← hs]
        exact ih (i + 1) (by omega) (by omega)
theorem s_countOf {n rm : Nat} (hn : n ≤ 8) (hr1 : fac n ≤ rm) (hr2 : rm ≤ 40320) {L : List (List Nat × Nat)} {le fo : Nat → Int32} (hR : Rp n nu L le fo) {p : Int32} {post : Int32 → Unit → Prop} (h : post (nI (cntD p L)) ()) : wp_X1_countOfLength (nI L.length) le fo rm p post :=
  ⟨L.length + 1, l_countOf hn hr1 hr2 hR (fun _ => h) (L.length + 1) 0 (by omega) (Nat.zero_le _)⟩
theorem l_mean {n : Nat} (hn : n ≤ 8) {L : List (List Nat × Nat)} {fa li : Nat → Int32} (hR : Rp n rank L fa li) {K : Int32 → Int32 → Prop} (hK : ∀ a, K (nI (sumD L)) a) : ∀ N i, L.length - i < N → i ≤ L.length → lp_X3_meanNow_4 fa li (nI L.length) K N (nI (sumD (L.take i))) (nI i) := by
  have hl := hR.1.len
  have hf := fac_le hn
  intro N
  induction N with
  | zero => intro i h; omega
  | succ N ih =>
    intro i h1 hi
    rw [lp_X3_meanNow_4]
    refine b_le (by omega) (by omega) (fun h => ?_) (fun h => ?_)
    · have e : i = L.length := by omega
      subst e
      rw [List.take_length]
      exact hK _
    · obtain ⟨q, hq, h2, h3, h4⟩ := hR.at' (Nu.rank n) h
      have hs := sumD_step hq
      rw [nI_c (n := i) (by omega), h2, nI_c (n := rank q.1) (by omega), h3]
      refine ⟨vp_in_nI (by omega) (by decide), vp_in_nI (by omega) (by decide), fun z hz => ?_⟩
      rw [hz, show nI i + 1 = nI (i + 1) from nI_add i 1, nI_add, ← hs]
      exact ih (i + 1) (by omega) (by omega)
theorem l_sumOf {n rm : Nat} (hn : n ≤ 8) (hr1 : fac n ≤ rm) (hr2 : rm ≤ 40320) {L : List (List Nat × Nat)} {le fo : Nat → Int32} (hR : Rp n nu L le fo) {K : Int64 → Int32 → Prop} (hK : ∀ a, K (lN (sumD L)) a) : ∀ N i, L.length - i < N → i ≤ L.length → lp_X1_sumOfLengths_4 fo le (nI L.length) rm K N (lN (sumD (L.take i))) (nI i) := by
  have hl := hR.1.len
  have hf := fac_le hn
  intro N
  induction N with
  | zero => intro i h; omega
  | succ N ih =>
    intro i h1 hi
    rw [lp_X1_sumOfLengths_4]
    refine b_le (by omega) (by omega) (fun h => ?_) (fun h => ?_)
    · have e : i = L.length := by omega
      subst e
      rw [List.take_length]
      exact hK _
    · obtain ⟨q, hq, h2, h3, h4⟩ := hR.at' (Nu.nu n) h
      have hs := sumD_step hq
      have hd := hR.depth hn hq
      rw [nI_c (n := i) (by omega), h2, nI_c (n := nu q.1) (by omega), h3]
      refine ⟨vp_in_nI (by omega) (by omega), vp_in_nI (by omega) (by omega), fun z hz => ?_⟩
      rw [hz, show nI i + 1 = nI (i + 1) from nI_add i 1, nI_l (by omega), lN_add, ← hs]
      exact ih (i + 1) (by omega) (by omega)
theorem l2d_i2d {s : Nat} (h : s < 2 ^ 31) : FP.l2d (lN s) = FP.i2d (nI s) := by
  unfold FP.l2d FP.i2d FP.Core.l2d FP.Core.i2d
  rw [lN_toInt h, nI_toInt h]
theorem s_greatest {n rm : Nat} (hn : n ≤ 8) (hr1 : fac n ≤ rm) (hr2 : rm ≤ 40320) {L : List (List Nat × Nat)} {le fo : Nat → Int32} (hR : Rp n nu L le fo) (hL : 0 < L.length) {post : Int32 → Unit → Prop} (h : ∀ q, L[L.length - 1]? = some q → post (nI q.2) ()) : wp_X1_greatestLength (nI L.length) le fo rm post := by
  have hl := hR.1.len
  have hf := fac_le hn
  obtain ⟨q, hq, h2, h3, h4⟩ := hR.at' (Nu.nu n) (i := L.length - 1) (by omega)
  unfold wp_X1_greatestLength
  refine b_le (b := 0) (by omega) (by omega) (fun z => by omega) (fun _ => ?_)
  rw [show nI L.length - 1 = nI (L.length - 1) from pk_sub (b := 1) (by omega), nI_c (n := L.length - 1) (by omega), h2, nI_c (n := nu q.1) (by omega), h3]
  exact ⟨vp_in_nI (by omega) (by omega), vp_in_nI (by omega) (by omega), h q hq⟩
