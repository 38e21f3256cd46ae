/-! how many places a move changes -/
def mvd (s : List Nat) (k : Nat) : Nat := (List.range k).countP (fun j => decide (s.getD j 0 ≠ j))
theorem mvd_succ (s : List Nat) (k : Nat) : mvd s (k + 1) = mvd s k + (if s.getD k 0 ≠ k then 1 else 0) := by
  unfold mvd
  rw [List.range_succ, List.countP_append, List.countP_singleton]
  by_cases h : s.getD k 0 ≠ k
  · rw [if_pos h, if_pos (decide_eq_true h)]
  · rw [if_neg h, if_neg (by rw [decide_eq_false h]; decide)]
theorem l_make49 {n m : Nat} {s : List Nat} (hn : n ≤ 8) (hm : m < 12) (hs : IsP n s) {so : Nat → Nat → Int32} (hso : At (so m) s) {K : Int32 → Int32 → Prop} (hK : ∀ a, K (nI (mvd s n)) a) : ∀ N k, n - k < N → k ≤ n → lp_X2_make_49 (nI n) so (nI m) K N (nI (mvd s k)) (nI k) := by
  intro N
  induction N with
  | zero => intro k h; omega
  | succ N ih =>
    intro k h1 h2
    rw [lp_X2_make_49]
    refine b_le (by omega) (by omega) (fun h => ?_) (fun h => ?_)
    · have e : k = n := by omega
      subst e; exact hK _
    · have hsk := hs.lt h
      have hst := mvd_succ s k
      rw [nI_c (n := k) (by omega), nI_c (n := m) (by omega), hso k (by rw [hs.len]; exact h), show nI k + 1 = nI (k + 1) from nI_add k 1]
      refine ⟨vp_in_nI (by omega) (by decide), vp_in_nI (by omega) (by decide), ?_⟩
      refine b_eq (by omega) (by omega) (fun e => ?_) (fun e => ?_)
      · rw [if_neg (fun z => z e)] at hst
        rw [← Nat.add_zero (mvd s k), ← hst]
        exact ih (k + 1) (by omega) (by omega)
      · rw [if_pos e] at hst
        rw [show nI (mvd s k) + 1 = nI (mvd s k + 1) from nI_add _ 1, ← hst]
        exact ih (k + 1) (by omega) (by omega)
theorem l_move17 {n : Nat} {s p : List Nat} (hn : n ≤ 8) (hs : IsP n s) (hp : IsP n p) {ro te : Nat → Int32} (hro : At ro p) (hte : At te (act s p)) {K : Int32 → Int32 → Prop} (hK : ∀ a, K (nI (mvd s n)) a) : ∀ N k, n - k < N → k ≤ n → lp_X3_doMove_17 (nI n) ro te K N (nI (mvd s k)) (nI k) := by
  intro N
  induction N with
  | zero => intro k h; omega
  | succ N ih =>
    intro k h1 h2
    rw [lp_X3_doMove_17]
    refine b_le (by omega) (by omega) (fun h => ?_) (fun h => ?_)
    · have e : k = n := by omega
      subst e; exact hK _
    · have hsk := hs.lt h
      have hst := mvd_succ s k
      have h3 := hp.lt hsk
      have h4 := hp.lt h
      rw [nI_c (n := k) (by omega), hte k (by rw [act_len, hs.len]; exact h), act_get (by rw [hs.len]; exact h), hro k (by rw [hp.len]; exact h), show nI k + 1 = nI (k + 1) from nI_add k 1]
      refine ⟨vp_in_nI (by omega) (by decide), vp_in_nI (by omega) (by decide), ?_⟩
      refine b_ne (by omega) (by omega) (fun e => ?_) (fun e => ?_)
      · have hne : s.getD k 0 ≠ k := fun z => e (by rw [z])
        rw [if_pos hne] at hst
        intro x hx
        rw [hx, show nI (mvd s k) + 1 = nI (mvd s k + 1) from nI_add _ 1, ← hst]
        exact ih (k + 1) (by omega) (by omega)
      · have he := hp.inj hsk h e
        rw [if_neg (fun z => z he)] at hst
        intro x hx
        rw [hx, show nI (mvd s k) + 0 = nI (mvd s k + 0) from nI_add _ 0, ← hst]
        exact ih (k + 1) (by omega) (by omega)
