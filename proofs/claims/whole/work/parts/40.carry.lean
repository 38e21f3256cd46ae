/-! a move is made: the class -/
theorem l_carry2 {n : Nat} {p : List Nat} (hn : n ≤ 8) (hp : p.length = n) {f : Nat → Int32} (hf : At f p) {K : Int32 → (Nat → Int32) → Prop} (hK : ∀ a g, At g p → K a g) : ∀ N k g, n - k < N → k ≤ n → (∀ j, j < k → g j = nI (p.getD j 0)) → lp_X2_carryOut_2 f (nI n) K N (nI k) g := by
  intro N
  induction N with
  | zero => intro k g h; omega
  | succ N ih =>
    intro k g h1 h2 h3
    rw [lp_X2_carryOut_2]
    refine b_le (by omega) (by omega) (fun h => ?_) (fun h => ?_)
    · exact hK _ g (fun j hj => h3 j (by omega))
    · rw [nI_c (n := k) (by omega), hf k (by omega), show nI k + 1 = nI (k + 1) from nI_add k 1]
      refine ⟨vp_in_nI (by omega) (by decide), vp_in_nI (by omega) (by decide), ih (k + 1) _ (by omega) (by omega) (fun j hj => ?_)⟩
      by_cases e : j = k
      · subst e; exact if_pos rfl
      · rw [show ∀ v, upd g k v j = g j from fun v => if_neg e]; exact h3 j (by omega)
theorem l_carry27 {n m : Nat} {s p : List Nat} (hn : n ≤ 8) (hm : m < 12) (hs : IsP n s) (hp : IsP n p) {sc : Nat → Int32} (hsc : At sc p) {so : Nat → Nat → Int32} (hso : At (so m) s) {K : Int32 → (Nat → Int32) → Prop} (hK : ∀ a g, At g (act s p) → K a g) : ∀ N k g, n - k < N → k ≤ n → (∀ j, j < k → g j = nI ((act s p).getD j 0)) → lp_X2_carryOut_27 (nI n) sc so (nI m) K N (nI k) g := by
  intro N
  induction N with
  | zero => intro k g h; omega
  | succ N ih =>
    intro k g h1 h2 h3
    rw [lp_X2_carryOut_27]
    refine b_le (by omega) (by omega) (fun h => ?_) (fun h => ?_)
    · exact hK _ g (fun j hj => h3 j (by rw [act_len, hs.len] at hj; omega))
    · have hsk := hs.lt h
      rw [nI_c (n := k) (by omega), nI_c (n := m) (by omega), hso k (by rw [hs.len]; exact h), nI_c (n := s.getD k 0) (by omega), hsc _ (by rw [hp.len]; exact hsk), show nI k + 1 = nI (k + 1) from nI_add k 1]
      refine ⟨vp_in_nI (by omega) (by decide), vp_in_nI (by omega) (by decide), vp_in_nI (by omega) (by decide), vp_in_nI (by omega) (by decide), ih (k + 1) _ (by omega) (by omega) (fun j hj => ?_)⟩
      by_cases e : j = k
      · subst e
        rw [act_get (by rw [hs.len]; exact h)]; exact if_pos rfl
      · rw [show ∀ v, upd g k v j = g j from fun v => if_neg e]; exact h3 j (by omega)
theorem s_carryOut {n m : Nat} {s p : List Nat} (hn : n ≤ 8) (hm : m < 12) (hs : IsP n s) (hp : IsP n p) {sc ti : Nat → Int32} (hti : At ti p) {so : Nat → Nat → Int32} (hso : At (so m) s) {post : ((Nat → Int32) × (Nat → Int32)) → Prop} (h : ∀ sc' ti', At sc' p → At ti' (act s p) → post (sc', ti')) : wp_X2_carryOut (nI n) sc ti so (nI m) post := by
  unfold wp_X2_carryOut
  refine ⟨n + 1, l_carry2 hn hp.len hti (fun _ sc' hsc => ?_) (n + 1) 0 sc (by omega) (Nat.zero_le n) (fun j hj => by omega)⟩
  exact ⟨n + 1, l_carry27 hn hm hs hp hsc hso (fun _ ti' ht => h sc' ti' hsc ht) (n + 1) 0 ti (by omega) (Nat.zero_le n) (fun j hj => by omega)⟩
