/-! a whole search -/
theorem bf_step {e : Nat → List Nat → List Nat} {ms : List Nat} {L0 : List (List Nat × Nat)} {k : Nat} {q : List Nat × Nat} (h : (bf e ms L0 k)[k]? = some q) : bf e ms L0 (k + 1) = exps e q.1 q.2 ms (bf e ms L0 k) := by
  rw [bf, h]
theorem bf_stop {e : Nat → List Nat → List Nat} {ms : List Nat} {L0 : List (List Nat × Nat)} {k : Nat} (h : (bf e ms L0 k).length ≤ k) (j : Nat) : bf e ms L0 (k + j) = bf e ms L0 k := by
  induction j with
  | zero => rfl
  | succ j ih =>
    rw [← Nat.add_assoc, bf, ih, List.getElem?_eq_none (by omega)]
theorem GL.put {n : Nat} {L : List (List Nat × Nat)} (h : GL n L) {y : List Nat} (hy : IsP n y) (hn : y ∉ L.map (·.1)) {d : Nat} (hd : d ≤ L.length) : GL n (L ++ [(y, d)]) := by
  refine ⟨fun q hq => ?_, ?_, fun i q hq => ?_⟩
  · rcases List.mem_append.mp hq with a | a
    · exact h.1 q a
    · rw [List.mem_singleton] at a; subst a; exact hy
  · rw [List.map_append, List.nodup_append]
    refine ⟨h.2.1, by simp, fun a ha b hb => ?_⟩
    simp at hb
    subst hb
    intro e; subst e; exact hn ha
  · by_cases q' : i < L.length
    · rw [List.getElem?_append_left q'] at hq
      exact h.2.2 i q hq
    · rw [List.getElem?_append_right (by omega)] at hq
      have hz : i - L.length < 1 := (List.getElem?_eq_some_iff.mp hq).1
      have h0 : i - L.length = 0 := by omega
      rw [h0] at hq
      cases hq
      show d ≤ i
      omega
theorem Rp.put {n : Nat} {ν : List Nat → Nat} (hν : Nu n ν) {L : List (List Nat × Nat)} {fa li : Nat → Int32} (h : Rp n ν L fa li) {y : List Nat} (hy : IsP n y) (hyL : y ∉ L.map (·.1)) {d : Nat} (hd : d ≤ L.length) : Rp n ν (L ++ [(y, d)]) (upd fa (ν y) (nI d)) (upd li L.length (nI (ν y))) := by
  refine ⟨h.1.put hy hyL hd, fun i q hq => ?_, fun z hz hzL => ?_⟩
  · by_cases hi : i < L.length
    · rw [List.getElem?_append_left hi] at hq
      have h1 := h.2.1 i q hq
      have hne : ν q.1 ≠ ν y := fun e => hyL (by
        have := hν.2 _ _ (h.1.1 q (List.mem_of_getElem? hq)) hy e
        rw [← this]
        exact List.mem_map.mpr ⟨q, List.mem_of_getElem? hq, rfl⟩)
      exact ⟨by rw [show upd li L.length (nI (ν y)) i = li i from if_neg (by omega)]; exact h1.1, by rw [show upd fa (ν y) (nI d) (ν q.1) = fa (ν q.1) from if_neg hne]; exact h1.2⟩
    · rw [List.getElem?_append_right (by omega)] at hq
      have hz : i - L.length < 1 := (List.getElem?_eq_some_iff.mp hq).1
      have h0 : i = L.length := by omega
      subst h0
      rw [Nat.sub_self] at hq
      cases hq
      exact ⟨if_pos rfl, if_pos rfl⟩
  · rw [List.map_append, List.mem_append, not_or] at hzL
    have hne : ν z ≠ ν y := fun e => hzL.2 (by rw [hν.2 _ _ hz hy e]; simp)
    rw [show upd fa (ν y) (nI d) (ν z) = fa (ν z) from if_neg hne]
    exact h.2.2 z hz hzL.1
/-- the search's step: what lies one move before -/
def bst (T : Nat → List Nat) : Nat → List Nat → List Nat := fun m p => act (T (bk m)) p
/-- all that a search from these finds -/
def whl (n : Nat) (e : Nat → List Nat → List Nat) (ms : List Nat) (L0 : List (List Nat × Nat)) : List (List Nat × Nat) := bf e ms L0 (fac n)
theorem l_spread2 {n tu mask : Nat} {T : Nat → List Nat} {fr : Nat → Int32} {L0 : List (List Nat × Nat)} (hn : n ≤ 8) (hmask : mask < 2 ^ 31) (hT : Fr n tu T fr) {K : Int32 → Int32 → (Nat → Int32) → (Nat → Int32) → (Nat → Int32) → (Nat → Int32) → Prop} (hK : ∀ a no te fa li, Rp n rank (whl n (bst T) (mvs mask (2 * tu)) L0) fa li → K a (nI (whl n (bst T) (mvs mask (2 * tu)) L0).length) no te fa li) : ∀ N i no te fa li, fac n - i < N → i ≤ (bf (bst T) (mvs mask (2 * tu)) L0 i).length → Rp n rank (bf (bst T) (mvs mask (2 * tu)) L0 i) fa li → lp_X3_spread_2 fr (nI n) (nI tu) (nI mask) K N (nI i) (nI (bf (bst T) (mvs mask (2 * tu)) L0 i).length) no te fa li := by
  intro N
  induction N with
  | zero => intro i no te fa li h; omega
  | succ N ih =>
    intro i no te fa li h1 hi hR
    have hlen := Nat.le_trans hR.1.len (fac_le hn)
    have hlf := hR.1.len
    rw [lp_X3_spread_2]
    refine b_le (by omega) (by omega) (fun h => ?_) (fun h => ?_)
    · have e : whl n (bst T) (mvs mask (2 * tu)) L0 = bf (bst T) (mvs mask (2 * tu)) L0 i := by
        have := bf_stop h (fac n - i)
        rw [Nat.add_sub_cancel' (by omega)] at this
        exact this
      rw [← e] at hR ⊢
      exact hK _ no te fa li hR
    · refine ⟨vp_in_nI (by omega) (by decide), ?_⟩
      have hq : (bf (bst T) (mvs mask (2 * tu)) L0 i)[i]? = some ((bf (bst T) (mvs mask (2 * tu)) L0 i)[i]'h) := List.getElem?_eq_getElem h
      generalize hqe : (bf (bst T) (mvs mask (2 * tu)) L0 i)[i]'h = q at hq
      obtain ⟨h2, h3⟩ := hR.2.1 _ _ hq
      have hqp : IsP n q.1 := hR.1.1 q (List.mem_of_getElem? hq)
      rw [nI_c (n := i) (by omega), h2]
      refine s_read hn hqp (fun g hg => ?_)
      have hst := bf_step hq
      refine ⟨2 * tu + 1, ?_⟩
      rw [← nI_0]
      refine l_spread26 (i := i) (d := q.2) (x := q.1) hn hmask hT hg hqp hq (fun a te' fa' li' hR' => ?_) (2 * tu + 1) 0 te fa li (by omega) (by omega) hR
      have hR2 : Rp n rank (bf (bst T) (mvs mask (2 * tu)) L0 (i + 1)) fa' li' := by rw [hst]; exact hR'
      have hl2 : i + 1 ≤ (bf (bst T) (mvs mask (2 * tu)) L0 (i + 1)).length := by
        have := pre_len (bf_pre (bst T) (mvs mask (2 * tu)) L0 i)
        omega
      have hh := ih (i + 1) g te' fa' li' (by omega) hl2 hR2
      rw [hst] at hh
      rw [show nI i + 1 = nI (i + 1) from nI_add i 1]
      exact hh

theorem l_begins {n : Nat} (hn : n ≤ 8) {K : Int32 → (Nat → Int32) → Prop} (hK : ∀ a fa, (∀ j, j < fac n → fa j = -1) → K a fa) : ∀ N i fa, fac n - i < N → i ≤ fac n → (∀ j, j < i → fa j = -1) → lp_X3_begins_2 (nI n) K N (nI i) fa := by
  have hf := fac_le hn
  intro N
  induction N with
  | zero => intro i fa h; omega
  | succ N ih =>
    intro i fa h1 hi hfa
    rw [lp_X3_begins_2]
    refine s_fac hn ?_
    refine b_le (by omega) (by omega) (fun h => ?_) (fun h => ?_)
    · exact hK _ fa (fun j hj => hfa j (by omega))
    · refine ⟨vp_in_nI (by omega) (by decide), ?_⟩
      rw [nI_c (by omega), show nI i + 1 = nI (i + 1) from nI_add i 1]
      refine ih (i + 1) _ (by omega) (by omega) (fun j hj => ?_)
      by_cases e : j = i
      · exact if_pos e
      · rw [show upd fa i (-1) j = fa j from if_neg e]; exact hfa j (by omega)
theorem s_begins {n : Nat} (hn : n ≤ 8) {fa : Nat → Int32} {post : (Int32 × (Nat → Int32)) → Prop} (h : ∀ fa' li, Rp n rank [] fa' li → post (0, fa')) : wp_X3_begins (nI n) fa post := by
  unfold wp_X3_begins
  refine ⟨fac n + 1, l_begins hn (fun a fa' hf => ?_) (fac n + 1) 0 fa (by omega) (Nat.zero_le _) (fun j hj => by omega)⟩
  refine h fa' (fun _ => 0) ⟨⟨fun q hq => absurd hq (List.not_mem_nil), List.nodup_nil, fun i q hq => ?_⟩, fun i q hq => ?_, fun y hy _ => hf _ (rank_ltP hy)⟩
  · simp at hq
  · simp at hq
theorem Rp.li {n : Nat} {ν : List Nat → Nat} {fa li li' : Nat → Int32} (h : Rp n ν [] fa li) : Rp n ν [] fa li' := ⟨h.1, fun i q hq => by simp at hq, h.2.2⟩
theorem s_aim {n : Nat} (hn : n ≤ 8) {L : List (List Nat × Nat)} {fa li : Nat → Int32} (hR : Rp n rank L fa li) {y : List Nat} (hy : IsP n y) (hyL : y ∉ L.map (·.1)) {post : (Int32 × (Nat → Int32) × (Nat → Int32)) → Prop} (h : ∀ fa' li', Rp n rank (L ++ [(y, 0)]) fa' li' → post (nI (L.length + 1), fa', li')) : wp_X3_aim (nI L.length) fa li (nI (rank y)) post := by
  have hr : rank y < 40320 := Nat.lt_of_lt_of_le (rank_ltP hy) (fac_le hn)
  have hl : L.length < 40320 := by
    have := (hR.1.put hy hyL (Nat.zero_le _)).len
    rw [List.length_append] at this
    have := fac_le hn
    simp only [List.length_cons, List.length_nil] at *
    omega
  unfold wp_X3_aim
  refine ⟨vp_in_nI hr (by decide), vp_in_nI hl (by decide), fun z hz => ?_⟩
  rw [hz, nI_c (by omega), nI_c (by omega), show nI L.length + 1 = nI (L.length + 1) from nI_add _ 1]
  exact h _ _ (hR.put (Nu.rank n) hy hyL (Nat.zero_le _))
theorem s_spread {n tu mask : Nat} {T : Nat → List Nat} {fr no te fa li : Nat → Int32} {L0 : List (List Nat × Nat)} (hn : n ≤ 8) (hmask : mask < 2 ^ 31) (hT : Fr n tu T fr) (hR : Rp n rank L0 fa li) {post : (Int32 × (Nat → Int32) × (Nat → Int32) × (Nat → Int32) × (Nat → Int32)) → Prop} (h : ∀ no te fa li, Rp n rank (whl n (bst T) (mvs mask (2 * tu)) L0) fa li → post (nI (whl n (bst T) (mvs mask (2 * tu)) L0).length, no, te, fa, li)) : wp_X3_spread (nI n) (nI tu) (nI L0.length) fr no te fa li (nI mask) post := by
  unfold wp_X3_spread
  exact ⟨fac n + 1, l_spread2 hn hmask hT (fun a no te fa li hR' => h no te fa li hR') (fac n + 1) 0 no te fa li (by omega) (Nat.zero_le _) hR⟩
/-- what a search from solved finds -/
def fnd (n tu : Nat) (T : Nat → List Nat) (mask : Nat) : List (List Nat × Nat) := whl n (bst T) (mvs mask (2 * tu)) [(List.range n, 0)]
theorem s_layFor {n tu mask : Nat} {T : Nat → List Nat} {fr no te fa li : Nat → Int32} (hn : n ≤ 8) (hmask : mask < 2 ^ 31) (hT : Fr n tu T fr) {post : (Int32 × (Nat → Int32) × (Nat → Int32) × (Nat → Int32) × (Nat → Int32)) → Prop} (h : ∀ no te fa li, Rp n rank (fnd n tu T mask) fa li → post (nI (fnd n tu T mask).length, no, te, fa, li)) : wp_X3_layFor (nI n) (nI tu) fr no te fa li (nI mask) post := by
  unfold wp_X3_layFor
  refine s_begins hn (fun fa1 li1 hR1 => ?_)
  have h0 : (0 : Int32) = nI (rank (List.range n)) := by rw [rank_range]; rfl
  show wp_X3_aim (0 : Int32) fa1 li (0 : Int32) _
  rw [show wp_X3_aim (0 : Int32) fa1 li (0 : Int32) = wp_X3_aim (nI ([] : List (List Nat × Nat)).length) fa1 li (nI (rank (List.range n))) from by rw [rank_range]; rfl]
  refine s_aim hn hR1.li (IsP.id n) (by simp) (fun fa2 li2 hR2 => ?_)
  exact s_spread hn hmask hT hR2 h
