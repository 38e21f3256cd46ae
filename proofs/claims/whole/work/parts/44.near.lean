/-! moves and their inverses; which move leads nearer -/
def Tw (n tu : Nat) (T : Nat → List Nat) : Prop := tu ≤ 6 ∧ ∀ m, m < 2 * tu → IsP n (T m) ∧ T (bk m) = inv (T m)
theorem Tw.P {n tu : Nat} {T : Nat → List Nat} (h : Tw n tu T) {m : Nat} (hm : m < 2 * tu) : IsP n (T m) := (h.2 m hm).1
theorem Tw.bkP {n tu : Nat} {T : Nat → List Nat} (h : Tw n tu T) {m : Nat} (hm : m < 2 * tu) : IsP n (T (bk m)) := h.P (bk_lt hm)
theorem Tw.zero (n : Nat) (T : Nat → List Nat) : Tw n 0 T := ⟨by omega, fun m hm => by omega⟩
theorem bk_even (t : Nat) : bk (2 * t) = 2 * t + 1 := by unfold bk; rw [if_pos (by omega)]
theorem bk_odd (t : Nat) : bk (2 * t + 1) = 2 * t := by unfold bk; rw [if_neg (by omega)]; omega
theorem addT_even (T : Nat → List Nat) (tu : Nat) (p : List Nat) : addT T tu p (2 * tu) = p := if_pos rfl
theorem addT_odd (T : Nat → List Nat) (tu : Nat) (p : List Nat) : addT T tu p (2 * tu + 1) = inv p := by
  unfold addT
  rw [if_neg (by omega), if_pos rfl]
theorem Tw.add {n tu : Nat} {T : Nat → List Nat} (h : Tw n tu T) (htu : tu < 6) {p : List Nat} (hp : IsP n p) : Tw n (tu + 1) (addT T tu p) := by
  refine ⟨by omega, fun m hm => ?_⟩
  by_cases e1 : m = 2 * tu
  · subst e1
    rw [bk_even, addT_even, addT_odd]
    exact ⟨hp, rfl⟩
  · by_cases e2 : m = 2 * tu + 1
    · subst e2
      rw [bk_odd, addT_even, addT_odd]
      exact ⟨hp.invP, hp.invInv.symm⟩
    · have hlt : m < 2 * tu := by omega
      rw [addT_old hlt, addT_old (bk_lt hlt)]
      exact h.2 m hlt
theorem Tw.less {n tu : Nat} {T : Nat → List Nat} (h : Tw n tu T) : Tw n (tu - 1) T := ⟨by have := h.1; omega, fun m hm => h.2 m (by omega)⟩
theorem bst_P {n tu mask : Nat} {T : Nat → List Nat} (h : Tw n tu T) : ∀ m, m ∈ mvs mask (2 * tu) → ∀ p, IsP n p → IsP n (bst T m p) := fun _ hm _ hp => (h.bkP (mvs_mem.mp hm).1).actP hp
theorem one_0 {x : List Nat} : ∀ q, q ∈ [(x, 0)] → q.2 = 0 := fun q hq => by rw [List.mem_singleton] at hq; subst hq; rfl
theorem fnd_Wh {n tu : Nat} {T : Nat → List Nat} (h : Tw n tu T) (mask : Nat) : Wh n (bst T) (mvs mask (2 * tu)) [(List.range n, 0)] (fnd n tu T mask) := whl_Wh (GL.one (IsP.id n)) one_0 (bst_P h)
theorem bst_go {n tu m : Nat} {T : Nat → List Nat} (h : Tw n tu T) (hm : m < 2 * tu) {x : List Nat} (hx : IsP n x) : act (T m) (bst T m x) = x := by
  unfold bst
  rw [(h.2 m hm).2]
  exact inv_act (h.P hm) hx
theorem bst_back {n tu m : Nat} {T : Nat → List Nat} (h : Tw n tu T) (hm : m < 2 * tu) {x : List Nat} (hx : IsP n x) : bst T m (act (T m) x) = x := by
  unfold bst
  rw [(h.2 m hm).2]
  exact act_inv (h.P hm) hx
/-- each deeper one has a move to one less deep -/
theorem Wh.near {n tu mask : Nat} {T : Nat → List Nat} (hT : Tw n tu T) {L0 L : List (List Nat × Nat)} (h0 : ∀ q, q ∈ L0 → q.2 = 0) (h : Wh n (bst T) (mvs mask (2 * tu)) L0 L) {y : List Nat} {d : Nat} (hy : (y, d + 1) ∈ L) : ∃ m, m < 2 * tu ∧ mask.testBit m = true ∧ (act (T m) y, d) ∈ L := by
  obtain ⟨x, m, h1, h2, h3⟩ := h.par h0 hy
  obtain ⟨h4, h5⟩ := mvs_mem.mp h2
  refine ⟨m, h4, h5, ?_⟩
  rw [h3, bst_go hT h4 (h.1.1 _ h1)]
  exact h1
/-- and from what a move makes one comes back by one more -/
theorem Wh.back {n tu mask : Nat} {T : Nat → List Nat} (hT : Tw n tu T) {L0 L : List (List Nat × Nat)} (h : Wh n (bst T) (mvs mask (2 * tu)) L0 L) {y : List Nat} (hy : IsP n y) {m d : Nat} (hm : m < 2 * tu) (hb : mask.testBit m = true) (hd : (act (T m) y, d) ∈ L) : ∃ d', d' ≤ d + 1 ∧ (y, d') ∈ L := by
  have := h.2.2.2.1 _ _ hd m (mvs_mem.mpr ⟨hm, hb⟩)
  rwa [bst_back hT hm hy] at this
/-- the least move to the depth d -/
def nxt (T : Nat → List Nat) (tu mask : Nat) (L : List (List Nat × Nat)) (y : List Nat) (d : Nat) : Nat := fa_first (fun m => mask.testBit m && decide ((act (T m) y, d) ∈ L)) (2 * tu)
theorem nxt_at {T : Nat → List Nat} {tu mask : Nat} {L : List (List Nat × Nat)} {y : List Nat} {d : Nat} (h : ∃ m, m < 2 * tu ∧ mask.testBit m = true ∧ (act (T m) y, d) ∈ L) : nxt T tu mask L y d < 2 * tu ∧ mask.testBit (nxt T tu mask L y d) = true ∧ (act (T (nxt T tu mask L y d)) y, d) ∈ L := by
  obtain ⟨m, h1, h2, h3⟩ := h
  have hl : nxt T tu mask L y d < 2 * tu := by
    rcases Nat.lt_or_ge (nxt T tu mask L y d) (2 * tu) with a | a
    · exact a
    · have := fa_first_no (fun m => mask.testBit m && decide ((act (T m) y, d) ∈ L)) (2 * tu) m (Nat.lt_of_lt_of_le h1 a)
      simp [h2, h3] at this
  have := fa_first_yes (fun m => mask.testBit m && decide ((act (T m) y, d) ∈ L)) (2 * tu) hl
  rw [Bool.and_eq_true, decide_eq_true_eq] at this
  exact ⟨hl, this.1, this.2⟩
theorem nxt_not {T : Nat → List Nat} {tu mask : Nat} {L : List (List Nat × Nat)} {y : List Nat} {d m : Nat} (h : m < nxt T tu mask L y d) (hb : mask.testBit m = true) : (act (T m) y, d) ∉ L := by
  have := fa_first_no (fun m => mask.testBit m && decide ((act (T m) y, d) ∈ L)) (2 * tu) m h
  simp only [hb, Bool.true_and, decide_eq_false_iff_not] at this
  exact this
theorem nxt_eq {T : Nat → List Nat} {tu mask : Nat} {L : List (List Nat × Nat)} {y : List Nat} {d k : Nat} (h1 : k < 2 * tu) (hb : mask.testBit k = true) (h2 : (act (T k) y, d) ∈ L) (h3 : ∀ j, j < k → mask.testBit j = true → (act (T j) y, d) ∉ L) : nxt T tu mask L y d = k := by
  obtain ⟨a1, a2, a3⟩ := nxt_at (T := T) (tu := tu) (mask := mask) (L := L) (y := y) (d := d) ⟨k, h1, hb, h2⟩
  rcases Nat.lt_trichotomy (nxt T tu mask L y d) k with a | a | a
  · exact absurd a3 (h3 _ a a2)
  · exact a
  · exact absurd h2 (nxt_not a hb)
/-- the way down, move by move -/
def wlk (T : Nat → List Nat) (tu mask : Nat) (L : List (List Nat × Nat)) (y : List Nat) (d : Nat) : Nat → List Nat
  | 0 => y
  | k + 1 => act (T (nxt T tu mask L (wlk T tu mask L y d k) (d - k - 1))) (wlk T tu mask L y d k)
theorem wlk_at {n tu mask : Nat} {T : Nat → List Nat} (hT : Tw n tu T) {L0 L : List (List Nat × Nat)} (h0 : ∀ q, q ∈ L0 → q.2 = 0) (h : Wh n (bst T) (mvs mask (2 * tu)) L0 L) {y : List Nat} {d : Nat} (hy : (y, d) ∈ L) : ∀ k, k ≤ d → (wlk T tu mask L y d k, d - k) ∈ L := by
  intro k
  induction k with
  | zero => intro _; exact hy
  | succ k ih =>
    intro hk
    have h1 := ih (by omega)
    have e : d - k = (d - k - 1) + 1 := by omega
    rw [e] at h1
    have h2 := (nxt_at (h.near hT h0 h1)).2.2
    exact h2
theorem wlk_go {n tu mask : Nat} {T : Nat → List Nat} (hT : Tw n tu T) {L0 L : List (List Nat × Nat)} (h0 : ∀ q, q ∈ L0 → q.2 = 0) (h : Wh n (bst T) (mvs mask (2 * tu)) L0 L) {y : List Nat} {d k : Nat} (hy : (y, d) ∈ L) (hk : k < d) : nxt T tu mask L (wlk T tu mask L y d k) (d - k - 1) < 2 * tu ∧ mask.testBit (nxt T tu mask L (wlk T tu mask L y d k) (d - k - 1)) = true ∧ (act (T (nxt T tu mask L (wlk T tu mask L y d k) (d - k - 1))) (wlk T tu mask L y d k), d - k - 1) ∈ L := by
  have h1 := wlk_at hT h0 h hy k (by omega)
  rw [show d - k = (d - k - 1) + 1 by omega] at h1
  exact nxt_at (h.near hT h0 h1)
/-! the arrays tell depths -/
theorem Rp.eqd {n : Nat} {ν : List Nat → Nat} {L : List (List Nat × Nat)} {fa li : Nat → Int32} (h : Rp n ν L fa li) (hn : n ≤ 8) {z : List Nat} (hz : IsP n z) {d : Nat} (hd : d < 40320) : fa (ν z) = nI d ↔ (z, d) ∈ L := by
  constructor
  · intro e
    by_cases hm : z ∈ L.map (·.1)
    · obtain ⟨i, d', hq⟩ := mem_fst hm
      have h1 := (h.2.1 _ _ hq).2
      have h2 := h.depth hn hq
      rw [h1] at e
      have : d' = d := (nI_eq (by omega) (by omega)).mp e
      subst this
      exact List.mem_of_getElem? hq
    · rw [h.2.2 z hz hm] at e
      exact absurd e.symm (nI_neg1 (by omega))
  · intro hm
    obtain ⟨i, hi, e⟩ := List.mem_iff_getElem.mp hm
    exact (h.2.1 i (z, d) (by rw [List.getElem?_eq_getElem hi, e])).2
theorem Rp.dlt {n : Nat} {ν : List Nat → Nat} {L : List (List Nat × Nat)} {fa li : Nat → Int32} (h : Rp n ν L fa li) (hn : n ≤ 8) {z : List Nat} {d : Nat} (hm : (z, d) ∈ L) : d < 40320 := by
  have := h.dle hn hm
  omega
theorem Rp.no {n : Nat} {ν : List Nat → Nat} {L : List (List Nat × Nat)} {fa li : Nat → Int32} (h : Rp n ν L fa li) (hn : n ≤ 8) {z : List Nat} (hz : IsP n z) : fa (ν z) = -1 ↔ ∀ d, (z, d) ∉ L := by
  constructor
  · intro e d hm
    have h1 := (h.eqd hn hz (h.dlt hn hm)).mpr hm
    rw [e] at h1
    have := h.dlt hn hm
    exact nI_neg1 (by omega) h1.symm
  · intro hm
    refine h.2.2 z hz (fun hq => ?_)
    obtain ⟨i, d', hq'⟩ := mem_fst hq
    exact hm d' (List.mem_of_getElem? hq')
/-- found with its depth, or not at all -/
theorem GL.or {n : Nat} {L : List (List Nat × Nat)} (_ : GL n L) (z : List Nat) : (∃ d, (z, d) ∈ L) ∨ ∀ d, (z, d) ∉ L := by
  by_cases h : ∃ d, (z, d) ∈ L
  · exact Or.inl h
  · exact Or.inr (fun d hd => h ⟨d, hd⟩)
