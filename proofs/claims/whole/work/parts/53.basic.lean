/-! every number is one of an arrangement -/
theorem unrank : ∀ (m : Nat) (l : List Nat), l.length = m → l.Pairwise (· < ·) → ∀ c, c < fac m → ∃ q, q.Perm l ∧ rank q = c := by
  intro m
  induction m with
  | zero =>
    intro l hl _ c hc
    have e : l = [] := List.length_eq_zero_iff.mp hl
    subst e
    have : fac 0 = 1 := rfl
    exact ⟨[], List.Perm.refl _, by show 0 = c; omega⟩
  | succ m ih =>
    intro l hl hs c hc
    have hf := fac_pos m
    have hc' : c < (m + 1) * fac m := hc
    have hi : c / fac m < m + 1 := (Nat.div_lt_iff_lt_mul hf).mpr hc'
    generalize hie : c / fac m = i at hi
    have hsp := split_at (p := l) (v := i) (by omega)
    generalize hx : l.getD i 0 = x at hsp
    have hAl : (l.take i).length = i := by rw [List.length_take]; omega
    generalize l.take i = A at hsp hAl
    generalize l.drop (i + 1) = B at hsp
    subst hsp
    rw [List.pairwise_append, List.pairwise_cons] at hs
    obtain ⟨s1, ⟨s2, s3⟩, s4⟩ := hs
    obtain ⟨q, hq, hr⟩ := ih (A ++ B) (by simp at hl ⊢; omega) (List.pairwise_append.mpr ⟨s1, s3, fun a ha b hb => s4 a ha b (List.mem_cons_of_mem _ hb)⟩) (c % fac m) (Nat.mod_lt _ hf)
    refine ⟨x :: q, (List.Perm.cons x hq).trans List.perm_middle.symm, ?_⟩
    have hql : q.length = m := by rw [hq.length_eq]; simp at hl ⊢; omega
    have hless : less x q = i := by
      rw [less_perm hq]
      unfold less
      rw [List.countP_append]
      have e1 : A.countP (fun y => decide (y < x)) = A.length := by
        rw [List.countP_eq_length]
        intro a ha
        exact decide_eq_true (s4 a ha x List.mem_cons_self)
      have e2 : B.countP (fun y => decide (y < x)) = 0 := by
        rw [List.countP_eq_zero]
        intro b hb
        have := s2 b hb
        simp; omega
      rw [e1, e2, hAl]
      rfl
    rw [rank, hless, hql, hr, ← hie, Nat.mul_comm]
    exact Nat.div_add_mod c (fac m)
theorem rank_all {n c : Nat} (hc : c < fac n) : ∃ q, IsP n q ∧ rank q = c := unrank n (List.range n) (by simp) (List.pairwise_lt_range) c hc
theorem nu_all {n c : Nat} (hc : c < fac n) : ∃ y, IsP n y ∧ nu y = c := by
  obtain ⟨q, h1, h2⟩ := rank_all hc
  exact ⟨inv q, h1.invP, by unfold nu; rw [h1.invInv]; exact h2⟩
/-! numbers of those that leave the first tiles at home -/
theorem home_take {q : List Nat} {k : Nat} (hk : k ≤ q.length) (h : ∀ t, t < k → q.getD t 0 = t) : q.take k = List.range k := by
  refine getD_ext (by simp; omega) fun j hj => ?_
  have hj' : j < k := by rw [List.length_take] at hj; omega
  have e : (q.take k).getD j 0 = q.getD j 0 := by
    rw [List.getD_eq_getElem?_getD, List.getD_eq_getElem?_getD, List.getElem?_take_of_lt hj']
  rw [e, getD_range hj', h j hj']
theorem home_less {n k : Nat} {q : List Nat} (hq : IsP n q) (hk : k < n) (h : ∀ t, t < k → q.getD t 0 = t) : less (q.getD k 0) (q.drop (k + 1)) = q.getD k 0 - k ∧ k ≤ q.getD k 0 := by
  have hge : k ≤ q.getD k 0 := by
    rcases Nat.lt_or_ge (q.getD k 0) k with a | a
    · have h1 := h _ a
      have := hq.inj (Nat.lt_trans a hk) hk h1
      omega
    · exact a
  refine ⟨?_, hge⟩
  rw [← less_free hq hk, home_take (by rw [hq.len]; omega) h]
  have : ∀ m, (List.range (k + m)).countP (fun u => decide (u ∉ List.range k)) = m := by
    intro m
    induction m with
    | zero =>
      rw [Nat.add_zero, List.countP_eq_zero]
      intro a ha
      simp at ha ⊢
      exact ha
    | succ m ih =>
      rw [← Nat.add_assoc, List.range_succ, List.countP_append, ih, List.countP_singleton]
      simp
  have := this (q.getD k 0 - k)
  rw [show k + (q.getD k 0 - k) = q.getD k 0 by omega] at this
  exact this
theorem home_rank {n : Nat} {q : List Nat} (hq : IsP n q) : ∀ k, k ≤ n → (∀ t, t < k → q.getD t 0 = t) → rank q = rank (q.drop k) := by
  intro k
  induction k with
  | zero => intro _ _; rw [List.drop_zero]
  | succ k ih =>
    intro hk h
    rw [ih (by omega) (fun t ht => h t (by omega))]
    obtain ⟨h1, h2⟩ := home_less hq (show k < n by omega) (fun t ht => h t (by omega))
    rw [rank_drop (by rw [hq.len]; omega), h1, h k (by omega), Nat.sub_self, Nat.zero_mul, Nat.zero_add]
theorem home_num {n k : Nat} {q : List Nat} (hq : IsP n q) (hk : k < n) (h : ∀ t, t < k → q.getD t 0 = t) : ∃ r, r < fac (n - 1 - k) ∧ rank q = (q.getD k 0 - k) * fac (n - 1 - k) + r := by
  have hlen := hq.len
  refine ⟨rank (q.drop (k + 1)), ?_, ?_⟩
  · have := rank_lt (q.drop (k + 1))
    rwa [List.length_drop, hlen, show n - (k + 1) = n - 1 - k by omega] at this
  · rw [home_rank hq k (by omega) h, rank_drop (by omega), (home_less hq hk h).1, hlen, show n - (k + 1) = n - 1 - k by omega]
theorem fac_mono {a b : Nat} (h : a ≤ b) : fac a ≤ fac b := by
  induction b with
  | zero => have : a = 0 := by omega
            subst this; exact Nat.le_refl _
  | succ b ih =>
    rcases Nat.lt_or_ge a (b + 1) with q | q
    · have h1 := ih (by omega)
      have h2 : fac b ≤ (b + 1) * fac b := Nat.le_mul_of_pos_left _ (by omega)
      exact Nat.le_trans h1 h2
    · have : a = b + 1 := by omega
      subst this; exact Nat.le_refl _
theorem low_home {n : Nat} {q : List Nat} (hq : IsP n q) : ∀ k, k ≤ n → rank q < fac (n - k) → ∀ t, t < k → q.getD t 0 = t := by
  intro k
  induction k with
  | zero => intro _ _ t ht; omega
  | succ k ih =>
    intro hk hr
    have hlen := hq.len
    have hm := fac_mono (show n - (k + 1) ≤ n - k by omega)
    have h := ih (by omega) (by omega)
    obtain ⟨r, h1, h2⟩ := home_num hq (show k < n by omega) h
    obtain ⟨-, h3⟩ := home_less hq (show k < n by omega) h
    have he : q.getD k 0 = k := by
      rw [show n - (k + 1) = n - 1 - k by omega] at hr
      rcases Nat.eq_or_lt_of_le h3 with a | a
      · exact a.symm
      · exfalso
        have : 1 * fac (n - 1 - k) ≤ (q.getD k 0 - k) * fac (n - 1 - k) := Nat.mul_le_mul_right _ (by omega)
        omega
    intro t ht
    by_cases e : t = k
    · subst e; exact he
    · exact h t (by omega)
/-- the block of numbers, the tile's place -/
theorem home_iff {n k u : Nat} {q : List Nat} (hq : IsP n q) (hk : k ≤ u) (hu : u < n) : ((u - k) * fac (n - 1 - k) ≤ rank q ∧ rank q < (u - k + 1) * fac (n - 1 - k)) ↔ ((∀ t, t < k → q.getD t 0 = t) ∧ q.getD k 0 = u) := by
  have hf := fac_pos (n - 1 - k)
  constructor
  · rintro ⟨h1, h2⟩
    have h3 : (u - k + 1) * fac (n - 1 - k) ≤ (n - k) * fac (n - 1 - k) := Nat.mul_le_mul_right _ (by omega)
    have h4 : fac (n - k) = (n - k) * fac (n - 1 - k) := by
      have := fac_drop (n := n) (k := k) (by omega)
      rwa [show n - (k + 1) = n - 1 - k by omega] at this
    have h5 := low_home hq k (by omega) (by omega)
    refine ⟨h5, ?_⟩
    obtain ⟨r, h6, h7⟩ := home_num hq (show k < n by omega) h5
    obtain ⟨-, h8⟩ := home_less hq (show k < n by omega) h5
    rcases Nat.lt_trichotomy (q.getD k 0 - k) (u - k) with a | a | a
    · have : (q.getD k 0 - k + 1) * fac (n - 1 - k) ≤ (u - k) * fac (n - 1 - k) := Nat.mul_le_mul_right _ (by omega)
      rw [Nat.succ_mul] at this
      omega
    · omega
    · have : (u - k + 1) * fac (n - 1 - k) ≤ (q.getD k 0 - k) * fac (n - 1 - k) := Nat.mul_le_mul_right _ (by omega)
      omega
  · rintro ⟨h1, h2⟩
    obtain ⟨r, h6, h7⟩ := home_num hq (show k < n by omega) h1
    rw [h2] at h7
    rw [Nat.succ_mul]
    omega
theorem inv_home {n : Nat} {y : List Nat} (hy : IsP n y) {k u : Nat} (hk : k < n) (hu : u < n) : (inv y).getD k 0 = u ↔ y.getD u 0 = k := by
  constructor
  · intro h; rw [← h]; exact hy.at_inv hk
  · intro h; rw [← h]; exact hy.inv_at hu
/-! basic orbits -/
def mk (P : Nat → Bool) : Nat → Nat
  | 0 => 0
  | k + 1 => if P k = true then mk P k ||| 2 ^ k else mk P k
theorem mk_bit (P : Nat → Bool) (u : Nat) : ∀ k, (mk P k).testBit u = (decide (u < k) && P u)
  | 0 => by simp [mk]
  | k + 1 => by
    have ih := mk_bit P u k
    rw [mk]
    by_cases e : k = u
    · subst e
      cases hb : P k with
      | true => rw [if_pos rfl, t_or, ih]; simp
      | false => rw [if_neg (by decide), ih]; simp [hb]
    · have e2 : decide (u < k + 1) = decide (u < k) := by
        rw [decide_eq_decide]; omega
      rw [e2]
      split
      · rw [t_or, ih]; simp [e]
      · exact ih
theorem mk_lt (P : Nat → Bool) : ∀ k, mk P k < 2 ^ k
  | 0 => by simp [mk]
  | k + 1 => by
    have ih := mk_lt P k
    have h2 : mk P k < 2 ^ (k + 1) := Nat.lt_of_lt_of_le ih (Nat.pow_le_pow_right (by decide) (by omega))
    rw [mk]
    split
    · exact or_lt h2 (by omega)
    · exact h2
theorem mk_none {P : Nat → Bool} : ∀ {k : Nat}, (∀ u, u < k → P u = false) → mk P k = 0
  | 0, _ => rfl
  | k + 1, h => by rw [mk, h k (by omega), if_neg (by decide)]; exact mk_none (fun u hu => h u (by omega))
/-- the tile k is at the place u in some of the list that leaves the lower ones at home -/
abbrev hom (k u : Nat) (y : List Nat) : Prop := (∀ t, t < k → y.getD t 0 = t) ∧ y.getD u 0 = k

def boP (L : List (List Nat × Nat)) (k u : Nat) : Bool := L.any (fun q => decide (hom k u q.1))
theorem boP_iff {L : List (List Nat × Nat)} {k u : Nat} : boP L k u = true ↔ ∃ q, q ∈ L ∧ hom k u q.1 := by
  unfold boP
  rw [List.any_eq_true]
  constructor
  · rintro ⟨q, h1, h2⟩; exact ⟨q, h1, of_decide_eq_true h2⟩
  · rintro ⟨q, h1, h2⟩; exact ⟨q, h1, decide_eq_true h2⟩
def boF (n : Nat) (L : List (List Nat × Nat)) (k : Nat) : Nat := mk (boP L k) n
theorem boP_low {L : List (List Nat × Nat)} {k u : Nat} (h : u < k) : boP L k u = false := by
  cases hb : boP L k u with
  | false => rfl
  | true =>
    obtain ⟨q, _, h2, h3⟩ := boP_iff.mp hb
    have := h2 u h
    omega
