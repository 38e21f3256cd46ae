/-! the model's number of an arrangement -/
def cnt (m t : Nat) : Nat := (List.range t).countP (fun u => m.testBit u)
theorem cnt_succ (m t : Nat) : cnt m (t + 1) = cnt m t + (m.testBit t).toNat := by
  unfold cnt
  rw [List.range_succ, List.countP_append, List.countP_singleton]
  cases m.testBit t <;> rfl
theorem cnt_le (m t : Nat) : cnt m t ≤ t := by
  have := List.countP_le_length (p := fun u => m.testBit u) (l := List.range t)
  rwa [List.length_range] at this
/-- a mask that holds just the members of a list of small numbers -/
def Holds (m : Nat) (l : List Nat) : Prop := m < 2 ^ 8 ∧ ∀ u, m.testBit u = decide (u ∈ l)
theorem Holds.nil : Holds 0 [] := ⟨by decide, fun u => by simp⟩
theorem Holds.add {m x : Nat} {l : List Nat} (h : Holds m l) (hx : x < 8) : Holds (m ||| 2 ^ x) (l ++ [x]) := by
  refine ⟨or_lt h.1 hx, fun u => ?_⟩
  rw [t_or, h.2]
  by_cases e : x = u
  · subst e; simp
  · have : ¬ u = x := fun q => e q.symm
    simp [e, this]
theorem cnt_take {n : Nat} {p : List Nat} (hp : IsP n p) {k m : Nat} (hk : k < n) (h : Holds m (p.take k)) : p.getD k 0 - cnt m (p.getD k 0) = less (p.getD k 0) (p.drop (k + 1)) := by
  rw [← less_free hp hk]
  have h1 := List.length_eq_countP_add_countP (p := fun u => decide (u ∈ p.take k)) (l := List.range (p.getD k 0))
  rw [List.length_range] at h1
  have h2 : cnt m (p.getD k 0) = (List.range (p.getD k 0)).countP (fun u => decide (u ∈ p.take k)) := by
    unfold cnt
    exact congrArg (fun q => List.countP q _) (funext h.2)
  rw [h2]
  have h3 : (List.range (p.getD k 0)).countP (fun u => decide (u ∉ p.take k)) = (List.range (p.getD k 0)).countP (fun a => decide ¬decide (a ∈ p.take k) = true) := by
    refine congrArg (fun q => List.countP q _) (funext fun u => ?_)
    simp
  omega
theorem take_succ_getD {p : List Nat} {k : Nat} (h : k < p.length) : p.take (k + 1) = p.take k ++ [p.getD k 0] := by
  rw [List.take_add_one, List.getElem?_eq_getElem h, getD_of h]; rfl
theorem l_num25 {f : Nat → Int32} {used k pk : Nat} {K : Int32 → Int32 → Prop} (hk : k < 8) (hf : f k = nI pk) (hpk : pk < 8) (hu : used < 2 ^ 31) (hK : ∀ v, K (nI (pk - cnt used pk)) v) : ∀ N t, pk - t < N → t ≤ pk → lp_X3_numberOf_25 f (nI used) (nI k) K N (nI (pk - cnt used t)) (nI t) := by
  intro N
  induction N with
  | zero => intro t h; omega
  | succ N ih =>
    intro t h1 h2
    rw [lp_X3_numberOf_25, nI_c (by omega), hf]
    refine ⟨vp_in_nI hk (by decide), b_le (by omega) (by omega) (fun h => ?_) (fun h => ?_)⟩
    · have : t = pk := by omega
      subst this
      exact hK _
    · intro x hx
      rw [i_bit hu (by omega)] at hx
      have h3 := cnt_le used (t + 1)
      have h4 := cnt_succ used t
      have e : x = nI (pk - cnt used (t + 1)) := by
        rw [hx, pk_sub (by omega), h4]
        congr 1
        omega
      rw [e, nI_1]
      exact ih (t + 1) (by omega) (by omega)
theorem fac_drop {n k : Nat} (h : k < n) : fac (n - k) = (n - k) * fac (n - (k + 1)) := by
  obtain ⟨j, hj⟩ : ∃ j, n - k = j + 1 := ⟨n - k - 1, by omega⟩
  rw [hj, show n - (k + 1) = j by omega, fac]
theorem l_num7 {n : Nat} {p : List Nat} (hn : n ≤ 8) (hp : IsP n p) {f : Nat → Int32} (hf : At f p) {K : Int32 → Int32 → Int32 → Prop} (hK : ∀ a b, K (nI (rank p)) a b) : ∀ N k num used, n - k < N → k ≤ n → num * fac (n - k) + rank (p.drop k) = rank p → Holds used (p.take k) → lp_X3_numberOf_7 f (nI n) K N (nI num) (nI used) (nI k) := by
  have hlen := hp.len
  have hr : rank p < 40320 := Nat.lt_of_lt_of_le (rank_ltP hp) (fac_le hn)
  intro N
  induction N with
  | zero => intro k num used h; omega
  | succ N ih =>
    intro k num used h1 h2 h3 h4
    rw [lp_X3_numberOf_7]
    refine b_le (by omega) (by omega) (fun h => ?_) (fun h => ?_)
    · have : k = n := by omega
      subst this
      rw [Nat.sub_self, List.drop_of_length_le (by omega)] at h3
      have : num = rank p := by have e : num * fac 0 + rank [] = num := by show num * 1 + 0 = num; omega
                                omega
      rw [this]
      exact hK _ _
    · have hk8 : k < 8 := by omega
      have hpk : p.getD k 0 < n := hp.lt h
      have hfk : f k = nI (p.getD k 0) := hf k (by omega)
      refine ⟨vp_in_nI hk8 (by decide), ?_⟩
      rw [nI_c (by omega), hfk]
      intro x hx
      subst hx
      refine ⟨9, ?_⟩
      have h0 : nI (p.getD k 0) = nI (p.getD k 0 - cnt used 0) := rfl
      rw [h0]
      refine l_num25 hk8 hfk (by omega) (Nat.lt_trans h4.1 (by decide)) (fun v => ?_) 9 0 (by omega) (by omega)
      rw [cnt_take hp h h4]
      intro y hy
      refine ⟨vp_in_nI hk8 (by decide), ?_⟩
      intro z hz
      have hd : rank (p.drop k) = less (p.getD k 0) (p.drop (k + 1)) * fac (n - (k + 1)) + rank (p.drop (k + 1)) := by
        have := rank_drop (p := p) (k := k) (by omega)
        rwa [hlen] at this
      have e1 : y = nI (num * (n - k) + less (p.getD k 0) (p.drop (k + 1))) := by
        rw [hy, pk_sub (by omega), pk_mul, nI_add]
      have e2 : z = nI (used ||| 2 ^ (p.getD k 0)) := by
        rw [hz, i_shl (by omega), i_or]; rfl
      rw [e1, e2, nI_1]
      refine ih (k + 1) _ _ (by omega) (by omega) ?_ ?_
      · rw [← h3, hd, fac_drop h, Nat.add_mul, Nat.mul_assoc]
        omega
      · rw [take_succ_getD (by omega)]
        exact h4.add (by omega)
theorem s_numberOf {n : Nat} {p : List Nat} (hn : n ≤ 8) (hp : IsP n p) {f : Nat → Int32} (hf : At f p) {post : Int32 → Unit → Prop} (h : post (nI (rank p)) ()) : wp_X3_numberOf (nI n) f post := by
  unfold wp_X3_numberOf
  refine ⟨n + 1, l_num7 hn hp hf (fun _ _ => h) (n + 1) 0 0 0 (by omega) (Nat.zero_le n) ?_ Holds.nil⟩
  rw [List.drop_zero, Nat.zero_mul, Nat.zero_add]
