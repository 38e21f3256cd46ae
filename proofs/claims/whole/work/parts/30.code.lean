/-! the class's number of an arrangement -/
def bcx (p_0 : Int32) : Int32 :=
  let x_1 := p_0 - ((((p_0 : Int32).toUInt32 >>> ((1 : Int32).toUInt32 &&& Int32.toUInt32 31)).toInt32) &&& 1431655765)
  let x_2 := (x_1 &&& 858993459) + ((((x_1 : Int32).toUInt32 >>> ((2 : Int32).toUInt32 &&& Int32.toUInt32 31)).toInt32) &&& 858993459)
  let x_3 := (x_2 + (((x_2 : Int32).toUInt32 >>> ((4 : Int32).toUInt32 &&& Int32.toUInt32 31)).toInt32)) &&& 252645135
  let x_4 := x_3 + (((x_3 : Int32).toUInt32 >>> ((8 : Int32).toUInt32 &&& Int32.toUInt32 31)).toInt32)
  let x_5 := x_4 + (((x_4 : Int32).toUInt32 >>> ((16 : Int32).toUInt32 &&& Int32.toUInt32 31)).toInt32)
  x_5 &&& 63
theorem bcx_ok : ∀ m, m < 256 → bcx (nI m) = nI (cnt m 8) := by decide +kernel
theorem s_bitCount {m : Nat} (hm : m < 256) {post : Int32 → Unit → Prop} (h : post (nI (cnt m 8)) ()) : wp_J6_bitCount_0f7a4 (nI m) post := by
  unfold wp_J6_bitCount_0f7a4
  intro x1 h1 x2 h2 x3 h3 x4 h4 x5 h5
  have e : x5 &&& 63 = bcx (nI m) := by rw [h5, h4, h3, h2, h1]; rfl
  rw [e, bcx_ok m hm]
  exact h
theorem cnt_below : ∀ m, m < 256 → ∀ t, t < 9 → cnt (m &&& (2 ^ t - 1)) 8 = cnt m t := by decide +kernel
theorem l_code11 {n : Nat} {p : List Nat} (hn : n ≤ 8) (hp : IsP n p) {f : Nat → Int32} (hf : At f p) {K : Int32 → Int32 → Int32 → Prop} (hK : ∀ a b, K a (nI (rank p)) b) : ∀ N k num left, n - k < N → k ≤ n → num * fac (n - k) + rank (p.drop k) = rank p → Holds left (p.drop k) → lp_X2_codeOf_11 f (nI n) K N (nI left) (nI num) (nI k) := by
  have hlen := hp.len
  intro N
  induction N with
  | zero => intro k num left h; omega
  | succ N ih =>
    intro k num left h1 h2 h3 h4
    rw [lp_X2_codeOf_11]
    refine b_le (by omega) (by omega) (fun h => ?_) (fun h => ?_)
    · have e : k = n := by omega
      subst e
      rw [Nat.sub_self, List.drop_of_length_le (by omega)] at h3
      have : num = rank p := by simpa [fac, rank] using h3
      rw [this]
      exact hK _ _
    · have hk8 : k < 8 := by omega
      have hpk := hp.lt h
      have hfk : f k = nI (p.getD k 0) := hf k (by omega)
      have hl := h4.1
      rw [nI_c (by omega), hfk]
      refine ⟨vp_in_nI hk8 (by decide), ?_⟩
      intro x4 hx4
      rw [i_shl (by omega)] at hx4
      have hp2 : 2 ^ (p.getD k 0) < 2 ^ 31 := Nat.pow_lt_pow_right (by decide) (by omega)
      have hpos : 1 ≤ 2 ^ (p.getD k 0) := Nat.pow_pos (by decide)
      have e1 : nI left &&& (x4 - 1) = nI (left &&& (2 ^ (p.getD k 0) - 1)) := by
        rw [hx4, show nI (2 ^ (p.getD k 0)) - 1 = nI (2 ^ (p.getD k 0) - 1) from pk_sub (b := 1) hpos, i_and]
      rw [e1]
      have h256 : left < 256 := hl
      refine s_bitCount (Nat.lt_of_le_of_lt Nat.and_le_left h256) ?_
      rw [cnt_below left h256 _ (by omega), cnt_drop hp h h4]
      intro x7 hx7 x8 hx8
      have hd : rank (p.drop k) = less (p.getD k 0) (p.drop (k + 1)) * fac (n - (k + 1)) + rank (p.drop (k + 1)) := by
        have := rank_drop (p := p) (k := k) (by omega)
        rwa [hlen] at this
      have e7 : x7 = nI (num * (n - k) + less (p.getD k 0) (p.drop (k + 1))) := by
        rw [hx7, pk_sub (by omega), pk_mul, nI_add]
      have e8 : x8 = nI (left &&& (2 ^ 31 - 1 - 2 ^ (p.getD k 0))) := by
        rw [hx8, hx4, i_clear (by omega) (by omega)]
      rw [e7, e8, show nI k + 1 = nI (k + 1) from nI_add k 1]
      refine ih (k + 1) _ _ (by omega) (by omega) ?_ (h4.next hp hn h)
      rw [← h3, hd, fac_drop h, Nat.add_mul, Nat.mul_assoc]
      omega
theorem s_codeOf {n : Nat} {p : List Nat} (hn : n ≤ 8) (hp : IsP n p) {f : Nat → Int32} (hf : At f p) {post : Int32 → Unit → Prop} (h : post (nI (rank p)) ()) : wp_X2_codeOf f (nI n) post := by
  unfold wp_X2_codeOf
  intro x hx
  have hp2 : 1 ≤ 2 ^ n := Nat.pow_pos (by decide)
  have e : x = nI (2 ^ n - 1) := by
    rw [hx, i_shl (by omega)]; exact pk_sub (b := 1) hp2
  rw [e]
  refine ⟨n + 1, l_code11 hn hp hf (fun _ _ => h) (n + 1) 0 0 (2 ^ n - 1) (by omega) (Nat.zero_le n) ?_ (Holds.full hp hn)⟩
  rw [List.drop_zero, Nat.zero_mul, Nat.zero_add]
theorem l_pres {n : Nat} {p : List Nat} (hn : n ≤ 8) (hp : IsP n p) {f : Nat → Int32} (hf : At f p) {K : Int32 → (Nat → Int32) → Prop} (hK : ∀ a g, At g (inv p) → K a g) : ∀ N k g, n - k < N → k ≤ n → (∀ j, j < k → g (p.getD j 0) = nI j) → lp_X2_presentCode_2 (nI n) f K N (nI k) g := by
  have hlen := hp.len
  intro N
  induction N with
  | zero => intro k g h; omega
  | succ N ih =>
    intro k g h1 h2 h3
    rw [lp_X2_presentCode_2]
    refine b_le (by omega) (by omega) (fun h => ?_) (fun h => ?_)
    · have e : k = n := by omega
      subst e
      refine hK _ g (fun t ht => ?_)
      rw [inv_len, hlen] at ht
      have h4 := h3 ((inv p).getD t 0) (hp.invP.lt ht)
      rwa [hp.at_inv ht] at h4
    · have hpk := hp.lt h
      rw [nI_c (n := k) (by omega), hf k (by omega), nI_c (n := p.getD k 0) (by omega)]
      refine ⟨vp_in_nI (by omega) (by decide), vp_in_nI (by omega) (by decide), ?_⟩
      rw [show nI k + 1 = nI (k + 1) from nI_add k 1]
      refine ih (k + 1) _ (by omega) (by omega) (fun j hj => ?_)
      by_cases e : j = k
      · subst e; exact if_pos rfl
      · have hne : p.getD j 0 ≠ p.getD k 0 := fun q => e (hp.inj (by omega) h q)
        rw [show upd g (p.getD k 0) (nI k) (p.getD j 0) = g (p.getD j 0) from if_neg hne]
        exact h3 j (by omega)
theorem s_presentCode {n : Nat} {p : List Nat} (hn : n ≤ 8) (hp : IsP n p) {f g : Nat → Int32} (hf : At f p) {post : Int32 → (Nat → Int32) → Prop} (h : ∀ g', At g' (inv p) → post (nI (nu p)) g') : wp_X2_presentCode (nI n) f g post := by
  unfold wp_X2_presentCode
  refine ⟨n + 1, l_pres hn hp hf (fun _ g' hg => ?_) (n + 1) 0 g (by omega) (Nat.zero_le n) (fun j hj => by omega)⟩
  exact s_codeOf hn hp.invP hg (h g' hg)
/-- the solved arrangement is put into an array -/
theorem l_solved {n : Nat} (hn : n ≤ 8) {K : Int32 → (Nat → Int32) → Prop} (hK : ∀ a g, At g (List.range n) → K a g) : ∀ N k g, n - k < N → k ≤ n → (∀ j, j < k → g j = nI j) → lp_X2_setSolved_2 (nI n) K N (nI k) g := by
  intro N
  induction N with
  | zero => intro k g h; omega
  | succ N ih =>
    intro k g h1 h2 h3
    rw [lp_X2_setSolved_2]
    refine b_le (by omega) (by omega) (fun h => ?_) (fun h => ?_)
    · refine hK _ g (fun j hj => ?_)
      rw [List.length_range] at hj
      rw [getD_range hj]; exact h3 j (by omega)
    · rw [nI_c (n := k) (by omega)]
      refine ⟨vp_in_nI (by omega) (by decide), ?_⟩
      rw [show nI k + 1 = nI (k + 1) from nI_add k 1]
      refine ih (k + 1) _ (by omega) (by omega) (fun j hj => ?_)
      by_cases e : j = k
      · subst e; exact if_pos rfl
      · rw [show upd g k (nI k) j = g j from if_neg e]; exact h3 j (by omega)
theorem s_setSolved {n : Nat} (hn : n ≤ 8) {g : Nat → Int32} {post : (Nat → Int32) → Prop} (h : ∀ g', At g' (List.range n) → post g') : wp_X2_setSolved g (nI n) post := by
  unfold wp_X2_setSolved
  exact ⟨n + 1, l_solved hn (fun _ g' hg => h g' hg) (n + 1) 0 g (by omega) (Nat.zero_le n) (fun j hj => by omega)⟩
