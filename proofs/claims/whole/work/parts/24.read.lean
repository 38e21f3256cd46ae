/-! the model reads an arrangement off its number -/
theorem mem_split {p : List Nat} (k : Nat) {u : Nat} (h : u ∈ p) : u ∈ p.take k ∨ u ∈ p.drop k := by
  rw [← List.take_append_drop k p] at h
  exact List.mem_append.mp h
theorem take_drop_ne {p : List Nat} (hn : p.Nodup) (k : Nat) {u : Nat} (h1 : u ∈ p.take k) (h2 : u ∈ p.drop k) : False := by
  have h := hn
  rw [← List.take_append_drop k p, List.nodup_append] at h
  exact h.2.2 u h1 u h2 rfl
theorem drop_cons {p : List Nat} {k : Nat} (h : k < p.length) : p.drop k = p.getD k 0 :: p.drop (k + 1) := by
  rw [List.drop_eq_getElem_cons h, getD_of h]
theorem cnt_drop {n : Nat} {p : List Nat} (hp : IsP n p) {k m : Nat} (hk : k < n) (h : Holds m (p.drop k)) : cnt m (p.getD k 0) = less (p.getD k 0) (p.drop (k + 1)) := by
  rw [← less_free hp hk]
  unfold cnt
  refine List.countP_congr fun u hu => ?_
  rw [List.mem_range] at hu
  have hm : u ∈ p := hp.mem.mpr (Nat.lt_trans hu (hp.lt hk))
  rw [h.2]
  simp only [decide_eq_true_eq]
  constructor
  · intro a b; exact take_drop_ne hp.nodup k b a
  · intro a
    rcases mem_split k hm with b | b
    · exact absurd b a
    · exact b
theorem Holds.next {n : Nat} {p : List Nat} (hp : IsP n p) (hn : n ≤ 8) {k m : Nat} (hk : k < n) (h : Holds m (p.drop k)) : Holds (m &&& (2 ^ 31 - 1 - 2 ^ (p.getD k 0))) (p.drop (k + 1)) := by
  have hpk := hp.lt hk
  refine ⟨Nat.lt_of_le_of_lt Nat.and_le_left h.1, fun u => ?_⟩
  have hlen := hp.len
  have hnd : (p.getD k 0 :: p.drop (k + 1)).Nodup := by
    rw [← drop_cons (by omega)]
    exact hp.nodup.sublist (List.drop_sublist k p)
  rw [List.nodup_cons] at hnd
  by_cases hu : u < 31
  · rw [t_clear (by omega) hu, h.2, drop_cons (by omega)]
    generalize p.getD k 0 = z at *
    by_cases e : z = u
    · subst e; simp [hnd.1]
    · have : ¬ u = z := fun q => e q.symm
      simp [e, this]
  · have h1 : (m &&& (2 ^ 31 - 1 - 2 ^ (p.getD k 0))).testBit u = false := Nat.testBit_lt_two_pow (Nat.lt_of_lt_of_le (Nat.lt_of_le_of_lt Nat.and_le_left h.1) (Nat.pow_le_pow_right (by decide) (by omega)))
    rw [h1]
    symm
    rw [decide_eq_false_iff_not]
    intro q
    have := hp.mem.mp (List.mem_of_mem_drop q)
    omega
theorem Holds.full {n : Nat} {p : List Nat} (hp : IsP n p) (hn : n ≤ 8) : Holds (2 ^ n - 1) (p.drop 0) := by
  refine ⟨?_, fun u => ?_⟩
  · have : 2 ^ n ≤ 2 ^ 8 := Nat.pow_le_pow_right (by decide) hn
    have : 0 < 2 ^ n := Nat.two_pow_pos n
    omega
  · rw [Nat.testBit_two_pow_sub_one, List.drop_zero]
    exact decide_eq_decide.mpr hp.mem.symm
theorem cnt_mono (m : Nat) {a b : Nat} (h : a ≤ b) : cnt m a ≤ cnt m b := by
  induction b with
  | zero => have : a = 0 := by omega
            subst this; exact Nat.le_refl _
  | succ b ih =>
    rcases Nat.lt_or_ge a (b + 1) with q | q
    · have := ih (by omega); rw [cnt_succ]; omega
    · have : a = b + 1 := by omega
      subst this; exact Nat.le_refl _
theorem l_read53 {left pk : Nat} (hl : left < 2 ^ 8) (hpk : pk < 8) (hb : left.testBit pk = true) {K : Int32 → Int32 → Prop} (hK : ∀ v, K v (nI pk)) : ∀ N t, pk - t < N → t ≤ pk → lp_X3_read_53 (nI left) K N (nI (cnt left pk - cnt left t)) (nI t) := by
  have hl31 : left < 2 ^ 31 := Nat.lt_trans hl (by decide)
  intro N
  induction N with
  | zero => intro t h; omega
  | succ N ih =>
    intro t h1 h2
    have c1 := cnt_succ left t
    have c2 := cnt_le left pk
    rw [lp_X3_read_53]
    have step : t < pk → ∀ x : Int32, x = nI (cnt left pk - cnt left t) - (nI left >>> (nI t &&& 31) &&& 1) → lp_X3_read_53 (nI left) K N x (nI t + 1) := by
      intro q x hx
      have c3 := cnt_mono left (show t + 1 ≤ pk by omega)
      rw [i_bit hl31 (by omega), pk_sub (by omega)] at hx
      have e : x = nI (cnt left pk - cnt left (t + 1)) := by rw [hx]; congr 1; omega
      rw [e, nI_1]
      exact ih (t + 1) (by omega) (by omega)
    refine b_lt (a := 0) (by decide) (by omega) (fun h => ?_) (fun h => ?_)
    · refine step ?_
      rcases Nat.lt_or_ge t pk with q | q
      · exact q
      · have : t = pk := by omega
        subst this; omega
    · refine s_has hl31 (by omega) (fun b => ?_) (fun b => ?_)
      · refine ⟨fun _ => ?_, fun q => absurd q (by decide)⟩
        have : t = pk := by
          rcases Nat.lt_or_ge t pk with q | q
          · have c3 := cnt_mono left (show t + 1 ≤ pk by omega)
            rw [c1, b] at c3
            have : (true).toNat = 1 := rfl
            omega
          · omega
        subst this
        exact hK _
      · refine ⟨fun q => absurd rfl q, fun _ => ?_⟩
        refine step ?_
        rcases Nat.lt_or_ge t pk with q | q
        · exact q
        · have : t = pk := by omega
          subst this; rw [hb] at b; cases b
theorem l_read15 {n : Nat} {p : List Nat} (hn : n ≤ 8) (hp : IsP n p) {K : Int32 → Int32 → Int32 → (Nat → Int32) → Prop} (hK : ∀ a b c g, At g p → K a b c g) : ∀ N k left g, n - k < N → k ≤ n → Holds left (p.drop k) → (∀ j, j < k → g j = nI (p.getD j 0)) → lp_X3_read_15 (nI n) K N (nI (rank (p.drop k))) (nI left) (nI k) g := by
  have hlen := hp.len
  intro N
  induction N with
  | zero => intro k left g h; omega
  | succ N ih =>
    intro k left g h1 h2 h3 h4
    rw [lp_X3_read_15]
    refine b_le (by omega) (by omega) (fun h => ?_) (fun h => ?_)
    · have : k = n := by omega
      subst this
      exact hK _ _ _ _ (fun j hj => h4 j (by omega))
    · have hpk := hp.lt h
      have e1 : nI n - 1 - nI k = nI (n - 1 - k) := by
        rw [show (1 : Int32) = nI 1 from rfl, pk_sub (by omega), pk_sub (by omega)]
      rw [e1]
      refine s_fac (by omega) ?_
      have hf := fac_pos (n - 1 - k)
      have hfl : fac (n - 1 - k) ≤ 40320 := fac_le (by omega)
      have hne : ¬ nI (fac (n - 1 - k)) = 0 := nI_ne0 hf (by omega)
      have hr : rank (p.drop k) < 40320 := by
        have := rank_lt (p.drop k)
        rw [List.length_drop, hlen] at this
        exact Nat.lt_of_lt_of_le this (fac_le (by omega))
      have hd : rank (p.drop k) = less (p.getD k 0) (p.drop (k + 1)) * fac (n - 1 - k) + rank (p.drop (k + 1)) := by
        have := rank_drop (p := p) (k := k) (by omega)
        rwa [hlen, show n - (k + 1) = n - 1 - k by omega] at this
      have hr2 : rank (p.drop (k + 1)) < fac (n - 1 - k) := by
        have := rank_lt (p.drop (k + 1))
        rwa [List.length_drop, hlen, show n - (k + 1) = n - 1 - k by omega] at this
      refine ⟨hne, fun x hx => ⟨hne, fun y hy => ?_⟩⟩
      have ex : x = nI (less (p.getD k 0) (p.drop (k + 1))) := by
        rw [hx, pk_div (by omega) hf (by omega), hd, Nat.add_comm, Nat.add_mul_div_right _ _ hf, Nat.div_eq_of_lt hr2, Nat.zero_add]
      have ey : y = nI (rank (p.drop (k + 1))) := by
        rw [hy, pk_rem (by omega) hf (by omega), hd, Nat.add_comm, Nat.add_mul_mod_self_right, Nat.mod_eq_of_lt hr2]
      refine ⟨9, ?_⟩
      rw [ex, ← cnt_drop hp h h3]
      have hb : left.testBit (p.getD k 0) = true := by
        rw [h3.2, drop_cons (by omega)]; simp
      refine l_read53 h3.1 (by omega) hb (fun v => ?_) 9 0 (by omega) (Nat.zero_le _)
      refine ⟨vp_in_nI (by omega) (by decide), fun z hz => ?_⟩
      rw [i_shl (by omega), i_clear (Nat.lt_trans h3.1 (by decide)) (by omega)] at hz
      rw [hz, ey, nI_1, nI_c (by omega)]
      refine ih (k + 1) _ _ (by omega) (by omega) (h3.next hp hn h) (fun j hj => ?_)
      by_cases e : j = k
      · subst e; exact if_pos rfl
      · rw [show upd g k (nI (p.getD k 0)) j = g j from if_neg e]
        exact h4 j (by omega)
theorem s_read {n : Nat} {p : List Nat} (hn : n ≤ 8) (hp : IsP n p) {f : Nat → Int32} {post : (Nat → Int32) → Prop} (h : ∀ g, At g p → post g) : wp_X3_read (nI n) f (nI (rank p)) post := by
  unfold wp_X3_read
  intro x hx
  have e : x = nI (2 ^ n - 1) := by
    rw [hx, i_shl (by omega), show (1 : Int32) = nI 1 from rfl, pk_sub (Nat.two_pow_pos n)]
  rw [e]
  have h0 : rank p = rank (p.drop 0) := by rw [List.drop_zero]
  rw [h0]
  exact ⟨n + 1, l_read15 hn hp (fun _ _ _ g hg => h g hg) (n + 1) 0 _ f (by omega) (Nat.zero_le n) (Holds.full hp hn) (fun j hj => by omega)⟩
/-- the model's shift: an arrangement behind a move -/
theorem s_shift {n m : Nat} {s p : List Nat} (hn : n ≤ 8) (hm : m < 12) (hs : IsP n s) (hp : IsP n p) {fr f g : Nat → Int32} (hfr : ∀ j, j < n → fr (8 * m + j) = nI (s.getD j 0)) (hf : At f p) {post : (Nat → Int32) → Prop} (h : ∀ g', At g' (act s p) → post g') : wp_X3_shift (nI n) fr f g (nI m) post := by
  unfold wp_X3_shift
  refine up_ex (fun N k a => lp_X3_shift_3 f fr (nI n) (nI m) (fun _ c => post c) N k a) n (fun k a => ∀ j, j < k → a j = nI ((act s p).getD j 0)) g (fun j hj => by omega) (fun N a hI => ?_) (fun N k a hk hI ih => ?_)
  · show lp_X3_shift_3 f fr (nI n) (nI m) (fun _ c => post c) (N + 1) (nI n) a
    rw [lp_X3_shift_3]
    refine b_le (by omega) (by omega) (fun _ => h a (fun j hj => hI j (by rw [act_len, hs.len] at hj; exact hj))) (fun q => by omega)
  · show lp_X3_shift_3 f fr (nI n) (nI m) (fun _ c => post c) (N + 1) (nI k) a
    rw [lp_X3_shift_3]
    refine b_le (by omega) (by omega) (fun q => by omega) (fun _ => ?_)
    have e : (8 : Int32) * nI m + nI k = nI (8 * m + k) := by
      rw [show (8 : Int32) = nI 8 from rfl, pk_mul, nI_add]
    rw [e, nI_c (show 8 * m + k < 2 ^ 31 by omega), hfr k hk, nI_c (show k < 2 ^ 31 by omega)]
    have hsk := hs.lt hk
    rw [nI_c (show s.getD k 0 < 2 ^ 31 by omega), hf _ (by rw [hp.len]; exact hsk), nI_1]
    refine ⟨vp_in_nI (by omega) (by decide), vp_in_nI (by omega) (by decide), vp_in_nI (by omega) (by decide), ih _ (fun j hj => ?_)⟩
    by_cases q : j = k
    · subst q
      rw [show upd a j (nI (p.getD (s.getD j 0) 0)) j = nI (p.getD (s.getD j 0) 0) from if_pos rfl, act_get (by rw [hs.len]; exact hk)]
    · rw [show upd a k (nI (p.getD (s.getD k 0) 0)) j = a j from if_neg q]
      exact hI j (by omega)
