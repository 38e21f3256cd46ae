/-! the class's search -/
def nu (p : List Nat) : Nat := rank (inv p)
theorem Nu.nu (n : Nat) : Nu n nu := ⟨fun p h => rank_ltP h.invP, fun p q hp hq h => by
  have h1 := rank_injP hp.invP hq.invP h
  rw [← hp.invInv, h1, hq.invInv]⟩
theorem bit_and (m k : Nat) : m &&& 2 ^ k = if m.testBit k = true then 2 ^ k else 0 := by
  apply Nat.eq_of_testBit_eq
  intro j
  rw [Nat.testBit_and, Nat.testBit_two_pow]
  by_cases e : k = j
  · subst e
    by_cases h : m.testBit k = true
    · rw [if_pos h, h, Nat.testBit_two_pow]; simp
    · rw [if_neg h]; simp at h; simp [h]
  · by_cases h : m.testBit k = true
    · rw [if_pos h, Nat.testBit_two_pow]; simp [e]
    · rw [if_neg h]; simp [e]
theorem i_band {m k : Nat} (hk : k < 31) : nI m &&& ((1 : Int32) <<< (nI k &&& 31)) = nI (if m.testBit k = true then 2 ^ k else 0) := by
  rw [i_shl hk, i_and, bit_and]
theorem c_bit {m k : Nat} (hk : k < 31) {A B : Prop} (h0 : m.testBit k = false → A) (h1 : m.testBit k = true → B) : ((nI m &&& ((1 : Int32) <<< (nI k &&& 31))) = 0 → A) ∧ (¬ (nI m &&& ((1 : Int32) <<< (nI k &&& 31))) = 0 → B) := by
  rw [i_band hk]
  cases hb : m.testBit k
  · rw [if_neg (by decide)]
    exact ⟨fun _ => h0 hb, fun z => absurd rfl z⟩
  · rw [if_pos rfl]
    refine ⟨fun z => ?_, fun _ => h1 hb⟩
    have hp : 2 ^ k < 2 ^ 31 := Nat.pow_lt_pow_right (by decide) hk
    have h2 : (0 : Int32) = nI 0 := rfl
    rw [h2] at z
    have h3 := (nI_eq hp (by decide)).mp z
    have h4 : 0 < 2 ^ k := Nat.pow_pos (by decide)
    omega
theorem i_bk : ∀ m, m < 12 → nI m ^^^ 1 = nI (bk m) := by decide
theorem bit_lt {mask k b : Nat} (h : mask < 2 ^ b) (hb : mask.testBit k = true) : k < b := by
  by_cases q : k < b
  · exact q
  · have : mask.testBit k = false := Nat.testBit_lt_two_pow (Nat.lt_of_lt_of_le h (Nat.pow_le_pow_right (by decide) (by omega)))
    rw [this] at hb; cases hb
/-- the class's table of moves -/
def En (n tu : Nat) (T : Nat → List Nat) (en : Nat → Nat → Int32) : Prop := tu ≤ 6 ∧ ∀ m, m < 2 * tu → IsP n (T m) ∧ ∀ p, IsP n p → en m (nu p) = nI (nu (act (T m) p))
theorem s_reach {n rm : Nat} (hn : n ≤ 8) (h1 : fac n ≤ rm) (h2 : rm ≤ 40320) {L : List (List Nat × Nat)} {le fo : Nat → Int32} (hR : Rp n nu L le fo) {i d : Nat} {x y : List Nat} (hi : L[i]? = some (x, d)) (hy : IsP n y) {post : (Int32 × (Nat → Int32) × (Nat → Int32)) → Prop} (h : ∀ le' fo', Rp n nu (vis y d L) le' fo' → post (nI (vis y d L).length, le', fo')) : wp_X1_reach (nI L.length) le fo rm (nI (nu y)) (nI (nu x)) post := by
  have hny := (Nu.nu n).1 y hy
  have hx : IsP n x := hR.1.1 _ (List.mem_of_getElem? hi)
  have hnx := (Nu.nu n).1 x hx
  have hil : i < L.length := (List.getElem?_eq_some_iff.mp hi).1
  have hd : d ≤ i := hR.1.2.2 i _ hi
  have hlen := hR.1.len
  unfold wp_X1_reach
  rw [nI_c (n := nu y) (by omega), nI_c (n := nu x) (by omega), nI_c (n := L.length) (by omega)]
  refine ⟨vp_in_nI (by omega) (by omega), ?_⟩
  by_cases hm : y ∈ L.map (·.1)
  · obtain ⟨i', d', hq⟩ := mem_fst hm
    have h3 := (hR.2.1 _ _ hq).2
    have h4 := hR.depth hn hq
    rw [h3]
    have hv : vis y d L = L := if_pos hm
    refine ⟨fun _ => ?_, fun z => absurd z (nI_neg1 (by omega))⟩
    have := h le fo
    rw [hv] at this
    exact this hR
  · have h3 := hR.2.2 _ hy hm
    have hv : vis y d L = L ++ [(y, d + 1)] := if_neg hm
    rw [h3]
    refine ⟨fun z => absurd rfl z, fun _ => ?_⟩
    have hll : L.length < fac n := by
      have := (hR.1.add hy hm (d := d) (by omega)).len
      rw [List.length_append] at this
      simp only [List.length_cons, List.length_nil] at this
      omega
    refine ⟨vp_in_nI (by omega) (by omega), vp_in_nI (by omega) (by omega), vp_in_nI (by omega) (by omega), fun z hz => ?_⟩
    have h6 := (hR.2.1 _ _ hi).2
    rw [h6, show nI d + 1 = nI (d + 1) from nI_add d 1]
    have hz2 : z = nI (L ++ [(y, d + 1)]).length := by
      rw [hz, List.length_append]; exact nI_add _ 1
    rw [hz2]
    have := h (upd le (nu y) (nI (d + 1))) (upd fo L.length (nI (nu y)))
    rw [hv] at this
    exact this (hR.new (Nu.nu n) hy hm (by omega))
theorem l_meas45 {n tu mask i d rm : Nat} {T : Nat → List Nat} {en : Nat → Nat → Int32} {x : List Nat} {L0 : List (List Nat × Nat)} (hn : n ≤ 8) (hr1 : fac n ≤ rm) (hr2 : rm ≤ 40320) (hmask : mask < 2 ^ (2 * tu)) (hE : En n tu T en) (hi : L0[i]? = some (x, d)) {K : Int32 → Int32 → (Nat → Int32) → (Nat → Int32) → Prop} (hK : ∀ a le fo, Rp n nu (exps (bst T) x d (mvs mask 12) L0) le fo → K a (nI (exps (bst T) x d (mvs mask 12) L0).length) le fo) : ∀ N m le fo, 12 - m < N → m ≤ 12 → Rp n nu (exps (bst T) x d (mvs mask m) L0) le fo → lp_X1_measure_45 en rm (nI mask) (nI i) K N (nI m) (nI (exps (bst T) x d (mvs mask m) L0).length) le fo := by
  have htu := hE.1
  intro N
  induction N with
  | zero => intro m le fo h; omega
  | succ N ih =>
    intro m le fo h1 hm hR
    rw [lp_X1_measure_45]
    refine b_le (a := 12) (by omega) (by omega) (fun h => ?_) (fun h => ?_)
    · have e : m = 12 := by omega
      subst e
      exact hK _ le fo hR
    · have hs : mvs mask (m + 1) = mvs mask m ++ (if mask.testBit m = true then [m] else []) := mvs_succ mask m
      have hn1 := ih (m + 1)
      rw [show nI m + 1 = nI (m + 1) from nI_add m 1]
      refine c_bit (by omega) (fun hb => ?_) (fun hb => ?_)
      · rw [if_neg (by rw [hb]; decide), List.append_nil] at hs
        rw [hs] at hn1
        exact hn1 le fo (by omega) (by omega) hR
      · rw [if_pos hb] at hs
        have hm2 : m < 2 * tu := bit_lt hmask hb
        have hbk : bk m < 2 * tu := bk_lt hm2
        obtain ⟨hTp, hTe⟩ := hE.2 (bk m) hbk
        rw [hs, exps_app, exps_one] at hn1
        generalize hLe : exps (bst T) x d (mvs mask m) L0 = L at hR hn1 ⊢
        have hLi : L[i]? = some (x, d) := by rw [← hLe]; exact pre_get (exps_pre _ _ _ _ _) hi
        have hil : i < L.length := (List.getElem?_eq_some_iff.mp hLi).1
        have hlen := hR.1.len
        have hx : IsP n x := hR.1.1 _ (List.mem_of_getElem? hLi)
        have hnx := (Nu.nu n).1 x hx
        have h6 : fo i = nI (nu x) := (hR.2.1 _ _ hLi).1
        rw [i_bk m (by omega), nI_c (n := i) (by omega), h6, nI_c (n := bk m) (by omega), nI_c (n := nu x) (by omega), hTe x hx]
        refine ⟨vp_in_nI (by omega) (by decide), vp_in_nI (by omega) (by omega), vp_in_nI (by omega) (by omega), vp_in_nI (by omega) (by omega), ?_⟩
        exact s_reach hn hr1 hr2 hR hLi (hTp.actP hx) (fun le' fo' hR' => hn1 le' fo' (by omega) (by omega) hR')
theorem l_meas25 {n tu mask rm : Nat} {T : Nat → List Nat} {en : Nat → Nat → Int32} {L0 : List (List Nat × Nat)} (hn : n ≤ 8) (hr1 : fac n ≤ rm) (hr2 : rm ≤ 40320) (hmask : mask < 2 ^ (2 * tu)) (hE : En n tu T en) {K : Int32 → Int32 → (Nat → Int32) → (Nat → Int32) → Prop} (hK : ∀ a le fo, Rp n nu (whl n (bst T) (mvs mask 12) L0) le fo → K a (nI (whl n (bst T) (mvs mask 12) L0).length) le fo) : ∀ N i le fo, fac n - i < N → i ≤ (bf (bst T) (mvs mask 12) L0 i).length → Rp n nu (bf (bst T) (mvs mask 12) L0 i) le fo → lp_X1_measure_25 en rm (nI mask) K N (nI i) (nI (bf (bst T) (mvs mask 12) L0 i).length) le fo := by
  intro N
  induction N with
  | zero => intro i le fo h; omega
  | succ N ih =>
    intro i le fo h1 hi hR
    have hlf := hR.1.len
    rw [lp_X1_measure_25]
    refine b_le (by omega) (by omega) (fun h => ?_) (fun h => ?_)
    · have e : whl n (bst T) (mvs mask 12) L0 = bf (bst T) (mvs mask 12) L0 i := by
        have := bf_stop h (fac n - i)
        rw [Nat.add_sub_cancel' (by omega)] at this
        exact this
      rw [← e] at hR ⊢
      exact hK _ le fo hR
    · refine b_le (by omega) (by omega) (fun h' => ?_) (fun h' => ?_)
      · exfalso; omega
      · have hq : (bf (bst T) (mvs mask 12) L0 i)[i]? = some ((bf (bst T) (mvs mask 12) L0 i)[i]'h) := List.getElem?_eq_getElem h
        generalize hqe : (bf (bst T) (mvs mask 12) L0 i)[i]'h = q at hq
        have hst := bf_step hq
        refine ⟨12 + 1, ?_⟩
        rw [← nI_0]
        refine l_meas45 (i := i) (d := q.2) (x := q.1) hn hr1 hr2 hmask hE hq (fun a le' fo' hR' => ?_) (12 + 1) 0 le fo (by omega) (by omega) hR
        have hR2 : Rp n nu (bf (bst T) (mvs mask 12) L0 (i + 1)) le' fo' := by rw [hst]; exact hR'
        have hl2 : i + 1 ≤ (bf (bst T) (mvs mask 12) L0 (i + 1)).length := by
          have := pre_len (bf_pre (bst T) (mvs mask 12) L0 i)
          omega
        have hh := ih (i + 1) le' fo' (by omega) hl2 hR2
        rw [hst] at hh
        rw [show nI i + 1 = nI (i + 1) from nI_add i 1]
        exact hh

theorem l_start2 {n rm : Nat} (hn : n ≤ 8) (h1 : fac n ≤ rm) (h2 : rm ≤ 40320) {K : Int32 → (Nat → Int32) → Prop} (hK : ∀ a le, (∀ j, j < fac n → le j = -1) → K a le) : ∀ N i le, fac n - i < N → i ≤ fac n → (∀ j, j < i → le j = -1) → lp_X1_startAt_2 rm (nI (fac n)) K N (nI i) le := by
  have hf := fac_le hn
  intro N
  induction N with
  | zero => intro i le h; omega
  | succ N ih =>
    intro i le h3 hi hle
    rw [lp_X1_startAt_2]
    refine b_le (by omega) (by omega) (fun h => ?_) (fun h => ?_)
    · exact hK _ le (fun j hj => hle j (by omega))
    · refine ⟨vp_in_nI (by omega) (by omega), ?_⟩
      rw [nI_c (by omega), show nI i + 1 = nI (i + 1) from nI_add i 1]
      refine ih (i + 1) _ (by omega) (by omega) (fun j hj => ?_)
      by_cases e : j = i
      · exact if_pos e
      · rw [show upd le i (-1) j = le j from if_neg e]; exact hle j (by omega)
theorem s_startAt {n rm : Nat} (hn : n ≤ 8) (h1 : fac n ≤ rm) (h2 : rm ≤ 40320) {x : List Nat} (hx : IsP n x) {le fo : Nat → Int32} {post : (Int32 × (Nat → Int32) × (Nat → Int32)) → Prop} (h : ∀ le' fo', Rp n nu [(x, 0)] le' fo' → post (1, le', fo')) : wp_X1_startAt le fo rm (nI (nu x)) (nI (fac n)) post := by
  have hnx := (Nu.nu n).1 x hx
  unfold wp_X1_startAt
  refine ⟨fac n + 1, l_start2 hn h1 h2 (fun a le' hl => ?_) (fac n + 1) 0 le (by omega) (Nat.zero_le _) (fun j hj => by omega)⟩
  have hR : Rp n nu [] le' fo := by
    refine ⟨⟨fun q hq => absurd hq (List.not_mem_nil), List.nodup_nil, fun i q hq => ?_⟩, fun i q hq => ?_, fun y hy _ => hl _ ((Nu.nu n).1 y hy)⟩
    · simp at hq
    · simp at hq
  rw [nI_c (n := nu x) (by omega)]
  refine ⟨vp_in_nI (by omega) (by omega), ?_, ?_⟩
  · rw [← nI_0]; exact vp_in_nI (by omega) (by omega)
  · exact h _ _ (hR.put (Nu.nu n) hx (by simp) (Nat.zero_le _))
theorem nu_range (n : Nat) : nu (List.range n) = 0 := by
  have h : inv (List.range n) = List.range n := by
    have := act_range (n := n) (p := inv (List.range n)) (by rw [inv_len, List.length_range])
    have h2 := act_inv (IsP.id n) (IsP.id n)
    refine getD_ext (by rw [inv_len]) fun j hj => ?_
    rw [inv_len, List.length_range] at hj
    have h3 := (IsP.id n).at_inv hj
    have h4 := (IsP.id n).invP.lt hj
    rw [getD_range h4] at h3
    rw [h3, getD_range hj]
  unfold nu
  rw [h, rank_range]
/-- a kept search: what it holds belongs to the mask that it knows -/
def Kp (n tu : Nat) (T : Nat → List Nat) (to kn : Int32) (le fo : Nat → Int32) : Prop :=
  ∀ mask, mask < 2 ^ (2 * tu) → kn = nI mask → to = nI (fnd n tu T mask).length ∧ Rp n nu (fnd n tu T mask) le fo
theorem mvs_all {mask tu : Nat} (htu : tu ≤ 6) (h : mask < 2 ^ (2 * tu)) : mvs mask 12 = mvs mask (2 * tu) := by
  have := mvs_more (M := 2 * tu) h (12 - 2 * tu)
  rwa [Nat.add_sub_cancel' (by omega)] at this
theorem s_measure {n tu mask rm : Nat} {T : Nat → List Nat} {en : Nat → Nat → Int32} {to kn : Int32} {le fo : Nat → Int32} (hn : n ≤ 8) (hr1 : fac n ≤ rm) (hr2 : rm ≤ 40320) (hmask : mask < 2 ^ (2 * tu)) (hE : En n tu T en) (hk : Kp n tu T to kn le fo) {post : (Int32 × Int32 × (Nat → Int32) × (Nat → Int32)) → Prop} (h : ∀ le fo, Rp n nu (fnd n tu T mask) le fo → post (nI (fnd n tu T mask).length, nI mask, le, fo)) : wp_X1_measure to kn le fo (nI (fac n)) en rm (nI mask) post := by
  have hm : mvs mask 12 = mvs mask (2 * tu) := mvs_all hE.1 hmask
  unfold wp_X1_measure
  refine ⟨fun _ => ?_, fun e => ?_⟩
  · show wp_X1_startAt le fo rm (nI 0) (nI (fac n)) _
    rw [← nu_range n]
    refine s_startAt hn hr1 hr2 (IsP.id n) (fun le' fo' hR => ?_)
    refine ⟨fac n + 1, l_meas25 (L0 := [(List.range n, 0)]) hn hr1 hr2 hmask hE (fun a le fo hR' => ?_) (fac n + 1) 0 le' fo' (by omega) (Nat.zero_le _) hR⟩
    rw [hm] at hR' ⊢
    exact h le fo hR'
  · obtain ⟨h1, h2⟩ := hk mask hmask e
    rw [h1, e]
    exact h le fo h2
