/-! the even arrangements of a group: all, or half of them -/
def evC (n : Nat) (L : List (List Nat × Nat)) : Nat := L.countP (fun q => decide (ivn q.1 n % 2 = 0))
theorem evC_step {n : Nat} {L : List (List Nat × Nat)} {i : Nat} {q : List Nat × Nat} (h : L[i]? = some q) : evC n (L.take (i + 1)) = evC n (L.take i) + (if ivn q.1 n % 2 = 0 then 1 else 0) := by
  unfold evC
  rw [List.take_add_one, h, List.countP_append]
  by_cases e : ivn q.1 n % 2 = 0 <;> simp [e]
theorem even_all {n tu mask : Nat} {T : Nat → List Nat} (hT : Tw n tu T) (h : ∀ m, m < 2 * tu → mask.testBit m = true → ivn (T m) n % 2 = 0) : ∀ d y, (y, d) ∈ fnd n tu T mask → ivn y n % 2 = 0 := by
  have hW := fnd_Wh hT mask
  intro d
  induction d with
  | zero =>
    intro y hy
    have h1 := hW.zero hy
    rw [List.mem_singleton] at h1
    have e : y = List.range n := congrArg Prod.fst h1
    rw [e, ivn_range]
  | succ d ih =>
    intro y hy
    obtain ⟨x, m, h1, h2, h3⟩ := hW.par one_0 hy
    obtain ⟨h4, h5⟩ := mvs_mem.mp h2
    have hxP := hW.1.P h1
    have h6 := ih x h1
    have h7 := h m h4 h5
    have h8 := ivn_mod (hT.bkP h4) hxP
    have h9 : ivn (T (bk m)) n % 2 = ivn (T m) n % 2 := by rw [(hT.2 m h4).2]; exact ivn_inv (hT.P h4)
    rw [h3]
    show ivn (act (T (bk m)) x) n % 2 = 0
    omega
theorem evC_all {n tu mask : Nat} {T : Nat → List Nat} (hT : Tw n tu T) (h : ∀ m, m < 2 * tu → mask.testBit m = true → ivn (T m) n % 2 = 0) : evC n (fnd n tu T mask) = (fnd n tu T mask).length := by
  unfold evC
  rw [List.countP_eq_length]
  intro q hq
  exact decide_eq_true (even_all hT h q.2 q.1 hq)
theorem nodup_map_on {f : List Nat → List Nat} : ∀ {l : List (List Nat)}, l.Nodup → (∀ a, a ∈ l → ∀ b, b ∈ l → f a = f b → a = b) → (l.map f).Nodup := by
  intro l hl hf
  rw [List.nodup_iff_pairwise_ne] at hl ⊢
  rw [List.pairwise_map]
  exact hl.imp_of_mem (fun {a b} ha hb hne e => hne (hf a ha b hb e))
theorem len_filter_le {l : List (List Nat)} (hn : l.Nodup) {P Q : List Nat → Bool} {f : List Nat → List Nat} (hf : ∀ a, a ∈ l → ∀ b, b ∈ l → f a = f b → a = b) (hl : ∀ a, a ∈ l → f a ∈ l) (hPQ : ∀ a, a ∈ l → P a = true → Q (f a) = true) : (l.filter P).length ≤ (l.filter Q).length := by
  have h1 : ((l.filter P).map f).Nodup := nodup_map_on (hn.filter _) (fun a ha b hb => hf a (List.mem_filter.mp ha).1 b (List.mem_filter.mp hb).1)
  have h2 := h1.length_le_of_subset (l₂ := l.filter Q) (fun x hx => by
    obtain ⟨a, ha, rfl⟩ := List.mem_map.mp hx
    obtain ⟨h3, h4⟩ := List.mem_filter.mp ha
    exact List.mem_filter.mpr ⟨hl a h3, hPQ a h3 h4⟩)
  rwa [List.length_map] at h2
theorem evC_half {n tu mask m : Nat} {T : Nat → List Nat} (hT : Tw n tu T) (hm : m < 2 * tu) (hb : mask.testBit m = true) (ho : ivn (T m) n % 2 = 1) : 2 * evC n (fnd n tu T mask) = (fnd n tu T mask).length := by
  have hW := fnd_Wh hT mask
  have hG := hW.1
  generalize fnd n tu T mask = L at hW hG ⊢
  have hpar : ∀ y, IsP n y → ivn (bst T m y) n % 2 = (1 + ivn y n) % 2 := by
    intro y hy
    have h8 := ivn_mod (hT.bkP hm) hy
    have h9 : ivn (T (bk m)) n % 2 = ivn (T m) n % 2 := by rw [(hT.2 m hm).2]; exact ivn_inv (hT.P hm)
    show ivn (act (T (bk m)) y) n % 2 = _
    omega
  have hmem : ∀ a, a ∈ L.map (·.1) → ∃ d, (a, d) ∈ L := fun a ha => by
    obtain ⟨q, hq, e⟩ := List.mem_map.mp ha
    exact ⟨q.2, by rw [← e]; exact hq⟩
  have hP : ∀ a, a ∈ L.map (·.1) → IsP n a := fun a ha => by
    obtain ⟨d, hd⟩ := hmem a ha
    exact hG.1 _ hd
  have hinj : ∀ a, a ∈ L.map (·.1) → ∀ b, b ∈ L.map (·.1) → bst T m a = bst T m b → a = b := fun a ha b hb e => by
    have := congrArg (act (T m)) e
    rwa [bst_go hT hm (hP a ha), bst_go hT hm (hP b hb)] at this
  have hcl : ∀ a, a ∈ L.map (·.1) → bst T m a ∈ L.map (·.1) := fun a ha => by
    obtain ⟨d, hd⟩ := hmem a ha
    obtain ⟨d', _, h2⟩ := hW.2.2.2.1 a d hd m (mvs_mem.mpr ⟨hm, hb⟩)
    exact List.mem_map.mpr ⟨_, h2, rfl⟩
  have e1 : evC n L = ((L.map (·.1)).filter (fun a => decide (ivn a n % 2 = 0))).length := by
    unfold evC
    rw [List.countP_eq_length_filter, List.filter_map, List.length_map]
    rfl
  have l1 := len_filter_le hG.2.1 (P := fun a => decide (ivn a n % 2 = 0)) (Q := fun a => ! decide (ivn a n % 2 = 0)) hinj hcl (fun a ha h => by
    have := hpar a (hP a ha)
    simp only [decide_eq_true_eq] at h
    simp only [Bool.not_eq_true', decide_eq_false_iff_not]
    omega)
  have l2 := len_filter_le hG.2.1 (P := fun a => ! decide (ivn a n % 2 = 0)) (Q := fun a => decide (ivn a n % 2 = 0)) hinj hcl (fun a ha h => by
    have := hpar a (hP a ha)
    simp only [Bool.not_eq_true', decide_eq_false_iff_not] at h
    simp only [decide_eq_true_eq]
    omega)
  have l3 := List.length_eq_countP_add_countP (p := fun a => decide (ivn a n % 2 = 0)) (l := L.map (·.1))
  rw [List.countP_eq_length_filter, List.countP_eq_length_filter, List.length_map] at l3
  have e2 : ((L.map (·.1)).filter (fun a => decide ¬ (decide (ivn a n % 2 = 0)) = true)).length = ((L.map (·.1)).filter (fun a => ! decide (ivn a n % 2 = 0))).length := by
    congr 1
    refine List.filter_congr (fun a _ => ?_)
    show decide (¬ (decide (ivn a n % 2 = 0)) = true) = !(decide (ivn a n % 2 = 0))
    cases decide (ivn a n % 2 = 0) <;> rfl
  rw [e1]
  omega
/-! the model counts them -/
theorem l_evens {n : Nat} (hn : n ≤ 8) {L : List (List Nat × Nat)} {fa li : Nat → Int32} (hR : Rp n rank L fa li) {K : Int32 → Int32 → (Nat → Int32) → Prop} (hK : ∀ a no, K (nI (evC n L)) a no) : ∀ N i no, L.length - i < N → i ≤ L.length → lp_X3_evenOnes_4 li (nI n) (nI L.length) K N (nI (evC n (L.take i))) (nI i) no := by
  have hl := hR.1.len
  have hf := fac_le hn
  intro N
  induction N with
  | zero => intro i no h; omega
  | succ N ih =>
    intro i no h1 hi
    rw [lp_X3_evenOnes_4]
    refine b_le (by omega) (by omega) (fun h => ?_) (fun h => ?_)
    · have e : i = L.length := by omega
      subst e
      rw [List.take_length]
      exact hK _ no
    · obtain ⟨q, hq, h2, h3, h4⟩ := hR.at' (Nu.rank n) h
      have hqP : IsP n q.1 := hR.1.1 q (List.mem_of_getElem? hq)
      have hst := evC_step (n := n) hq
      rw [nI_c (n := i) (by omega), h2]
      refine ⟨vp_in_nI (by omega) (by decide), ?_⟩
      refine s_read hn hqP (fun g hg => ?_)
      refine s_isEvenM hn hqP hg ?_
      rw [show nI i + 1 = nI (i + 1) from nI_add i 1]
      refine ⟨fun e x hx => ?_, fun e x hx => ?_⟩
      · rw [evI_0] at e
        rw [if_neg (by omega)] at hst
        rw [hx, show ∀ k, nI k + 0 = nI (k + 0) from fun k => nI_add k 0, ← hst]
        exact ih (i + 1) g (by omega) (by omega)
      · rw [evI_0] at e
        rw [if_pos (by omega)] at hst
        rw [hx, show ∀ k, nI k + 1 = nI (k + 1) from fun k => nI_add k 1, ← hst]
        exact ih (i + 1) g (by omega) (by omega)
theorem s_evenOnes {n : Nat} (hn : n ≤ 8) {L : List (List Nat × Nat)} {fa li no : Nat → Int32} (hR : Rp n rank L fa li) {post : Int32 → (Nat → Int32) → Prop} (h : ∀ no, post (nI (evC n L)) no) : wp_X3_evenOnes (nI n) (nI L.length) no li post :=
  ⟨L.length + 1, l_evens hn hR (K := fun v_10 v_11 c_12 => post v_10 c_12) (fun _ no => h no) (L.length + 1) 0 no (by omega) (Nat.zero_le _)⟩
/-! the class looks at the moves alone -/
theorem l_cea {n tu mask : Nat} {T : Nat → List Nat} (hn : n ≤ 8) (hn1 : 1 ≤ n) (hT : Tw n tu T) {so : Nat → Nat → Int32} (hso : ∀ m, m < 2 * tu → At (so m) (T m)) {K41 K51 : Int32 → Prop} (h1 : ∀ a m, m < 2 * tu → mask.testBit m = true → ivn (T m) n % 2 = 1 → K41 a) (h2 : ∀ a, (∀ m, m < 2 * tu → mask.testBit m = true → ivn (T m) n % 2 = 0) → K51 a) : ∀ N k, 2 * tu - k < N → k ≤ 2 * tu → (∀ m, m < k → mask.testBit m = true → ivn (T m) n % 2 = 0) → lp_X2_countEvenArrangements_10 (nI mask) (nI n) so (nI tu) K41 K51 N (nI k) := by
  have htu := hT.1
  intro N
  induction N with
  | zero => intro k h; omega
  | succ N ih =>
    intro k g1 g2 g3
    rw [lp_X2_countEvenArrangements_10, show (2 : Int32) * nI tu = nI (2 * tu) from pk_mul 2 tu, show nI k + 1 = nI (k + 1) from nI_add k 1]
    refine b_le (by omega) (by omega) (fun h => ?_) (fun h => ?_)
    · have : k = 2 * tu := by omega
      subst this
      exact h2 _ g3
    · refine s_isAllowedC htu (fun j hj ej hb => ?_) (fun hb => ?_)
      · have : k = j := (nI_eq (by omega) (by omega)).mp ej
        subst this
        refine ⟨fun z => absurd z (by decide), fun _ => ⟨vp_in_nI (by omega) (by decide), ?_⟩⟩
        rw [nI_c (n := k) (by omega)]
        refine s_isEvenC hn hn1 (hT.P h) (hso k h) ?_
        refine ⟨fun e => ih (k + 1) (by omega) (by omega) (fun m hm hbm => ?_), fun e => ?_⟩
        · by_cases q : m = k
          · subst q
            rw [evI_0] at e
            omega
          · exact g3 m (by omega) hbm
        · rw [evI_0] at e
          exact h1 _ k h hb e
      · refine ⟨fun _ => ih (k + 1) (by omega) (by omega) (fun m hm hbm => ?_), fun z => absurd rfl z⟩
        by_cases q : m = k
        · subst q
          rw [hb m h rfl] at hbm
          cases hbm
        · exact g3 m (by omega) hbm
theorem s_countEven {n tu mask rm : Nat} {T : Nat → List Nat} {en so : Nat → Nat → Int32} {to kn : Int32} {le fo : Nat → Int32} (hn : n ≤ 8) (hn1 : 1 ≤ n) (hr1 : fac n ≤ rm) (hr2 : rm ≤ 40320) (hT : Tw n tu T) (hmask : mask < 2 ^ (2 * tu)) (hE : En n tu T en) (hso : ∀ m, m < 2 * tu → At (so m) (T m)) (hk : Kp n tu T to kn le fo) {post : Int32 → (Int32 × Int32 × (Nat → Int32) × (Nat → Int32)) → Prop} (h : ∀ le fo, Rp n nu (fnd n tu T mask) le fo → post (nI (evC n (fnd n tu T mask))) (nI (fnd n tu T mask).length, nI mask, le, fo)) : wp_X2_countEvenArrangements (nI n) (nI tu) (nI mask) (nI (fac n)) to kn le fo so en rm post := by
  unfold wp_X2_countEvenArrangements
  refine s_solutions hn hr1 hr2 hmask hE hk (fun le' fo' hR => ?_)
  have hlen := hR.1.len
  have hf := fac_le hn
  refine ⟨2 * tu + 1, l_cea hn hn1 hT hso (fun a m hm hb ho => ?_) (fun a he => ?_) (2 * tu + 1) 0 (by omega) (Nat.zero_le _) (fun m hm => by omega)⟩
  · have h2 := evC_half hT hm hb ho
    show post (nI (fnd n tu T mask).length / 2) _
    have e : nI (fnd n tu T mask).length / 2 = nI ((fnd n tu T mask).length / 2) := pk_div (d := 2) (by omega) (by decide) (by decide)
    rw [e, show (fnd n tu T mask).length / 2 = evC n (fnd n tu T mask) by omega]
    exact h le' fo' hR
  · have h2 := evC_all hT he
    show post (nI (fnd n tu T mask).length) _
    rw [← h2]
    have := h le' fo' hR
    rw [h2] at this ⊢
    exact this
