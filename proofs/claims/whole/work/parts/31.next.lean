/-! the arrangement that comes next -/
theorem rank_asc : ∀ l : List Nat, l.Pairwise (· < ·) → rank l = 0 := by
  intro l
  induction l with
  | nil => intro _; rfl
  | cons x l ih =>
    intro h
    rw [List.pairwise_cons] at h
    have h1 : less x l = 0 := by
      unfold less
      rw [List.countP_eq_zero]
      intro y hy
      have := h.1 y hy
      simp; omega
    show less x l * fac l.length + rank l = 0
    rw [h1, ih h.2, Nat.zero_mul]
theorem rank_desc : ∀ l : List Nat, l.Pairwise (· > ·) → rank l + 1 = fac l.length := by
  intro l
  induction l with
  | nil => intro _; rfl
  | cons x l ih =>
    intro h
    rw [List.pairwise_cons] at h
    have h1 : less x l = l.length := by
      unfold less
      rw [List.countP_eq_length]
      intro y hy
      have := h.1 y hy
      simp; omega
    show less x l * fac l.length + rank l + 1 = (l.length + 1) * fac l.length
    rw [h1, Nat.add_assoc, ih h.2, Nat.succ_mul]
theorem rank_pre {u u' : List Nat} (h : u.Perm u') : ∀ a : List Nat, rank (a ++ u) + rank u' = rank (a ++ u') + rank u := by
  intro a
  induction a with
  | nil => exact Nat.add_comm _ _
  | cons z a ih =>
    show less z (a ++ u) * fac (a ++ u).length + rank (a ++ u) + rank u' = less z (a ++ u') * fac (a ++ u').length + rank (a ++ u') + rank u
    have hp : (a ++ u).Perm (a ++ u') := h.append_left a
    rw [less_perm hp, hp.length_eq, Nat.add_assoc, ih, Nat.add_assoc]
theorem rank_next {A B C : List Nat} {x y : Nat} (hd : (B ++ y :: C).Pairwise (· > ·)) (hxy : x < y) (hC : ∀ c, c ∈ C → c < x) : rank (A ++ y :: (B ++ x :: C).reverse) = rank (A ++ x :: (B ++ y :: C)) + 1 := by
  have hd1 := List.pairwise_append.mp hd
  have hd2 := List.pairwise_cons.mp hd1.2.1
  have hB : ∀ b, b ∈ B → y < b := fun b hb => hd1.2.2 b hb y (List.mem_cons_self ..)
  have hasc : (B ++ x :: C).Pairwise (· > ·) := by
    refine List.pairwise_append.mpr ⟨hd1.1, List.pairwise_cons.mpr ⟨fun c hc => hC c hc, hd2.2⟩, fun b hb c hc => ?_⟩
    have h1 := hB b hb
    rcases List.mem_cons.mp hc with rfl | hc
    · show c < b; omega
    · have := hC c hc; show c < b; omega
  have h0 : rank (B ++ x :: C).reverse = 0 := rank_asc _ (List.pairwise_reverse.mpr hasc)
  have h1 := rank_desc _ hd
  have hperm : (B ++ x :: C).reverse.Perm (B ++ x :: C) := List.reverse_perm _
  have hlen : (B ++ x :: C).reverse.length = (B ++ y :: C).length := by simp; omega
  have l1 : less y (B ++ x :: C).reverse = C.length + 1 := by
    rw [less_perm hperm]
    unfold less
    rw [List.countP_append, List.countP_cons]
    have e1 : B.countP (fun z => decide (z < y)) = 0 := List.countP_eq_zero.mpr (fun b hb => by have := hB b hb; simp; omega)
    have e2 : C.countP (fun z => decide (z < y)) = C.length := List.countP_eq_length.mpr (fun c hc => by have := hC c hc; simp; omega)
    rw [e1, e2]; simp [hxy]
  have l2 : less x (B ++ y :: C) = C.length := by
    unfold less
    rw [List.countP_append, List.countP_cons]
    have e1 : B.countP (fun z => decide (z < x)) = 0 := List.countP_eq_zero.mpr (fun b hb => by have := hB b hb; simp; omega)
    have e2 : C.countP (fun z => decide (z < x)) = C.length := List.countP_eq_length.mpr (fun c hc => by have := hC c hc; simp; omega)
    have e3 : ¬ y < x := by omega
    rw [e1, e2]; simp [e3]
  have hu : rank (y :: (B ++ x :: C).reverse) = rank (x :: (B ++ y :: C)) + 1 := by
    show less y (B ++ x :: C).reverse * fac (B ++ x :: C).reverse.length + rank (B ++ x :: C).reverse = less x (B ++ y :: C) * fac (B ++ y :: C).length + rank (B ++ y :: C) + 1
    rw [l1, l2, h0, hlen, Nat.add_assoc (_ * _) (rank (B ++ y :: C)) 1, h1, Nat.succ_mul]; rfl
  have hp : (y :: (B ++ x :: C).reverse).Perm (x :: (B ++ y :: C)) := by
    have p1 : (y :: (B ++ x :: C).reverse).Perm (y :: (x :: (B ++ C))) := (hperm.trans List.perm_middle).cons y
    have p2 : (x :: (B ++ y :: C)).Perm (x :: (y :: (B ++ C))) := (List.perm_middle).cons x
    exact p1.trans ((List.Perm.swap ..).trans p2.symm)
  have := rank_pre hp A
  rw [hu] at this
  omega
theorem set_mid (A B : List Nat) (x y : Nat) : (A ++ x :: B).set A.length y = A ++ y :: B := by simp
theorem s_swap {g : Nat → Int32} {A B C : List Nat} {x y : Nat} (hg : At g (A ++ x :: (B ++ y :: C))) (hl : (A ++ x :: (B ++ y :: C)).length ≤ 8) {post : (Nat → Int32) → Prop} (h : ∀ g', At g' (A ++ y :: (B ++ x :: C)) → post g') : wp_X0_swapSpots g (nI A.length) (nI (A.length + 1 + B.length)) post := by
  simp only [List.length_append, List.length_cons] at hl
  have h1 : g A.length = nI x := by
    have := hg A.length (by simp)
    simpa using this
  have h2 : g (A.length + 1 + B.length) = nI y := by
    have := hg (A.length + 1 + B.length) (by simp; omega)
    rw [this]
    have e : A ++ x :: (B ++ y :: C) = (A ++ x :: B) ++ y :: C := by simp
    rw [e]
    have e2 : A.length + 1 + B.length = (A ++ x :: B).length := by simp; omega
    rw [e2, List.getD_eq_getElem?_getD]
    simp
  unfold wp_X0_swapSpots
  rw [nI_c (n := A.length) (by omega), nI_c (n := A.length + 1 + B.length) (by omega), h1, h2]
  refine ⟨vp_in_nI (by omega) (by decide), fun z hz => ⟨vp_in_nI (by omega) (by decide), vp_in_nI (by omega) (by decide), vp_in_nI (by omega) (by decide), ?_⟩⟩
  rw [hz]
  refine h _ ?_
  have p1 := hg.put (i := A.length) (x := y)
  rw [set_mid] at p1
  have p2 := p1.put (i := A.length + 1 + B.length) (x := x)
  have e : A ++ y :: (B ++ y :: C) = (A ++ y :: B) ++ y :: C := by simp
  have e2 : A.length + 1 + B.length = (A ++ y :: B).length := by simp; omega
  rw [e, e2, set_mid, ← e2] at p2
  have e3 : (A ++ y :: B) ++ x :: C = A ++ y :: (B ++ x :: C) := by simp
  rwa [e3] at p2
theorem i_dec {a : Nat} (h : 1 ≤ a) : nI a + (-1) = nI (a - 1) := by
  have e : ((-1) : Int32) = -(1 : Int32) := by decide
  rw [e, ← Int32.sub_eq_add_neg]
  exact pk_sub (b := 1) h
/-- the rest is turned round -/
theorem l_adv90 {K : Int32 → Int32 → (Nat → Int32) → Prop} {R : List Nat} (hK : ∀ a b g, At g R → K a b g) : ∀ N (A M C : List Nat) g, M.length < N → 1 ≤ A.length → (A ++ (M ++ C)).length ≤ 8 → At g (A ++ (M ++ C)) → A ++ (M.reverse ++ C) = R → lp_X0_advanceSpots_90 K N (nI A.length) (nI (A.length + M.length - 1)) g := by
  intro N
  induction N with
  | zero => intro A M C g h; omega
  | succ N ih =>
    intro A M C g h1 hA hl hg hR
    have hl' := hl
    simp only [List.length_append] at hl
    rw [lp_X0_advanceSpots_90]
    refine b_le (by omega) (by omega) (fun h => ?_) (fun h => ?_)
    · have : M.reverse = M := by
        match M, h with
        | [], _ => rfl
        | [_], _ => rfl
        | _ :: _ :: _, h => simp at h; omega
      rw [this] at hR
      subst hR
      exact hK _ _ g hg
    · match M, h, hl, hl', hg, hR, h1 with
      | [], h, _, _, _, _, _ => simp at h; omega
      | [_], h, _, _, _, _, _ => simp at h
      | m :: m' :: M', h, hl, hl', hg, hR, h1 =>
        obtain ⟨M2, z, hz⟩ : ∃ M2 z, m' :: M' = M2 ++ [z] := by
          have := List.dropLast_concat_getLast (l := m' :: M') (by simp)
          exact ⟨_, _, this.symm⟩
        rw [hz] at h hl hl' hg hR h1 ⊢
        have e1 : A ++ (m :: (M2 ++ [z]) ++ C) = A ++ m :: (M2 ++ z :: C) := by simp
        rw [e1] at hg hl'
        have e2 : A.length + (m :: (M2 ++ [z])).length - 1 = A.length + 1 + M2.length := by simp; omega
        rw [e2]
        refine s_swap hg hl' (fun g' hg' => ?_)
        have e3 : A ++ z :: (M2 ++ m :: C) = (A ++ [z]) ++ (M2 ++ (m :: C)) := by simp
        rw [e3] at hg'
        simp only [List.length_cons, List.length_append, List.length_nil] at h1 hl
        have hh := ih (A ++ [z]) M2 (m :: C) g' (by omega) (by simp) (by simp; omega) hg' (by rw [← hR]; simp)
        have e4 : nI A.length + 1 = nI (A ++ [z]).length := by rw [List.length_append]; exact nI_add _ 1
        have e5 : nI (A.length + 1 + M2.length) + (-1) = nI ((A ++ [z]).length + M2.length - 1) := by
          have q : (A ++ [z]).length + M2.length - 1 = A.length + 1 + M2.length - 1 := by simp
          rw [q]
          exact i_dec (by omega)
        rw [e4, e5]
        exact hh
theorem l_adv7 {n : Nat} {p : List Nat} (hn : n ≤ 8) (hp : IsP n p) {g : Nat → Int32} (hg : At g p) {K : Int32 → Prop} (hK1 : p.Pairwise (· > ·) → K (-1)) (hK2 : ∀ v, v + 1 < n → p.getD v 0 < p.getD (v + 1) 0 → (p.drop (v + 1)).Pairwise (· > ·) → K (nI v)) : ∀ N k, k < N → k < n → (p.drop k).Pairwise (· > ·) → lp_X0_advanceSpots_7 g K N (nI k - 1) := by
  have hlen := hp.len
  intro N
  induction N with
  | zero => intro k h; omega
  | succ N ih =>
    intro k h1 h2 h3
    rw [lp_X0_advanceSpots_7]
    match k, h1, h2, h3 with
    | 0, h1, h2, h3 =>
      have e : nI 0 - 1 = -1 := by decide
      rw [e]
      exact ⟨fun _ => hK1 h3, fun z => absurd (by decide) z⟩
    | k + 1, h1, h2, h3 =>
      have e : nI (k + 1) - 1 = nI k := pk_sub (b := 1) (a := k + 1) (by omega)
      rw [e]
      refine b_lt (b := 0) (by omega) (by omega) (fun z => by omega) (fun _ => ?_)
      have hk := hp.lt (j := k) (by omega)
      have hk1 := hp.lt (j := k + 1) (by omega)
      rw [show nI k + 1 = nI (k + 1) from nI_add k 1, nI_c (n := k) (by omega), nI_c (n := k + 1) (by omega), hg k (by omega), hg (k + 1) (by omega)]
      refine ⟨vp_in_nI (by omega) (by decide), vp_in_nI (by omega) (by decide), ?_⟩
      refine b_le (by omega) (by omega) (fun h => ?_) (fun h => ?_)
      · have hne : p.getD k 0 ≠ p.getD (k + 1) 0 := fun q => by have := hp.inj (by omega) h2 q; omega
        exact hK2 k h2 (by omega) h3
      · have e2 : nI k + (-1) = nI k - 1 := by
          have e : ((-1) : Int32) = -(1 : Int32) := by decide
          rw [e, ← Int32.sub_eq_add_neg]
        rw [e2]
        refine ih k (by omega) (by omega) ?_
        rw [drop_cons (by omega)]
        refine List.pairwise_cons.mpr ⟨fun z hz => ?_, h3⟩
        rw [drop_cons (k := k + 1) (by omega)] at hz h3
        rcases List.mem_cons.mp hz with rfl | hz
        · exact h
        · have := (List.pairwise_cons.mp h3).1 z hz
          show z < p.getD k 0
          omega
theorem l_adv46 {n v : Nat} {p : List Nat} (hn : n ≤ 8) (hp : IsP n p) {g : Nat → Int32} (hg : At g p) (hv : v + 1 < n) (hlt : p.getD v 0 < p.getD (v + 1) 0) {K : Int32 → Prop} (hK : ∀ w, v < w → w < n → p.getD v 0 < p.getD w 0 → (∀ t, w < t → t < n → p.getD t 0 < p.getD v 0) → K (nI w)) : ∀ N w, w < N → w < n → v ≤ w → (∀ t, w < t → t < n → p.getD t 0 < p.getD v 0) → lp_X0_advanceSpots_46 g (nI v) K N (nI w) := by
  have hlen := hp.len
  intro N
  induction N with
  | zero => intro w h; omega
  | succ N ih =>
    intro w h1 h2 h3 h4
    rw [lp_X0_advanceSpots_46]
    refine b_le (by omega) (by omega) (fun h => ?_) (fun h => ?_)
    · have := h4 (v + 1) (by omega) hv
      omega
    · have hv1 := hp.lt (j := v) (by omega)
      have hw1 := hp.lt (j := w) (by omega)
      rw [nI_c (n := v) (by omega), nI_c (n := w) (by omega), hg v (by omega), hg w (by omega)]
      refine ⟨vp_in_nI (by omega) (by decide), vp_in_nI (by omega) (by decide), ?_⟩
      refine b_le (by omega) (by omega) (fun h' => ?_) (fun h' => ?_)
      · have hne : p.getD v 0 ≠ p.getD w 0 := fun q => by have := hp.inj (by omega) h2 q; omega
        exact hK w h h2 (by omega) h4
      · rw [i_dec (by omega)]
        refine ih (w - 1) (by omega) (by omega) (by omega) (fun t ht1 ht2 => ?_)
        by_cases e : t = w
        · subst e; exact h'
        · exact h4 t (by omega) ht2
theorem split_at {p : List Nat} {v : Nat} (h : v < p.length) : p = p.take v ++ p.getD v 0 :: p.drop (v + 1) := by
  rw [← drop_cons h, List.take_append_drop]
theorem s_advance {n : Nat} {p : List Nat} (hn : n ≤ 8) (hn2 : 2 ≤ n) (hp : IsP n p) {g : Nat → Int32} (hg : At g p) {post : (Nat → Int32) → Prop} (h : ∀ g', (rank p + 1 < fac n → ∃ p', IsP n p' ∧ rank p' = rank p + 1 ∧ At g' p') → post g') : wp_X0_advanceSpots (nI n) g post := by
  have hlen := hp.len
  unfold wp_X0_advanceSpots
  intro x1 hx1
  have e1 : x1 = nI (n - 1) - 1 := by
    rw [hx1, show nI n - 2 = nI (n - 2) from pk_sub (b := 2) hn2, show nI (n - 1) - 1 = nI (n - 1 - 1) from pk_sub (b := 1) (by omega)]
    congr 1
  have e2 : nI n - 1 = nI (n - 1) := pk_sub (b := 1) (by omega)
  rw [e1]
  refine ⟨n + 1, l_adv7 hn hp hg (fun hd => ?_) (fun v hv hlt hd => ?_) (n + 1) (n - 1) (by omega) (by omega) ?_⟩
  · refine ⟨fun z => absurd z (by decide), fun _ => h g (fun z => ?_)⟩
    have := rank_desc p hd
    rw [hlen] at this
    omega
  · refine ⟨fun _ => ?_, fun z => absurd ((nI_leI (a := 0) (by omega) (by omega)).mpr (Nat.zero_le v)) z⟩
    intro x9 hx9
    rw [hx9, e2]
    refine ⟨n + 1, l_adv46 hn hp hg hv hlt (fun w hw1 hw2 hw3 hw4 => ?_) (n + 1) (n - 1) (by omega) (by omega) (by omega) (fun t h1 h2 => by omega)⟩
    have es := split_at (p := p) (v := v) (by omega)
    have hsl : (p.drop (v + 1)).length = n - (v + 1) := by rw [List.length_drop, hlen]
    have es2 := split_at (p := p.drop (v + 1)) (v := w - (v + 1)) (by omega)
    have hgw : (p.drop (v + 1)).getD (w - (v + 1)) 0 = p.getD w 0 := by
      rw [List.getD_eq_getElem?_getD, List.getD_eq_getElem?_getD, List.getElem?_drop]
      congr 2; omega
    have hdd : (p.drop (v + 1)).drop (w - (v + 1) + 1) = p.drop (w + 1) := by
      rw [List.drop_drop]; congr 1; omega
    rw [hgw, hdd] at es2
    generalize hA : p.take v = A at es
    generalize hB : (p.drop (v + 1)).take (w - (v + 1)) = B at es2
    generalize hx : p.getD v 0 = x at *
    generalize hy : p.getD w 0 = y at *
    have hC : ∀ c, c ∈ p.drop (w + 1) → c < x := by
      intro c hc
      obtain ⟨i, hi, e⟩ := List.mem_iff_getElem.mp hc
      rw [List.length_drop] at hi
      have := hw4 (w + 1 + i) (by omega) (by omega)
      rw [getD_of (by omega)] at this
      rw [List.getElem_drop] at e
      omega
    generalize p.drop (w + 1) = C at *
    rw [es2] at hd es
    have hAl : A.length = v := by rw [← hA, List.length_take]; omega
    have hBl : B.length = w - (v + 1) := by rw [← hB, List.length_take]; omega
    have ew : nI w = nI (A.length + 1 + B.length) := by congr 1; omega
    have ev : nI v = nI A.length := by rw [hAl]
    have hg2 := hg
    rw [es] at hg2
    have hl8 : (A ++ x :: (B ++ y :: C)).length ≤ 8 := by rw [← es]; omega
    rw [ew, ev]
    refine s_swap hg2 hl8 (fun g' hg' => ?_)
    intro x17 h17 x18 h18
    have hn3 : n = (A ++ x :: (B ++ y :: C)).length := by rw [← es, hlen]
    have e17 : x17 = nI (A ++ [y]).length := by
      rw [h17, List.length_append]; exact nI_add _ 1
    have e18 : x18 = nI ((A ++ [y]).length + (B ++ x :: C).length - 1) := by
      rw [h18, hn3]
      congr 1
      simp
    rw [e17, e18]
    have e5 : A ++ y :: (B ++ x :: C) = (A ++ [y]) ++ ((B ++ x :: C) ++ []) := by simp
    rw [e5] at hg'
    have hl9 : ((A ++ [y]) ++ ((B ++ x :: C) ++ [])).length ≤ 8 := by rw [← e5]; simp at hl8 ⊢; omega
    refine ⟨(B ++ x :: C).length + 1, l_adv90 (R := A ++ y :: (B ++ x :: C).reverse) (fun _ _ g'' hg'' => ?_) _ (A ++ [y]) (B ++ x :: C) [] g' (by omega) (by simp) hl9 hg' (by simp)⟩
    refine h g'' (fun _ => ⟨A ++ y :: (B ++ x :: C).reverse, ?_, ?_, hg''⟩)
    · have hperm : (A ++ y :: (B ++ x :: C).reverse).Perm p := by
        rw [es]
        refine List.Perm.append_left A ?_
        have p1 : (y :: (B ++ x :: C).reverse).Perm (y :: (x :: (B ++ C))) := ((List.reverse_perm _).trans List.perm_middle).cons y
        have p2 : (x :: (B ++ y :: C)).Perm (x :: (y :: (B ++ C))) := (List.perm_middle).cons x
        exact p1.trans ((List.Perm.swap ..).trans p2.symm)
      exact hperm.trans hp
    · have := rank_next (A := A) hd hw3 hC
      rw [this, ← es]
  · rw [drop_cons (by omega), List.drop_of_length_le (by omega)]
    exact List.pairwise_singleton _ _
