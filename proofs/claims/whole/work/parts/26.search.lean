/-! the arrays of a search hold its list -/
theorem vis_pre (y : List Nat) (d : Nat) (L : List (List Nat × Nat)) : ∃ R, vis y d L = L ++ R := by
  unfold vis
  split
  · exact ⟨[], (List.append_nil L).symm⟩
  · exact ⟨_, rfl⟩
theorem exps_pre (e : Nat → List Nat → List Nat) (x : List Nat) (d : Nat) : ∀ (ms : List Nat) (L : List (List Nat × Nat)), ∃ R, exps e x d ms L = L ++ R := by
  intro ms
  induction ms with
  | nil => intro L; exact ⟨[], (List.append_nil L).symm⟩
  | cons m ms ih =>
    intro L
    obtain ⟨R1, h1⟩ := vis_pre (e m x) d L
    obtain ⟨R2, h2⟩ := ih (vis (e m x) d L)
    refine ⟨R1 ++ R2, ?_⟩
    show exps e x d ms (vis (e m x) d L) = _
    rw [h2, h1, List.append_assoc]
theorem pre_get {α : Type} {L L' : List α} (h : ∃ R, L' = L ++ R) {i : Nat} {q : α} (hi : L[i]? = some q) : L'[i]? = some q := by
  obtain ⟨R, rfl⟩ := h
  rw [List.getElem?_append_left (List.getElem?_eq_some_iff.mp hi).1]; exact hi
theorem pre_len {α : Type} {L L' : List α} (h : ∃ R, L' = L ++ R) : L.length ≤ L'.length := by
  obtain ⟨R, rfl⟩ := h
  rw [List.length_append]; omega
theorem bf_pre (e : Nat → List Nat → List Nat) (ms : List Nat) (L0 : List (List Nat × Nat)) (k : Nat) : ∃ R, bf e ms L0 (k + 1) = bf e ms L0 k ++ R := by
  rw [bf]
  split
  · exact ⟨[], (List.append_nil _).symm⟩
  · exact exps_pre e _ _ ms _
theorem exps_GL {n : Nat} {e : Nat → List Nat → List Nat} {x : List Nat} {d : Nat} : ∀ {ms : List Nat} {L : List (List Nat × Nat)}, (∀ m, m ∈ ms → IsP n (e m x)) → GL n L → d < L.length → GL n (exps e x d ms L) := by
  intro ms
  induction ms with
  | nil => intro L _ h _; exact h
  | cons m ms ih =>
    intro L he h hd
    show GL n (exps e x d ms (vis (e m x) d L))
    exact ih (fun m' h' => he m' (List.mem_cons_of_mem _ h')) (h.visP (he m (List.mem_cons_self ..)) hd) (Nat.lt_of_lt_of_le hd (pre_len (vis_pre _ _ _)))
/-- numbers given to arrangements -/
def Nu (n : Nat) (ν : List Nat → Nat) : Prop := (∀ p, IsP n p → ν p < fac n) ∧ ∀ p q, IsP n p → IsP n q → ν p = ν q → p = q
theorem Nu.rank (n : Nat) : Nu n rank := ⟨fun p h => rank_ltP h, fun p q hp hq h => rank_injP hp hq h⟩
def Rp (n : Nat) (ν : List Nat → Nat) (L : List (List Nat × Nat)) (fa li : Nat → Int32) : Prop :=
  GL n L ∧ (∀ (i : Nat) (q : List Nat × Nat), L[i]? = some q → li i = nI (ν q.1) ∧ fa (ν q.1) = nI q.2) ∧ ∀ y, IsP n y → y ∉ L.map (·.1) → fa (ν y) = -1
theorem mem_fst {L : List (List Nat × Nat)} {y : List Nat} (h : y ∈ L.map (·.1)) : ∃ (i d : Nat), L[i]? = some (y, d) := by
  obtain ⟨q, hq, rfl⟩ := List.mem_map.mp h
  obtain ⟨i, hi, e⟩ := List.mem_iff_getElem.mp hq
  exact ⟨i, q.2, by rw [List.getElem?_eq_getElem hi, e]⟩
theorem fst_mem {L : List (List Nat × Nat)} {y : List Nat} {i d : Nat} (h : L[i]? = some (y, d)) : y ∈ L.map (·.1) := List.mem_map.mpr ⟨(y, d), List.mem_of_getElem? h, rfl⟩
theorem nI_neg1 {d : Nat} (h : d < 2 ^ 31) : ¬ nI d = -1 := by
  intro e
  have h1 := congrArg Int32.toInt e
  rw [nI_toInt h] at h1
  have : (-1 : Int32).toInt = -1 := by decide
  omega
theorem Rp.depth {n : Nat} {ν : List Nat → Nat} {L : List (List Nat × Nat)} {fa li : Nat → Int32} (h : Rp n ν L fa li) (hn : n ≤ 8) {i : Nat} {q : List Nat × Nat} (hi : L[i]? = some q) : q.2 < 40320 := by
  have h1 := h.1.2.2 i q hi
  have h2 := (List.getElem?_eq_some_iff.mp hi).1
  have h3 := h.1.len
  have h4 := fac_le hn
  omega
theorem Rp.new {n : Nat} {ν : List Nat → Nat} (hν : Nu n ν) {L : List (List Nat × Nat)} {fa li : Nat → Int32} (h : Rp n ν L fa li) {y : List Nat} (hy : IsP n y) (hyL : y ∉ L.map (·.1)) {d : Nat} (hd : d < L.length) : Rp n ν (L ++ [(y, d + 1)]) (upd fa (ν y) (nI (d + 1))) (upd li L.length (nI (ν y))) := by
  refine ⟨h.1.add hy hyL hd, fun i q hq => ?_, fun z hz hzL => ?_⟩
  · by_cases hi : i < L.length
    · rw [List.getElem?_append_left hi] at hq
      have h1 := h.2.1 i q hq
      have hne : ν q.1 ≠ ν y := fun e => hyL (by
        have := hν.2 _ _ (h.1.1 q (List.mem_of_getElem? hq)) hy e
        rw [← this]
        exact List.mem_map.mpr ⟨q, List.mem_of_getElem? hq, rfl⟩)
      exact ⟨by rw [show upd li L.length (nI (ν y)) i = li i from if_neg (by omega)]; exact h1.1, by rw [show upd fa (ν y) (nI (d + 1)) (ν q.1) = fa (ν q.1) from if_neg hne]; exact h1.2⟩
    · rw [List.getElem?_append_right (by omega)] at hq
      have hz : i - L.length < 1 := (List.getElem?_eq_some_iff.mp hq).1
      have h0 : i = L.length := by omega
      subst h0
      rw [Nat.sub_self] at hq
      cases hq
      exact ⟨if_pos rfl, if_pos rfl⟩
  · rw [List.map_append, List.mem_append, not_or] at hzL
    have hne : ν z ≠ ν y := fun e => hzL.2 (by rw [hν.2 _ _ hz hy e]; simp)
    rw [show upd fa (ν y) (nI (d + 1)) (ν z) = fa (ν z) from if_neg hne]
    exact h.2.2 z hz hzL.1
/-- the turns' arrangements, as the model keeps them -/
def Fr (n tu : Nat) (T : Nat → List Nat) (fr : Nat → Int32) : Prop := tu ≤ 6 ∧ ∀ m, m < 2 * tu → IsP n (T m) ∧ ∀ j, j < n → fr (8 * m + j) = nI ((T m).getD j 0)
/-- the move back -/
def bk (m : Nat) : Nat := if m % 2 = 0 then m + 1 else m - 1
theorem bk_lt {m t : Nat} (h : m < 2 * t) : bk m < 2 * t := by unfold bk; split <;> omega
theorem l_spread26 {n tu mask i d : Nat} {T : Nat → List Nat} {fr no : Nat → Int32} {x : List Nat} {L0 : List (List Nat × Nat)} (hn : n ≤ 8) (hmask : mask < 2 ^ 31) (hT : Fr n tu T fr) (hno : At no x) (hx : IsP n x) (hi : L0[i]? = some (x, d)) {K : Int32 → Int32 → (Nat → Int32) → (Nat → Int32) → (Nat → Int32) → Prop} (hK : ∀ a te fa li, Rp n rank (exps (fun m p => act (T (bk m)) p) x d (mvs mask (2 * tu)) L0) fa li → K a (nI (exps (fun m p => act (T (bk m)) p) x d (mvs mask (2 * tu)) L0).length) te fa li) : ∀ N m te fa li, 2 * tu - m < N → m ≤ 2 * tu → Rp n rank (exps (fun m p => act (T (bk m)) p) x d (mvs mask m) L0) fa li → lp_X3_spread_26 fr (nI n) no (nI tu) (nI mask) (nI i) K N (nI m) (nI (exps (fun m p => act (T (bk m)) p) x d (mvs mask m) L0).length) te fa li := by
  have htu := hT.1
  have h2 : (2 : Int32) * nI tu = nI (2 * tu) := pk_mul 2 tu
  intro N
  induction N with
  | zero => intro m te fa li h; omega
  | succ N ih =>
    intro m te fa li h1 hm hR
    rw [lp_X3_spread_26, h2]
    refine b_le (by omega) (by omega) (fun h => ?_) (fun h => ?_)
    · have e : m = 2 * tu := by omega
      subst e
      exact hK _ te fa li hR
    · have hs : mvs mask (m + 1) = mvs mask m ++ (if mask.testBit m = true then [m] else []) := mvs_succ mask m
      have hnx : nI m + 1 = nI (m + 1) := nI_add m 1
      rw [hnx]
      refine s_has hmask (by omega) (fun hb => ?_) (fun hb => ?_)
      · rw [if_pos hb] at hs
        refine ⟨fun z => absurd z (by decide), fun _ => ?_⟩
        refine s_inverse (by omega) ?_
        have hbk : bk m < 2 * tu := bk_lt h
        obtain ⟨hTp, hTf⟩ := hT.2 (bk m) hbk
        refine s_shift hn (by omega) hTp hx hTf hno (fun g hg => ?_)
        have hy : IsP n (act (T (bk m)) x) := hTp.actP hx
        refine s_numberOf hn hy hg ?_
        have hr : rank (act (T (bk m)) x) < 40320 := Nat.lt_of_lt_of_le (rank_ltP hy) (fac_le hn)
        have hn1 := ih (m + 1) g
        rw [hs, exps_app, exps_one] at hn1
        generalize hLe : exps (fun m p => act (T (bk m)) p) x d (mvs mask m) L0 = L at hR hn1 ⊢
        have hLi : L[i]? = some (x, d) := by rw [← hLe]; exact pre_get (exps_pre _ _ _ _ _) hi
        have hil : i < L.length := (List.getElem?_eq_some_iff.mp hLi).1
        have hLf : L.length ≤ 40320 := Nat.le_trans hR.1.len (fac_le hn)
        have hd := hR.depth hn hLi
        have hdl : d < L.length := Nat.lt_of_le_of_lt (hR.1.2.2 i _ hLi) hil
        rw [nI_c (by omega)]
        refine ⟨vp_in_nI hr (by decide), ?_⟩
        by_cases hm2 : act (T (bk m)) x ∈ L.map (·.1)
        · obtain ⟨i', d', hq⟩ := mem_fst hm2
          have h3 := (hR.2.1 _ _ hq).2
          have h4 := hR.depth hn hq
          rw [h3]
          refine ⟨fun _ => ?_, fun z => absurd z (nI_neg1 (by omega))⟩
          have hv : vis (act (T (bk m)) x) d L = L := if_pos hm2
          rw [hv] at hn1
          exact hn1 fa li (by omega) (by omega) hR
        · have h3 := hR.2.2 _ hy hm2
          rw [h3]
          refine ⟨fun z => absurd rfl z, fun _ => ?_⟩
          have hv : vis (act (T (bk m)) x) d L = L ++ [(act (T (bk m)) x, d + 1)] := if_neg hm2
          rw [hv] at hn1
          have hlen : L.length < 40320 := by
            have := (hR.1.add hy hm2 hdl).len
            rw [List.length_append] at this
            have h5 := fac_le hn
            simp only [List.length_cons, List.length_nil] at this
            omega
          obtain ⟨h6, h7⟩ := hR.2.1 _ _ hLi
          have hrx : rank x < 40320 := Nat.lt_of_lt_of_le (rank_ltP hx) (fac_le hn)
          rw [nI_c (n := i) (by omega), h6, nI_c (n := rank x) (by omega), h7, nI_c (n := L.length) (by omega)]
          refine ⟨vp_in_nI (by omega) (by decide), vp_in_nI hrx (by decide), vp_in_nI hr (by decide), vp_in_nI hlen (by decide), ?_⟩
          intro z hz
          have hz2 : z = nI (L ++ [(act (T (bk m)) x, d + 1)]).length := by
            rw [hz, List.length_append]; exact nI_add _ 1
          have hd1 : nI d + 1 = nI (d + 1) := nI_add d 1
          rw [hz2, hd1]
          exact hn1 _ _ (by omega) (by omega) (hR.new (Nu.rank n) hy hm2 hdl)
      · rw [if_neg (by rw [hb]; decide), List.append_nil] at hs
        refine ⟨fun _ => ?_, fun z => absurd rfl z⟩
        have hn1 := ih (m + 1) te fa li (by omega) (by omega)
        rw [hs] at hn1
        exact hn1 hR
