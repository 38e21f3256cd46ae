/-! the class's table of moves, turn by turn -/
theorem inv_of_act {n : Nat} {s p : List Nat} (hs : IsP n s) (hp : IsP n p) : inv (act s p) = act (inv p) (inv s) := by
  have hq := hs.actP hp
  refine getD_ext (by rw [inv_len, act_len, act_len, inv_len, hs.len, hp.len]) fun j hj => ?_
  rw [inv_len, act_len, hs.len] at hj
  have h1 := hp.invP.lt hj
  have h2 := hs.invP.lt h1
  rw [act_get (by rw [inv_len, hp.len]; exact hj)]
  have h3 : (act s p).getD ((inv s).getD ((inv p).getD j 0) 0) 0 = j := by
    rw [act_get (by rw [hs.len]; exact h2), hs.at_inv h1, hp.at_inv hj]
  have h4 := hq.inv_at h2
  rw [h3] at h4
  exact h4
theorem act_cancel {n : Nat} {a b s : List Nat} (ha : IsP n a) (hb : IsP n b) (hs : IsP n s) (h : act a s = act b s) : a = b := by
  refine getD_ext (by rw [ha.len, hb.len]) fun j hj => ?_
  rw [ha.len] at hj
  have h1 : (act a s).getD j 0 = (act b s).getD j 0 := by rw [h]
  rw [act_get (by rw [ha.len]; exact hj), act_get (by rw [hb.len]; exact hj)] at h1
  exact hs.inj (ha.lt hj) (hb.lt hj) h1
theorem l_link47 {n : Nat} {q s : List Nat} (hn : n ≤ 8) (hq : IsP n q) (hs : IsP n s) {a2 sp : Nat → Int32} (ha : At a2 s) (hsp : At sp q) {K : Int32 → (Nat → Int32) → Prop} (hK : ∀ a g, At g (act q s) → K a g) : ∀ N k g, n - k < N → k ≤ n → (∀ j, j < k → g j = nI (s.getD (q.getD j 0) 0)) → lp_X0_linkTurn_47 a2 (nI n) sp K N (nI k) g := by
  intro N
  induction N with
  | zero => intro k g h; omega
  | succ N ih =>
    intro k g h1 h2 h3
    rw [lp_X0_linkTurn_47]
    refine b_le (by omega) (by omega) (fun h => ?_) (fun h => ?_)
    · refine hK _ g (fun j hj => ?_)
      rw [act_len, hq.len] at hj
      rw [act_get (by rw [hq.len]; exact hj)]
      exact h3 j (by omega)
    · have hqk := hq.lt h
      rw [nI_c (n := k) (by omega), hsp k (by rw [hq.len]; exact h), nI_c (n := q.getD k 0) (by omega), ha _ (by rw [hs.len]; exact hqk)]
      refine ⟨vp_in_nI (by omega) (by decide), vp_in_nI (by omega) (by decide), vp_in_nI (by omega) (by decide), ?_⟩
      rw [show nI k + 1 = nI (k + 1) from nI_add k 1]
      refine ih (k + 1) _ (by omega) (by omega) (fun j hj => ?_)
      by_cases e : j = k
      · subst e; exact if_pos rfl
      · rw [show upd g k (nI (s.getD (q.getD k 0) 0)) j = g j from if_neg e]; exact h3 j (by omega)
/-- a turn's two rows are laid -/
def Ln (n j3 j4 : Nat) (s : List Nat) (i : Nat) (en0 en : Nat → Nat → Int32) : Prop :=
  (∀ j, j ≠ j3 → j ≠ j4 → en j = en0 j) ∧ ∀ q, IsP n q → rank q < i → en j3 (rank q) = nI (rank (act q s)) ∧ en j4 (rank (act q s)) = nI (rank q)
theorem l_link35 {n j3 j4 rm : Nat} {s : List Nat} (hn : n ≤ 8) (hn2 : 2 ≤ n) (hr1 : fac n ≤ rm) (hr2 : rm ≤ 40320) (hj : j3 ≠ j4) (hs : IsP n s) {a2 : Nat → Int32} (ha : At a2 s) {en0 : Nat → Nat → Int32} {K : Int32 → (Nat → Int32) → (Nat → Int32) → (Nat → Nat → Int32) → Prop} (hK : ∀ a sp mv en, Ln n j3 j4 s (fac n) en0 en → K a sp mv en) : ∀ N i sp mv en, fac n - i < N → i ≤ fac n → (i < fac n → ∃ q, IsP n q ∧ rank q = i ∧ At sp q) → Ln n j3 j4 s i en0 en → lp_X0_linkTurn_35 a2 (nI n) (nI (fac n)) j3 j4 rm K N (nI i) sp mv en := by
  have hf := fac_le hn
  intro N
  induction N with
  | zero => intro i sp mv en h; omega
  | succ N ih =>
    intro i sp mv en h1 h2 h3 h4
    rw [lp_X0_linkTurn_35]
    refine b_le (by omega) (by omega) (fun h => ?_) (fun h => ?_)
    · have e : i = fac n := by omega
      subst e
      exact hK _ sp mv en h4
    · obtain ⟨q, hq, hqr, hsp⟩ := h3 h
      have g1 : fac n - (i + 1) < N := by omega
      have g3 : i + 1 < fac n → rank q + 1 < fac n := fun z => by omega
      have g4 : ∀ z, z = rank q + 1 → z = i + 1 := fun z hz => by omega
      clear h3
      have hc := hq.actP hs
      have hcr := rank_ltP hc
      refine ⟨n + 1, ?_⟩
      rw [← nI_0]
      refine l_link47 hn hq hs ha hsp (fun _ mv' hmv => ?_) (n + 1) 0 mv (by omega) (Nat.zero_le n) (fun j hj => by omega)
      refine s_codeOf hn hc hmv ?_
      refine ⟨vp_in_nI (by omega) (by omega), vp_in_nI (by omega) (by omega), ?_⟩
      refine s_advance hn hn2 hq hsp (fun sp' hsp' => ?_)
      rw [show nI i + 1 = nI (i + 1) from nI_add i 1, nI_c (n := i) (by omega), nI_c (n := rank (act q s)) (by omega)]
      refine ih (i + 1) sp' mv' _ g1 h (fun hi => ?_) ⟨fun j hj3 hj4 => ?_, fun u hu hur => ?_⟩
      · obtain ⟨p', h5, h6, h7⟩ := hsp' (g3 hi)
        exact ⟨p', h5, g4 _ h6, h7⟩
      · rw [← h4.1 j hj3 hj4]
        simp [rowsU, hj3, hj4]
      · by_cases e : rank u = i
        · clear hsp'
          have : u = q := rank_injP hu hq (by omega)
          subst this
          constructor
          · simp [rowsU, upd, hj, e]
          · simp [rowsU, upd, e]
        · clear hsp'
          have h5 := h4.2 u hu (by omega)
          have hne : rank (act u s) ≠ rank (act q s) := fun h6 => e (by
            have h7 := act_cancel hu hq hs (rank_injP (hu.actP hs) hc h6)
            rw [h7]; exact hqr)
          constructor
          · rw [← h5.1]
            simp [rowsU, upd, hj, e]
          · rw [← h5.2]
            simp [rowsU, upd, hj, Ne.symm hj, hne]

theorem s_linkTurn {n tu rm : Nat} {s : List Nat} (hn : n ≤ 8) (hn2 : 2 ≤ n) (htu : tu < 6) (hr1 : fac n ≤ rm) (hr2 : rm ≤ 40320) (hs : IsP n s) {a2 sp mv : Nat → Int32} (ha : At a2 s) {en : Nat → Nat → Int32} {post : ((Nat → Int32) × (Nat → Int32) × Int32 × Int32 × (Nat → Nat → Int32)) → Prop} (h : ∀ sp mv en', Ln n (2 * tu) (2 * tu + 1) s (fac n) en en' → post (sp, mv, -1, -1, en')) : wp_X0_linkTurn (nI n) (nI (fac n)) sp mv a2 en rm (nI tu) post := by
  have e1 : (2 : Int32) * nI tu = nI (2 * tu) := pk_mul 2 tu
  have e2 : nI (2 * tu) + 1 = nI (2 * tu + 1) := nI_add _ 1
  unfold wp_X0_linkTurn
  rw [e1, e2, nI_c (n := 2 * tu) (by omega), nI_c (n := 2 * tu + 1) (by omega)]
  refine ⟨vp_in_nI (by omega) (by decide), vp_in_nI (by omega) (by decide), ?_⟩
  refine s_setSolved hn (fun sp1 hsp1 => ?_)
  refine ⟨fac n + 1, ?_⟩
  rw [← nI_0]
  refine l_link35 hn hn2 hr1 hr2 (by omega) hs ha (fun a sp' mv' en' hL => ?_) (fac n + 1) 0 sp1 mv en (by omega) (Nat.zero_le _) (fun _ => ⟨List.range n, IsP.id n, rank_range n, hsp1⟩) ⟨fun j _ _ => rfl, fun q _ hq => by omega⟩
  exact h sp' mv' en' hL
/-- the table with the new turn -/
theorem En.more {n tu : Nat} {T : Nat → List Nat} {en en' : Nat → Nat → Int32} (hE : En n tu T en) (htu : tu < 6) (h1 : IsP n (T (2 * tu))) (h2 : T (2 * tu + 1) = inv (T (2 * tu))) (hL : Ln n (2 * tu) (2 * tu + 1) (inv (T (2 * tu))) (fac n) en en') : En n (tu + 1) T en' := by
  refine ⟨by omega, fun m hm => ?_⟩
  by_cases e : m < 2 * tu
  · obtain ⟨h3, h4⟩ := hE.2 m e
    refine ⟨h3, fun p hp => ?_⟩
    rw [hL.1 m (by omega) (by omega)]
    exact h4 p hp
  · rcases (show m = 2 * tu ∨ m = 2 * tu + 1 by omega) with rfl | rfl
    · refine ⟨h1, fun p hp => ?_⟩
      have := (hL.2 (inv p) hp.invP (rank_ltP hp.invP)).1
      unfold nu
      rw [this, inv_of_act h1 hp]
    · rw [h2]
      refine ⟨h1.invP, fun p hp => ?_⟩
      have hq : IsP n (act (inv p) (T (2 * tu))) := hp.invP.actP h1
      have h5 : act (act (inv p) (T (2 * tu))) (inv (T (2 * tu))) = inv p := by
        refine getD_ext (by rw [act_len, act_len]) fun j hj => ?_
        rw [act_len, act_len, hp.invP.len] at hj
        rw [act_get (by rw [act_len, hp.invP.len]; exact hj), act_get (by rw [hp.invP.len]; exact hj), h1.inv_at (hp.invP.lt hj)]
      have := (hL.2 _ hq (rank_ltP hq)).2
      rw [h5] at this
      unfold nu
      rw [this, inv_of_act h1.invP hp, h1.invInv]
