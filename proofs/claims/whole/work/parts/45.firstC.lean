/-! the class: the least move that leads nearer, and the words' moves -/
theorem s_leads {n tu mask rm m d : Nat} {T : Nat → List Nat} {en : Nat → Nat → Int32} {L : List (List Nat × Nat)} {le fo : Nat → Int32} {y : List Nat} (hn : n ≤ 8) (hr1 : fac n ≤ rm) (hr2 : rm ≤ 40320) (hE : En n tu T en) (hmask : mask < 2 ^ (2 * tu)) (hR : Rp n nu L le fo) (hy : (y, d + 1) ∈ L) (hm : m < 12) {post : Int32 → Unit → Prop} (h1 : m < 2 * tu → mask.testBit m = true → (act (T m) y, d) ∈ L → post 1 ()) (h0 : (mask.testBit m = true → (act (T m) y, d) ∉ L) → post 0 ()) : wp_X1_leadsNearer (nI mask) le en rm (nI m) (nI (nu y)) post := by
  unfold wp_X1_leadsNearer
  refine c_bit (by omega) (fun hb => h0 (fun z => by rw [hb] at z; cases z)) (fun hb => ?_)
  have hm2 := bit_lt hmask hb
  obtain ⟨hTp, hTe⟩ := hE.2 m hm2
  have hyP : IsP n y := hR.1.1 _ hy
  have hny := (Nu.nu n).1 y hyP
  have hz := hTp.actP hyP
  have hnz := (Nu.nu n).1 _ hz
  have hd := hR.dlt hn hy
  rw [nI_c (n := m) (by omega), nI_c (n := nu y) (by omega), hTe y hyP, nI_c (n := nu (act (T m) y)) (by omega), (hR.eqd hn hyP hd).mpr hy, show nI (d + 1) - 1 = nI d from pk_sub (a := d + 1) (b := 1) (by omega)]
  refine ⟨vp_in_nI (by omega) (by omega), vp_in_nI (by omega) (by omega), vp_in_nI (by omega) (by omega), vp_in_nI (by omega) (by omega), fun e => h0 (fun _ q => e ((hR.eqd hn hz (by omega)).mpr q)), fun e => h1 hm2 hb ((hR.eqd hn hz (by omega)).mp e)⟩
theorem l_first2 {n tu mask rm d : Nat} {T : Nat → List Nat} {en : Nat → Nat → Int32} {L : List (List Nat × Nat)} {le fo : Nat → Int32} {y : List Nat} (hn : n ≤ 8) (hr1 : fac n ≤ rm) (hr2 : rm ≤ 40320) (hE : En n tu T en) (hmask : mask < 2 ^ (2 * tu)) (hR : Rp n nu L le fo) (hy : (y, d + 1) ∈ L) (hex : ∃ m, m < 2 * tu ∧ mask.testBit m = true ∧ (act (T m) y, d) ∈ L) {K18 K26 : Int32 → Prop} (hK : K18 (nI (nxt T tu mask L y d))) : ∀ N k, 12 - k < N → k ≤ nxt T tu mask L y d → lp_X1_firstMove_2 (nI mask) le en rm (nI (nu y)) K18 K26 N (nI k) := by
  have htu := hE.1
  obtain ⟨a1, a2, a3⟩ := nxt_at hex
  intro N
  induction N with
  | zero => intro k h; omega
  | succ N ih =>
    intro k h1 h2
    rw [lp_X1_firstMove_2]
    refine b_le (a := 12) (by omega) (by omega) (fun h => by omega) (fun h => ?_)
    refine s_leads hn hr1 hr2 hE hmask hR hy (by omega) (fun b1 b2 b3 => ?_) (fun b => ?_)
    · refine ⟨fun z => absurd z (by decide), fun _ => ?_⟩
      have : nxt T tu mask L y d = k := nxt_eq b1 b2 b3 (fun j hj hb => nxt_not (Nat.lt_of_lt_of_le hj h2) hb)
      rw [← this]; exact hK
    · refine ⟨fun _ => ?_, fun z => absurd rfl z⟩
      have hne : k ≠ nxt T tu mask L y d := fun e => by
        rw [← e] at a2 a3
        exact b a2 a3
      rw [show nI k + 1 = nI (k + 1) from nI_add k 1]
      exact ih (k + 1) (by omega) (by omega)
theorem s_firstMove {n tu mask rm d : Nat} {T : Nat → List Nat} {en : Nat → Nat → Int32} {L : List (List Nat × Nat)} {le fo : Nat → Int32} {y : List Nat} (hn : n ≤ 8) (hr1 : fac n ≤ rm) (hr2 : rm ≤ 40320) (hE : En n tu T en) (hmask : mask < 2 ^ (2 * tu)) (hR : Rp n nu L le fo) (hy : (y, d + 1) ∈ L) (hex : ∃ m, m < 2 * tu ∧ mask.testBit m = true ∧ (act (T m) y, d) ∈ L) {post : Int32 → Unit → Prop} (h : post (nI (nxt T tu mask L y d)) ()) : wp_X1_firstMove (nI mask) le en rm (nI (nu y)) post :=
  ⟨13, l_first2 hn hr1 hr2 hE hmask hR hy hex (K18 := fun v => post v ()) h 13 0 (by omega) (Nat.zero_le _)⟩
theorem s_solutions {n tu mask rm : Nat} {T : Nat → List Nat} {en : Nat → Nat → Int32} {to kn : Int32} {le fo : Nat → Int32} (hn : n ≤ 8) (hr1 : fac n ≤ rm) (hr2 : rm ≤ 40320) (hmask : mask < 2 ^ (2 * tu)) (hE : En n tu T en) (hk : Kp n tu T to kn le fo) {post : (Int32 × Int32 × (Nat → Int32) × (Nat → Int32)) → Prop} (h : ∀ le fo, Rp n nu (fnd n tu T mask) le fo → post (nI (fnd n tu T mask).length, nI mask, le, fo)) : wp_X2_solutions (nI mask) (nI (fac n)) to kn le fo en rm post :=
  s_measure hn hr1 hr2 hmask hE hk h
theorem s_others {n tu mask rm : Nat} {T : Nat → List Nat} {en : Nat → Nat → Int32} {to kn : Int32} {le fo : Nat → Int32} (hn : n ≤ 8) (hr1 : fac n ≤ rm) (hr2 : rm ≤ 40320) (hmask : mask < 2 ^ (2 * tu)) (hE : En n tu T en) (hk : Kp n tu T to kn le fo) {post : (Int32 × Int32 × (Nat → Int32) × (Nat → Int32)) → Prop} (h : ∀ le fo, Rp n nu (fnd n tu T mask) le fo → post (nI (fnd n tu T mask).length, nI mask, le, fo)) : wp_X2_solutionsOfOthers (nI (fac n)) to kn le fo en rm (nI mask) post :=
  s_measure hn hr1 hr2 hmask hE hk h
/-- what a search has found is kept -/
theorem Kp.of {n tu mask : Nat} {T : Nat → List Nat} {le fo : Nat → Int32} (htu : tu ≤ 6) (hmask : mask < 2 ^ (2 * tu)) (hR : Rp n nu (fnd n tu T mask) le fo) : Kp n tu T (nI (fnd n tu T mask).length) (nI mask) le fo := by
  intro mask' h' e
  have hp := pow12 htu
  have : mask = mask' := (nI_eq (by omega) (by omega)).mp e
  subst this
  exact ⟨rfl, hR⟩
theorem Kp.none (n tu : Nat) (T : Nat → List Nat) (to : Int32) (le fo : Nat → Int32) (htu : tu ≤ 6) : Kp n tu T to (-1) le fo := by
  intro mask' h' e
  have hp := pow12 htu
  exact absurd e.symm (nI_neg1 (by omega))
/-- the length, as an int -/
def lenI (L : List (List Nat × Nat)) (p : List Nat) : Int32 := match L.find? (fun q => decide (q.1 = p)) with
  | some q => nI q.2
  | none => -1
theorem Rp.lenI {n : Nat} {ν : List Nat → Nat} {L : List (List Nat × Nat)} {fa li : Nat → Int32} (h : Rp n ν L fa li) {p : List Nat} (hp : IsP n p) : fa (ν p) = lenI L p := by
  unfold Jvm.Pilot.CTwistedRowLaw_law_r7389_c84c6c.lenI
  cases hq : L.find? (fun q => decide (q.1 = p)) with
  | none =>
    rw [List.find?_eq_none] at hq
    refine h.2.2 p hp (fun hm => ?_)
    obtain ⟨q, h1, h2⟩ := List.mem_map.mp hm
    exact hq q h1 (decide_eq_true h2)
  | some q =>
    have h1 := List.mem_of_find?_eq_some hq
    have h2 := List.find?_some hq
    rw [decide_eq_true_eq] at h2
    obtain ⟨i, hi, e⟩ := List.mem_iff_getElem.mp h1
    have := (h.2.1 i q (by rw [List.getElem?_eq_getElem hi, e])).2
    rw [h2] at this
    exact this
theorem lenI_at {n : Nat} {L : List (List Nat × Nat)} (hG : GL n L) {p : List Nat} {d : Nat} (h : (p, d) ∈ L) : lenI L p = nI d := by
  unfold lenI
  cases hq : L.find? (fun q => decide (q.1 = p)) with
  | none =>
    rw [List.find?_eq_none] at hq
    exact absurd (decide_eq_true rfl) (hq (p, d) h)
  | some q =>
    have h1 := List.mem_of_find?_eq_some hq
    have h2 := List.find?_some hq
    rw [decide_eq_true_eq] at h2
    have h3 : (p, q.2) ∈ L := by rw [← h2]; exact h1
    have := hG.uniq h3 h
    show nI q.2 = nI d
    rw [this]
theorem lenI_no {L : List (List Nat × Nat)} {p : List Nat} (h : ∀ d, (p, d) ∉ L) : lenI L p = -1 := by
  unfold lenI
  cases hq : L.find? (fun q => decide (q.1 = p)) with
  | none => rfl
  | some q =>
    have h1 := List.mem_of_find?_eq_some hq
    have h2 := List.find?_some hq
    rw [decide_eq_true_eq] at h2
    exact absurd (show (p, q.2) ∈ L by rw [← h2]; exact h1) (h q.2)
theorem s_lengthC {n tu mask rm : Nat} {T : Nat → List Nat} {en : Nat → Nat → Int32} {to kn : Int32} {le fo sc ti : Nat → Int32} {p : List Nat} (hn : n ≤ 8) (hr1 : fac n ≤ rm) (hr2 : rm ≤ 40320) (hmask : mask < 2 ^ (2 * tu)) (hE : En n tu T en) (hk : Kp n tu T to kn le fo) (hp : IsP n p) (hti : At ti p) {post : Int32 → ((Nat → Int32) × Int32 × Int32 × (Nat → Int32) × (Nat → Int32)) → Prop} (h : ∀ sc le fo, Rp n nu (fnd n tu T mask) le fo → post (lenI (fnd n tu T mask) p) (sc, nI (fnd n tu T mask).length, nI mask, le, fo)) : wp_X2_length (nI n) (nI mask) ti sc (nI (fac n)) to kn le fo en rm post := by
  have hnp := (Nu.nu n).1 p hp
  unfold wp_X2_length
  refine s_solutions hn hr1 hr2 hmask hE hk (fun le' fo' hR => ?_)
  refine s_presentCode hn hp hti (fun sc' _ => ?_)
  rw [nI_c (n := nu p) (by omega)]
  refine ⟨vp_in_nI (by omega) (by omega), ?_⟩
  show post (le' (nu p)) _
  rw [hR.lenI hp]
  exact h sc' le' fo' hR
theorem l_wordC {n tu mask rm d k : Nat} {T : Nat → List Nat} {en : Nat → Nat → Int32} {le fo : Nat → Int32} {p : List Nat} (hn : n ≤ 8) (hr1 : fac n ≤ rm) (hr2 : rm ≤ 40320) (hT : Tw n tu T) (hE : En n tu T en) (hmask : mask < 2 ^ (2 * tu)) (hR : Rp n nu (fnd n tu T mask) le fo) (hp : (p, d) ∈ fnd n tu T mask) (hk : k < d) {K : Int32 → Int32 → Int32 → Prop} (hK : ∀ a b, K a (nI (nxt T tu mask (fnd n tu T mask) (wlk T tu mask (fnd n tu T mask) p d k) (d - k - 1))) b) : ∀ N j, k - j < N → j ≤ k → lp_X2_wordMove_40 (nI mask) le en rm (nI k) K N (nI (nu (wlk T tu mask (fnd n tu T mask) p d j))) (nI (nxt T tu mask (fnd n tu T mask) (wlk T tu mask (fnd n tu T mask) p d j) (d - j - 1))) (nI j) := by
  have hW := fnd_Wh hT mask
  have hd := hR.dlt hn hp
  have htu := hT.1
  intro N
  induction N with
  | zero => intro j h; omega
  | succ N ih =>
    intro j h1 h2
    rw [lp_X2_wordMove_40]
    refine b_le (by omega) (by omega) (fun h => ?_) (fun h => ?_)
    · have : j = k := by omega
      subst this
      exact hK _ _
    · obtain ⟨g1, g2, g3⟩ := wlk_go hT one_0 hW hp (show j < d by omega)
      have hw := wlk_at hT one_0 hW hp j (by omega)
      have hwP := hW.1.P hw
      have hnw := (Nu.nu n).1 _ hwP
      obtain ⟨hTp, hTe⟩ := hE.2 _ g1
      refine ⟨fun z => absurd z (nI_neg1 (by omega)), fun _ => ?_⟩
      rw [nI_c (n := nxt T tu mask (fnd n tu T mask) (wlk T tu mask (fnd n tu T mask) p d j) (d - j - 1)) (by omega), nI_c (n := nu (wlk T tu mask (fnd n tu T mask) p d j)) (by omega), hTe _ hwP]
      refine ⟨vp_in_nI (by omega) (by omega), vp_in_nI (by omega) (by omega), fun x hx => ?_⟩
      subst hx
      have hw2 := wlk_at hT one_0 hW hp (j + 1) (by omega)
      rw [show d - (j + 1) = (d - (j + 1) - 1) + 1 by omega] at hw2
      have hf := s_firstMove (post := fun r_15 _ => lp_X2_wordMove_40 (nI mask) le en rm (nI k) K N (nI (nu (wlk T tu mask (fnd n tu T mask) p d (j + 1)))) r_15 (nI j + 1)) hn hr1 hr2 hE hmask hR hw2 (hW.near hT one_0 hw2) (by
        rw [show nI j + 1 = nI (j + 1) from nI_add j 1]
        exact ih (j + 1) (by omega) (by omega))
      exact hf
theorem s_wordMoveC {n tu mask rm : Nat} {T : Nat → List Nat} {en : Nat → Nat → Int32} {to kn : Int32} {le fo sc ti : Nat → Int32} {p : List Nat} (hn : n ≤ 8) (hr1 : fac n ≤ rm) (hr2 : rm ≤ 40320) (hT : Tw n tu T) (hmask : mask < 2 ^ (2 * tu)) (hE : En n tu T en) (hk : Kp n tu T to kn le fo) (hp : IsP n p) (hti : At ti p) {x : Int32} {post : Int32 → ((Nat → Int32) × Int32 × Int32 × (Nat → Int32) × (Nat → Int32)) → Prop} (h1 : ∀ d k sc le fo, (p, d) ∈ fnd n tu T mask → k < d → x = nI k → Rp n nu (fnd n tu T mask) le fo → post (nI (nxt T tu mask (fnd n tu T mask) (wlk T tu mask (fnd n tu T mask) p d k) (d - k - 1))) (sc, nI (fnd n tu T mask).length, nI mask, le, fo)) (h0 : (∀ d k, (p, d) ∈ fnd n tu T mask → k < d → x ≠ nI k) → ∀ sc le fo, Rp n nu (fnd n tu T mask) le fo → post (-1) (sc, nI (fnd n tu T mask).length, nI mask, le, fo)) : wp_X2_wordMove (nI n) (nI mask) ti sc (nI (fac n)) to kn le fo en rm x post := by
  have hnp := (Nu.nu n).1 p hp
  have hW := fnd_Wh hT mask
  unfold wp_X2_wordMove
  refine s_solutions hn hr1 hr2 hmask hE hk (fun le' fo' hR => ?_)
  refine s_presentCode hn hp hti (fun sc' _ => ?_)
  show (x < 0 → post (-1) (sc', nI (fnd n tu T mask).length, nI mask, le', fo')) ∧ (¬ x < 0 → vp_in (nI (nu p)) rm ∧ ((x < le' (nI (nu p)).toNatClampNeg → wp_X1_firstMove (nI mask) le' en rm (nI (nu p)) (fun r_8 u_7 => ∃ N_16 : Nat, lp_X2_wordMove_40 (nI mask) le' en rm x (fun v_17 v_18 v_19 => post v_18 (sc', nI (fnd n tu T mask).length, nI mask, le', fo')) N_16 (nI (nu p)) r_8 0)) ∧ (¬ x < le' (nI (nu p)).toNatClampNeg → post (-1) (sc', nI (fnd n tu T mask).length, nI mask, le', fo'))))
  rw [nI_c (n := nu p) (by omega), hR.lenI hp]
  rcases hW.1.or p with ⟨d, hd⟩ | hno
  · have hdl := hR.dlt hn hd
    rw [lenI_at hW.1 hd]
    refine ⟨fun z => ?_, fun z => ⟨vp_in_nI (by omega) (by omega), fun y => ?_, fun y => ?_⟩⟩
    · refine h0 (fun d' k hd' hk' e => ?_) sc' le' fo' hR
      have := hW.1.uniq hd hd'
      rw [e] at z
      exact i_nneg (by omega) z
    · obtain ⟨k, hk', e⟩ := b_nat (fa_of_nlt z) (by omega) y
      subst e
      obtain ⟨d', rfl⟩ : ∃ d', d = d' + 1 := ⟨d - 1, by omega⟩
      refine s_firstMove hn hr1 hr2 hE hmask hR hd (hW.near hT one_0 hd) ?_
      exact ⟨k + 1, l_wordC (K := fun v_17 v_18 v_19 => post v_18 (sc', nI (fnd n tu T mask).length, nI mask, le', fo')) hn hr1 hr2 hT hE hmask hR hd hk' (fun _ _ => h1 (d' + 1) k sc' le' fo' hd hk' rfl hR) (k + 1) 0 (by omega) (Nat.zero_le _)⟩
    · refine h0 (fun d' k hd' hk' e => y ?_) sc' le' fo' hR
      have := hW.1.uniq hd hd'
      subst this
      rw [e]
      exact (nI_ltI (by omega) (by omega)).mpr hk'
  · rw [lenI_no hno]
    refine ⟨fun z => h0 (fun d' k hd' => absurd hd' (hno d')) sc' le' fo' hR, fun z => ⟨vp_in_nI (by omega) (by omega), fun y => ?_, fun y => h0 (fun d' k hd' => absurd hd' (hno d')) sc' le' fo' hR⟩⟩
    exact absurd (Int32.lt_trans y (by decide)) z
theorem s_solveC {n tu mask rm : Nat} {T : Nat → List Nat} {en : Nat → Nat → Int32} {to kn : Int32} {le fo sc ti : Nat → Int32} {p : List Nat} (hn : n ≤ 8) (hr1 : fac n ≤ rm) (hr2 : rm ≤ 40320) (hmask : mask < 2 ^ (2 * tu)) (hE : En n tu T en) (hk : Kp n tu T to kn le fo) (hp : IsP n p) (hti : At ti p) (hG : GL n (fnd n tu T mask)) {post : Int32 → ((Nat → Int32) × (Nat → Int32) × Int32 × Int32 × (Nat → Int32) × (Nat → Int32)) → Prop} (h1 : ∀ d ti' sc le fo, (p, d) ∈ fnd n tu T mask → At ti' (List.range n) → Rp n nu (fnd n tu T mask) le fo → post (nI d) (ti', sc, nI (fnd n tu T mask).length, nI mask, le, fo)) (h0 : (∀ d, (p, d) ∉ fnd n tu T mask) → ∀ sc le fo, Rp n nu (fnd n tu T mask) le fo → post (-1) (ti, sc, nI (fnd n tu T mask).length, nI mask, le, fo)) : wp_X2_solve (nI n) (nI mask) ti sc (nI (fac n)) to kn le fo en rm post := by
  unfold wp_X2_solve
  refine s_lengthC hn hr1 hr2 hmask hE hk hp hti (fun sc' le' fo' hR => ?_)
  rcases hG.or p with ⟨d, hd⟩ | hno
  · have hdl := hR.dlt hn hd
    rw [lenI_at hG hd]
    refine ⟨fun z => absurd z (nI_neg1 (by omega)), fun _ => ?_⟩
    exact s_setSolved hn (fun ti' ht => h1 d ti' sc' le' fo' hd ht hR)
  · rw [lenI_no hno]
    exact ⟨fun _ => h0 hno sc' le' fo' hR, fun z => absurd rfl z⟩
