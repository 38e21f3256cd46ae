/-! the model: the least move that leads nearer, and the words' moves -/
theorem s_after {n tu m : Nat} {T : Nat → List Nat} {y : List Nat} (hn : n ≤ 8) {fr no te : Nat → Int32} (hT : Fr n tu T fr) (hy : IsP n y) (hm : m < 2 * tu) {post : Int32 → ((Nat → Int32) × (Nat → Int32)) → Prop} (h : ∀ no te, post (nI (rank (act (T m) y))) (no, te)) : wp_X3_after (nI n) fr no te (nI (rank y)) (nI m) post := by
  obtain ⟨h1, h2⟩ := hT.2 m hm
  have htu := hT.1
  unfold wp_X3_after
  refine s_read hn hy (fun g hg => ?_)
  refine s_shift hn (by omega) h1 hy h2 hg (fun g' hg' => ?_)
  exact s_numberOf hn (h1.actP hy) hg' (h g g')
theorem s_present {n : Nat} {p : List Nat} (hn : n ≤ 8) (hp : IsP n p) {ro : Nat → Int32} (hro : At ro p) {post : Int32 → Unit → Prop} (h : post (nI (rank p)) ()) : wp_X3_present (nI n) ro post := s_numberOf hn hp hro h
theorem l_near2 {n tu mask d : Nat} {T : Nat → List Nat} {L : List (List Nat × Nat)} {fr fa li : Nat → Int32} {y : List Nat} (hn : n ≤ 8) (hT : Fr n tu T fr) (hmask : mask < 2 ^ 31) (hR : Rp n rank L fa li) (hy : (y, d + 1) ∈ L) (hex : ∃ m, m < 2 * tu ∧ mask.testBit m = true ∧ (act (T m) y, d) ∈ L) {K : Int32 → (Nat → Int32) → (Nat → Int32) → Prop} (hK : ∀ no te, K (nI (nxt T tu mask L y d)) no te) : ∀ N k no te, 2 * tu - k < N → k ≤ nxt T tu mask L y d → lp_X3_nearer_2 fa fr (nI n) (nI tu) (nI (rank y)) (nI mask) K N (nI k) no te := by
  have htu := hT.1
  obtain ⟨a1, a2, a3⟩ := nxt_at hex
  have hyP : IsP n y := hR.1.1 _ hy
  have hd := hR.dlt hn hy
  have hry : rank y < 40320 := Nat.lt_of_lt_of_le (rank_ltP hyP) (fac_le hn)
  intro N
  induction N with
  | zero => intro k no te h; omega
  | succ N ih =>
    intro k no te h1 h2
    have hgo : k ≠ nxt T tu mask L y d → ∀ no te, lp_X3_nearer_2 fa fr (nI n) (nI tu) (nI (rank y)) (nI mask) K N (nI k + 1) no te := by
      intro hne no te
      rw [show nI k + 1 = nI (k + 1) from nI_add k 1]
      exact ih (k + 1) no te (by omega) (by omega)
    rw [lp_X3_nearer_2, show (2 : Int32) * nI tu = nI (2 * tu) from pk_mul 2 tu]
    refine b_le (by omega) (by omega) (fun h => by omega) (fun h => ?_)
    refine s_has hmask (by omega) (fun hb => ?_) (fun hb => ?_)
    · refine ⟨fun z => absurd z (by decide), fun _ => ?_⟩
      rw [nI_c (n := rank y) (by omega), (hR.eqd hn hyP hd).mpr hy, show nI (d + 1) - 1 = nI d from pk_sub (a := d + 1) (b := 1) (by omega)]
      refine ⟨vp_in_nI hry (by decide), b_le (a := d + 1) (b := 0) (by omega) (by omega) (fun z => by omega) (fun _ => ?_)⟩
      refine s_after hn hT hyP h (fun no' te' => ?_)
      have hz := (hT.2 k h).1.actP hyP
      have hrz : rank (act (T k) y) < 40320 := Nat.lt_of_lt_of_le (rank_ltP hz) (fac_le hn)
      rw [nI_c (n := rank (act (T k) y)) (by omega)]
      refine ⟨vp_in_nI hrz (by decide), vp_in_nI hry (by decide), fun e => ?_, fun e => ?_⟩
      · have h3 := (hR.eqd hn hz (by omega)).mp e
        have : nxt T tu mask L y d = k := nxt_eq h hb h3 (fun j hj hb => nxt_not (Nat.lt_of_lt_of_le hj h2) hb)
        rw [← this]; exact hK no' te'
      · refine hgo (fun q => e ?_) no' te'
        rw [← q] at a3
        exact (hR.eqd hn hz (by omega)).mpr a3
    · refine ⟨fun _ => hgo (fun q => ?_) no te, fun z => absurd rfl z⟩
      rw [← q, hb] at a2
      cases a2
theorem s_nearer {n tu mask d : Nat} {T : Nat → List Nat} {L : List (List Nat × Nat)} {fr fa li no te : Nat → Int32} {y : List Nat} (hn : n ≤ 8) (hT : Fr n tu T fr) (hmask : mask < 2 ^ 31) (hR : Rp n rank L fa li) (hy : (y, d + 1) ∈ L) (hex : ∃ m, m < 2 * tu ∧ mask.testBit m = true ∧ (act (T m) y, d) ∈ L) {post : Int32 → ((Nat → Int32) × (Nat → Int32)) → Prop} (h : ∀ no te, post (nI (nxt T tu mask L y d)) (no, te)) : wp_X3_nearer (nI n) (nI tu) fr no te fa (nI (rank y)) (nI mask) post := by
  have htu := hT.1
  have hx := (nxt_at hex).1
  unfold wp_X3_nearer
  refine ⟨2 * tu + 1, l_near2 hn hT hmask hR hy hex (fun no te => ?_) (2 * tu + 1) 0 no te (by omega) (Nat.zero_le _)⟩
  rw [show (2 : Int32) * nI tu = nI (2 * tu) from pk_mul 2 tu]
  exact b_le (by omega) (by omega) (fun z => by omega) (fun _ => h no te)
theorem s_lengthM {n tu mask : Nat} {T : Nat → List Nat} {fr no te fa li ro : Nat → Int32} {p : List Nat} (hn : n ≤ 8) (hmask : mask < 2 ^ 31) (hT : Fr n tu T fr) (hp : IsP n p) (hro : At ro p) {post : Int32 → (Int32 × Int32 × (Nat → Int32) × (Nat → Int32) × (Nat → Int32) × (Nat → Int32)) → Prop} (h : ∀ no te fa li, Rp n rank (fnd n tu T mask) fa li → post (lenI (fnd n tu T mask) p) (0, nI (fnd n tu T mask).length, no, te, fa, li)) : wp_X3_length (nI n) (nI tu) (nI mask) ro fr no te fa li post := by
  have hr : rank p < 40320 := Nat.lt_of_lt_of_le (rank_ltP hp) (fac_le hn)
  unfold wp_X3_length
  refine s_layFor hn hmask hT (fun no' te' fa' li' hR => ?_)
  refine s_present hn hp hro ?_
  rw [nI_c (n := rank p) (by omega)]
  refine ⟨vp_in_nI hr (by decide), ?_⟩
  show post (fa' (rank p)) _
  rw [hR.lenI hp]
  exact h no' te' fa' li' hR
theorem l_wordM {n tu mask d k : Nat} {T : Nat → List Nat} {fr fa li : Nat → Int32} {p : List Nat} (hn : n ≤ 8) (hW : Tw n tu T) (hT : Fr n tu T fr) (hmask : mask < 2 ^ 31) (hR : Rp n rank (fnd n tu T mask) fa li) (hp : (p, d) ∈ fnd n tu T mask) (hk : k < d) {K : Int32 → Int32 → Int32 → (Nat → Int32) → (Nat → Int32) → Prop} (hK : ∀ a b no te, K a (nI (nxt T tu mask (fnd n tu T mask) (wlk T tu mask (fnd n tu T mask) p d k) (d - k - 1))) b no te) : ∀ N j no te, k - j < N → j ≤ k → lp_X3_wordMoveNow_39 (nI mask) fa fr (nI n) (nI tu) (nI k) K N (nI (rank (wlk T tu mask (fnd n tu T mask) p d j))) (nI (nxt T tu mask (fnd n tu T mask) (wlk T tu mask (fnd n tu T mask) p d j) (d - j - 1))) (nI j) no te := by
  have hF := fnd_Wh hW mask
  have hd := hR.dlt hn hp
  have htu := hW.1
  intro N
  induction N with
  | zero => intro j no te h; omega
  | succ N ih =>
    intro j no te h1 h2
    rw [lp_X3_wordMoveNow_39]
    refine b_le (by omega) (by omega) (fun h => ?_) (fun h => ?_)
    · have : j = k := by omega
      subst this
      exact hK _ _ no te
    · obtain ⟨g1, g2, g3⟩ := wlk_go hW one_0 hF hp (show j < d by omega)
      have hw := wlk_at hW one_0 hF hp j (by omega)
      have hwP := hF.1.P hw
      refine s_after hn hT hwP g1 (fun no' te' => ?_)
      have hw2 := wlk_at hW one_0 hF hp (j + 1) (by omega)
      rw [show d - (j + 1) = (d - (j + 1) - 1) + 1 by omega] at hw2
      have hf := s_nearer (no := no') (te := te') (post := fun r_14 u_13 => lp_X3_wordMoveNow_39 (nI mask) fa fr (nI n) (nI tu) (nI k) K N (nI (rank (wlk T tu mask (fnd n tu T mask) p d (j + 1)))) r_14 (nI j + 1) u_13.1 u_13.2) hn hT hmask hR hw2 (hF.near hW one_0 hw2) (fun no2 te2 => by
        rw [show nI j + 1 = nI (j + 1) from nI_add j 1]
        exact ih (j + 1) no2 te2 (by omega) (by omega))
      exact hf
theorem s_withinM {x : Int32} {post : Int32 → Unit → Prop} (h0 : post 0 ()) : wp_X3_within x 0 ((-1) - 1) post := by
  refine ⟨fun _ => h0, fun z => ⟨fun _ => h0, fun y => ?_⟩⟩
  exact absurd (Int32.lt_of_lt_of_le (by decide : ((-1 : Int32) - 1) < 0) (fa_of_nlt z)) y
theorem s_wordMoveNow {n tu mask : Nat} {T : Nat → List Nat} {fr no te fa li ro : Nat → Int32} {p : List Nat} (hn : n ≤ 8) (hW : Tw n tu T) (hmask : mask < 2 ^ 31) (hT : Fr n tu T fr) (hR : Rp n rank (fnd n tu T mask) fa li) (hp : IsP n p) (hro : At ro p) {x : Int32} {post : Int32 → ((Nat → Int32) × (Nat → Int32)) → Prop} (h1 : ∀ d k no te, (p, d) ∈ fnd n tu T mask → k < d → x = nI k → post (nI (nxt T tu mask (fnd n tu T mask) (wlk T tu mask (fnd n tu T mask) p d k) (d - k - 1))) (no, te)) (h0 : (∀ d k, (p, d) ∈ fnd n tu T mask → k < d → x ≠ nI k) → post (-1) (no, te)) : wp_X3_wordMoveNow (nI n) (nI tu) (nI mask) ro fr no te fa x post := by
  have hF := fnd_Wh hW mask
  have hr : rank p < 40320 := Nat.lt_of_lt_of_le (rank_ltP hp) (fac_le hn)
  unfold wp_X3_wordMoveNow
  refine s_present hn hp hro ?_
  rw [nI_c (n := rank p) (by omega), hR.lenI hp]
  refine ⟨vp_in_nI hr (by decide), fun x4 hx4 => ?_⟩
  subst hx4
  rcases hF.1.or p with ⟨d, hd⟩ | hno
  · have hdl := hR.dlt hn hd
    rw [lenI_at hF.1 hd]
    refine s_within0 (by omega) (fun k hk e => ?_) (fun h => ?_)
    · refine ⟨fun _ => ?_, fun z => absurd z (by decide)⟩
      subst e
      obtain ⟨d', rfl⟩ : ∃ d', d = d' + 1 := ⟨d - 1, by omega⟩
      refine s_nearer hn hT hmask hR hd (hF.near hW one_0 hd) (fun no' te' => ?_)
      exact ⟨k + 1, l_wordM (K := fun v_16 v_17 v_18 c_19 c_20 => post v_17 (c_19, c_20)) hn hW hT hmask hR hd hk (fun _ _ no2 te2 => h1 (d' + 1) k no2 te2 hd hk rfl) (k + 1) 0 no' te' (by omega) (Nat.zero_le _)⟩
    · refine ⟨fun z => absurd rfl z, fun _ => h0 (fun d' k hd' hk' => ?_)⟩
      have := hF.1.uniq hd hd'
      subst this
      exact h k hk'
  · rw [lenI_no hno]
    exact s_withinM ⟨fun z => absurd rfl z, fun _ => h0 (fun d' k hd' => absurd hd' (hno d'))⟩
theorem s_wordMoveM {n tu mask : Nat} {T : Nat → List Nat} {fr no te fa li ro : Nat → Int32} {p : List Nat} (hn : n ≤ 8) (hW : Tw n tu T) (hmask : mask < 2 ^ 31) (hT : Fr n tu T fr) (hp : IsP n p) (hro : At ro p) {x : Int32} {post : Int32 → (Int32 × Int32 × (Nat → Int32) × (Nat → Int32) × (Nat → Int32) × (Nat → Int32)) → Prop} (h1 : ∀ d k no te fa li, (p, d) ∈ fnd n tu T mask → k < d → x = nI k → post (nI (nxt T tu mask (fnd n tu T mask) (wlk T tu mask (fnd n tu T mask) p d k) (d - k - 1))) (0, nI (fnd n tu T mask).length, no, te, fa, li)) (h0 : (∀ d k, (p, d) ∈ fnd n tu T mask → k < d → x ≠ nI k) → ∀ no te fa li, post (-1) (0, nI (fnd n tu T mask).length, no, te, fa, li)) : wp_X3_wordMove (nI n) (nI tu) (nI mask) ro fr no te fa li x post := by
  unfold wp_X3_wordMove
  refine s_layFor hn hmask hT (fun no' te' fa' li' hR => ?_)
  exact s_wordMoveNow hn hW hmask hT hR hp hro (fun d k no2 te2 a b c => h1 d k no2 te2 fa' li' a b c) (fun h => h0 h no' te' fa' li')
/-- the model solves a row: it walks down -/
theorem wlk_end {n tu mask : Nat} {T : Nat → List Nat} (hT : Tw n tu T) {p : List Nat} {d : Nat} (hp : (p, d) ∈ fnd n tu T mask) : wlk T tu mask (fnd n tu T mask) p d d = List.range n := by
  have hF := fnd_Wh hT mask
  have h := wlk_at hT one_0 hF hp d (Nat.le_refl d)
  rw [Nat.sub_self] at h
  have := hF.zero h
  rw [List.mem_singleton] at this
  exact congrArg Prod.fst this
theorem l_solveM {n tu mask d : Nat} {T : Nat → List Nat} {fr fa li : Nat → Int32} {p : List Nat} (hn : n ≤ 8) (hW : Tw n tu T) (hT : Fr n tu T fr) (hmask : mask < 2 ^ 31) (hR : Rp n rank (fnd n tu T mask) fa li) (hp : (p, d) ∈ fnd n tu T mask) {K : Int32 → (Nat → Int32) → (Nat → Int32) → (Nat → Int32) → Prop} (hK : ∀ a ro no te, At ro (List.range n) → K a ro no te) : ∀ N j ro no te, d - j < N → j ≤ d → At ro (wlk T tu mask (fnd n tu T mask) p d j) → lp_X3_solve_25 (nI mask) fa fr (nI n) (nI tu) (nI d) K N (nI j) ro no te := by
  have hF := fnd_Wh hW mask
  have hd := hR.dlt hn hp
  have htu := hW.1
  intro N
  induction N with
  | zero => intro j ro no te h; omega
  | succ N ih =>
    intro j ro no te h1 h2 hro
    rw [lp_X3_solve_25]
    refine b_le (by omega) (by omega) (fun h => ?_) (fun h => ?_)
    · have : j = d := by omega
      subst this
      rw [wlk_end hW hp] at hro
      exact hK _ ro no te hro
    · obtain ⟨g1, g2, g3⟩ := wlk_go hW one_0 hF hp (show j < d by omega)
      have hw := wlk_at hW one_0 hF hp j (by omega)
      have hwP := hF.1.P hw
      refine s_present hn hwP hro ?_
      have hw2 := hw
      rw [show d - j = (d - j - 1) + 1 by omega] at hw2
      refine s_nearer hn hT hmask hR hw2 (hF.near hW one_0 hw2) (fun no' te' => ?_)
      obtain ⟨hs, hf⟩ := hT.2 _ g1
      refine s_doMove hn (by omega) hs hwP hro hf (fun ro' te2 hro' => ?_)
      rw [show nI j + 1 = nI (j + 1) from nI_add j 1]
      exact ih (j + 1) ro' no' te2 (by omega) (by omega) hro'
theorem s_solveM {n tu mask : Nat} {T : Nat → List Nat} {fr no te fa li ro : Nat → Int32} {p : List Nat} (hn : n ≤ 8) (hW : Tw n tu T) (hmask : mask < 2 ^ 31) (hT : Fr n tu T fr) (hp : IsP n p) (hro : At ro p) {post : Int32 → (Int32 × Int32 × (Nat → Int32) × (Nat → Int32) × (Nat → Int32) × (Nat → Int32) × (Nat → Int32)) → Prop} (h1 : ∀ d ro no te fa li, (p, d) ∈ fnd n tu T mask → At ro (List.range n) → post (nI d) (0, nI (fnd n tu T mask).length, ro, no, te, fa, li)) (h0 : (∀ d, (p, d) ∉ fnd n tu T mask) → ∀ no te fa li, post (-1) (0, nI (fnd n tu T mask).length, ro, no, te, fa, li)) : wp_X3_solve (nI n) (nI tu) (nI mask) ro fr no te fa li post := by
  have hF := fnd_Wh hW mask
  have hr : rank p < 40320 := Nat.lt_of_lt_of_le (rank_ltP hp) (fac_le hn)
  unfold wp_X3_solve
  refine s_layFor hn hmask hT (fun no' te' fa' li' hR => ?_)
  refine s_present hn hp hro ?_
  rw [nI_c (n := rank p) (by omega)]
  refine ⟨vp_in_nI hr (by decide), fun x hx => ?_⟩
  have hx : x = fa' (rank p) := hx
  rw [hR.lenI hp] at hx
  rcases hF.1.or p with ⟨d, hd⟩ | hno
  · rw [lenI_at hF.1 hd] at hx
    subst hx
    exact ⟨d + 1, l_solveM (K := fun v_14 c_15 c_16 c_17 => post (nI d) (0, nI (fnd n tu T mask).length, c_15, c_16, c_17, fa', li')) hn hW hT hmask hR hd (fun _ ro2 no2 te2 h => h1 d ro2 no2 te2 fa' li' hd h) (d + 1) 0 ro no' te' (by omega) (Nat.zero_le _) hro⟩
  · rw [lenI_no hno] at hx
    subst hx
    refine ⟨1, ?_⟩
    show lp_X3_solve_25 (nI mask) fa' fr (nI n) (nI tu) (-1) _ 1 0 ro no' te'
    rw [lp_X3_solve_25]
    exact ⟨fun _ => h0 hno no' te' fa' li', fun z => absurd (by decide) z⟩
