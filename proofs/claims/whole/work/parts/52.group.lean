/-! numbers of the group -/
def lastD (L : List (List Nat × Nat)) : Nat := (((L[L.length - 1]?).map (·.2)).getD 0)
def grp (n tu mask : Nat) (T : Nat → List Nat) (w : Nat) : Nat := if w = 0 then (fnd n tu T mask).length else if w = 1 then (orc n tu mask T n).2 else if w = 2 then lastD (fnd n tu T mask) else evC n (fnd n tu T mask)
theorem fnd_pos {n tu : Nat} {T : Nat → List Nat} (hT : Tw n tu T) (mask : Nat) : 0 < (fnd n tu T mask).length := (List.getElem?_eq_some_iff.mp (fnd_0 hT mask)).1
theorem s_groupC {n tu mask rm : Nat} {T : Nat → List Nat} {en so : Nat → Nat → Int32} {to kn : Int32} {le fo : Nat → Int32} (hn : n ≤ 8) (hn1 : 1 ≤ n) (hr1 : fac n ≤ rm) (hr2 : rm ≤ 40320) (hT : Tw n tu T) (hmask : mask < 2 ^ (2 * tu)) (hE : En n tu T en) (hso : ∀ m, m < 2 * tu → At (so m) (T m)) (hk : Kp n tu T to kn le fo) {x : Int32} {post : Int32 → (Int32 × Int32 × (Nat → Int32) × (Nat → Int32)) → Prop} {postX : String → Prop} (h1 : ∀ w to kn le fo, w < 4 → x = nI w → Kp n tu T to kn le fo → post (nI (grp n tu mask T w)) (to, kn, le, fo)) (h0 : (∀ w, w < 4 → x ≠ nI w) → postX "java/lang/IllegalArgumentException") : wp_X2_group (nI n) (nI tu) (nI mask) (nI (fac n)) to kn le fo so en rm x post postX := by
  have htu := hT.1
  unfold wp_X2_group
  refine ⟨fun z => h0 (fun w hw e => by rw [e] at z; exact i_nneg (by omega) z), fun z => ?_⟩
  obtain ⟨j, hj, e⟩ := nI_of z
  subst e
  refine b_le (b := 3) hj (by omega) (fun h => ?_) (fun h => h0 (fun w hw e => by have := (nI_eq hj (by omega)).mp e; omega))
  have h1' := fun to kn le fo hK => h1 j to kn le fo (by omega) rfl hK
  refine b_ne (b := 0) hj (by omega) (fun j0 => ?_) (fun j0 => ?_)
  · refine b_ne (b := 1) hj (by omega) (fun j1 => ?_) (fun j1 => ?_)
    · refine b_ne (b := 2) hj (by omega) (fun j2 => ?_) (fun j2 => ?_)
      · refine s_countEven hn hn1 hr1 hr2 hT hmask hE hso hk (fun le' fo' hR => ?_)
        have := h1' _ _ le' fo' (Kp.of htu hmask hR)
        rw [show grp n tu mask T j = evC n (fnd n tu T mask) by unfold grp; rw [if_neg j0, if_neg j1, if_neg j2]] at this
        exact this
      · refine s_solutions hn hr1 hr2 hmask hE hk (fun le' fo' hR => ?_)
        refine s_greatest hn hr1 hr2 hR (fnd_pos hT mask) (fun q hq => ?_)
        have := h1' _ _ le' fo' (Kp.of htu hmask hR)
        rw [show grp n tu mask T j = q.2 by unfold grp lastD; rw [if_neg j0, if_neg j1, if_pos j2, hq]; rfl] at this
        exact this
    · refine s_countOrbits hn hn1 hT hso ?_
      have := h1' _ _ _ _ hk
      rw [show grp n tu mask T j = (orc n tu mask T n).2 by unfold grp; rw [if_neg j0, if_pos j1]] at this
      exact this
  · refine s_solutions hn hr1 hr2 hmask hE hk (fun le' fo' hR => ?_)
    have := h1' _ _ le' fo' (Kp.of htu hmask hR)
    rw [show grp n tu mask T j = (fnd n tu T mask).length by unfold grp; rw [if_pos j0]] at this
    exact this
theorem s_groupNow {n tu mask w : Nat} {T : Nat → List Nat} {fr no fa li : Nat → Int32} (hn : n ≤ 8) (hn1 : 1 ≤ n) (hTw : Tw n tu T) (hT : Fr n tu T fr) (hmask : mask < 2 ^ 31) (hR : Rp n rank (fnd n tu T mask) fa li) (hw : w < 4) {post : Int32 → (Nat → Int32) → Prop} (h : ∀ no, post (nI (grp n tu mask T w)) no) : wp_X3_groupNow (nI n) (nI tu) (nI mask) (nI (fnd n tu T mask).length) fr no fa li (nI w) post := by
  have hlen := Nat.le_trans hR.1.len (fac_le hn)
  have hpos := fnd_pos hTw mask
  have hf := fac_le hn
  unfold wp_X3_groupNow
  rw [nI_toInt (show w < 2 ^ 31 by omega)]
  refine ⟨fun hc => ?_, fun hc => ?_, fun hc => ?_, fun hc => ?_⟩
  · refine s_evenOnes hn hR (fun no' => ?_)
    have := h no'
    rw [show grp n tu mask T w = evC n (fnd n tu T mask) by unfold grp; rw [if_neg (by omega), if_neg (by omega), if_neg (by omega)]] at this
    exact this
  · have := h no
    rw [show grp n tu mask T w = (fnd n tu T mask).length by unfold grp; rw [if_pos (by omega)]] at this
    exact this
  · refine s_orbitsM hn hn1 hTw hT hmask ?_
    have := h no
    rw [show grp n tu mask T w = (orc n tu mask T n).2 by unfold grp; rw [if_neg (by omega), if_pos (by omega)]] at this
    exact this
  · obtain ⟨q, hq, h2, h3, h4⟩ := hR.at' (Nu.rank n) (i := (fnd n tu T mask).length - 1) (by omega)
    rw [show nI (fnd n tu T mask).length - 1 = nI ((fnd n tu T mask).length - 1) from pk_sub (b := 1) (by omega), nI_c (n := (fnd n tu T mask).length - 1) (by omega), h2, nI_c (n := rank q.1) (by omega), h3]
    refine ⟨vp_in_nI (by omega) (by decide), vp_in_nI (by omega) (by decide), ?_⟩
    have := h no
    rw [show grp n tu mask T w = q.2 by unfold grp lastD; rw [if_neg (by omega), if_neg (by omega), if_pos (by omega), hq]; rfl] at this
    exact this
theorem s_withinK {k : Nat} (hk : k < 2 ^ 31) {x b : Int32} (hb : b = nI k - 1) {post : Int32 → Unit → Prop} (h1 : ∀ j, j < k → x = nI j → post 1 ()) (h0 : (∀ j, j < k → x ≠ nI j) → post 0 ()) : wp_X3_within x 0 b post := by
  rw [hb]
  exact s_within0 hk h1 h0
theorem s_groupM {n tu mask : Nat} {T : Nat → List Nat} {fr no te fa li : Nat → Int32} {wa : Int32} (hn : n ≤ 8) (hn1 : 1 ≤ n) (hTw : Tw n tu T) (hT : Fr n tu T fr) (hmask : mask < 2 ^ 31) {x : Int32} {post : Int32 → (Int32 × Int32 × (Nat → Int32) × (Nat → Int32) × (Nat → Int32) × (Nat → Int32)) → Prop} (h1 : ∀ w wa no te fa li, w < 4 → x = nI w → post (nI (grp n tu mask T w)) (0, wa, no, te, fa, li)) (h0 : (∀ w, w < 4 → x ≠ nI w) → post 0 (1, wa, no, te, fa, li)) : wp_X3_group (nI n) (nI tu) (nI mask) wa fr no te fa li x post := by
  unfold wp_X3_group
  refine s_withinK (k := 4) (by omega) (by decide) (fun w hw e => ?_) (fun h => ?_)
  · refine ⟨fun z => absurd z (by decide), fun _ => ⟨fun _ => ?_, fun z => absurd (by decide) z⟩⟩
    subst e
    refine s_layFor hn hmask hT (fun no' te' fa' li' hR => ?_)
    exact s_groupNow hn hn1 hTw hT hmask hR hw (fun no2 => h1 w _ no2 te' fa' li' hw rfl)
  · exact ⟨fun _ => ⟨fun z => absurd z (by decide), fun _ => h0 h⟩, fun z => absurd rfl z⟩
/-! layers, the mean's sum -/
theorem s_layerC {n tu mask rm : Nat} {T : Nat → List Nat} {en : Nat → Nat → Int32} {to kn : Int32} {le fo : Nat → Int32} (hn : n ≤ 8) (hr1 : fac n ≤ rm) (hr2 : rm ≤ 40320) (hmask : mask < 2 ^ (2 * tu)) (hE : En n tu T en) (hk : Kp n tu T to kn le fo) {x : Int32} {post : Int32 → (Int32 × Int32 × (Nat → Int32) × (Nat → Int32)) → Prop} (h : ∀ le fo, Rp n nu (fnd n tu T mask) le fo → post (nI (cntD x (fnd n tu T mask))) (nI (fnd n tu T mask).length, nI mask, le, fo)) : wp_X2_layer (nI mask) (nI (fac n)) to kn le fo en rm x post := by
  unfold wp_X2_layer
  refine s_solutions hn hr1 hr2 hmask hE hk (fun le' fo' hR => ?_)
  exact s_countOf hn hr1 hr2 hR (h le' fo' hR)
theorem s_layerM {n tu mask : Nat} {T : Nat → List Nat} {fr no te fa li : Nat → Int32} (hn : n ≤ 8) (hT : Fr n tu T fr) (hmask : mask < 2 ^ 31) {x : Int32} {post : Int32 → (Int32 × Int32 × (Nat → Int32) × (Nat → Int32) × (Nat → Int32) × (Nat → Int32)) → Prop} (h : ∀ wa no te fa li, post (nI (cntD x (fnd n tu T mask))) (0, wa, no, te, fa, li)) : wp_X3_layer (nI n) (nI tu) (nI mask) fr no te fa li x post := by
  unfold wp_X3_layer
  refine s_layFor hn hmask hT (fun no' te' fa' li' hR => ?_)
  exact s_layerNow hn hR (h _ no' te' fa' li')
