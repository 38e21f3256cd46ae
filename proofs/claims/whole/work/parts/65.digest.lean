/-! the hash of the whole state -/
def hf (f : Nat → Int64) (h : Int64) : Nat → Int64
  | 0 => h
  | k + 1 => 31 * hf f h k + f k
def hm (n : Nat) (T : Nat → List Nat) (h : Int64) : Nat → Int64
  | 0 => h
  | m + 1 => hf (fun j => (nI ((T m).getD j 0)).toInt64) (hm n T h m) n
def wsA (n tu mask : Nat) (T : Nat → List Nat) (p : List Nat) : Int64 := if lenI (fnd n tu T mask) p = -1 then 0 else ws T tu mask (fnd n tu T mask) (dpt (fnd n tu T mask) p) p
def wmA (n tu mask : Nat) (T : Nat → List Nat) (p : List Nat) (k : Nat) : Int32 := nI (nxt T tu mask (fnd n tu T mask) (wlk T tu mask (fnd n tu T mask) p (dpt (fnd n tu T mask) p) k) (dpt (fnd n tu T mask) p - k - 1))
def dgRow (n tu mask : Nat) (T : Nat → List Nat) (p : List Nat) : Int64 := hm n T (hf (fun j => (nI (p.getD j 0)).toInt64) (hf (fun w => (cnA n tu mask p w).toInt64) 2011 5) n) (2 * tu)
def dgGrp (n tu mask : Nat) (T : Nat → List Nat) (h : Int64) : Int64 := hf (fun k => (nI (cntD (nI k) (fnd n tu T mask))).toInt64) (hf (fun k => (nI (boF n (fnd n tu T mask) k)).toInt64) (hf (fun w => (nI (grp n tu mask T w)).toInt64) h 4) n) 10
def dgWrd (n tu mask : Nat) (T : Nat → List Nat) (p : List Nat) (h : Int64) : Int64 := hf (fun k => (wmA n tu mask T p k).toInt64) (31 * (31 * h + (lenI (fnd n tu T mask) p).toInt64) + wsA n tu mask T p) (dpt (fnd n tu T mask) p)
def dgst (n tu mask : Nat) (T : Nat → List Nat) (p b : List Nat) : Int64 := hf (fun i => (nI (b.getD i 0)).toInt64) (31 * (31 * dgWrd n tu mask T p (dgGrp n tu mask T (dgRow n tu mask T p)) + (mnU (sumD (fnd n tu T mask)) (fnd n tu T mask).length).toInt64) + (nI b.length).toInt64) b.length
/-! the class -/
theorem l_dgC6 {n tu mask : Nat} {p : List Nat} (hn : n ≤ 8) (hn1 : 1 ≤ n) (hp : IsP n p) {ti : Nat → Int32} (hti : At ti p) {K : Int64 → Int32 → Prop} {h0 : Int64} (hK : ∀ a, K (hf (fun w => (cnA n tu mask p w).toInt64) h0 5) a) : ∀ N k, 5 - k < N → k ≤ 5 → lp_X2_digest_6 (nI mask) (nI n) ti (nI tu) K N (hf (fun w => (cnA n tu mask p w).toInt64) h0 k) (nI k) := by
  intro N
  induction N with
  | zero => intro k h; omega
  | succ N ih =>
    intro k g1 g2
    rw [lp_X2_digest_6, show nI k + 1 = nI (k + 1) from nI_add k 1]
    refine b_lt (a := 4) (by omega) (by omega) (fun h => ?_) (fun h => ?_)
    · have : k = 5 := by omega
      subst this; exact hK _
    · refine s_countC hn hn1 hp hti (fun w hw e x hx => ?_) (fun hno => hno k (by omega) rfl)
      have : k = w := (nI_eq (by omega) (by omega)).mp e
      subst this
      rw [hx]
      exact ih (k + 1) (by omega) (by omega)
theorem l_rowC5 {n : Nat} {p : List Nat} (hn : n ≤ 8) (hp : IsP n p) {ti : Nat → Int32} (hti : At ti p) {K : Int64 → Int32 → Prop} {h0 : Int64} (hK : ∀ a, K (hf (fun j => (nI (p.getD j 0)).toInt64) h0 n) a) : ∀ N k, n - k < N → k ≤ n → lp_X2_mixRow_5 (nI n) ti K N (hf (fun j => (nI (p.getD j 0)).toInt64) h0 k) (nI k) := by
  intro N
  induction N with
  | zero => intro k h; omega
  | succ N ih =>
    intro k g1 g2
    rw [lp_X2_mixRow_5, show nI k + 1 = nI (k + 1) from nI_add k 1]
    refine b_le (by omega) (by omega) (fun h => ?_) (fun h => ?_)
    · have : k = n := by omega
      subst this; exact hK _
    · rw [nI_c (n := k) (by omega), hti k (by rw [hp.len]; exact h)]
      refine ⟨vp_in_nI (by omega) (by decide), fun x hx => ?_⟩
      rw [hx]
      exact ih (k + 1) (by omega) (by omega)
theorem l_rowC52 {n m : Nat} {s : List Nat} (hn : n ≤ 8) (hm : m < 12) (hs : IsP n s) {so : Nat → Nat → Int32} (hso : At (so m) s) {K : Int64 → Int32 → Prop} {h0 : Int64} (hK : ∀ a, K (hf (fun j => (nI (s.getD j 0)).toInt64) h0 n) a) : ∀ N k, n - k < N → k ≤ n → lp_X2_mixRow_52 (nI n) so (nI m) K N (hf (fun j => (nI (s.getD j 0)).toInt64) h0 k) (nI k) := by
  intro N
  induction N with
  | zero => intro k h; omega
  | succ N ih =>
    intro k g1 g2
    rw [lp_X2_mixRow_52, show nI k + 1 = nI (k + 1) from nI_add k 1]
    refine b_le (by omega) (by omega) (fun h => ?_) (fun h => ?_)
    · have : k = n := by omega
      subst this; exact hK _
    · rw [nI_c (n := k) (by omega), nI_c (n := m) (by omega), hso k (by rw [hs.len]; exact h)]
      refine ⟨vp_in_nI (by omega) (by decide), vp_in_nI (by omega) (by decide), fun x hx => ?_⟩
      rw [hx]
      exact ih (k + 1) (by omega) (by omega)
theorem l_rowC38 {n tu : Nat} {T : Nat → List Nat} (hn : n ≤ 8) (hT : Tw n tu T) {so : Nat → Nat → Int32} (hso : Ss tu T so) {K : Int64 → Int32 → Prop} {h0 : Int64} (hK : ∀ a, K (hm n T h0 (2 * tu)) a) : ∀ N k, 2 * tu - k < N → k ≤ 2 * tu → lp_X2_mixRow_38 (nI n) so (nI tu) K N (hm n T h0 k) (nI k) := by
  have htu := hT.1
  intro N
  induction N with
  | zero => intro k h; omega
  | succ N ih =>
    intro k g1 g2
    rw [lp_X2_mixRow_38, show (2 : Int32) * nI tu = nI (2 * tu) from pk_mul 2 tu, show nI k + 1 = nI (k + 1) from nI_add k 1]
    refine b_le (by omega) (by omega) (fun h => ?_) (fun h => ?_)
    · have : k = 2 * tu := by omega
      subst this; exact hK _
    · exact ⟨n + 1, l_rowC52 hn (by omega) (hT.P h) (hso k h) (h0 := hm n T h0 k) (K := fun v_13 v_14 => lp_X2_mixRow_38 (nI n) so (nI tu) K N v_13 (nI (k + 1))) (fun _ => ih (k + 1) (by omega) (by omega)) (n + 1) 0 (by omega) (Nat.zero_le _)⟩
theorem s_mixRowC {n tu : Nat} {T : Nat → List Nat} {p : List Nat} (hn : n ≤ 8) (hT : Tw n tu T) (hp : IsP n p) {ti : Nat → Int32} {so : Nat → Nat → Int32} (hti : At ti p) (hso : Ss tu T so) {h0 : Int64} {post : Int64 → Unit → Prop} (h : post (hm n T (hf (fun j => (nI (p.getD j 0)).toInt64) h0 n) (2 * tu)) ()) : wp_X2_mixRow (nI n) (nI tu) ti so h0 post := by
  unfold wp_X2_mixRow
  refine ⟨n + 1, l_rowC5 hn hp hti (h0 := h0) (K := fun v_5 v_6 => ∃ N_15 : Nat, lp_X2_mixRow_38 (nI n) so (nI tu) (fun v_16 v_17 => post v_16 ()) N_15 v_5 0) (fun _ => ?_) (n + 1) 0 (by omega) (Nat.zero_le _)⟩
  exact ⟨2 * tu + 1, l_rowC38 hn hT hso (K := fun v_16 v_17 => post v_16 ()) (fun _ => h) (2 * tu + 1) 0 (by omega) (Nat.zero_le _)⟩
theorem l_grpC5 {n tu mask rm : Nat} {T : Nat → List Nat} {en so : Nat → Nat → Int32} (hn : n ≤ 8) (hn1 : 1 ≤ n) (hr1 : fac n ≤ rm) (hr2 : rm ≤ 40320) (hT : Tw n tu T) (hmask : mask < 2 ^ (2 * tu)) (hE : En n tu T en) (hso : Ss tu T so) {K : Int64 → Int32 → Int32 → Int32 → (Nat → Int32) → (Nat → Int32) → Prop} {h0 : Int64} (hK : ∀ a to kn le fo, Kp n tu T to kn le fo → K (hf (fun w => (nI (grp n tu mask T w)).toInt64) h0 4) a to kn le fo) : ∀ N k to kn le fo, 4 - k < N → k ≤ 4 → Kp n tu T to kn le fo → lp_X2_mixGroup_5 en (nI (fac n)) (nI mask) (nI n) so (nI tu) rm K N (hf (fun w => (nI (grp n tu mask T w)).toInt64) h0 k) (nI k) to kn le fo := by
  intro N
  induction N with
  | zero => intro k to kn le fo h; omega
  | succ N ih =>
    intro k to kn le fo g1 g2 hk
    rw [lp_X2_mixGroup_5, show nI k + 1 = nI (k + 1) from nI_add k 1]
    refine b_lt (a := 3) (by omega) (by omega) (fun h => ?_) (fun h => ?_)
    · have : k = 4 := by omega
      subst this; exact hK _ _ _ _ _ hk
    · refine s_groupC hn hn1 hr1 hr2 hT hmask hE hso hk (fun w to kn le fo hw e hk' x hx => ?_) (fun hno => hno k (by omega) rfl)
      have : k = w := (nI_eq (by omega) (by omega)).mp e
      subst this
      rw [hx]
      exact ih (k + 1) _ _ _ _ (by omega) (by omega) hk'
theorem l_grpC34 {n tu mask rm : Nat} {T : Nat → List Nat} {en : Nat → Nat → Int32} (hn : n ≤ 8) (hr1 : fac n ≤ rm) (hr2 : rm ≤ 40320) (htu : tu ≤ 6) (hmask : mask < 2 ^ (2 * tu)) (hE : En n tu T en) {K : Int64 → Int32 → Int32 → Int32 → (Nat → Int32) → (Nat → Int32) → Prop} {h0 : Int64} (hK : ∀ a to kn le fo, Kp n tu T to kn le fo → K (hf (fun k => (nI (boF n (fnd n tu T mask) k)).toInt64) h0 n) a to kn le fo) : ∀ N k to kn le fo, n - k < N → k ≤ n → Kp n tu T to kn le fo → lp_X2_mixGroup_34 en (nI (fac n)) (nI mask) (nI n) rm K N (hf (fun k => (nI (boF n (fnd n tu T mask) k)).toInt64) h0 k) (nI k) to kn le fo := by
  intro N
  induction N with
  | zero => intro k to kn le fo h; omega
  | succ N ih =>
    intro k to kn le fo g1 g2 hk
    rw [lp_X2_mixGroup_34, show nI k + 1 = nI (k + 1) from nI_add k 1]
    refine b_le (by omega) (by omega) (fun h => ?_) (fun h => ?_)
    · have : k = n := by omega
      subst this; exact hK _ _ _ _ _ hk
    · refine s_basicC hn hr1 hr2 hmask hE hk (fun w le fo hw e hR x hx => ?_) (fun hno => hno k h rfl)
      have : k = w := (nI_eq (by omega) (by omega)).mp e
      subst this
      rw [hx]
      exact ih (k + 1) _ _ _ _ (by omega) (by omega) (Kp.of htu hmask hR)
theorem l_grpC66 {n tu mask rm : Nat} {T : Nat → List Nat} {en : Nat → Nat → Int32} (hn : n ≤ 8) (hr1 : fac n ≤ rm) (hr2 : rm ≤ 40320) (htu : tu ≤ 6) (hmask : mask < 2 ^ (2 * tu)) (hE : En n tu T en) {K : Int64 → Int32 → Int32 → Int32 → (Nat → Int32) → (Nat → Int32) → Prop} {h0 : Int64} (hK : ∀ a to kn le fo, Kp n tu T to kn le fo → K (hf (fun k => (nI (cntD (nI k) (fnd n tu T mask))).toInt64) h0 10) a to kn le fo) : ∀ N k to kn le fo, 10 - k < N → k ≤ 10 → Kp n tu T to kn le fo → lp_X2_mixGroup_66 en (nI (fac n)) (nI mask) rm K N (hf (fun k => (nI (cntD (nI k) (fnd n tu T mask))).toInt64) h0 k) (nI k) to kn le fo := by
  intro N
  induction N with
  | zero => intro k to kn le fo h; omega
  | succ N ih =>
    intro k to kn le fo g1 g2 hk
    rw [lp_X2_mixGroup_66, show nI k + 1 = nI (k + 1) from nI_add k 1]
    refine b_lt (a := 9) (by omega) (by omega) (fun h => ?_) (fun h => ?_)
    · have : k = 10 := by omega
      subst this; exact hK _ _ _ _ _ hk
    · refine s_layerC hn hr1 hr2 hmask hE hk (fun le fo hR x hx => ?_)
      rw [hx]
      exact ih (k + 1) _ _ _ _ (by omega) (by omega) (Kp.of htu hmask hR)
theorem s_mixGroupC {n tu mask rm : Nat} {T : Nat → List Nat} {en so : Nat → Nat → Int32} {to kn : Int32} {le fo : Nat → Int32} (hn : n ≤ 8) (hn1 : 1 ≤ n) (hr1 : fac n ≤ rm) (hr2 : rm ≤ 40320) (hT : Tw n tu T) (hmask : mask < 2 ^ (2 * tu)) (hE : En n tu T en) (hso : Ss tu T so) (hk : Kp n tu T to kn le fo) {h0 : Int64} {post : Int64 → (Int32 × Int32 × (Nat → Int32) × (Nat → Int32)) → Prop} (h : ∀ to kn le fo, Kp n tu T to kn le fo → post (dgGrp n tu mask T h0) (to, kn, le, fo)) : wp_X2_mixGroup (nI n) (nI tu) (nI mask) (nI (fac n)) to kn le fo so en rm h0 post := by
  unfold wp_X2_mixGroup
  refine ⟨5, l_grpC5 hn hn1 hr1 hr2 hT hmask hE hso (h0 := h0) (fun _ to1 kn1 le1 fo1 hk1 => ?_) 5 0 to kn le fo (by omega) (by omega) hk⟩
  refine ⟨n + 1, l_grpC34 hn hr1 hr2 hT.1 hmask hE (h0 := hf (fun w => (nI (grp n tu mask T w)).toInt64) h0 4) (fun _ to2 kn2 le2 fo2 hk2 => ?_) (n + 1) 0 to1 kn1 le1 fo1 (by omega) (by omega) hk1⟩
  exact ⟨11, l_grpC66 hn hr1 hr2 hT.1 hmask hE (h0 := hf (fun k => (nI (boF n (fnd n tu T mask) k)).toInt64) (hf (fun w => (nI (grp n tu mask T w)).toInt64) h0 4) n) (K := fun v_28 v_29 c_30 c_31 c_32 c_33 => post v_28 (c_30, c_31, c_32, c_33)) (fun _ to3 kn3 le3 fo3 hk3 => h to3 kn3 le3 fo3 hk3) 11 0 to2 kn2 le2 fo2 (by omega) (by omega) hk2⟩
theorem l_wrdC31 {n tu mask rm d : Nat} {T : Nat → List Nat} {en : Nat → Nat → Int32} {p : List Nat} (hn : n ≤ 8) (hr1 : fac n ≤ rm) (hr2 : rm ≤ 40320) (hT : Tw n tu T) (hmask : mask < 2 ^ (2 * tu)) (hE : En n tu T en) (hp : IsP n p) {ti : Nat → Int32} (hti : At ti p) (hd : (p, d) ∈ fnd n tu T mask) (hdl : d < 40320) {K : Int64 → Int32 → (Nat → Int32) → Int32 → Int32 → (Nat → Int32) → (Nat → Int32) → Prop} {h0 : Int64} (hK : ∀ a sc to kn le fo, Kp n tu T to kn le fo → K (hf (fun k => (wmA n tu mask T p k).toInt64) h0 d) a sc to kn le fo) : ∀ N k sc to kn le fo, d - k < N → k ≤ d → Kp n tu T to kn le fo → lp_X2_mixWord_31 en (nI (fac n)) (nI mask) (nI n) ti rm (nI d) K N (hf (fun k => (wmA n tu mask T p k).toInt64) h0 k) (nI k) sc to kn le fo := by
  have hG := (fnd_Wh hT mask).1
  have hdp := dpt_at hG hd
  intro N
  induction N with
  | zero => intro k sc to kn le fo h; omega
  | succ N ih =>
    intro k sc to kn le fo g1 g2 hk
    rw [lp_X2_mixWord_31, show nI k + 1 = nI (k + 1) from nI_add k 1]
    refine b_le (by omega) (by omega) (fun h => ?_) (fun h => ?_)
    · have : k = d := by omega
      subst this; exact hK _ _ _ _ _ _ hk
    · refine s_wordMoveC hn hr1 hr2 hT hmask hE hk hp hti (fun d' j sc' le fo hd' hj e hR x hx => ?_) (fun hno => absurd rfl (hno d k hd h))
      have e1 := hG.uniq hd hd'
      subst e1
      have : k = j := (nI_eq (by omega) (by omega)).mp e
      subst this
      have hnx := ih (k + 1) sc' _ _ le fo (by omega) (by omega) (Kp.of hT.1 hmask hR)
      rw [hf, show wmA n tu mask T p k = nI (nxt T tu mask (fnd n tu T mask) (wlk T tu mask (fnd n tu T mask) p d k) (d - k - 1)) by unfold wmA; rw [hdp]] at hnx
      rw [hx]
      exact hnx
theorem dpt_no {L : List (List Nat × Nat)} {p : List Nat} (h : ∀ d, (p, d) ∉ L) : dpt L p = 0 := by
  unfold dpt
  cases hq : L.find? (fun q => decide (q.1 = p)) with
  | none => rfl
  | some q =>
    have h1 := List.mem_of_find?_eq_some hq
    have h2 := List.find?_some hq
    rw [decide_eq_true_eq] at h2
    exact absurd (show (p, q.2) ∈ L by rw [← h2]; exact h1) (h q.2)
theorem wsA_at {n tu mask d : Nat} {T : Nat → List Nat} (hT : Tw n tu T) {p : List Nat} (hd : (p, d) ∈ fnd n tu T mask) (hdl : d < 2 ^ 31) : wsA n tu mask T p = ws T tu mask (fnd n tu T mask) d p := by
  have hG := (fnd_Wh hT mask).1
  unfold wsA
  rw [lenI_at hG hd, if_neg (nI_neg1 hdl), dpt_at hG hd]
theorem wsA_no {n tu mask : Nat} {T : Nat → List Nat} {p : List Nat} (h : ∀ d, (p, d) ∉ fnd n tu T mask) : wsA n tu mask T p = 0 := by
  unfold wsA
  rw [lenI_no h, if_pos rfl]
theorem s_mixWordC {n tu mask rm : Nat} {T : Nat → List Nat} {en : Nat → Nat → Int32} {to kn : Int32} {le fo sc ti : Nat → Int32} {wy : Nat → Int64} {p : List Nat} (hn : n ≤ 8) (hr1 : fac n ≤ rm) (hr2 : rm ≤ 40320) (hT : Tw n tu T) (hmask : mask < 2 ^ (2 * tu)) (hE : En n tu T en) (hk : Kp n tu T to kn le fo) (hp : IsP n p) (hti : At ti p) {h0 : Int64} {post : Int64 → ((Nat → Int32) × (Nat → Int64) × Int32 × Int32 × (Nat → Int32) × (Nat → Int32)) → Prop} (h : ∀ sc wy to kn le fo, Kp n tu T to kn le fo → post (dgWrd n tu mask T p h0) (sc, wy, to, kn, le, fo)) : wp_X2_mixWord (nI n) (nI mask) ti sc (nI (fac n)) wy to kn le fo en rm h0 post := by
  have hW := fnd_Wh hT mask
  unfold wp_X2_mixWord
  refine s_lengthC hn hr1 hr2 hmask hE hk hp hti (fun sc1 le1 fo1 hR1 => ?_)
  have hk1 := Kp.of hT.1 hmask hR1
  intro x hx
  refine s_wordsC hn hr1 hr2 hT hmask hE hk1 hp hti (fun d sc2 wy2 le2 fo2 hd hR2 y hy => ?_) (fun hno sc2 wy2 le2 fo2 hR2 y hy => ?_)
  · have hk2 := Kp.of hT.1 hmask hR2
    have hdl := hR2.dlt hn hd
    refine ⟨d + 1, ?_⟩
    have hl := l_wrdC31 hn hr1 hr2 hT hmask hE hp hti hd hdl (h0 := y) (K := fun v_12 v_13 c_14 c_15 c_16 c_17 c_18 => post v_12 (c_14, wy2, c_15, c_16, c_17, c_18)) (fun _ sc3 to3 kn3 le3 fo3 hk3 => ?_) (d + 1) 0 sc2 _ _ le2 fo2 (by omega) (Nat.zero_le _) hk2
    · rw [lenI_at hW.1 hd]
      exact hl
    · have := h sc3 wy2 to3 kn3 le3 fo3 hk3
      unfold dgWrd at this
      rw [dpt_at hW.1 hd, wsA_at hT hd (by omega), ← hx, ← hy] at this
      exact this
  · have hk2 := Kp.of hT.1 hmask hR2
    refine ⟨1, ?_⟩
    rw [lenI_no hno]
    show lp_X2_mixWord_31 en (nI (fac n)) (nI mask) (nI n) ti rm (-1) _ 1 y 0 sc2 (nI (fnd n tu T mask).length) (nI mask) le2 fo2
    rw [lp_X2_mixWord_31]
    refine ⟨fun _ => ?_, fun z => absurd (by decide) z⟩
    have := h sc2 wy2 _ _ le2 fo2 hk2
    unfold dgWrd at this
    rw [dpt_no hno, wsA_no hno, ← hx] at this
    rw [hy]
    exact this
theorem l_dgC76 {b : List Nat} {f : Nat → Int32} (hf' : Bu b f) {K : Int64 → Int32 → Prop} {h0 : Int64} (hK : ∀ a, K (hf (fun i => (nI (b.getD i 0)).toInt64) h0 b.length) a) : ∀ N k, b.length - k < N → k ≤ b.length → lp_X2_digest_76 (nI b.length) f K N (hf (fun i => (nI (b.getD i 0)).toInt64) h0 k) (nI k) := by
  have h60 := hf'.2.1
  intro N
  induction N with
  | zero => intro k h; omega
  | succ N ih =>
    intro k g1 g2
    rw [lp_X2_digest_76, show nI k + 1 = nI (k + 1) from nI_add k 1]
    refine b_le (by omega) (by omega) (fun h => ?_) (fun h => ?_)
    · have : k = b.length := by omega
      subst this; exact hK _
    · obtain ⟨q1, q2, q3⟩ := hf'.get h
      rw [nI_c (n := k) (by omega), q1]
      refine ⟨vp_in_nI (by omega) (by decide), fun x hx => ?_⟩
      rw [hx]
      exact ih (k + 1) (by omega) (by omega)
theorem s_digestC {n tu mask rm : Nat} {T : Nat → List Nat} {en so : Nat → Nat → Int32} {to kn : Int32} {le fo sc ti f : Nat → Int32} {wy : Nat → Int64} {p b : List Nat} (hn : n ≤ 8) (hn1 : 1 ≤ n) (hr1 : fac n ≤ rm) (hr2 : rm ≤ 40320) (hT : Tw n tu T) (hmask : mask < 2 ^ (2 * tu)) (hE : En n tu T en) (hso : Ss tu T so) (hk : Kp n tu T to kn le fo) (hp : IsP n p) (hti : At ti p) (hf' : Bu b f) {post : Int64 → ((Nat → Int32) × (Nat → Int64) × Int32 × Int32 × (Nat → Int32) × (Nat → Int32)) → Prop} (h : ∀ sc wy to kn le fo, Kp n tu T to kn le fo → post (dgst n tu mask T p b) (sc, wy, to, kn, le, fo)) : wp_X2_digest (nI n) (nI tu) (nI mask) (nI b.length) ti sc f (nI (fac n)) wy to kn le fo so en rm post := by
  unfold wp_X2_digest
  refine ⟨6, l_dgC6 hn hn1 hp hti (h0 := 2011) (fun _ => ?_) 6 0 (by omega) (by omega)⟩
  refine s_mixRowC hn hT hp hti hso ?_
  refine s_mixGroupC hn hn1 hr1 hr2 hT hmask hE hso hk (fun to1 kn1 le1 fo1 hk1 => ?_)
  refine s_mixWordC hn hr1 hr2 hT hmask hE hk1 hp hti (fun sc2 wy2 to2 kn2 le2 fo2 hk2 => ?_)
  refine s_meanC hn hr1 hr2 hT hmask hE hk2 (fun le3 fo3 hR3 => ?_)
  have hlen := Nat.le_trans hR3.1.len (fac_le hn)
  have hsum := hR3.sum hn
  have hk3 := Kp.of hT.1 hmask hR3
  refine s_bitsU (by omega) (fnd_pos hT mask) (by omega) ?_
  intro x hx y hy
  refine ⟨b.length + 1, l_dgC76 hf' (h0 := y) (K := fun v_24 v_25 => post v_24 (sc2, wy2, nI (fnd n tu T mask).length, nI mask, le3, fo3)) (fun _ => ?_) (b.length + 1) 0 (by omega) (Nat.zero_le _)⟩
  have := h sc2 wy2 _ _ le3 fo3 hk3
  unfold dgst at this
  rw [hy, hx]
  exact this
/-! the model -/
theorem s_mix {h x : Int64} {post : Int64 → Prop} (hp : post (31 * h + x)) : wp_X3_mix h x post := fun y hy => by rw [hy]; exact hp
theorem l_rowM2 {n tu mask : Nat} {p : List Nat} (hn : n ≤ 8) (hp : IsP n p) {ro : Nat → Int32} (hro : At ro p) {K : Int32 → Int64 → Prop} {h0 : Int64} (hK : ∀ a, K a (hf (fun w => (cnA n tu mask p w).toInt64) h0 5)) : ∀ N k, 5 - k < N → k ≤ 5 → lp_X3_mixRow_2 (nI mask) (nI n) ro (nI tu) K N (nI k) (hf (fun w => (cnA n tu mask p w).toInt64) h0 k) := by
  intro N
  induction N with
  | zero => intro k h; omega
  | succ N ih =>
    intro k g1 g2
    rw [lp_X3_mixRow_2, show nI k + 1 = nI (k + 1) from nI_add k 1]
    refine b_le (a := 5) (by omega) (by omega) (fun h => ?_) (fun h => ?_)
    · have : k = 5 := by omega
      subst this; exact hK _
    · exact s_counted hn hp hro h (s_mix (ih (k + 1) (by omega) (by omega)))
theorem l_rowM25 {n : Nat} {p : List Nat} (hn : n ≤ 8) (hp : IsP n p) {ro : Nat → Int32} (hro : At ro p) {K : Int32 → Int64 → Prop} {h0 : Int64} (hK : ∀ a, K a (hf (fun j => (nI (p.getD j 0)).toInt64) h0 n)) : ∀ N k, n - k < N → k ≤ n → lp_X3_mixRow_25 (nI n) ro K N (nI k) (hf (fun j => (nI (p.getD j 0)).toInt64) h0 k) := by
  intro N
  induction N with
  | zero => intro k h; omega
  | succ N ih =>
    intro k g1 g2
    rw [lp_X3_mixRow_25, show nI k + 1 = nI (k + 1) from nI_add k 1]
    refine b_le (by omega) (by omega) (fun h => ?_) (fun h => ?_)
    · have : k = n := by omega
      subst this; exact hK _
    · rw [nI_c (n := k) (by omega), hro k (by rw [hp.len]; exact h)]
      exact ⟨vp_in_nI (by omega) (by decide), s_mix (ih (k + 1) (by omega) (by omega))⟩
theorem l_rowM64 {n tu m : Nat} {T : Nat → List Nat} (hn : n ≤ 8) {fr : Nat → Int32} (hT : Fr n tu T fr) (hm : m < 2 * tu) {K : Int32 → Int64 → Prop} {h0 : Int64} (hK : ∀ a, K a (hf (fun j => (nI ((T m).getD j 0)).toInt64) h0 n)) : ∀ N k, n - k < N → k ≤ n → lp_X3_mixRow_64 fr (nI n) (nI m) K N (nI k) (hf (fun j => (nI ((T m).getD j 0)).toInt64) h0 k) := by
  have htu := hT.1
  intro N
  induction N with
  | zero => intro k h; omega
  | succ N ih =>
    intro k g1 g2
    rw [lp_X3_mixRow_64, show nI k + 1 = nI (k + 1) from nI_add k 1]
    refine b_le (by omega) (by omega) (fun h => ?_) (fun h => ?_)
    · have : k = n := by omega
      subst this; exact hK _
    · have ee : (8 : Int32) * nI m + nI k = nI (8 * m + k) := by
        rw [show (8 : Int32) = nI 8 from rfl, pk_mul, nI_add]
      rw [ee, nI_c (n := 8 * m + k) (by omega), (hT.2 m hm).2 k h]
      exact ⟨vp_in_nI (by omega) (by decide), s_mix (ih (k + 1) (by omega) (by omega))⟩
theorem l_rowM52 {n tu : Nat} {T : Nat → List Nat} (hn : n ≤ 8) {fr : Nat → Int32} (hT : Fr n tu T fr) {K : Int32 → Int64 → Prop} {h0 : Int64} (hK : ∀ a, K a (hm n T h0 (2 * tu))) : ∀ N k, 2 * tu - k < N → k ≤ 2 * tu → lp_X3_mixRow_52 fr (nI n) (nI tu) K N (nI k) (hm n T h0 k) := by
  have htu := hT.1
  intro N
  induction N with
  | zero => intro k h; omega
  | succ N ih =>
    intro k g1 g2
    rw [lp_X3_mixRow_52, show (2 : Int32) * nI tu = nI (2 * tu) from pk_mul 2 tu, show nI k + 1 = nI (k + 1) from nI_add k 1]
    refine b_le (by omega) (by omega) (fun h => ?_) (fun h => ?_)
    · have : k = 2 * tu := by omega
      subst this; exact hK _
    · exact ⟨n + 1, l_rowM64 hn hT h (h0 := hm n T h0 k) (K := fun v_19 c_20 => lp_X3_mixRow_52 fr (nI n) (nI tu) K N (nI (k + 1)) c_20) (fun _ => ih (k + 1) (by omega) (by omega)) (n + 1) 0 (by omega) (Nat.zero_le _)⟩
theorem s_mixRowM {n tu mask : Nat} {T : Nat → List Nat} {p : List Nat} (hn : n ≤ 8) {fr ro : Nat → Int32} (hT : Fr n tu T fr) (hp : IsP n p) (hro : At ro p) {post : Int64 → Prop} (h : post (dgRow n tu mask T p)) : wp_X3_mixRow (nI n) (nI tu) (nI mask) 2011 ro fr post := by
  unfold wp_X3_mixRow
  refine ⟨6, l_rowM2 hn hp hro (h0 := 2011) (fun _ => ?_) 6 0 (by omega) (by omega)⟩
  refine ⟨n + 1, l_rowM25 hn hp hro (h0 := hf (fun w => (cnA n tu mask p w).toInt64) 2011 5) (fun _ => ?_) (n + 1) 0 (by omega) (by omega)⟩
  exact ⟨2 * tu + 1, l_rowM52 hn hT (K := fun _ c => post c) (fun _ => h) (2 * tu + 1) 0 (by omega) (by omega)⟩
theorem l_dgM26 {n tu mask : Nat} {T : Nat → List Nat} {fr fa li : Nat → Int32} (hn : n ≤ 8) (hn1 : 1 ≤ n) (hTw : Tw n tu T) (hT : Fr n tu T fr) (hmask : mask < 2 ^ 31) (hR : Rp n rank (fnd n tu T mask) fa li) {K : Int32 → Int64 → (Nat → Int32) → Prop} {h0 : Int64} (hK : ∀ a no, K a (hf (fun w => (nI (grp n tu mask T w)).toInt64) h0 4) no) : ∀ N k no, 4 - k < N → k ≤ 4 → lp_X3_digest_26 (nI mask) fa fr li (nI n) (nI tu) (nI (fnd n tu T mask).length) K N (nI k) (hf (fun w => (nI (grp n tu mask T w)).toInt64) h0 k) no := by
  intro N
  induction N with
  | zero => intro k no h; omega
  | succ N ih =>
    intro k no g1 g2
    rw [lp_X3_digest_26, show nI k + 1 = nI (k + 1) from nI_add k 1]
    refine b_le (a := 4) (by omega) (by omega) (fun h => ?_) (fun h => ?_)
    · have : k = 4 := by omega
      subst this; exact hK _ _
    · exact s_groupNow hn hn1 hTw hT hmask hR h (fun no' => s_mix (ih (k + 1) no' (by omega) (by omega)))
theorem l_dgM49 {n : Nat} (hn : n ≤ 8) {L : List (List Nat × Nat)} {fa li : Nat → Int32} (hR : Rp n rank L fa li) {K : Int32 → Int64 → (Nat → Int32) → Prop} {h0 : Int64} (hK : ∀ a no, K a (hf (fun k => (nI (boF n L k)).toInt64) h0 n) no) : ∀ N k no, n - k < N → k ≤ n → lp_X3_digest_49 li (nI n) (nI L.length) K N (nI k) (hf (fun k => (nI (boF n L k)).toInt64) h0 k) no := by
  intro N
  induction N with
  | zero => intro k no h; omega
  | succ N ih =>
    intro k no g1 g2
    rw [lp_X3_digest_49, show nI k + 1 = nI (k + 1) from nI_add k 1]
    refine b_le (by omega) (by omega) (fun h => ?_) (fun h => ?_)
    · have : k = n := by omega
      subst this; exact hK _ _
    · exact s_basicNow hn h hR (fun no' => s_mix (ih (k + 1) no' (by omega) (by omega)))
theorem l_dgM75 {n : Nat} (hn : n ≤ 8) {L : List (List Nat × Nat)} {fa li : Nat → Int32} (hR : Rp n rank L fa li) {K : Int32 → Int64 → Prop} {h0 : Int64} (hK : ∀ a, K a (hf (fun k => (nI (cntD (nI k) L)).toInt64) h0 10)) : ∀ N k, 10 - k < N → k ≤ 10 → lp_X3_digest_75 fa li (nI L.length) K N (nI k) (hf (fun k => (nI (cntD (nI k) L)).toInt64) h0 k) := by
  intro N
  induction N with
  | zero => intro k h; omega
  | succ N ih =>
    intro k g1 g2
    rw [lp_X3_digest_75, show nI k + 1 = nI (k + 1) from nI_add k 1]
    refine b_le (a := 10) (by omega) (by omega) (fun h => ?_) (fun h => ?_)
    · have : k = 10 := by omega
      subst this; exact hK _
    · exact s_layerNow hn hR (s_mix (ih (k + 1) (by omega) (by omega)))
theorem l_dgM123 {n tu mask d : Nat} {T : Nat → List Nat} {fr fa li ro : Nat → Int32} {p : List Nat} (hn : n ≤ 8) (hW : Tw n tu T) (hmask : mask < 2 ^ 31) (hT : Fr n tu T fr) (hR : Rp n rank (fnd n tu T mask) fa li) (hp : IsP n p) (hro : At ro p) (hd : (p, d) ∈ fnd n tu T mask) {K : Int32 → Int64 → (Nat → Int32) → (Nat → Int32) → Prop} {h0 : Int64} (hK : ∀ a no te, K a (hf (fun k => (wmA n tu mask T p k).toInt64) h0 d) no te) : ∀ N k no te, d - k < N → k ≤ d → lp_X3_digest_123 (nI mask) fa fr (nI n) ro (nI tu) (nI d) K N (nI k) (hf (fun k => (wmA n tu mask T p k).toInt64) h0 k) no te := by
  have hdl := hR.dlt hn hd
  have hG := hR.1
  have hdp := dpt_at hG hd
  intro N
  induction N with
  | zero => intro k no te h; omega
  | succ N ih =>
    intro k no te g1 g2
    rw [lp_X3_digest_123, show nI k + 1 = nI (k + 1) from nI_add k 1]
    refine b_le (by omega) (by omega) (fun h => ?_) (fun h => ?_)
    · have : k = d := by omega
      subst this; exact hK _ _ _
    · refine s_wordMoveNow hn hW hmask hT hR hp hro (fun d' j no' te' hd' hj e => ?_) (fun hno => absurd rfl (hno d k hd h))
      have e1 := hG.uniq hd hd'
      subst e1
      have : k = j := (nI_eq (by omega) (by omega)).mp e
      subst this
      refine s_mix ?_
      have hnx := ih (k + 1) no' te' (by omega) (by omega)
      rw [hf, show wmA n tu mask T p k = nI (nxt T tu mask (fnd n tu T mask) (wlk T tu mask (fnd n tu T mask) p d k) (d - k - 1)) by unfold wmA; rw [hdp]] at hnx
      exact hnx
theorem l_dgM166 {b : List Nat} {f : Nat → Int32} (hf' : Bu b f) {K : Int32 → Int64 → Prop} {h0 : Int64} (hK : ∀ a, K a (hf (fun i => (nI (b.getD i 0)).toInt64) h0 b.length)) : ∀ N k, b.length - k < N → k ≤ b.length → lp_X3_digest_166 f (nI b.length) K N (nI k) (hf (fun i => (nI (b.getD i 0)).toInt64) h0 k) := by
  have h60 := hf'.2.1
  intro N
  induction N with
  | zero => intro k h; omega
  | succ N ih =>
    intro k g1 g2
    rw [lp_X3_digest_166, show nI k + 1 = nI (k + 1) from nI_add k 1]
    refine b_le (by omega) (by omega) (fun h => ?_) (fun h => ?_)
    · have : k = b.length := by omega
      subst this; exact hK _
    · obtain ⟨q1, q2, q3⟩ := hf'.get h
      rw [nI_c (n := k) (by omega), q1]
      exact ⟨vp_in_nI (by omega) (by decide), s_mix (ih (k + 1) (by omega) (by omega))⟩
theorem s_digestM {n tu mask : Nat} {T : Nat → List Nat} {fr no te fa li ro f : Nat → Int32} {wy : Nat → Int64} {p b : List Nat} (hn : n ≤ 8) (hn1 : 1 ≤ n) (hW : Tw n tu T) (hT : Fr n tu T fr) (hmask : mask < 2 ^ 31) (hp : IsP n p) (hro : At ro p) (hf' : Bu b f) {post : Int64 → (Int32 × Int32 × Int64 × (Nat → Int32) × (Nat → Int32) × (Nat → Int32) × (Nat → Int32) × (Nat → Int64)) → Prop} (h : ∀ wa ha no te fa li wy, post (dgst n tu mask T p b) (0, wa, ha, no, te, fa, li, wy)) : wp_X3_digest (nI n) (nI tu) (nI mask) (nI b.length) ro fr f no te fa li wy post := by
  have hF := fnd_Wh hW mask
  have hr : rank p < 40320 := Nat.lt_of_lt_of_le (rank_ltP hp) (fac_le hn)
  unfold wp_X3_digest
  refine s_mixRowM hn hT hp hro ?_
  refine s_layFor hn hmask hT (fun no1 te1 fa1 li1 hR => ?_)
  have hlen := Nat.le_trans hR.1.len (fac_le hn)
  have hsum := hR.sum hn
  refine ⟨5, l_dgM26 hn hn1 hW hT hmask hR (h0 := dgRow n tu mask T p) (fun _ no2 => ?_) 5 0 no1 (by omega) (by omega)⟩
  refine ⟨n + 1, l_dgM49 hn hR (h0 := hf (fun w => (nI (grp n tu mask T w)).toInt64) (dgRow n tu mask T p) 4) (fun _ no3 => ?_) (n + 1) 0 no2 (by omega) (by omega)⟩
  refine ⟨11, l_dgM75 hn hR (h0 := hf (fun k => (nI (boF n (fnd n tu T mask) k)).toInt64) (hf (fun w => (nI (grp n tu mask T w)).toInt64) (dgRow n tu mask T p) 4) n) (fun _ => ?_) 11 0 (by omega) (by omega)⟩
  refine s_present hn hp hro ?_
  rw [nI_c (n := rank p) (by omega)]
  refine ⟨vp_in_nI hr (by decide), fun x hx => ?_⟩
  have hx : x = fa1 (rank p) := hx
  rw [hR.lenI hp] at hx
  subst hx
  refine s_mix ?_
  have fin : ∀ (hh : Int64) (no4 te4 : Nat → Int32) (wy4 : Nat → Int64), hh = dgWrd n tu mask T p (dgGrp n tu mask T (dgRow n tu mask T p)) → wp_X3_meanNow (nI (fnd n tu T mask).length) fa1 li1 (fun r_44 u_43 => wp_Jxe99ae_doubleToLongBits_ccdee r_44 (fun r_46 u_45 => wp_X3_mix hh r_46 (fun u_47 => wp_X3_mix u_47 ((nI b.length : Int32).toInt64) (fun u_48 => ∃ N_52 : Nat, lp_X3_digest_166 f (nI b.length) (fun v_53 c_54 => post c_54 (0, nI (fnd n tu T mask).length, c_54, no4, te4, fa1, li1, wy4)) N_52 0 u_48)))) := by
    intro hh no4 te4 wy4 e
    refine s_meanNow hn hR (fnd_pos hW mask) ?_
    refine s_rawBits (by omega) (fnd_pos hW mask) (by omega) ?_
    refine s_mix (s_mix ?_)
    subst e
    exact ⟨b.length + 1, l_dgM166 hf' (h0 := 31 * (31 * dgWrd n tu mask T p (dgGrp n tu mask T (dgRow n tu mask T p)) + (mnU (sumD (fnd n tu T mask)) (fnd n tu T mask).length).toInt64) + (nI b.length).toInt64) (K := fun v_53 c_54 => post c_54 (0, nI (fnd n tu T mask).length, c_54, no4, te4, fa1, li1, wy4)) (fun _ => h _ _ no4 te4 fa1 li1 wy4) (b.length + 1) 0 (by omega) (Nat.zero_le _)⟩
  refine s_wordsNow hn hW hmask hT hR hp hro (fun d no4 te4 wy4 hd => ?_) (fun hno no4 te4 wy4 => ?_)
  · refine s_mix ?_
    have hdl := hR.dlt hn hd
    rw [lenI_at hF.1 hd]
    refine ⟨d + 1, l_dgM123 hn hW hmask hT hR hp hro hd (h0 := 31 * (31 * dgGrp n tu mask T (dgRow n tu mask T p) + (nI d).toInt64) + ws T tu mask (fnd n tu T mask) d p) (fun _ no5 te5 => ?_) (d + 1) 0 no4 te4 (by omega) (Nat.zero_le _)⟩
    refine fin _ no5 te5 wy4 ?_
    unfold dgWrd
    rw [dpt_at hF.1 hd, wsA_at hW hd (by omega), lenI_at hF.1 hd]
  · refine s_mix ?_
    rw [lenI_no hno]
    refine ⟨1, ?_⟩
    rw [lp_X3_digest_123]
    refine ⟨fun _ => ?_, fun z => absurd (by decide) z⟩
    refine fin _ no4 te4 wy4 ?_
    unfold dgWrd
    rw [dpt_no hno, wsA_no hno, lenI_no hno]
    rfl
