/-! both sides count the orbits -/
theorem l_mvp5 {n m X : Nat} {s : List Nat} (hn : n ≤ 8) (hm : m < 12) (hs : IsP n s) {so : Nat → Nat → Int32} (hso : At (so m) s) {K : Int32 → Int32 → Prop} (hK : ∀ a, K (nI (mvp s X n)) a) : ∀ N k, n - k < N → k ≤ n → lp_X2_movedPlaces_5 (nI n) so (nI m) (nI X) K N (nI (mvp s X k)) (nI k) := by
  intro N
  induction N with
  | zero => intro k h; omega
  | succ N ih =>
    intro k h1 h2
    rw [lp_X2_movedPlaces_5]
    refine b_le (by omega) (by omega) (fun h => ?_) (fun h => ?_)
    · have : k = n := by omega
      subst this; exact hK _
    · have hsk := hs.lt h
      have hnx := ih (k + 1) (by omega) (by omega)
      rw [mvp] at hnx
      rw [nI_c (n := m) (by omega), nI_c (n := k) (by omega), hso k (by rw [hs.len]; exact h), show nI k + 1 = nI (k + 1) from nI_add k 1]
      refine ⟨vp_in_nI (by omega) (by decide), vp_in_nI (by omega) (by decide), ?_⟩
      refine c_bit (by omega) (fun hb => ?_) (fun hb => ?_)
      · rw [if_neg (by rw [hb]; decide)] at hnx
        exact hnx
      · rw [if_pos hb] at hnx
        intro x hx
        rw [hx, i_shl (by omega), i_or]
        exact hnx
theorem s_moved {n m X : Nat} {s : List Nat} (hn : n ≤ 8) (hm : m < 12) (hs : IsP n s) {so : Nat → Nat → Int32} (hso : At (so m) s) {post : Int32 → Unit → Prop} (h : post (nI (mvp s X n)) ()) : wp_X2_movedPlaces (nI n) so (nI m) (nI X) post :=
  ⟨n + 1, l_mvp5 hn hm hs hso (K := fun v_7 v_8 => post v_7 ()) (fun _ => h) (n + 1) 0 (by omega) (Nat.zero_le _)⟩
theorem l_orb17 {n tu mask X : Nat} {T : Nat → List Nat} (hn : n ≤ 8) (hT : Tw n tu T) {so : Nat → Nat → Int32} (hso : ∀ m, m < 2 * tu → At (so m) (T m)) {K : Int32 → Int32 → Prop} (hK : ∀ a, K (nI (rnd n mask T X (2 * tu))) a) : ∀ N k, 2 * tu - k < N → k ≤ 2 * tu → lp_X2_orbitOf_17 (nI mask) (nI n) so (nI tu) K N (nI (rnd n mask T X k)) (nI k) := by
  have htu := hT.1
  intro N
  induction N with
  | zero => intro k h; omega
  | succ N ih =>
    intro k h1 h2
    rw [lp_X2_orbitOf_17, show (2 : Int32) * nI tu = nI (2 * tu) from pk_mul 2 tu, show nI k + 1 = nI (k + 1) from nI_add k 1]
    refine b_le (by omega) (by omega) (fun h => ?_) (fun h => ?_)
    · have : k = 2 * tu := by omega
      subst this; exact hK _
    · have hnx := ih (k + 1) (by omega) (by omega)
      rw [rnd] at hnx
      refine s_isAllowedC htu (fun j hj ej hb => ?_) (fun hb => ?_)
      · have : k = j := (nI_eq (by omega) (by omega)).mp ej
        subst this
        rw [if_pos hb] at hnx
        refine ⟨fun z => absurd z (by decide), fun _ => ?_⟩
        refine s_moved hn (by omega) (hT.P h) (hso k h) ?_
        intro x hx
        rw [hx, i_or]
        exact hnx
      · rw [if_neg (by rw [hb k h rfl]; decide)] at hnx
        exact ⟨fun _ => hnx, fun z => absurd rfl z⟩
theorem l_orb6 {n tu mask p : Nat} {T : Nat → List Nat} (hn : n ≤ 8) (hn1 : 1 ≤ n) (hT : Tw n tu T) {so : Nat → Nat → Int32} (hso : ∀ m, m < 2 * tu → At (so m) (T m)) {K : Int32 → Int32 → Prop} (hK : ∀ a, K (nI (orbF n tu mask T p)) a) : ∀ N r, n - r < N → r + 1 ≤ n → lp_X2_orbitOf_6 (nI mask) (nI n) so (nI tu) K N (nI (rns n tu mask T p r)) (nI (r + 1)) := by
  have htu := hT.1
  intro N
  induction N with
  | zero => intro r h; omega
  | succ N ih =>
    intro r h1 h2
    rw [lp_X2_orbitOf_6, show nI (r + 1) + 1 = nI (r + 1 + 1) from nI_add (r + 1) 1]
    refine b_le (by omega) (by omega) (fun h => ?_) (fun h => ?_)
    · have : r = n - 1 := by omega
      subst this; exact hK _
    · refine ⟨2 * tu + 1, ?_⟩
      exact l_orb17 hn hT hso (K := fun v_11 v_12 => lp_X2_orbitOf_6 (nI mask) (nI n) so (nI tu) K N v_11 (nI (r + 1 + 1))) (fun _ => ih (r + 1) (by omega) (by omega)) (2 * tu + 1) 0 (by omega) (Nat.zero_le _)
theorem s_orbitOf {n tu mask p : Nat} {T : Nat → List Nat} (hn : n ≤ 8) (hn1 : 1 ≤ n) (hT : Tw n tu T) {so : Nat → Nat → Int32} (hso : ∀ m, m < 2 * tu → At (so m) (T m)) (hp : p < n) {post : Int32 → Unit → Prop} (h : post (nI (orbF n tu mask T p)) ()) : wp_X2_orbitOf (nI n) (nI tu) (nI mask) so (nI p) post := by
  unfold wp_X2_orbitOf
  intro x hx
  rw [hx, i_shl (by omega)]
  exact ⟨n + 1, l_orb6 hn hn1 hT hso (K := fun v_14 v_15 => post v_14 ()) (fun _ => h) (n + 1) 0 (by omega) (by omega)⟩
theorem l_cnt6 {n tu mask : Nat} {T : Nat → List Nat} (hn : n ≤ 8) (hn1 : 1 ≤ n) (hT : Tw n tu T) {so : Nat → Nat → Int32} (hso : ∀ m, m < 2 * tu → At (so m) (T m)) {K : Int32 → Int32 → Int32 → Prop} (hK : ∀ a b, K a (nI (orc n tu mask T n).2) b) : ∀ N k, n - k < N → k ≤ n → lp_X2_countOrbits_6 (nI mask) (nI n) so (nI tu) K N (nI (orc n tu mask T k).1) (nI (orc n tu mask T k).2) (nI k) := by
  intro N
  induction N with
  | zero => intro k h; omega
  | succ N ih =>
    intro k h1 h2
    rw [lp_X2_countOrbits_6, show nI k + 1 = nI (k + 1) from nI_add k 1]
    refine b_le (by omega) (by omega) (fun h => ?_) (fun h => ?_)
    · have : k = n := by omega
      subst this; exact hK _ _
    · have hnx := ih (k + 1) (by omega) (by omega)
      rw [orc] at hnx
      refine And.intro (fun q => ?_) (fun q => ?_)
      · have hb : (orc n tu mask T k).1.testBit k = true := by
          cases hb : (orc n tu mask T k).1.testBit k with
          | true => rfl
          | false =>
            exfalso
            rw [i_band (by omega), hb] at q
            exact q rfl
        rw [if_pos hb] at hnx
        exact hnx
      · have hb : (orc n tu mask T k).1.testBit k = false := by
          cases hb : (orc n tu mask T k).1.testBit k with
          | false => rfl
          | true =>
            exfalso
            rw [i_band (by omega), hb, if_pos rfl] at q
            have hp : 2 ^ k < 2 ^ 31 := Nat.pow_lt_pow_right (by decide) (by omega)
            have h3 := (nI_eq hp (b := 0) (by decide)).mp q
            have h4 : 0 < 2 ^ k := Nat.pow_pos (by decide)
            omega
        rw [if_neg (by rw [hb]; decide)] at hnx
        refine s_orbitOf hn hn1 hT hso h ?_
        intro x hx
        rw [hx, i_or, show ∀ j, nI j + 1 = nI (j + 1) from fun j => nI_add j 1]
        exact hnx
theorem s_countOrbits {n tu mask : Nat} {T : Nat → List Nat} (hn : n ≤ 8) (hn1 : 1 ≤ n) (hT : Tw n tu T) {so : Nat → Nat → Int32} (hso : ∀ m, m < 2 * tu → At (so m) (T m)) {post : Int32 → Unit → Prop} (h : post (nI (orc n tu mask T n).2) ()) : wp_X2_countOrbits (nI n) (nI tu) (nI mask) so post :=
  ⟨n + 1, l_cnt6 hn hn1 hT hso (K := fun v_7 v_8 v_9 => post v_8 ()) (fun _ _ => h) (n + 1) 0 (by omega) (Nat.zero_le _)⟩
/-! the model -/
theorem l_rch17 {n tu mask m X acc : Nat} {T : Nat → List Nat} {fr : Nat → Int32} (hn : n ≤ 8) (hT : Fr n tu T fr) (hm : m < 2 * tu) (hmask : mask < 2 ^ 31) (hb : mask.testBit m = true) (hX : X < 2 ^ 31) {K : Int32 → Int32 → Prop} (hK : ∀ a, K (nI (rca (T m) X acc n)) a) : ∀ N k, n - k < N → k ≤ n → lp_X3_reached_17 (nI mask) fr (nI n) (nI X) (nI m) K N (nI (rca (T m) X acc k)) (nI k) := by
  have htu := hT.1
  obtain ⟨hs, hf⟩ := hT.2 m hm
  intro N
  induction N with
  | zero => intro k h; omega
  | succ N ih =>
    intro k h1 h2
    rw [lp_X3_reached_17, show nI k + 1 = nI (k + 1) from nI_add k 1]
    refine b_le (by omega) (by omega) (fun h => ?_) (fun h => ?_)
    · have : k = n := by omega
      subst this; exact hK _
    · have hsk := hs.lt h
      have hnx := ih (k + 1) (by omega) (by omega)
      rw [rca] at hnx
      refine s_has hmask (by omega) (fun _ => ?_) (fun hb' => by rw [hb] at hb'; cases hb')
      refine ⟨fun z => absurd z (by decide), fun _ => ?_⟩
      have e : (8 : Int32) * nI m + nI k = nI (8 * m + k) := by
        rw [show (8 : Int32) = nI 8 from rfl, pk_mul, nI_add]
      rw [e, nI_c (show 8 * m + k < 2 ^ 31 by omega), hf k h]
      refine ⟨vp_in_nI (by omega) (by decide), fun x hx => ?_⟩
      subst hx
      have go : ∀ a, (∀ y, y = nI (a ||| (if X.testBit ((T m).getD k 0) = true then 2 ^ k else 0)) → lp_X3_reached_17 (nI mask) fr (nI n) (nI X) (nI m) K N y (nI (k + 1))) → wp_X3_has (nI X) (nI ((T m).getD k 0)) (fun r_13 u_12 => (r_13 = 0 → (∀ x_15 : Int32, x_15 = nI a ||| 0 → lp_X3_reached_17 (nI mask) fr (nI n) (nI X) (nI m) K N x_15 (nI (k + 1)))) ∧ (¬ r_13 = 0 → (∀ x_16 : Int32, x_16 = nI a ||| (1 <<< (nI k &&& 31)) → lp_X3_reached_17 (nI mask) fr (nI n) (nI X) (nI m) K N x_16 (nI (k + 1))))) := by
        intro a ha
        refine s_has hX (by omega) (fun hc => ?_) (fun hc => ?_)
        · rw [if_pos hc] at ha
          refine ⟨fun z => absurd z (by decide), fun _ y hy => ha y ?_⟩
          rw [hy, i_shl (by omega), i_or]
        · rw [if_neg (by rw [hc]; decide)] at ha
          refine ⟨fun _ y hy => ha y ?_, fun z => absurd rfl z⟩
          rw [hy, show (0 : Int32) = nI 0 from rfl, i_or]
      refine s_has hX (by omega) (fun hc => ?_) (fun hc => ?_)
      · rw [if_pos hc] at hnx
        refine ⟨fun z => absurd z (by decide), fun _ y hy => ?_⟩
        rw [i_shl (by omega), i_or] at hy
        subst hy
        exact go _ (fun y hy => by rw [hy]; exact hnx)
      · rw [if_neg (by rw [hc]; decide)] at hnx
        refine ⟨fun _ y hy => ?_, fun z => absurd rfl z⟩
        rw [show (0 : Int32) = nI 0 from rfl, i_or] at hy
        subst hy
        exact go _ (fun y hy => by rw [hy]; exact hnx)
theorem l_rch4 {n tu mask X : Nat} {T : Nat → List Nat} {fr : Nat → Int32} (hn : n ≤ 8) (hn1 : 1 ≤ n) (hT : Fr n tu T fr) (hmask : mask < 2 ^ 31) (hX : X < 2 ^ 31) {K : Int32 → Int32 → Prop} (hK : ∀ a, K (nI (rcm n mask T X (2 * tu))) a) : ∀ N k, 2 * tu - k < N → k ≤ 2 * tu → lp_X3_reached_4 (nI mask) fr (nI n) (nI tu) (nI X) K N (nI (rcm n mask T X k)) (nI k) := by
  have htu := hT.1
  intro N
  induction N with
  | zero => intro k h; omega
  | succ N ih =>
    intro k h1 h2
    rw [lp_X3_reached_4, show (2 : Int32) * nI tu = nI (2 * tu) from pk_mul 2 tu, show nI k + 1 = nI (k + 1) from nI_add k 1]
    refine b_le (by omega) (by omega) (fun h => ?_) (fun h => ?_)
    · have : k = 2 * tu := by omega
      subst this; exact hK _
    · have hnx := ih (k + 1) (by omega) (by omega)
      rw [rcm] at hnx
      by_cases hb : mask.testBit k = true
      · rw [if_pos hb] at hnx
        exact ⟨n + 1, l_rch17 hn hT h hmask hb hX (acc := rcm n mask T X k) (K := fun v_24 v_25 => lp_X3_reached_4 (nI mask) fr (nI n) (nI tu) (nI X) K N v_24 (nI (k + 1))) (fun _ => hnx) (n + 1) 0 (by omega) (Nat.zero_le _)⟩
      · rw [if_neg hb] at hnx
        refine ⟨1, ?_⟩
        show lp_X3_reached_17 (nI mask) fr (nI n) (nI X) (nI k) _ 1 (nI (rcm n mask T X k)) (nI 0)
        rw [lp_X3_reached_17]
        refine b_le (by omega) (by omega) (fun h => by omega) (fun _ => ?_)
        refine s_has hmask (by omega) (fun hc => absurd hc hb) (fun _ => ?_)
        exact ⟨fun _ => hnx, fun z => absurd rfl z⟩
theorem s_reached {n tu mask X : Nat} {T : Nat → List Nat} {fr : Nat → Int32} (hn : n ≤ 8) (hn1 : 1 ≤ n) (hT : Fr n tu T fr) (hmask : mask < 2 ^ 31) (hX : X < 2 ^ 31) {post : Int32 → Unit → Prop} (h : post (nI (rcm n mask T X (2 * tu))) ()) : wp_X3_reached (nI n) (nI tu) (nI mask) fr (nI X) post :=
  ⟨2 * tu + 1, l_rch4 hn hn1 hT hmask hX (K := fun v_27 v_28 => post v_27 ()) (fun _ => h) (2 * tu + 1) 0 (by omega) (Nat.zero_le _)⟩
theorem l_orbM30 {n tu mask p : Nat} {T : Nat → List Nat} {fr : Nat → Int32} (hn : n ≤ 8) (hn1 : 1 ≤ n) (hTw : Tw n tu T) (hT : Fr n tu T fr) (hmask : mask < 2 ^ 31) (hp : p < n) {K : Int32 → Int32 → Prop} (hK : ∀ a, K (nI (orbF n tu mask T p)) a) : ∀ N r, 8 - r < N → r ≤ 8 → lp_X3_orbits_30 (nI mask) fr (nI n) (nI tu) K N (nI (mrs n tu mask T p r)) (nI r) := by
  intro N
  induction N with
  | zero => intro r h; omega
  | succ N ih =>
    intro r h1 h2
    rw [lp_X3_orbits_30, show nI r + 1 = nI (r + 1) from nI_add r 1]
    refine b_le (a := 8) (by omega) (by omega) (fun h => ?_) (fun h => ?_)
    · have : r = 8 := by omega
      subst this
      rw [mrs_orbF hn hTw hp]; exact hK _
    · have h8 : (2 : Nat) ^ n ≤ 2 ^ 8 := Nat.pow_le_pow_right (by decide) hn
      have hlt := mrs_lt (mask := mask) hTw hp r
      refine s_reached hn hn1 hT hmask (by omega) ?_
      intro x hx
      rw [hx, i_or]
      exact ih (r + 1) (by omega) (by omega)
theorem l_orbM6 {n tu mask : Nat} {T : Nat → List Nat} {fr : Nat → Int32} (hn : n ≤ 8) (hn1 : 1 ≤ n) (hTw : Tw n tu T) (hT : Fr n tu T fr) (hmask : mask < 2 ^ 31) {K : Int32 → Int32 → Int32 → Prop} (hK : ∀ a b, K a (nI (orc n tu mask T n).2) b) : ∀ N k, n - k < N → k ≤ n → lp_X3_orbits_6 (nI mask) fr (nI n) (nI tu) K N (nI (orc n tu mask T k).1) (nI (orc n tu mask T k).2) (nI k) := by
  intro N
  induction N with
  | zero => intro k h; omega
  | succ N ih =>
    intro k h1 h2
    rw [lp_X3_orbits_6, show nI k + 1 = nI (k + 1) from nI_add k 1]
    refine b_le (by omega) (by omega) (fun h => ?_) (fun h => ?_)
    · have : k = n := by omega
      subst this; exact hK _ _
    · have hnx := ih (k + 1) (by omega) (by omega)
      rw [orc] at hnx
      have h8 : (2 : Nat) ^ n ≤ 2 ^ 8 := Nat.pow_le_pow_right (by decide) hn
      have hlt := orc_lt (tu := tu) (mask := mask) (T := T) k (show k ≤ n by omega)
      refine s_has (by omega) (by omega) (fun hb => ?_) (fun hb => ?_)
      · rw [if_pos hb] at hnx
        exact ⟨fun _ => hnx, fun z => absurd z (by decide)⟩
      · rw [if_neg (by rw [hb]; decide)] at hnx
        refine ⟨fun z => absurd rfl z, fun _ x hx => ?_⟩
        rw [i_shl (by omega)] at hx
        subst hx
        refine ⟨9, l_orbM30 hn hn1 hTw hT hmask h (K := fun v_11 v_12 => ∀ x_13 : Int32, x_13 = nI (orc n tu mask T k).1 ||| v_11 → lp_X3_orbits_6 (nI mask) fr (nI n) (nI tu) K N x_13 (nI (orc n tu mask T k).2 + 1) (nI (k + 1))) (fun _ x hx => ?_) 9 0 (by omega) (Nat.zero_le _)⟩
        rw [hx, i_or, show ∀ j, nI j + 1 = nI (j + 1) from fun j => nI_add j 1]
        exact hnx
theorem s_orbitsM {n tu mask : Nat} {T : Nat → List Nat} {fr : Nat → Int32} (hn : n ≤ 8) (hn1 : 1 ≤ n) (hTw : Tw n tu T) (hT : Fr n tu T fr) (hmask : mask < 2 ^ 31) {post : Int32 → Unit → Prop} (h : post (nI (orc n tu mask T n).2) ()) : wp_X3_orbits (nI n) (nI tu) (nI mask) fr post :=
  ⟨n + 1, l_orbM6 hn hn1 hTw hT hmask (K := fun v_15 v_16 v_17 => post v_16 ()) (fun _ _ => h) (n + 1) 0 (by omega) (Nat.zero_le _)⟩
