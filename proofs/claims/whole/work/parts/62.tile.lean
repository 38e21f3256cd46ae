/-! tiles, sources, which moves commute, counts -/
theorem s_tileC {n : Nat} {p : List Nat} (hn : n ≤ 8) (hp : IsP n p) {ti : Nat → Int32} (hti : At ti p) {x : Int32} {post : Int32 → Unit → Prop} {postX : String → Prop} (h1 : ∀ k, k < n → x = nI k → post (nI (p.getD k 0)) ()) (h0 : (∀ k, k < n → x ≠ nI k) → postX "java/lang/IndexOutOfBoundsException") : wp_X2_tile (nI n) ti x post postX := by
  unfold wp_X2_tile
  refine s_isPlaceC hn (fun k hk e => ?_) (fun h => ⟨fun z => absurd rfl z, fun _ => h0 h⟩)
  refine ⟨fun _ => ?_, fun z => absurd z (by decide)⟩
  subst e
  rw [nI_c (n := k) (by omega), hti k (by rw [hp.len]; exact hk)]
  exact ⟨vp_in_nI (by omega) (by decide), h1 k hk rfl⟩
theorem s_tileM {n : Nat} {p : List Nat} (hn : n ≤ 8) (hp : IsP n p) {ro : Nat → Int32} (hro : At ro p) {x : Int32} {post : Int32 → Int32 → Prop} (h1 : ∀ k, k < n → x = nI k → post (nI (p.getD k 0)) 0) (h0 : (∀ k, k < n → x ≠ nI k) → post 0 1) : wp_X3_tile (nI n) ro x post := by
  unfold wp_X3_tile
  refine s_isPlaceM hn (fun k hk e => ?_) (fun h => ⟨fun _ => ⟨fun z => absurd z (by decide), fun _ => h0 h⟩, fun z => absurd rfl z⟩)
  refine ⟨fun z => absurd z (by decide), fun _ => ⟨fun _ => ?_, fun z => absurd (by decide) z⟩⟩
  subst e
  rw [nI_c (n := k) (by omega), hro k (by rw [hp.len]; exact hk)]
  exact ⟨vp_in_nI (by omega) (by decide), h1 k hk rfl⟩
theorem s_sourceC {n tu : Nat} {T : Nat → List Nat} (hn : n ≤ 8) (hT : Tw n tu T) {so : Nat → Nat → Int32} (hso : Ss tu T so) {x y : Int32} {post : Int32 → Unit → Prop} {postX : String → Prop} (h1 : ∀ m k, m < 2 * tu → k < n → x = nI m → y = nI k → post (nI ((T m).getD k 0)) ()) (h0 : ((∀ m, m < 2 * tu → x ≠ nI m) ∨ ∀ k, k < n → y ≠ nI k) → postX "java/lang/IndexOutOfBoundsException") : wp_X2_source (nI n) (nI tu) so x y post postX := by
  have htu := hT.1
  unfold wp_X2_source
  refine s_isMoveC htu (fun m hm e => ?_) (fun h => ⟨fun _ => h0 (Or.inl h), fun z => absurd rfl z⟩)
  refine ⟨fun z => absurd z (by decide), fun _ => ?_⟩
  refine s_isPlaceC hn (fun k hk e2 => ?_) (fun h => ⟨fun z => absurd rfl z, fun _ => h0 (Or.inr h)⟩)
  refine ⟨fun _ => ?_, fun z => absurd z (by decide)⟩
  subst e e2
  rw [nI_c (n := m) (by omega), nI_c (n := k) (by omega), hso m hm k (by rw [(hT.P hm).len]; exact hk)]
  exact ⟨vp_in_nI (by omega) (by decide), vp_in_nI (by omega) (by decide), h1 m k hm hk rfl rfl⟩
theorem s_sourceM {n tu : Nat} {T : Nat → List Nat} (hn : n ≤ 8) {fr : Nat → Int32} (hT : Fr n tu T fr) {x y : Int32} {post : Int32 → Int32 → Prop} (h1 : ∀ m k, m < 2 * tu → k < n → x = nI m → y = nI k → post (nI ((T m).getD k 0)) 0) (h0 : ((∀ m, m < 2 * tu → x ≠ nI m) ∨ ∀ k, k < n → y ≠ nI k) → post 0 1) : wp_X3_source (nI n) (nI tu) fr x y post := by
  have htu := hT.1
  unfold wp_X3_source
  refine s_isMoveM htu (fun m hm e => ?_) (fun h => ⟨fun _ => ⟨fun z => absurd z (by decide), fun _ => h0 (Or.inl h)⟩, fun z => absurd rfl z⟩)
  refine ⟨fun z => absurd z (by decide), fun _ => ?_⟩
  refine s_isPlaceM hn (fun k hk e2 => ?_) (fun h => ⟨fun _ => ⟨fun z => absurd z (by decide), fun _ => h0 (Or.inr h)⟩, fun z => absurd rfl z⟩)
  refine ⟨fun z => absurd z (by decide), fun _ => ⟨fun _ => ?_, fun z => absurd (by decide) z⟩⟩
  subst e e2
  have ee : (8 : Int32) * nI m + nI k = nI (8 * m + k) := by
    rw [show (8 : Int32) = nI 8 from rfl, pk_mul, nI_add]
  rw [ee, nI_c (n := 8 * m + k) (by omega), (hT.2 m hm).2 k hk]
  exact ⟨vp_in_nI (by omega) (by decide), h1 m k hm hk rfl rfl⟩
/-! do two moves commute -/
def cmm (T : Nat → List Nat) (a b k : Nat) : Prop := ∀ j, j < k → (T a).getD ((T b).getD j 0) 0 = (T b).getD ((T a).getD j 0) 0
def cmI (T : Nat → List Nat) (a b n : Nat) : Int32 := if ∀ j, j < n → (T a).getD ((T b).getD j 0) 0 = (T b).getD ((T a).getD j 0) 0 then 1 else 0
theorem l_comC {n tu a b : Nat} {T : Nat → List Nat} (hn : n ≤ 8) (hT : Tw n tu T) (ha : a < 2 * tu) (hb : b < 2 * tu) {so : Nat → Nat → Int32} (hso : Ss tu T so) {K69 K77 : Int32 → Prop} (h0 : ¬ cmm T a b n → ∀ v, K69 v) (h1 : cmm T a b n → ∀ v, K77 v) : ∀ N k, n - k < N → k ≤ n → cmm T a b k → lp_X2_commute_28 (nI n) so (nI a) (nI b) K69 K77 N (nI k) := by
  have htu := hT.1
  have hA := hT.P ha
  have hB := hT.P hb
  intro N
  induction N with
  | zero => intro k h; omega
  | succ N ih =>
    intro k g1 g2 g3
    rw [lp_X2_commute_28, show nI k + 1 = nI (k + 1) from nI_add k 1]
    refine b_le (by omega) (by omega) (fun h => ?_) (fun h => ?_)
    · have : k = n := by omega
      subst this; exact h1 g3 _
    · have ak := hA.lt h
      have bk' := hB.lt h
      have abk := hA.lt bk'
      have bak := hB.lt ak
      rw [nI_c (n := a) (by omega), nI_c (n := b) (by omega), nI_c (n := k) (by omega), hso a ha k (by rw [hA.len]; exact h), hso b hb k (by rw [hB.len]; exact h), nI_c (n := (T b).getD k 0) (by omega), nI_c (n := (T a).getD k 0) (by omega), hso a ha _ (by rw [hA.len]; exact bk'), hso b hb _ (by rw [hB.len]; exact ak)]
      refine ⟨vp_in_nI (by omega) (by decide), vp_in_nI (by omega) (by decide), vp_in_nI (by omega) (by decide), vp_in_nI (by omega) (by decide), vp_in_nI (by omega) (by decide), vp_in_nI (by omega) (by decide), vp_in_nI (by omega) (by decide), vp_in_nI (by omega) (by decide), b_eq (by omega) (by omega) (fun e => ?_) (fun e => ?_)⟩
      · refine ih (k + 1) (by omega) (by omega) (fun j hj => ?_)
        by_cases q : j = k
        · subst q; exact e
        · exact g3 j (by omega)
      · exact h0 (fun z => e (z k h)) _
theorem s_commuteC {n tu : Nat} {T : Nat → List Nat} (hn : n ≤ 8) (hT : Tw n tu T) {so : Nat → Nat → Int32} (hso : Ss tu T so) {x y : Int32} {post : Int32 → Unit → Prop} {postX : String → Prop} (h1 : ∀ a b, a < 2 * tu → b < 2 * tu → x = nI a → y = nI b → post (cmI T a b n) ()) (h0 : ((∀ m, m < 2 * tu → x ≠ nI m) ∨ ∀ m, m < 2 * tu → y ≠ nI m) → postX "java/lang/IndexOutOfBoundsException") : wp_X2_commute (nI n) (nI tu) so x y post postX := by
  have htu := hT.1
  unfold wp_X2_commute
  refine s_isMoveC htu (fun a ha e => ?_) (fun h => ⟨fun _ => h0 (Or.inl h), fun z => absurd rfl z⟩)
  refine ⟨fun z => absurd z (by decide), fun _ => ?_⟩
  refine s_isMoveC htu (fun b hb e2 => ?_) (fun h => ⟨fun z => absurd rfl z, fun _ => h0 (Or.inr h)⟩)
  refine ⟨fun _ => ?_, fun z => absurd z (by decide)⟩
  subst e e2
  have hp := h1 a b ha hb rfl rfl
  refine ⟨n + 1, l_comC hn hT ha hb hso (K69 := fun _ => post 0 ()) (K77 := fun _ => post 1 ()) (fun hc _ => ?_) (fun hc _ => ?_) (n + 1) 0 (by omega) (Nat.zero_le _) (fun j hj => by omega)⟩
  · rw [show cmI T a b n = 0 from if_neg hc] at hp
    exact hp
  · rw [show cmI T a b n = 1 from if_pos hc] at hp
    exact hp
theorem l_comM {n tu a b : Nat} {T : Nat → List Nat} (hn : n ≤ 8) {fr : Nat → Int32} (hT : Fr n tu T fr) (ha : a < 2 * tu) (hb : b < 2 * tu) {K : Int32 → Int32 → Prop} (hK : ∀ v, K (cmI T a b n) v) : ∀ N k, n - k < N → k ≤ n → lp_X3_commute_41 fr (nI n) (nI a) (nI b) K (N + 1) (cmI T a b k) (nI k) := by
  have htu := hT.1
  obtain ⟨hA, fA⟩ := hT.2 a ha
  obtain ⟨hB, fB⟩ := hT.2 b hb
  intro N
  induction N with
  | zero => intro k h; omega
  | succ N ih =>
    intro k g1 g2
    rw [lp_X3_commute_41, show nI k + 1 = nI (k + 1) from nI_add k 1]
    refine b_le (by omega) (by omega) (fun h => ?_) (fun h => ?_)
    · have : k = n := by omega
      subst this; exact hK _
    · have hnx := ih (k + 1) (by omega) (by omega)
      by_cases hc : ∀ j, j < k → (T a).getD ((T b).getD j 0) 0 = (T b).getD ((T a).getD j 0) 0
      · rw [show cmI T a b k = 1 from if_pos hc]
        refine ⟨fun z => absurd z (by decide), fun _ => ?_⟩
        have ak := hA.lt h
        have bk' := hB.lt h
        have abk := hA.lt bk'
        have bak := hB.lt ak
        have e8 : ∀ u v, (8 : Int32) * nI u + nI v = nI (8 * u + v) := fun u v => by
          rw [show (8 : Int32) = nI 8 from rfl, pk_mul, nI_add]
        rw [e8 b k, e8 a k, nI_c (n := 8 * b + k) (by omega), nI_c (n := 8 * a + k) (by omega), fB k h, fA k h, e8 a _, e8 b _, nI_c (n := 8 * a + (T b).getD k 0) (by omega), nI_c (n := 8 * b + (T a).getD k 0) (by omega), fA _ bk', fB _ ak]
        refine ⟨vp_in_nI (by omega) (by decide), vp_in_nI (by omega) (by decide), fun x hx => ⟨vp_in_nI (by omega) (by decide), vp_in_nI (by omega) (by decide), fun y hy => ?_⟩⟩
        subst hx hy
        refine b_ne (by omega) (by omega) (fun e => ?_) (fun e => ?_)
        · rw [show cmI T a b (k + 1) = 0 from if_neg (fun z => e (z k (by omega)))] at hnx
          exact hnx
        · rw [show cmI T a b (k + 1) = 1 from if_pos (fun j hj => by
            by_cases q : j = k
            · subst q; exact e
            · exact hc j (by omega))] at hnx
          exact hnx
      · rw [show cmI T a b k = 0 from if_neg hc]
        refine ⟨fun _ => ?_, fun z => absurd rfl z⟩
        have := hK (nI k)
        rw [show cmI T a b n = 0 from if_neg (fun z => hc (fun j hj => z j (by omega)))] at this
        exact this
theorem cmI_bool (T : Nat → List Nat) (a b n : Nat) : narrow .boolean (.int (cmI T a b n)) = .int (cmI T a b n) := by
  unfold cmI
  split <;> rfl
theorem s_commuteM {n tu : Nat} {T : Nat → List Nat} (hn : n ≤ 8) (hn1 : 1 ≤ n) {fr : Nat → Int32} (hT : Fr n tu T fr) {x y : Int32} {post : Int32 → Int32 → Prop} (h1 : ∀ a b, a < 2 * tu → b < 2 * tu → x = nI a → y = nI b → post (cmI T a b n) 0) (h0 : ((∀ m, m < 2 * tu → x ≠ nI m) ∨ ∀ m, m < 2 * tu → y ≠ nI m) → post 0 1) : wp_X3_commute (nI n) (nI tu) fr x y post := by
  have htu := hT.1
  have hbad : ((∀ m, m < 2 * tu → x ≠ nI m) ∨ ∀ m, m < 2 * tu → y ≠ nI m) → (¬ (1 : Int32) = 0 → ∃ N : Nat, lp_X3_commute_41 fr (nI n) x y (fun v_15 v_16 => narrow .boolean (.int v_15) = .int v_15 ∧ post v_15 1) N 0 0) ∧ ((1 : Int32) = 0 → ∃ N : Nat, lp_X3_commute_41 fr (nI n) x y (fun v_15 v_16 => narrow .boolean (.int v_15) = .int v_15 ∧ post v_15 1) N 1 0) := by
    intro h
    refine ⟨fun _ => ⟨1, ?_⟩, fun z => absurd z (by decide)⟩
    rw [lp_X3_commute_41]
    exact ⟨fun _ => ⟨rfl, h0 h⟩, fun _ => ⟨fun _ => ⟨rfl, h0 h⟩, fun z => absurd rfl z⟩⟩
  unfold wp_X3_commute
  refine s_isMoveM htu (fun a ha e => ?_) (fun h => ⟨fun _ => hbad (Or.inl h), fun z => absurd rfl z⟩)
  refine ⟨fun z => absurd z (by decide), fun _ => ?_⟩
  refine s_isMoveM htu (fun b hb e2 => ?_) (fun h => ⟨fun _ => hbad (Or.inr h), fun z => absurd rfl z⟩)
  refine ⟨fun z => absurd z (by decide), fun _ => ⟨fun z => absurd rfl z, fun _ => ?_⟩⟩
  subst e e2
  have := l_comM hn hT ha hb (K := fun v_15 v_16 => narrow .boolean (.int v_15) = .int v_15 ∧ post v_15 0) (fun _ => ⟨cmI_bool _ _ _ _, h1 a b ha hb rfl rfl⟩) (n + 1) 0 (by omega) (Nat.zero_le _)
  rw [show cmI T a b 0 = 1 from if_pos (fun j hj => by omega)] at this
  exact ⟨n + 1 + 1, this⟩
/-! counts -/
def cnA (n tu mask : Nat) (p : List Nat) (w : Nat) : Int32 := if w = 0 then nI n else if w = 1 then nI tu else if w = 2 then nI mask else if w = 3 then nI (fxd p n) else evI (ivn p n)
theorem s_countC {n tu mask : Nat} {p : List Nat} (hn : n ≤ 8) (hn1 : 1 ≤ n) (hp : IsP n p) {ti : Nat → Int32} (hti : At ti p) {x : Int32} {post : Int32 → Unit → Prop} {postX : String → Prop} (h1 : ∀ w, w < 5 → x = nI w → post (cnA n tu mask p w) ()) (h0 : (∀ w, w < 5 → x ≠ nI w) → postX "java/lang/IllegalArgumentException") : wp_X2_count (nI n) (nI tu) (nI mask) ti x post postX := by
  unfold wp_X2_count
  refine ⟨fun z => h0 (fun w hw e => by rw [e] at z; exact i_nneg (by omega) z), fun z => ?_⟩
  obtain ⟨j, hj, e⟩ := nI_of z
  subst e
  refine b_le (b := 4) hj (by omega) (fun h => ?_) (fun h => h0 (fun w hw e => by have := (nI_eq hj (by omega)).mp e; omega))
  have h1' := h1 j (by omega) rfl
  unfold cnA at h1'
  refine b_ne (b := 0) hj (by omega) (fun j0 => ?_) (fun j0 => ?_)
  · rw [if_neg j0] at h1'
    refine b_ne (b := 1) hj (by omega) (fun j1 => ?_) (fun j1 => ?_)
    · rw [if_neg j1] at h1'
      refine b_ne (b := 2) hj (by omega) (fun j2 => ?_) (fun j2 => ?_)
      · rw [if_neg j2] at h1'
        refine b_ne (b := 3) hj (by omega) (fun j3 => ?_) (fun j3 => ?_)
        · rw [if_neg j3] at h1'
          refine s_isEvenC hn hn1 hp hti ?_
          unfold evI at h1' ⊢
          by_cases q : ivn p n % 2 = 0
          · rw [if_pos q] at h1' ⊢
            exact ⟨fun z => absurd z (by decide), fun _ => h1'⟩
          · rw [if_neg q] at h1' ⊢
            exact ⟨fun _ => h1', fun z => absurd rfl z⟩
        · rw [if_pos j3] at h1'
          exact s_fixed hn hp hti h1'
      · rw [if_pos j2] at h1'; exact h1'
    · rw [if_pos j1] at h1'; exact h1'
  · rw [if_pos j0] at h1'; exact h1'
theorem l_cntM {n : Nat} {p : List Nat} (hn : n ≤ 8) (hp : IsP n p) {f : Nat → Int32} (hf : At f p) {K : Int32 → Int32 → Prop} (hK : ∀ a, K (nI (fxd p n)) a) : ∀ N k, n - k < N → k ≤ n → lp_X3_counted_4 (nI n) f K N (nI (fxd p k)) (nI k) := by
  intro N
  induction N with
  | zero => intro k h; omega
  | succ N ih =>
    intro k h1 h2
    rw [lp_X3_counted_4, show nI k + 1 = nI (k + 1) from nI_add k 1]
    refine b_le (by omega) (by omega) (fun h => ?_) (fun h => ?_)
    · have : k = n := by omega
      subst this; exact hK _
    · have hpk := hp.lt h
      have hst : fxd p (k + 1) = fxd p k + one (p.getD k 0 = k) := rfl
      have hnx := ih (k + 1) (by omega) (by omega)
      rw [hst] at hnx
      rw [nI_c (n := k) (by omega), hf k (by rw [hp.len]; exact h)]
      refine ⟨vp_in_nI (by omega) (by decide), b_ne (by omega) (by omega) (fun e => ?_) (fun e => ?_)⟩
      · intro x hx
        rw [show one (p.getD k 0 = k) = 0 from if_neg e] at hnx
        rw [hx, show nI (fxd p k) + 0 = nI (fxd p k + 0) from nI_add _ 0]
        exact hnx
      · intro x hx
        rw [show one (p.getD k 0 = k) = 1 from if_pos e] at hnx
        rw [hx, show nI (fxd p k) + 1 = nI (fxd p k + 1) from nI_add _ 1]
        exact hnx
theorem s_counted {n tu mask w : Nat} {p : List Nat} (hn : n ≤ 8) (hp : IsP n p) {ro : Nat → Int32} (hro : At ro p) (hw : w < 5) {post : Int32 → Unit → Prop} (h : post (cnA n tu mask p w) ()) : wp_X3_counted (nI n) (nI tu) (nI mask) ro (nI w) post := by
  unfold wp_X3_counted
  refine ⟨n + 1, l_cntM hn hp hro (fun _ => ?_) (n + 1) 0 (by omega) (Nat.zero_le _)⟩
  rw [nI_toInt (show w < 2 ^ 31 by omega)]
  unfold cnA at h
  refine ⟨fun hc => ?_, fun hc => ?_, fun hc => ?_, fun hc => ?_, fun hc => ?_⟩
  · rw [if_neg (by omega), if_neg (by omega), if_neg (by omega), if_neg (by omega)] at h
    refine s_isEvenM hn hp hro ?_
    unfold evI at h ⊢
    by_cases q : ivn p n % 2 = 0
    · rw [if_pos q] at h ⊢
      exact ⟨fun z => absurd z (by decide), fun _ => h⟩
    · rw [if_neg q] at h ⊢
      exact ⟨fun _ => h, fun z => absurd rfl z⟩
  · rw [if_pos (by omega)] at h; exact h
  · rw [if_neg (by omega), if_pos (by omega)] at h; exact h
  · rw [if_neg (by omega), if_neg (by omega), if_pos (by omega)] at h; exact h
  · rw [if_neg (by omega), if_neg (by omega), if_neg (by omega), if_pos (by omega)] at h; exact h
theorem s_countM {n tu mask : Nat} {p : List Nat} (hn : n ≤ 8) (hp : IsP n p) {ro : Nat → Int32} (hro : At ro p) {x : Int32} {post : Int32 → Int32 → Prop} (h1 : ∀ w, w < 5 → x = nI w → post (cnA n tu mask p w) 0) (h0 : (∀ w, w < 5 → x ≠ nI w) → post 0 1) : wp_X3_count (nI n) (nI tu) (nI mask) ro x post := by
  unfold wp_X3_count
  refine s_withinK (k := 5) (by omega) (by decide) (fun w hw e => ?_) (fun h => ⟨fun _ => ⟨fun z => absurd z (by decide), fun _ => h0 h⟩, fun z => absurd rfl z⟩)
  refine ⟨fun z => absurd z (by decide), fun _ => ⟨fun _ => ?_, fun z => absurd (by decide) z⟩⟩
  subst e
  exact s_counted hn hp hro hw (h1 w hw rfl)
/-! the buffer -/
theorem Bu.add {b : List Nat} {f : Nat → Int32} (h : Bu b f) {c : Nat} (h1 : 32 ≤ c) (h2 : c ≤ 126) (hl : b.length < 60) : Bu (b ++ [c]) (upd f b.length (nI c)) := by
  refine ⟨fun j hj => ?_, by rw [List.length_append]; simp only [List.length_cons, List.length_nil]; omega, fun a ha => ?_⟩
  · rw [List.length_append] at hj
    simp only [List.length_cons, List.length_nil] at hj
    by_cases e : j = b.length
    · subst e
      rw [List.getD_eq_getElem?_getD, List.getElem?_append_right (Nat.le_refl _), Nat.sub_self]
      exact if_pos rfl
    · rw [show ∀ v, upd f b.length v j = f j from fun v => if_neg e, h.1 j (by omega), List.getD_eq_getElem?_getD, List.getD_eq_getElem?_getD, List.getElem?_append_left (by omega)]
  · rcases List.mem_append.mp ha with q | q
    · exact h.2.2 a q
    · rw [List.mem_singleton] at q; subst q; exact ⟨h1, h2⟩
theorem i_char : ∀ c, c < 128 → vp_nar .char (((nI c : Int32).toUInt32 % 65536).toInt32) = nI c := by decide +kernel
theorem s_appendC {b : List Nat} {f : Nat → Int32} (hf : Bu b f) {x : Int32} {post : Int32 → (Int32 × (Nat → Int32)) → Prop} {postX : String → Prop} (h1 : ∀ c f, 32 ≤ c → c ≤ 126 → b.length < 60 → x = nI c → Bu (b ++ [c]) f → post (nI (b.length + 1)) (nI (b.length + 1), f)) (h2 : (∀ c, 32 ≤ c → c ≤ 126 → x ≠ nI c) → postX "java/lang/IllegalArgumentException") (h3 : ∀ c, 32 ≤ c → c ≤ 126 → x = nI c → 60 ≤ b.length → postX "java/lang/IllegalStateException") : wp_X2_append (nI b.length) f x post postX := by
  have h60 := hf.2.1
  unfold wp_X2_append
  refine ⟨fun z => h2 (fun c c1 c2 e => ?_), fun z => ?_⟩
  · rw [e] at z
    have := (nI_ltI (a := c) (b := 32) (by omega) (by omega)).mp z
    omega
  · have hx0 : ¬ x < 0 := fun q => z (Int32.lt_trans q (by decide))
    obtain ⟨c, hc, e⟩ := nI_of hx0
    subst e
    have c32 : 32 ≤ c := by
      rcases Nat.lt_or_ge c 32 with a | a
      · exact absurd ((nI_ltI (a := c) (b := 32) hc (by omega)).mpr a) z
      · exact a
    refine b_le (b := 126) hc (by omega) (fun c126 => ?_) (fun c126 => h2 (fun d d1 d2 e => by have := (nI_eq hc (by omega)).mp e; omega))
    refine b_lt (b := 60) (by omega) (by omega) (fun hl => ?_) (fun hl => h3 c c32 c126 rfl hl)
    refine ⟨vp_in_nI (by omega) (by decide), fun y hy => ?_⟩
    rw [show nI b.length + 1 = nI (b.length + 1) from nI_add _ 1] at hy
    subst hy
    rw [nI_c (n := b.length) (by omega), i_char c (by omega)]
    exact h1 c _ c32 c126 hl rfl (hf.add c32 c126 hl)
theorem s_appendM {b : List Nat} {f : Nat → Int32} (hf : Bu b f) {x : Int32} {post : Int32 → (Int32 × Int32 × (Nat → Int32)) → Prop} (h1 : ∀ c f, 32 ≤ c → c ≤ 126 → b.length < 60 → x = nI c → Bu (b ++ [c]) f → post (nI (b.length + 1)) (0, nI (b.length + 1), f)) (h2 : (∀ c, 32 ≤ c → c ≤ 126 → x ≠ nI c) → post 0 (1, nI b.length, f)) (h3 : ∀ c, 32 ≤ c → c ≤ 126 → x = nI c → 60 ≤ b.length → post 0 (2, nI b.length, f)) : wp_X3_append (nI b.length) f x post := by
  have h60 := hf.2.1
  have key : wp_X3_within x 32 126 (fun r_2 _ => r_2 = 0 ∧ (∀ c, 32 ≤ c → c ≤ 126 → x ≠ nI c) ∨ r_2 = 1 ∧ ∃ c, 32 ≤ c ∧ c ≤ 126 ∧ x = nI c) := by
    refine ⟨fun z => Or.inl ⟨rfl, fun c c1 c2 e => ?_⟩, fun z => ⟨fun w => Or.inl ⟨rfl, fun c c1 c2 e => ?_⟩, fun w => Or.inr ⟨rfl, ?_⟩⟩⟩
    · rw [e] at z
      have := (nI_ltI (a := c) (b := 32) (by omega) (by omega)).mp z
      omega
    · rw [e] at w
      have := (nI_ltI (a := 126) (b := c) (by omega) (by omega)).mp w
      omega
    · have hx0 : ¬ x < 0 := fun q => z (Int32.lt_trans q (by decide))
      obtain ⟨c, hc, e⟩ := nI_of hx0
      subst e
      refine ⟨c, ?_, ?_, rfl⟩
      · rcases Nat.lt_or_ge c 32 with a | a
        · exact absurd ((nI_ltI (a := c) (b := 32) hc (by omega)).mpr a) z
        · exact a
      · rcases Nat.lt_or_ge 126 c with a | a
        · exact absurd ((nI_ltI (a := 126) (b := c) (by omega) hc).mpr a) w
        · exact a
  have mono : ∀ (P Q : Int32 → Unit → Prop), (∀ r u, P r u → Q r u) → wp_X3_within x 32 126 P → wp_X3_within x 32 126 Q := by
    intro P Q h hw
    exact ⟨fun z => h _ _ (hw.1 z), fun z => ⟨fun w => h _ _ ((hw.2 z).1 w), fun w => h _ _ ((hw.2 z).2 w)⟩⟩
  unfold wp_X3_append
  refine mono _ _ (fun r u hr => ?_) key
  rcases hr with ⟨e, hn⟩ | ⟨e, c, c1, c2, ex⟩
  · subst e
    exact ⟨fun z => absurd rfl z, fun _ => ⟨fun z => absurd z (by decide), fun _ => h2 hn⟩⟩
  · subst e ex
    refine ⟨fun _ => ?_, fun z => absurd z (by decide)⟩
    refine b_ne (b := 60) (by omega) (by omega) (fun hl => ?_) (fun hl => ⟨fun z => absurd z (by decide), fun _ => h3 c c1 c2 rfl (by omega)⟩)
    refine ⟨fun _ => ⟨vp_in_nI (by omega) (by decide), fun y hy => ?_⟩, fun z => absurd (by decide) z⟩
    rw [show nI b.length + 1 = nI (b.length + 1) from nI_add _ 1] at hy
    subst hy
    rw [nI_c (n := b.length) (by omega)]
    exact h1 c _ c1 c2 (by omega) rfl (hf.add c1 c2 (by omega))
/-! a row is laid straight -/
theorem l_straight {n : Nat} (hn : n ≤ 8) {K : Int32 → (Nat → Int32) → Prop} (hK : ∀ a g, At g (List.range n) → K a g) : ∀ N k g, 8 - k < N → k ≤ 8 → (∀ j, j < k → g j = nI j) → lp_X3_straighten_2 K N (nI k) g := by
  intro N
  induction N with
  | zero => intro k g h; omega
  | succ N ih =>
    intro k g h1 h2 h3
    rw [lp_X3_straighten_2]
    refine b_le (a := 8) (by omega) (by omega) (fun h => ?_) (fun h => ?_)
    · refine hK _ g (fun j hj => ?_)
      rw [List.length_range] at hj
      rw [getD_range hj]; exact h3 j (by omega)
    · rw [nI_c (n := k) (by omega)]
      refine ⟨vp_in_nI (by omega) (by decide), ?_⟩
      rw [show nI k + 1 = nI (k + 1) from nI_add k 1]
      refine ih (k + 1) _ (by omega) (by omega) (fun j hj => ?_)
      by_cases e : j = k
      · subst e; exact if_pos rfl
      · rw [show upd g k (nI k) j = g j from if_neg e]; exact h3 j (by omega)
theorem s_straight {n : Nat} (hn : n ≤ 8) {g : Nat → Int32} {post : (Nat → Int32) → Prop} (h : ∀ g', At g' (List.range n) → post g') : wp_X3_straighten g post :=
  ⟨9, l_straight hn (K := fun _ c => post c) (fun _ g' hg => h g' hg) 9 0 g (by omega) (Nat.zero_le _) (fun j hj => by omega)⟩
theorem s_beginM {c_n c_tu c_al : Int32} {ro : Nat → Int32} {x : Int32} {post : Int32 → (Int32 × Int32 × Int32 × Int32 × (Nat → Int32)) → Prop} (h1 : ∀ k ro, 3 ≤ k → k ≤ 8 → x = nI k → At ro (List.range k) → post c_n (0, nI k, 0, 0, ro)) (h0 : (∀ k, 3 ≤ k → k ≤ 8 → x ≠ nI k) → post 0 (1, c_n, c_tu, c_al, ro)) : wp_X3_begin c_n c_tu c_al ro x post := by
  have key : wp_X3_within x 3 8 (fun r_2 _ => r_2 = 0 ∧ (∀ c, 3 ≤ c → c ≤ 8 → x ≠ nI c) ∨ r_2 = 1 ∧ ∃ c, 3 ≤ c ∧ c ≤ 8 ∧ x = nI c) := by
    refine ⟨fun z => Or.inl ⟨rfl, fun c c1 c2 e => ?_⟩, fun z => ⟨fun w => Or.inl ⟨rfl, fun c c1 c2 e => ?_⟩, fun w => Or.inr ⟨rfl, ?_⟩⟩⟩
    · rw [e] at z
      have := (nI_ltI (a := c) (b := 3) (by omega) (by omega)).mp z
      omega
    · rw [e] at w
      have := (nI_ltI (a := 8) (b := c) (by omega) (by omega)).mp w
      omega
    · have hx0 : ¬ x < 0 := fun q => z (Int32.lt_trans q (by decide))
      obtain ⟨c, hc, e⟩ := nI_of hx0
      subst e
      refine ⟨c, ?_, ?_, rfl⟩
      · rcases Nat.lt_or_ge c 3 with a | a
        · exact absurd ((nI_ltI (a := c) (b := 3) hc (by omega)).mpr a) z
        · exact a
      · rcases Nat.lt_or_ge 8 c with a | a
        · exact absurd ((nI_ltI (a := 8) (b := c) (by omega) hc).mpr a) w
        · exact a
  have mono : ∀ (P Q : Int32 → Unit → Prop), (∀ r u, P r u → Q r u) → wp_X3_within x 3 8 P → wp_X3_within x 3 8 Q := by
    intro P Q h hw
    exact ⟨fun z => h _ _ (hw.1 z), fun z => ⟨fun w => h _ _ ((hw.2 z).1 w), fun w => h _ _ ((hw.2 z).2 w)⟩⟩
  unfold wp_X3_begin
  refine mono _ _ (fun r u hr => ?_) key
  rcases hr with ⟨e, hn⟩ | ⟨e, c, c1, c2, ex⟩
  · subst e
    exact ⟨fun _ => ⟨fun z => absurd z (by decide), fun _ => h0 hn⟩, fun z => absurd rfl z⟩
  · subst e
    refine ⟨fun z => absurd z (by decide), fun _ => ⟨fun _ => ?_, fun z => absurd (by decide) z⟩⟩
    refine s_straight c2 (fun ro' hro => ?_)
    subst ex
    exact h1 c ro' c1 c2 rfl hro
