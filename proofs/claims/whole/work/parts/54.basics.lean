/-! both sides find the basic orbits -/
theorem ev_fac : ∀ j, j < 9 → ev_fact j = nI (fac j) := by decide
theorem l_has2 {b rm : Nat} (hb : b ≤ rm) (hr2 : rm ≤ 40320) {le : Nat → Int32} {K17 K25 : Int32 → Prop} : ∀ N c, b - c < N → c ≤ b → (∀ a j, c ≤ j → j < b → le j ≠ -1 → K17 a) → ((∀ j, c ≤ j → j < b → le j = -1) → ∀ a, K25 a) → lp_X1_hasBetween_2 le rm (nI b) K17 K25 N (nI c) := by
  intro N
  induction N with
  | zero => intro c h; omega
  | succ N ih =>
    intro c g1 g2 h1 h0
    rw [lp_X1_hasBetween_2, show nI c + 1 = nI (c + 1) from nI_add c 1]
    refine b_le (by omega) (by omega) (fun h => h0 (fun j a b => by omega) _) (fun h => ?_)
    rw [nI_c (n := c) (by omega)]
    refine ⟨vp_in_nI (by omega) (by omega), fun e => ?_, fun e => h1 _ c (Nat.le_refl c) h e⟩
    refine ih (c + 1) (by omega) (by omega) (fun a j hj hj2 hne => h1 a j (by omega) hj2 hne) (fun hall => h0 (fun j hj hj2 => ?_))
    by_cases q : j = c
    · subst q; exact e
    · exact hall j (by omega) hj2
theorem s_hasBetween {a b rm : Nat} (hab : a ≤ b) (hb : b ≤ rm) (hr2 : rm ≤ 40320) {le : Nat → Int32} {post : Int32 → Unit → Prop} (h1 : ∀ j, a ≤ j → j < b → le j ≠ -1 → post 1 ()) (h0 : (∀ j, a ≤ j → j < b → le j = -1) → post 0 ()) : wp_X1_hasBetween le rm (nI a) (nI b) post :=
  ⟨b + 1, l_has2 hb hr2 (K17 := fun _ => post 1 ()) (K25 := fun _ => post 0 ()) (b + 1) a (by omega) hab (fun _ j c d e => h1 j c d e) (fun h _ => h0 h)⟩
theorem l_basC {n rm k : Nat} (hn : n ≤ 8) (hr1 : fac n ≤ rm) (hr2 : rm ≤ 40320) (hk : k < n) {L : List (List Nat × Nat)} {le fo : Nat → Int32} (hR : Rp n nu L le fo) {K : Int32 → Int32 → Prop} (hK : ∀ a, K (nI (boF n L k)) a) : ∀ N u, n - u < N → k ≤ u → u ≤ n → lp_X2_basicOrbit_42 le (nI n) rm (nI k) (nI (fac (n - 1 - k))) K N (nI (mk (boP L k) u)) (nI u) := by
  intro N
  induction N with
  | zero => intro u h; omega
  | succ N ih =>
    intro u g1 g2 g3
    rw [lp_X2_basicOrbit_42, show nI u + 1 = nI (u + 1) from nI_add u 1]
    refine b_le (by omega) (by omega) (fun h => ?_) (fun h => ?_)
    · have : u = n := by omega
      subst this; exact hK _
    · have hnx := ih (u + 1) (by omega) (by omega) (by omega)
      rw [mk] at hnx
      have hf := fac_pos (n - 1 - k)
      have e4 : fac (n - k) = (n - k) * fac (n - 1 - k) := by
        have := fac_drop (n := n) (k := k) (by omega)
        rwa [show n - (k + 1) = n - 1 - k by omega] at this
      have hm := fac_mono (show n - k ≤ n by omega)
      have h3 : (u - k + 1) * fac (n - 1 - k) ≤ (n - k) * fac (n - 1 - k) := Nat.mul_le_mul_right _ (by omega)
      have hle : (u - k) * fac (n - 1 - k) ≤ (u - k + 1) * fac (n - 1 - k) := Nat.mul_le_mul_right _ (by omega)
      have hlow : (u - k + 1) * fac (n - 1 - k) ≤ fac n := by omega
      rw [pk_sub (a := u) (b := k) g2, show nI (u - k) + 1 = nI (u - k + 1) from nI_add _ 1, pk_mul, pk_mul]
      refine s_hasBetween hle (by omega) hr2 (fun j hj hj2 hne => ?_) (fun hall => ?_)
      · have hb : boP L k u = true := by
          obtain ⟨y, hy, hyj⟩ := nu_all (n := n) (c := j) (by omega)
          have hyL : y ∈ L.map (·.1) := by
            by_cases q : y ∈ L.map (·.1)
            · exact q
            · have := hR.2.2 y hy q
              rw [hyj] at this
              exact absurd this hne
          obtain ⟨q, hq, e⟩ := List.mem_map.mp hyL
          refine boP_iff.mpr ⟨q, hq, ?_⟩
          have hyj : rank (inv y) = j := hyj
          have := (home_iff hy.invP g2 h).mp (by rw [hyj]; exact ⟨hj, hj2⟩)
          have e : q.1 = y := e
          rw [e]
          exact ⟨fun t ht => (inv_home hy (by omega) (by omega)).mp (this.1 t ht), (inv_home hy hk h).mp this.2⟩
        rw [if_pos hb] at hnx
        refine ⟨fun z => absurd z (by decide), fun _ x hx => ?_⟩
        rw [hx, i_shl (by omega), i_or]
        exact hnx
      · have hb : boP L k u = false := by
          cases hb : boP L k u with
          | false => rfl
          | true =>
            exfalso
            obtain ⟨q, hq, h5, h6⟩ := boP_iff.mp hb
            have hy := hR.1.1 q hq
            have h7 := (home_iff hy.invP g2 h).mpr ⟨fun t ht => (inv_home hy (by omega) (by omega)).mpr (h5 t ht), (inv_home hy hk h).mpr h6⟩
            have h8 : le (nu q.1) = -1 := hall (nu q.1) h7.1 h7.2
            exact (hR.no hn hy).mp h8 q.2 hq
        rw [if_neg (by rw [hb]; decide)] at hnx
        exact ⟨fun _ => hnx, fun z => absurd rfl z⟩
theorem s_basicC {n tu mask rm : Nat} {T : Nat → List Nat} {en : Nat → Nat → Int32} {to kn : Int32} {le fo : Nat → Int32} (hn : n ≤ 8) (hr1 : fac n ≤ rm) (hr2 : rm ≤ 40320) (hmask : mask < 2 ^ (2 * tu)) (hE : En n tu T en) (hk : Kp n tu T to kn le fo) {x : Int32} {post : Int32 → (Int32 × Int32 × (Nat → Int32) × (Nat → Int32)) → Prop} {postX : String → Prop} (h1 : ∀ k le fo, k < n → x = nI k → Rp n nu (fnd n tu T mask) le fo → post (nI (boF n (fnd n tu T mask) k)) (nI (fnd n tu T mask).length, nI mask, le, fo)) (h0 : (∀ k, k < n → x ≠ nI k) → postX "java/lang/IndexOutOfBoundsException") : wp_X2_basicOrbit (nI n) (nI mask) (nI (fac n)) to kn le fo en rm x post postX := by
  unfold wp_X2_basicOrbit
  refine s_isPlaceC hn (fun k hkn e => ?_) (fun h => ⟨fun z => absurd rfl z, fun _ => h0 h⟩)
  refine ⟨fun _ => ?_, fun z => absurd z (by decide)⟩
  subst e
  refine s_solutions hn hr1 hr2 hmask hE hk (fun le' fo' hR => ?_)
  have e1 : nI n - 1 - nI k = nI (n - 1 - k) := by
    rw [show (1 : Int32) = nI 1 from rfl, pk_sub (by omega), pk_sub (by omega)]
  rw [e1, nI_c (n := n - 1 - k) (by omega), ev_fac (n - 1 - k) (by omega)]
  refine ⟨vp_in_nI (by omega) (by decide), fun y hy => ?_⟩
  subst hy
  refine ⟨n + 1, ?_⟩
  have h0 : mk (boP (fnd n tu T mask) k) k = 0 := mk_none (fun u hu => boP_low hu)
  have := l_basC hn hr1 hr2 hkn hR (K := fun v_13 v_14 => post v_13 (nI (fnd n tu T mask).length, nI mask, le', fo')) (fun _ => h1 k le' fo' hkn rfl hR) (n + 1) k (by omega) (Nat.le_refl k) (by omega)
  rw [h0] at this
  exact this
/-! the model -/
theorem mk_or (P Q : Nat → Bool) (n : Nat) : mk (fun u => P u || Q u) n = mk P n ||| mk Q n := by
  apply Nat.eq_of_testBit_eq
  intro u
  rw [Nat.testBit_or, mk_bit, mk_bit, mk_bit]
  cases decide (u < n) <;> simp
theorem mk_congr {P Q : Nat → Bool} {n : Nat} (h : ∀ u, u < n → P u = Q u) : mk P n = mk Q n := by
  apply Nat.eq_of_testBit_eq
  intro u
  rw [mk_bit, mk_bit]
  by_cases hu : u < n
  · rw [h u hu]
  · rw [show decide (u < n) = false from decide_eq_false hu]; rfl
theorem bo_step {n k : Nat} {L : List (List Nat × Nat)} {i : Nat} {q : List Nat × Nat} (h : L[i]? = some q) : mk (boP (L.take (i + 1)) k) n = mk (boP (L.take i) k) n ||| (if ∀ t, t < k → q.1.getD t 0 = t then mk (fun u => decide (q.1.getD u 0 = k)) n else 0) := by
  have e : ∀ u, boP (L.take (i + 1)) k u = (boP (L.take i) k u || decide (hom k u q.1)) := by
    intro u
    unfold boP
    rw [List.take_add_one, h, List.any_append]
    simp
  rw [mk_congr (fun u _ => e u), mk_or]
  congr 1
  split
  · rename_i hc
    refine mk_congr (fun u _ => ?_)
    rw [decide_eq_decide]
    exact ⟨fun a => a.2, fun a => ⟨hc, a⟩⟩
  · rename_i hc
    refine mk_none (fun u _ => ?_)
    rw [decide_eq_false_iff_not]
    exact fun a => hc a.1
theorem l_bas32 {n k : Nat} {y : List Nat} (hn : n ≤ 8) (hk : k < n) (hy : IsP n y) {no : Nat → Int32} (hno : At no y) {K : Int32 → Int32 → Prop} (hK : ∀ a, K (if ∀ t, t < k → y.getD t 0 = t then 1 else 0) a) : ∀ N t, k - t < N → t ≤ k → lp_X3_basicNow_32 no (nI k) K N (if ∀ j, j < t → y.getD j 0 = j then 1 else 0) (nI t) := by
  intro N
  induction N with
  | zero => intro t h; omega
  | succ N ih =>
    intro t g1 g2
    rw [lp_X3_basicNow_32, show nI t + 1 = nI (t + 1) from nI_add t 1]
    refine b_le (by omega) (by omega) (fun h => ?_) (fun h => ?_)
    · have : t = k := by omega
      subst this; exact hK _
    · have hyt := hy.lt (show t < n by omega)
      have hnx := ih (t + 1) (by omega) (by omega)
      by_cases hc : ∀ j, j < t → y.getD j 0 = j
      · rw [if_pos hc]
        refine ⟨fun z => absurd z (by decide), fun _ => ?_⟩
        rw [nI_c (n := t) (by omega), hno t (by rw [hy.len]; omega)]
        refine ⟨vp_in_nI (by omega) (by decide), b_ne (by omega) (by omega) (fun e => ?_) (fun e => ?_)⟩
        · rw [if_neg (fun q => e (q t (by omega)))] at hnx
          exact hnx
        · rw [if_pos (fun j hj => by
            by_cases q : j = t
            · subst q; exact e
            · exact hc j (by omega))] at hnx
          exact hnx
      · rw [if_neg hc]
        rw [if_neg (fun q => hc (fun j hj => q j (by omega)))] at hnx
        exact ⟨fun _ => hnx, fun z => absurd rfl z⟩
theorem l_bas71 {n k X : Nat} {y : List Nat} (hn : n ≤ 8) (hk : k < n) (hy : IsP n y) {no : Nat → Int32} (hno : At no y) {K : Int32 → Int32 → Prop} (hK : ∀ a, K (nI (X ||| mk (fun u => decide (y.getD u 0 = k)) n)) a) : ∀ N u, n - u < N → u ≤ n → lp_X3_basicNow_71 (nI n) no (nI k) 1 K N (nI (X ||| mk (fun u => decide (y.getD u 0 = k)) u)) (nI u) := by
  intro N
  induction N with
  | zero => intro u h; omega
  | succ N ih =>
    intro u g1 g2
    rw [lp_X3_basicNow_71, show nI u + 1 = nI (u + 1) from nI_add u 1]
    refine b_le (by omega) (by omega) (fun h => ?_) (fun h => ?_)
    · have : u = n := by omega
      subst this; exact hK _
    · have hyu := hy.lt h
      have hnx := ih (u + 1) (by omega) (by omega)
      rw [mk] at hnx
      refine ⟨fun z => absurd z (by decide), fun _ => ?_⟩
      rw [nI_c (n := u) (by omega), hno u (by rw [hy.len]; omega)]
      refine ⟨vp_in_nI (by omega) (by decide), b_ne (by omega) (by omega) (fun e => ?_) (fun e => ?_)⟩
      · intro x hx
        rw [if_neg (by rw [decide_eq_true_eq]; exact e)] at hnx
        rw [hx, show (0 : Int32) = nI 0 from rfl, i_or, Nat.or_zero]
        exact hnx
      · intro x hx
        rw [if_pos (decide_eq_true e), ← Nat.or_assoc] at hnx
        rw [hx, i_shl (by omega), i_or]
        exact hnx
theorem l_bas4 {n k : Nat} (hn : n ≤ 8) (hk : k < n) {L : List (List Nat × Nat)} {fa li : Nat → Int32} (hR : Rp n rank L fa li) {K : Int32 → Int32 → (Nat → Int32) → Prop} (hK : ∀ a no, K (nI (boF n L k)) a no) : ∀ N i no, L.length - i < N → i ≤ L.length → lp_X3_basicNow_4 li (nI n) (nI L.length) (nI k) K N (nI (mk (boP (L.take i) k) n)) (nI i) no := by
  have hl := hR.1.len
  have hf := fac_le hn
  intro N
  induction N with
  | zero => intro i no h; omega
  | succ N ih =>
    intro i no h1 hi
    rw [lp_X3_basicNow_4]
    refine b_le (by omega) (by omega) (fun h => ?_) (fun h => ?_)
    · have e : i = L.length := by omega
      subst e
      rw [List.take_length]
      exact hK _ no
    · obtain ⟨q, hq, h2, h3, h4⟩ := hR.at' (Nu.rank n) h
      have hqP : IsP n q.1 := hR.1.1 q (List.mem_of_getElem? hq)
      have hst := bo_step (n := n) (k := k) hq
      rw [nI_c (n := i) (by omega), h2, show nI i + 1 = nI (i + 1) from nI_add i 1]
      refine ⟨vp_in_nI (by omega) (by decide), ?_⟩
      refine s_read hn hqP (fun g hg => ?_)
      have hnx := ih (i + 1) g (by omega) (by omega)
      rw [hst] at hnx
      refine ⟨k + 1, ?_⟩
      have h32 := l_bas32 hn hk hqP hg (K := fun v_9 v_10 => ∃ N_17 : Nat, lp_X3_basicNow_71 (nI n) g (nI k) v_9 (fun v_18 v_19 => lp_X3_basicNow_4 li (nI n) (nI L.length) (nI k) K N v_18 (nI (i + 1)) g) N_17 (nI (mk (boP (L.take i) k) n)) 0) (fun a => ?_) (k + 1) 0 (by omega) (Nat.zero_le _)
      · rw [if_pos (fun j hj => by omega)] at h32
        exact h32
      · by_cases hc : ∀ t, t < k → q.1.getD t 0 = t
        · rw [if_pos hc] at hnx ⊢
          refine ⟨n + 1, ?_⟩
          have := l_bas71 hn hk hqP hg (X := mk (boP (L.take i) k) n) (K := fun v_18 v_19 => lp_X3_basicNow_4 li (nI n) (nI L.length) (nI k) K N v_18 (nI (i + 1)) g) (fun _ => hnx) (n + 1) 0 (by omega) (Nat.zero_le _)
          rw [mk, Nat.or_zero] at this
          exact this
        · rw [if_neg hc] at hnx ⊢
          rw [Nat.or_zero] at hnx
          refine ⟨1, ?_⟩
          rw [lp_X3_basicNow_71]
          exact ⟨fun _ => hnx, fun _ => ⟨fun _ => hnx, fun z => absurd rfl z⟩⟩
theorem s_basicNow {n k : Nat} (hn : n ≤ 8) (hk : k < n) {L : List (List Nat × Nat)} {fa li no : Nat → Int32} (hR : Rp n rank L fa li) {post : Int32 → (Nat → Int32) → Prop} (h : ∀ no, post (nI (boF n L k)) no) : wp_X3_basicNow (nI n) (nI L.length) no li (nI k) post := by
  refine ⟨L.length + 1, ?_⟩
  have := l_bas4 hn hk hR (K := fun v_21 v_22 c_23 => post v_21 c_23) (fun _ no => h no) (L.length + 1) 0 no (by omega) (Nat.zero_le _)
  rw [List.take_zero, show mk (boP [] k) n = 0 from mk_none (fun _ _ => rfl)] at this
  exact this
theorem s_basicM {n tu mask : Nat} {T : Nat → List Nat} {fr no te fa li : Nat → Int32} {wa : Int32} (hn : n ≤ 8) (hT : Fr n tu T fr) (hmask : mask < 2 ^ 31) {x : Int32} {post : Int32 → (Int32 × Int32 × (Nat → Int32) × (Nat → Int32) × (Nat → Int32) × (Nat → Int32)) → Prop} (h1 : ∀ k wa no te fa li, k < n → x = nI k → post (nI (boF n (fnd n tu T mask) k)) (0, wa, no, te, fa, li)) (h0 : (∀ k, k < n → x ≠ nI k) → post 0 (1, wa, no, te, fa, li)) : wp_X3_basicOrbit (nI n) (nI tu) (nI mask) wa fr no te fa li x post := by
  unfold wp_X3_basicOrbit
  refine s_isPlaceM hn (fun k hk e => ?_) (fun h => ?_)
  · refine ⟨fun z => absurd z (by decide), fun _ => ⟨fun _ => ?_, fun z => absurd (by decide) z⟩⟩
    subst e
    refine s_layFor hn hmask hT (fun no' te' fa' li' hR => ?_)
    exact s_basicNow hn hk hR (fun no2 => h1 k _ no2 te' fa' li' hk rfl)
  · exact ⟨fun _ => ⟨fun z => absurd z (by decide), fun _ => h0 h⟩, fun z => absurd rfl z⟩
