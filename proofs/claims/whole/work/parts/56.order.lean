/-! the order of a word -/
theorem act_injP {n : Nat} {s p q : List Nat} (hs : IsP n s) (hp : IsP n p) (hq : IsP n q) (h : act s p = act s q) : p = q := by
  have := congrArg (act (inv s)) h
  rwa [act_inv hs hp, act_inv hs hq] at this
theorem wrun_inj {n tu : Nat} {T : Nat → List Nat} (hT : Tw n tu T) {b p q : List Nat} (hp : IsP n p) (hq : IsP n q) : ∀ i, wrun T tu b p i = wrun T tu b q i → p = q
  | 0, h => h
  | i + 1, h => by
    rw [wrun, wrun] at h
    cases hm : mvL tu (b.getD i 0) with
    | none => rw [hm] at h; exact wrun_inj hT hp hq i h
    | some m =>
      rw [hm] at h
      exact wrun_inj hT hp hq i (act_injP (hT.P (mvL_lt hm)) (wrun_P hT hp i) (wrun_P hT hq i) h)
def wit (n : Nat) (T : Nat → List Nat) (tu : Nat) (b : List Nat) : Nat → List Nat
  | 0 => List.range n
  | k + 1 => wrun T tu b (wit n T tu b k) b.length
theorem wit_P {n tu : Nat} {T : Nat → List Nat} (hT : Tw n tu T) (b : List Nat) : ∀ k, IsP n (wit n T tu b k)
  | 0 => IsP.id n
  | k + 1 => wrun_P hT (wit_P hT b k) _
theorem wit_back {n tu : Nat} {T : Nat → List Nat} (hT : Tw n tu T) (b : List Nat) : ∀ i j, wit n T tu b i = wit n T tu b (i + j) → wit n T tu b j = List.range n
  | 0, j, h => by rw [Nat.zero_add] at h; exact h.symm
  | i + 1, j, h => by
    rw [show i + 1 + j = (i + j) + 1 by omega] at h
    exact wit_back hT b i j (wrun_inj hT (wit_P hT b i) (wit_P hT b (i + j)) _ h)
theorem wit_some {n tu : Nat} {T : Nat → List Nat} (hT : Tw n tu T) (b : List Nat) : ∃ k, k < fac n ∧ wit n T tu b (k + 1) = List.range n := by
  by_cases h : ∃ i j, i < j ∧ j ≤ fac n ∧ wit n T tu b i = wit n T tu b j
  · obtain ⟨i, j, h1, h2, h3⟩ := h
    rw [show j = i + (j - i) by omega] at h3
    have := wit_back hT b i (j - i) h3
    exact ⟨j - i - 1, by omega, by rw [show j - i - 1 + 1 = j - i by omega]; exact this⟩
  · exfalso
    have h1 : ((List.range (fac n + 1)).map (fun i => rank (wit n T tu b i))).Nodup := by
      rw [List.nodup_iff_pairwise_ne, List.pairwise_map]
      refine (List.pairwise_lt_range (n := fac n + 1)).imp_of_mem (fun {i j} hi hj hlt e => h ⟨i, j, hlt, ?_, rank_injP (wit_P hT b i) (wit_P hT b j) e⟩)
      have := List.mem_range.mp hj
      omega
    have h3 := h1.length_le_of_subset (l₂ := List.range (fac n)) (fun x hx => by
      obtain ⟨i, _, rfl⟩ := List.mem_map.mp hx
      exact List.mem_range.mpr (rank_ltP (wit_P hT b i)))
    rw [List.length_map, List.length_range, List.length_range] at h3
    omega
/-- the order, less 1 -/
def ordw (n : Nat) (T : Nat → List Nat) (tu : Nat) (b : List Nat) : Nat := fa_first (fun k => decide (wit n T tu b (k + 1) = List.range n)) (fac n)
theorem ordw_at {n tu : Nat} {T : Nat → List Nat} (hT : Tw n tu T) (b : List Nat) : ordw n T tu b < fac n ∧ wit n T tu b (ordw n T tu b + 1) = List.range n := by
  obtain ⟨k, h1, h2⟩ := wit_some hT b
  have hl : ordw n T tu b < fac n := by
    rcases Nat.lt_or_ge (ordw n T tu b) (fac n) with a | a
    · exact a
    · have := fa_first_no (fun k => decide (wit n T tu b (k + 1) = List.range n)) (fac n) k (Nat.lt_of_lt_of_le h1 a)
      simp [h2] at this
  have := fa_first_yes (fun k => decide (wit n T tu b (k + 1) = List.range n)) (fac n) hl
  exact ⟨hl, of_decide_eq_true this⟩
theorem ordw_not {n tu : Nat} {T : Nat → List Nat} {b : List Nat} {k : Nat} (h : k < ordw n T tu b) : wit n T tu b (k + 1) ≠ List.range n := by
  have := fa_first_no (fun k => decide (wit n T tu b (k + 1) = List.range n)) (fac n) k h
  exact of_decide_eq_false this
theorem rank_zero {n : Nat} {p : List Nat} (hp : IsP n p) : rank p = 0 ↔ p = List.range n := by
  constructor
  · intro h; exact rank_injP hp (IsP.id n) (by rw [h, rank_range])
  · intro h; rw [h, rank_range]
/-! how many tiles are at home -/
def fxd (p : List Nat) (k : Nat) : Nat := sm (fun j => one (p.getD j 0 = j)) k
theorem fxd_le (p : List Nat) (k : Nat) : fxd p k ≤ k := by
  have := sm_le (f := fun j => one (p.getD j 0 = j)) (c := 1) (n := k) (fun j _ => one_le _)
  unfold fxd; omega
theorem fxd_all {n : Nat} {p : List Nat} (hp : IsP n p) : fxd p n = n ↔ p = List.range n := by
  have hc : ∀ m, sm (fun _ => 1) m = m := by
    intro m
    induction m with
    | zero => rfl
    | succ m ih => rw [sm, ih]
  constructor
  · intro h
    refine getD_ext (by rw [hp.len, List.length_range]) fun j hj => ?_
    rw [hp.len] at hj
    rw [getD_range hj]
    have h1 := sm_eq_le (f := fun j => one (p.getD j 0 = j)) (g := fun _ => 1) (fun j _ => one_le _) (by rw [hc]; exact h) j hj
    by_cases q : p.getD j 0 = j
    · exact q
    · have h2 : one (p.getD j 0 = j) = 0 := if_neg q
      have h1 : one (p.getD j 0 = j) = 1 := h1
      omega
  · intro h
    subst h
    unfold fxd
    rw [sm_congr (f := fun j => one ((List.range n).getD j 0 = j)) (g := fun _ => 1) (fun j hj => if_pos (getD_range hj)), hc]
theorem l_fix {n : Nat} {p : List Nat} (hn : n ≤ 8) (hp : IsP n p) {f : Nat → Int32} (hf : At f p) {K : Int32 → Int32 → Prop} (hK : ∀ a, K (nI (fxd p n)) a) : ∀ N k, n - k < N → k ≤ n → lp_X2_fixedPlaces_4 f (nI n) K N (nI (fxd p k)) (nI k) := by
  intro N
  induction N with
  | zero => intro k h; omega
  | succ N ih =>
    intro k h1 h2
    rw [lp_X2_fixedPlaces_4, show nI k + 1 = nI (k + 1) from nI_add k 1]
    refine b_le (by omega) (by omega) (fun h => ?_) (fun h => ?_)
    · have : k = n := by omega
      subst this; exact hK _
    · have hpk := hp.lt h
      have hst : fxd p (k + 1) = fxd p k + one (p.getD k 0 = k) := rfl
      have hnx := ih (k + 1) (by omega) (by omega)
      rw [hst] at hnx
      rw [nI_c (n := k) (by omega), hf k (by rw [hp.len]; exact h)]
      refine ⟨vp_in_nI (by omega) (by decide), b_ne (by omega) (by omega) (fun e => ?_) (fun e => ?_)⟩
      · rw [show one (p.getD k 0 = k) = 0 from if_neg e] at hnx
        exact hnx
      · rw [show one (p.getD k 0 = k) = 1 from if_pos e] at hnx
        rw [show nI (fxd p k) + 1 = nI (fxd p k + 1) from nI_add _ 1]
        exact hnx
theorem s_fixed {n : Nat} {p : List Nat} (hn : n ≤ 8) (hp : IsP n p) {f : Nat → Int32} (hf : At f p) {post : Int32 → Unit → Prop} (h : post (nI (fxd p n)) ()) : wp_X2_fixedPlaces (nI n) f post :=
  ⟨n + 1, l_fix hn hp hf (K := fun v_5 v_6 => post v_5 ()) (fun _ => h) (n + 1) 0 (by omega) (Nat.zero_le _)⟩
theorem l_ordC {n tu : Nat} {T : Nat → List Nat} (hn : n ≤ 8) (hT : Tw n tu T) {so : Nat → Nat → Int32} (hso : ∀ m, m < 2 * tu → At (so m) (T m)) {b : List Nat} {f : Nat → Int32} (hf : Bu b f) {K : Int32 → (Nat → Int32) → (Nat → Int32) → Prop} (hK : ∀ sc wr, K (nI (ordw n T tu b + 1)) sc wr) : ∀ N k sc wr, ordw n T tu b - k < N → k ≤ ordw n T tu b → At wr (wit n T tu b (k + 1)) → lp_X2_order_38 (nI b.length) f (nI n) so (nI tu) K N (nI (k + 1)) sc wr := by
  obtain ⟨o1, o2⟩ := ordw_at hT b
  have hfl := fac_le hn
  intro N
  induction N with
  | zero => intro k sc wr h; omega
  | succ N ih =>
    intro k sc wr h1 h2 hwr
    have hP := wit_P hT b (k + 1)
    rw [lp_X2_order_38, nI_c (n := n) (by omega), ev_fac n (by omega)]
    refine ⟨vp_in_nI (by omega) (by decide), b_le (by omega) (by omega) (fun h => ?_) (fun h => ?_)⟩
    · have : k = ordw n T tu b := by omega
      subst this; exact hK sc wr
    · refine s_fixed hn hP hwr ?_
      have hfx := fxd_le (wit n T tu b (k + 1)) n
      refine b_le (by omega) (by omega) (fun q => ?_) (fun q => ?_)
      · have e := (fxd_all hP).mp (by omega)
        have : k = ordw n T tu b := by
          rcases Nat.eq_or_lt_of_le h2 with a | a
          · exact a
          · exact absurd e (ordw_not a)
        subst this; exact hK sc wr
      · have hne : k ≠ ordw n T tu b := fun e => by
          subst e
          have := (fxd_all hP).mpr o2
          omega
        refine s_carryIn hn hT hso hf hP hwr (fun sc' wr' h3 => ?_)
        rw [show nI (k + 1) + 1 = nI (k + 1 + 1) from nI_add _ 1]
        exact ih (k + 1) sc' wr' (by omega) (by omega) h3
theorem s_orderC {n tu : Nat} {T : Nat → List Nat} (hn : n ≤ 8) (hT : Tw n tu T) {so : Nat → Nat → Int32} (hso : ∀ m, m < 2 * tu → At (so m) (T m)) {b : List Nat} {f sc wr : Nat → Int32} (hf : Bu b f) {post : Int32 → ((Nat → Int32) × (Nat → Int32)) → Prop} {postX : String → Prop} (h1 : ∀ sc wr, isW tu b → post (nI (ordw n T tu b + 1)) (sc, wr)) (h3 : ¬ isW tu b → postX "java/lang/IllegalArgumentException") : wp_X2_order (nI n) (nI tu) (nI b.length) sc wr f so post postX := by
  unfold wp_X2_order
  refine s_isWordC hT.1 hf (fun hw => ?_) (fun hw => ⟨fun z => absurd rfl z, fun _ => h3 hw⟩)
  refine ⟨fun _ => ?_, fun z => absurd z (by decide)⟩
  refine s_setSolved hn (fun wr' hwr => ?_)
  refine s_carryIn hn hT hso hf (IsP.id n) hwr (fun sc2 wr2 h => ?_)
  exact ⟨ordw n T tu b + 1, l_ordC hn hT hso hf (K := fun v_13 c_14 c_15 => post v_13 (c_14, c_15)) (fun sc wr => h1 sc wr hw) (ordw n T tu b + 1) 0 sc2 wr2 (by omega) (Nat.zero_le _) h⟩
/-! the model -/
theorem l_copy {n : Nat} {q : List Nat} (hn : n ≤ 8) (hq : q.length = n) {te : Nat → Int32} (hte : At te q) {K : Int32 → (Nat → Int32) → Prop} (hK : ∀ a g, At g q → K a g) : ∀ N k g, n - k < N → k ≤ n → (∀ j, j < k → g j = nI (q.getD j 0)) → lp_X3_copy_2 (nI n) te K N (nI k) g := by
  intro N
  induction N with
  | zero => intro k g h; omega
  | succ N ih =>
    intro k g h1 h2 h3
    rw [lp_X3_copy_2]
    refine b_le (by omega) (by omega) (fun h => ?_) (fun h => ?_)
    · exact hK _ g (fun j hj => h3 j (by omega))
    · rw [nI_c (n := k) (by omega), hte k (by omega), show nI k + 1 = nI (k + 1) from nI_add k 1]
      refine ⟨vp_in_nI (by omega) (by decide), vp_in_nI (by omega) (by decide), ih (k + 1) _ (by omega) (by omega) (fun j hj => ?_)⟩
      by_cases e : j = k
      · subst e; exact if_pos rfl
      · rw [show ∀ v, upd g k v j = g j from fun v => if_neg e]; exact h3 j (by omega)
theorem s_copy {n : Nat} {q : List Nat} (hn : n ≤ 8) (hq : q.length = n) {no te : Nat → Int32} (hte : At te q) {post : (Nat → Int32) → Prop} (h : ∀ g, At g q → post g) : wp_X3_copy (nI n) no te post :=
  ⟨n + 1, l_copy hn hq hte (K := fun v_5 c_6 => post c_6) (fun _ g hg => h g hg) (n + 1) 0 no (by omega) (Nat.zero_le _) (fun j hj => by omega)⟩
theorem l_ordM44 {n tu : Nat} {T : Nat → List Nat} (hn : n ≤ 8) (hTw : Tw n tu T) {fr : Nat → Int32} (hT : Fr n tu T fr) {b p : List Nat} {f : Nat → Int32} (hf : Bu b f) (hw : isW tu b) (hp : IsP n p) {K : Int32 → (Nat → Int32) → (Nat → Int32) → Prop} (hK : ∀ a no te, At no (wrun T tu b p b.length) → K a no te) : ∀ N i no te, b.length - i < N → i ≤ b.length → At no (wrun T tu b p i) → lp_X3_order_44 f fr (nI b.length) (nI n) (nI tu) K N (nI i) no te := by
  have h60 := hf.2.1
  have htu := hTw.1
  intro N
  induction N with
  | zero => intro i no te h; omega
  | succ N ih =>
    intro i no te h1 h2 hno
    rw [lp_X3_order_44, show nI i + 1 = nI (i + 1) from nI_add i 1]
    refine b_le (by omega) (by omega) (fun h => ?_) (fun h => ?_)
    · have : i = b.length := by omega
      subst this; exact hK _ no te hno
    · obtain ⟨g1, g2, g3⟩ := hf.get h
      rw [nI_c (n := i) (by omega), g1]
      refine ⟨vp_in_nI (by omega) (by decide), s_moveBy htu g3 ?_⟩
      obtain ⟨m, hm⟩ := hw.at h
      have hm2 := mvL_lt hm
      have hst : wrun T tu b p (i + 1) = match mvL tu (b.getD i 0) with | some m => act (T m) (wrun T tu b p i) | none => wrun T tu b p i := rfl
      rw [hm] at hst
      rw [mvI_some hm]
      obtain ⟨hs, hfr⟩ := hT.2 m hm2
      have hpi := wrun_P hTw hp (b := b) i
      refine s_shift hn (by omega) hs hpi hfr hno (fun te' hte => ?_)
      refine s_copy hn (hs.actP hpi).len hte (fun no' hno' => ?_)
      exact ih (i + 1) no' te' (by omega) (by omega) (by rw [hst]; exact hno')
theorem l_ordM38 {n tu : Nat} {T : Nat → List Nat} (hn : n ≤ 8) (hTw : Tw n tu T) {fr : Nat → Int32} (hT : Fr n tu T fr) {b : List Nat} {f : Nat → Int32} (hf : Bu b f) (hw : isW tu b) {K : Int32 → Int32 → (Nat → Int32) → (Nat → Int32) → Prop} (hK : ∀ a no te, K (nI (ordw n T tu b + 1)) a no te) : ∀ N k no te, ordw n T tu b - k < N → k ≤ ordw n T tu b → At no (wit n T tu b k) → lp_X3_order_38 f fr (nI b.length) (nI n) (nI tu) K (N + 1) (nI k) 1 no te := by
  obtain ⟨o1, o2⟩ := ordw_at hTw b
  have hfl := fac_le hn
  intro N
  induction N with
  | zero => intro k no te h; omega
  | succ N ih =>
    intro k no te h1 h2 hno
    have hP := wit_P hTw b k
    have hP1 := wit_P hTw b (k + 1)
    rw [lp_X3_order_38]
    refine ⟨fun z => absurd z (by decide), fun _ => ⟨b.length + 1, ?_⟩⟩
    refine l_ordM44 hn hTw hT hf hw hP (fun a no' te' hno' => ?_) (b.length + 1) 0 no te (by omega) (Nat.zero_le _) hno
    have hno' : At no' (wit n T tu b (k + 1)) := hno'
    refine s_numberOf hn hP1 hno' ?_
    have hr := rank_ltP hP1
    rw [show nI k + 1 = nI (k + 1) from nI_add k 1]
    refine b_eq (b := 0) (by omega) (by omega) (fun e => ?_) (fun e => ?_)
    · have e2 := (rank_zero hP1).mp e
      have : k = ordw n T tu b := by
        rcases Nat.eq_or_lt_of_le h2 with a | a
        · exact a
        · exact absurd e2 (ordw_not a)
      rw [lp_X3_order_38, this]
      exact ⟨fun _ => hK _ no' te', fun z => absurd rfl z⟩
    · have hne : k ≠ ordw n T tu b := fun q => by
        subst q
        exact e ((rank_zero hP1).mpr o2)
      exact ih (k + 1) no' te' (by omega) (by omega) hno'
theorem s_orderM {n tu : Nat} {T : Nat → List Nat} (hn : n ≤ 8) (hTw : Tw n tu T) {fr : Nat → Int32} (hT : Fr n tu T fr) {b : List Nat} {f no te : Nat → Int32} (hf : Bu b f) {post : Int32 → (Int32 × (Nat → Int32) × (Nat → Int32)) → Prop} (h1 : ∀ no te, isW tu b → post (nI (ordw n T tu b + 1)) (0, no, te)) (h3 : ¬ isW tu b → post 0 (1, no, te)) : wp_X3_order (nI n) (nI tu) (nI b.length) fr f no te post := by
  unfold wp_X3_order
  refine s_isWordM hTw.1 hf (fun hw => ?_) (fun hw => ⟨fun _ => ⟨fun z => absurd z (by decide), fun _ => h3 hw⟩, fun z => absurd rfl z⟩)
  refine ⟨fun z => absurd z (by decide), fun _ => ⟨fun _ => ?_, fun z => absurd (by decide) z⟩⟩
  have h0 : wp_X3_read (nI n) no (nI (rank (List.range n))) (fun u_26 => ∃ N_27 : Nat, lp_X3_order_38 f fr (nI b.length) (nI n) (nI tu) (fun v_28 v_29 c_30 c_31 => post v_28 (0, c_30, c_31)) N_27 0 1 u_26 te) := by
    refine s_read hn (IsP.id n) (fun g hg => ?_)
    exact ⟨ordw n T tu b + 2, l_ordM38 hn hTw hT hf hw (K := fun v_28 v_29 c_30 c_31 => post v_28 (0, c_30, c_31)) (fun _ no te => h1 no te hw) (ordw n T tu b + 1) 0 g te (by omega) (Nat.zero_le _) hg⟩
  rw [rank_range] at h0
  exact h0
