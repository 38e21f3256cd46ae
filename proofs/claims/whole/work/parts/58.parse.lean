/-! the buffer read as turns -/
def tk (n tu : Nat) (s : Nat × Nat × Nat) (c : Nat) : Option (Nat × Nat × Nat) :=
  if s.2.2 = n then (if c = 59 ∧ tu + s.1 < 6 then some (s.1, 0, 0) else none)
  else if tu + s.1 < 6 ∧ 48 ≤ c ∧ c - 48 < n ∧ s.2.1.testBit (c - 48) = false then some (s.1 + (if s.2.2 + 1 = n then 1 else 0), s.2.1 ||| 2 ^ (c - 48), s.2.2 + 1) else none
def pst (n tu : Nat) (b : List Nat) : Nat → Option (Nat × Nat × Nat)
  | 0 => some (0, 0, 0)
  | i + 1 => match pst n tu b i with
    | none => none
    | some s => tk n tu s (b.getD i 0)
theorem pst_none {n tu : Nat} {b : List Nat} {i : Nat} (h : pst n tu b i = none) : ∀ j, pst n tu b (i + j) = none
  | 0 => h
  | j + 1 => by
    have := pst_none h j
    rw [← Nat.add_assoc, pst, this]
theorem pst_prev {n tu : Nat} {b : List Nat} {i : Nat} {s : Nat × Nat × Nat} (h : pst n tu b (i + 1) = some s) : ∃ s0, pst n tu b i = some s0 ∧ tk n tu s0 (b.getD i 0) = some s := by
  rw [pst] at h
  cases hs : pst n tu b i with
  | none => rw [hs] at h; cases h
  | some s0 => rw [hs] at h; exact ⟨s0, rfl, h⟩
theorem pst_step {n tu : Nat} {b : List Nat} {i : Nat} {s : Nat × Nat × Nat} (h : pst n tu b i = some s) : pst n tu b (i + 1) = tk n tu s (b.getD i 0) := by
  rw [pst, h]
/-- the first character that isn't taken -/
def pte (n tu : Nat) (b : List Nat) : Nat := fa_first (fun i => (pst n tu b (i + 1)).isNone) b.length
theorem pte_le (n tu : Nat) (b : List Nat) : pte n tu b ≤ b.length := fa_first_le _ _
theorem pte_some {n tu : Nat} {b : List Nat} {i : Nat} (h : i ≤ pte n tu b) : ∃ s, pst n tu b i = some s := by
  cases i with
  | zero => exact ⟨_, rfl⟩
  | succ i =>
    have := fa_first_no (fun i => (pst n tu b (i + 1)).isNone) b.length i h
    cases hs : pst n tu b (i + 1) with
    | none =>
      rw [hs] at this
      cases this
    | some s => exact ⟨s, rfl⟩
theorem pte_eq {n tu : Nat} {b : List Nat} {k : Nat} (h1 : k ≤ pte n tu b) (h : pst n tu b (k + 1) = none) : pte n tu b = k := by
  rcases Nat.eq_or_lt_of_le h1 with a | a
  · exact a.symm
  · obtain ⟨s, hs⟩ := pte_some a
    rw [h] at hs; cases hs
theorem pte_next {n tu : Nat} {b : List Nat} {k : Nat} {s : Nat × Nat × Nat} (hk : k < b.length) (h1 : k ≤ pte n tu b) (h : pst n tu b (k + 1) = some s) : k + 1 ≤ pte n tu b := by
  rcases Nat.eq_or_lt_of_le h1 with a | a
  · have := fa_first_yes (fun i => (pst n tu b (i + 1)).isNone) b.length (by show pte n tu b < b.length; omega)
    have this : (pst n tu b (pte n tu b + 1)).isNone = true := this
    rw [← a, h] at this
    cases this
  · exact a
/-- small facts of a state that is reached -/
def Pf (n tu : Nat) (s : Nat × Nat × Nat) : Prop := s.2.2 ≤ n ∧ tu + s.1 ≤ 6 ∧ s.2.1 < 2 ^ 8
theorem Pf.step {n tu : Nat} (hn : n ≤ 8) {s s' : Nat × Nat × Nat} {c : Nat} (h : Pf n tu s) (ht : tk n tu s c = some s') : Pf n tu s' := by
  obtain ⟨h1, h2, h3⟩ := h
  unfold tk at ht
  split at ht
  · split at ht
    · cases ht
      exact ⟨Nat.zero_le _, h2, Nat.two_pow_pos 8⟩
    · cases ht
  · split at ht
    · rename_i hne hc
      cases ht
      refine ⟨by show s.2.2 + 1 ≤ n; omega, ?_, or_lt h3 (by omega)⟩
      show tu + (s.1 + if s.2.2 + 1 = n then 1 else 0) ≤ 6
      split <;> omega
    · cases ht
theorem pst_Pf {n tu : Nat} (hn : n ≤ 8) (htu : tu ≤ 6) {b : List Nat} : ∀ {i : Nat} {s : Nat × Nat × Nat}, pst n tu b i = some s → Pf n tu s
  | 0, s, h => by
    cases h
    exact ⟨Nat.zero_le _, by show tu + 0 ≤ 6; omega, by decide⟩
  | i + 1, s, h => by
    obtain ⟨s0, h1, h2⟩ := pst_prev h
    exact (pst_Pf hn htu h1).step hn h2
theorem i_less48 : ∀ c, c < 48 → nI c - 48 < 0 := by decide
/-- the model takes a character -/
theorem s_takes {n tu c : Nat} (hn : n ≤ 8) {s : Nat × Nat × Nat} (hs : Pf n tu s) (hc : c ≤ 126) {post : Int32 → (Int32 × Int32 × Int32) → Prop} (h1 : ∀ s', tk n tu s c = some s' → post 1 (nI s'.1, nI s'.2.1, nI s'.2.2)) (h0 : tk n tu s c = none → post 0 (nI s.1, nI s.2.1, nI s.2.2)) : wp_X3_takes (nI n) (nI tu) (nI s.1) (nI s.2.1) (nI s.2.2) (nI c) post := by
  obtain ⟨g1, g2, g3⟩ := hs
  unfold wp_X3_takes
  rw [nI_add]
  refine b_ne (by omega) (by omega) (fun hd => ?_) (fun hd => ?_)
  · have htk : tk n tu s c = if tu + s.1 < 6 ∧ 48 ≤ c ∧ c - 48 < n ∧ s.2.1.testBit (c - 48) = false then some (s.1 + (if s.2.2 + 1 = n then 1 else 0), s.2.1 ||| 2 ^ (c - 48), s.2.2 + 1) else none := if_neg hd
    refine b_le (a := 6) (by omega) (by omega) (fun q => h0 (by rw [htk, if_neg (by omega)])) (fun q => ?_)
    refine s_withinC (a := 48) (b := 48 + n - 1) (c := c) (by omega) (by omega) (by omega) rfl rfl (by rw [show (48 : Int32) = nI 48 from rfl, nI_add]; exact pk_sub (b := 1) (by omega)) (fun w1 w2 => ?_) (fun w => ?_)
    · refine ⟨fun z => absurd z (by decide), fun _ => ?_⟩
      by_cases n0 : n = 0
      · exfalso; omega
      rw [show nI c - 48 = nI (c - 48) from pk_sub (b := 48) w1]
      refine s_has (by omega) (by omega) (fun hb => ?_) (fun hb => ?_)
      · exact ⟨fun _ => h0 (by rw [htk, if_neg (fun z => by rw [hb] at z; cases z.2.2.2)]), fun z => absurd z (by decide)⟩
      · refine ⟨fun z => absurd rfl z, fun _ x hx y hy => ?_⟩
        rw [i_shl (by omega), i_or] at hx
        rw [show nI s.2.2 + 1 = nI (s.2.2 + 1) from nI_add _ 1] at hy
        subst hx hy
        have h1' := h1 _ (by rw [htk, if_pos ⟨q, w1, by omega, hb⟩])
        refine b_ne (by omega) (by omega) (fun e x hx => ?_) (fun e x hx => ?_)
        · rw [show nI s.1 + 0 = nI (s.1 + 0) from nI_add _ 0] at hx
          subst hx
          rw [if_neg e] at h1'
          exact h1'
        · rw [show nI s.1 + 1 = nI (s.1 + 1) from nI_add _ 1] at hx
          subst hx
          rw [if_pos e] at h1'
          exact h1'
    · refine ⟨fun _ => h0 ?_, fun z => absurd rfl z⟩
      rw [htk, if_neg (by omega)]
  · have htk : tk n tu s c = if c = 59 ∧ tu + s.1 < 6 then some (s.1, 0, 0) else none := if_pos hd
    refine b_ne (a := c) (b := 59) (by omega) (by omega) (fun e => h0 (by rw [htk, if_neg (fun z => e z.1)])) (fun e => ?_)
    refine b_le (a := 6) (by omega) (by omega) (fun q => h0 (by rw [htk, if_neg (by omega)])) (fun q => ?_)
    exact h1 (s.1, 0, 0) (by rw [htk, if_pos ⟨e, q⟩])
theorem l_tlM {n tu : Nat} (hn : n ≤ 8) (htu : tu ≤ 6) {b : List Nat} {f : Nat → Int32} (hf : Bu b f) {K : Int32 → Int32 → Int32 → Int32 → Prop} (hK : ∀ s, pst n tu b (pte n tu b) = some s → K (nI (pte n tu b)) (nI s.1) (nI s.2.1) (nI s.2.2)) : ∀ N i s, b.length - i < N → i ≤ pte n tu b → pst n tu b i = some s → lp_X3_turnsLength_17 f (nI b.length) (nI n) (nI tu) K N (nI i) (nI s.1) (nI s.2.1) (nI s.2.2) := by
  have h60 := hf.2.1
  have hle := pte_le n tu b
  intro N
  induction N with
  | zero => intro i s h; omega
  | succ N ih =>
    intro i s h1 h2 hs
    rw [lp_X3_turnsLength_17, show nI i + 1 = nI (i + 1) from nI_add i 1]
    refine b_le (by omega) (by omega) (fun h => ?_) (fun h => ?_)
    · have : pte n tu b = i := by omega
      have hK' := hK s (by rw [this]; exact hs)
      rw [this] at hK'
      exact hK'
    · obtain ⟨g1, g2, g3⟩ := hf.get h
      rw [nI_c (n := i) (by omega), g1]
      refine ⟨vp_in_nI (by omega) (by decide), s_takes hn (pst_Pf hn htu hs) g3 (fun s' ht => ?_) (fun ht => ?_)⟩
      · have hs' : pst n tu b (i + 1) = some s' := by rw [pst_step hs]; exact ht
        exact ⟨fun z => absurd z (by decide), fun _ => ih (i + 1) s' (by omega) (pte_next h h2 hs') hs'⟩
      · have hs' : pst n tu b (i + 1) = none := by rw [pst_step hs]; exact ht
        have := pte_eq h2 hs'
        have hK' := hK s (by rw [this]; exact hs)
        rw [this] at hK'
        exact ⟨fun _ => hK', fun z => absurd rfl z⟩
theorem s_turnsLen {n tu : Nat} (hn : n ≤ 8) (htu : tu ≤ 6) {b : List Nat} {f : Nat → Int32} (hf : Bu b f) {post : Int32 → (Int32 × Int32 × Int32) → Prop} (h : ∀ s, pst n tu b (pte n tu b) = some s → post (nI (pte n tu b)) (nI s.1, nI s.2.1, nI s.2.2)) : wp_X3_turnsLength (nI n) (nI tu) (nI b.length) f post :=
  ⟨b.length + 1, l_tlM hn htu hf (K := fun v_7 c_8 c_9 c_10 => post v_7 (c_8, c_9, c_10)) h (b.length + 1) 0 (0, 0, 0) (by omega) (Nat.zero_le _) rfl⟩
/-- the class reads it -/
theorem l_teC {n tu : Nat} (hn : n ≤ 8) (htu : tu ≤ 6) {b : List Nat} {f : Nat → Int32} (hf : Bu b f) {K47 K93 K123 : Int32 → Int32 → Int32 → Int32 → Prop} (hK1 : ∀ a b' c, K47 a b' c (nI (pte n tu b))) (hK2 : ∀ a b' c, K93 a b' c (nI (pte n tu b))) (hK3 : pte n tu b = b.length → ∀ a b' c d, K123 a b' c d) : ∀ N i s, b.length - i < N → i ≤ pte n tu b → pst n tu b i = some s → lp_X2_firstTurnError_12 (nI b.length) f (nI n) K47 K93 K123 N (nI (tu + s.1)) (nI s.2.2) (nI s.2.1) (nI i) := by
  have h60 := hf.2.1
  have hle := pte_le n tu b
  intro N
  induction N with
  | zero => intro i s h; omega
  | succ N ih =>
    intro i s h1 h2 hs
    obtain ⟨p1, p2, p3⟩ := pst_Pf hn htu hs
    rw [lp_X2_firstTurnError_12, show nI i + 1 = nI (i + 1) from nI_add i 1]
    refine b_le (by omega) (by omega) (fun h => hK3 (by omega) _ _ _ _) (fun h => ?_)
    obtain ⟨g1, g2, g3⟩ := hf.get h
    have hst := pst_step hs
    have stop : tk n tu s (b.getD i 0) = none → pte n tu b = i := fun ht => pte_eq h2 (by rw [hst]; exact ht)
    have go : ∀ s', tk n tu s (b.getD i 0) = some s' → lp_X2_firstTurnError_12 (nI b.length) f (nI n) K47 K93 K123 N (nI (tu + s'.1)) (nI s'.2.2) (nI s'.2.1) (nI (i + 1)) := fun s' ht => by
      have hs' : pst n tu b (i + 1) = some s' := by rw [hst]; exact ht
      exact ih (i + 1) s' (by omega) (pte_next h h2 hs') hs'
    rw [nI_c (n := i) (by omega), g1]
    generalize hce : b.getD i 0 = c at g2 g3 stop go
    refine b_ne (by omega) (by omega) (fun hd => ?_) (fun hd => ?_)
    · have htk : tk n tu s c = if tu + s.1 < 6 ∧ 48 ≤ c ∧ c - 48 < n ∧ s.2.1.testBit (c - 48) = false then some (s.1 + (if s.2.2 + 1 = n then 1 else 0), s.2.1 ||| 2 ^ (c - 48), s.2.2 + 1) else none := if_neg hd
      have hK2' : tk n tu s c = none → ∀ a b' c', K93 a b' c' (nI i) := fun ht a b' c' => by rw [← stop ht]; exact hK2 a b' c'
      refine ⟨vp_in_nI (by omega) (by decide), fun x hx => ?_⟩
      refine s_isPlaceC hn (fun j hj ej => ?_) (fun hno => ?_)
      · have hcj : 48 ≤ c ∧ c - 48 = j := by
          rcases Nat.lt_or_ge c 48 with a | a
          · exfalso
            have := i_less48 c a
            rw [← hx, ej] at this
            exact i_nneg (by omega) this
          · refine ⟨a, ?_⟩
            rw [hx, show nI c - 48 = nI (c - 48) from pk_sub (b := 48) a] at ej
            exact (nI_eq (by omega) (by omega)).mp ej
        obtain ⟨c48, rfl⟩ := hcj
        subst ej
        refine ⟨fun z => absurd z (by decide), fun _ => ?_⟩
        refine b_eq (b := 6) (by omega) (by omega) (fun q => hK2' (by rw [htk, if_neg (by omega)]) _ _ _) (fun q => ?_)
        refine c_bit (by omega) (fun hb => ?_) (fun hb => hK2' (by rw [htk, if_neg (fun z => by rw [hb] at z; cases z.2.2.2)]) _ _ _)
        intro y hy
        rw [i_shl (by omega), i_or] at hy
        subst hy
        have hgo := go _ (by rw [htk, if_pos ⟨by omega, c48, hj, hb⟩])
        rw [show nI s.2.2 + 1 = nI (s.2.2 + 1) from nI_add _ 1]
        refine b_ne (by omega) (by omega) (fun e => ?_) (fun e => ?_)
        · rw [if_neg e] at hgo
          exact hgo
        · rw [if_pos e] at hgo
          rw [show nI (tu + s.1) + 1 = nI (tu + (s.1 + 1)) from nI_add (tu + s.1) 1]
          exact hgo
      · refine ⟨fun _ => hK2' ?_ _ _ _, fun z => absurd rfl z⟩
        rw [htk, if_neg (fun z => hno (c - 48) z.2.2.1 (by rw [hx]; exact pk_sub (b := 48) z.2.1))]
    · have htk : tk n tu s c = if c = 59 ∧ tu + s.1 < 6 then some (s.1, 0, 0) else none := if_pos hd
      have hK1' : tk n tu s c = none → ∀ a b' c', K47 a b' c' (nI i) := fun ht a b' c' => by rw [← stop ht]; exact hK1 a b' c'
      refine ⟨vp_in_nI (by omega) (by decide), b_ne (a := c) (b := 59) (by omega) (by omega) (fun e => hK1' (by rw [htk, if_neg (fun z => e z.1)]) _ _ _) (fun e => ?_)⟩
      refine b_ne (b := 6) (by omega) (by omega) (fun q => ?_) (fun q => hK1' (by rw [htk, if_neg (by omega)]) _ _ _)
      exact go (s.1, 0, 0) (by rw [htk, if_pos ⟨e, by omega⟩])
theorem s_turnErr {n tu : Nat} (hn : n ≤ 8) (htu : tu ≤ 6) {b : List Nat} {f : Nat → Int32} (hf : Bu b f) {post : Int32 → Unit → Prop} (h : post (nI (pte n tu b)) ()) : wp_X2_firstTurnError (nI n) (nI tu) (nI b.length) f post :=
  ⟨b.length + 1, l_teC hn htu hf (K47 := fun _ _ _ v => post v ()) (K93 := fun _ _ _ v => post v ()) (K123 := fun _ _ _ _ => post (nI b.length) ()) (fun _ _ _ => h) (fun _ _ _ => h) (fun e _ _ _ _ => by rw [e] at h; exact h) (b.length + 1) 0 (0, 0, 0) (by omega) (Nat.zero_le _) rfl⟩
theorem s_firstErrorM {n tu : Nat} (hn : n ≤ 8) (htu : tu ≤ 6) {b : List Nat} {f : Nat → Int32} (hf : Bu b f) {re us di x : Int32} {post : Int32 → (Int32 × Int32 × Int32 × Int32) → Prop} (h : ∀ re us di, post (if x = 0 then nI (pte n tu b) else nI (wdl tu b)) (0, re, us, di)) : wp_X3_firstError (nI n) (nI tu) (nI b.length) re us di f x post := by
  unfold wp_X3_firstError
  refine ⟨fun e => ?_, fun e => ?_⟩
  · rw [if_pos e] at h
    exact s_turnsLen hn htu hf (fun s _ => h _ _ _)
  · rw [if_neg e] at h
    exact s_wordLen htu hf (h _ _ _)
theorem s_firstErrorC {n tu : Nat} (hn : n ≤ 8) (htu : tu ≤ 6) {b : List Nat} {f : Nat → Int32} (hf : Bu b f) {x : Int32} {post : Int32 → Unit → Prop} (h : post (if x = 0 then nI (pte n tu b) else nI (wdl tu b)) ()) : wp_X2_firstError (nI n) (nI tu) (nI b.length) f x post := by
  unfold wp_X2_firstError
  refine ⟨fun e => ?_, fun e => ?_⟩
  · rw [if_pos e] at h
    exact s_turnErr hn htu hf h
  · rw [if_neg e] at h
    exact s_wordErr htu hf h
/-- is it a text of turns -/
def isT (n tu : Nat) (b : List Nat) : Prop := ∃ re us, pst n tu b b.length = some (re, us, n)
def dsc (b : List Nat) : Nat → Nat
  | 0 => 0
  | i + 1 => if b.getD i 0 = 59 then 0 else dsc b i + 1
theorem dsc_le (b : List Nat) : ∀ i, dsc b i ≤ i
  | 0 => Nat.le_refl _
  | i + 1 => by
    have := dsc_le b i
    rw [dsc]; split <;> omega
theorem dsc_pst {n tu : Nat} (hn : n ≤ 8) {b : List Nat} : ∀ {i : Nat} {s : Nat × Nat × Nat}, pst n tu b i = some s → dsc b i = s.2.2
  | 0, s, h => by cases h; rfl
  | i + 1, s, h => by
    obtain ⟨s0, h1, h2⟩ := pst_prev h
    have ih := dsc_pst hn h1
    rw [dsc]
    unfold tk at h2
    split at h2
    · split at h2
      · rename_i hc
        cases h2
        rw [if_pos hc.1]
      · cases h2
    · split at h2
      · rename_i hc
        cases h2
        rw [if_neg (by omega), ih]
      · cases h2
theorem pte_all {n tu : Nat} {b : List Nat} : pte n tu b = b.length ↔ ∃ s, pst n tu b b.length = some s := by
  constructor
  · intro h
    obtain ⟨s, hs⟩ := pte_some (n := n) (tu := tu) (b := b) (Nat.le_refl _)
    exact ⟨s, by rw [h] at hs; exact hs⟩
  · rintro ⟨s, hs⟩
    rcases Nat.eq_or_lt_of_le (pte_le n tu b) with a | a
    · exact a
    · exfalso
      have := fa_first_yes (fun i => (pst n tu b (i + 1)).isNone) b.length a
      have this : (pst n tu b (pte n tu b + 1)).isNone = true := this
      have h2 : pst n tu b (pte n tu b + 1) = none := Option.isNone_iff_eq_none.mp this
      have h3 := pst_none h2 (b.length - (pte n tu b + 1))
      rw [show pte n tu b + 1 + (b.length - (pte n tu b + 1)) = b.length by omega, hs] at h3
      cases h3
theorem isT_iff {n tu : Nat} (hn : n ≤ 8) {b : List Nat} : isT n tu b ↔ (dsc b b.length = n ∧ pte n tu b = b.length) := by
  constructor
  · rintro ⟨re, us, h⟩
    exact ⟨dsc_pst hn h, pte_all.mpr ⟨_, h⟩⟩
  · rintro ⟨h1, h2⟩
    obtain ⟨⟨re, us, di⟩, hs⟩ := pte_all.mp h2
    have := dsc_pst hn hs
    rw [h1] at this
    exact ⟨re, us, by rw [hs, this]⟩
theorem l_isT {n : Nat} {b : List Nat} {f : Nat → Int32} (hf : Bu b f) {K : Int32 → Int32 → Prop} (hK : ∀ a, K (nI (dsc b b.length)) a) : ∀ N i, b.length - i < N → i ≤ b.length → lp_X2_isTextOfTurns_4 (nI b.length) f K N (nI (dsc b i)) (nI i) := by
  have h60 := hf.2.1
  intro N
  induction N with
  | zero => intro i h; omega
  | succ N ih =>
    intro i h1 h2
    rw [lp_X2_isTextOfTurns_4, show nI i + 1 = nI (i + 1) from nI_add i 1]
    refine b_le (by omega) (by omega) (fun h => ?_) (fun h => ?_)
    · have : i = b.length := by omega
      subst this; exact hK _
    · obtain ⟨g1, g2, g3⟩ := hf.get h
      have hnx := ih (i + 1) (by omega) (by omega)
      rw [dsc] at hnx
      rw [nI_c (n := i) (by omega), g1]
      refine ⟨vp_in_nI (by omega) (by decide), b_ne (b := 59) (by omega) (by omega) (fun e x hx => ?_) (fun e => ?_)⟩
      · rw [if_neg e] at hnx
        rw [hx, show nI (dsc b i) + 1 = nI (dsc b i + 1) from nI_add _ 1]
        exact hnx
      · rw [if_pos e] at hnx
        exact hnx
theorem s_isT {n tu : Nat} (hn : n ≤ 8) (htu : tu ≤ 6) {b : List Nat} {f : Nat → Int32} (hf : Bu b f) {post : Int32 → Unit → Prop} (h1 : isT n tu b → post 1 ()) (h0 : ¬ isT n tu b → post 0 ()) : wp_X2_isTextOfTurns (nI n) (nI tu) (nI b.length) f post := by
  have h60 := hf.2.1
  have hd := dsc_le b b.length
  have hle := pte_le n tu b
  rw [isT_iff hn] at h1 h0
  unfold wp_X2_isTextOfTurns
  refine ⟨b.length + 1, l_isT (n := n) hf (fun a => ?_) (b.length + 1) 0 (by omega) (Nat.zero_le _)⟩
  refine b_ne (by omega) (by omega) (fun e => h0 (fun z => e z.1)) (fun e => ?_)
  refine s_turnErr hn htu hf ?_
  exact b_ne (by omega) (by omega) (fun e2 => h0 (fun z => e2 z.2)) (fun e2 => h1 ⟨e, e2⟩)
