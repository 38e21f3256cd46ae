/-! orbits of places: one side goes along the moves, the other both ways -/
def Cl (n tu mask : Nat) (T : Nat → List Nat) (X : Nat) : Prop := ∀ m, m < 2 * tu → mask.testBit m = true → ∀ k, k < n → X.testBit ((T m).getD k 0) = true → X.testBit k = true
def Cl2 (n tu mask : Nat) (T : Nat → List Nat) (X : Nat) : Prop := ∀ m, m < 2 * tu → mask.testBit m = true → ∀ k, k < n → (X.testBit ((T m).getD k 0) = true ↔ X.testBit k = true)
def Sub (X Y : Nat) : Prop := ∀ u, X.testBit u = true → Y.testBit u = true
theorem Sub.rf (X : Nat) : Sub X X := fun _ h => h
theorem Sub.tr {X Y Z : Nat} (h : Sub X Y) (h2 : Sub Y Z) : Sub X Z := fun u hu => h2 u (h u hu)
theorem Sub.eq {X Y : Nat} (h : Sub X Y) (h2 : Sub Y X) : X = Y := by
  apply Nat.eq_of_testBit_eq
  intro u
  cases hx : X.testBit u with
  | true => exact (h u hx).symm
  | false =>
    cases hy : Y.testBit u with
    | false => rfl
    | true => rw [h2 u hy] at hx; cases hx
theorem bits_lt {X n u : Nat} (h : X < 2 ^ n) (hu : X.testBit u = true) : u < n := bit_lt h hu
def card (X n : Nat) : Nat := sm (fun u => one (X.testBit u = true)) n
theorem sm_mono {f g : Nat → Nat} : ∀ {n : Nat}, (∀ k, k < n → f k ≤ g k) → sm f n ≤ sm g n
  | 0, _ => Nat.le_refl _
  | n + 1, h => by
    have h1 := sm_mono (n := n) (fun k hk => h k (by omega))
    have h2 := h n (by omega)
    rw [sm, sm]; omega
theorem sm_eq_le {f g : Nat → Nat} : ∀ {n : Nat}, (∀ k, k < n → f k ≤ g k) → sm f n = sm g n → ∀ k, k < n → f k = g k
  | 0, _, _ => fun k hk => by omega
  | n + 1, h, e => by
    have h1 := sm_mono (n := n) (fun k hk => h k (by omega))
    have h2 := h n (by omega)
    rw [sm, sm] at e
    intro k hk
    by_cases q : k = n
    · subst q; omega
    · exact sm_eq_le (n := n) (fun k hk => h k (by omega)) (by omega) k (by omega)
theorem one_mono {P Q : Prop} [Decidable P] [Decidable Q] (h : P → Q) : one P ≤ one Q := by
  unfold one
  by_cases hp : P
  · rw [if_pos hp, if_pos (h hp)]; exact Nat.le_refl _
  · rw [if_neg hp]; exact Nat.zero_le _
theorem one_of_eq {P Q : Prop} [Decidable P] [Decidable Q] (h : one P = one Q) (hq : Q) : P := by
  unfold one at h
  rw [if_pos hq] at h
  by_cases hp : P
  · exact hp
  · rw [if_neg hp] at h; cases h
theorem card_sub {X Y n : Nat} (h : Sub X Y) : card X n ≤ card Y n := sm_mono (fun u _ => one_mono (h u))
theorem card_le (X n : Nat) : card X n ≤ n := by
  have := sm_le (f := fun u => one (X.testBit u = true)) (c := 1) (n := n) (fun u _ => one_le _)
  unfold card; omega
theorem card_eq {X Y n : Nat} (h : Sub X Y) (hY : Y < 2 ^ n) (e : card X n = card Y n) : X = Y := by
  refine h.eq (fun u hu => ?_)
  exact one_of_eq (sm_eq_le (fun u _ => one_mono (h u)) e u (bits_lt hY hu)) hu
theorem card_pow {p n : Nat} (hp : p < n) : 1 ≤ card (2 ^ p) n := by
  have : ∀ m, p < m → 1 ≤ card (2 ^ p) m := by
    intro m
    induction m with
    | zero => intro h; omega
    | succ m ih =>
      intro h
      show 1 ≤ card (2 ^ p) m + one ((2 ^ p).testBit m = true)
      by_cases e : p = m
      · subst e
        have e1 : one ((2 ^ p : Nat).testBit p = true) = 1 := if_pos (by rw [Nat.testBit_two_pow]; exact decide_eq_true rfl)
        rw [e1]
        omega
      · have := ih (by omega)
        omega
  exact this n hp
/-- closed one way, closed both ways -/
theorem Cl.two {n tu mask : Nat} {T : Nat → List Nat} (hT : Tw n tu T) {X : Nat} (h : Cl n tu mask T X) : Cl2 n tu mask T X := by
  intro m hm hb k hk
  refine ⟨h m hm hb k hk, fun hx => ?_⟩
  have e := sm_perm (hT.P hm) (fun u => one (X.testBit u = true))
  exact one_of_eq (sm_eq_le (f := fun u => one (X.testBit ((T m).getD u 0) = true)) (g := fun u => one (X.testBit u = true)) (fun u hu => one_mono (h m hm hb u hu)) e k hk) hx
theorem Cl2.one {n tu mask : Nat} {T : Nat → List Nat} {X : Nat} (h : Cl2 n tu mask T X) : Cl n tu mask T X := fun m hm hb k hk hx => (h m hm hb k hk).mp hx
/-- the orbit of a place -/
def Orb (n tu mask : Nat) (T : Nat → List Nat) (p X : Nat) : Prop := X < 2 ^ n ∧ X.testBit p = true ∧ Cl2 n tu mask T X ∧ ∀ Y, Y.testBit p = true → Cl2 n tu mask T Y → Sub X Y
theorem Orb.uniq {n tu mask : Nat} {T : Nat → List Nat} {p X Y : Nat} (h : Orb n tu mask T p X) (h2 : Orb n tu mask T p Y) : X = Y := (h.2.2.2 Y h2.2.1 h2.2.2.1).eq (h2.2.2.2 X h.2.1 h.2.2.1)
/-! the class's way -/
def mvp (s : List Nat) (X : Nat) : Nat → Nat
  | 0 => 0
  | k + 1 => if X.testBit (s.getD k 0) = true then mvp s X k ||| 2 ^ k else mvp s X k
theorem mvp_bit (s : List Nat) (X u : Nat) : ∀ k, (mvp s X k).testBit u = (decide (u < k) && X.testBit (s.getD u 0))
  | 0 => by simp [mvp]
  | k + 1 => by
    have ih := mvp_bit s X u k
    rw [mvp]
    by_cases e : k = u
    · subst e
      cases hb : X.testBit (s.getD k 0) with
      | true => rw [if_pos rfl, t_or, ih]; simp
      | false => rw [if_neg (by decide), ih]; simp [hb]
    · have e2 : decide (u < k + 1) = decide (u < k) := by
        rw [decide_eq_decide]; omega
      rw [e2]
      split
      · rw [t_or, ih]; simp [e]
      · exact ih
theorem mvp_lt (s : List Nat) (X : Nat) : ∀ k, mvp s X k < 2 ^ k
  | 0 => by simp [mvp]
  | k + 1 => by
    have ih := mvp_lt s X k
    have h2 : mvp s X k < 2 ^ (k + 1) := Nat.lt_of_lt_of_le ih (Nat.pow_le_pow_right (by decide) (by omega))
    rw [mvp]
    split
    · exact or_lt h2 (by omega)
    · exact h2
def rnd (n mask : Nat) (T : Nat → List Nat) (X : Nat) : Nat → Nat
  | 0 => X
  | k + 1 => if mask.testBit k = true then rnd n mask T X k ||| mvp (T k) (rnd n mask T X k) n else rnd n mask T X k
theorem or_sub {X Y : Nat} : Sub X (X ||| Y) := fun u h => by rw [Nat.testBit_or, h, Bool.true_or]
theorem or_sub2 {X Y : Nat} : Sub Y (X ||| Y) := fun u h => by rw [Nat.testBit_or, h, Bool.or_true]
theorem sub_or {X Y Z : Nat} (h : Sub X Z) (h2 : Sub Y Z) : Sub (X ||| Y) Z := fun u hu => by
  rw [Nat.testBit_or, Bool.or_eq_true] at hu
  exact hu.elim (h u) (h2 u)
theorem rnd_sub (n mask : Nat) (T : Nat → List Nat) (X : Nat) (k : Nat) : ∀ j, Sub (rnd n mask T X k) (rnd n mask T X (k + j))
  | 0 => Sub.rf _
  | j + 1 => by
    refine (rnd_sub n mask T X k j).tr ?_
    rw [← Nat.add_assoc, rnd]
    split
    · exact or_sub
    · exact Sub.rf _
theorem rnd_lt {n mask : Nat} {T : Nat → List Nat} {X : Nat} (h : X < 2 ^ n) : ∀ k, rnd n mask T X k < 2 ^ n
  | 0 => h
  | k + 1 => by
    rw [rnd]
    split
    · exact Nat.or_lt_two_pow (rnd_lt h k) (mvp_lt _ _ n)
    · exact rnd_lt h k
theorem rnd_min {n tu mask : Nat} {T : Nat → List Nat} {X Y : Nat} (h : Sub X Y) (hY : Cl n tu mask T Y) : ∀ k, k ≤ 2 * tu → Sub (rnd n mask T X k) Y
  | 0, _ => h
  | k + 1, hk => by
    have ih := rnd_min h hY k (by omega)
    rw [rnd]
    split
    · rename_i hb
      refine sub_or ih (fun u hu => ?_)
      rw [mvp_bit, Bool.and_eq_true, decide_eq_true_eq] at hu
      exact hY k (by omega) hb u hu.1 (ih _ hu.2)
    · exact ih
theorem rnd_fix {n tu mask : Nat} {T : Nat → List Nat} {X : Nat} (h : rnd n mask T X (2 * tu) = X) : Cl n tu mask T X := by
  intro m hm hb k hk hx
  have h1 := rnd_sub n mask T X 0 m
  rw [Nat.zero_add] at h1
  have h2 := rnd_sub n mask T X (m + 1) (2 * tu - (m + 1))
  rw [show m + 1 + (2 * tu - (m + 1)) = 2 * tu by omega, h] at h2
  refine h2 k ?_
  rw [rnd, if_pos hb]
  refine or_sub2 k ?_
  rw [mvp_bit, Bool.and_eq_true, decide_eq_true_eq]
  exact ⟨hk, h1 _ hx⟩
def rns (n tu mask : Nat) (T : Nat → List Nat) (p : Nat) : Nat → Nat
  | 0 => 2 ^ p
  | r + 1 => rnd n mask T (rns n tu mask T p r) (2 * tu)
theorem rns_lt {n tu mask : Nat} {T : Nat → List Nat} {p : Nat} (hp : p < n) : ∀ r, rns n tu mask T p r < 2 ^ n
  | 0 => Nat.pow_lt_pow_right (by decide) hp
  | r + 1 => rnd_lt (rns_lt hp r) _
theorem rns_grow {n tu mask : Nat} {T : Nat → List Nat} {p : Nat} (hp : p < n) : ∀ r, Cl n tu mask T (rns n tu mask T p r) ∨ r + 1 ≤ card (rns n tu mask T p r) n
  | 0 => Or.inr (card_pow hp)
  | r + 1 => by
    have hs : Sub (rns n tu mask T p r) (rns n tu mask T p (r + 1)) := by
      have := rnd_sub n mask T (rns n tu mask T p r) 0 (2 * tu)
      rw [Nat.zero_add] at this
      exact this
    rcases rns_grow hp r with h | h
    · refine Or.inl ?_
      have h2 := rnd_min (Sub.rf _) h (2 * tu) (Nat.le_refl _)
      have e : rns n tu mask T p (r + 1) = rns n tu mask T p r := Sub.eq h2 hs
      rw [e]; exact h
    · by_cases e : rns n tu mask T p (r + 1) = rns n tu mask T p r
      · refine Or.inl ?_
        rw [e]
        exact rnd_fix e
      · refine Or.inr ?_
        have h3 := card_sub (n := n) hs
        rcases Nat.lt_or_ge (card (rns n tu mask T p r) n) (card (rns n tu mask T p (r + 1)) n) with a | a
        · omega
        · exact absurd (card_eq hs (rns_lt hp _) (by omega)).symm e
def orbF (n tu mask : Nat) (T : Nat → List Nat) (p : Nat) : Nat := rns n tu mask T p (n - 1)
theorem orbF_Orb {n tu mask : Nat} {T : Nat → List Nat} (hT : Tw n tu T) {p : Nat} (hp : p < n) : Orb n tu mask T p (orbF n tu mask T p) := by
  have hlt := rns_lt (tu := tu) (mask := mask) (T := T) hp (n - 1)
  have hin : ∀ r, (rns n tu mask T p r).testBit p = true := by
    intro r
    induction r with
    | zero => show (2 ^ p).testBit p = true; rw [Nat.testBit_two_pow]; exact decide_eq_true rfl
    | succ r ih =>
      have := rnd_sub n mask T (rns n tu mask T p r) 0 (2 * tu)
      rw [Nat.zero_add] at this
      exact this p ih
  have hcl : Cl n tu mask T (orbF n tu mask T p) := by
    rcases rns_grow (tu := tu) (mask := mask) (T := T) hp (n - 1) with h | h
    · exact h
    · have h1 := card_le (rns n tu mask T p (n - 1)) n
      have hall : ∀ k, k < n → (rns n tu mask T p (n - 1)).testBit k = true := by
        have e : sm (fun u => one ((rns n tu mask T p (n - 1)).testBit u = true)) n = sm (fun _ => 1) n := by
          have : ∀ m, sm (fun _ => 1) m = m := by
            intro m
            induction m with
            | zero => rfl
            | succ m ih => rw [sm, ih]
          rw [this]
          show card _ n = n
          omega
        intro k hk
        have := sm_eq_le (fun u _ => one_le _) e k hk
        by_cases q : (rns n tu mask T p (n - 1)).testBit k = true
        · exact q
        · have h5 : one ((rns n tu mask T p (n - 1)).testBit k = true) = 0 := if_neg q
          have this : one ((rns n tu mask T p (n - 1)).testBit k = true) = 1 := this
          omega
      intro m hm hb k hk _
      exact hall k hk
  refine ⟨hlt, hin _, hcl.two hT, fun Y hY hY2 => ?_⟩
  have : ∀ r, Sub (rns n tu mask T p r) Y := by
    intro r
    induction r with
    | zero =>
      intro u hu
      have hu : (2 ^ p).testBit u = true := hu
      rw [Nat.testBit_two_pow, decide_eq_true_eq] at hu
      subst hu
      exact hY
    | succ r ih => exact rnd_min ih hY2.one (2 * tu) (Nat.le_refl _)
  exact this _
/-! the model's way -/
def rca (s : List Nat) (X acc : Nat) : Nat → Nat
  | 0 => acc
  | k + 1 => (rca s X acc k ||| (if X.testBit k = true then 2 ^ (s.getD k 0) else 0)) ||| (if X.testBit (s.getD k 0) = true then 2 ^ k else 0)
theorem if_bit {b : Bool} {k u : Nat} : (if b = true then 2 ^ k else 0).testBit u = true ↔ b = true ∧ k = u := by
  cases b with
  | true => rw [if_pos rfl, Nat.testBit_two_pow, decide_eq_true_eq]; simp
  | false => rw [if_neg (by decide)]; simp
theorem rca_bit (s : List Nat) (X acc u : Nat) : ∀ k, (rca s X acc k).testBit u = true ↔ acc.testBit u = true ∨ ∃ j, j < k ∧ ((X.testBit j = true ∧ s.getD j 0 = u) ∨ (X.testBit (s.getD j 0) = true ∧ j = u))
  | 0 => by
    constructor
    · intro h; exact Or.inl h
    · intro h
      rcases h with h | ⟨j, hj, _⟩
      · exact h
      · omega
  | k + 1 => by
    have ih := rca_bit s X acc u k
    rw [rca, Nat.testBit_or, Nat.testBit_or, Bool.or_eq_true, Bool.or_eq_true, if_bit, if_bit, ih]
    constructor
    · rintro (((h | ⟨j, hj, h⟩) | h) | h)
      · exact Or.inl h
      · exact Or.inr ⟨j, by omega, h⟩
      · exact Or.inr ⟨k, by omega, Or.inl h⟩
      · exact Or.inr ⟨k, by omega, Or.inr h⟩
    · rintro (h | ⟨j, hj, h⟩)
      · exact Or.inl (Or.inl (Or.inl h))
      · by_cases e : j = k
        · subst e
          rcases h with h | h
          · exact Or.inl (Or.inr h)
          · exact Or.inr h
        · exact Or.inl (Or.inl (Or.inr ⟨j, by omega, h⟩))
theorem ifpow_lt {b : Bool} {k n : Nat} (h : k < n) : (if b = true then 2 ^ k else 0) < 2 ^ n := by
  split
  · exact Nat.pow_lt_pow_right (by decide) h
  · exact Nat.two_pow_pos n
theorem rca_lt {n : Nat} {s : List Nat} (hs : IsP n s) {X acc : Nat} (ha : acc < 2 ^ n) : ∀ k, k ≤ n → rca s X acc k < 2 ^ n
  | 0, _ => ha
  | k + 1, hk => Nat.or_lt_two_pow (Nat.or_lt_two_pow (rca_lt hs ha k (by omega)) (ifpow_lt (hs.lt (by omega)))) (ifpow_lt (by omega))
def rcm (n mask : Nat) (T : Nat → List Nat) (X : Nat) : Nat → Nat
  | 0 => 0
  | k + 1 => if mask.testBit k = true then rca (T k) X (rcm n mask T X k) n else rcm n mask T X k
theorem rcm_lt {n tu mask : Nat} {T : Nat → List Nat} (hT : Tw n tu T) {X : Nat} : ∀ k, k ≤ 2 * tu → rcm n mask T X k < 2 ^ n
  | 0, _ => Nat.two_pow_pos n
  | k + 1, hk => by
    rw [rcm]
    split
    · exact rca_lt (hT.P (by omega)) (rcm_lt hT k (by omega)) n (Nat.le_refl _)
    · exact rcm_lt hT k (by omega)
theorem rcm_bit (n mask : Nat) (T : Nat → List Nat) (X u : Nat) : ∀ k, (rcm n mask T X k).testBit u = true ↔ ∃ m, m < k ∧ mask.testBit m = true ∧ ∃ j, j < n ∧ ((X.testBit j = true ∧ (T m).getD j 0 = u) ∨ (X.testBit ((T m).getD j 0) = true ∧ j = u))
  | 0 => by
    constructor
    · intro h; rw [rcm, Nat.zero_testBit] at h; cases h
    · rintro ⟨m, hm, _⟩; omega
  | k + 1 => by
    have ih := rcm_bit n mask T X u k
    rw [rcm]
    by_cases hb : mask.testBit k = true
    · rw [if_pos hb, rca_bit, ih]
      constructor
      · rintro (⟨m, hm, h1, h2⟩ | h)
        · exact ⟨m, by omega, h1, h2⟩
        · exact ⟨k, by omega, hb, h⟩
      · rintro ⟨m, hm, h1, h2⟩
        by_cases e : m = k
        · subst e; exact Or.inr h2
        · exact Or.inl ⟨m, by omega, h1, h2⟩
    · rw [if_neg hb, ih]
      constructor
      · rintro ⟨m, hm, h1, h2⟩; exact ⟨m, by omega, h1, h2⟩
      · rintro ⟨m, hm, h1, h2⟩
        by_cases e : m = k
        · subst e; exact absurd h1 hb
        · exact ⟨m, by omega, h1, h2⟩
def mrs (n tu mask : Nat) (T : Nat → List Nat) (p : Nat) : Nat → Nat
  | 0 => 2 ^ p
  | r + 1 => mrs n tu mask T p r ||| rcm n mask T (mrs n tu mask T p r) (2 * tu)
theorem mrs_lt {n tu mask : Nat} {T : Nat → List Nat} (hT : Tw n tu T) {p : Nat} (hp : p < n) : ∀ r, mrs n tu mask T p r < 2 ^ n
  | 0 => Nat.pow_lt_pow_right (by decide) hp
  | r + 1 => Nat.or_lt_two_pow (mrs_lt hT hp r) (rcm_lt hT _ (Nat.le_refl _))
theorem rcm_fix {n tu mask : Nat} {T : Nat → List Nat} {X : Nat} (h : Sub (rcm n mask T X (2 * tu)) X) : Cl2 n tu mask T X := by
  intro m hm hb k hk
  constructor
  · intro hx
    exact h k ((rcm_bit n mask T X k (2 * tu)).mpr ⟨m, hm, hb, k, hk, Or.inr ⟨hx, rfl⟩⟩)
  · intro hx
    exact h _ ((rcm_bit n mask T X _ (2 * tu)).mpr ⟨m, hm, hb, k, hk, Or.inl ⟨hx, rfl⟩⟩)
theorem rcm_min {n tu mask : Nat} {T : Nat → List Nat} {X Y : Nat} (h : Sub X Y) (hY : Cl2 n tu mask T Y) : Sub (rcm n mask T X (2 * tu)) Y := by
  intro u hu
  obtain ⟨m, hm, hb, j, hj, h1⟩ := (rcm_bit n mask T X u (2 * tu)).mp hu
  rcases h1 with ⟨a, rfl⟩ | ⟨a, rfl⟩
  · exact (hY m hm hb j hj).mpr (h _ a)
  · exact (hY m hm hb j hj).mp (h _ a)
theorem mrs_grow {n tu mask : Nat} {T : Nat → List Nat} (hT : Tw n tu T) {p : Nat} (hp : p < n) : ∀ r, Cl2 n tu mask T (mrs n tu mask T p r) ∨ r + 1 ≤ card (mrs n tu mask T p r) n
  | 0 => Or.inr (card_pow hp)
  | r + 1 => by
    have hs : Sub (mrs n tu mask T p r) (mrs n tu mask T p (r + 1)) := or_sub
    rcases mrs_grow hT hp r with h | h
    · refine Or.inl ?_
      have h2 : Sub (mrs n tu mask T p (r + 1)) (mrs n tu mask T p r) := sub_or (Sub.rf _) (rcm_min (Sub.rf _) h)
      rw [show mrs n tu mask T p (r + 1) = mrs n tu mask T p r from Sub.eq h2 hs]
      exact h
    · by_cases e : mrs n tu mask T p (r + 1) = mrs n tu mask T p r
      · refine Or.inl ?_
        rw [e]
        refine rcm_fix ?_
        have h3 : Sub (rcm n mask T (mrs n tu mask T p r) (2 * tu)) (mrs n tu mask T p (r + 1)) := or_sub2
        rw [e] at h3
        exact h3
      · refine Or.inr ?_
        have h3 := card_sub (n := n) hs
        rcases Nat.lt_or_ge (card (mrs n tu mask T p r) n) (card (mrs n tu mask T p (r + 1)) n) with a | a
        · omega
        · exact absurd (card_eq hs (mrs_lt hT hp _) (by omega)).symm e
theorem mrs_Orb {n tu mask : Nat} {T : Nat → List Nat} (hn : n ≤ 8) (hT : Tw n tu T) {p : Nat} (hp : p < n) : Orb n tu mask T p (mrs n tu mask T p 8) := by
  refine ⟨mrs_lt hT hp 8, ?_, ?_, fun Y hY hY2 => ?_⟩
  · have : ∀ r, (mrs n tu mask T p r).testBit p = true := by
      intro r
      induction r with
      | zero => show (2 ^ p).testBit p = true; rw [Nat.testBit_two_pow]; exact decide_eq_true rfl
      | succ r ih => exact or_sub p ih
    exact this 8
  · rcases mrs_grow (mask := mask) hT hp 8 with h | h
    · exact h
    · have := card_le (mrs n tu mask T p 8) n
      omega
  · have : ∀ r, Sub (mrs n tu mask T p r) Y := by
      intro r
      induction r with
      | zero =>
        intro u hu
        have hu : (2 ^ p).testBit u = true := hu
        rw [Nat.testBit_two_pow, decide_eq_true_eq] at hu
        subst hu
        exact hY
      | succ r ih => exact sub_or ih (rcm_min ih hY2)
    exact this 8
theorem mrs_orbF {n tu mask : Nat} {T : Nat → List Nat} (hn : n ≤ 8) (hT : Tw n tu T) {p : Nat} (hp : p < n) : mrs n tu mask T p 8 = orbF n tu mask T p := (mrs_Orb hn hT hp).uniq (orbF_Orb hT hp)
/-- the count of orbits, place by place -/
def orc (n tu mask : Nat) (T : Nat → List Nat) : Nat → Nat × Nat
  | 0 => (0, 0)
  | k + 1 => if (orc n tu mask T k).1.testBit k = true then orc n tu mask T k else ((orc n tu mask T k).1 ||| orbF n tu mask T k, (orc n tu mask T k).2 + 1)
theorem orc_lt {n tu mask : Nat} {T : Nat → List Nat} : ∀ k, k ≤ n → (orc n tu mask T k).1 < 2 ^ n
  | 0, _ => Nat.two_pow_pos n
  | k + 1, hk => by
    rw [orc]
    split
    · exact orc_lt k (by omega)
    · exact Nat.or_lt_two_pow (orc_lt k (by omega)) (rns_lt (by omega) _)
