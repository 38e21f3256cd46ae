/-! sums over small ranges -/
def sm (f : Nat → Nat) : Nat → Nat
  | 0 => 0
  | n + 1 => sm f n + f n
theorem sm_congr {f g : Nat → Nat} : ∀ {n : Nat}, (∀ k, k < n → f k = g k) → sm f n = sm g n
  | 0, _ => rfl
  | n + 1, h => by rw [sm, sm, sm_congr (fun k hk => h k (by omega)), h n (by omega)]
theorem sm_add (f g : Nat → Nat) : ∀ n, sm (fun k => f k + g k) n = sm f n + sm g n
  | 0 => rfl
  | n + 1 => by rw [sm, sm, sm, sm_add f g n]; omega
theorem sm_zero {f : Nat → Nat} : ∀ {n : Nat}, (∀ k, k < n → f k = 0) → sm f n = 0
  | 0, _ => rfl
  | n + 1, h => by rw [sm, sm_zero (fun k hk => h k (by omega)), h n (by omega)]
theorem sm_le {f : Nat → Nat} {c : Nat} : ∀ {n : Nat}, (∀ k, k < n → f k ≤ c) → sm f n ≤ n * c
  | 0, _ => Nat.zero_le _
  | n + 1, h => by
    have h1 := sm_le (n := n) (fun k hk => h k (by omega))
    have h2 := h n (by omega)
    rw [sm, Nat.succ_mul]
    omega
theorem sm_comm (F : Nat → Nat → Nat) (m : Nat) : ∀ n, sm (fun i => sm (fun j => F i j) m) n = sm (fun j => sm (fun i => F i j) n) m
  | 0 => (sm_zero (fun _ _ => rfl)).symm
  | n + 1 => by
    rw [sm, sm_comm F m n, ← sm_add]
    exact sm_congr (fun j _ => rfl)
theorem sm_sum (f : Nat → Nat) : ∀ n, sm f n = ((List.range n).map f).sum
  | 0 => rfl
  | n + 1 => by rw [sm, sm_sum f n, List.range_succ, List.map_append, List.sum_append]; simp
theorem sm_perm {n : Nat} {s : List Nat} (hs : IsP n s) (g : Nat → Nat) : sm (fun i => g (s.getD i 0)) n = sm g n := by
  have e : (List.range n).map (fun i => s.getD i 0) = s := by
    refine getD_ext (by rw [List.length_map, List.length_range, hs.len]) fun j hj => ?_
    rw [List.length_map, List.length_range] at hj
    rw [getD_map (α := Nat) _ _ (by rw [List.length_range]; exact hj), getD_range hj]
  have e2 : (List.range n).map (fun i => g (s.getD i 0)) = s.map g := by
    have h := congrArg (List.map g) e
    rw [List.map_map] at h
    exact h
  rw [sm_sum, sm_sum, e2]
  exact (List.Perm.map g hs).sum_nat
theorem sm2_congr {F G : Nat → Nat → Nat} {n : Nat} (h : ∀ i j, i < n → j < n → F i j = G i j) : sm (fun i => sm (fun j => F i j) n) n = sm (fun i => sm (fun j => G i j) n) n :=
  sm_congr (fun i hi => sm_congr (fun j hj => h i j hi hj))
theorem sm2_add {F G H : Nat → Nat → Nat} {n : Nat} (h : ∀ i j, i < n → j < n → F i j = G i j + H i j) : sm (fun i => sm (fun j => F i j) n) n = sm (fun i => sm (fun j => G i j) n) n + sm (fun i => sm (fun j => H i j) n) n := by
  rw [← sm_add, sm2_congr h]
  exact sm_congr (fun i _ => sm_add (fun j => G i j) (fun j => H i j) n)
/-! pairs out of order -/
def one (P : Prop) [Decidable P] : Nat := if P then 1 else 0
theorem one_le (P : Prop) [Decidable P] : one P ≤ 1 := by unfold one; split <;> omega
def ivn (p : List Nat) (n : Nat) : Nat := sm (fun i => sm (fun j => one (i < j ∧ p.getD j 0 < p.getD i 0)) n) n
theorem ivn_le (p : List Nat) (n : Nat) : ivn p n ≤ n * n := sm_le (fun i _ => by
  have := sm_le (f := fun j => one (i < j ∧ p.getD j 0 < p.getD i 0)) (c := 1) (n := n) (fun j _ => one_le _)
  omega)
theorem one_congr {P Q : Prop} [Decidable P] [Decidable Q] (h : P ↔ Q) : one P = one Q := by
  unfold one
  by_cases hp : P
  · rw [if_pos hp, if_pos (h.mp hp)]
  · rw [if_neg hp, if_neg (fun q => hp (h.mpr q))]
theorem one_split {P Q R : Prop} [Decidable P] [Decidable Q] [Decidable R] (h : P ↔ (Q ∨ R)) (hx : ¬ (Q ∧ R)) : one P = one Q + one R := by
  unfold one
  by_cases hq : Q
  · rw [if_pos (h.mpr (Or.inl hq)), if_pos hq, if_neg (fun r => hx ⟨hq, r⟩)]
  · by_cases hr : R
    · rw [if_pos (h.mpr (Or.inr hr)), if_neg hq, if_pos hr]
    · rw [if_neg (fun p => (h.mp p).elim hq hr), if_neg hq, if_neg hr]
theorem ivn_act {n : Nat} {s p : List Nat} (hs : IsP n s) (hp : IsP n p) : ∃ c, ivn s n + ivn p n = ivn (act s p) n + 2 * c := by
  have hq := hs.actP hp
  have hg : ∀ j, j < n → (act s p).getD j 0 = p.getD (s.getD j 0) 0 := fun j hj => act_get (by rw [hs.len]; exact hj)
  have e0 : ivn p n = sm (fun i => sm (fun j => one (s.getD i 0 < s.getD j 0 ∧ (act s p).getD j 0 < (act s p).getD i 0)) n) n := by
    unfold ivn
    rw [← sm_perm hs (fun i => sm (fun j => one (i < j ∧ p.getD j 0 < p.getD i 0)) n)]
    refine sm_congr (fun i hi => ?_)
    show sm (fun j => one (s.getD i 0 < j ∧ p.getD j 0 < p.getD (s.getD i 0) 0)) n = _
    rw [← sm_perm hs (fun j => one (s.getD i 0 < j ∧ p.getD j 0 < p.getD (s.getD i 0) 0))]
    refine sm_congr (fun j hj => ?_)
    show one (s.getD i 0 < s.getD j 0 ∧ p.getD (s.getD j 0) 0 < p.getD (s.getD i 0) 0) = _
    rw [hg i hi, hg j hj]
  have e1 := sm2_add (n := n) (F := fun i j => one (s.getD i 0 < s.getD j 0 ∧ (act s p).getD j 0 < (act s p).getD i 0)) (G := fun i j => one (i < j ∧ s.getD i 0 < s.getD j 0 ∧ (act s p).getD j 0 < (act s p).getD i 0)) (H := fun i j => one (j < i ∧ s.getD i 0 < s.getD j 0 ∧ (act s p).getD j 0 < (act s p).getD i 0)) (fun i j hi hj => by
    refine one_split ⟨fun h => ?_, fun h => h.elim (fun a => a.2) (fun a => a.2)⟩ (fun h => by omega)
    rcases Nat.lt_trichotomy i j with a | a | a
    · exact Or.inl ⟨a, h⟩
    · subst a; omega
    · exact Or.inr ⟨a, h⟩)
  have e2 : sm (fun i => sm (fun j => one (j < i ∧ s.getD i 0 < s.getD j 0 ∧ (act s p).getD j 0 < (act s p).getD i 0)) n) n = sm (fun i => sm (fun j => one (i < j ∧ s.getD j 0 < s.getD i 0 ∧ (act s p).getD i 0 < (act s p).getD j 0)) n) n :=
    sm_comm (fun i j => one (j < i ∧ s.getD i 0 < s.getD j 0 ∧ (act s p).getD j 0 < (act s p).getD i 0)) n n
  have e3 := sm2_add (n := n) (F := fun i j => one (i < j ∧ s.getD j 0 < s.getD i 0)) (G := fun i j => one (i < j ∧ s.getD j 0 < s.getD i 0 ∧ (act s p).getD j 0 < (act s p).getD i 0)) (H := fun i j => one (i < j ∧ s.getD j 0 < s.getD i 0 ∧ (act s p).getD i 0 < (act s p).getD j 0)) (fun i j hi hj => by
    refine one_split ⟨fun h => ?_, fun h => h.elim (fun a => ⟨a.1, a.2.1⟩) (fun a => ⟨a.1, a.2.1⟩)⟩ (fun h => by omega)
    rcases Nat.lt_trichotomy ((act s p).getD i 0) ((act s p).getD j 0) with a | a | a
    · exact Or.inr ⟨h.1, h.2, a⟩
    · have := hq.inj hi hj a
      omega
    · exact Or.inl ⟨h.1, h.2, a⟩)
  have e4 := sm2_add (n := n) (F := fun i j => one (i < j ∧ (act s p).getD j 0 < (act s p).getD i 0)) (G := fun i j => one (i < j ∧ s.getD i 0 < s.getD j 0 ∧ (act s p).getD j 0 < (act s p).getD i 0)) (H := fun i j => one (i < j ∧ s.getD j 0 < s.getD i 0 ∧ (act s p).getD j 0 < (act s p).getD i 0)) (fun i j hi hj => by
    refine one_split ⟨fun h => ?_, fun h => h.elim (fun a => ⟨a.1, a.2.2⟩) (fun a => ⟨a.1, a.2.2⟩)⟩ (fun h => by omega)
    rcases Nat.lt_trichotomy (s.getD i 0) (s.getD j 0) with a | a | a
    · exact Or.inl ⟨h.1, a, h.2⟩
    · have := hs.inj hi hj a
      omega
    · exact Or.inr ⟨h.1, a, h.2⟩)
  refine ⟨sm (fun i => sm (fun j => one (i < j ∧ s.getD j 0 < s.getD i 0 ∧ (act s p).getD i 0 < (act s p).getD j 0)) n) n, ?_⟩
  have e5 : ivn s n = sm (fun i => sm (fun j => one (i < j ∧ s.getD j 0 < s.getD i 0)) n) n := rfl
  have e6 : ivn (act s p) n = sm (fun i => sm (fun j => one (i < j ∧ (act s p).getD j 0 < (act s p).getD i 0)) n) n := rfl
  rw [e0, e5, e6, e1, e2, e3, e4]
  omega
theorem ivn_mod {n : Nat} {s p : List Nat} (hs : IsP n s) (hp : IsP n p) : ivn (act s p) n % 2 = (ivn s n + ivn p n) % 2 := by
  obtain ⟨c, h⟩ := ivn_act hs hp
  omega
theorem ivn_range (n : Nat) : ivn (List.range n) n = 0 := by
  refine sm_zero (fun i hi => sm_zero (fun j hj => ?_))
  show one (i < j ∧ (List.range n).getD j 0 < (List.range n).getD i 0) = 0
  rw [getD_range hi, getD_range hj]
  exact if_neg (by omega)
theorem act_to {n : Nat} {s : List Nat} (hs : IsP n s) : act s (List.range n) = s := by
  refine getD_ext (act_len _ _) fun j hj => ?_
  rw [act_len] at hj
  rw [act_get hj, getD_range (hs.lt (by rw [← hs.len]; exact hj))]
theorem ivn_inv {n : Nat} {s : List Nat} (hs : IsP n s) : ivn (inv s) n % 2 = ivn s n % 2 := by
  have h1 := act_inv hs (IsP.id n)
  rw [act_to hs] at h1
  have h2 := ivn_mod hs.invP hs
  rw [h1, ivn_range] at h2
  omega
/-- of the pairs, one side by the other -/
theorem ivn_by (p : List Nat) (n : Nat) : ivn p n = sm (fun j => sm (fun i => one (p.getD j 0 < p.getD i 0)) j) n := by
  unfold ivn
  rw [sm_comm]
  have cut : ∀ (j : Nat) (Q : Nat → Prop) [DecidablePred Q] (m : Nat), sm (fun i => one (i < j ∧ Q i)) (j + m) = sm (fun i => one (Q i)) j := by
    intro j Q _ m
    induction m with
    | zero => exact sm_congr (fun i hi => one_congr ⟨fun h => h.2, fun h => ⟨hi, h⟩⟩)
    | succ m ih =>
      rw [← Nat.add_assoc, sm, ih]
      have : one (j + m < j ∧ Q (j + m)) = 0 := if_neg (by omega)
      rw [this, Nat.add_zero]
  refine sm_congr (fun j hj => ?_)
  have := cut j (fun i => p.getD j 0 < p.getD i 0) (n - j)
  rw [show j + (n - j) = n by omega] at this
  exact this
/-! both sides count them -/
def evI (k : Nat) : Int32 := if k % 2 = 0 then 1 else 0
theorem l_ev17 {n a : Nat} {p : List Nat} (hn : n ≤ 8) (hp : IsP n p) (ha : a < n) {f : Nat → Int32} (hf : At f p) (S : Nat) {K : Int32 → Int32 → Prop} (hK : ∀ v, K (nI (S + sm (fun j => one (a < j ∧ p.getD j 0 < p.getD a 0)) n)) v) : ∀ N b, n - b < N → b ≤ n → a < b → lp_X3_isEven_17 f (nI n) (nI a) K N (nI (S + sm (fun j => one (a < j ∧ p.getD j 0 < p.getD a 0)) b)) (nI b) := by
  have hlen := hp.len
  intro N
  induction N with
  | zero => intro b h; omega
  | succ N ih =>
    intro b h1 h2 h3
    rw [lp_X3_isEven_17]
    refine b_le (by omega) (by omega) (fun h => ?_) (fun h => ?_)
    · have : b = n := by omega
      subst this; exact hK _
    · have pa := hp.lt ha
      have pb := hp.lt h
      have hst : sm (fun j => one (a < j ∧ p.getD j 0 < p.getD a 0)) (b + 1) = sm (fun j => one (a < j ∧ p.getD j 0 < p.getD a 0)) b + one (a < b ∧ p.getD b 0 < p.getD a 0) := rfl
      have hnx := ih (b + 1) (by omega) (by omega) (by omega)
      rw [hst] at hnx
      rw [nI_c (n := a) (by omega), nI_c (n := b) (by omega), hf a (by omega), hf b (by omega), show nI b + 1 = nI (b + 1) from nI_add b 1]
      refine ⟨vp_in_nI (by omega) (by decide), vp_in_nI (by omega) (by decide), b_le (by omega) (by omega) (fun q => ?_) (fun q => ?_)⟩
      · intro x hx
        rw [show one (a < b ∧ p.getD b 0 < p.getD a 0) = 0 from if_neg (by omega)] at hnx
        rw [hx, show ∀ k, nI k + 0 = nI (k + 0) from fun k => nI_add k 0]
        exact hnx
      · intro x hx
        rw [show one (a < b ∧ p.getD b 0 < p.getD a 0) = 1 from if_pos ⟨h3, q⟩] at hnx
        rw [hx, show ∀ k, nI k + 1 = nI (k + 1) from fun k => nI_add k 1]
        exact hnx
theorem l_ev4 {n : Nat} {p : List Nat} (hn : n ≤ 8) (hp : IsP n p) {f : Nat → Int32} (hf : At f p) {K : Int32 → Int32 → Prop} (hK : ∀ v, K (nI (ivn p n)) v) : ∀ N a, n - a < N → a ≤ n → lp_X3_isEven_4 f (nI n) K N (nI (sm (fun i => sm (fun j => one (i < j ∧ p.getD j 0 < p.getD i 0)) n) a)) (nI a) := by
  intro N
  induction N with
  | zero => intro a h; omega
  | succ N ih =>
    intro a h1 h2
    rw [lp_X3_isEven_4]
    refine b_le (by omega) (by omega) (fun h => ?_) (fun h => ?_)
    · have : a = n := by omega
      subst this; exact hK _
    · intro x hx
      rw [show nI a + 1 = nI (a + 1) from nI_add a 1] at hx ⊢
      subst hx
      refine ⟨n + 1, ?_⟩
      have h0 : sm (fun j => one (a < j ∧ p.getD j 0 < p.getD a 0)) (a + 1) = 0 := sm_zero (fun j hj => if_neg (by omega))
      have := l_ev17 hn hp h hf (sm (fun i => sm (fun j => one (i < j ∧ p.getD j 0 < p.getD i 0)) n) a) (K := fun v_10 v_11 => lp_X3_isEven_4 f (nI n) K N v_10 (nI (a + 1))) (fun v => ih (a + 1) (by omega) (by omega)) (n + 1) (a + 1) (by omega) (by omega) (by omega)
      rw [h0, Nat.add_zero] at this
      exact this
theorem s_isEvenM {n : Nat} {p : List Nat} (hn : n ≤ 8) (hp : IsP n p) {f : Nat → Int32} (hf : At f p) {post : Int32 → Unit → Prop} (h : post (evI (ivn p n)) ()) : wp_X3_isEven (nI n) f post := by
  have hle := ivn_le p n
  have h64 : n * n ≤ 8 * 8 := Nat.mul_le_mul hn hn
  unfold wp_X3_isEven
  refine ⟨n + 1, l_ev4 hn hp hf (fun v => ?_) (n + 1) 0 (by omega) (Nat.zero_le _)⟩
  have e : nI (ivn p n) - nI (ivn p n) / 2 * 2 = nI (ivn p n % 2) := pk_rem (by omega) (by decide) (by decide)
  rw [e]
  unfold evI at h
  refine b_ne (a := ivn p n % 2) (b := 0) (by omega) (by omega) (fun q => ?_) (fun q => ?_)
  · rw [if_neg q] at h; exact h
  · rw [if_pos q] at h; exact h
theorem evI_succ (k : Nat) {A : Int32 → Prop} (h : A (evI (k + 1))) : (¬ evI k = 0 → A 0) ∧ (evI k = 0 → A 1) := by
  unfold evI at h ⊢
  rcases Nat.mod_two_eq_zero_or_one k with q | q
  · rw [if_neg (by omega)] at h
    rw [if_pos q]
    exact ⟨fun _ => h, fun z => absurd z (by decide)⟩
  · rw [if_pos (by omega)] at h
    rw [if_neg (by omega)]
    exact ⟨fun z => absurd rfl z, fun _ => h⟩
theorem l_ev15 {n b : Nat} {p : List Nat} (hn : n ≤ 8) (hp : IsP n p) (hb : b < n) {f : Nat → Int32} (hf : At f p) (S : Nat) {K : Int32 → Int32 → Prop} (hK : ∀ v, K (evI (S + sm (fun i => one (p.getD b 0 < p.getD i 0)) b)) v) : ∀ N a, b - a < N → a ≤ b → lp_X2_isEven_15 f (nI b) K N (evI (S + sm (fun i => one (p.getD b 0 < p.getD i 0)) a)) (nI a) := by
  have hlen := hp.len
  intro N
  induction N with
  | zero => intro a h; omega
  | succ N ih =>
    intro a h1 h2
    rw [lp_X2_isEven_15]
    refine b_le (by omega) (by omega) (fun h => ?_) (fun h => ?_)
    · have : a = b := by omega
      subst this; exact hK _
    · have pa := hp.lt (show a < n by omega)
      have pb := hp.lt hb
      have hst : sm (fun i => one (p.getD b 0 < p.getD i 0)) (a + 1) = sm (fun i => one (p.getD b 0 < p.getD i 0)) a + one (p.getD b 0 < p.getD a 0) := rfl
      have hnx := ih (a + 1) (by omega) (by omega)
      rw [hst] at hnx
      rw [nI_c (n := a) (by omega), nI_c (n := b) (by omega), hf a (by omega), hf b (by omega), show nI a + 1 = nI (a + 1) from nI_add a 1]
      refine ⟨vp_in_nI (by omega) (by decide), vp_in_nI (by omega) (by decide), b_le (by omega) (by omega) (fun q => ?_) (fun q => ?_)⟩
      · rw [show one (p.getD b 0 < p.getD a 0) = 0 from if_neg (by omega)] at hnx
        exact hnx
      · rw [show one (p.getD b 0 < p.getD a 0) = 1 from if_pos q] at hnx
        exact evI_succ (A := fun v => lp_X2_isEven_15 f (nI b) K N v (nI (a + 1))) _ hnx
theorem l_evC4 {n : Nat} {p : List Nat} (hn : n ≤ 8) (hp : IsP n p) {f : Nat → Int32} (hf : At f p) {K : Int32 → Int32 → Prop} (hK : ∀ v, K (evI (ivn p n)) v) : ∀ N b, n - b < N → b ≤ n → lp_X2_isEven_4 f (nI n) K N (evI (sm (fun j => sm (fun i => one (p.getD j 0 < p.getD i 0)) j) b)) (nI b) := by
  intro N
  induction N with
  | zero => intro b h; omega
  | succ N ih =>
    intro b h1 h2
    rw [lp_X2_isEven_4]
    refine b_le (by omega) (by omega) (fun h => ?_) (fun h => ?_)
    · have : b = n := by omega
      subst this
      rw [← ivn_by]
      exact hK _
    · refine ⟨n + 1, ?_⟩
      rw [show nI b + 1 = nI (b + 1) from nI_add b 1]
      exact l_ev15 hn hp h hf (sm (fun j => sm (fun i => one (p.getD j 0 < p.getD i 0)) j) b) (K := fun v_8 v_9 => lp_X2_isEven_4 f (nI n) K N v_8 (nI (b + 1))) (fun v => ih (b + 1) (by omega) (by omega)) (n + 1) 0 (by omega) (Nat.zero_le _)
theorem evI_bool (k : Nat) : narrow .boolean (.int (evI k)) = .int (evI k) := by
  unfold evI
  split <;> rfl
theorem s_isEvenC {n : Nat} {p : List Nat} (hn : n ≤ 8) (hn1 : 1 ≤ n) (hp : IsP n p) {f : Nat → Int32} (hf : At f p) {post : Int32 → Unit → Prop} (h : post (evI (ivn p n)) ()) : wp_X2_isEven (nI n) f post := by
  unfold wp_X2_isEven
  refine ⟨n + 1, ?_⟩
  have := l_evC4 hn hp hf (K := fun v_11 v_12 => narrow .boolean (.int v_11) = .int v_11 ∧ post v_11 ()) (fun v => ⟨evI_bool _, h⟩) (n + 1) 1 (by omega) hn1
  exact this
theorem evI_0 {k : Nat} : evI k = 0 ↔ k % 2 = 1 := by
  unfold evI
  rcases Nat.mod_two_eq_zero_or_one k with q | q
  · rw [if_pos q]
    exact ⟨fun z => absurd z (by decide), fun z => by omega⟩
  · rw [if_neg (by omega)]
    exact ⟨fun _ => q, fun _ => rfl⟩
