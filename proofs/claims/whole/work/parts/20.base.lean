/-! plain facts: loops by a bound, small numbers, lists of places -/
/-- a loop that counts up to n, by its invariant -/
theorem up_rule {α : Type} (L : Nat → Int32 → α → Prop) (n : Nat) (I : Nat → α → Prop) (exit : ∀ N a, I n a → L (N + 1) (nI n) a) (step : ∀ N k a, k < n → I k a → (∀ a', I (k + 1) a' → L N (nI (k + 1)) a') → L (N + 1) (nI k) a) : ∀ N k a, n - k < N → k ≤ n → I k a → L N (nI k) a := by
  intro N
  induction N with
  | zero => intro k a h; omega
  | succ N ih =>
    intro k a h1 h2 h3
    rcases Nat.lt_or_ge k n with h | h
    · exact step N k a h h3 (fun a' h' => ih (k + 1) a' (by omega) (by omega) h')
    · have : k = n := by omega
      subst this
      exact exit N a h3
theorem up_ex {α : Type} (L : Nat → Int32 → α → Prop) (n : Nat) (I : Nat → α → Prop) (a : α) (h0 : I 0 a) (exit : ∀ N a, I n a → L (N + 1) (nI n) a) (step : ∀ N k a, k < n → I k a → (∀ a', I (k + 1) a' → L N (nI (k + 1)) a') → L (N + 1) (nI k) a) : ∃ N, L N 0 a :=
  ⟨n + 1, up_rule L n I exit step (n + 1) 0 a (by omega) (Nat.zero_le n) h0⟩
/-- a loop by a measure -/
theorem wh_rule {α : Type} (L : Nat → α → Prop) (I : α → Prop) (μ : α → Nat) (step : ∀ N a, I a → (∀ a', I a' → μ a' < μ a → L N a') → L (N + 1) a) : ∀ n a, μ a < n → I a → L n a := by
  intro n
  induction n with
  | zero => intro a h; omega
  | succ n ih => intro a h hI; exact step n a hI (fun a' h' hm => ih a' (by omega) h')
theorem wh_ex {α : Type} (L : Nat → α → Prop) (I : α → Prop) (μ : α → Nat) (a : α) (h0 : I a) (step : ∀ N a, I a → (∀ a', I a' → μ a' < μ a → L N a') → L (N + 1) a) : ∃ N, L N a := ⟨μ a + 1, wh_rule L I μ step (μ a + 1) a (by omega) h0⟩
theorem nI_c {n : Nat} (h : n < 2 ^ 31) : (nI n).toNatClampNeg = n := nI_clamp h
/-- branches on small numbers -/
theorem b_le {a b : Nat} {A B : Prop} (ha : a < 2 ^ 31) (hb : b < 2 ^ 31) (f : a ≤ b → A) (g : b < a → B) : (nI a ≤ nI b → A) ∧ (¬ nI a ≤ nI b → B) :=
  ⟨fun h => f ((nI_leI ha hb).mp h), fun h => g (Nat.lt_of_not_le fun q => h ((nI_leI ha hb).mpr q))⟩
theorem b_lt {a b : Nat} {A B : Prop} (ha : a < 2 ^ 31) (hb : b < 2 ^ 31) (f : a < b → A) (g : b ≤ a → B) : (nI a < nI b → A) ∧ (¬ nI a < nI b → B) :=
  ⟨fun h => f ((nI_ltI ha hb).mp h), fun h => g (Nat.le_of_not_lt fun q => h ((nI_ltI ha hb).mpr q))⟩
theorem b_eq {a b : Nat} {A B : Prop} (ha : a < 2 ^ 31) (hb : b < 2 ^ 31) (f : a = b → A) (g : a ≠ b → B) : (nI a = nI b → A) ∧ (¬ nI a = nI b → B) :=
  ⟨fun h => f ((nI_eq ha hb).mp h), fun h => g (fun q => h ((nI_eq ha hb).mpr q))⟩
theorem b_ne {a b : Nat} {A B : Prop} (ha : a < 2 ^ 31) (hb : b < 2 ^ 31) (f : a ≠ b → A) (g : a = b → B) : (¬ nI a = nI b → A) ∧ (nI a = nI b → B) :=
  ⟨fun h => f (fun q => h ((nI_eq ha hb).mpr q)), fun h => g ((nI_eq ha hb).mp h)⟩
theorem b_nat {x : Int32} {n : Nat} (h0 : 0 ≤ x) (hn : n < 2 ^ 31) (h : x < nI n) : ∃ j, j < n ∧ x = nI j := by
  rcases pk_ix x hn with h1 | h1 | h1
  · exact absurd (Int32.lt_of_lt_of_le h1 h0) (Int32.lt_irrefl)
  · exact absurd (Int32.lt_of_lt_of_le h h1) (Int32.lt_irrefl)
  · exact h1
/-- a small int, or none of the first n -/
theorem b_ix (x : Int32) (n : Nat) (hn : n < 2 ^ 31) : (∃ j, j < n ∧ x = nI j) ∨ (∀ j, j < n → x ≠ nI j) := by
  by_cases h : ∃ j, j < n ∧ x = nI j
  · exact Or.inl h
  · exact Or.inr fun j hj e => h ⟨j, hj, e⟩
theorem b_out {x : Int32} {n : Nat} (hn : n < 2 ^ 31) (h : ∀ j, j < n → x ≠ nI j) : x < 0 ∨ nI n ≤ x := by
  rcases pk_ix x hn with h1 | h1 | ⟨j, hj, e⟩
  · exact Or.inl h1
  · exact Or.inr h1
  · exact absurd e (h j hj)
/-! contents of an array, as a list -/
/-- the array holds the list from its first place on -/
def At (f : Nat → Int32) (p : List Nat) : Prop := ∀ j, j < p.length → f j = nI (p.getD j 0)
theorem At.get {f : Nat → Int32} {p : List Nat} (h : At f p) {j : Nat} (hj : j < p.length) : f j = nI (p.getD j 0) := h j hj
theorem At.put {f : Nat → Int32} {p : List Nat} (h : At f p) {i x : Nat} : At (upd f i (nI x)) (p.set i x) := by
  intro j hj
  rw [List.length_set] at hj
  by_cases e : j = i
  · subst e
    simp [upd, List.getD_eq_getElem?_getD, hj]
  · rw [show upd f i (nI x) j = f j from if_neg e, h j hj]
    simp [List.getD_eq_getElem?_getD, List.getElem?_set, Ne.symm e]
theorem getD_mem {p : List Nat} {j : Nat} (h : j < p.length) : p.getD j 0 ∈ p := by
  rw [List.getD_eq_getElem?_getD, List.getElem?_eq_getElem h]
  exact List.getElem_mem h
theorem getD_of {p : List Nat} {j : Nat} (h : j < p.length) : p.getD j 0 = p[j] := by
  rw [List.getD_eq_getElem?_getD, List.getElem?_eq_getElem h]; rfl
theorem getD_map {α : Type} (f : Nat → Nat) (p : List Nat) {j : Nat} (h : j < p.length) : (p.map f).getD j 0 = f (p.getD j 0) := by
  rw [getD_of (by rw [List.length_map]; exact h), getD_of h, List.getElem_map]
theorem getD_range {n j : Nat} (h : j < n) : (List.range n).getD j 0 = j := by
  rw [getD_of (by rw [List.length_range]; exact h), List.getElem_range]
theorem getD_ext {p q : List Nat} (hl : p.length = q.length) (h : ∀ j, j < p.length → p.getD j 0 = q.getD j 0) : p = q := by
  refine List.ext_getElem hl (fun j h1 h2 => ?_)
  have := h j h1
  rwa [getD_of h1, getD_of h2] at this
/-! arrangements of n things -/
def IsP (n : Nat) (p : List Nat) : Prop := p.Perm (List.range n)
theorem IsP.len {n : Nat} {p : List Nat} (h : IsP n p) : p.length = n := by rw [h.length_eq, List.length_range]
theorem IsP.nodup {n : Nat} {p : List Nat} (h : IsP n p) : p.Nodup := h.nodup_iff.mpr List.nodup_range
theorem IsP.mem {n : Nat} {p : List Nat} (h : IsP n p) {x : Nat} : x ∈ p ↔ x < n := by rw [h.mem_iff, List.mem_range]
theorem IsP.lt {n : Nat} {p : List Nat} (h : IsP n p) {j : Nat} (hj : j < n) : p.getD j 0 < n := h.mem.mp (getD_mem (by rw [h.len]; exact hj))
theorem IsP.inj {n : Nat} {p : List Nat} (h : IsP n p) {i j : Nat} (hi : i < n) (hj : j < n) (e : p.getD i 0 = p.getD j 0) : i = j := by
  have hi' : i < p.length := by rw [h.len]; exact hi
  have hj' : j < p.length := by rw [h.len]; exact hj
  rw [getD_of hi', getD_of hj'] at e
  exact (List.getElem?_inj hi' h.nodup).mp (by rw [List.getElem?_eq_getElem hi', List.getElem?_eq_getElem hj', e])
theorem IsP.of {n : Nat} {p : List Nat} (hl : p.length = n) (hn : p.Nodup) (hm : ∀ x, x ∈ p → x < n) : IsP n p := by
  refine (List.perm_ext_iff_of_nodup hn List.nodup_range).mpr fun a => ⟨fun h => List.mem_range.mpr (hm a h), fun h => ?_⟩
  by_cases q : a ∈ p
  · exact q
  · have h1 : (a :: p).Nodup := List.nodup_cons.mpr ⟨q, hn⟩
    have h2 := h1.length_le_of_subset (l₂ := List.range n) (fun x hx => by
      rcases List.mem_cons.mp hx with rfl | hx
      · exact h
      · exact List.mem_range.mpr (hm x hx))
    rw [List.length_cons, List.length_range] at h2
    omega
theorem IsP.id (n : Nat) : IsP n (List.range n) := List.Perm.refl _
/-- a turn's sources, taken by an arrangement -/
def act (s p : List Nat) : List Nat := s.map (fun j => p.getD j 0)
theorem act_len (s p : List Nat) : (act s p).length = s.length := List.length_map _
theorem act_get {s p : List Nat} {j : Nat} (h : j < s.length) : (act s p).getD j 0 = p.getD (s.getD j 0) 0 := getD_map (α := Nat) _ s h
theorem act_range {n : Nat} {p : List Nat} (h : p.length = n) : act (List.range n) p = p := by
  refine getD_ext (by rw [act_len, List.length_range, h]) fun j hj => ?_
  rw [act_len] at hj
  rw [act_get hj, getD_range (by rw [List.length_range] at hj; exact hj)]
theorem IsP.actP {n : Nat} {s p : List Nat} (hs : IsP n s) (hp : IsP n p) : IsP n (act s p) := by
  have h1 : (act s p).Perm (act (List.range n) p) := List.Perm.map _ hs
  rw [act_range hp.len] at h1
  exact h1.trans hp
theorem act_act {n : Nat} {s u p : List Nat} (hs : IsP n s) (hu : u.length = n) : act s (act u p) = act (act s u) p := by
  refine getD_ext (by simp [act_len]) fun j hj => ?_
  rw [act_len] at hj
  have h1 : s.getD j 0 < n := hs.mem.mp (getD_mem hj)
  rw [act_get hj, act_get (by rw [hu]; exact h1), act_get (by rw [act_len]; exact hj), act_get hj]
/-- the arrangement back: at each tile its place -/
def inv (p : List Nat) : List Nat := (List.range p.length).map (fun t => p.idxOf t)
theorem inv_len (p : List Nat) : (inv p).length = p.length := by simp [inv]
theorem inv_get {p : List Nat} {t : Nat} (h : t < p.length) : (inv p).getD t 0 = p.idxOf t := by
  rw [inv, getD_map (α := Nat) _ _ (by rw [List.length_range]; exact h), getD_range h]
theorem IsP.inv_at {n : Nat} {p : List Nat} (h : IsP n p) {j : Nat} (hj : j < n) : (inv p).getD (p.getD j 0) 0 = j := by
  have h1 : j < p.length := by rw [h.len]; exact hj
  rw [inv_get (by rw [h.len]; exact h.lt hj), getD_of h1, h.nodup.idxOf_getElem j h1]
theorem IsP.at_inv {n : Nat} {p : List Nat} (h : IsP n p) {t : Nat} (ht : t < n) : p.getD ((inv p).getD t 0) 0 = t := by
  have h1 : t ∈ p := h.mem.mpr ht
  have h2 : p.idxOf t < p.length := List.idxOf_lt_length_of_mem h1
  rw [inv_get (by rw [h.len]; exact ht), getD_of h2]
  exact List.getElem_idxOf h2
theorem IsP.invP {n : Nat} {p : List Nat} (h : IsP n p) : IsP n (inv p) := by
  refine IsP.of (by rw [inv_len, h.len]) ?_ ?_
  · refine List.nodup_iff_pairwise_ne.mpr ?_
    rw [List.pairwise_iff_getElem]
    intro i j hi hj hij e
    rw [inv_len, h.len] at hi hj
    have e2 : (inv p).getD i 0 = (inv p).getD j 0 := by
      rw [getD_of (by rw [inv_len, h.len]; exact hi), getD_of (by rw [inv_len, h.len]; exact hj)]; exact e
    have e3 := h.at_inv hi
    rw [e2, h.at_inv hj] at e3
    omega
  · intro x hx
    obtain ⟨t, ht, rfl⟩ := List.mem_map.mp hx
    rw [List.mem_range, h.len] at ht
    have h2 : p.idxOf t < p.length := List.idxOf_lt_length_of_mem (h.mem.mpr ht)
    rw [h.len] at h2
    exact h2
theorem IsP.invInv {n : Nat} {p : List Nat} (h : IsP n p) : inv (inv p) = p := by
  refine getD_ext (by simp [inv_len]) fun j hj => ?_
  rw [inv_len, inv_len, h.len] at hj
  have h1 := h.invP.inv_at (h.lt hj)
  rw [h.inv_at hj] at h1
  exact h1
theorem act_inv {n : Nat} {s p : List Nat} (hs : IsP n s) (hp : IsP n p) : act (inv s) (act s p) = p := by
  refine getD_ext (by rw [act_len, inv_len, hs.len, hp.len]) fun j hj => ?_
  rw [act_len, inv_len, hs.len] at hj
  rw [act_get (by rw [inv_len, hs.len]; exact hj), act_get (by rw [hs.len]; exact hs.invP.lt hj), hs.at_inv hj]
theorem inv_act {n : Nat} {s p : List Nat} (hs : IsP n s) (hp : IsP n p) : act s (act (inv s) p) = p := by
  have h := act_inv hs.invP hp
  rwa [hs.invInv] at h
