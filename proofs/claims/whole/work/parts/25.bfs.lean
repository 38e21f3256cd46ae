/-! the search: arrangements in the order in which they are found, each with its depth -/
def vis (y : List Nat) (d : Nat) (L : List (List Nat × Nat)) : List (List Nat × Nat) := if y ∈ L.map (·.1) then L else L ++ [(y, d + 1)]
def exps (e : Nat → List Nat → List Nat) (x : List Nat) (d : Nat) (ms : List Nat) (L : List (List Nat × Nat)) : List (List Nat × Nat) := ms.foldl (fun L m => vis (e m x) d L) L
def bf (e : Nat → List Nat → List Nat) (ms : List Nat) (L0 : List (List Nat × Nat)) : Nat → List (List Nat × Nat)
  | 0 => L0
  | k + 1 => match (bf e ms L0 k)[k]? with
    | none => bf e ms L0 k
    | some q => exps e q.1 q.2 ms (bf e ms L0 k)
/-- the moves of a mask, in their order -/
def mvs (mask M : Nat) : List Nat := (List.range M).filter (fun m => mask.testBit m)
theorem mvs_succ (mask M : Nat) : mvs mask (M + 1) = mvs mask M ++ (if mask.testBit M = true then [M] else []) := by
  unfold mvs
  rw [List.range_succ, List.filter_append]
  by_cases h : mask.testBit M = true <;> simp [h]
theorem mvs_mem {mask M m : Nat} : m ∈ mvs mask M ↔ m < M ∧ mask.testBit m = true := by simp [mvs]
theorem mvs_more {mask M : Nat} (h : mask < 2 ^ M) (j : Nat) : mvs mask (M + j) = mvs mask M := by
  induction j with
  | zero => rfl
  | succ j ih =>
    rw [← Nat.add_assoc, mvs_succ, ih]
    have : mask.testBit (M + j) = false := Nat.testBit_lt_two_pow (Nat.lt_of_lt_of_le h (Nat.pow_le_pow_right (by decide) (by omega)))
    simp [this]
theorem exps_nil (e : Nat → List Nat → List Nat) (x : List Nat) (d : Nat) (L : List (List Nat × Nat)) : exps e x d [] L = L := rfl
theorem exps_app (e : Nat → List Nat → List Nat) (x : List Nat) (d : Nat) (a b : List Nat) (L : List (List Nat × Nat)) : exps e x d (a ++ b) L = exps e x d b (exps e x d a L) := List.foldl_append
theorem exps_one (e : Nat → List Nat → List Nat) (x : List Nat) (d m : Nat) (L : List (List Nat × Nat)) : exps e x d [m] L = vis (e m x) d L := rfl
/-- a list of the search: arrangements, none twice, no deeper than its place -/
def GL (n : Nat) (L : List (List Nat × Nat)) : Prop := (∀ q, q ∈ L → IsP n q.1) ∧ (L.map (·.1)).Nodup ∧ ∀ (i : Nat) (q : List Nat × Nat), L[i]? = some q → q.2 ≤ i
theorem GL.len {n : Nat} {L : List (List Nat × Nat)} (h : GL n L) : L.length ≤ fac n := by
  have h1 : (L.map (fun q => rank q.1)).Nodup := by
    have h2 := h.2.1
    rw [List.nodup_iff_pairwise_ne, List.pairwise_map] at h2 ⊢
    exact h2.imp_of_mem (fun {a b} ha hb hne e => hne (rank_injP (h.1 a ha) (h.1 b hb) e))
  have h3 := h1.length_le_of_subset (l₂ := List.range (fac n)) (fun x hx => by
    obtain ⟨q, hq, rfl⟩ := List.mem_map.mp hx
    exact List.mem_range.mpr (rank_ltP (h.1 q hq)))
  rwa [List.length_map, List.length_range] at h3
theorem GL.add {n : Nat} {L : List (List Nat × Nat)} (h : GL n L) {y : List Nat} (hy : IsP n y) (hn : y ∉ L.map (·.1)) {d : Nat} (hd : d < L.length) : GL n (L ++ [(y, d + 1)]) := by
  refine ⟨fun q hq => ?_, ?_, fun i q hq => ?_⟩
  · rcases List.mem_append.mp hq with a | a
    · exact h.1 q a
    · rw [List.mem_singleton] at a; subst a; exact hy
  · rw [List.map_append, List.nodup_append]
    refine ⟨h.2.1, by simp, fun a ha b hb => ?_⟩
    simp at hb
    subst hb
    intro e; subst e; exact hn ha
  · by_cases q' : i < L.length
    · rw [List.getElem?_append_left q'] at hq
      exact h.2.2 i q hq
    · rw [List.getElem?_append_right (by omega)] at hq
      have hz : i - L.length < 1 := (List.getElem?_eq_some_iff.mp hq).1
      have h0 : i - L.length = 0 := by omega
      rw [h0] at hq
      cases hq
      show d + 1 ≤ i
      omega
theorem GL.visP {n : Nat} {L : List (List Nat × Nat)} (h : GL n L) {y : List Nat} (hy : IsP n y) {d : Nat} (hd : d < L.length) : GL n (vis y d L) := by
  unfold vis
  split
  · exact h
  · exact h.add hy (by assumption) hd
