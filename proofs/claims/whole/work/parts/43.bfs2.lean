/-! what a whole search finds: in the order of depths, each from its parent, closed -/
theorem GL.uniq {n : Nat} {L : List (List Nat × Nat)} (h : GL n L) {y : List Nat} {d d' : Nat} (h1 : (y, d) ∈ L) (h2 : (y, d') ∈ L) : d = d' := by
  obtain ⟨i, hi, e1⟩ := List.mem_iff_getElem.mp h1
  obtain ⟨j, hj, e2⟩ := List.mem_iff_getElem.mp h2
  have e3 : (L.map (·.1))[i]? = (L.map (·.1))[j]? := by
    rw [List.getElem?_map, List.getElem?_map, List.getElem?_eq_getElem hi, List.getElem?_eq_getElem hj, e1, e2]; rfl
  have e4 := (List.getElem?_inj (by rw [List.length_map]; exact hi) h.2.1).mp e3
  subst e4
  rw [e1] at e2
  exact congrArg Prod.snd e2
theorem GL.P {n : Nat} {L : List (List Nat × Nat)} (h : GL n L) {y : List Nat} {d : Nat} (hy : (y, d) ∈ L) : IsP n y := h.1 _ hy
theorem vis_new {y : List Nat} {d : Nat} {L : List (List Nat × Nat)} {q : List Nat × Nat} (h : q ∈ vis y d L) : q ∈ L ∨ q = (y, d + 1) := by
  unfold vis at h
  split at h
  · exact Or.inl h
  · rcases List.mem_append.mp h with a | a
    · exact Or.inl a
    · exact Or.inr (List.mem_singleton.mp a)
theorem vis_has (y : List Nat) (d : Nat) (L : List (List Nat × Nat)) : ∃ d', (y, d') ∈ vis y d L := by
  unfold vis
  split
  · rename_i h
    obtain ⟨q, hq, e⟩ := List.mem_map.mp h
    exact ⟨q.2, by rw [← e]; exact hq⟩
  · exact ⟨d + 1, List.mem_append_right _ (List.mem_singleton.mpr rfl)⟩
theorem pre_mem {α : Type} {L L' : List α} (h : ∃ R, L' = L ++ R) {q : α} (hq : q ∈ L) : q ∈ L' := by
  obtain ⟨R, rfl⟩ := h
  exact List.mem_append_left _ hq
theorem vis_srt {y : List Nat} {d : Nat} {L : List (List Nat × Nat)} (h : L.Pairwise (fun a b => a.2 ≤ b.2)) (hd : ∀ r, r ∈ L → r.2 ≤ d + 1) : (vis y d L).Pairwise (fun a b => a.2 ≤ b.2) ∧ ∀ r, r ∈ vis y d L → r.2 ≤ d + 1 := by
  unfold vis
  split
  · exact ⟨h, hd⟩
  · refine ⟨List.pairwise_append.mpr ⟨h, List.pairwise_singleton _ _, fun a ha b hb => ?_⟩, fun r hr => ?_⟩
    · rw [List.mem_singleton] at hb
      subst hb
      exact hd a ha
    · rcases List.mem_append.mp hr with a | a
      · exact hd r a
      · rw [List.mem_singleton] at a
        subst a
        exact Nat.le_refl _
theorem exps_srt {e : Nat → List Nat → List Nat} {x : List Nat} {d : Nat} : ∀ (ms : List Nat) {L : List (List Nat × Nat)}, L.Pairwise (fun a b => a.2 ≤ b.2) → (∀ r, r ∈ L → r.2 ≤ d + 1) → (exps e x d ms L).Pairwise (fun a b => a.2 ≤ b.2) ∧ ∀ r, r ∈ exps e x d ms L → r.2 ≤ d + 1 := by
  intro ms
  induction ms with
  | nil => intro L h hd; exact ⟨h, hd⟩
  | cons m ms ih =>
    intro L h hd
    obtain ⟨h1, h2⟩ := vis_srt (y := e m x) h hd
    exact ih h1 h2
theorem exps_new {e : Nat → List Nat → List Nat} {x : List Nat} {d : Nat} : ∀ (ms : List Nat) {L : List (List Nat × Nat)} {q : List Nat × Nat}, q ∈ exps e x d ms L → q ∈ L ∨ ∃ m, m ∈ ms ∧ q = (e m x, d + 1) := by
  intro ms
  induction ms with
  | nil => intro L q h; exact Or.inl h
  | cons m ms ih =>
    intro L q h
    rcases ih (L := vis (e m x) d L) h with a | ⟨m', a, b⟩
    · rcases vis_new a with a | a
      · exact Or.inl a
      · exact Or.inr ⟨m, List.mem_cons_self, a⟩
    · exact Or.inr ⟨m', List.mem_cons_of_mem _ a, b⟩
theorem exps_has {e : Nat → List Nat → List Nat} {x : List Nat} {d : Nat} : ∀ (ms : List Nat) {L : List (List Nat × Nat)} {m : Nat}, m ∈ ms → ∃ d', (e m x, d') ∈ exps e x d ms L := by
  intro ms
  induction ms with
  | nil => intro L m h; cases h
  | cons a ms ih =>
    intro L m h
    rcases List.mem_cons.mp h with rfl | h
    · obtain ⟨d', h1⟩ := vis_has (e m x) d L
      exact ⟨d', pre_mem (exps_pre e x d ms _) h1⟩
    · exact ih (L := vis (e a x) d L) h
/-- what holds of the list when k of it are gone through -/
def Bf (e : Nat → List Nat → List Nat) (ms : List Nat) (L0 L : List (List Nat × Nat)) (k : Nat) : Prop :=
  L.Pairwise (fun a b => a.2 ≤ b.2) ∧ (∀ q, L[k]? = some q → ∀ r, r ∈ L → r.2 ≤ q.2 + 1) ∧ (∀ q, q ∈ L → q ∈ L0 ∨ ∃ x d m, (x, d) ∈ L ∧ m ∈ ms ∧ q = (e m x, d + 1)) ∧ ∀ i x d, i < k → L[i]? = some (x, d) → ∀ m, m ∈ ms → ∃ d', d' ≤ d + 1 ∧ (e m x, d') ∈ L
theorem Bf.zero {e : Nat → List Nat → List Nat} {ms : List Nat} {L0 : List (List Nat × Nat)} (h0 : ∀ q, q ∈ L0 → q.2 = 0) : Bf e ms L0 L0 0 := by
  refine ⟨?_, fun q hq r hr => ?_, fun q hq => Or.inl hq, fun i x d hi => by omega⟩
  · exact List.pairwise_of_forall_mem_list (fun a ha b hb => by rw [h0 a ha]; exact Nat.zero_le _)
  · rw [h0 r hr]; omega
theorem Bf.step {e : Nat → List Nat → List Nat} {ms : List Nat} {L0 L : List (List Nat × Nat)} {k : Nat} {x : List Nat} {d : Nat} (h : Bf e ms L0 L k) (hk : L[k]? = some (x, d)) : Bf e ms L0 (exps e x d ms L) (k + 1) := by
  obtain ⟨h1, h2, h3, h4⟩ := h
  have hx : (x, d) ∈ L := List.mem_of_getElem? hk
  obtain ⟨s1, s2⟩ := exps_srt (e := e) (x := x) ms h1 (h2 _ hk)
  have hp := exps_pre e x d ms L
  refine ⟨s1, fun q hq r hr => ?_, fun q hq => ?_, fun i y c hi hy m hm => ?_⟩
  · have h5 := s2 r hr
    have h6 : d ≤ q.2 := by
      have h7 := pre_get hp hk
      obtain ⟨a1, a2⟩ := List.getElem?_eq_some_iff.mp h7
      obtain ⟨b1, b2⟩ := List.getElem?_eq_some_iff.mp hq
      have := List.pairwise_iff_getElem.mp s1 k (k + 1) a1 b1 (by omega)
      rw [a2, b2] at this
      exact this
    omega
  · rcases exps_new ms hq with a | ⟨m, a, b⟩
    · rcases h3 q a with c | ⟨x', d', m, c1, c2, c3⟩
      · exact Or.inl c
      · exact Or.inr ⟨x', d', m, pre_mem hp c1, c2, c3⟩
    · exact Or.inr ⟨x, d, m, pre_mem hp hx, a, b⟩
  · by_cases q : i = k
    · subst q
      have h7 := pre_get hp hk
      rw [h7] at hy
      cases hy
      obtain ⟨d', h8⟩ := exps_has (e := e) (x := x) (d := d) ms (L := L) hm
      exact ⟨d', s2 _ h8, h8⟩
    · have hik : i < k := by omega
      have hil : i < L.length := by
        have := (List.getElem?_eq_some_iff.mp hk).1
        omega
      obtain ⟨R, hR⟩ := hp
      rw [hR, List.getElem?_append_left hil] at hy
      obtain ⟨d', h8, h9⟩ := h4 i y c hik hy m hm
      exact ⟨d', h8, by rw [hR]; exact List.mem_append_left _ h9⟩
theorem bf_inv {e : Nat → List Nat → List Nat} {ms : List Nat} {L0 : List (List Nat × Nat)} (h0 : ∀ q, q ∈ L0 → q.2 = 0) : ∀ k, Bf e ms L0 (bf e ms L0 k) k := by
  intro k
  induction k with
  | zero => exact Bf.zero h0
  | succ k ih =>
    cases hq : (bf e ms L0 k)[k]? with
    | some q => rw [bf_step hq]; exact ih.step hq
    | none =>
      have hb : bf e ms L0 (k + 1) = bf e ms L0 k := by rw [bf, hq]
      rw [hb]
      obtain ⟨h1, h2, h3, h4⟩ := ih
      have hl : (bf e ms L0 k).length ≤ k := List.getElem?_eq_none_iff.mp hq
      refine ⟨h1, fun q hq' => ?_, h3, fun i x d hi hx => ?_⟩
      · rw [List.getElem?_eq_none (by omega)] at hq'; cases hq'
      · have := (List.getElem?_eq_some_iff.mp hx).1
        exact h4 i x d (by omega) hx
theorem bf_GL {n : Nat} {e : Nat → List Nat → List Nat} {ms : List Nat} {L0 : List (List Nat × Nat)} (hL : GL n L0) (he : ∀ m, m ∈ ms → ∀ p, IsP n p → IsP n (e m p)) : ∀ k, GL n (bf e ms L0 k) := by
  intro k
  induction k with
  | zero => exact hL
  | succ k ih =>
    cases hq : (bf e ms L0 k)[k]? with
    | none =>
      have hb : bf e ms L0 (k + 1) = bf e ms L0 k := by rw [bf, hq]
      rw [hb]; exact ih
    | some q =>
      rw [bf_step hq]
      have h1 := (List.getElem?_eq_some_iff.mp hq).1
      exact exps_GL (fun m hm => he m hm _ (ih.1 q (List.mem_of_getElem? hq))) ih (Nat.lt_of_le_of_lt (ih.2.2 k q hq) h1)
theorem bf_pres (e : Nat → List Nat → List Nat) (ms : List Nat) (L0 : List (List Nat × Nat)) (k j : Nat) : ∃ R, bf e ms L0 (k + j) = bf e ms L0 k ++ R := by
  induction j with
  | zero => exact ⟨[], (List.append_nil _).symm⟩
  | succ j ih =>
    obtain ⟨R, hR⟩ := ih
    obtain ⟨R2, hR2⟩ := bf_pre e ms L0 (k + j)
    exact ⟨R ++ R2, by rw [← Nat.add_assoc, hR2, hR, List.append_assoc]⟩
/-- a whole search, closed -/
def Wh (n : Nat) (e : Nat → List Nat → List Nat) (ms : List Nat) (L0 L : List (List Nat × Nat)) : Prop :=
  GL n L ∧ L.Pairwise (fun a b => a.2 ≤ b.2) ∧ (∀ q, q ∈ L → q ∈ L0 ∨ ∃ x d m, (x, d) ∈ L ∧ m ∈ ms ∧ q = (e m x, d + 1)) ∧ (∀ x d, (x, d) ∈ L → ∀ m, m ∈ ms → ∃ d', d' ≤ d + 1 ∧ (e m x, d') ∈ L) ∧ ∃ R, L = L0 ++ R
theorem whl_Wh {n : Nat} {e : Nat → List Nat → List Nat} {ms : List Nat} {L0 : List (List Nat × Nat)} (hL : GL n L0) (h0 : ∀ q, q ∈ L0 → q.2 = 0) (he : ∀ m, m ∈ ms → ∀ p, IsP n p → IsP n (e m p)) : Wh n e ms L0 (whl n e ms L0) := by
  have hG := bf_GL hL he (fac n)
  obtain ⟨h1, h2, h3, h4⟩ := bf_inv (e := e) (ms := ms) h0 (fac n)
  refine ⟨hG, h1, h3, fun x d hx m hm => ?_, ?_⟩
  · obtain ⟨i, hi, hxi⟩ := List.mem_iff_getElem.mp (show (x, d) ∈ bf e ms L0 (fac n) from hx)
    have hl := hG.len
    exact h4 i x d (Nat.lt_of_lt_of_le hi hl) (by rw [List.getElem?_eq_getElem hi]; exact congrArg some hxi) m hm
  · have := bf_pres e ms L0 0 (fac n)
    rw [Nat.zero_add] at this
    exact this
theorem Wh.zero {n : Nat} {e : Nat → List Nat → List Nat} {ms : List Nat} {L0 L : List (List Nat × Nat)} (h : Wh n e ms L0 L) {x : List Nat} (hx : (x, 0) ∈ L) : (x, 0) ∈ L0 := by
  rcases h.2.2.1 _ hx with a | ⟨y, d, m, _, _, c⟩
  · exact a
  · have := congrArg Prod.snd c
    simp at this
theorem Wh.par {n : Nat} {e : Nat → List Nat → List Nat} {ms : List Nat} {L0 L : List (List Nat × Nat)} (h0 : ∀ q, q ∈ L0 → q.2 = 0) (h : Wh n e ms L0 L) {y : List Nat} {d : Nat} (hy : (y, d + 1) ∈ L) : ∃ x m, (x, d) ∈ L ∧ m ∈ ms ∧ y = e m x := by
  rcases h.2.2.1 _ hy with a | ⟨x, c, m, h1, h2, h3⟩
  · have := h0 _ a
    simp at this
  · have e1 := congrArg Prod.fst h3
    have e2 := congrArg Prod.snd h3
    have e3 : c = d := by
      have : d + 1 = c + 1 := e2
      omega
    subst e3
    exact ⟨x, m, h1, h2, e1⟩
theorem GL.one {n : Nat} {x : List Nat} (hx : IsP n x) : GL n [(x, 0)] := by
  refine ⟨fun q hq => ?_, ?_, fun i q hq => ?_⟩
  · rw [List.mem_singleton] at hq; subst hq; exact hx
  · simp
  · have hi := (List.getElem?_eq_some_iff.mp hq).1
    have h0 : i = 0 := by simpa using hi
    subst h0
    cases hq
    exact Nat.le_refl _
