/-! the number of an arrangement among all of them -/
def fac : Nat → Nat
  | 0 => 1
  | n + 1 => (n + 1) * fac n
theorem fac_pos : ∀ n, 0 < fac n
  | 0 => Nat.one_pos
  | n + 1 => Nat.mul_pos (Nat.succ_pos n) (fac_pos n)
theorem fac_le {n : Nat} (h : n ≤ 8) : fac n ≤ 40320 := by
  rcases (show n = 0 ∨ n = 1 ∨ n = 2 ∨ n = 3 ∨ n = 4 ∨ n = 5 ∨ n = 6 ∨ n = 7 ∨ n = 8 by omega) with rfl | rfl | rfl | rfl | rfl | rfl | rfl | rfl | rfl <;> decide
/-- how many of l are less than x -/
def less (x : Nat) (l : List Nat) : Nat := l.countP (fun y => decide (y < x))
theorem less_le (x : Nat) (l : List Nat) : less x l ≤ l.length := List.countP_le_length
def rank : List Nat → Nat
  | [] => 0
  | x :: l => less x l * fac l.length + rank l
theorem rank_lt : ∀ l : List Nat, rank l < fac l.length
  | [] => Nat.one_pos
  | x :: l => by
    have h1 := rank_lt l
    have h2 : less x l * fac l.length ≤ l.length * fac l.length := Nat.mul_le_mul_right _ (less_le x l)
    show less x l * fac l.length + rank l < (l.length + 1) * fac l.length
    rw [Nat.succ_mul]
    omega
theorem less_perm {x : Nat} {l l' : List Nat} (h : l.Perm l') : less x l = less x l' := h.countP_eq _
theorem less_mono {x y : Nat} (l : List Nat) (h : x < y) (hx : x ∈ l) : less x l < less y l := by
  induction l with
  | nil => cases hx
  | cons a t ih =>
    have hm : less x t ≤ less y t := List.countP_mono_left (fun z _ hz => by simp only [decide_eq_true_eq] at hz ⊢; omega)
    unfold less at hm ⊢
    rw [List.countP_cons, List.countP_cons]
    rcases List.mem_cons.mp hx with e | hx
    · subst e
      have h1 : decide (x < x) = false := by simp
      have h2 : decide (x < y) = true := by simpa using h
      rw [h1, h2]
      simp only [Bool.false_eq_true, if_false, if_true]
      omega
    · have := ih hx
      unfold less at this
      by_cases q : a < x
      · have h1 : decide (a < x) = true := by simpa using q
        have h2 : decide (a < y) = true := by simp; omega
        rw [h1, h2]; simp only [if_true]; omega
      · have h1 : decide (a < x) = false := by simpa using q
        rw [h1]; simp only [Bool.false_eq_true, if_false]; split <;> omega
theorem rank_inj : ∀ (l l' : List Nat), l.Perm l' → l.Nodup → rank l = rank l' → l = l'
  | [], l', h, _, _ => by rw [List.nil_perm.mp h]
  | x :: l, l', h, hn, e => by
    cases l' with
    | nil => exact absurd (List.perm_nil.mp h) (by simp)
    | cons y t =>
      have hl : l.length = t.length := by have := h.length_eq; simpa using this
      have h1 : rank l < fac l.length := rank_lt l
      have h2 : rank t < fac l.length := by rw [hl]; exact rank_lt t
      have e1 : less x l * fac l.length + rank l = less y t * fac l.length + rank t := by
        have : rank (x :: l) = rank (y :: t) := e
        rw [rank, rank, ← hl] at this
        exact this
      have e2 : less x l = less y t := by
        have a1 : (less x l * fac l.length + rank l) / fac l.length = less x l := by
          rw [Nat.add_comm, Nat.add_mul_div_right _ _ (fac_pos _), Nat.div_eq_of_lt h1, Nat.zero_add]
        have a2 : (less y t * fac l.length + rank t) / fac l.length = less y t := by
          rw [Nat.add_comm, Nat.add_mul_div_right _ _ (fac_pos _), Nat.div_eq_of_lt h2, Nat.zero_add]
        rw [← a1, e1, a2]
      have e3 : less x (x :: l) = less y (x :: l) := by
        have b1 : less x (x :: l) = less x l := by unfold less; rw [List.countP_cons]; simp
        have b2 : less y (y :: t) = less y t := by unfold less; rw [List.countP_cons]; simp
        rw [b1, e2, ← b2]
        exact (less_perm h).symm
      have hxy : x = y := by
        rcases Nat.lt_trichotomy x y with q | q | q
        · exact absurd e3 (Nat.ne_of_lt (less_mono _ q List.mem_cons_self))
        · exact q
        · exact absurd e3.symm (Nat.ne_of_lt (less_mono _ q (h.mem_iff.mpr List.mem_cons_self)))
      subst hxy
      have hp : l.Perm t := List.Perm.cons_inv h
      have hr : rank l = rank t := by rw [e2] at e1; omega
      rw [rank_inj l t hp (List.nodup_cons.mp hn).2 hr]
theorem rank_injP {n : Nat} {p q : List Nat} (hp : IsP n p) (hq : IsP n q) (h : rank p = rank q) : p = q := rank_inj p q (hp.trans hq.symm) hp.nodup h
theorem rank_ltP {n : Nat} {p : List Nat} (hp : IsP n p) : rank p < fac n := by have := rank_lt p; rwa [hp.len] at this
theorem rank_range' : ∀ n s : Nat, rank (List.range' s n) = 0
  | 0, _ => rfl
  | n + 1, s => by
    rw [List.range'_succ, rank, rank_range' n (s + 1), Nat.add_zero]
    have : less s (List.range' (s + 1) n) = 0 := by
      unfold less
      rw [List.countP_eq_zero]
      intro a ha
      rw [List.mem_range'_1] at ha
      simp
      omega
    rw [this, Nat.zero_mul]
theorem rank_range (n : Nat) : rank (List.range n) = 0 := by rw [List.range_eq_range']; exact rank_range' n 0
/-- from a place on: the digit there, and the rest -/
theorem rank_drop {p : List Nat} {k : Nat} (h : k < p.length) : rank (p.drop k) = less (p.getD k 0) (p.drop (k + 1)) * fac (p.length - (k + 1)) + rank (p.drop (k + 1)) := by
  rw [List.drop_eq_getElem_cons h, rank, getD_of h, List.length_drop]
/-- how many numbers below x are none of the first k -/
theorem less_free {n : Nat} {p : List Nat} (hp : IsP n p) {k : Nat} (hk : k < n) : (List.range (p.getD k 0)).countP (fun u => decide (u ∉ p.take k)) = less (p.getD k 0) (p.drop (k + 1)) := by
  have hk' : k < p.length := by rw [hp.len]; exact hk
  have hn := hp.nodup
  have hsp : p.take k ++ p.getD k 0 :: p.drop (k + 1) = p := by
    rw [getD_of hk', ← List.drop_eq_getElem_cons hk', List.take_append_drop]
  have hn2 : (p.take k ++ p.getD k 0 :: p.drop (k + 1)).Nodup := by rw [hsp]; exact hn
  rw [List.nodup_append] at hn2
  obtain ⟨-, h2, h3⟩ := hn2
  rw [List.nodup_cons] at h2
  unfold less
  rw [List.countP_eq_length_filter, List.countP_eq_length_filter]
  refine List.Perm.length_eq ((List.perm_ext_iff_of_nodup (List.nodup_range.filter _) (h2.2.filter _)).mpr fun a => ?_)
  simp only [List.mem_filter, List.mem_range, decide_eq_true_eq]
  constructor
  · rintro ⟨h4, h5⟩
    refine ⟨?_, h4⟩
    have h6 : a ∈ p := hp.mem.mpr (Nat.lt_trans h4 (hp.lt hk))
    rw [← hsp] at h6
    rcases List.mem_append.mp h6 with h7 | h7
    · exact absurd h7 h5
    · rcases List.mem_cons.mp h7 with h8 | h8
      · omega
      · exact h8
  · rintro ⟨h4, h5⟩
    exact ⟨h5, fun h6 => h3 a h6 a (List.mem_cons_of_mem _ h4) rfl⟩
