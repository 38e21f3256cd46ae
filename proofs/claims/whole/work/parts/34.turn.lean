/-! a turn's sources -/
def srcK (kind a b j : Nat) : Nat :=
  if j < a ∨ b < j then j else if kind = 0 then a + b - j else if kind = 1 then (if j = a then b else j - 1) else (if j = a then b else if j = b then a else j)
theorem srcK_lt {kind a b j n : Nat} (hab : a < b) (hb : b < n) (hj : j < n) : srcK kind a b j < n := by
  unfold srcK
  repeat' split
  all_goals omega
theorem srcK_inj {kind a b i j : Nat} (hab : a < b) (h : srcK kind a b i = srcK kind a b j) : i = j := by
  unfold srcK at h
  repeat' split at h
  all_goals omega
def turn (n kind a b : Nat) : List Nat := (List.range n).map (srcK kind a b)
theorem turn_len (n kind a b : Nat) : (turn n kind a b).length = n := by simp [turn]
theorem turn_get {n kind a b j : Nat} (h : j < n) : (turn n kind a b).getD j 0 = srcK kind a b j := by
  rw [turn, getD_map (α := Nat) _ _ (by rw [List.length_range]; exact h), getD_range h]
theorem turn_P {n kind a b : Nat} (hab : a < b) (hb : b < n) : IsP n (turn n kind a b) := by
  refine IsP.of (turn_len n kind a b) ?_ ?_
  · refine List.nodup_iff_pairwise_ne.mpr ?_
    unfold turn
    rw [List.pairwise_map]
    have := List.nodup_iff_pairwise_ne.mp (List.nodup_range (n := n))
    exact this.imp (fun {i j} hne e => hne (srcK_inj hab e))
  · intro x hx
    obtain ⟨j, hj, rfl⟩ := List.mem_map.mp hx
    exact srcK_lt hab hb (List.mem_range.mp hj)
theorem s_withinN {a b j : Nat} (ha : a < 2 ^ 31) (hb : b < 2 ^ 31) (hj : j < 2 ^ 31) {post : Int32 → Unit → Prop} (h1 : a ≤ j → j ≤ b → post 1 ()) (h0 : j < a ∨ b < j → post 0 ()) : wp_X3_within (nI j) (nI a) (nI b) post :=
  b_lt hj ha (fun h => h0 (Or.inl h)) (fun h => b_lt hb hj (fun h' => h0 (Or.inr h')) (fun h' => h1 h h'))
theorem l_add80 {n kind a b : Nat} (hn : n ≤ 8) (hk : kind ≤ 2) (hab : a < b) (hb : b < n) {K : Int32 → (Nat → Int32) → Prop} (hK : ∀ x g, At g (turn n kind a b) → K x g) : ∀ N j g, n - j < N → j ≤ n → (∀ i, i < j → g i = nI (srcK kind a b i)) → lp_X3_addTurn_80 (nI n) (nI kind) (nI a) (nI b) K N (nI j) g := by
  intro N
  induction N with
  | zero => intro j g h; omega
  | succ N ih =>
    intro j g h1 h2 h3
    rw [lp_X3_addTurn_80]
    refine b_le (by omega) (by omega) (fun h => ?_) (fun h => ?_)
    · refine hK _ g (fun i hi => ?_)
      rw [turn_len] at hi
      rw [turn_get hi]
      exact h3 i (by omega)
    · have hgo : ∀ y, y = nI (srcK kind a b j) → vp_in (nI j) 8 ∧ lp_X3_addTurn_80 (nI n) (nI kind) (nI a) (nI b) K N (nI j + 1) (upd g (nI j).toNatClampNeg y) := by
        intro y hy
        refine ⟨vp_in_nI (by omega) (by decide), ?_⟩
        rw [nI_c (n := j) (by omega), show nI j + 1 = nI (j + 1) from nI_add j 1]
        refine ih (j + 1) _ (by omega) (by omega) (fun i hi => ?_)
        by_cases e : i = j
        · subst e; rw [← hy]; exact if_pos rfl
        · rw [show upd g j y i = g i from if_neg e]; exact h3 i (by omega)
      refine s_withinN (by omega) (by omega) (by omega) (fun ha' hb' => ?_) (fun hout => ?_)
      · have hs : srcK kind a b j = if kind = 0 then a + b - j else if kind = 1 then (if j = a then b else j - 1) else (if j = a then b else if j = b then a else j) := if_neg (by omega)
        rw [hs] at hgo
        refine b_ne (a := kind) (b := 0) (by omega) (by omega) (fun k0 => ?_) (fun k0 => ?_)
        · rw [if_neg k0] at hgo
          refine b_ne (by omega) (by omega) (fun ja => ?_) (fun ja => ?_)
          · refine b_ne (a := kind) (b := 1) (by omega) (by omega) (fun k1 => ?_) (fun k1 => ?_)
            · rw [if_neg k1, if_neg ja] at hgo
              refine b_ne (by omega) (by omega) (fun jb => ?_) (fun jb => ?_)
              · rw [if_neg jb] at hgo
                exact ⟨fun z => absurd z (by decide), fun _ => hgo _ rfl⟩
              · rw [if_pos jb] at hgo
                exact ⟨fun z => absurd z (by decide), fun _ => hgo _ rfl⟩
            · rw [if_pos k1, if_neg ja] at hgo
              intro x hx
              exact ⟨fun z => absurd z (by decide), fun _ => hgo _ (by rw [hx]; exact pk_sub (b := 1) (by omega))⟩
          · have : (if kind = 1 then (if j = a then b else j - 1) else (if j = a then b else if j = b then a else j)) = b := by
              rw [if_pos ja, if_pos ja]; split <;> rfl
            rw [this] at hgo
            exact ⟨fun z => absurd z (by decide), fun _ => hgo _ rfl⟩
        · rw [if_pos k0] at hgo
          intro x hx
          exact ⟨fun z => absurd z (by decide), fun _ => hgo _ (by rw [hx, nI_add, pk_sub (by omega)])⟩
      · have hs : srcK kind a b j = j := if_pos hout
        rw [hs] at hgo
        have hL := hgo _ rfl
        exact ⟨fun _ => ⟨fun _ => ⟨fun _ => ⟨fun _ => ⟨fun _ => hL, fun z => absurd rfl z⟩, fun _ => ⟨fun _ => hL, fun z => absurd rfl z⟩⟩, fun _ => fun _ _ => ⟨fun _ => hL, fun z => absurd rfl z⟩⟩, fun _ => ⟨fun _ => hL, fun z => absurd rfl z⟩⟩, fun _ => fun _ _ => ⟨fun _ => hL, fun z => absurd rfl z⟩⟩
