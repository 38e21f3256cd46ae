/-! the model lays a turn's sources -/
def Fo (tu : Nat) (s : Nat → Nat) (j : Nat) (fr0 fr : Nat → Int32) : Prop :=
  (∀ r, r < 16 * tu → fr r = fr0 r) ∧ ∀ i, i < j → fr (16 * tu + i) = nI (s i) ∧ fr (8 * (2 * tu + 1) + s i) = nI i
theorem l_put2 {n tu : Nat} {s : Nat → Nat} (hn : n ≤ 8) (htu : tu < 6) (hs : ∀ j, j < n → s j < n) (hinj : ∀ i j, s i = s j → i = j) {no fr0 : Nat → Int32} (hno : ∀ j, j < n → no j = nI (s j)) {K : Int32 → (Nat → Int32) → Prop} (hK : ∀ x fr, Fo tu s n fr0 fr → K x fr) : ∀ N j fr, n - j < N → j ≤ n → Fo tu s j fr0 fr → lp_X3_putTurn_2 (nI n) no (nI tu) K N (nI j) fr := by
  intro N
  induction N with
  | zero => intro j fr h; omega
  | succ N ih =>
    intro j fr h1 h2 h3
    rw [lp_X3_putTurn_2]
    refine b_le (by omega) (by omega) (fun h => ?_) (fun h => ?_)
    · have e : j = n := by omega
      subst e
      exact hK _ fr h3
    · have hsj := hs j h
      have e1 : (16 : Int32) * nI tu = nI (16 * tu) := pk_mul 16 tu
      have e2 : (2 : Int32) * nI tu = nI (2 * tu) := pk_mul 2 tu
      have e3 : nI (2 * tu) + 1 = nI (2 * tu + 1) := nI_add _ 1
      have e4 : (8 : Int32) * nI (2 * tu + 1) = nI (8 * (2 * tu + 1)) := pk_mul 8 _
      rw [nI_c (n := j) (by omega), hno j h, e1, e2, e3, e4, nI_add, nI_add, nI_c (n := 16 * tu + j) (by omega), nI_c (n := 8 * (2 * tu + 1) + s j) (by omega), show nI j + 1 = nI (j + 1) from nI_add j 1]
      refine ⟨vp_in_nI (by omega) (by decide), vp_in_nI (by omega) (by decide), vp_in_nI (by omega) (by decide), vp_in_nI (by omega) (by decide), ?_⟩
      refine ih (j + 1) _ (by omega) (by omega) ⟨fun r hr => ?_, fun i hi => ?_⟩
      · rw [show ∀ f : Nat → Int32, ∀ v, upd f (8 * (2 * tu + 1) + s j) v r = f r from fun f v => if_neg (by omega), show ∀ v, upd fr (16 * tu + j) v r = fr r from fun v => if_neg (by omega)]
        exact h3.1 r hr
      · have h8 : i < 8 := by omega
        have c1 : ∀ f : Nat → Int32, ∀ v, upd f (8 * (2 * tu + 1) + s j) v (16 * tu + i) = f (16 * tu + i) := fun f v => if_neg (by omega)
        rw [c1]
        by_cases e : i = j
        · subst e
          exact ⟨if_pos rfl, if_pos rfl⟩
        · have h4 := h3.2 i (by omega)
          have hne : s i ≠ s j := fun q => e (hinj i j q)
          constructor
          · rw [← h4.1]; exact if_neg (by omega)
          · rw [show ∀ f : Nat → Int32, ∀ v, upd f (8 * (2 * tu + 1) + s j) v (8 * (2 * tu + 1) + s i) = f (8 * (2 * tu + 1) + s i) from fun f v => if_neg (by omega)]
            have hsi := hs i (by omega)
            rw [← h4.2]; exact if_neg (by omega)
/-- the turns, one more -/
def addT (T : Nat → List Nat) (tu : Nat) (p : List Nat) : Nat → List Nat := fun m => if m = 2 * tu then p else if m = 2 * tu + 1 then inv p else T m
theorem Fr.more {n tu : Nat} {T : Nat → List Nat} {fr fr' : Nat → Int32} (hT : Fr n tu T fr) (hn : n ≤ 8) (htu : tu < 6) {p : List Nat} (hp : IsP n p) (h : Fo tu (fun j => p.getD j 0) n fr fr') : Fr n (tu + 1) (addT T tu p) fr' := by
  refine ⟨by omega, fun m hm => ?_⟩
  by_cases e1 : m = 2 * tu
  · subst e1
    rw [show addT T tu p (2 * tu) = p from if_pos rfl]
    refine ⟨hp, fun j hj => ?_⟩
    rw [← (h.2 j hj).1]; congr 1; omega
  · by_cases e2 : m = 2 * tu + 1
    · subst e2
      rw [show addT T tu p (2 * tu + 1) = inv p from by unfold addT; rw [if_neg (by omega), if_pos rfl]]
      refine ⟨hp.invP, fun t ht => ?_⟩
      have h1 := hp.invP.lt ht
      have h2 : fr' (8 * (2 * tu + 1) + p.getD ((inv p).getD t 0) 0) = nI ((inv p).getD t 0) := (h.2 _ h1).2
      rw [hp.at_inv ht] at h2
      exact h2
    · rw [show addT T tu p m = T m from by unfold addT; rw [if_neg e1, if_neg e2]]
      obtain ⟨h1, h2⟩ := hT.2 m (by omega)
      refine ⟨h1, fun j hj => ?_⟩
      rw [h.1 _ (by omega)]
      exact h2 j hj
theorem addT_old {T : Nat → List Nat} {tu : Nat} {p : List Nat} {m : Nat} (h : m < 2 * tu) : addT T tu p m = T m := by
  unfold addT; rw [if_neg (by omega), if_neg (by omega)]
theorem En.cong {n tu : Nat} {T T' : Nat → List Nat} {en : Nat → Nat → Int32} (h : En n tu T en) (e : ∀ m, m < 2 * tu → T' m = T m) : En n tu T' en := by
  refine ⟨h.1, fun m hm => ?_⟩
  rw [e m hm]
  exact h.2 m hm
theorem En.add {n tu : Nat} {T : Nat → List Nat} {en en' : Nat → Nat → Int32} (hE : En n tu T en) (htu : tu < 6) {p : List Nat} (hp : IsP n p) (hL : Ln n (2 * tu) (2 * tu + 1) (inv p) (fac n) en en') : En n (tu + 1) (addT T tu p) en' := by
  have e1 : addT T tu p (2 * tu) = p := if_pos rfl
  have e2 : addT T tu p (2 * tu + 1) = inv p := by unfold addT; rw [if_neg (by omega), if_pos rfl]
  refine En.more (hE.cong (fun m hm => addT_old hm)) htu ?_ ?_ ?_
  · rw [e1]; exact hp
  · rw [e1, e2]
  · rw [e1]; exact hL
