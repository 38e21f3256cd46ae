/-! two tiles change places -/
def xchF (i j t : Nat) : Nat := if t = j then i else if t = i then j else t
def xch (n i j : Nat) : List Nat := (List.range n).map (xchF i j)
theorem xchF_inj {i j a b : Nat} (h : xchF i j a = xchF i j b) : a = b := by
  unfold xchF at h
  repeat' split at h
  all_goals omega
theorem xch_P {n i j : Nat} (hi : i < n) (hj : j < n) : IsP n (xch n i j) := by
  refine IsP.of (by simp [xch]) ?_ ?_
  · refine List.nodup_iff_pairwise_ne.mpr ?_
    unfold xch
    rw [List.pairwise_map]
    have := List.nodup_iff_pairwise_ne.mp (List.nodup_range (n := n))
    exact this.imp (fun {a b} hne e => hne (xchF_inj e))
  · intro x hx
    obtain ⟨t, ht, rfl⟩ := List.mem_map.mp hx
    rw [List.mem_range] at ht
    unfold xchF
    repeat' split
    all_goals omega
theorem xch_get {n i j t : Nat} (h : t < n) : (xch n i j).getD t 0 = xchF i j t := by
  rw [xch, getD_map (α := Nat) _ _ (by rw [List.length_range]; exact h), getD_range h]
theorem xch_at {n i j : Nat} {p : List Nat} (hp : IsP n p) (hi : i < n) (hj : j < n) {f : Nat → Int32} (hf : At f p) : At (upd (upd f i (f j)) j (f i)) (act (xch n i j) p) := by
  intro t ht
  rw [act_len, (xch_P hi hj).len] at ht
  rw [act_get (by rw [(xch_P hi hj).len]; exact ht), xch_get ht]
  have hl := hp.len
  by_cases e1 : t = j
  · subst e1
    rw [show xchF i t t = i from if_pos rfl, ← hf i (by omega)]
    exact if_pos rfl
  · by_cases e2 : t = i
    · subst e2
      rw [show xchF t j t = j from by unfold xchF; rw [if_neg e1, if_pos rfl], ← hf j (by omega)]
      rw [show ∀ g : Nat → Int32, ∀ v, upd g j v t = g t from fun g v => if_neg e1]
      exact if_pos rfl
    · rw [show xchF i j t = t from by unfold xchF; rw [if_neg e1, if_neg e2], ← hf t (by omega)]
      rw [show ∀ g : Nat → Int32, ∀ v, upd g j v t = g t from fun g v => if_neg e1]
      exact if_neg e2
theorem s_exchangeC {n : Nat} {p : List Nat} (hn : n ≤ 8) (hp : IsP n p) {f : Nat → Int32} (hf : At f p) {x y : Int32} {post : Int32 → (Nat → Int32) → Prop} {postX : String → Prop} (h1 : ∀ i j g, i < n → j < n → x = nI i → y = nI j → At g (act (xch n i j) p) → post (nI (p.getD j 0)) g) (h0 : ((∀ i, i < n → x ≠ nI i) ∨ (∀ j, j < n → y ≠ nI j)) → postX "java/lang/IndexOutOfBoundsException") : wp_X2_exchange (nI n) f x y post postX := by
  unfold wp_X2_exchange
  refine s_isPlaceC hn (fun i hi ex => ?_) (fun h => ⟨fun _ => h0 (Or.inl h), fun z => absurd rfl z⟩)
  refine ⟨fun z => absurd z (by decide), fun _ => ?_⟩
  refine s_isPlaceC hn (fun j hj ey => ?_) (fun h => ⟨fun z => absurd rfl z, fun _ => h0 (Or.inr h)⟩)
  refine ⟨fun _ => ?_, fun z => absurd z (by decide)⟩
  have hat := xch_at hp hi hj hf
  have hget := hat i (by rw [act_len, (xch_P hi hj).len]; exact hi)
  rw [act_get (by rw [(xch_P hi hj).len]; exact hi), xch_get hi] at hget
  have hval : xchF i j i = j := by
    unfold xchF
    by_cases e : i = j
    · rw [if_pos e]; exact e
    · rw [if_neg e, if_pos rfl]
  rw [hval] at hget
  rw [ex, ey, nI_c (n := i) (by omega), nI_c (n := j) (by omega)]
  refine ⟨vp_in_nI (by omega) (by decide), fun z hz => ⟨vp_in_nI (by omega) (by decide), vp_in_nI (by omega) (by decide), vp_in_nI (by omega) (by decide), vp_in_nI (by omega) (by decide), ?_⟩⟩
  rw [hz, hget]
  exact h1 i j _ hi hj ex ey hat
