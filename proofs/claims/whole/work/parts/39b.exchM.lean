theorem s_exchangeM {n : Nat} {p : List Nat} (hn : n ≤ 8) (hp : IsP n p) {f : Nat → Int32} (hf : At f p) {x y : Int32} {post : Int32 → (Int32 × (Nat → Int32)) → Prop} (h1 : ∀ i j g, i < n → j < n → x = nI i → y = nI j → At g (act (xch n i j) p) → post (nI (p.getD j 0)) (0, g)) (h0 : ((∀ i, i < n → x ≠ nI i) ∨ (∀ j, j < n → y ≠ nI j)) → post 0 (1, f)) : wp_X3_exchange (nI n) f x y post := by
  unfold wp_X3_exchange
  refine s_isPlaceM hn (fun i hi ex => ?_) (fun h => ⟨fun _ => ⟨fun z => absurd z (by decide), fun _ => h0 (Or.inl h)⟩, fun z => absurd rfl z⟩)
  refine ⟨fun z => absurd z (by decide), fun _ => ?_⟩
  refine s_isPlaceM hn (fun j hj ey => ?_) (fun h => ⟨fun _ => ⟨fun z => absurd z (by decide), fun _ => h0 (Or.inr h)⟩, fun z => absurd rfl z⟩)
  refine ⟨fun z => absurd z (by decide), fun _ => ⟨fun _ => ?_, fun z => absurd (by decide) z⟩⟩
  have hat := xch_at hp hi hj hf
  have hget := hat i (by rw [act_len, (xch_P hi hj).len]; exact hi)
  rw [act_get (by rw [(xch_P hi hj).len]; exact hi), xch_get hi] at hget
  have hval : xchF i j i = j := by
    unfold xchF
    by_cases e : i = j
    · rw [if_pos e]; exact e
    · rw [if_neg e, if_pos rfl]
  rw [hval] at hget
  rw [ex, ey, nI_c (n := i) (by omega), nI_c (n := j) (by omega)]
  refine ⟨vp_in_nI (by omega) (by decide), fun z hz => ⟨vp_in_nI (by omega) (by decide), vp_in_nI (by omega) (by decide), vp_in_nI (by omega) (by decide), vp_in_nI (by omega) (by decide), ?_⟩⟩
  rw [hz, hget]
  exact h1 i j _ hi hj ex ey hat
