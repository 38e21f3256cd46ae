/-! solving by a subgroup: the nearest of a forward search is the end of the first shortest word -/
def fwd (T : Nat → List Nat) : Nat → List Nat → List Nat := fun m y => act (T m) y
def sb0 (L : List (List Nat × Nat)) : List (List Nat × Nat) := L.map (fun q => (q.1, 0))
theorem sb0_0 (L : List (List Nat × Nat)) : ∀ q, q ∈ sb0 L → q.2 = 0 := fun q hq => by
  obtain ⟨r, _, rfl⟩ := List.mem_map.mp hq
  rfl
theorem sb0_GL {n : Nat} {L : List (List Nat × Nat)} (h : GL n L) : GL n (sb0 L) := by
  refine ⟨fun q hq => ?_, ?_, fun i q hq => ?_⟩
  · obtain ⟨r, hr, rfl⟩ := List.mem_map.mp hq
    exact h.1 r hr
  · have : (sb0 L).map (·.1) = L.map (·.1) := by
      unfold sb0
      rw [List.map_map]
      rfl
    rw [this]; exact h.2.1
  · rw [sb0_0 L q (List.mem_of_getElem? hq)]; exact Nat.zero_le _
theorem sb0_mem {L : List (List Nat × Nat)} {y : List Nat} : (y, 0) ∈ sb0 L ↔ ∃ d, (y, d) ∈ L := by
  constructor
  · intro h
    obtain ⟨q, hq, e⟩ := List.mem_map.mp h
    have e1 : q.1 = y := congrArg Prod.fst e
    exact ⟨q.2, by rw [← e1]; exact hq⟩
  · rintro ⟨d, hd⟩
    exact List.mem_map.mpr ⟨(y, d), hd, rfl⟩
/-- distances to the subgroup -/
def fdh (n tu : Nat) (T : Nat → List Nat) (mask sub : Nat) : List (List Nat × Nat) := whl n (bst T) (mvs mask (2 * tu)) (sb0 (fnd n tu T sub))
theorem fdh_Wh {n tu : Nat} {T : Nat → List Nat} (hT : Tw n tu T) (mask sub : Nat) : Wh n (bst T) (mvs mask (2 * tu)) (sb0 (fnd n tu T sub)) (fdh n tu T mask sub) := whl_Wh (sb0_GL (fnd_Wh hT sub).1) (sb0_0 _) (bst_P hT)
theorem Wh.sub {n : Nat} {e : Nat → List Nat → List Nat} {ms : List Nat} {L0 L : List (List Nat × Nat)} (h : Wh n e ms L0 L) {q : List Nat × Nat} (hq : q ∈ L0) : q ∈ L := pre_mem h.2.2.2.2 hq
theorem fnd_id {n tu : Nat} {T : Nat → List Nat} (hT : Tw n tu T) (mask : Nat) : (List.range n, 0) ∈ fnd n tu T mask := (fnd_Wh hT mask).sub List.mem_cons_self
theorem fdh_all {n tu mask sub : Nat} {T : Nat → List Nat} (hT : Tw n tu T) : ∀ d y, (y, d) ∈ fnd n tu T mask → ∃ c, (y, c) ∈ fdh n tu T mask sub := by
  have hW := fnd_Wh hT mask
  have hH := fdh_Wh hT mask sub
  intro d
  induction d with
  | zero =>
    intro y hy
    have h1 := hW.zero hy
    rw [List.mem_singleton] at h1
    have e : y = List.range n := congrArg Prod.fst h1
    subst e
    exact ⟨0, hH.sub (sb0_mem.mpr ⟨0, fnd_id hT sub⟩)⟩
  | succ d ih =>
    intro y hy
    obtain ⟨x, m, h1, h2, h3⟩ := hW.par one_0 hy
    obtain ⟨c, hc⟩ := ih x h1
    obtain ⟨c', _, hc'⟩ := hH.2.2.2.1 x c hc m h2
    exact ⟨c', by rw [h3]; exact hc'⟩
/-- a forward search comes no nearer than its depth allows -/
theorem fwd_low {n tu mask d0 : Nat} {T : Nat → List Nat} (hT : Tw n tu T) {L0 LH : List (List Nat × Nat)} (hH : Wh n (bst T) (mvs mask (2 * tu)) L0 LH) {p : List Nat} (hp : (p, d0) ∈ LH) {L : List (List Nat × Nat)} (hG : GL n L) (hpar : ∀ q, q ∈ L → q ∈ [(p, 0)] ∨ ∃ x d m, (x, d) ∈ L ∧ m ∈ mvs mask (2 * tu) ∧ q = (fwd T m x, d + 1)) : ∀ k y, (y, k) ∈ L → ∀ δ, (y, δ) ∈ LH → d0 ≤ k + δ := by
  intro k
  induction k with
  | zero =>
    intro y hy δ hδ
    rcases hpar _ hy with a | ⟨x, d, m, _, _, e⟩
    · rw [List.mem_singleton] at a
      have e : y = p := congrArg Prod.fst a
      subst e
      have := hH.1.uniq hδ hp
      omega
    · have := congrArg Prod.snd e
      have this : 0 = d + 1 := this
      omega
  | succ k ih =>
    intro y hy δ hδ
    rcases hpar _ hy with a | ⟨x, d, m, h1, h2, e⟩
    · rw [List.mem_singleton] at a
      have := congrArg Prod.snd a
      have this : k + 1 = 0 := this
      omega
    · have e1 : y = act (T m) x := congrArg Prod.fst e
      have e2 : k + 1 = d + 1 := congrArg Prod.snd e
      have e3 : d = k := by omega
      subst e3
      obtain ⟨h3, h4⟩ := mvs_mem.mp h2
      rw [e1] at hδ
      obtain ⟨δ', h5, h6⟩ := hH.back hT (hG.1 _ h1) h3 h4 hδ
      have := ih x h1 δ' h6
      omega
theorem mvs_cut (mask a b : Nat) : ∃ R, mvs mask (a + b) = mvs mask a ++ R := by
  induction b with
  | zero => exact ⟨[], (List.append_nil _).symm⟩
  | succ b ih =>
    obtain ⟨R, hR⟩ := ih
    rw [← Nat.add_assoc, mvs_succ, hR, List.append_assoc]
    exact ⟨_, rfl⟩
/-- the first of depth c on the way is the way's own -/
def Jn (LH : List (List Nat × Nat)) (g : Nat → List Nat) (d0 : Nat) (L : List (List Nat × Nat)) (i c : Nat) : Prop :=
  c ≤ d0 ∧ (∃ j, L[j]? = some (g c, c) ∧ (∀ a y, a < j → L[a]? = some (y, c) → (y, d0 - c) ∉ LH) ∧ (c < d0 → i ≤ j)) ∧ ∀ y k, c < k → k ≤ d0 → (y, k) ∈ L → (y, d0 - k) ∉ LH
theorem Jn.step {n tu mask d0 : Nat} {T : Nat → List Nat} (hT : Tw n tu T) {L0 LH : List (List Nat × Nat)} (h0 : ∀ q, q ∈ L0 → q.2 = 0) (hH : Wh n (bst T) (mvs mask (2 * tu)) L0 LH) {p : List Nat} (hp : (p, d0) ∈ LH) {L : List (List Nat × Nat)} {i c : Nat} (hG : GL n L) (hB : Bf (fwd T) (mvs mask (2 * tu)) [(p, 0)] L i) (hJ : Jn LH (wlk T tu mask LH p d0) d0 L i c) {x : List Nat} {k : Nat} (hi : L[i]? = some (x, k)) : ∃ c', Jn LH (wlk T tu mask LH p d0) d0 (exps (fwd T) x k (mvs mask (2 * tu)) L) (i + 1) c' := by
  have hpre := exps_pre (fwd T) x k (mvs mask (2 * tu)) L
  have hlow := fwd_low hT hH hp hG hB.2.2.1
  obtain ⟨hc, ⟨j, hj, hfirst, hge⟩, hdeep⟩ := hJ
  by_cases hcd : c < d0
  · have hij := hge hcd
    by_cases hij2 : i = j
    · subst hij2
      rw [hi] at hj
      cases hj
      obtain ⟨w1, w2, w3⟩ := wlk_go hT h0 hH hp hcd
      have hg1 : wlk T tu mask LH p d0 (c + 1) = act (T (nxt T tu mask LH (wlk T tu mask LH p d0 c) (d0 - c - 1))) (wlk T tu mask LH p d0 c) := rfl
      generalize hme : nxt T tu mask LH (wlk T tu mask LH p d0 c) (d0 - c - 1) = m at w1 w2 w3 hg1
      have hleast : ∀ m', m' < m → mask.testBit m' = true → (act (T m') (wlk T tu mask LH p d0 c), d0 - c - 1) ∉ LH := fun m' h1 h2 => by
        rw [← hme] at h1
        exact nxt_not h1 h2
      generalize hxe : wlk T tu mask LH p d0 c = x at hi w3 hg1 hleast hpre
      obtain ⟨R, hR⟩ := mvs_cut mask (m + 1) (2 * tu - (m + 1))
      rw [show m + 1 + (2 * tu - (m + 1)) = 2 * tu by omega, mvs_succ, if_pos w2] at hR
      have hex : exps (fwd T) x c (mvs mask (2 * tu)) L = exps (fwd T) x c R (vis (fwd T m x) c (exps (fwd T) x c (mvs mask m) L)) := by
        rw [hR, exps_app, exps_app, exps_one]
      have hold : ∀ y, (y, c + 1) ∈ exps (fwd T) x c (mvs mask m) L → (y, d0 - (c + 1)) ∉ LH := fun y hy => by
        rcases exps_new _ hy with a | ⟨m', a, b⟩
        · exact hdeep y (c + 1) (by omega) (by omega) a
        · obtain ⟨b1, b2⟩ := mvs_mem.mp a
          have e : y = act (T m') x := congrArg Prod.fst b
          rw [e]
          exact hleast m' b1 b2
      have hnew : fwd T m x ∉ (exps (fwd T) x c (mvs mask m) L).map (·.1) := fun hq => by
        obtain ⟨⟨y, k'⟩, h1, h2⟩ := List.mem_map.mp hq
        have h2 : y = fwd T m x := h2
        subst h2
        rcases exps_new _ h1 with a | ⟨m', a, b⟩
        · have h3 := hB.2.1 _ hi _ a
          have h4 := hlow k' _ a _ w3
          have h3 : k' ≤ c + 1 := h3
          have h5 : k' = c + 1 := by omega
          subst h5
          exact hold _ (pre_mem (exps_pre _ _ _ _ _) a) w3
        · obtain ⟨b1, b2⟩ := mvs_mem.mp a
          have e : fwd T m x = act (T m') x := congrArg Prod.fst b
          have e2 : act (T m) x = act (T m') x := e
          rw [e2] at w3
          exact hleast m' b1 b2 w3
      have hvis : vis (fwd T m x) c (exps (fwd T) x c (mvs mask m) L) = exps (fwd T) x c (mvs mask m) L ++ [(fwd T m x, c + 1)] := if_neg hnew
      rw [hvis] at hex
      have hp1 := exps_pre (fwd T) x c (mvs mask m) L
      have hlen1 := pre_len hp1
      have hil := (List.getElem?_eq_some_iff.mp hi).1
      obtain ⟨R2, hR2⟩ := exps_pre (fwd T) x c R (exps (fwd T) x c (mvs mask m) L ++ [(fwd T m x, c + 1)])
      refine ⟨c + 1, by omega, ⟨(exps (fwd T) x c (mvs mask m) L).length, ?_, fun a y ha hy => ?_, fun _ => by omega⟩, fun y k' hk1 hk2 hy => ?_⟩
      · rw [hex, hR2, List.append_assoc, List.getElem?_append_right (Nat.le_refl _), Nat.sub_self, hg1]
        rfl
      · rw [hex, hR2, List.append_assoc, List.getElem?_append_left ha] at hy
        exact hold y (List.mem_of_getElem? hy)
      · rcases exps_new _ hy with a | ⟨m', a, b⟩
        · exact hdeep y k' (by omega) hk2 a
        · have : k' = c + 1 := congrArg Prod.snd b
          omega
    · refine ⟨c, hc, ⟨j, pre_get hpre hj, fun a y ha hy => ?_, fun _ => by omega⟩, fun y k' hk1 hk2 hy => ?_⟩
      · have hjl := (List.getElem?_eq_some_iff.mp hj).1
        obtain ⟨R, hR⟩ := hpre
        rw [hR, List.getElem?_append_left (by omega)] at hy
        exact hfirst a y ha hy
      · rcases exps_new _ hy with a | ⟨m, a, b⟩
        · exact hdeep y k' hk1 hk2 a
        · obtain ⟨b1, b2⟩ := mvs_mem.mp a
          have e1 : y = act (T m) x := congrArg Prod.fst b
          have e2 : k' = k + 1 := congrArg Prod.snd b
          have hkc : k ≤ c := by
            rcases Nat.lt_or_ge c k with q | q
            · have := srt_lt hB.1 hi hj q
              omega
            · exact q
          have hkc2 : k = c := by omega
          subst hkc2
          intro hmem
          rw [e1] at hmem
          have hxP := hG.P (List.mem_of_getElem? hi)
          obtain ⟨δ', h5, h6⟩ := hH.back hT hxP b1 b2 hmem
          have h7 := hlow k x (List.mem_of_getElem? hi) δ' h6
          have : δ' = d0 - k := by omega
          rw [this] at h6
          exact hfirst i x (by omega) hi h6
  · refine ⟨c, hc, ⟨j, pre_get hpre hj, fun a y ha hy => ?_, fun z => absurd z hcd⟩, fun y k' hk1 hk2 _ => by omega⟩
    have hjl := (List.getElem?_eq_some_iff.mp hj).1
    obtain ⟨R, hR⟩ := hpre
    rw [hR, List.getElem?_append_left (by omega)] at hy
    exact hfirst a y ha hy
theorem Jn.zero {LH : List (List Nat × Nat)} {g : Nat → List Nat} {d0 : Nat} {p : List Nat} (hg : g 0 = p) : Jn LH g d0 [(p, 0)] 0 0 := by
  refine ⟨Nat.zero_le _, ⟨0, by rw [hg]; rfl, fun a y ha => by omega, fun _ => Nat.le_refl _⟩, fun y k hk _ hy => ?_⟩
  rw [List.mem_singleton] at hy
  have : k = 0 := congrArg Prod.snd hy
  omega
theorem fwd_J {n tu mask d0 : Nat} {T : Nat → List Nat} (hT : Tw n tu T) {L0 LH : List (List Nat × Nat)} (h0 : ∀ q, q ∈ L0 → q.2 = 0) (hH : Wh n (bst T) (mvs mask (2 * tu)) L0 LH) {p : List Nat} (hp : (p, d0) ∈ LH) : ∀ i, i ≤ (bf (fwd T) (mvs mask (2 * tu)) [(p, 0)] i).length → ∃ c, Jn LH (wlk T tu mask LH p d0) d0 (bf (fwd T) (mvs mask (2 * tu)) [(p, 0)] i) i c := by
  have hpP := hH.1.P hp
  have hfP : ∀ m, m ∈ mvs mask (2 * tu) → ∀ y, IsP n y → IsP n (fwd T m y) := fun m hm y hy => (hT.P (mvs_mem.mp hm).1).actP hy
  intro i
  induction i with
  | zero => intro _; exact ⟨0, Jn.zero rfl⟩
  | succ i ih =>
    intro hi
    have hG := bf_GL (GL.one hpP) hfP i
    have hB := bf_inv (e := fwd T) (ms := mvs mask (2 * tu)) (L0 := [(p, 0)]) one_0 i
    have hlt : i < (bf (fwd T) (mvs mask (2 * tu)) [(p, 0)] i).length := by
      rcases Nat.lt_or_ge i (bf (fwd T) (mvs mask (2 * tu)) [(p, 0)] i).length with a | a
      · exact a
      · have hb : bf (fwd T) (mvs mask (2 * tu)) [(p, 0)] (i + 1) = bf (fwd T) (mvs mask (2 * tu)) [(p, 0)] i := by rw [bf, List.getElem?_eq_none a]
        rw [hb] at hi
        omega
    obtain ⟨c, hc⟩ := ih (by omega)
    have hq := List.getElem?_eq_getElem hlt
    rw [bf_step hq]
    exact hc.step hT h0 hH hp hG hB hq
/-- at the first goal -/
theorem fwd_end {n tu mask sub d0 i k : Nat} {T : Nat → List Nat} (hT : Tw n tu T) {p y : List Nat} (hp : (p, d0) ∈ fdh n tu T mask sub) (hi : (bf (fwd T) (mvs mask (2 * tu)) [(p, 0)] i)[i]? = some (y, k)) (hno2 : ∀ j z c, j < i → (bf (fwd T) (mvs mask (2 * tu)) [(p, 0)] i)[j]? = some (z, c) → ∀ e, (z, e) ∉ fnd n tu T sub) {e : Nat} (hy : (y, e) ∈ fnd n tu T sub) : y = wlk T tu mask (fdh n tu T mask sub) p d0 d0 ∧ k = d0 := by
  have hH := fdh_Wh hT mask sub
  have hil := (List.getElem?_eq_some_iff.mp hi).1
  obtain ⟨c, hc, ⟨j, hj, hfirst, hge⟩, hdeep⟩ := fwd_J hT (sb0_0 _) hH hp i (by omega)
  have hpP := hH.1.P hp
  have hfP : ∀ m, m ∈ mvs mask (2 * tu) → ∀ y, IsP n y → IsP n (fwd T m y) := fun m hm y hy => (hT.P (mvs_mem.mp hm).1).actP hy
  have hG := bf_GL (GL.one hpP) hfP i
  have hB := bf_inv (e := fwd T) (ms := mvs mask (2 * tu)) (L0 := [(p, 0)]) one_0 i
  have hyH : (y, 0) ∈ fdh n tu T mask sub := hH.sub (sb0_mem.mpr ⟨e, hy⟩)
  have hk := fwd_low hT hH hp hG hB.2.2.1 k y (List.mem_of_getElem? hi) 0 hyH
  have hsrt : i ≤ j → k ≤ c := fun hij => by
    rcases Nat.lt_or_ge c k with a | a
    · have := srt_lt hB.1 hi hj a
      omega
    · exact a
  have hcd : c = d0 := by
    rcases Nat.eq_or_lt_of_le hc with a | a
    · exact a
    · have := hsrt (hge a)
      omega
  subst hcd
  have hgB : ∃ e', (wlk T tu mask (fdh n tu T mask sub) p c c, e') ∈ fnd n tu T sub := by
    have h1 := wlk_at hT (sb0_0 _) hH hp c (Nat.le_refl c)
    rw [Nat.sub_self] at h1
    exact sb0_mem.mp (hH.zero h1)
  obtain ⟨e', he'⟩ := hgB
  have hij : i ≤ j := by
    rcases Nat.lt_or_ge j i with a | a
    · exact absurd he' (hno2 j _ _ a hj e')
    · exact a
  have hkc := hsrt hij
  have hkc2 : k = c := by omega
  subst hkc2
  refine ⟨?_, rfl⟩
  rcases Nat.eq_or_lt_of_le hij with a | a
  · subst a
    rw [hi] at hj
    cases hj
    rfl
  · have := hfirst i y a hi
    rw [Nat.sub_self] at this
    exact absurd hyH this
theorem fwd_not_done {n tu mask sub d0 i : Nat} {T : Nat → List Nat} (hT : Tw n tu T) {p : List Nat} (hp : (p, d0) ∈ fdh n tu T mask sub) (hi : (bf (fwd T) (mvs mask (2 * tu)) [(p, 0)] i).length = i) (hno2 : ∀ j z c, j < i → (bf (fwd T) (mvs mask (2 * tu)) [(p, 0)] i)[j]? = some (z, c) → ∀ e, (z, e) ∉ fnd n tu T sub) : False := by
  have hH := fdh_Wh hT mask sub
  obtain ⟨c, hc, ⟨j, hj, hfirst, hge⟩, hdeep⟩ := fwd_J hT (sb0_0 _) hH hp i (by omega)
  have hjl := (List.getElem?_eq_some_iff.mp hj).1
  have hcd : c = d0 := by
    rcases Nat.eq_or_lt_of_le hc with a | a
    · exact a
    · have := hge a
      omega
  subst hcd
  have h1 := wlk_at hT (sb0_0 _) hH hp c (Nat.le_refl c)
  rw [Nat.sub_self] at h1
  obtain ⟨e', he'⟩ := sb0_mem.mp (hH.zero h1)
  exact hno2 j _ _ (by omega) hj e' he'
