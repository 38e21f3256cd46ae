/-! the numbers of shortest words -/
def ws (T : Nat → List Nat) (tu mask : Nat) (L : List (List Nat × Nat)) : Nat → List Nat → Int64
  | 0, _ => 1
  | d + 1, y => (mvs mask (2 * tu)).foldl (fun a m => if (act (T m) y, d) ∈ L then a + ws T tu mask L d (act (T m) y) else a) 0
def wsp (T : Nat → List Nat) (tu mask : Nat) (L : List (List Nat × Nat)) (y : List Nat) (d k : Nat) : Int64 := (mvs mask k).foldl (fun a m => if (act (T m) y, d) ∈ L then a + ws T tu mask L d (act (T m) y) else a) 0
theorem wsp_in {T : Nat → List Nat} {tu mask : Nat} {L : List (List Nat × Nat)} {y : List Nat} {d k : Nat} (hb : mask.testBit k = true) (h : (act (T k) y, d) ∈ L) : wsp T tu mask L y d (k + 1) = wsp T tu mask L y d k + ws T tu mask L d (act (T k) y) := by
  unfold wsp
  rw [mvs_succ, if_pos hb, List.foldl_append]
  show (if (act (T k) y, d) ∈ L then _ else _) = _
  rw [if_pos h]
theorem wsp_out {T : Nat → List Nat} {tu mask : Nat} {L : List (List Nat × Nat)} {y : List Nat} {d k : Nat} (h : mask.testBit k = true → (act (T k) y, d) ∉ L) : wsp T tu mask L y d (k + 1) = wsp T tu mask L y d k := by
  unfold wsp
  rw [mvs_succ]
  cases hb : mask.testBit k with
  | false => rw [if_neg (by decide), List.append_nil]
  | true =>
    rw [if_pos rfl, List.foldl_append]
    show (if (act (T k) y, d) ∈ L then _ else _) = _
    rw [if_neg (h hb)]
def Wy (ν : List Nat → Nat) (T : Nat → List Nat) (tu mask : Nat) (L : List (List Nat × Nat)) (i : Nat) (wy : Nat → Int64) : Prop := ∀ j z c, j < i → L[j]? = some (z, c) → wy (ν z) = ws T tu mask L c z
theorem GL.ne {n : Nat} {L : List (List Nat × Nat)} (h : GL n L) {i j : Nat} {y z : List Nat} {c d : Nat} (hi : L[i]? = some (y, d)) (hj : L[j]? = some (z, c)) (hne : j ≠ i) : z ≠ y := by
  intro e
  subst e
  have h1 := (List.getElem?_eq_some_iff.mp hi).1
  have e3 : (L.map (·.1))[i]? = (L.map (·.1))[j]? := by rw [List.getElem?_map, List.getElem?_map, hi, hj]; rfl
  exact hne ((List.getElem?_inj (by rw [List.length_map]; exact h1) h.2.1).mp e3).symm
theorem srt_lt {L : List (List Nat × Nat)} (h : L.Pairwise (fun a b => a.2 ≤ b.2)) {i j : Nat} {y z : List Nat} {c d : Nat} (hi : L[i]? = some (y, d)) (hj : L[j]? = some (z, c)) (hlt : c < d) : j < i := by
  rcases Nat.lt_or_ge j i with a | a
  · exact a
  · obtain ⟨b1, b2⟩ := List.getElem?_eq_some_iff.mp hi
    obtain ⟨c1, c2⟩ := List.getElem?_eq_some_iff.mp hj
    rcases Nat.lt_or_ge i j with q | q
    · have := List.pairwise_iff_getElem.mp h i j b1 c1 q
      rw [b2, c2] at this
      have : d ≤ c := this
      omega
    · have : i = j := by omega
      subst this
      rw [b2] at c2
      have := congrArg Prod.snd c2
      have : d = c := this
      omega
theorem Wy.put {n : Nat} {ν : List Nat → Nat} (hν : Nu n ν) {T : Nat → List Nat} {tu mask : Nat} {L : List (List Nat × Nat)} (hG : GL n L) {i : Nat} {wy : Nat → Int64} (h : Wy ν T tu mask L i wy) {y : List Nat} {d : Nat} (hi : L[i]? = some (y, d)) (v : Int64) : Wy ν T tu mask L i (vp_updL wy (ν y) v) := by
  intro j z c hj hz
  have hne := hG.ne hi hz (by omega)
  have hzP := hG.P (List.mem_of_getElem? hz)
  have hyP := hG.P (List.mem_of_getElem? hi)
  rw [pk_uLn (fun e => hne (hν.2 _ _ hzP hyP e))]
  exact h j z c hj hz
theorem Wy.next {ν : List Nat → Nat} {T : Nat → List Nat} {tu mask : Nat} {L : List (List Nat × Nat)} {i : Nat} {wy : Nat → Int64} (h : Wy ν T tu mask L i wy) {y : List Nat} {d : Nat} (hi : L[i]? = some (y, d)) (hw : wy (ν y) = ws T tu mask L d y) : Wy ν T tu mask L (i + 1) wy := by
  intro j z c hj hz
  by_cases e : j = i
  · subst e
    rw [hi] at hz
    cases hz
    exact hw
  · exact h j z c (by omega) hz
theorem mem_idx {α : Type} {L : List α} {q : α} (h : q ∈ L) : ∃ i : Nat, L[i]? = some q := by
  obtain ⟨i, hi, e⟩ := List.mem_iff_getElem.mp h
  exact ⟨i, by rw [List.getElem?_eq_getElem hi, e]⟩
theorem l_cw36 {n tu mask rm i d : Nat} {T : Nat → List Nat} {en : Nat → Nat → Int32} {L : List (List Nat × Nat)} {le fo : Nat → Int32} {y : List Nat} (hn : n ≤ 8) (hr1 : fac n ≤ rm) (hr2 : rm ≤ 40320) (hE : En n tu T en) (hmask : mask < 2 ^ (2 * tu)) (hR : Rp n nu L le fo) (hs : L.Pairwise (fun a b => a.2 ≤ b.2)) (hi : L[i]? = some (y, d + 1)) {K : Int32 → (Nat → Int64) → Prop} (hK : ∀ a wy, Wy nu T tu mask L (i + 1) wy → K a wy) : ∀ N k wy, 12 - k < N → k ≤ 12 → Wy nu T tu mask L i wy → wy (nu y) = wsp T tu mask L y d k → lp_X1_countWords_36 (nI mask) le en rm (nI (nu y)) K N (nI k) wy := by
  have hy : (y, d + 1) ∈ L := List.mem_of_getElem? hi
  have hyP : IsP n y := hR.1.1 _ hy
  have hny := (Nu.nu n).1 y hyP
  have hm12 := mvs_all hE.1 hmask
  intro N
  induction N with
  | zero => intro k wy h; omega
  | succ N ih =>
    intro k wy h1 h2 h3 h4
    rw [lp_X1_countWords_36]
    refine b_le (a := 12) (by omega) (by omega) (fun h => ?_) (fun h => ?_)
    · have : k = 12 := by omega
      subst this
      refine hK _ wy (h3.next hi ?_)
      rw [h4]
      show wsp T tu mask L y d 12 = wsp T tu mask L y d (2 * tu)
      unfold wsp
      rw [hm12]
    · rw [show nI k + 1 = nI (k + 1) from nI_add k 1]
      refine s_leads hn hr1 hr2 hE hmask hR hy (by omega) (fun b1 b2 b3 => ?_) (fun b => ?_)
      · refine ⟨fun z => absurd z (by decide), fun _ => ?_⟩
        obtain ⟨hTp, hTe⟩ := hE.2 k b1
        have hz := hTp.actP hyP
        have hnz := (Nu.nu n).1 _ hz
        rw [nI_c (n := k) (by omega), nI_c (n := nu y) (by omega), hTe y hyP, nI_c (n := nu (act (T k) y)) (by omega)]
        obtain ⟨j, hj⟩ := mem_idx b3
        have hji := srt_lt hs hi hj (by omega)
        have hwz := h3 j _ _ hji hj
        refine ⟨vp_in_nI (by omega) (by omega), vp_in_nI (by omega) (by omega), vp_in_nI (by omega) (by omega), vp_in_nI (by omega) (by omega), vp_in_nI (by omega) (by omega), ih (k + 1) _ (by omega) (by omega) (h3.put (Nu.nu n) hR.1 hi _) ?_⟩
        rw [pk_uLs, h4, hwz, wsp_in b2 b3]
      · refine ⟨fun _ => ih (k + 1) wy (by omega) (by omega) h3 ?_, fun z => absurd rfl z⟩
        rw [h4, wsp_out b]
theorem fnd_0 {n tu : Nat} {T : Nat → List Nat} (hT : Tw n tu T) (mask : Nat) : (fnd n tu T mask)[0]? = some (List.range n, 0) := by
  obtain ⟨R, hR⟩ := (fnd_Wh hT mask).2.2.2.2
  rw [hR]; rfl
theorem fnd_deep {n tu : Nat} {T : Nat → List Nat} (hT : Tw n tu T) {mask i : Nat} {y : List Nat} {c : Nat} (h1 : 1 ≤ i) (hi : (fnd n tu T mask)[i]? = some (y, c)) : ∃ d, c = d + 1 := by
  have hW := fnd_Wh hT mask
  cases c with
  | succ d => exact ⟨d, rfl⟩
  | zero =>
    exfalso
    have h2 := hW.zero (List.mem_of_getElem? hi)
    rw [List.mem_singleton] at h2
    have e : y = List.range n := congrArg Prod.fst h2
    exact hW.1.ne (fnd_0 hT mask) hi (by omega) e
theorem l_cw9 {n tu mask rm d : Nat} {T : Nat → List Nat} {en : Nat → Nat → Int32} {le fo : Nat → Int32} {p : List Nat} (hn : n ≤ 8) (hr1 : fac n ≤ rm) (hr2 : rm ≤ 40320) (hT : Tw n tu T) (hE : En n tu T en) (hmask : mask < 2 ^ (2 * tu)) (hR : Rp n nu (fnd n tu T mask) le fo) (hp : (p, d) ∈ fnd n tu T mask) {K92 : Int32 → (Nat → Int64) → Int32 → Prop} {K106 : Int32 → (Nat → Int64) → Prop} (h1 : ∀ a wy, wy (nu p) = ws T tu mask (fnd n tu T mask) d p → K92 a wy (nI (nu p))) (h2 : ∀ a wy, wy 0 = ws T tu mask (fnd n tu T mask) d p → K106 a wy) : ∀ N i wy, (fnd n tu T mask).length - i < N → 1 ≤ i → i ≤ (fnd n tu T mask).length → Wy nu T tu mask (fnd n tu T mask) i wy → (∀ j c, 1 ≤ j → j < i → (fnd n tu T mask)[j]? ≠ some (p, c)) → lp_X1_countWords_9 fo (nI mask) le en (nI (fnd n tu T mask).length) rm (nI (nu p)) K92 K106 N (nI i) wy := by
  have hW := fnd_Wh hT mask
  have hlen := hR.1.len
  have hpP : IsP n p := hR.1.1 _ hp
  have hnp := (Nu.nu n).1 p hpP
  intro N
  induction N with
  | zero => intro i wy h; omega
  | succ N ih =>
    intro i wy g1 g2 g3 g4 g5
    rw [lp_X1_countWords_9]
    refine b_le (by omega) (by omega) (fun h => ?_) (fun h => ?_)
    · obtain ⟨j, hj⟩ := mem_idx hp
      have hjl := (List.getElem?_eq_some_iff.mp hj).1
      have hj0 : j = 0 := by
        rcases Nat.eq_zero_or_pos j with a | a
        · exact a
        · exact absurd hj (g5 j d a (by omega))
      subst hj0
      rw [fnd_0 hT mask] at hj
      cases hj
      refine h2 _ wy ?_
      have := g4 0 _ _ (by omega) (fnd_0 hT mask)
      rw [nu_range] at this
      exact this
    · obtain ⟨⟨y, c⟩, hq, q1, q2, q3⟩ := hR.at' (Nu.nu n) (i := i) h
      obtain ⟨c', rfl⟩ := fnd_deep hT g2 hq
      have q1 : fo i = nI (nu y) := q1
      have q3 : nu y < fac n := q3
      have hyP : IsP n y := hR.1.1 _ (List.mem_of_getElem? hq)
      rw [nI_c (n := i) (by omega), q1]
      refine ⟨vp_in_nI (by omega) (by omega), fun x hx => ?_⟩
      subst hx
      rw [nI_c (n := nu y) (by omega)]
      refine ⟨vp_in_nI (by omega) (by omega), 13, ?_⟩
      refine l_cw36 hn hr1 hr2 hE hmask hR hW.2.1 hq (fun a wy' hwy => ?_) 13 0 _ (by omega) (by omega) (g4.put (Nu.nu n) hR.1 hq _) (by rw [pk_uLs]; rfl)
      refine b_ne (by omega) (by omega) (fun e => ?_) (fun e => ?_)
      · rw [show nI i + 1 = nI (i + 1) from nI_add i 1]
        refine ih (i + 1) wy' (by omega) (by omega) (by omega) hwy (fun j c hj1 hj2 hj3 => ?_)
        by_cases e2 : j = i
        · subst e2
          rw [hq] at hj3
          cases hj3
          exact e rfl
        · exact g5 j c hj1 (by omega) hj3
      · have hyp : y = p := (Nu.nu n).2 _ _ hyP hpP e
        subst hyp
        have hd : c' + 1 = d := hR.1.uniq (List.mem_of_getElem? hq) hp
        subst hd
        exact h1 _ wy' (hwy i _ _ (by omega) hq)
theorem s_countWords {n tu mask rm d : Nat} {T : Nat → List Nat} {en : Nat → Nat → Int32} {le fo : Nat → Int32} {wy : Nat → Int64} {p : List Nat} (hn : n ≤ 8) (hr1 : fac n ≤ rm) (hr2 : rm ≤ 40320) (hT : Tw n tu T) (hE : En n tu T en) (hmask : mask < 2 ^ (2 * tu)) (hR : Rp n nu (fnd n tu T mask) le fo) (hp : (p, d) ∈ fnd n tu T mask) {post : Int64 → (Nat → Int64) → Prop} (h : ∀ wy, post (ws T tu mask (fnd n tu T mask) d p) wy) : wp_X1_countWords (nI (fnd n tu T mask).length) (nI mask) le fo wy en rm (nI (nu p)) post := by
  have hnp := (Nu.nu n).1 p (hR.1.1 _ hp)
  have hf := fac_pos n
  have hl0 := (List.getElem?_eq_some_iff.mp (fnd_0 hT mask)).1
  unfold wp_X1_countWords
  have h0 : vp_in 0 rm := vp_in_nI (n := 0) (by omega) (by omega)
  refine ⟨h0, (fnd n tu T mask).length + 1, ?_⟩
  refine l_cw9 hn hr1 hr2 hT hE hmask hR hp (fun a wy' hw => ?_) (fun a wy' hw => ?_) _ 1 _ (by omega) (by omega) (by omega) ?_ (fun j c a b => by omega)
  · rw [nI_c (n := nu p) (by omega)]
    refine ⟨vp_in_nI (by omega) (by omega), ?_⟩
    rw [hw]; exact h wy'
  · refine ⟨h0, ?_⟩
    show post (wy' 0) wy'
    rw [hw]; exact h wy'
  · intro j z c hj hz
    have : j = 0 := by omega
    subst this
    rw [fnd_0 hT mask] at hz
    cases hz
    rw [nu_range]
    exact pk_uLs
theorem s_wordsC {n tu mask rm : Nat} {T : Nat → List Nat} {en : Nat → Nat → Int32} {to kn : Int32} {le fo sc ti : Nat → Int32} {wy : Nat → Int64} {p : List Nat} (hn : n ≤ 8) (hr1 : fac n ≤ rm) (hr2 : rm ≤ 40320) (hT : Tw n tu T) (hmask : mask < 2 ^ (2 * tu)) (hE : En n tu T en) (hk : Kp n tu T to kn le fo) (hp : IsP n p) (hti : At ti p) {post : Int64 → ((Nat → Int32) × (Nat → Int64) × Int32 × Int32 × (Nat → Int32) × (Nat → Int32)) → Prop} (h1 : ∀ d sc wy le fo, (p, d) ∈ fnd n tu T mask → Rp n nu (fnd n tu T mask) le fo → post (ws T tu mask (fnd n tu T mask) d p) (sc, wy, nI (fnd n tu T mask).length, nI mask, le, fo)) (h0 : (∀ d, (p, d) ∉ fnd n tu T mask) → ∀ sc wy le fo, Rp n nu (fnd n tu T mask) le fo → post 0 (sc, wy, nI (fnd n tu T mask).length, nI mask, le, fo)) : wp_X2_words (nI n) (nI mask) ti sc (nI (fac n)) wy to kn le fo en rm post := by
  have hnp := (Nu.nu n).1 p hp
  have hW := fnd_Wh hT mask
  unfold wp_X2_words
  refine s_solutions hn hr1 hr2 hmask hE hk (fun le' fo' hR => ?_)
  refine s_presentCode hn hp hti (fun sc' _ => ?_)
  rw [nI_c (n := nu p) (by omega)]
  refine ⟨vp_in_nI (by omega) (by omega), ?_⟩
  show (¬ le' (nu p) = -1 → wp_X1_countWords (nI (fnd n tu T mask).length) (nI mask) le' fo' wy en rm (nI (nu p)) (fun r_7 u_6 => post r_7 (sc', u_6, nI (fnd n tu T mask).length, nI mask, le', fo'))) ∧ (le' (nu p) = -1 → post 0 (sc', wy, nI (fnd n tu T mask).length, nI mask, le', fo'))
  rw [hR.lenI hp]
  rcases hW.1.or p with ⟨d, hd⟩ | hno
  · have hdl := hR.dlt hn hd
    rw [lenI_at hW.1 hd]
    exact ⟨fun _ => s_countWords hn hr1 hr2 hT hE hmask hR hd (fun wy' => h1 d sc' wy' le' fo' hd hR), fun z => absurd z (nI_neg1 (by omega))⟩
  · rw [lenI_no hno]
    exact ⟨fun z => absurd rfl z, fun _ => h0 hno sc' wy le' fo' hR⟩
/-! the model's words -/
theorem l_wm48 {n tu mask i d : Nat} {T : Nat → List Nat} {L : List (List Nat × Nat)} {fr fa li : Nat → Int32} {y : List Nat} (hn : n ≤ 8) (hT : Fr n tu T fr) (hmask : mask < 2 ^ 31) (hR : Rp n rank L fa li) (hs : L.Pairwise (fun a b => a.2 ≤ b.2)) (hi : L[i]? = some (y, d + 1)) {K : Int32 → (Nat → Int32) → (Nat → Int32) → (Nat → Int64) → Prop} (hK : ∀ a no te wy, Wy rank T tu mask L (i + 1) wy → K a no te wy) : ∀ N k no te wy, 2 * tu - k < N → k ≤ 2 * tu → Wy rank T tu mask L i wy → wy (rank y) = wsp T tu mask L y d k → lp_X3_wordsNow_48 (nI mask) fa fr (nI n) (nI tu) (nI (rank y)) K N (nI k) no te wy := by
  have htu := hT.1
  have hy : (y, d + 1) ∈ L := List.mem_of_getElem? hi
  have hyP : IsP n y := hR.1.1 _ hy
  have hd := hR.dlt hn hy
  have hry : rank y < 40320 := Nat.lt_of_lt_of_le (rank_ltP hyP) (fac_le hn)
  intro N
  induction N with
  | zero => intro k no te wy h; omega
  | succ N ih =>
    intro k no te wy h1 h2 h3 h4
    rw [lp_X3_wordsNow_48, show (2 : Int32) * nI tu = nI (2 * tu) from pk_mul 2 tu, show nI k + 1 = nI (k + 1) from nI_add k 1]
    refine b_le (by omega) (by omega) (fun h => ?_) (fun h => ?_)
    · have : k = 2 * tu := by omega
      subst this
      exact hK _ no te wy (h3.next hi h4)
    · refine s_has hmask (by omega) (fun hb => ?_) (fun hb => ?_)
      · refine ⟨fun z => absurd z (by decide), fun _ => ?_⟩
        refine s_after hn hT hyP h (fun no' te' => ?_)
        have hz := (hT.2 k h).1.actP hyP
        have hrz : rank (act (T k) y) < 40320 := Nat.lt_of_lt_of_le (rank_ltP hz) (fac_le hn)
        rw [nI_c (n := rank (act (T k) y)) (by omega), nI_c (n := rank y) (by omega), (hR.eqd hn hyP hd).mpr hy, show nI (d + 1) - 1 = nI d from pk_sub (a := d + 1) (b := 1) (by omega)]
        refine ⟨vp_in_nI hry (by decide), vp_in_nI hrz (by decide), vp_in_nI hry (by decide), fun e => ⟨vp_in_nI hry (by decide), ?_⟩, fun e => ⟨vp_in_nI hrz (by decide), vp_in_nI hry (by decide), ?_⟩⟩
        · refine ih (k + 1) no' te' _ (by omega) (by omega) (h3.put (Nu.rank n) hR.1 hi _) ?_
          rw [pk_uLs, h4, Int64.add_zero, wsp_out (fun _ q => e ((hR.eqd hn hz (by omega)).mpr q))]
        · have b3 := (hR.eqd hn hz (by omega)).mp e
          obtain ⟨j, hj⟩ := mem_idx b3
          have hji := srt_lt hs hi hj (by omega)
          have hwz := h3 j _ _ hji hj
          refine ih (k + 1) no' te' _ (by omega) (by omega) (h3.put (Nu.rank n) hR.1 hi _) ?_
          rw [pk_uLs, h4, hwz, wsp_in hb b3]
      · refine ⟨fun _ => ih (k + 1) no te wy (by omega) (by omega) h3 ?_, fun z => absurd rfl z⟩
        rw [h4, wsp_out (fun q => by rw [hb] at q; cases q)]
theorem l_wm24 {n tu mask : Nat} {T : Nat → List Nat} {fr fa li : Nat → Int32} (hn : n ≤ 8) (hTw : Tw n tu T) (hT : Fr n tu T fr) (hmask : mask < 2 ^ 31) (hR : Rp n rank (fnd n tu T mask) fa li) {K : Int32 → (Nat → Int32) → (Nat → Int32) → (Nat → Int64) → Prop} (hK : ∀ a no te wy, Wy rank T tu mask (fnd n tu T mask) (fnd n tu T mask).length wy → K a no te wy) : ∀ N i no te wy, (fnd n tu T mask).length - i < N → 1 ≤ i → i ≤ (fnd n tu T mask).length → Wy rank T tu mask (fnd n tu T mask) i wy → lp_X3_wordsNow_24 (nI mask) fa fr li (nI n) (nI tu) (nI (fnd n tu T mask).length) K N (nI i) no te wy := by
  have hW := fnd_Wh hTw mask
  have hlen := Nat.le_trans hR.1.len (fac_le hn)
  have htu := hTw.1
  intro N
  induction N with
  | zero => intro i no te wy h; omega
  | succ N ih =>
    intro i no te wy g1 g2 g3 g4
    rw [lp_X3_wordsNow_24]
    refine b_le (by omega) (by omega) (fun h => ?_) (fun h => ?_)
    · have : i = (fnd n tu T mask).length := by omega
      rw [this] at g4
      exact hK _ no te wy g4
    · obtain ⟨⟨y, c⟩, hq, q1, q2, q3⟩ := hR.at' (Nu.rank n) (i := i) h
      obtain ⟨c', rfl⟩ := fnd_deep hTw g2 hq
      have q1 : li i = nI (rank y) := q1
      have q3 : rank y < fac n := q3
      have hf := fac_le hn
      rw [nI_c (n := i) (by omega), q1]
      refine ⟨vp_in_nI (by omega) (by decide), fun x hx => ?_⟩
      subst hx
      rw [nI_c (n := rank y) (by omega)]
      refine ⟨vp_in_nI (by omega) (by decide), 2 * tu + 1, ?_⟩
      refine l_wm48 hn hT hmask hR hW.2.1 hq (fun a no' te' wy' hwy => ?_) (2 * tu + 1) 0 no te _ (by omega) (by omega) (g4.put (Nu.rank n) hR.1 hq _) (by rw [pk_uLs]; rfl)
      rw [show nI i + 1 = nI (i + 1) from nI_add i 1]
      exact ih (i + 1) no' te' wy' (by omega) (by omega) (by omega) hwy
theorem s_wordsNow {n tu mask : Nat} {T : Nat → List Nat} {fr no te fa li ro : Nat → Int32} {wy : Nat → Int64} {p : List Nat} (hn : n ≤ 8) (hTw : Tw n tu T) (hmask : mask < 2 ^ 31) (hT : Fr n tu T fr) (hR : Rp n rank (fnd n tu T mask) fa li) (hp : IsP n p) (hro : At ro p) {post : Int64 → ((Nat → Int32) × (Nat → Int32) × (Nat → Int64)) → Prop} (h1 : ∀ d no te wy, (p, d) ∈ fnd n tu T mask → post (ws T tu mask (fnd n tu T mask) d p) (no, te, wy)) (h0 : (∀ d, (p, d) ∉ fnd n tu T mask) → ∀ no te wy, post 0 (no, te, wy)) : wp_X3_wordsNow (nI n) (nI tu) (nI mask) (nI (fnd n tu T mask).length) ro fr no te fa li wy post := by
  have hW := fnd_Wh hTw mask
  have hr : rank p < 40320 := Nat.lt_of_lt_of_le (rank_ltP hp) (fac_le hn)
  have hl0 := (List.getElem?_eq_some_iff.mp (fnd_0 hTw mask)).1
  unfold wp_X3_wordsNow
  refine s_present hn hp hro ?_
  rw [nI_c (n := rank p) (by omega), hR.lenI hp]
  refine ⟨vp_in_nI hr (by decide), ?_⟩
  rcases hW.1.or p with ⟨d, hd⟩ | hno
  · have hdl := hR.dlt hn hd
    rw [lenI_at hW.1 hd]
    refine ⟨fun _ => ⟨vp_in_nI (n := 0) (by decide) (by decide), (fnd n tu T mask).length + 1, ?_⟩, fun z => absurd z (nI_neg1 (by omega))⟩
    refine l_wm24 hn hTw hT hmask hR (fun a no' te' wy' hwy => ?_) _ 1 no te _ (by omega) (by omega) (by omega) ?_
    · refine s_present hn hp hro ?_
      rw [nI_c (n := rank p) (by omega)]
      refine ⟨vp_in_nI hr (by decide), ?_⟩
      obtain ⟨j, hj⟩ := mem_idx hd
      have hw := hwy j _ _ (List.getElem?_eq_some_iff.mp hj).1 hj
      show post (wy' (rank p)) (no', te', wy')
      rw [hw]
      exact h1 d no' te' wy' hd
    · intro j z c hj hz
      have : j = 0 := by omega
      subst this
      rw [fnd_0 hTw mask] at hz
      cases hz
      rw [rank_range]
      exact pk_uLs
  · rw [lenI_no hno]
    exact ⟨fun z => absurd rfl z, fun _ => h0 hno no te wy⟩
theorem s_wordsM {n tu mask : Nat} {T : Nat → List Nat} {fr no te fa li ro : Nat → Int32} {wy : Nat → Int64} {p : List Nat} (hn : n ≤ 8) (hTw : Tw n tu T) (hmask : mask < 2 ^ 31) (hT : Fr n tu T fr) (hp : IsP n p) (hro : At ro p) {post : Int64 → (Int32 × Int32 × (Nat → Int32) × (Nat → Int32) × (Nat → Int32) × (Nat → Int32) × (Nat → Int64)) → Prop} (h1 : ∀ d no te fa li wy, (p, d) ∈ fnd n tu T mask → post (ws T tu mask (fnd n tu T mask) d p) (0, nI (fnd n tu T mask).length, no, te, fa, li, wy)) (h0 : (∀ d, (p, d) ∉ fnd n tu T mask) → ∀ no te fa li wy, post 0 (0, nI (fnd n tu T mask).length, no, te, fa, li, wy)) : wp_X3_words (nI n) (nI tu) (nI mask) ro fr no te fa li wy post := by
  unfold wp_X3_words
  refine s_layFor hn hmask hT (fun no' te' fa' li' hR => ?_)
  exact s_wordsNow hn hTw hmask hT hR hp hro (fun d no2 te2 wy2 a => h1 d no2 te2 fa' li' wy2 a) (fun h no2 te2 wy2 => h0 h no2 te2 fa' li' wy2)
