/-! both sides solve by a subgroup -/
theorem l_near59 {n tu mask i d rm : Nat} {T : Nat → List Nat} {en : Nat → Nat → Int32} {x : List Nat} {L0 : List (List Nat × Nat)} (hn : n ≤ 8) (hr1 : fac n ≤ rm) (hr2 : rm ≤ 40320) (hmask : mask < 2 ^ (2 * tu)) (hE : En n tu T en) (hi : L0[i]? = some (x, d)) {K : Int32 → Int32 → (Nat → Int32) → (Nat → Int32) → Prop} (hK : ∀ a le fo, Rp n nu (exps (fwd T) x d (mvs mask 12) L0) le fo → K a (nI (exps (fwd T) x d (mvs mask 12) L0).length) le fo) : ∀ N m le fo, 12 - m < N → m ≤ 12 → Rp n nu (exps (fwd T) x d (mvs mask m) L0) le fo → lp_X1_findNearest_59 en rm (nI mask) (nI i) K N (nI m) (nI (exps (fwd T) x d (mvs mask m) L0).length) le fo := by
  have htu := hE.1
  intro N
  induction N with
  | zero => intro m le fo h; omega
  | succ N ih =>
    intro m le fo h1 hm hR
    rw [lp_X1_findNearest_59]
    refine b_le (a := 12) (by omega) (by omega) (fun h => ?_) (fun h => ?_)
    · have e : m = 12 := by omega
      subst e
      exact hK _ le fo hR
    · have hs : mvs mask (m + 1) = mvs mask m ++ (if mask.testBit m = true then [m] else []) := mvs_succ mask m
      have hn1 := ih (m + 1)
      rw [show nI m + 1 = nI (m + 1) from nI_add m 1]
      refine c_bit (by omega) (fun hb => ?_) (fun hb => ?_)
      · rw [if_neg (by rw [hb]; decide), List.append_nil] at hs
        rw [hs] at hn1
        exact hn1 le fo (by omega) (by omega) hR
      · rw [if_pos hb] at hs
        have hm2 : m < 2 * tu := bit_lt hmask hb
        obtain ⟨hTp, hTe⟩ := hE.2 m hm2
        rw [hs, exps_app, exps_one] at hn1
        generalize hLe : exps (fwd T) x d (mvs mask m) L0 = L at hR hn1 ⊢
        have hLi : L[i]? = some (x, d) := by rw [← hLe]; exact pre_get (exps_pre _ _ _ _ _) hi
        have hil : i < L.length := (List.getElem?_eq_some_iff.mp hLi).1
        have hlen := hR.1.len
        have hx : IsP n x := hR.1.1 _ (List.mem_of_getElem? hLi)
        have hnx := (Nu.nu n).1 x hx
        have h6 : fo i = nI (nu x) := (hR.2.1 _ _ hLi).1
        rw [nI_c (n := i) (by omega), h6, nI_c (n := m) (by omega), nI_c (n := nu x) (by omega), hTe x hx]
        refine ⟨vp_in_nI (by omega) (by decide), vp_in_nI (by omega) (by omega), vp_in_nI (by omega) (by omega), vp_in_nI (by omega) (by omega), ?_⟩
        exact s_reach hn hr1 hr2 hR hLi (hTp.actP hx) (fun le' fo' hR' => hn1 le' fo' (by omega) (by omega) hR')
theorem l_near12 {n tu mask sub d0 rm : Nat} {T : Nat → List Nat} {en : Nat → Nat → Int32} {gle gfo : Nat → Int32} {p : List Nat} (hn : n ≤ 8) (hr1 : fac n ≤ rm) (hr2 : rm ≤ 40320) (hT : Tw n tu T) (hmask : mask < 2 ^ (2 * tu)) (hE : En n tu T en) (hB : Rp n nu (fnd n tu T sub) gle gfo) (hp : (p, d0) ∈ fdh n tu T mask sub) {K48 K113 : Int32 → Int32 → (Nat → Int32) → (Nat → Int32) → Prop} (hK : ∀ i to le fo, i < fac n → fo i = nI (nu (wlk T tu mask (fdh n tu T mask sub) p d0 d0)) → le (nu (wlk T tu mask (fdh n tu T mask sub) p d0 d0)) = nI d0 → K48 (nI i) to le fo) : ∀ N i le fo, fac n - i < N → i ≤ (bf (fwd T) (mvs mask (2 * tu)) [(p, 0)] i).length → (∀ j z c, j < i → (bf (fwd T) (mvs mask (2 * tu)) [(p, 0)] i)[j]? = some (z, c) → ∀ e, (z, e) ∉ fnd n tu T sub) → Rp n nu (bf (fwd T) (mvs mask (2 * tu)) [(p, 0)] i) le fo → lp_X1_findNearest_12 en gle rm (nI mask) K48 K113 N (nI i) (nI (bf (fwd T) (mvs mask (2 * tu)) [(p, 0)] i).length) le fo := by
  have hm : mvs mask 12 = mvs mask (2 * tu) := mvs_all hE.1 hmask
  have hWB := fnd_Wh hT sub
  intro N
  induction N with
  | zero => intro i le fo h; omega
  | succ N ih =>
    intro i le fo h1 hi hno hR
    have hlf := hR.1.len
    rw [lp_X1_findNearest_12]
    refine b_le (by omega) (by omega) (fun h => ?_) (fun h => ?_)
    · exact absurd hno (fun hno => fwd_not_done hT hp (by omega) hno)
    · refine b_le (by omega) (by omega) (fun h' => ?_) (fun h' => ?_)
      · exfalso; omega
      · have hq : (bf (fwd T) (mvs mask (2 * tu)) [(p, 0)] i)[i]? = some ((bf (fwd T) (mvs mask (2 * tu)) [(p, 0)] i)[i]'h) := List.getElem?_eq_getElem h
        generalize hqe : (bf (fwd T) (mvs mask (2 * tu)) [(p, 0)] i)[i]'h = q at hq
        obtain ⟨y, k⟩ := q
        obtain ⟨h6, h7⟩ := hR.2.1 _ _ hq
        have h6 : fo i = nI (nu y) := h6
        have h7 : le (nu y) = nI k := h7
        have hyP : IsP n y := hR.1.1 _ (List.mem_of_getElem? hq)
        have hny := (Nu.nu n).1 y hyP
        have hst := bf_step hq
        rw [nI_c (n := i) (by omega), h6, nI_c (n := nu y) (by omega)]
        refine ⟨vp_in_nI (by omega) (by omega), vp_in_nI (by omega) (by omega), fun e => ?_, fun e => ?_⟩
        · have hyno := (hB.no hn hyP).mp e
          refine ⟨12 + 1, ?_⟩
          rw [← nI_0]
          refine l_near59 (i := i) (d := k) (x := y) hn hr1 hr2 hmask hE hq (fun a le' fo' hR' => ?_) (12 + 1) 0 le fo (by omega) (by omega) hR
          rw [hm] at hR' ⊢
          have hR2 : Rp n nu (bf (fwd T) (mvs mask (2 * tu)) [(p, 0)] (i + 1)) le' fo' := by rw [hst]; exact hR'
          obtain ⟨R, hRp⟩ := bf_pre (fwd T) (mvs mask (2 * tu)) [(p, 0)] i
          have hl2 : i + 1 ≤ (bf (fwd T) (mvs mask (2 * tu)) [(p, 0)] (i + 1)).length := by
            rw [hRp, List.length_append]
            omega
          have hno' : ∀ j z c, j < i + 1 → (bf (fwd T) (mvs mask (2 * tu)) [(p, 0)] (i + 1))[j]? = some (z, c) → ∀ e, (z, e) ∉ fnd n tu T sub := by
            intro j z c hj hz
            rw [hRp, List.getElem?_append_left (by omega)] at hz
            by_cases hji : j = i
            · subst hji
              rw [hq] at hz
              cases hz
              exact hyno
            · exact hno j z c (by omega) hz
          have hh := ih (i + 1) le' fo' (by omega) hl2 hno' hR2
          rw [hst] at hh
          rw [show nI i + 1 = nI (i + 1) from nI_add i 1]
          exact hh
        · have hyB : ∃ e', (y, e') ∈ fnd n tu T sub := by
            rcases hWB.1.or y with a | a
            · exact a
            · exact absurd ((hB.no hn hyP).mpr a) e
          obtain ⟨e', he'⟩ := hyB
          obtain ⟨r1, r2⟩ := fwd_end hT hp hq hno he'
          rw [r1] at h6 h7
          rw [r2] at h7
          exact hK i _ le fo (by omega) h6 h7
theorem s_findNearest {n tu mask sub d0 rm : Nat} {T : Nat → List Nat} {en : Nat → Nat → Int32} {gle gfo le fo : Nat → Int32} {p : List Nat} (hn : n ≤ 8) (hr1 : fac n ≤ rm) (hr2 : rm ≤ 40320) (hT : Tw n tu T) (hmask : mask < 2 ^ (2 * tu)) (hE : En n tu T en) (hB : Rp n nu (fnd n tu T sub) gle gfo) (hp : (p, d0) ∈ fdh n tu T mask sub) {post : Int32 → (Int32 × (Nat → Int32) × (Nat → Int32)) → Prop} (h : ∀ to le fo, le (nu (wlk T tu mask (fdh n tu T mask sub) p d0 d0)) = nI d0 → post (nI (nu (wlk T tu mask (fdh n tu T mask sub) p d0 d0))) (to, le, fo)) : wp_X1_findNearest le fo (nI (fac n)) gle en rm (nI mask) (nI (nu p)) post := by
  have hpP := (fdh_Wh hT mask sub).1.P hp
  unfold wp_X1_findNearest
  refine s_startAt hn hr1 hr2 hpP (fun le' fo' hR => ?_)
  refine ⟨fac n + 1, l_near12 (K48 := fun v_20 c_21 c_22 c_23 => vp_in v_20 rm ∧ post (c_23 v_20.toNatClampNeg) (c_21, c_22, c_23)) hn hr1 hr2 hT hmask hE hB hp (fun i to le2 fo2 hi hf hl => ?_) (fac n + 1) 0 le' fo' (by omega) (Nat.zero_le _) (fun j z c hj => by omega) hR⟩
  rw [nI_c (n := i) (by omega), hf]
  exact ⟨vp_in_nI (by omega) (by omega), h to le2 fo2 hl⟩
/-- the depth in a list -/
def dpt (L : List (List Nat × Nat)) (p : List Nat) : Nat := match L.find? (fun q => decide (q.1 = p)) with
  | some q => q.2
  | none => 0
theorem dpt_at {n : Nat} {L : List (List Nat × Nat)} (hG : GL n L) {p : List Nat} {d : Nat} (h : (p, d) ∈ L) : dpt L p = d := by
  unfold dpt
  cases hq : L.find? (fun q => decide (q.1 = p)) with
  | none =>
    rw [List.find?_eq_none] at hq
    exact absurd (decide_eq_true rfl) (hq (p, d) h)
  | some q =>
    have h1 := List.mem_of_find?_eq_some hq
    have h2 := List.find?_some hq
    rw [decide_eq_true_eq] at h2
    have h3 : (p, q.2) ∈ L := by rw [← h2]; exact h1
    exact hG.uniq h3 h
def phA (n tu mask sub : Nat) (T : Nat → List Nat) (p : List Nat) (w : Nat) : Int32 :=
  if lenI (fnd n tu T mask) p = -1 then -1 else if w = 0 then nI (dpt (fdh n tu T mask sub) p) else if w = 1 then nI (dpt (fnd n tu T sub) (wlk T tu mask (fdh n tu T mask sub) p (dpt (fdh n tu T mask sub) p) (dpt (fdh n tu T mask sub) p))) else nI (dpt (fdh n tu T mask sub) p + dpt (fnd n tu T sub) (wlk T tu mask (fdh n tu T mask sub) p (dpt (fdh n tu T mask sub) p) (dpt (fdh n tu T mask sub) p)))
theorem i_subset {j mask : Nat} (hj : j < 2 ^ 31) (h : nI j &&& (nI mask ^^^ (-1)) = 0) : Sub j mask := by
  intro u hu
  have hu31 : u < 31 := bit_lt hj hu
  have h1 := congrArg (fun z : Int32 => z.toBitVec.getLsbD u) h
  have h2 : (nI j &&& (nI mask ^^^ (-1))).toBitVec.getLsbD u = (j.testBit u && !(mask.testBit u)) := by
    show (BitVec.ofNat 32 j &&& (BitVec.ofNat 32 mask ^^^ (-1 : Int32).toBitVec)).getLsbD u = _
    have e : (-1 : Int32).toBitVec = BitVec.allOnes 32 := by decide
    rw [e, BitVec.getLsbD_and, BitVec.getLsbD_xor, BitVec.getLsbD_ofNat, BitVec.getLsbD_ofNat, BitVec.getLsbD_allOnes]
    have : u < 32 := by omega
    simp [this]
  have h3 : (0 : Int32).toBitVec.getLsbD u = false := by
    show (0#32).getLsbD u = false
    simp
  have h4 : (j.testBit u && !(mask.testBit u)) = false := by
    rw [← h2]
    exact h1.trans h3
  rw [hu] at h4
  cases hm : mask.testBit u with
  | true => rfl
  | false => rw [hm] at h4; cases h4
theorem sub_le {j m : Nat} (h : Sub j m) : j ≤ m := by
  have e : j &&& m = j := by
    apply Nat.eq_of_testBit_eq
    intro u
    rw [Nat.testBit_and]
    cases hj : j.testBit u with
    | false => rfl
    | true => rw [h u hj]; rfl
  rw [← e]
  exact Nat.and_le_right
theorem s_phaseC {n tu mask rm : Nat} {T : Nat → List Nat} {en : Nat → Nat → Int32} {to kn tb kb tc : Int32} {le fo lb fb lc fc sc ti : Nat → Int32} {p : List Nat} (hn : n ≤ 8) (hr1 : fac n ≤ rm) (hr2 : rm ≤ 40320) (hT : Tw n tu T) (hmask : mask < 2 ^ (2 * tu)) (hE : En n tu T en) (hk : Kp n tu T to kn le fo) (hkb : Kp n tu T tb kb lb fb) (hp : IsP n p) (hti : At ti p) {x y : Int32} {post : Int32 → ((Nat → Int32) × Int32 × Int32 × (Nat → Int32) × (Nat → Int32) × Int32 × Int32 × (Nat → Int32) × (Nat → Int32) × Int32 × (Nat → Int32) × (Nat → Int32)) → Prop} {postX : String → Prop} (h1 : ∀ sub w sc to kn le fo tb kb lb fb tc lc fc, ¬ x < 0 → x &&& (nI mask ^^^ (-1)) = 0 → sub < 2 ^ (2 * tu) → x = nI sub → w < 3 → y = nI w → Kp n tu T to kn le fo → Kp n tu T tb kb lb fb → post (phA n tu mask sub T p w) (sc, to, kn, le, fo, tb, kb, lb, fb, tc, lc, fc)) (h0 : (x < 0 ∨ ¬ x &&& (nI mask ^^^ (-1)) = 0 ∨ ∀ w, w < 3 → y ≠ nI w) → postX "java/lang/IllegalArgumentException") : wp_X2_phase (nI n) (nI mask) ti sc (nI (fac n)) to kn le fo tb kb lb fb tc lc fc en rm x y post postX := by
  have htu := hT.1
  have hp12 := pow12 htu
  have hnp := (Nu.nu n).1 p hp
  unfold wp_X2_phase
  refine ⟨fun z => h0 (Or.inl z), fun hx0 => ⟨fun z => h0 (Or.inr (Or.inl z)), fun hx1 => ⟨fun z => h0 (Or.inr (Or.inr (fun w hw e => by rw [e] at z; exact i_nneg (by omega) z))), fun hy0 => ?_⟩⟩⟩
  obtain ⟨w, hw, ey⟩ := nI_of hy0
  obtain ⟨sub, hs, ex⟩ := nI_of hx0
  subst ey
  refine b_le (b := 2) hw (by omega) (fun hw2 => ?_) (fun hw2 => h0 (Or.inr (Or.inr (fun v hv e => by have := (nI_eq hw (by omega)).mp e; omega))))
  subst ex
  have hsub : Sub sub mask := i_subset hs hx1
  have hsub2 : sub < 2 ^ (2 * tu) := Nat.lt_of_le_of_lt (sub_le hsub) hmask
  have hWA := fnd_Wh hT mask
  have hWB := fnd_Wh hT sub
  have hH := fdh_Wh hT mask sub
  have h1' := fun sc to kn le fo tb kb lb fb tc lc fc => h1 sub w sc to kn le fo tb kb lb fb tc lc fc hx0 hx1 hsub2 rfl (by omega) rfl
  refine s_presentCode hn hp hti (fun sc' _ => ?_)
  refine s_solutions hn hr1 hr2 hmask hE hk (fun le' fo' hR => ?_)
  have hKA := Kp.of htu hmask hR
  rw [nI_c (n := nu p) (by omega)]
  refine ⟨vp_in_nI (by omega) (by omega), ?_⟩
  refine And.intro (fun hne => ?_) (fun he => ?_)
  · have hne : ¬ le' (nu p) = -1 := hne
    rw [hR.lenI hp] at hne
    have hd : ∃ d, (p, d) ∈ fnd n tu T mask := by
      rcases hWA.1.or p with a | a
      · exact a
      · exact absurd (lenI_no a) hne
    obtain ⟨d, hd⟩ := hd
    obtain ⟨d0, hd0⟩ := fdh_all (sub := sub) hT d p hd
    refine s_others hn hr1 hr2 hsub2 hE hkb (fun lb' fb' hRB => ?_)
    have hKB := Kp.of htu hsub2 hRB
    refine s_findNearest hn hr1 hr2 hT hmask hE hRB hd0 (fun tc' lc' fc' hl => ?_)
    have hg := wlk_at hT (sb0_0 _) hH hd0 d0 (Nat.le_refl d0)
    rw [Nat.sub_self] at hg
    obtain ⟨e, he⟩ := sb0_mem.mp (hH.zero hg)
    have hgP := hH.1.P hg
    have hng := (Nu.nu n).1 _ hgP
    have hph : phA n tu mask sub T p w = if w = 0 then nI d0 else if w = 1 then nI e else nI (d0 + e) := by
      unfold phA
      rw [if_neg hne, dpt_at hH.1 hd0, dpt_at hWB.1 he]
    have hpost := h1' sc' _ _ le' fo' _ _ lb' fb' tc' lc' fc' hKA hKB
    rw [hph] at hpost
    have hle : lb' (nu (wlk T tu mask (fdh n tu T mask sub) p d0 d0)) = nI e := by
      rw [hRB.lenI hgP, lenI_at hWB.1 he]
    refine ⟨fun _ => ?_, fun z => absurd z (nI_neg1 (by omega))⟩
    rw [nI_c (n := nu (wlk T tu mask (fdh n tu T mask sub) p d0 d0)) (by omega)]
    refine ⟨vp_in_nI (by omega) (by omega), fun a ha => ⟨vp_in_nI (by omega) (by omega), fun b hb => ?_⟩⟩
    have ha : a = lc' (nu (wlk T tu mask (fdh n tu T mask sub) p d0 d0)) := ha
    have hb : b = lb' (nu (wlk T tu mask (fdh n tu T mask sub) p d0 d0)) := hb
    rw [hl] at ha
    rw [hle] at hb
    subst ha hb
    refine b_ne (b := 2) hw (by omega) (fun w2 => b_ne (b := 0) hw (by omega) (fun w0 => ?_) (fun w0 => ?_)) (fun w2 => ?_)
    · rw [if_neg w0, if_pos (by omega)] at hpost
      exact hpost
    · rw [if_pos w0] at hpost
      exact hpost
    · rw [if_neg (by omega), if_neg (by omega)] at hpost
      rw [nI_add]
      exact hpost
  · have he : le' (nu p) = -1 := he
    rw [hR.lenI hp] at he
    have hpost := h1' sc' _ _ le' fo' tb kb lb fb tc lc fc hKA hkb
    rw [show phA n tu mask sub T p w = -1 by unfold phA; rw [if_pos he]] at hpost
    exact hpost
/-! the model -/
theorem l_ph36 {m : Nat} (hm : m ≤ 40320) {li : Nat → Int32} {K : Int32 → (Nat → Int32) → Prop} (hK : ∀ a su, (∀ j, j < m → su j = li j) → K a su) : ∀ N k su, m - k < N → k ≤ m → (∀ j, j < k → su j = li j) → lp_X3_phaseNow_36 li (nI m) K N (nI k) su := by
  intro N
  induction N with
  | zero => intro k su h; omega
  | succ N ih =>
    intro k su h1 h2 h3
    rw [lp_X3_phaseNow_36, show nI k + 1 = nI (k + 1) from nI_add k 1]
    refine b_le (by omega) (by omega) (fun h => ?_) (fun h => ?_)
    · exact hK _ su (fun j hj => h3 j (by omega))
    · rw [nI_c (n := k) (by omega)]
      refine ⟨vp_in_nI (by omega) (by decide), vp_in_nI (by omega) (by decide), ih (k + 1) _ (by omega) (by omega) (fun j hj => ?_)⟩
      by_cases e : j = k
      · subst e; exact if_pos rfl
      · rw [show ∀ v, upd su k v j = su j from fun v => if_neg e]; exact h3 j (by omega)
theorem sb0_take {L : List (List Nat × Nat)} {k : Nat} {q : List Nat × Nat} (h : L[k]? = some q) : (sb0 L).take (k + 1) = (sb0 L).take k ++ [(q.1, 0)] := by
  rw [List.take_add_one]
  congr 1
  unfold sb0
  rw [List.getElem?_map, h]
  rfl
theorem sb0_len (L : List (List Nat × Nat)) : (sb0 L).length = L.length := List.length_map _
theorem l_ph69 {n : Nat} (hn : n ≤ 8) {L : List (List Nat × Nat)} (hG : GL n L) {su : Nat → Int32} (hsu : ∀ j q, L[j]? = some q → su j = nI (rank q.1)) {K : Int32 → Int32 → (Nat → Int32) → (Nat → Int32) → Prop} (hK : ∀ a fa li, Rp n rank (sb0 L) fa li → K a (nI L.length) fa li) : ∀ N k fa li, L.length - k < N → k ≤ L.length → Rp n rank ((sb0 L).take k) fa li → lp_X3_phaseNow_69 su (nI L.length) K N (nI k) (nI k) fa li := by
  have hlen := Nat.le_trans hG.len (fac_le hn)
  intro N
  induction N with
  | zero => intro k fa li h; omega
  | succ N ih =>
    intro k fa li h1 h2 hR
    rw [lp_X3_phaseNow_69]
    refine b_le (by omega) (by omega) (fun h => ?_) (fun h => ?_)
    · have e : k = L.length := by omega
      subst e
      rw [show (sb0 L).take L.length = sb0 L from by rw [← sb0_len L, List.take_length]] at hR
      exact hK _ fa li hR
    · have hq := List.getElem?_eq_getElem h
      generalize hqe : L[k] = q at hq
      have hqP := hG.1 q (List.mem_of_getElem? hq)
      have hst := sb0_take hq
      have hl : ((sb0 L).take k).length = k := by rw [List.length_take, sb0_len]; omega
      rw [nI_c (n := k) (by omega), hsu k q hq]
      refine ⟨vp_in_nI (by omega) (by decide), ?_⟩
      have hnew : q.1 ∉ ((sb0 L).take k).map (·.1) := fun hm => by
        obtain ⟨r, hr, e⟩ := List.mem_map.mp hm
        obtain ⟨a, ha, hra⟩ := List.mem_iff_getElem.mp hr
        rw [hl] at ha
        have h5 : (sb0 L)[a]? = some r := by
          rw [← List.getElem?_take_of_lt ha, List.getElem?_eq_getElem (by rw [hl]; exact ha), hra]
        have h6 : (sb0 L)[k]? = some (q.1, 0) := by unfold sb0; rw [List.getElem?_map, hq]; rfl
        obtain ⟨r1, r2⟩ := r
        exact (sb0_GL hG).ne h6 h5 (by omega) e
      have hgo : wp_X3_aim (nI ((sb0 L).take k).length) fa li (nI (rank q.1)) (fun u_16 => lp_X3_phaseNow_69 su (nI L.length) K N (nI (k + 1)) u_16.1 u_16.2.1 u_16.2.2) := by
        refine s_aim hn hR hqP hnew (fun fa' li' hR' => ?_)
        rw [hl]
        rw [← hst] at hR'
        exact ih (k + 1) fa' li' (by omega) (by omega) hR'
      rw [hl] at hgo
      rw [show nI k + 1 = nI (k + 1) from nI_add k 1]
      exact hgo
theorem l_ph118 {n tu mask d0 : Nat} {T : Nat → List Nat} {L0 LH : List (List Nat × Nat)} {fr fa li : Nat → Int32} {p : List Nat} (hn : n ≤ 8) (hW : Tw n tu T) (hT : Fr n tu T fr) (hmask : mask < 2 ^ 31) (h0 : ∀ q, q ∈ L0 → q.2 = 0) (hH : Wh n (bst T) (mvs mask (2 * tu)) L0 LH) (hR : Rp n rank LH fa li) (hp : (p, d0) ∈ LH) {K : Int32 → Int32 → (Nat → Int32) → (Nat → Int32) → Prop} (hK : ∀ a no te, K (nI (rank (wlk T tu mask LH p d0 d0))) a no te) : ∀ N j no te, d0 - j < N → j ≤ d0 → lp_X3_phaseNow_118 (nI mask) fa fr (nI n) (nI tu) (nI d0) K N (nI (rank (wlk T tu mask LH p d0 j))) (nI j) no te := by
  have hd := hR.dlt hn hp
  intro N
  induction N with
  | zero => intro j no te h; omega
  | succ N ih =>
    intro j no te h1 h2
    rw [lp_X3_phaseNow_118]
    refine b_le (by omega) (by omega) (fun h => ?_) (fun h => ?_)
    · have : j = d0 := by omega
      subst this
      exact hK _ no te
    · obtain ⟨g1, g2, g3⟩ := wlk_go hW h0 hH hp h
      have hw := wlk_at hW h0 hH hp j (by omega)
      have hwP := hH.1.P hw
      rw [show d0 - j = (d0 - j - 1) + 1 by omega] at hw
      refine s_nearer hn hT hmask hR hw (hH.near hW h0 hw) (fun no' te' => ?_)
      refine s_after hn hT hwP g1 (fun no2 te2 => ?_)
      rw [show nI j + 1 = nI (j + 1) from nI_add j 1]
      exact ih (j + 1) no2 te2 (by omega) (by omega)
theorem s_phaseNow {n tu mask sub w : Nat} {T : Nat → List Nat} {fr no te fa li ro su : Nat → Int32} {p : List Nat} (hn : n ≤ 8) (hW : Tw n tu T) (hT : Fr n tu T fr) (hmask : mask < 2 ^ 31) (hsub : sub < 2 ^ 31) (hw : w < 3) (hp : IsP n p) (hro : At ro p) {post : Int32 → (Int32 × (Nat → Int32) × (Nat → Int32) × (Nat → Int32) × (Nat → Int32) × (Nat → Int32)) → Prop} (h : ∀ wa no te fa li su, post (phA n tu mask sub T p w) (wa, no, te, fa, li, su)) : wp_X3_phaseNow (nI n) (nI tu) (nI mask) ro fr no te fa li su (nI sub) (nI w) post := by
  have hr : rank p < 40320 := Nat.lt_of_lt_of_le (rank_ltP hp) (fac_le hn)
  have hWA := fnd_Wh hW mask
  have hWB := fnd_Wh hW sub
  have hH := fdh_Wh hW mask sub
  unfold wp_X3_phaseNow
  refine s_layFor hn hmask hT (fun no1 te1 fa1 li1 hR1 => ?_)
  refine s_present hn hp hro ?_
  rw [nI_c (n := rank p) (by omega)]
  refine ⟨vp_in_nI hr (by decide), And.intro (fun hne => ?_) (fun he => ?_)⟩
  · have hne : ¬ fa1 (rank p) = -1 := hne
    rw [hR1.lenI hp] at hne
    have hd : ∃ d, (p, d) ∈ fnd n tu T mask := by
      rcases hWA.1.or p with a | a
      · exact a
      · exact absurd (lenI_no a) hne
    obtain ⟨d, hd⟩ := hd
    obtain ⟨d0, hd0⟩ := fdh_all (sub := sub) hW d p hd
    have hg := wlk_at hW (sb0_0 _) hH hd0 d0 (Nat.le_refl d0)
    rw [Nat.sub_self] at hg
    obtain ⟨e, he⟩ := sb0_mem.mp (hH.zero hg)
    have hgP := hH.1.P hg
    have hrg : rank (wlk T tu mask (fdh n tu T mask sub) p d0 d0) < 40320 := Nat.lt_of_lt_of_le (rank_ltP hgP) (fac_le hn)
    have hph : phA n tu mask sub T p w = if w = 0 then nI d0 else if w = 1 then nI e else nI (d0 + e) := by
      unfold phA
      rw [if_neg hne, dpt_at hH.1 hd0, dpt_at hWB.1 he]
    rw [hph] at h
    refine s_layFor hn hsub hT (fun no2 te2 fa2 li2 hR2 => ?_)
    have hlenB := Nat.le_trans hR2.1.len (fac_le hn)
    refine ⟨(fnd n tu T sub).length + 1, l_ph36 hlenB (fun _ su' hsu => ?_) ((fnd n tu T sub).length + 1) 0 su (by omega) (Nat.zero_le _) (fun j hj => by omega)⟩
    refine s_begins hn (fun fa3 li3 hR3 => ?_)
    have hsu' : ∀ j q, (fnd n tu T sub)[j]? = some q → su' j = nI (rank q.1) := fun j q hq => by
      rw [hsu j (List.getElem?_eq_some_iff.mp hq).1]
      exact (hR2.2.1 j q hq).1
    refine ⟨(fnd n tu T sub).length + 1, l_ph69 hn hWB.1 hsu' (fun _ fa4 li4 hR4 => ?_) ((fnd n tu T sub).length + 1) 0 fa3 li2 (by omega) (Nat.zero_le _) hR3.li⟩
    have hl0 : (sb0 (fnd n tu T sub)).length = (fnd n tu T sub).length := sb0_len _
    rw [← hl0]
    refine s_spread hn hmask hT hR4 (fun no5 te5 fa5 li5 hR5 => ?_)
    have hR5 : Rp n rank (fdh n tu T mask sub) fa5 li5 := hR5
    have hdl := hR5.dlt hn hd0
    refine s_present hn hp hro ?_
    rw [nI_c (n := rank p) (by omega)]
    refine ⟨vp_in_nI hr (by decide), fun x hx => ?_⟩
    have hx : x = fa5 (rank p) := hx
    rw [(hR5.eqd hn hp hdl).mpr hd0] at hx
    subst hx
    refine ⟨d0 + 1, l_ph118 hn hW hT hmask (sb0_0 _) hH hR5 hd0 (fun _ no6 te6 => ?_) (d0 + 1) 0 no5 te5 (by omega) (Nat.zero_le _)⟩
    refine s_layFor hn hsub hT (fun no7 te7 fa7 li7 hR7 => ?_)
    have hle : fa7 (rank (wlk T tu mask (fdh n tu T mask sub) p d0 d0)) = nI e := by
      rw [hR7.lenI hgP, lenI_at hWB.1 he]
    refine b_ne (b := 0) (by omega) (by omega) (fun w0 => ?_) (fun w0 => ?_)
    · rw [nI_c (n := rank (wlk T tu mask (fdh n tu T mask sub) p d0 d0)) (by omega)]
      refine b_ne (b := 1) (by omega) (by omega) (fun w1 => ⟨vp_in_nI hrg (by decide), ?_⟩) (fun w1 => ⟨vp_in_nI hrg (by decide), ?_⟩)
      · show post (nI d0 + fa7 (rank (wlk T tu mask (fdh n tu T mask sub) p d0 d0))) _
        rw [hle, nI_add]
        have := h (nI (fnd n tu T sub).length) no7 te7 fa7 li7 su'
        rw [if_neg w0, if_neg w1] at this
        exact this
      · show post (fa7 (rank (wlk T tu mask (fdh n tu T mask sub) p d0 d0))) _
        rw [hle]
        have := h (nI (fnd n tu T sub).length) no7 te7 fa7 li7 su'
        rw [if_neg w0, if_pos w1] at this
        exact this
    · have := h (nI (fnd n tu T sub).length) no7 te7 fa7 li7 su'
      rw [if_pos w0] at this
      exact this
  · have he : fa1 (rank p) = -1 := he
    rw [hR1.lenI hp] at he
    have := h (nI (fnd n tu T mask).length) no1 te1 fa1 li1 su
    rw [show phA n tu mask sub T p w = -1 by unfold phA; rw [if_pos he]] at this
    exact this
theorem s_phaseM {n tu mask : Nat} {T : Nat → List Nat} {fr no te fa li ro su : Nat → Int32} {wa : Int32} {p : List Nat} (hn : n ≤ 8) (hW : Tw n tu T) (hT : Fr n tu T fr) (hmask : mask < 2 ^ 31) (hp : IsP n p) (hro : At ro p) {x y : Int32} {post : Int32 → (Int32 × Int32 × (Nat → Int32) × (Nat → Int32) × (Nat → Int32) × (Nat → Int32) × (Nat → Int32)) → Prop} (h1 : ∀ sub w wa no te fa li su, ¬ x < 0 → x &&& (nI mask ^^^ (-1)) = 0 → x = nI sub → sub < 2 ^ 31 → w < 3 → y = nI w → post (phA n tu mask sub T p w) (0, wa, no, te, fa, li, su)) (h0 : (x < 0 ∨ ¬ x &&& (nI mask ^^^ (-1)) = 0 ∨ ∀ w, w < 3 → y ≠ nI w) → post 0 (1, wa, no, te, fa, li, su)) : wp_X3_phase (nI n) (nI tu) (nI mask) wa ro fr no te fa li su x y post := by
  unfold wp_X3_phase
  refine ⟨fun z => ⟨fun q => absurd q (by decide), fun _ => h0 (Or.inl z)⟩, fun hx0 => ⟨fun z => ⟨fun q => absurd q (by decide), fun _ => h0 (Or.inr (Or.inl z))⟩, fun hx1 => ?_⟩⟩
  refine s_withinK (k := 3) (by omega) (by decide) (fun w hw ey => ?_) (fun hy => ⟨fun _ => ⟨fun q => absurd q (by decide), fun _ => h0 (Or.inr (Or.inr hy))⟩, fun q => absurd rfl q⟩)
  refine ⟨fun q => absurd q (by decide), fun _ => ⟨fun _ => ?_, fun q => absurd (by decide) q⟩⟩
  obtain ⟨sub, hs, ex⟩ := nI_of hx0
  subst ex ey
  exact s_phaseNow hn hW hT hmask hs hw hp hro (fun wa' no' te' fa' li' su' => h1 sub w wa' no' te' fa' li' su' hx0 hx1 rfl hs hw rfl)
/-! one move forbidden -/
theorem i_drop {mask m : Nat} (hmask : mask < 2 ^ 31) (hm : m < 31) : nI mask &&& ((1 <<< (nI m &&& 31)) ^^^ (-1)) = nI (mask &&& (2 ^ 31 - 1 - 2 ^ m)) := by
  rw [i_shl hm, i_clear hmask hm]
def ifA (n tu mask : Nat) (T : Nat → List Nat) (p : List Nat) (m w : Nat) : Int32 := if w = 0 then nI (fnd n tu T (mask &&& (2 ^ 31 - 1 - 2 ^ m))).length else lenI (fnd n tu T (mask &&& (2 ^ 31 - 1 - 2 ^ m))) p
theorem s_ifC {n tu mask rm : Nat} {T : Nat → List Nat} {en : Nat → Nat → Int32} {tb kb : Int32} {lb fb sc ti : Nat → Int32} {p : List Nat} (hn : n ≤ 8) (hr1 : fac n ≤ rm) (hr2 : rm ≤ 40320) (htu : tu ≤ 6) (hmask : mask < 2 ^ (2 * tu)) (hE : En n tu T en) (hkb : Kp n tu T tb kb lb fb) (hp : IsP n p) (hti : At ti p) {x y : Int32} {post : Int32 → ((Nat → Int32) × Int32 × Int32 × (Nat → Int32) × (Nat → Int32)) → Prop} {postX : String → Prop} (h1 : ∀ m w sc tb kb lb fb, m < 2 * tu → x = nI m → w < 2 → y = nI w → mask.testBit m = true → Kp n tu T tb kb lb fb → post (ifA n tu mask T p m w) (sc, tb, kb, lb, fb)) (h2 : (∀ m, m < 2 * tu → x ≠ nI m) → postX "java/lang/IndexOutOfBoundsException") (h3 : ∀ m, m < 2 * tu → x = nI m → (∀ w, w < 2 → y ≠ nI w) → postX "java/lang/IllegalArgumentException") (h4 : ∀ m w, m < 2 * tu → x = nI m → w < 2 → y = nI w → mask.testBit m = false → postX "java/lang/IllegalStateException") : wp_X2_ifForbidden (nI n) (nI tu) (nI mask) ti sc (nI (fac n)) tb kb lb fb en rm x y post postX := by
  have hp12 := pow12 htu
  have hnp := (Nu.nu n).1 p hp
  unfold wp_X2_ifForbidden
  refine s_isMoveC htu (fun m hm e => ?_) (fun h => ⟨fun z => absurd rfl z, fun _ => h2 h⟩)
  refine ⟨fun _ => ?_, fun z => absurd z (by decide)⟩
  refine ⟨fun z => h3 m hm e (fun w hw e2 => by rw [e2] at z; exact i_nneg (by omega) z), fun hy0 => ?_⟩
  obtain ⟨w, hw, ey⟩ := nI_of hy0
  subst ey
  refine b_le (b := 1) hw (by omega) (fun hw2 => ?_) (fun hw2 => h3 m hm e (fun v hv e2 => by have := (nI_eq hw (by omega)).mp e2; omega))
  refine s_isAllowedC htu (fun j hj ej hb => ?_) (fun hb => ⟨fun z => absurd rfl z, fun _ => h4 m w hm e (by omega) rfl (hb m hm e)⟩)
  have hmj : j = m := (nI_eq (by omega) (by omega)).mp (ej.symm.trans e)
  subst hmj
  refine ⟨fun _ => ?_, fun z => absurd z (by decide)⟩
  have hlt : mask &&& (2 ^ 31 - 1 - 2 ^ j) < 2 ^ (2 * tu) := Nat.lt_of_le_of_lt Nat.and_le_left hmask
  rw [e, i_drop (by omega) (by omega)]
  refine s_others hn hr1 hr2 hlt hE hkb (fun lb' fb' hRB => ?_)
  have hKB := Kp.of htu hlt hRB
  refine b_ne (b := 0) hw (by omega) (fun w0 => ?_) (fun w0 => ?_)
  · refine s_presentCode hn hp hti (fun sc' _ => ?_)
    rw [nI_c (n := nu p) (by omega)]
    refine ⟨vp_in_nI (by omega) (by omega), ?_⟩
    show post (lb' (nu p)) _
    rw [hRB.lenI hp]
    have := h1 j w sc' _ _ lb' fb' hm e (by omega) rfl hb hKB
    rw [show ifA n tu mask T p j w = lenI (fnd n tu T (mask &&& (2 ^ 31 - 1 - 2 ^ j))) p by unfold ifA; rw [if_neg w0]] at this
    exact this
  · have := h1 j w sc _ _ lb' fb' hm e (by omega) rfl hb hKB
    rw [show ifA n tu mask T p j w = nI (fnd n tu T (mask &&& (2 ^ 31 - 1 - 2 ^ j))).length by unfold ifA; rw [if_pos w0]] at this
    exact this
theorem s_ifM {n tu mask : Nat} {T : Nat → List Nat} {fr no te fa li ro : Nat → Int32} {wa : Int32} {p : List Nat} (hn : n ≤ 8) (hT : Fr n tu T fr) (hmask : mask < 2 ^ 31) (hp : IsP n p) (hro : At ro p) {x y : Int32} {post : Int32 → (Int32 × Int32 × (Nat → Int32) × (Nat → Int32) × (Nat → Int32) × (Nat → Int32)) → Prop} (h1 : ∀ m w wa no te fa li, m < 2 * tu → x = nI m → w < 2 → y = nI w → mask.testBit m = true → post (ifA n tu mask T p m w) (0, wa, no, te, fa, li)) (h2 : (∀ m, m < 2 * tu → x ≠ nI m) → post 0 (1, wa, no, te, fa, li)) (h3 : ∀ m, m < 2 * tu → x = nI m → (∀ w, w < 2 → y ≠ nI w) → post 0 (2, wa, no, te, fa, li)) (h4 : ∀ m w, m < 2 * tu → x = nI m → w < 2 → y = nI w → mask.testBit m = false → post 0 (3, wa, no, te, fa, li)) : wp_X3_ifForbidden (nI n) (nI tu) (nI mask) wa ro fr no te fa li x y post := by
  have htu := hT.1
  have hr : rank p < 40320 := Nat.lt_of_lt_of_le (rank_ltP hp) (fac_le hn)
  unfold wp_X3_ifForbidden
  refine s_isMoveM htu (fun m hm e => ?_) (fun h => ⟨fun z => absurd rfl z, fun _ => ⟨fun z => absurd z (by decide), fun _ => h2 h⟩⟩)
  refine ⟨fun _ => ?_, fun z => absurd z (by decide)⟩
  refine s_withinK (k := 2) (by omega) (by decide) (fun w hw ey => ?_) (fun h => ⟨fun z => absurd rfl z, fun _ => ⟨fun z => absurd z (by decide), fun _ => h3 m hm e h⟩⟩)
  refine ⟨fun _ => ?_, fun z => absurd z (by decide)⟩
  subst e ey
  refine s_has hmask (by omega) (fun hb => ?_) (fun hb => ⟨fun _ => ⟨fun z => absurd z (by decide), fun _ => h4 m w hm rfl hw rfl hb⟩, fun z => absurd rfl z⟩)
  refine ⟨fun z => absurd z (by decide), fun _ => ⟨fun _ => ?_, fun z => absurd (by decide) z⟩⟩
  rw [i_drop hmask (by omega)]
  refine s_layFor hn (and_le31 hmask) hT (fun no' te' fa' li' hR => ?_)
  refine b_ne (b := 0) (by omega) (by omega) (fun w0 => ?_) (fun w0 => ?_)
  · refine s_present hn hp hro ?_
    rw [nI_c (n := rank p) (by omega)]
    refine ⟨vp_in_nI hr (by decide), ?_⟩
    show post (fa' (rank p)) _
    rw [hR.lenI hp]
    have := h1 m w (nI (fnd n tu T (mask &&& (2 ^ 31 - 1 - 2 ^ m))).length) no' te' fa' li' hm rfl hw rfl hb
    rw [show ifA n tu mask T p m w = lenI (fnd n tu T (mask &&& (2 ^ 31 - 1 - 2 ^ m))) p by unfold ifA; rw [if_neg w0]] at this
    exact this
  · have := h1 m w (nI (fnd n tu T (mask &&& (2 ^ 31 - 1 - 2 ^ m))).length) no' te' fa' li' hm rfl hw rfl hb
    rw [show ifA n tu mask T p m w = nI (fnd n tu T (mask &&& (2 ^ 31 - 1 - 2 ^ m))).length by unfold ifA; rw [if_pos w0]] at this
    exact this
