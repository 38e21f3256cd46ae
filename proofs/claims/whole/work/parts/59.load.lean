/-! the turns of a text -/
def dgt (n : Nat) (b : List Nat) (t k : Nat) : Nat := b.getD ((n + 1) * t + k) 0 - 48
def grpP (n : Nat) (b : List Nat) (t : Nat) : List Nat := (List.range n).map (dgt n b t)
theorem grpP_get {n t k : Nat} {b : List Nat} (h : k < n) : (grpP n b t).getD k 0 = dgt n b t k := by
  rw [grpP, getD_map (α := Nat) _ _ (by rw [List.length_range]; exact h), getD_range h]
theorem grpP_P {n t : Nat} {b : List Nat} (h1 : ∀ k, k < n → dgt n b t k < n) (h2 : ∀ k k', k < n → k' < n → dgt n b t k = dgt n b t k' → k = k') : IsP n (grpP n b t) := by
  refine IsP.of (by simp [grpP]) ?_ ?_
  · refine List.nodup_iff_pairwise_ne.mpr ?_
    unfold grpP
    rw [List.pairwise_map]
    have := List.nodup_iff_pairwise_ne.mp (List.nodup_range (n := n))
    exact this.imp_of_mem (fun {i j} hi hj hne e => hne (h2 i j (List.mem_range.mp hi) (List.mem_range.mp hj) e))
  · intro x hx
    obtain ⟨j, hj, rfl⟩ := List.mem_map.mp hx
    exact h1 j (List.mem_range.mp hj)
def Tl (n tu : Nat) (T : Nat → List Nat) (b : List Nat) : Nat → Nat → List Nat
  | 0 => T
  | t + 1 => addT (Tl n tu T b t) (tu + t) (grpP n b t)
def ml (tu mask : Nat) : Nat → Nat
  | 0 => mask
  | t + 1 => more (ml tu mask t) (tu + t)
theorem ml_lt {tu mask : Nat} (h : mask < 2 ^ (2 * tu)) : ∀ t, ml tu mask t < 2 ^ (2 * (tu + t))
  | 0 => h
  | t + 1 => more_lt (ml_lt h t)
/-- what is known of the text where a state is reached -/
def Pv (n : Nat) (b : List Nat) (i : Nat) (s : Nat × Nat × Nat) (cur : Nat) : Prop :=
  (s.2.2 = n → s.1 = cur + 1) ∧ (s.2.2 ≠ n → s.1 = cur) ∧ i = (n + 1) * cur + s.2.2 ∧ (∀ t, t < cur → IsP n (grpP n b t) ∧ ∀ k, k < n → 48 ≤ b.getD ((n + 1) * t + k) 0) ∧ (∀ k, k < s.2.2 → 48 ≤ b.getD ((n + 1) * cur + k) 0 ∧ dgt n b cur k < n) ∧ (∀ u, s.2.1.testBit u = true ↔ ∃ k, k < s.2.2 ∧ dgt n b cur k = u) ∧ ∀ k k', k < s.2.2 → k' < s.2.2 → dgt n b cur k = dgt n b cur k' → k = k'
theorem Pv.full {n : Nat} {b : List Nat} {i : Nat} {s : Nat × Nat × Nat} {cur : Nat} (h : Pv n b i s cur) (hd : s.2.2 = n) : IsP n (grpP n b cur) := by
  obtain ⟨-, -, -, -, h5, -, h7⟩ := h
  rw [hd] at h5 h7
  exact grpP_P (fun k hk => (h5 k hk).2) h7
theorem Pv.step {n tu : Nat} (hn1 : 1 ≤ n) {b : List Nat} {i : Nat} {s s' : Nat × Nat × Nat} {cur : Nat} (h : Pv n b i s cur) (hle : s.2.2 ≤ n) (ht : tk n tu s (b.getD i 0) = some s') : Pv n b (i + 1) s' (if s.2.2 = n then cur + 1 else cur) := by
  have hfull := h.full
  obtain ⟨h1, h2, h3, h4, h5, h6, h7⟩ := h
  unfold tk at ht
  split at ht
  · rename_i hd
    rw [if_pos hd]
    split at ht
    · cases ht
      refine ⟨fun z => ?_, fun _ => h1 hd, ?_, fun t htc => ?_, fun k hk => ?_, fun u => ?_, fun k k' hk => ?_⟩
      · have z : (0 : Nat) = n := z
        omega
      · show i + 1 = (n + 1) * (cur + 1) + 0
        rw [Nat.mul_succ, h3, hd]
        omega
      · by_cases e : t = cur
        · subst e
          rw [hd] at h5
          exact ⟨hfull hd, fun k hk => (h5 k hk).1⟩
        · exact h4 t (by omega)
      · have hk : k < 0 := hk
        omega
      · constructor
        · intro z
          have z : (0 : Nat).testBit u = true := z
          rw [Nat.zero_testBit] at z
          cases z
        · rintro ⟨k, hk, _⟩
          have hk : k < 0 := hk
          omega
      · have hk : k < 0 := hk
        omega
    · cases ht
  · rename_i hd
    rw [if_neg hd]
    have hre := h2 hd
    split at ht
    · rename_i hc
      cases ht
      have hi : i = (n + 1) * cur + s.2.2 := h3
      have hdg : dgt n b cur s.2.2 = b.getD i 0 - 48 := by unfold dgt; rw [← hi]
      have hnot : ∀ k, k < s.2.2 → dgt n b cur k ≠ b.getD i 0 - 48 := fun k hk e => by
        have := (h6 (b.getD i 0 - 48)).mpr ⟨k, hk, e⟩
        rw [hc.2.2.2] at this
        cases this
      refine ⟨fun z => ?_, fun z => ?_, ?_, h4, fun k hk => ?_, fun u => ?_, fun k k' hk hk' e => ?_⟩
      · have z : s.2.2 + 1 = n := z
        show s.1 + (if s.2.2 + 1 = n then 1 else 0) = cur + 1
        rw [if_pos z, hre]
      · have z : s.2.2 + 1 ≠ n := z
        show s.1 + (if s.2.2 + 1 = n then 1 else 0) = cur
        rw [if_neg z, hre, Nat.add_zero]
      · show i + 1 = (n + 1) * cur + (s.2.2 + 1)
        omega
      · have hk : k < s.2.2 + 1 := hk
        by_cases e : k = s.2.2
        · subst e
          rw [hdg, ← hi]
          exact ⟨hc.2.1, hc.2.2.1⟩
        · exact h5 k (by omega)
      · show (s.2.1 ||| 2 ^ (b.getD i 0 - 48)).testBit u = true ↔ ∃ k, k < s.2.2 + 1 ∧ dgt n b cur k = u
        rw [t_or, Bool.or_eq_true, decide_eq_true_eq, h6]
        constructor
        · rintro (⟨k, hk, e⟩ | e)
          · exact ⟨k, by omega, e⟩
          · exact ⟨s.2.2, by omega, by rw [hdg]; exact e⟩
        · rintro ⟨k, hk, e⟩
          by_cases q : k = s.2.2
          · subst q
            rw [hdg] at e
            exact Or.inr e
          · exact Or.inl ⟨k, by omega, e⟩
      · have hk : k < s.2.2 + 1 := hk
        have hk' : k' < s.2.2 + 1 := hk'
        by_cases q : k = s.2.2
        · by_cases q' : k' = s.2.2
          · omega
          · subst q
            rw [hdg] at e
            exact absurd e.symm (hnot k' (by omega))
        · by_cases q' : k' = s.2.2
          · subst q'
            rw [hdg] at e
            exact absurd e (hnot k (by omega))
          · exact h7 k k' (by omega) (by omega) e
    · cases ht
theorem pst_Pv {n tu : Nat} (hn : n ≤ 8) (hn1 : 1 ≤ n) (htu : tu ≤ 6) {b : List Nat} : ∀ {i : Nat} {s : Nat × Nat × Nat}, pst n tu b i = some s → ∃ cur, Pv n b i s cur
  | 0, s, h => by
    cases h
    refine ⟨0, fun z => ?_, fun _ => rfl, ?_, fun t ht => by omega, fun k hk => ?_, fun u => ?_, fun k k' hk => ?_⟩
    · have z : (0 : Nat) = n := z
      omega
    · show 0 = (n + 1) * 0 + 0
      omega
    · have hk : k < 0 := hk
      omega
    · constructor
      · intro z
        have z : (0 : Nat).testBit u = true := z
        rw [Nat.zero_testBit] at z
        cases z
      · rintro ⟨k, hk, _⟩
        have hk : k < 0 := hk
        omega
    · have hk : k < 0 := hk
      omega
  | i + 1, s, h => by
    obtain ⟨s0, h1, h2⟩ := pst_prev h
    obtain ⟨cur, hc⟩ := pst_Pv hn hn1 htu h1
    exact ⟨_, hc.step hn1 (pst_Pf hn htu h1).1 h2⟩
/-- a text of turns: its groups -/
theorem isT_grp {n tu re us : Nat} (hn : n ≤ 8) (hn1 : 1 ≤ n) (htu : tu ≤ 6) {b : List Nat} (h : pst n tu b b.length = some (re, us, n)) : tu + re ≤ 6 ∧ 1 ≤ re ∧ b.length + 1 = (n + 1) * re ∧ ∀ t, t < re → IsP n (grpP n b t) ∧ ∀ k, k < n → 48 ≤ b.getD ((n + 1) * t + k) 0 := by
  obtain ⟨cur, hc⟩ := pst_Pv hn hn1 htu h
  have hf := (pst_Pf hn htu h).2.1
  have hfull := hc.full rfl
  obtain ⟨h1, h2, h3, h4, h5, h6, h7⟩ := hc
  have hre : re = cur + 1 := h1 rfl
  have h3 : b.length = (n + 1) * cur + n := h3
  have h5 : ∀ k, k < n → 48 ≤ b.getD ((n + 1) * cur + k) 0 ∧ dgt n b cur k < n := h5
  refine ⟨hf, by omega, by rw [hre, Nat.mul_succ, h3]; omega, fun t ht => ?_⟩
  by_cases e : t = cur
  · subst e
    exact ⟨hfull, fun k hk => (h5 k hk).1⟩
  · exact h4 t (by omega)
theorem Tl_Tw {n tu : Nat} {T : Nat → List Nat} (hT : Tw n tu T) {b : List Nat} : ∀ re, tu + re ≤ 6 → (∀ t, t < re → IsP n (grpP n b t)) → Tw n (tu + re) (Tl n tu T b re)
  | 0, _, _ => hT
  | re + 1, h1, h2 => (Tl_Tw hT re (by omega) (fun t ht => h2 t (by omega))).add (by omega) (h2 re (by omega))
/-! the class -/
theorem l_ldC {n tu mask rm re us : Nat} {T : Nat → List Nat} {b : List Nat} {f : Nat → Int32} (hn : n ≤ 8) (hn2 : 2 ≤ n) (hr1 : fac n ≤ rm) (hr2 : rm ≤ 40320) (htu : tu ≤ 6) (hf : Bu b f) (hT : pst n tu b b.length = some (re, us, n)) {K : Int32 → Int32 → Int32 → Int32 → (Nat → Int32) → (Nat → Int32) → Int32 → Int32 → (Nat → Nat → Int32) → (Nat → Nat → Int32) → Prop} (hK : ∀ a c sp mv so en, Ss (tu + re) (Tl n tu T b re) so → En n (tu + re) (Tl n tu T b re) en → K a c (nI (tu + re)) (nI (ml tu mask re)) sp mv (-1) (-1) so en) : ∀ N i s cur sp mv ak bk so0 so en, b.length - i < N → i ≤ b.length → pst n tu b i = some s → Pv n b i s cur → Ss (tu + s.1) (Tl n tu T b s.1) so0 → (s.2.2 ≠ n → So (tu + s.1) (dgt n b cur) s.2.2 so0 so) → (s.2.2 = n → so = so0) → En n (tu + s.1) (Tl n tu T b s.1) en → (1 ≤ s.1 → ak = -1 ∧ bk = -1) → lp_X2_load_21 (nI n) (nI (fac n)) (nI b.length) f (nI n) rm K N (nI s.2.2) (nI i) (nI (tu + s.1)) (nI (ml tu mask s.1)) sp mv ak bk so en := by
  have h60 := hf.2.1
  obtain ⟨e1, e2, e3, e4⟩ := isT_grp hn (by omega) htu hT
  intro N
  induction N with
  | zero => intro i s cur sp mv ak bk so0 so en h; omega
  | succ N ih =>
    intro i s cur sp mv ak bk so0 so en g1 g2 hs hP hS hSo hSe hE hkn
    obtain ⟨p1, p2, p3⟩ := pst_Pf hn htu hs
    rw [lp_X2_load_21]
    refine b_le (by omega) (by omega) (fun h => ?_) (fun h => ?_)
    · have : i = b.length := by omega
      subst this
      rw [hT] at hs
      cases hs
      have hso : so = so0 := hSe rfl
      subst hso
      obtain ⟨k1, k2⟩ := hkn e2
      rw [k1, k2]
      exact hK _ _ sp mv so en hS hE
    · obtain ⟨q1, q2, q3⟩ := hf.get h
      have hst := pst_step hs
      obtain ⟨s', hs'⟩ : ∃ s', pst n tu b (i + 1) = some s' := pte_some (by rw [pte_all.mpr ⟨_, hT⟩]; omega)
      have ht : tk n tu s (b.getD i 0) = some s' := by rw [← hst]; exact hs'
      have hP' := hP.step (show 1 ≤ n by omega) p1 ht
      rw [nI_c (n := i) (by omega), q1]
      refine ⟨vp_in_nI (by omega) (by decide), ?_⟩
      by_cases hd : s.2.2 = n
      · rw [if_pos hd] at hP'
        unfold tk at ht
        rw [if_pos hd] at ht
        split at ht
        · rename_i hc
          cases ht
          refine ⟨fun z => absurd (by rw [hc.1]; rfl) z, fun _ => ?_⟩
          rw [show nI i + 1 = nI (i + 1) from nI_add i 1]
          have hso : so = so0 := hSe hd
          subst hso
          exact ih (i + 1) (s.1, 0, 0) (cur + 1) sp mv ak bk so so en (by omega) (by omega) hs' hP' hS (fun _ => ⟨fun _ _ _ => rfl, fun j hj => absurd hj (Nat.not_lt_zero j)⟩) (fun _ => rfl) hE hkn
        · cases ht
      · rw [if_neg hd] at hP'
        have hcur : s.1 = cur := hP.2.1 hd
        have hi : i = (n + 1) * cur + s.2.2 := hP.2.2.1
        have hbit := hP.2.2.2.2.2.1
        unfold tk at ht
        rw [if_neg hd] at ht
        split at ht
        · rename_i hc
          cases ht
          have hdg : dgt n b cur s.2.2 = b.getD i 0 - 48 := by unfold dgt; rw [← hi]
          refine ⟨fun _ => ⟨vp_in_nI (by omega) (by decide), ?_⟩, fun z => ?_⟩
          · rw [show nI (b.getD i 0) - 48 = nI (b.getD i 0 - 48) from pk_sub (b := 48) hc.2.1]
            refine s_setSource (s := dgt n b cur) hc.1 (by omega) (by omega) hdg (fun j hj e => ?_) (hSo hd) (fun so' hso' => ?_)
            · have := (hbit (b.getD i 0 - 48)).mpr ⟨j, hj, e⟩
              rw [hc.2.2.2] at this
              cases this
            · rw [show nI s.2.2 + 1 = nI (s.2.2 + 1) from nI_add _ 1, show nI i + 1 = nI (i + 1) from nI_add i 1]
              refine b_ne (by omega) (by omega) (fun e => ?_) (fun e => ?_)
              · rw [if_neg e] at hs' hP'
                exact ih (i + 1) (s.1 + 0, s.2.1 ||| 2 ^ (b.getD i 0 - 48), s.2.2 + 1) cur sp mv ak bk so0 so' en (by omega) (by omega) hs' hP' hS (fun _ => hso') (fun z => absurd z e) hE hkn
              · rw [if_pos e] at hs' hP'
                have hgP : IsP n (grpP n b cur) := (e4 cur (by
                  have : s.1 + 1 ≤ re := by
                    rcases Nat.lt_or_ge s.1 re with a | a
                    · exact a
                    · exfalso
                      have h8 : (n + 1) * re ≤ (n + 1) * cur := Nat.mul_le_mul_left _ (by omega)
                      omega
                  omega)).1
                have hso2 : So (tu + s.1) (dgt n b cur) n so0 so' := by
                  rw [e] at hso'
                  exact hso'
                obtain ⟨r1, r2⟩ := hS.add hgP (fun j hj => (grpP_get hj).symm) hso2
                refine s_finishTurn hn hn2 hc.1 hr1 hr2 hgP.invP r2 (fun sp' mv' en' hL => ?_)
                have hE' := hE.add hc.1 hgP hL
                subst hcur
                exact ih (i + 1) (s.1 + 1, s.2.1 ||| 2 ^ (b.getD i 0 - 48), s.2.2 + 1) s.1 sp' mv' (-1) (-1) so' so' en' (by omega) (by omega) hs' hP' r1 (fun z => absurd e z) (fun _ => rfl) hE' (fun _ => ⟨rfl, rfl⟩)
          · have := (nI_eq (a := b.getD i 0) (b := 59) (by omega) (by omega)).mp z
            omega
        · cases ht
theorem s_loadC {n tu mask rm : Nat} {T : Nat → List Nat} {b : List Nat} {f sp mv : Nat → Int32} {ak bk : Int32} {so en : Nat → Nat → Int32} (hn : n ≤ 8) (hn2 : 2 ≤ n) (hr1 : fac n ≤ rm) (hr2 : rm ≤ 40320) (hT : Tw n tu T) (hE : En n tu T en) (hso : Ss tu T so) (hf : Bu b f) {post : Int32 → (Int32 × Int32 × Int32 × (Nat → Int32) × (Nat → Int32) × Int32 × Int32 × (Nat → Nat → Int32) × (Nat → Nat → Int32)) → Prop} {postX : String → Prop} (h1 : ∀ re us sp mv so en, pst n tu b b.length = some (re, us, n) → Ss (tu + re) (Tl n tu T b re) so → En n (tu + re) (Tl n tu T b re) en → post (nI (tu + re)) (nI (tu + re), nI (ml tu mask re), 0, sp, mv, -1, -1, so, en)) (h0 : ¬ isT n tu b → postX "java/lang/IllegalArgumentException") : wp_X2_load (nI n) (nI tu) (nI mask) (nI b.length) f (nI n) (nI (fac n)) sp mv ak bk so en rm post postX := by
  have htu := hT.1
  unfold wp_X2_load
  refine s_isT hn htu hf (fun hw => ?_) (fun hw => ⟨fun z => absurd rfl z, fun _ => h0 hw⟩)
  refine ⟨fun _ => ?_, fun z => absurd z (by decide)⟩
  obtain ⟨re, us, hre⟩ := hw
  obtain ⟨cur, hP⟩ := pst_Pv hn (show 1 ≤ n by omega) htu (show pst n tu b 0 = some (0, 0, 0) from rfl)
  have hc0 : cur = 0 := by
    have := hP.2.2.1
    rcases Nat.eq_zero_or_pos cur with a | a
    · exact a
    · exfalso
      have h8 : (n + 1) * 1 ≤ (n + 1) * cur := Nat.mul_le_mul_left _ a
      omega
  subst hc0
  exact ⟨b.length + 1, l_ldC (mask := mask) hn hn2 hr1 hr2 htu hf hre (K := fun v_12 v_13 c_14 c_15 c_16 c_17 c_18 c_19 c_20 c_21 => post c_14 (c_14, c_15, 0, c_16, c_17, c_18, c_19, c_20, c_21)) (fun _ _ sp mv so en a b' => h1 re us sp mv so en hre a b') (b.length + 1) 0 (0, 0, 0) 0 sp mv ak bk so so en (by omega) (Nat.zero_le _) rfl hP hso (fun _ => ⟨fun _ _ _ => rfl, fun j hj => absurd hj (Nat.not_lt_zero j)⟩) (fun _ => rfl) hE (fun z => by have z : 1 ≤ 0 := z; omega)⟩
/-! the model -/
theorem l_ldM54 {n t : Nat} {b : List Nat} {f : Nat → Int32} (hn : n ≤ 8) (hf : Bu b f) (hlen : (n + 1) * t + n ≤ b.length) (hc : ∀ k, k < n → 48 ≤ b.getD ((n + 1) * t + k) 0) {K : Int32 → (Nat → Int32) → Prop} (hK : ∀ a no, (∀ j, j < n → no j = nI (dgt n b t j)) → K a no) : ∀ N k no, n - k < N → k ≤ n → (∀ j, j < k → no j = nI (dgt n b t j)) → lp_X3_load_54 f (nI n) (nI t) K N (nI k) no := by
  have h60 := hf.2.1
  intro N
  induction N with
  | zero => intro k no h; omega
  | succ N ih =>
    intro k no h1 h2 h3
    rw [lp_X3_load_54, show nI n + 1 = nI (n + 1) from nI_add n 1, pk_mul, nI_add, show nI k + 1 = nI (k + 1) from nI_add k 1]
    refine b_le (by omega) (by omega) (fun h => ?_) (fun h => ?_)
    · exact hK _ no (fun j hj => h3 j (by omega))
    · have hi : (n + 1) * t + k < b.length := by omega
      obtain ⟨g1, g2, g3⟩ := hf.get hi
      rw [nI_c (n := (n + 1) * t + k) (by omega), nI_c (n := k) (by omega), g1, show nI (b.getD ((n + 1) * t + k) 0) - 48 = nI (dgt n b t k) from pk_sub (b := 48) (hc k h)]
      refine ⟨vp_in_nI (by omega) (by decide), vp_in_nI (by omega) (by decide), ih (k + 1) _ (by omega) (by omega) (fun j hj => ?_)⟩
      by_cases e : j = k
      · subst e; exact if_pos rfl
      · rw [show ∀ v, upd no k v j = no j from fun v => if_neg e]; exact h3 j (by omega)
theorem l_ldM47 {n tu mask re : Nat} {T : Nat → List Nat} {b : List Nat} {f : Nat → Int32} (hn : n ≤ 8) (hf : Bu b f) (h6 : tu + re ≤ 6) (hlen : b.length + 1 = (n + 1) * re) (hg : ∀ t, t < re → IsP n (grpP n b t) ∧ ∀ k, k < n → 48 ≤ b.getD ((n + 1) * t + k) 0) {K : Int32 → Int32 → Int32 → (Nat → Int32) → (Nat → Int32) → Prop} (hK : ∀ a fr no, Fr n (tu + re) (Tl n tu T b re) fr → K a (nI (tu + re)) (nI (ml tu mask re)) fr no) : ∀ N t fr no, re - t < N → t ≤ re → Fr n (tu + t) (Tl n tu T b t) fr → lp_X3_load_47 f (nI n) (nI re) K N (nI t) (nI (tu + t)) (nI (ml tu mask t)) fr no := by
  have h60 := hf.2.1
  intro N
  induction N with
  | zero => intro t fr no h; omega
  | succ N ih =>
    intro t fr no h1 h2 hF
    rw [lp_X3_load_47, show nI t + 1 = nI (t + 1) from nI_add t 1]
    refine b_le (by omega) (by omega) (fun h => ?_) (fun h => ?_)
    · have : t = re := by omega
      subst this; exact hK _ fr no hF
    · obtain ⟨hgP, hgc⟩ := hg t h
      have hl2 : (n + 1) * (t + 1) ≤ (n + 1) * re := Nat.mul_le_mul_left _ (by omega)
      rw [Nat.mul_succ] at hl2
      refine ⟨n + 1, l_ldM54 hn hf (by omega) hgc (fun _ no' hno => ?_) (n + 1) 0 no (by omega) (Nat.zero_le _) (fun j hj => by omega)⟩
      have hlt : ∀ j, j < n → dgt n b t j < n := fun j hj => by
        have := hgP.lt hj
        rwa [grpP_get hj] at this
      refine s_putTurn (s := fun j => if j < n then dgt n b t j else j) hn (by omega) (fun j hj => by rw [if_pos hj]; exact hlt j hj) (fun i j e => ?_) (fun j hj => by rw [if_pos hj]; exact hno j hj) (fun fr' hFo => ?_)
      · by_cases hi : i < n
        · by_cases hj : j < n
          · rw [if_pos hi, if_pos hj] at e
            refine hgP.inj hi hj ?_
            rw [grpP_get hi, grpP_get hj]; exact e
          · rw [if_pos hi, if_neg hj] at e
            have := hlt i hi
            omega
        · by_cases hj : j < n
          · rw [if_neg hi, if_pos hj] at e
            have := hlt j hj
            omega
          · rw [if_neg hi, if_neg hj] at e
            exact e
      · exact ih (t + 1) fr' no' (by omega) (by omega) (hF.more hn (by omega) hgP (hFo.cong (fun j hj => by rw [if_pos hj, grpP_get hj])))
theorem s_loadM {n tu mask : Nat} {T : Nat → List Nat} {b : List Nat} {fr no f : Nat → Int32} (hn : n ≤ 8) (hn1 : 1 ≤ n) (hT : Fr n tu T fr) (hf : Bu b f) {post : Int32 → (Int32 × Int32 × Int32 × Int32 × Int32 × Int32 × Int32 × (Nat → Int32) × (Nat → Int32)) → Prop} (h1 : ∀ re us a c d fr no, pst n tu b b.length = some (re, us, n) → Fr n (tu + re) (Tl n tu T b re) fr → post (nI (tu + re)) (0, nI (tu + re), nI (ml tu mask re), 0, a, c, d, fr, no)) (h0 : ¬ isT n tu b → ∀ a c d, post 0 (1, nI tu, nI mask, nI b.length, a, c, d, fr, no)) : wp_X3_load (nI n) (nI tu) (nI mask) (nI b.length) fr f no post := by
  have htu := hT.1
  have h60 := hf.2.1
  have hle := pte_le n tu b
  unfold wp_X3_load
  refine s_turnsLen hn htu hf (fun s hs => ?_)
  have hp := pst_Pf hn htu hs
  have hne : ¬ isT n tu b → ((1 : Int32) ≤ 0 → ∃ N_13 : Nat, lp_X3_load_47 f (nI n) (nI s.1) (fun v_14 c_15 c_16 c_17 c_18 => post c_15 (1, c_15, c_16, 0, nI s.1, nI s.2.1, nI s.2.2, c_17, c_18)) N_13 0 (nI tu) (nI mask) fr no) ∧ (¬ (1 : Int32) ≤ 0 → post 0 (1, nI tu, nI mask, nI b.length, nI s.1, nI s.2.1, nI s.2.2, fr, no)) := fun hn' => ⟨fun z => absurd z (by decide), fun _ => h0 hn' _ _ _⟩
  refine b_ne (by omega) (by omega) (fun e => hne (fun z => e ((isT_iff hn).mp z).2)) (fun e => ?_)
  rw [e] at hs
  refine b_ne (by have := hp.1; omega) (by omega) (fun e2 => hne (fun z => ?_)) (fun e2 => ?_)
  · obtain ⟨re, us, hre⟩ := z
    rw [hs] at hre
    cases hre
    exact e2 rfl
  · refine ⟨fun _ => ?_, fun z => absurd (by decide) z⟩
    obtain ⟨re, us, di⟩ := s
    have e2 : di = n := e2
    subst e2
    obtain ⟨g1, g2, g3, g4⟩ := isT_grp hn hn1 htu hs
    exact ⟨re + 1, l_ldM47 (T := T) (mask := mask) hn hf g1 g3 g4 (K := fun v_29 c_30 c_31 c_32 c_33 => post c_30 (0, c_30, c_31, 0, nI re, nI us, nI di, c_32, c_33)) (fun _ fr' no' hF => h1 re us _ _ _ fr' no' hs hF) (re + 1) 0 fr no (by omega) (Nat.zero_le _) hT⟩
