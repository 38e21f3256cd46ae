/-! letters and words of the buffer -/
def Bu (b : List Nat) (f : Nat → Int32) : Prop := At f b ∧ b.length ≤ 60 ∧ ∀ c, c ∈ b → 32 ≤ c ∧ c ≤ 126
theorem Bu.get {b : List Nat} {f : Nat → Int32} (h : Bu b f) {i : Nat} (hi : i < b.length) : f i = nI (b.getD i 0) ∧ 32 ≤ b.getD i 0 ∧ b.getD i 0 ≤ 126 := ⟨h.1 i hi, h.2.2 _ (getD_mem hi)⟩
theorem Bu.nil (f : Nat → Int32) : Bu [] f := ⟨fun j hj => by simp at hj, by simp, fun c hc => by simp at hc⟩
def mvL (tu c : Nat) : Option Nat := if 97 ≤ c ∧ c - 97 < tu then some (2 * (c - 97)) else if 65 ≤ c ∧ c - 65 < tu then some (2 * (c - 65) + 1) else none
def mvI (tu c : Nat) : Int32 := match mvL tu c with
  | some m => nI m
  | none => -1
theorem mvL_lt {tu c m : Nat} (h : mvL tu c = some m) : m < 2 * tu := by
  unfold mvL at h
  split at h
  · cases h; omega
  · split at h
    · cases h; omega
    · cases h
theorem mvI_some {tu c m : Nat} (h : mvL tu c = some m) : mvI tu c = nI m := by unfold mvI; rw [h]
theorem mvI_none {tu c : Nat} (h : mvL tu c = none) : mvI tu c = -1 := by unfold mvI; rw [h]
theorem i_less97 : ∀ c, c < 97 → nI c - 97 < 0 := by decide
theorem i_less65 : ∀ c, c < 65 → nI c - 65 < 0 := by decide
theorem s_withinC {a b c : Nat} {x y z : Int32} (ha : a < 2 ^ 31) (hb : b < 2 ^ 31) (hc : c < 2 ^ 31) (ex : x = nI c) (ey : y = nI a) (ez : z = nI b) {post : Int32 → Unit → Prop} (h1 : a ≤ c → c ≤ b → post 1 ()) (h0 : c < a ∨ b < c → post 0 ()) : wp_X3_within x y z post := by
  subst ex ey ez
  exact s_withinN ha hb hc h1 h0
theorem s_isMoveN {tu m : Nat} (htu : tu ≤ 6) (hm : m < 2 ^ 31) {post : Int32 → Unit → Prop} (h1 : m < 2 * tu → post 1 ()) (h0 : 2 * tu ≤ m → post 0 ()) : wp_X3_isMove (nI tu) (nI m) post := by
  refine s_isMoveM htu (fun j hj e => ?_) (fun h => ?_)
  · have : m = j := (nI_eq hm (by omega)).mp e
    subst this; exact h1 hj
  · rcases Nat.lt_or_ge m (2 * tu) with a | a
    · exact absurd rfl (h m a)
    · exact h0 a
theorem s_moveBy {tu c : Nat} (htu : tu ≤ 6) (hc : c ≤ 126) {post : Int32 → Unit → Prop} (h : post (mvI tu c) ()) : wp_X3_moveBy (nI tu) (nI c) post := by
  unfold wp_X3_moveBy
  refine s_withinC (a := 97) (b := 122) (c := c) (by omega) (by omega) (by omega) rfl rfl rfl (fun g1 g2 => ?_) (fun g => ?_)
  · refine ⟨fun z => absurd z (by decide), fun _ x hx => ?_⟩
    have ex : x = nI (2 * (c - 97)) := by rw [hx, show (97 : Int32) = nI 97 from rfl, pk_sub g1, show (2 : Int32) = nI 2 from rfl, pk_mul]
    subst ex
    refine s_isMoveN htu (by omega) (fun q => ?_) (fun q => ?_)
    · rw [mvI_some (show mvL tu c = some (2 * (c - 97)) from if_pos ⟨g1, by omega⟩)] at h
      exact ⟨fun z => absurd z (by decide), fun _ => h⟩
    · rw [mvI_none (show mvL tu c = none from by unfold mvL; rw [if_neg (by omega), if_neg (by omega)])] at h
      exact ⟨fun _ => h, fun z => absurd rfl z⟩
  · refine ⟨fun _ => ?_, fun z => absurd rfl z⟩
    refine s_withinC (a := 65) (b := 90) (c := c) (by omega) (by omega) (by omega) rfl rfl rfl (fun g1 g2 => ?_) (fun g' => ?_)
    · refine ⟨fun z => absurd z (by decide), fun _ x hx => ?_⟩
      have ex : x = nI (2 * (c - 65) + 1) := by rw [hx, show (65 : Int32) = nI 65 from rfl, pk_sub g1, show (2 : Int32) = nI 2 from rfl, pk_mul]; exact nI_add _ 1
      subst ex
      refine s_isMoveN htu (by omega) (fun q => ?_) (fun q => ?_)
      · rw [mvI_some (show mvL tu c = some (2 * (c - 65) + 1) from by unfold mvL; rw [if_neg (by omega), if_pos ⟨g1, by omega⟩])] at h
        exact ⟨fun z => absurd z (by decide), fun _ => h⟩
      · rw [mvI_none (show mvL tu c = none from by unfold mvL; rw [if_neg (by omega), if_neg (by omega)])] at h
        exact ⟨fun _ => h, fun z => absurd rfl z⟩
    · rw [mvI_none (show mvL tu c = none from by unfold mvL; rw [if_neg (by omega), if_neg (by omega)])] at h
      refine ⟨fun _ => ?_, fun z => absurd rfl z⟩
      refine s_isMoveM htu (fun j hj e => ?_) (fun _ => ⟨fun _ => h, fun z => absurd rfl z⟩)
      exact absurd e.symm (nI_neg1 (by omega))
theorem s_letter {tu c : Nat} (htu : tu ≤ 6) (hc : c ≤ 126) {post : Int32 → Unit → Prop} (h : post (mvI tu c) ()) : wp_X2_moveOfLetter (nI tu) (nI c) post := by
  have back : ¬ (97 ≤ c ∧ c - 97 < tu) → ∀ x : Int32, x = nI c - 65 → (x < 0 → post (-1) ()) ∧ (¬ x < 0 → (nI tu ≤ x → post (-1) ()) ∧ (¬ nI tu ≤ x → post ((2 * x) + 1) ())) := by
    intro hn x hx
    by_cases g1 : 65 ≤ c
    · have ex : x = nI (c - 65) := by rw [hx, show (65 : Int32) = nI 65 from rfl, pk_sub g1]
      subst ex
      refine ⟨fun z => absurd z (i_nneg (by omega)), fun _ => b_le (by omega) (by omega) (fun q => ?_) (fun q => ?_)⟩
      · rw [mvI_none (show mvL tu c = none from by unfold mvL; rw [if_neg hn, if_neg (by omega)])] at h
        exact h
      · rw [mvI_some (show mvL tu c = some (2 * (c - 65) + 1) from by unfold mvL; rw [if_neg hn, if_pos ⟨g1, q⟩])] at h
        rw [show (2 : Int32) = nI 2 from rfl, pk_mul, show nI (2 * (c - 65)) + 1 = nI (2 * (c - 65) + 1) from nI_add _ 1]
        exact h
    · rw [mvI_none (show mvL tu c = none from by unfold mvL; rw [if_neg hn, if_neg (by omega)])] at h
      have hneg := i_less65 c (by omega)
      rw [← hx] at hneg
      exact ⟨fun _ => h, fun z => absurd hneg z⟩
  unfold wp_X2_moveOfLetter
  intro x hx
  by_cases g1 : 97 ≤ c
  · have ex : x = nI (c - 97) := by rw [hx, show (97 : Int32) = nI 97 from rfl, pk_sub g1]
    subst ex
    refine ⟨fun z => absurd z (i_nneg (by omega)), fun _ => b_le (by omega) (by omega) (fun q => back (by omega)) (fun q => ?_)⟩
    rw [mvI_some (show mvL tu c = some (2 * (c - 97)) from if_pos ⟨g1, q⟩)] at h
    rw [show (2 : Int32) = nI 2 from rfl, pk_mul]
    exact h
  · have hneg := i_less97 c (by omega)
    rw [← hx] at hneg
    exact ⟨fun _ => back (by omega), fun z => absurd hneg z⟩
theorem mvI_neg {tu c : Nat} (htu : tu ≤ 6) {A B : Prop} (h0 : mvL tu c = none → A) (h1 : ∀ m, mvL tu c = some m → m < 2 * tu → B) : (mvI tu c = -1 → A) ∧ (¬ mvI tu c = -1 → B) := by
  cases hm : mvL tu c with
  | none => rw [mvI_none hm]; exact ⟨fun _ => h0 hm, fun z => absurd rfl z⟩
  | some m =>
    have := mvL_lt hm
    rw [mvI_some hm]
    exact ⟨fun z => absurd z (nI_neg1 (by omega)), fun _ => h1 m hm this⟩
/-- the first letter that is none -/
def wdl (tu : Nat) (b : List Nat) : Nat := fa_first (fun i => (mvL tu (b.getD i 0)).isNone) b.length
theorem wdl_le (tu : Nat) (b : List Nat) : wdl tu b ≤ b.length := fa_first_le _ _
theorem wdl_some {tu : Nat} {b : List Nat} {i : Nat} (h : i < wdl tu b) : ∃ m, mvL tu (b.getD i 0) = some m := by
  have := fa_first_no (fun i => (mvL tu (b.getD i 0)).isNone) b.length i h
  cases hm : mvL tu (b.getD i 0) with
  | none =>
    rw [hm] at this
    cases this
  | some m => exact ⟨m, rfl⟩
theorem wdl_eq {tu : Nat} {b : List Nat} {k : Nat} (hk : k < b.length) (h1 : k ≤ wdl tu b) (h : mvL tu (b.getD k 0) = none) : wdl tu b = k := by
  rcases Nat.eq_or_lt_of_le h1 with a | a
  · exact a.symm
  · obtain ⟨m, hm⟩ := wdl_some a
    rw [h] at hm; cases hm
theorem wdl_next {tu : Nat} {b : List Nat} {k m : Nat} (hk : k < b.length) (h1 : k ≤ wdl tu b) (h : mvL tu (b.getD k 0) = some m) : k + 1 ≤ wdl tu b := by
  rcases Nat.eq_or_lt_of_le h1 with a | a
  · have := fa_first_yes (fun i => (mvL tu (b.getD i 0)).isNone) b.length (by show wdl tu b < b.length; omega)
    have this : (mvL tu (b.getD (wdl tu b) 0)).isNone = true := this
    rw [← a, h] at this
    cases this
  · exact a
theorem l_wlM {tu : Nat} (htu : tu ≤ 6) {b : List Nat} {f : Nat → Int32} (hf : Bu b f) {K : Int32 → Prop} (hK : K (nI (wdl tu b))) : ∀ N k, b.length - k < N → k ≤ wdl tu b → lp_X3_wordLength_2 f (nI b.length) (nI tu) K N (nI k) := by
  have h60 := hf.2.1
  have hle := wdl_le tu b
  intro N
  induction N with
  | zero => intro k h; omega
  | succ N ih =>
    intro k h1 h2
    rw [lp_X3_wordLength_2, show nI k + 1 = nI (k + 1) from nI_add k 1]
    refine b_le (by omega) (by omega) (fun h => ?_) (fun h => ?_)
    · have : wdl tu b = k := by omega
      rw [← this]; exact hK
    · obtain ⟨g1, g2, g3⟩ := hf.get h
      rw [nI_c (n := k) (by omega), g1]
      refine ⟨vp_in_nI (by omega) (by decide), s_moveBy htu g3 ?_⟩
      refine mvI_neg htu (fun hm => ?_) (fun m hm _ => ih (k + 1) (by omega) (wdl_next h h2 hm))
      rw [← wdl_eq h h2 hm]; exact hK
theorem s_wordLen {tu : Nat} (htu : tu ≤ 6) {b : List Nat} {f : Nat → Int32} (hf : Bu b f) {post : Int32 → Unit → Prop} (h : post (nI (wdl tu b)) ()) : wp_X3_wordLength (nI tu) (nI b.length) f post :=
  ⟨b.length + 1, l_wlM htu hf (K := fun v => post v ()) h (b.length + 1) 0 (by omega) (Nat.zero_le _)⟩
theorem l_wlC {tu : Nat} (htu : tu ≤ 6) {b : List Nat} {f : Nat → Int32} (hf : Bu b f) {K24 K32 : Int32 → Prop} (hK : K24 (nI (wdl tu b))) (hK2 : wdl tu b = b.length → ∀ a, K32 a) : ∀ N k, b.length - k < N → k ≤ wdl tu b → lp_X2_firstWordError_2 (nI b.length) f (nI tu) K24 K32 N (nI k) := by
  have h60 := hf.2.1
  have hle := wdl_le tu b
  intro N
  induction N with
  | zero => intro k h; omega
  | succ N ih =>
    intro k h1 h2
    rw [lp_X2_firstWordError_2, show nI k + 1 = nI (k + 1) from nI_add k 1]
    refine b_le (by omega) (by omega) (fun h => hK2 (by omega) _) (fun h => ?_)
    obtain ⟨g1, g2, g3⟩ := hf.get h
    rw [nI_c (n := k) (by omega), g1]
    refine ⟨vp_in_nI (by omega) (by decide), s_letter htu g3 ?_⟩
    have := mvI_neg (c := b.getD k 0) htu (A := K24 (nI k)) (B := lp_X2_firstWordError_2 (nI b.length) f (nI tu) K24 K32 N (nI (k + 1))) (fun hm => by rw [← wdl_eq h h2 hm]; exact hK) (fun m hm _ => ih (k + 1) (by omega) (wdl_next h h2 hm))
    exact ⟨this.2, this.1⟩
theorem s_wordErr {tu : Nat} (htu : tu ≤ 6) {b : List Nat} {f : Nat → Int32} (hf : Bu b f) {post : Int32 → Unit → Prop} (h : post (nI (wdl tu b)) ()) : wp_X2_firstWordError (nI tu) (nI b.length) f post :=
  ⟨b.length + 1, l_wlC htu hf (K24 := fun v => post v ()) (K32 := fun _ => post (nI b.length) ()) h (fun e _ => by rw [e] at h; exact h) (b.length + 1) 0 (by omega) (Nat.zero_le _)⟩
def isW (tu : Nat) (b : List Nat) : Prop := 0 < b.length ∧ wdl tu b = b.length
theorem s_isWordM {tu : Nat} (htu : tu ≤ 6) {b : List Nat} {f : Nat → Int32} (hf : Bu b f) {post : Int32 → Unit → Prop} (h1 : isW tu b → post 1 ()) (h0 : ¬ isW tu b → post 0 ()) : wp_X3_isWord (nI tu) (nI b.length) f post := by
  have h60 := hf.2.1
  have hle := wdl_le tu b
  unfold wp_X3_isWord
  refine b_le (b := 0) (by omega) (by omega) (fun h => h0 (fun q => by have := q.1; omega)) (fun h => ?_)
  refine s_wordLen htu hf ?_
  exact b_ne (by omega) (by omega) (fun q => h0 (fun z => q z.2)) (fun q => h1 ⟨h, q⟩)
theorem s_isWordC {tu : Nat} (htu : tu ≤ 6) {b : List Nat} {f : Nat → Int32} (hf : Bu b f) {post : Int32 → Unit → Prop} (h1 : isW tu b → post 1 ()) (h0 : ¬ isW tu b → post 0 ()) : wp_X2_isWord (nI tu) (nI b.length) f post := by
  have h60 := hf.2.1
  have hle := wdl_le tu b
  unfold wp_X2_isWord
  refine b_le (b := 0) (by omega) (by omega) (fun h => h0 (fun q => by have := q.1; omega)) (fun h => ?_)
  refine s_wordErr htu hf ?_
  exact b_ne (by omega) (by omega) (fun q => h0 (fun z => q z.2)) (fun q => h1 ⟨h, q⟩)
theorem isW.at {tu : Nat} {b : List Nat} (h : isW tu b) {i : Nat} (hi : i < b.length) : ∃ m, mvL tu (b.getD i 0) = some m := wdl_some (by rw [h.2]; exact hi)
/-! the word is carried out -/
def wrun (T : Nat → List Nat) (tu : Nat) (b : List Nat) (p : List Nat) : Nat → List Nat
  | 0 => p
  | i + 1 => match mvL tu (b.getD i 0) with
    | some m => act (T m) (wrun T tu b p i)
    | none => wrun T tu b p i
theorem wrun_P {n tu : Nat} {T : Nat → List Nat} (hT : Tw n tu T) {b p : List Nat} (hp : IsP n p) : ∀ i, IsP n (wrun T tu b p i)
  | 0 => hp
  | i + 1 => by
    rw [wrun]
    split
    · rename_i m hm
      exact (hT.P (mvL_lt hm)).actP (wrun_P hT hp i)
    · exact wrun_P hT hp i
theorem l_carC {n tu : Nat} {T : Nat → List Nat} (hn : n ≤ 8) (hT : Tw n tu T) {so : Nat → Nat → Int32} (hso : ∀ m, m < 2 * tu → At (so m) (T m)) {b p : List Nat} {f : Nat → Int32} (hf : Bu b f) (hp : IsP n p) {K : Int32 → (Nat → Int32) → (Nat → Int32) → Prop} (hK : ∀ a sc ti, At ti (wrun T tu b p b.length) → K a sc ti) : ∀ N i sc ti, b.length - i < N → i ≤ b.length → At ti (wrun T tu b p i) → lp_X2_carryOutInput_2 (nI b.length) f (nI n) so (nI tu) K N (nI i) sc ti := by
  have h60 := hf.2.1
  have htu := hT.1
  intro N
  induction N with
  | zero => intro i sc ti h; omega
  | succ N ih =>
    intro i sc ti h1 h2 hti
    rw [lp_X2_carryOutInput_2, show nI i + 1 = nI (i + 1) from nI_add i 1]
    refine b_le (by omega) (by omega) (fun h => ?_) (fun h => ?_)
    · have : i = b.length := by omega
      subst this; exact hK _ sc ti hti
    · obtain ⟨g1, g2, g3⟩ := hf.get h
      rw [nI_c (n := i) (by omega), g1]
      refine ⟨vp_in_nI (by omega) (by decide), s_letter htu g3 ?_⟩
      have hst : wrun T tu b p (i + 1) = match mvL tu (b.getD i 0) with | some m => act (T m) (wrun T tu b p i) | none => wrun T tu b p i := rfl
      cases hm : mvL tu (b.getD i 0) with
      | none =>
        rw [mvI_none hm]
        rw [hm] at hst
        exact ⟨fun _ => ih (i + 1) sc ti (by omega) (by omega) (by rw [hst]; exact hti), fun z => absurd rfl z⟩
      | some m =>
        have hm2 := mvL_lt hm
        rw [mvI_some hm]
        rw [hm] at hst
        refine ⟨fun z => absurd z (nI_neg1 (by omega)), fun _ => ?_⟩
        exact s_carryOut hn (by omega) (hT.P hm2) (wrun_P hT hp i) hti (hso m hm2) (fun sc' ti' _ h3 => ih (i + 1) sc' ti' (by omega) (by omega) (by rw [hst]; exact h3))
theorem s_carryIn {n tu : Nat} {T : Nat → List Nat} (hn : n ≤ 8) (hT : Tw n tu T) {so : Nat → Nat → Int32} (hso : ∀ m, m < 2 * tu → At (so m) (T m)) {b p : List Nat} {f sc ti : Nat → Int32} (hf : Bu b f) (hp : IsP n p) (hti : At ti p) {post : ((Nat → Int32) × (Nat → Int32)) → Prop} (h : ∀ sc ti, At ti (wrun T tu b p b.length) → post (sc, ti)) : wp_X2_carryOutInput (nI n) (nI tu) (nI b.length) sc f ti so post :=
  ⟨b.length + 1, l_carC hn hT hso hf hp (K := fun v_8 c_9 c_10 => post (c_9, c_10)) (fun _ sc ti h3 => h sc ti h3) (b.length + 1) 0 sc ti (by omega) (Nat.zero_le _) hti⟩
/-- all its moves are allowed -/
def alW (tu mask : Nat) (b : List Nat) (k : Nat) : Prop := ∀ i m, i < k → mvL tu (b.getD i 0) = some m → mask.testBit m = true
theorem l_runC19 {tu mask : Nat} (htu : tu ≤ 6) {b : List Nat} {f : Nat → Int32} (hf : Bu b f) (hw : isW tu b) {K44 K60 : Int32 → Prop} (h0 : ¬ alW tu mask b b.length → ∀ a, K44 a) (h1 : alW tu mask b b.length → ∀ a, K60 a) : ∀ N i, b.length - i < N → i ≤ b.length → alW tu mask b i → lp_X2_run_19 (nI mask) (nI b.length) f (nI tu) K44 K60 N (nI i) := by
  have h60 := hf.2.1
  intro N
  induction N with
  | zero => intro i h; omega
  | succ N ih =>
    intro i g1 g2 g3
    rw [lp_X2_run_19, show nI i + 1 = nI (i + 1) from nI_add i 1]
    refine b_le (by omega) (by omega) (fun h => ?_) (fun h => ?_)
    · have : i = b.length := by omega
      subst this; exact h1 g3 _
    · obtain ⟨q1, q2, q3⟩ := hf.get h
      rw [nI_c (n := i) (by omega), q1]
      refine ⟨vp_in_nI (by omega) (by decide), s_letter htu q3 ?_⟩
      obtain ⟨m, hm⟩ := hw.at h
      have hm2 := mvL_lt hm
      rw [mvI_some hm]
      refine s_isAllowedC htu (fun j hj e hb => ?_) (fun hb => ?_)
      · have : m = j := (nI_eq (by omega) (by omega)).mp e
        subst this
        refine ⟨fun _ => ih (i + 1) (by omega) (by omega) (fun k m' hk hm' => ?_), fun z => absurd z (by decide)⟩
        by_cases q : k = i
        · subst q
          rw [hm] at hm'; cases hm'; exact hb
        · exact g3 k m' (by omega) hm'
      · refine ⟨fun z => absurd rfl z, fun _ => h0 (fun hall => ?_) _⟩
        have := hall i m h hm
        rw [hb m hm2 rfl] at this
        cases this
theorem s_runC {n tu mask : Nat} {T : Nat → List Nat} (hn : n ≤ 8) (hT : Tw n tu T) {so : Nat → Nat → Int32} (hso : ∀ m, m < 2 * tu → At (so m) (T m)) {b p : List Nat} {f sc ti : Nat → Int32} (hf : Bu b f) (hp : IsP n p) (hti : At ti p) {post : Int32 → (Int32 × (Nat → Int32) × (Nat → Int32)) → Prop} {postX : String → Prop} (h1 : ∀ ti sc, isW tu b → alW tu mask b b.length → At ti (wrun T tu b p b.length) → post (nI b.length) (0, ti, sc)) (h2 : isW tu b → ¬ alW tu mask b b.length → postX "java/lang/IllegalStateException") (h3 : ¬ isW tu b → postX "java/lang/IllegalArgumentException") : wp_X2_run (nI n) (nI tu) (nI mask) (nI b.length) ti sc f so post postX := by
  unfold wp_X2_run
  refine s_isWordC hT.1 hf (fun hw => ?_) (fun hw => ⟨fun z => absurd rfl z, fun _ => h3 hw⟩)
  refine ⟨fun _ => ?_, fun z => absurd z (by decide)⟩
  refine ⟨b.length + 1, l_runC19 hT.1 hf hw (fun hna _ => h2 hw hna) (fun ha _ => ?_) (b.length + 1) 0 (by omega) (Nat.zero_le _) (fun k m hk => by omega)⟩
  exact s_carryIn hn hT hso hf hp hti (fun sc' ti' h => h1 ti' sc' hw ha h)
theorem l_alM {tu mask : Nat} (htu : tu ≤ 6) (hmask : mask < 2 ^ 31) {b : List Nat} {f : Nat → Int32} (hf : Bu b f) (hw : isW tu b) {K : Int32 → Int32 → Prop} (h1 : alW tu mask b b.length → ∀ a, K 1 a) (h0 : ¬ alW tu mask b b.length → ∀ a, K 0 a) : ∀ N i v, b.length - i < N → i ≤ b.length → (alW tu mask b i → v = 1) → (¬ alW tu mask b i → v = 0) → lp_X3_isAllowedWord_4 (nI mask) f (nI b.length) (nI tu) K N v (nI i) := by
  have h60 := hf.2.1
  intro N
  induction N with
  | zero => intro i v h; omega
  | succ N ih =>
    intro i v g1 g2 g3 g4
    rw [lp_X3_isAllowedWord_4, show nI i + 1 = nI (i + 1) from nI_add i 1]
    refine b_le (by omega) (by omega) (fun h => ?_) (fun h => ?_)
    · have e : i = b.length := by omega
      subst e
      by_cases ha : alW tu mask b b.length
      · rw [g3 ha]; exact h1 ha _
      · rw [g4 ha]; exact h0 ha _
    · have hlow : alW tu mask b (i + 1) → alW tu mask b i := fun a k m hk hm => a k m (by omega) hm
      refine ⟨fun z => ?_, fun z => ?_⟩
      · have hna : ¬ alW tu mask b i := fun a => by
          rw [g3 a] at z
          exact absurd z (by decide)
        exact ih (i + 1) 0 (by omega) (by omega) (fun a => absurd (hlow a) hna) (fun _ => rfl)
      · have ha : alW tu mask b i := by
          by_cases a : alW tu mask b i
          · exact a
          · exact absurd (g4 a) z
        obtain ⟨q1, q2, q3⟩ := hf.get h
        rw [nI_c (n := i) (by omega), q1]
        refine ⟨vp_in_nI (by omega) (by decide), s_moveBy htu q3 ?_⟩
        obtain ⟨m, hm⟩ := hw.at h
        have hm2 := mvL_lt hm
        rw [mvI_some hm]
        refine s_has hmask (by omega) (fun hb => ?_) (fun hb => ?_)
        · refine ⟨fun z => absurd z (by decide), fun _ => ih (i + 1) 1 (by omega) (by omega) (fun _ => rfl) (fun hna => absurd (fun k m' hk hm' => ?_) hna)⟩
          by_cases q : k = i
          · subst q
            rw [hm] at hm'; cases hm'; exact hb
          · exact ha k m' (by omega) hm'
        · refine ⟨fun _ => ih (i + 1) 0 (by omega) (by omega) (fun a => ?_) (fun _ => rfl), fun z => absurd rfl z⟩
          have := a i m (by omega) hm
          rw [hb] at this
          cases this
theorem l_runM43 {n tu : Nat} {T : Nat → List Nat} (hn : n ≤ 8) (hTw : Tw n tu T) {fr : Nat → Int32} (hT : Fr n tu T fr) {b p : List Nat} {f : Nat → Int32} (hf : Bu b f) (hw : isW tu b) (hp : IsP n p) {K : Int32 → (Nat → Int32) → (Nat → Int32) → Prop} (hK : ∀ a ro te, At ro (wrun T tu b p b.length) → K a ro te) : ∀ N i ro te, b.length - i < N → i ≤ b.length → At ro (wrun T tu b p i) → lp_X3_run_43 f fr (nI n) (nI tu) (nI b.length) K N (nI i) ro te := by
  have h60 := hf.2.1
  have htu := hTw.1
  intro N
  induction N with
  | zero => intro i ro te h; omega
  | succ N ih =>
    intro i ro te h1 h2 hro
    rw [lp_X3_run_43, show nI i + 1 = nI (i + 1) from nI_add i 1]
    refine b_le (by omega) (by omega) (fun h => ?_) (fun h => ?_)
    · have : i = b.length := by omega
      subst this; exact hK _ ro te hro
    · obtain ⟨g1, g2, g3⟩ := hf.get h
      rw [nI_c (n := i) (by omega), g1]
      refine ⟨vp_in_nI (by omega) (by decide), s_moveBy htu g3 ?_⟩
      obtain ⟨m, hm⟩ := hw.at h
      have hm2 := mvL_lt hm
      have hst : wrun T tu b p (i + 1) = match mvL tu (b.getD i 0) with | some m => act (T m) (wrun T tu b p i) | none => wrun T tu b p i := rfl
      rw [hm] at hst
      rw [mvI_some hm]
      obtain ⟨hs, hfr⟩ := hT.2 m hm2
      exact s_doMove hn (by omega) hs (wrun_P hTw hp i) hro hfr (fun ro' te' h3 => ih (i + 1) ro' te' (by omega) (by omega) (by rw [hst]; exact h3))
theorem s_runM {n tu mask : Nat} {T : Nat → List Nat} (hn : n ≤ 8) (hTw : Tw n tu T) {fr : Nat → Int32} (hT : Fr n tu T fr) (hmask : mask < 2 ^ 31) {b p : List Nat} {f te ro : Nat → Int32} (hf : Bu b f) (hp : IsP n p) (hro : At ro p) {post : Int32 → (Int32 × Int32 × (Nat → Int32) × (Nat → Int32)) → Prop} (h1 : ∀ ro te, isW tu b → alW tu mask b b.length → At ro (wrun T tu b p b.length) → post (nI b.length) (0, 0, ro, te)) (h2 : isW tu b → ¬ alW tu mask b b.length → post 0 (2, nI b.length, ro, te)) (h3 : ¬ isW tu b → post 0 (1, nI b.length, ro, te)) : wp_X3_run (nI n) (nI tu) (nI mask) (nI b.length) ro fr f te post := by
  have htu := hTw.1
  unfold wp_X3_run
  refine s_isWordM htu hf (fun hw => ?_) (fun hw => ⟨fun z => absurd rfl z, fun _ => ⟨fun z => absurd z (by decide), fun _ => h3 hw⟩⟩)
  refine ⟨fun _ => ?_, fun z => absurd z (by decide)⟩
  refine ⟨b.length + 1, l_alM htu hmask hf hw (fun ha a => ⟨rfl, ?_⟩) (fun ha a => ⟨rfl, ?_⟩) (b.length + 1) 0 1 (by omega) (Nat.zero_le _) (fun _ => rfl) (fun z => absurd (fun k m hk => by omega) z)⟩
  · refine ⟨fun z => absurd z (by decide), fun _ => ⟨fun _ => ?_, fun z => absurd (by decide) z⟩⟩
    exact ⟨b.length + 1, l_runM43 hn hTw hT hf hw hp (K := fun v_20 c_21 c_22 => post (nI b.length) (0, 0, c_21, c_22)) (fun _ ro' te' h => h1 ro' te' hw ha h) (b.length + 1) 0 ro te (by omega) (Nat.zero_le _) hro⟩
  · exact ⟨fun _ => ⟨fun z => absurd z (by decide), fun _ => h2 hw ha⟩, fun z => absurd rfl z⟩
