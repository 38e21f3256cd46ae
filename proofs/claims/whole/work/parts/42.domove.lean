theorem l_move56 {n : Nat} {q : List Nat} (hn : n ≤ 8) (hq : q.length = n) {te : Nat → Int32} (hte : At te q) {K : Int32 → (Nat → Int32) → Prop} (hK : ∀ a g, At g q → K a g) : ∀ N k g, n - k < N → k ≤ n → (∀ j, j < k → g j = nI (q.getD j 0)) → lp_X3_doMove_56 (nI n) te K N (nI k) g := by
  intro N
  induction N with
  | zero => intro k g h; omega
  | succ N ih =>
    intro k g h1 h2 h3
    rw [lp_X3_doMove_56]
    refine b_le (by omega) (by omega) (fun h => ?_) (fun h => ?_)
    · exact hK _ g (fun j hj => h3 j (by omega))
    · rw [nI_c (n := k) (by omega), hte k (by omega), show nI k + 1 = nI (k + 1) from nI_add k 1]
      refine ⟨vp_in_nI (by omega) (by decide), vp_in_nI (by omega) (by decide), ih (k + 1) _ (by omega) (by omega) (fun j hj => ?_)⟩
      by_cases e : j = k
      · subst e; exact if_pos rfl
      · rw [show ∀ v, upd g k v j = g j from fun v => if_neg e]; exact h3 j (by omega)
theorem s_doMove {n m : Nat} {s p : List Nat} (hn : n ≤ 8) (hm : m < 12) (hs : IsP n s) (hp : IsP n p) {ro fr te : Nat → Int32} (hro : At ro p) (hfr : ∀ j, j < n → fr (8 * m + j) = nI (s.getD j 0)) {post : Int32 → ((Nat → Int32) × (Nat → Int32)) → Prop} (h : ∀ ro' te', At ro' (act s p) → post (nI (mvd s n)) (ro', te')) : wp_X3_doMove (nI n) ro fr te (nI m) post := by
  unfold wp_X3_doMove
  refine s_shift hn hm hs hp hfr hro (fun te' hte => ?_)
  have hq : (act s p).length = n := by rw [act_len, hs.len]
  refine ⟨n + 1, l_move17 hn hs hp hro hte (fun _ => ?_) (n + 1) 0 (by omega) (Nat.zero_le n)⟩
  exact ⟨n + 1, l_move56 hn hq hte (fun _ ro' hr => h ro' te' hr) (n + 1) 0 ro (by omega) (Nat.zero_le n) (fun j hj => by omega)⟩
theorem s_makeM {n tu mask : Nat} {T : Nat → List Nat} {p : List Nat} (hn : n ≤ 8) (hmask : mask < 2 ^ 31) {ro fr te : Nat → Int32} (hT : Fr n tu T fr) (hp : IsP n p) (hro : At ro p) {x : Int32} {post : Int32 → (Int32 × (Nat → Int32) × (Nat → Int32)) → Prop} (h1 : ∀ m ro' te', m < 2 * tu → x = nI m → mask.testBit m = true → At ro' (act (T m) p) → post (nI (mvd (T m) n)) (0, ro', te')) (h2 : ∀ m, m < 2 * tu → x = nI m → mask.testBit m = false → post 0 (2, ro, te)) (h3 : (∀ m, m < 2 * tu → x ≠ nI m) → post 0 (1, ro, te)) : wp_X3_make (nI n) (nI tu) (nI mask) ro fr te x post := by
  have htu := hT.1
  unfold wp_X3_make
  refine s_isMoveM htu (fun m hm e => ?_) (fun h => ?_)
  · refine ⟨fun _ => ?_, fun z => absurd z (by decide)⟩
    rw [e]
    refine s_has hmask (by omega) (fun hb => ?_) (fun hb => ?_)
    · refine ⟨fun z => absurd z (by decide), fun _ => ⟨fun _ => ?_, fun z => absurd (by decide) z⟩⟩
      obtain ⟨hs, hf⟩ := hT.2 m hm
      exact s_doMove hn (by omega) hs hp hro hf (fun ro' te' hr => h1 m ro' te' hm e hb hr)
    · exact ⟨fun _ => ⟨fun z => absurd z (by decide), fun _ => h2 m hm e hb⟩, fun z => absurd rfl z⟩
  · exact ⟨fun z => absurd rfl z, fun _ => ⟨fun z => absurd z (by decide), fun _ => h3 h⟩⟩
theorem s_makeC {n tu mask : Nat} {T : Nat → List Nat} {p : List Nat} (hn : n ≤ 8) (htu : tu ≤ 6) (hTP : ∀ m, m < 2 * tu → IsP n (T m)) {ti sc : Nat → Int32} {so : Nat → Nat → Int32} (hso : ∀ m, m < 2 * tu → At (so m) (T m)) (hp : IsP n p) (hti : At ti p) {x : Int32} {post : Int32 → ((Nat → Int32) × (Nat → Int32)) → Prop} {postX : String → Prop} (h1 : ∀ m ti' sc', m < 2 * tu → x = nI m → mask.testBit m = true → At ti' (act (T m) p) → post (nI (mvd (T m) n)) (ti', sc')) (h2 : ∀ m, m < 2 * tu → x = nI m → mask.testBit m = false → postX "java/lang/IllegalStateException") (h3 : (∀ m, m < 2 * tu → x ≠ nI m) → postX "java/lang/IndexOutOfBoundsException") : wp_X2_make (nI n) (nI tu) (nI mask) ti sc so x post postX := by
  unfold wp_X2_make
  refine s_isMoveC htu (fun m hm e => ?_) (fun h => ⟨fun z => absurd rfl z, fun _ => h3 h⟩)
  refine ⟨fun _ => ?_, fun z => absurd z (by decide)⟩
  refine s_isAllowedC htu (fun j hj ej hb => ?_) (fun hb => ?_)
  · refine ⟨fun _ => ?_, fun z => absurd z (by decide)⟩
    rw [ej]
    refine s_carryOut hn (by omega) (hTP j hj) hp hti (hso j hj) (fun sc' ti' _ ht => ?_)
    exact ⟨n + 1, l_make49 hn (by omega) (hTP j hj) (hso j hj) (fun _ => h1 j ti' sc' hj ej hb ht) (n + 1) 0 (by omega) (Nat.zero_le n)⟩
  · exact ⟨fun z => absurd rfl z, fun _ => h2 m hm e (hb m hm e)⟩
