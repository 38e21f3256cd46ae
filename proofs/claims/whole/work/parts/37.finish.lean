/-! a turn more -/
theorem i_three : ∀ t, t < 6 → (3 : Int32) <<< (nI (2 * t) &&& 31) = nI (3 * 2 ^ (2 * t)) := by decide
def more (mask tu : Nat) : Nat := mask ||| 3 * 2 ^ (2 * tu)
theorem more_lt {mask tu : Nat} (h : mask < 2 ^ (2 * tu)) : more mask tu < 2 ^ (2 * (tu + 1)) := by
  have e : 2 ^ (2 * (tu + 1)) = 4 * 2 ^ (2 * tu) := by
    rw [Nat.mul_add, Nat.pow_add, Nat.mul_comm]
  have hp : 0 < 2 ^ (2 * tu) := Nat.pow_pos (by decide)
  exact Nat.or_lt_two_pow (by omega) (by omega)
theorem s_putTurn {n tu mask : Nat} {s : Nat → Nat} (hn : n ≤ 8) (htu : tu < 6) (hs : ∀ j, j < n → s j < n) (hinj : ∀ i j, s i = s j → i = j) {no fr : Nat → Int32} (hno : ∀ j, j < n → no j = nI (s j)) {post : (Int32 × Int32 × (Nat → Int32)) → Prop} (h : ∀ fr', Fo tu s n fr fr' → post (nI (tu + 1), nI (more mask tu), fr')) : wp_X3_putTurn (nI n) (nI tu) (nI mask) fr no post := by
  unfold wp_X3_putTurn
  refine ⟨n + 1, l_put2 hn htu hs hinj hno (fun _ fr' hF => ?_) (n + 1) 0 fr (by omega) (Nat.zero_le n) ⟨fun _ _ => rfl, fun i hi => by omega⟩⟩
  intro x hx y hy
  rw [show (2 : Int32) * nI tu = nI (2 * tu) from pk_mul 2 tu, i_three tu htu, i_or] at hx
  rw [hx, hy, show nI tu + 1 = nI (tu + 1) from nI_add tu 1]
  exact h fr' hF
theorem s_finishTurn {n tu mask rm : Nat} {s : List Nat} (hn : n ≤ 8) (hn2 : 2 ≤ n) (htu : tu < 6) (hr1 : fac n ≤ rm) (hr2 : rm ≤ 40320) (hs : IsP n s) {so : Nat → Nat → Int32} {sp mv : Nat → Int32} (hso : At (so (2 * tu + 1)) s) {en : Nat → Nat → Int32} {post : (Int32 × Int32 × (Nat → Int32) × (Nat → Int32) × Int32 × Int32 × (Nat → Nat → Int32)) → Prop} (h : ∀ sp mv en', Ln n (2 * tu) (2 * tu + 1) s (fac n) en en' → post (nI (tu + 1), nI (more mask tu), sp, mv, -1, -1, en')) : wp_X2_finishTurn (nI tu) (nI mask) (nI n) (nI (fac n)) sp mv so en rm post := by
  have e1 : (2 : Int32) * nI tu = nI (2 * tu) := pk_mul 2 tu
  have e2 : nI (2 * tu) + 1 = nI (2 * tu + 1) := nI_add _ 1
  unfold wp_X2_finishTurn
  rw [e1, e2, nI_c (n := 2 * tu + 1) (by omega), i_three tu htu, i_or]
  refine ⟨vp_in_nI (by omega) (by decide), ?_⟩
  refine s_linkTurn hn hn2 htu hr1 hr2 hs hso (fun sp' mv' en' hL => ?_)
  intro x hx y hy
  rw [hx, hy, show nI tu + 1 = nI (tu + 1) from nI_add tu 1]
  exact h sp' mv' en' hL
