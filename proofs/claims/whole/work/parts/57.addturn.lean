/-! a turn is added, on both sides -/
def Ss (tu : Nat) (T : Nat → List Nat) (so : Nat → Nat → Int32) : Prop := ∀ m, m < 2 * tu → At (so m) (T m)
theorem Ss.add {n tu : Nat} {T : Nat → List Nat} {so0 so : Nat → Nat → Int32} (h : Ss tu T so0) {s : Nat → Nat} {p : List Nat} (hp : IsP n p) (hs : ∀ j, j < n → s j = p.getD j 0) (hS : So tu s n so0 so) : Ss (tu + 1) (addT T tu p) so ∧ At (so (2 * tu + 1)) (inv p) := by
  have r1 : At (so (2 * tu)) p := fun j hj => by
    rw [hp.len] at hj
    rw [(hS.2 j hj).1, hs j hj]
  have r2 : At (so (2 * tu + 1)) (inv p) := fun t ht => by
    rw [inv_len, hp.len] at ht
    have h1 := hp.invP.lt ht
    have h2 := (hS.2 _ h1).2
    rw [hs _ h1, hp.at_inv ht] at h2
    exact h2
  refine ⟨fun m hm => ?_, r2⟩
  by_cases e1 : m = 2 * tu
  · subst e1; rw [addT_even]; exact r1
  · by_cases e2 : m = 2 * tu + 1
    · subst e2; rw [addT_odd]; exact r2
    · rw [addT_old (show m < 2 * tu by omega), hS.1 m e1 e2]
      exact h m (by omega)
theorem s_addTurnC {n tu mask rm : Nat} {T : Nat → List Nat} {en so : Nat → Nat → Int32} {sp mv : Nat → Int32} (hn : n ≤ 8) (hn2 : 2 ≤ n) (hr1 : fac n ≤ rm) (hr2 : rm ≤ 40320) (hT : Tw n tu T) (hE : En n tu T en) (hso : Ss tu T so) {x y z : Int32} {post : Int32 → (Int32 × Int32 × (Nat → Int32) × (Nat → Int32) × Int32 × Int32 × (Nat → Nat → Int32) × (Nat → Nat → Int32)) → Prop} {postX : String → Prop} (h1 : ∀ k a b sp mv so en, k ≤ 2 → a < b → b < n → tu < 6 → x = nI k → y = nI a → z = nI b → Ss (tu + 1) (addT T tu (turn n k a b)) so → En n (tu + 1) (addT T tu (turn n k a b)) en → post (nI tu) (nI (tu + 1), nI (more mask tu), sp, mv, -1, -1, so, en)) (h2 : ((∀ j, j < n → y ≠ nI j) ∨ (∀ j, j < n → z ≠ nI j)) → postX "java/lang/IndexOutOfBoundsException") (h3 : ∀ a b, a < n → b < n → y = nI a → z = nI b → ((∀ k, k < 3 → x ≠ nI k) ∨ b ≤ a) → postX "java/lang/IllegalArgumentException") (h4 : ∀ k a b, k < 3 → a < b → b < n → tu = 6 → x = nI k → y = nI a → z = nI b → postX "java/lang/IllegalStateException") : wp_X2_addTurn (nI n) (nI tu) (nI mask) (nI n) (nI (fac n)) sp mv so en rm x y z post postX := by
  have htu := hT.1
  unfold wp_X2_addTurn
  refine s_isPlaceC hn (fun a ha ea => ?_) (fun h => ⟨fun _ => h2 (Or.inl h), fun q => absurd rfl q⟩)
  refine ⟨fun q => absurd q (by decide), fun _ => ?_⟩
  refine s_isPlaceC hn (fun b hb eb => ?_) (fun h => ⟨fun q => absurd rfl q, fun _ => h2 (Or.inr h)⟩)
  refine ⟨fun _ => ?_, fun q => absurd q (by decide)⟩
  refine ⟨fun q => h3 a b ha hb ea eb (Or.inl (fun k hk e => by rw [e] at q; exact i_nneg (by omega) q)), fun q => ?_⟩
  obtain ⟨k, hk, ek⟩ := nI_of q
  subst ek
  refine b_lt (a := 2) (b := k) (by omega) hk (fun hk2 => h3 a b ha hb ea eb (Or.inl (fun j hj e => by have := (nI_eq hk (by omega)).mp e; omega))) (fun hk2 => ?_)
  subst ea eb
  have hab : (nI a < nI b → (nI tu < 6 → ∃ N_22 : Nat, lp_X2_addTurn_72 (nI n) (nI tu) (nI k) (nI a) (nI b) (fun (v_23 : Int32) (c_24 : Nat → Nat → Int32) => (wp_X2_finishTurn (nI tu) (nI mask) (nI n) (nI (fac n)) sp mv c_24 en rm (fun u_25 => (post (u_25.1 - 1) (u_25.1, u_25.2.1, u_25.2.2.1, u_25.2.2.2.1, u_25.2.2.2.2.1, u_25.2.2.2.2.2.1, c_24, u_25.2.2.2.2.2.2))))) N_22 0 so) ∧ (¬ nI tu < 6 → postX "java/lang/IllegalStateException")) ∧ (¬ nI a < nI b → postX "java/lang/IllegalArgumentException") := by
    refine b_lt (by omega) (by omega) (fun hlt => ?_) (fun hge => h3 a b ha hb rfl rfl (Or.inr hge))
    refine b_lt (a := tu) (b := 6) (by omega) (by omega) (fun h6 => ?_) (fun h6 => h4 k a b (by omega) hlt hb (by omega) rfl rfl rfl)
    refine ⟨n + 1, l_add72 hn h6 (by omega) hlt hb (fun _ so' hS => ?_) (n + 1) 0 so (by omega) (Nat.zero_le _) ⟨fun _ _ _ => rfl, fun i hi => by omega⟩⟩
    have hP := turn_P (n := n) (kind := k) hlt hb
    obtain ⟨s1, s2⟩ := hso.add hP (fun j hj => (turn_get hj).symm) hS
    refine s_finishTurn hn hn2 h6 hr1 hr2 hP.invP s2 (fun sp' mv' en' hL => ?_)
    show post (nI (tu + 1) - 1) _
    rw [show nI (tu + 1) - 1 = nI tu from pk_sub (a := tu + 1) (b := 1) (by omega)]
    exact h1 k a b sp' mv' so' en' (by omega) hlt hb h6 rfl rfl rfl s1 (hE.add h6 hP hL)
  exact hab
theorem Fo.cong {tu n : Nat} {s s' : Nat → Nat} {fr0 fr : Nat → Int32} (h : Fo tu s n fr0 fr) (e : ∀ j, j < n → s' j = s j) : Fo tu s' n fr0 fr := ⟨h.1, fun i hi => by rw [e i hi]; exact h.2 i hi⟩
theorem s_addTurnM {n tu mask : Nat} {T : Nat → List Nat} {fr no : Nat → Int32} (hn : n ≤ 8) (hT : Fr n tu T fr) {x y z : Int32} {post : Int32 → (Int32 × Int32 × Int32 × (Nat → Int32) × (Nat → Int32)) → Prop} (h1 : ∀ k a b fr no, k ≤ 2 → a < b → b < n → tu < 6 → x = nI k → y = nI a → z = nI b → Fr n (tu + 1) (addT T tu (turn n k a b)) fr → post (nI tu) (0, nI (tu + 1), nI (more mask tu), fr, no)) (h2 : ((∀ j, j < n → y ≠ nI j) ∨ (∀ j, j < n → z ≠ nI j)) → post 0 (1, nI tu, nI mask, fr, no)) (h3 : ∀ a b, a < n → b < n → y = nI a → z = nI b → ((∀ k, k < 3 → x ≠ nI k) ∨ b ≤ a) → post 0 (2, nI tu, nI mask, fr, no)) (h4 : ∀ k a b, k < 3 → a < b → b < n → tu = 6 → x = nI k → y = nI a → z = nI b → post 0 (3, nI tu, nI mask, fr, no)) : wp_X3_addTurn (nI n) (nI tu) (nI mask) fr no x y z post := by
  have htu := hT.1
  unfold wp_X3_addTurn
  refine s_isPlaceM hn (fun a ha ea => ?_) (fun h => ⟨fun _ => ⟨fun q => absurd q (by decide), fun _ => h2 (Or.inl h)⟩, fun q => absurd rfl q⟩)
  refine ⟨fun q => absurd q (by decide), fun _ => ?_⟩
  refine s_isPlaceM hn (fun b hb eb => ?_) (fun h => ⟨fun _ => ⟨fun q => absurd q (by decide), fun _ => h2 (Or.inr h)⟩, fun q => absurd rfl q⟩)
  refine ⟨fun q => absurd q (by decide), fun _ => ?_⟩
  refine s_withinK (k := 3) (by omega) (by decide) (fun k hk ek => ?_) (fun h => ⟨fun _ => ⟨fun q => absurd q (by decide), fun _ => h3 a b ha hb ea eb (Or.inl h)⟩, fun q => absurd rfl q⟩)
  refine ⟨fun q => absurd q (by decide), fun _ => ?_⟩
  subst ea eb ek
  refine b_lt (by omega) (by omega) (fun hlt => ?_) (fun hge => ⟨fun q => absurd q (by decide), fun _ => h3 a b ha hb rfl rfl (Or.inr hge)⟩)
  refine b_ne (a := tu) (b := 6) (by omega) (by omega) (fun h6 => ?_) (fun h6 => ⟨fun q => absurd q (by decide), fun _ => h4 k a b hk hlt hb h6 rfl rfl rfl⟩)
  refine ⟨fun _ => ?_, fun q => absurd (by decide) q⟩
  refine ⟨n + 1, l_add80 hn (by omega) hlt hb (fun _ no' hno => ?_) (n + 1) 0 no (by omega) (Nat.zero_le _) (fun i hi => by omega)⟩
  have hP := turn_P (n := n) (kind := k) hlt hb
  refine s_putTurn (s := srcK k a b) hn (by omega) (fun j hj => srcK_lt hlt hb hj) (fun i j e => srcK_inj hlt e) (fun j hj => by rw [hno j (by rw [turn_len]; exact hj), turn_get hj]) (fun fr' hF => ?_)
  show post (nI (tu + 1) - 1) _
  rw [show nI (tu + 1) - 1 = nI tu from pk_sub (a := tu + 1) (b := 1) (by omega)]
  exact h1 k a b fr' no' (by omega) hlt hb (by omega) rfl rfl rfl (hT.more hn (by omega) hP (hF.cong (fun j hj => turn_get hj)))
