/-! the component's sets -/
theorem sx_at {a : Nat → Int32} {i : Nat} (h : i < 2 ^ 31) : a (nI i).toNatClampNeg = a i := by rw [nI_clamp h]
theorem sx_if {p q A B : Prop} (e : p ↔ q) (f : q → A) (g : ¬ q → B) : (p → A) ∧ (¬ p → B) := ⟨fun z => f (e.mp z), fun z => g (fun w => z (e.mpr w))⟩
theorem sx_eq {x x' c : Int32} {A B : Prop} (e : x = x') (f : x' = c → A) (g : ¬ x' = c → B) : (x = c → A) ∧ (¬ x = c → B) := by subst e; exact ⟨f, g⟩
theorem sx_has {post : Int32 → Prop} {x y x' : Int32} (m : Nat) (hx : x = x') (hy : y = nI m) (hm : m < 32) (h1 : bt x' m = true → post 1) (h0 : ¬ bt x' m = true → post 0) : wpX_has post x y := by
  subst hx hy
  exact br_c (fun z => h1 ((sf_has x m hm).mp z)) (fun z => h0 (fun w => z ((sf_has x m hm).mpr w)))
theorem sx_hasb {A B : Prop} {x y x' : Int32} (m : Nat) (hx : x = x') (hy : y = nI m) (hm : m < 32) (h1 : bt x' m = true → B) (h0 : ¬ bt x' m = true → A) : wpX_has (fun r => (r = 0 → A) ∧ (¬ r = 0 → B)) x y :=
  sx_has m hx hy hm (fun z => br_f (by decide) (h1 z)) (fun z => br_t rfl (h0 z))
theorem sx_target {post : Int32 → Prop} {n : Nat} {co se us : Int32} {op rg ar nx me un kn he po pc sc en : Nat → Int32} {i x : Nat} (hi : i < 16) (hn : n ≤ 16) (hx : x ≤ 16) (ha : ar i = nI x) (h : post (nI (sf_tg n ar i))) : wpX_target post (nI n, co, se, us, op, rg, ar, nx, me, un, kn, he, po, pc, sc, en) (nI i) := by
  have e : sf_n ar i = x := sf_n_e ha (by omega)
  unfold sf_tg at h
  rw [e] at h
  refine ⟨vp_in_nI hi (by omega), nm_r (e' := nI x) (by rw [nI_clamp (by omega), ha]) (pk_le n x (fun z => ?_) (fun z => ?_))⟩
  · rw [if_neg (by omega)] at h; exact h
  · rw [if_pos z] at h; exact h
theorem sx_findNext {post : Int32 → Prop} {n : Nat} {co se us : Int32} {op rg ar nx me un kn he po pc sc en : Nat → Int32} {i : Nat} (hn : n ≤ 16) (hv : sf_val n op rg ar) (hi : i < n) (h : post (sf_nm n op ar i)) : wpX_findNext post (nI n, co, se, us, op, rg, ar, nx, me, un, kn, he, po, pc, sc, en) (nI i) := by
  have ea : op (nI i).toNatClampNeg = op i := sx_at (by omega)
  have hin : vp_in (nI i) 16 := vp_in_nI (by omega) (by omega)
  unfold sf_nm at h
  refine nm_r (e' := (1 : Int32) <<< (nI (i + 1) &&& 31)) (by rw [nI_1]) ⟨hin, ?_⟩
  rcases (hv i hi).1 with o | o | o | o | o | o | o | o <;> rw [o] at h
  · exact nm_r (ea.trans o) (br_t (by decide) h)
  · exact nm_r (ea.trans o) (br_t (by decide) h)
  · exact nm_r (ea.trans o) (br_t (by decide) h)
  · exact nm_r (ea.trans o) (br_t (by decide) h)
  · exact nm_r (ea.trans o) (br_t (by decide) h)
  · obtain ⟨x, hx, hax⟩ := (hv i hi).2.2.2 (Or.inl o)
    exact nm_r (ea.trans o) (br_f (by decide) (br_f (by decide) (br_t rfl (sx_target (by omega) hn hx hax h))))
  · obtain ⟨x, hx, hax⟩ := (hv i hi).2.2.2 (Or.inr o)
    exact nm_r (ea.trans o) (br_f (by decide) (br_f (by decide) (br_f (by decide) (br_t rfl (sx_target (by omega) hn hx hax h)))))
  · exact nm_r (ea.trans o) (br_f (by decide) (br_f (by decide) (br_f (by decide) (br_f (by decide) (br_t rfl h)))))
theorem sx_nextOfAll {post : Int32 → Prop} {nm : Nat → Int32} {n : Nat} {co se us : Int32} {op rg ar nx me un kn he po pc sc en : Nat → Int32} {z : Int32} (hn : n ≤ 16) (hx : ∀ i, i < n → nx i = nm i)
    (hp : ∀ y, (∀ j, bt y j = true ↔ ∃ k, k < n ∧ bt z k = true ∧ bt (nm k) j = true) → post y) : wpX_nextOfAll post (nI n, co, se, us, op, rg, ar, nx, me, un, kn, he, po, pc, sc, en) z := by
  have key : ∀ d i y, i + d = n → (∀ j, bt y j = true ↔ ∃ k, k < i ∧ bt z k = true ∧ bt (nm k) j = true) → wX_nextOfAll_4 post z (nI n) co se us op rg ar nx me un kn he po pc sc en (d + 1) y (nI i) := by
    intro d
    induction d with
    | zero =>
      intro i y hi hy
      have e : i = n := by omega
      subst e
      exact br_t (nI_le (Nat.le_refl _) (by omega)) (hp y hy)
    | succ d ih =>
      intro i y hi hy
      refine br_f (nI_ge (by omega) (by omega)) (sx_hasb i rfl rfl (by omega) (fun hz => ⟨vp_in_nI (by omega) (by omega), nm_r (e' := y ||| nm i) (by rw [nI_clamp (by omega), hx i (by omega)]) (nm_r (nI_1 i) ?_)⟩) (fun hz => nm_r (nI_1 i) ?_))
      · refine ih (i + 1) _ (by omega) (fun j => ?_)
        rw [sf_orI, hy j]
        constructor
        · rintro (⟨k, h1, h2, h3⟩ | h)
          · exact ⟨k, by omega, h2, h3⟩
          · exact ⟨i, by omega, hz, h⟩
        · rintro ⟨k, h1, h2, h3⟩
          by_cases e : k = i
          · subst e; exact Or.inr h3
          · exact Or.inl ⟨k, by omega, h2, h3⟩
      · refine ih (i + 1) _ (by omega) (fun j => ?_)
        rw [hy j]
        constructor
        · rintro ⟨k, h1, h2, h3⟩
          exact ⟨k, by omega, h2, h3⟩
        · rintro ⟨k, h1, h2, h3⟩
          by_cases e : k = i
          · subst e; exact absurd h2 hz
          · exact ⟨k, by omega, h2, h3⟩
  exact ⟨n + 1, key n 0 0 (by omega) (fun j => ⟨fun h => absurd h (sf_0I j), fun ⟨k, h, _⟩ => absurd h (by omega)⟩)⟩
theorem sx_reach {post : Int32 → Prop} {nm : Nat → Int32} {n : Nat} {co se us : Int32} {op rg ar nx me un kn he po pc sc en : Nat → Int32} {s b s' b' : Int32} {S B : Nat → Prop} (hs' : s' = s) (hb' : b' = b) (hn : n ≤ 16) (hx : ∀ i, i < n → nx i = nm i) (hok : sf_ok n nm)
    (hs : ∀ i, bt s i = true → i ≤ n) (hS : ∀ i, bt s i = true ↔ S i) (hB : ∀ i, bt b i = true ↔ B i)
    (hp : ∀ z, (∀ j, bt z j = true ↔ sf_R n nm S B j) → post z) : wpX_reach post (nI n, co, se, us, op, rg, ar, nx, me, un, kn, he, po, pc, sc, en) s' b' := by
  subst hs' hb'
  have key : ∀ d k z, k + d = n → sf_I n nm (fun i => bt s' i = true) (fun i => bt b' i = true) k z → wX_reach_9 post b' (nI n) co se us op rg ar nx me un kn he po pc sc en (d + 1) z (nI k) := by
    intro d
    induction d with
    | zero =>
      intro k z hk h
      have e : k = n := by omega
      subst e
      exact br_t (nI_le (Nat.le_refl _) (by omega)) (hp z (fun j => (sf_I_n hok h j).trans (sf_R_congr hS hB j)))
    | succ d ih =>
      intro k z hk h
      exact br_f (nI_ge (by omega) (by omega)) (sx_nextOfAll hn hx (fun y hy => nm_e (nm_r (nI_1 k) (ih (k + 1) _ (by omega) (sf_I_s hok h hy)))))
  exact nm_e ⟨n + 1, key n 0 _ (by omega) (sf_I_0 hs)⟩
theorem sx_findMeetings {post : Int32 → Prop} {nm : Nat → Int32} {n : Nat} {co se us : Int32} {op rg ar nx me un kn he po pc sc en : Nat → Int32} {b : Nat} (hn : n ≤ 16) (hx : ∀ i, i < n → nx i = nm i) (hok : sf_ok n nm) (hb : b < n)
    (hp : ∀ z, (∀ q, bt z q = true ↔ sf_M n nm b q) → post z) : wpX_findMeetings post (nI n, co, se, us, op, rg, ar, nx, me, un, kn, he, po, pc, sc, en) (nI b) := by
  have hs1 : ∀ i, bt ((1 : Int32) <<< (nI b &&& 31)) i = true ↔ i = b := sf_oneI b (by omega)
  have hs2 : ∀ i, bt ((1 : Int32) <<< (nI b &&& 31)) i = true → i ≤ n := fun i hi => by have := (hs1 i).mp hi; omega
  refine sx_reach (S := fun j => j = b) (B := sf_no) rfl rfl hn hx hok hs2 hs1 (fun i => ⟨fun h => absurd h (sf_0I i), fun h => absurd h (fun z => z)⟩) (fun z hz => sx_hasb n rfl rfl (by omega) (fun h => ?_) (fun h => hp 0 (fun q => ⟨fun w => absurd w (sf_0I q), fun w => absurd ((hz n).mpr w.1) h⟩)))
  have h0 := (hz n).mp h
  have key : ∀ d q y, q + d = n + 1 → (∀ p, bt y p = true ↔ sf_M n nm b p ∧ p < q) → wX_findMeetings_27 post (nI b) (nI n) co se us op rg ar nx me un kn he po pc sc en (d + 1) y (nI q) := by
    intro d
    induction d with
    | zero =>
      intro q y hq hy
      exact br_t (nI_lt (by omega) (by omega)) (hp y (fun p => (hy p).trans ⟨fun w => w.1, fun w => ⟨w, by have := w.2.1; omega⟩⟩))
    | succ d ih =>
      intro q y hq hy
      have stay : ¬ sf_M n nm b q → wX_findMeetings_27 post (nI b) (nI n) co se us op rg ar nx me un kn he po pc sc en (d + 1) y (nI (q + 1)) := fun w =>
        ih (q + 1) y (by omega) (fun p => (hy p).trans ⟨fun v => ⟨v.1, by omega⟩, fun v => ⟨v.1, by
          by_cases e : p = q
          · subst e; exact absurd v.1 w
          · omega⟩⟩)
      refine br_f (nI_nlt (by omega) (by omega)) (sx_reach (S := fun j => j = b) (B := fun j => j = q) rfl rfl hn hx hok hs2 hs1 (sf_oneI q (by omega)) (fun r hr => pk_eq q b (fun e => nm_r (nI_1 q) (stay (fun w => w.2.2.1 e))) (fun ne => sx_hasb n rfl rfl (by omega) (fun h => nm_r (nI_1 q) (stay (fun w => w.2.2.2 ((hr n).mp h)))) (fun h => nm_e (nm_r (nI_1 q) (ih (q + 1) _ (by omega) (fun p => ?_)))))))
      rw [sf_orI, hy p, sf_oneI q (by omega)]
      constructor
      · rintro (w | w)
        · exact ⟨w.1, by omega⟩
        · subst w
          exact ⟨⟨h0, by omega, ne, fun v => h ((hr n).mpr v)⟩, by omega⟩
      · intro w
        by_cases e : p = q
        · exact Or.inr e
        · exact Or.inl ⟨w.1, by omega⟩
  exact ⟨n + 2, key (n + 1) 0 0 (by omega) (fun p => ⟨fun w => absurd w (sf_0I p), fun w => absurd w.2 (by omega)⟩)⟩
