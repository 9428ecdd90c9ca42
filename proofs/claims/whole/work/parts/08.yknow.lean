/-! the reference's knowing -/
theorem sy_b81 {post : Int32 → Prop} {n : Nat} {ed sp ou : Int32} {op rg ar ka he ro rw ln : Nat → Int32} {f x3 x4 x5 z : Int32} (h1 : (¬ f = 0 ∨ x5 = 1 ∨ z = 1) → post (x4 ||| x3)) (h0 : ¬ (¬ f = 0 ∨ x5 = 1 ∨ z = 1) → post (x4 &&& (x3 ^^^ (-1)))) : wY_behind_81 post f x3 x4 x5 z (nI n) ed sp ou op rg ar ka he ro rw ln :=
  br_c (fun e => br_c (fun e1 => br_f (by decide) (h1 (Or.inr (Or.inl e1)))) (fun e1 => br_c (fun e2 => br_f (by decide) (h1 (Or.inr (Or.inr e2)))) (fun e2 => br_t rfl (h0 (fun w => w.elim (fun v => v e) (fun v => v.elim e1 e2)))))) (fun e => br_f (by decide) (h1 (Or.inl e)))
theorem sy_behind {post : Int32 → Prop} {n : Nat} {ed sp ou : Int32} {op rg ar ka he ro rw ln : Nat → Int32} {i : Nat} {f : Int32} {V : Nat → Prop} (hn : n ≤ 16) (hv : sf_val n op rg ar) (hi : i < n) (hf : V i ↔ ¬ f = 0)
    (hp : ∀ a, (∀ r, bt a r = true ↔ sf_A op rg ar (sf_t ka) V i r) → post a) : wpY_behind post (nI n, ed, sp, ou, op, rg, ar, ka, he, ro, rw, ln) (nI i) f := by
  have hin : vp_in (nI i) 16 := vp_in_nI (by omega) (by omega)
  have ea : op (nI i).toNatClampNeg = op i := sx_at (by omega)
  have eg : rg (nI i).toNatClampNeg = rg i := sx_at (by omega)
  have er : ar (nI i).toNatClampNeg = ar i := sx_at (by omega)
  have hn0 : ∀ h : ¬ sf_ch op i, post (ka i) := fun h => hp _ (sf_A_n h)
  have hno : ∀ c : Int32, op i = c → (¬ c = 0 ∧ ¬ c = 1 ∧ ¬ c = 2 ∧ ¬ c = 3) → ¬ sf_ch op i := by
    rintro c e ⟨h0, h1, h2, h3⟩ (h | h | h | h)
    · exact h0 (e.symm.trans h)
    · exact h1 (e.symm.trans h)
    · exact h2 (e.symm.trans h)
    · exact h3 (e.symm.trans h)
  have fin : ∀ {x5 z : Int32}, sf_ch op i → ((x5 = 1 ∨ z = 1) ↔ ((¬ op i = 0 ∧ sf_t ka i (sf_n ar i)) ∨ ((op i = 2 ∨ op i = 3) ∧ sf_t ka i (sf_n rg i)))) → wY_behind_81 post f ((1 : Int32) <<< (rg i &&& 31)) (ka i) x5 z (nI n) ed sp ou op rg ar ka he ro rw ln := by
    intro x5 z hc hk
    obtain ⟨q, hq, eq⟩ := (hv i hi).2.1 (by rcases hc with e | e | e | e <;> rw [e] <;> decide) (by rcases hc with e | e | e | e <;> rw [e] <;> decide)
    refine sy_b81 (fun w => hp _ (sf_A_t hc hq eq ?_)) (fun w => hp _ (sf_A_f hc hq eq (fun v => w ?_)))
    · rcases w with w | w
      · exact Or.inr (Or.inr (hf.mpr w))
      · exact (hk.mp w).elim Or.inl (fun v => Or.inr (Or.inl v))
    · rcases v with v | v | v
      · exact Or.inr (hk.mpr (Or.inl v))
      · exact Or.inr (hk.mpr (Or.inr v))
      · exact Or.inl (hf.mp v)
  refine ⟨hin, nm_r (e' := (1 : Int32) <<< (rg i &&& 31)) (by rw [eg]) ⟨vp_in_nI (by omega) (by omega), nm_r (e' := ka i) (sx_at (by omega)) ⟨hin, ?_⟩⟩⟩
  rcases (hv i hi).1 with o | o | o | o | o | o | o | o
  · have hc : sf_ch op i := Or.inl o
    refine br_t (by rw [ea, o]; decide) ⟨hin, br_t (by rw [ea, o]) ⟨hin, br_t (by rw [ea, o]; decide) (fin hc ?_)⟩⟩
    constructor
    · rintro (w | w) <;> exact absurd w (by decide)
    · rintro (w | w)
      · exact absurd o w.1
      · rcases w.1 with e | e <;> rw [o] at e <;> exact absurd e (by decide)
  · have hc : sf_ch op i := Or.inr (Or.inl o)
    obtain ⟨x, hx, ex⟩ := (hv i hi).2.2.1 hc
    have ex' : sf_n ar i = x := sf_n_e ex (by omega)
    refine br_t (by rw [ea, o]; decide) ⟨hin, br_f (by rw [ea, o]; decide) ⟨hin, ⟨hin, br_t (by rw [ea, o]; decide) (fin hc ?_)⟩⟩⟩
    rw [er, ex, sf_has (ka i) x (by omega), ex']
    constructor
    · rintro (w | w)
      · exact Or.inl ⟨by rw [o]; decide, w⟩
      · exact absurd w (by decide)
    · rintro (w | w)
      · exact Or.inl w.2
      · rcases w.1 with e | e <;> rw [o] at e <;> exact absurd e (by decide)
  · have hc : sf_ch op i := Or.inr (Or.inr (Or.inl o))
    obtain ⟨x, hx, ex⟩ := (hv i hi).2.2.1 hc
    obtain ⟨q, hq, eq⟩ := (hv i hi).2.1 (by rw [o]; decide) (by rw [o]; decide)
    have ex' : sf_n ar i = x := sf_n_e ex (by omega)
    have eq' : sf_n rg i = q := sf_n_e eq (by omega)
    refine br_t (by rw [ea, o]; decide) ⟨hin, br_f (by rw [ea, o]; decide) ⟨hin, ⟨hin, br_f (by rw [ea, o]; decide) ⟨hin, fin hc ?_⟩⟩⟩⟩
    rw [er, ex, eg, eq, sf_has (ka i) x (by omega), sf_has (ka i) q (by omega), ex', eq']
    exact ⟨fun w => w.imp (fun v => ⟨by rw [o]; decide, v⟩) (fun v => ⟨Or.inl o, v⟩), fun w => w.imp (fun v => v.2) (fun v => v.2)⟩
  · have hc : sf_ch op i := Or.inr (Or.inr (Or.inr o))
    obtain ⟨x, hx, ex⟩ := (hv i hi).2.2.1 hc
    obtain ⟨q, hq, eq⟩ := (hv i hi).2.1 (by rw [o]; decide) (by rw [o]; decide)
    have ex' : sf_n ar i = x := sf_n_e ex (by omega)
    have eq' : sf_n rg i = q := sf_n_e eq (by omega)
    refine br_t (by rw [ea, o]; decide) ⟨hin, br_f (by rw [ea, o]; decide) ⟨hin, ⟨hin, br_f (by rw [ea, o]; decide) ⟨hin, fin hc ?_⟩⟩⟩⟩
    rw [er, ex, eg, eq, sf_has (ka i) x (by omega), sf_has (ka i) q (by omega), ex', eq']
    exact ⟨fun w => w.imp (fun v => ⟨by rw [o]; decide, v⟩) (fun v => ⟨Or.inr o, v⟩), fun w => w.imp (fun v => v.2) (fun v => v.2)⟩
  · exact br_f (by rw [ea, o]; decide) (hn0 (hno _ o (by decide)))
  · exact br_f (by rw [ea, o]; decide) (hn0 (hno _ o (by decide)))
  · exact br_f (by rw [ea, o]; decide) (hn0 (hno _ o (by decide)))
  · exact br_f (by rw [ea, o]; decide) (hn0 (hno _ o (by decide)))
theorem sy_sub {a k : Int32} (h : a &&& (k ^^^ (-1)) = 0) : k ||| a = k := by
  apply sf_ext
  intro j
  rw [sf_orI]
  refine ⟨fun w => w.elim id (fun v => ?_), Or.inl⟩
  apply Classical.byContradiction
  intro hk
  exact sf_0I j (by rw [← h]; exact (sf_andnI a k j).mpr ⟨v, hk⟩)
theorem sy_nsub {a k : Int32} (h : ¬ a &&& (k ^^^ (-1)) = 0) : ¬ k ||| a = k := by
  intro e
  obtain ⟨j, hj⟩ := sf_nz.mp h
  have := (sf_andnI a k j).mp hj
  apply this.2
  rw [← e, sf_orI]
  exact Or.inr this.1
theorem sf_mu_pos (n : Nat) (K : Nat → Int32) : 0 < sf_mu n K 1 := by
  unfold sf_mu
  have := sf_k_le K (n + 1)
  rw [if_neg (by decide : ¬ (1 : Int32) = 0)]
  omega
/-- the inner loop over the next places -/
theorem sy_fk95 {post : SY → Prop} {J37 : Int32 → (Nat → Int32) → (Nat → Int32) → (Nat → Int32) → (Nat → Int32) → (Nat → Int32) → (Nat → Int32) → (Nat → Int32) → (Nat → Int32) → Prop}
    {J52 : Int32 → Int32 → (Nat → Int32) → (Nat → Int32) → (Nat → Int32) → (Nat → Int32) → (Nat → Int32) → (Nat → Int32) → (Nat → Int32) → (Nat → Int32) → Prop} {n : Nat} {ed sp ou : Int32} {op rg ar ka he ro rw ln : Nat → Int32} {c u a N mo : Int32} {i : Nat} (hn : n ≤ 16) (hi : i < n) (hc : bt c i = true)
    (hJ : ∀ mo' K, (∀ k, k < n + 1 → bt N k = true → K k = ka k ||| a) → (∀ k, k < n + 1 → ¬ bt N k = true → K k = ka k) →
      ((mo' = 1 ∧ (mo = 1 ∨ ∃ j, j < n + 1 ∧ ¬ K j = ka j)) ∨ (mo' = mo ∧ ∀ j, j < n + 1 → K j = ka j)) → J52 mo' (nI (i + 1)) op rg ar K he ro rw ln) :
    ∀ d j mo' K, j + d = n + 1 → (∀ k, k < j → bt N k = true → K k = ka k ||| a) → (∀ k, k < j → ¬ bt N k = true → K k = ka k) → (∀ k, j ≤ k → K k = ka k) →
      ((mo' = 1 ∧ (mo = 1 ∨ ∃ k, k < j ∧ ¬ K k = ka k)) ∨ (mo' = mo ∧ ∀ k, k < j → K k = ka k)) → wY_findKnowing_95 post J37 J52 c u (nI i) a N (nI n) ed sp ou (d + 1) mo' (nI j) op rg ar K he ro rw ln := by
  intro d
  induction d with
  | zero =>
    intro j mo' K hj h1 h2 h3 h4
    have e : j = n + 1 := by omega
    subst e
    exact br_t (nI_lt (by omega) (by omega)) (nm_r (nI_1 i) (hJ mo' K h1 h2 h4))
  | succ d ih =>
    intro j mo' K hj h1 h2 h3 h4
    have hin : vp_in (nI j) 17 := vp_in_nI (by omega) (by omega)
    have ek : K (nI j).toNatClampNeg = K j := sx_at (by omega)
    have ekj : K j = ka j := h3 j (Nat.le_refl j)
    have stay : (bt N j = true → ka j ||| a = ka j) → wY_findKnowing_95 post J37 J52 c u (nI i) a N (nI n) ed sp ou (d + 1) mo' (nI (j + 1)) op rg ar K he ro rw ln := by
      intro hs
      refine ih (j + 1) mo' K (by omega) (fun k hk hb => ?_) (fun k hk hb => ?_) (fun k hk => h3 k (by omega)) ?_
      · by_cases e : k = j
        · subst e; rw [ekj, hs hb]
        · exact h1 k (by omega) hb
      · by_cases e : k = j
        · subst e; exact ekj
        · exact h2 k (by omega) hb
      · rcases h4 with ⟨m1, m2⟩ | ⟨m1, m2⟩
        · exact Or.inl ⟨m1, m2.imp id (fun ⟨k, v⟩ => ⟨k, by omega, v.2⟩)⟩
        · refine Or.inr ⟨m1, fun k hk => ?_⟩
          by_cases e : k = j
          · subst e; exact ekj
          · exact m2 k (by omega)
    refine br_f (nI_nlt (by omega) (by omega)) (sx_if (sf_has c i (by omega)) (fun _ => sx_if (sf_has N j (by omega)) (fun hN => ⟨hin, ?_⟩) (fun hN => nm_r (nI_1 j) (stay (fun w => absurd w hN)))) (fun w => absurd hc w))
    rw [ek, ekj]
    refine br_c (fun w => nm_r (nI_1 j) (stay (fun _ => sy_sub w))) (fun w => ⟨hin, hin, nm_r (e' := upd K j (ka j ||| a)) (by rw [nI_clamp (by omega)]) (nm_r (nI_1 j) (ih (j + 1) 1 _ (by omega) (fun k hk hb => ?_) (fun k hk hb => ?_) (fun k hk => ?_) (Or.inl ⟨rfl, Or.inr ⟨j, by omega, ?_⟩⟩)))⟩)
    · by_cases e : k = j
      · subst e; exact pk_us
      · rw [pk_un e]; exact h1 k (by omega) hb
    · by_cases e : k = j
      · subst e; exact absurd hN hb
      · rw [pk_un e]; exact h2 k (by omega) hb
    · rw [pk_un (by omega)]; exact h3 k (by omega)
    · rw [pk_us]; exact sy_nsub w
theorem sy_findKnowing {post : SY → Prop} {n : Nat} {ed sp ou : Int32} {op rg ar ka he ro rw ln : Nat → Int32} (hn0 : 0 < n) (hn : n ≤ 16) (hv : sf_val n op rg ar)
    (hp : ∀ K, (∀ j r, j < n → (sf_t K j r ↔ sf_K n (sf_nm n op ar) op rg ar j r)) → post (nI n, ed, sp, ou, op, rg, ar, K, he, ro, rw, ln)) : wpY_findKnowing post (nI n, ed, sp, ou, op, rg, ar, ka, he, ro, rw, ln) := by
  unfold wpY_findKnowing
  dsimp only
  refine sy_allComeTo hn0 hn hv (fun c hc => ?_)
  have k52 : ∀ (J37 : Int32 → (Nat → Int32) → (Nat → Int32) → (Nat → Int32) → (Nat → Int32) → (Nat → Int32) → (Nat → Int32) → (Nat → Int32) → (Nat → Int32) → Prop) (u : Int32) (K0 : Nat → Int32),
      (∀ i, i < n → (bt u i = true ↔ sf_V n (sf_nm n op ar) op rg (sf_t K0) i)) → (∀ K mo, sf_Q n (sf_nm n op ar) op rg ar (fun i => bt u i = true) K0 K n mo → J37 mo op rg ar K he ro rw ln) →
      ∀ d i mo K, i + d = n → sf_Q n (sf_nm n op ar) op rg ar (fun i => bt u i = true) K0 K i mo → wY_findKnowing_52 post J37 c u (nI n) ed sp ou (d + 1) mo (nI i) op rg ar K he ro rw ln := by
    intro J37 u K0 hV hJ d
    induction d with
    | zero =>
      intro i mo K hi hQ
      have e : i = n := by omega
      subst e
      exact br_t (nI_le (Nat.le_refl _) (by omega)) (hJ K mo hQ)
    | succ d ih =>
      intro i mo K hi hQ
      have body : ∀ f : Int32, (bt u i = true ↔ ¬ f = 0) → wY_findKnowing_79 post J37 (wY_findKnowing_52 post J37 c u (nI n) ed sp ou (d + 1)) c mo u (nI i) f (nI i) (nI n) ed sp ou op rg ar K he ro rw ln := by
        intro f hf
        refine sy_behind (V := fun i => bt u i = true) hn hv (by omega) hf (fun a ha => sy_nexts hn hv (by omega) ?_)
        by_cases hci : bt c i = true
        · exact ⟨n + 1 + 1, sy_fk95 hn (by omega) hci (fun mo' K' h1 h2 h3 => ih (i + 1) mo' K' (by omega) (sf_Q_t hv hV hQ (by omega) ((hc i).mp hci) ha h1 h2 h3)) (n + 1) 0 mo K (by omega) (fun k hk => absurd hk (by omega)) (fun k hk => absurd hk (by omega)) (fun _ _ => rfl) (Or.inr ⟨rfl, fun k hk => absurd hk (by omega)⟩)⟩
        · exact ⟨1, br_f (nI_nlt (a := n) (b := 0) (by omega) (by omega)) (br_f (fun w => hci ((sf_has c i (by omega)).mp w)) (nm_r (nI_1 i) (ih (i + 1) mo K (by omega) (sf_Q_f hQ (fun w => hci ((hc i).mpr w))))))⟩
      exact br_f (nI_ge (by omega) (by omega)) (sx_if (sf_has u i (by omega)) (fun w => body 1 ⟨fun _ => by decide, fun _ => w⟩) (fun w => body 0 ⟨fun v => absurd v w, fun v => absurd rfl v⟩))
  have k37 : ∀ m mo K, sf_mu n K mo ≤ m → sf_Y n (sf_nm n op ar) op rg ar K mo → wY_findKnowing_37 post c (nI n) ed sp ou (m + 1) mo op rg ar K he ro rw ln := by
    intro m
    induction m with
    | zero =>
      intro mo K hm hY
      refine br_c (fun e => ?_) (fun e => ?_)
      · subst e; exact hp K (fun j r hj => sf_Y_e hY j r hj)
      · rcases hY.2.2 with w | w
        · subst w; have := sf_mu_pos n K; omega
        · exact absurd w.1 e
    | succ m ih =>
      intro mo K hm hY
      refine br_c (fun e => ?_) (fun e => ?_)
      · subst e; exact hp K (fun j r hj => sf_Y_e hY j r hj)
      · rcases hY.2.2 with w | w
        · subst w
          exact sy_underSecrets hn hv hc (fun u hu => ⟨n + 1, k52 _ u K (fun i _ => hu i) (fun K' mo' hQ => ih mo' K' (by have := sf_mu_lt hQ; omega) (sf_Q_n hY.2.1 (fun i _ => hu i) hQ)) n 0 0 K (by omega) (sf_Q_0 hY)⟩)
        · exact absurd w.1 e
  have k7 : ∀ d i K, i + d = n + 1 → (∀ k, k < i → K k = 0) → wY_findKnowing_7 post c (nI n) ed sp ou (d + 1) (nI i) op rg ar K he ro rw ln := by
    intro d
    induction d with
    | zero =>
      intro i K hi h
      refine br_t (nI_lt (by omega) (by omega)) (nm_e ⟨_, k37 _ 1 _ (Nat.le_refl _) (sf_Y_0 pk_us (fun j hj hj0 => ?_))⟩)
      rw [pk_un hj0]; exact h j (by omega)
    | succ d ih =>
      intro i K hi h
      refine br_f (nI_nlt (by omega) (by omega)) ⟨vp_in_nI (by omega) (by omega), nm_r (e' := upd K i 0) (by rw [nI_clamp (by omega)]) (nm_r (nI_1 i) (ih (i + 1) _ (by omega) (fun k hk => ?_)))⟩
      by_cases e : k = i
      · subst e; exact pk_us
      · rw [pk_un e]; exact h k (by omega)
  exact ⟨n + 1 + 1, k7 (n + 1) 0 ka (by omega) (fun k hk => absurd hk (by omega))⟩
