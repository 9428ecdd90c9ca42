/-! the component's knowing -/
theorem sx_findSecretPlaces {post : SX → Prop} {n : Nat} {co se us : Int32} {op rg ar nx me un kn he po pc sc en : Nat → Int32} (hn : n ≤ 16) (hv : sf_val n op rg ar)
    (hp : ∀ se' us', (∀ b, bt se' b = true ↔ bt se b = true ∨ (b < n ∧ op b = 6 ∧ sf_t kn b (sf_n rg b))) →
      (∀ i, bt us' i = true ↔ bt us i = true ∨ ∃ b, b < n ∧ op b = 6 ∧ sf_t kn b (sf_n rg b) ∧ bt (un b) i = true) → post (nI n, co, se', us', op, rg, ar, nx, me, un, kn, he, po, pc, sc, en)) : wpX_findSecretPlaces post (nI n, co, se, us, op, rg, ar, nx, me, un, kn, he, po, pc, sc, en) := by
  have key : ∀ d i s u, i + d = n → (∀ b, bt s b = true ↔ bt se b = true ∨ (b < i ∧ op b = 6 ∧ sf_t kn b (sf_n rg b))) →
      (∀ j, bt u j = true ↔ bt us j = true ∨ ∃ b, b < i ∧ op b = 6 ∧ sf_t kn b (sf_n rg b) ∧ bt (un b) j = true) →
      wX_findSecretPlaces_2 post (nI n) co op rg ar nx me un kn he po pc sc en (d + 1) (nI i) s u := by
    intro d
    induction d with
    | zero =>
      intro i s u hi h1 h2
      have e : i = n := by omega
      subst e
      exact br_t (nI_le (Nat.le_refl _) (by omega)) (hp s u h1 h2)
    | succ d ih =>
      intro i s u hi h1 h2
      have stay : ¬ (op i = 6 ∧ sf_t kn i (sf_n rg i)) → wX_findSecretPlaces_2 post (nI n) co op rg ar nx me un kn he po pc sc en (d + 1) (nI (i + 1)) s u := by
        intro hno
        refine ih (i + 1) s u (by omega) (fun b => (h1 b).trans ⟨fun w => w.imp id (fun v => ⟨by omega, v.2⟩), fun w => w.imp id (fun v => ⟨?_, v.2⟩)⟩) (fun j => (h2 j).trans ⟨fun w => w.imp id (fun ⟨b, v⟩ => ⟨b, by omega, v.2⟩), fun w => w.imp id (fun ⟨b, v⟩ => ⟨b, ?_, v.2⟩)⟩)
        · by_cases e : b = i
          · subst e; exact absurd v.2 hno
          · omega
        · by_cases e : b = i
          · subst e; exact absurd ⟨v.2.1, v.2.2.1⟩ hno
          · omega
      have hin : vp_in (nI i) 16 := vp_in_nI (by omega) (by omega)
      refine br_f (nI_ge (by omega) (by omega)) ⟨hin, sx_eq (sx_at (by omega)) (fun o => ⟨hin, hin, ?_⟩) (fun o => nm_r (nI_1 i) (stay (fun w => o w.1)))⟩
      obtain ⟨r, hr, er⟩ := (hv i (by omega)).2.1 (by rw [o]; decide) (by rw [o]; decide)
      have er' : sf_n rg i = r := sf_n_e er (by omega)
      refine sx_hasb r (sx_at (by omega)) ((sx_at (by omega)).trans er) (by omega) (fun hz => nm_e ⟨hin, nm_r (e' := u ||| un i) (by rw [nI_clamp (by omega)]) (nm_r (nI_1 i) (ih (i + 1) _ _ (by omega) (fun b => ?_) (fun j => ?_)))⟩) (fun hz => nm_r (nI_1 i) (stay (fun w => hz (by have := w.2; rw [er'] at this; exact this))))
      · have hz' : sf_t kn i (sf_n rg i) := by rw [er']; exact hz
        rw [sf_orI, h1 b, sf_oneI i (by omega)]
        constructor
        · rintro ((w | w) | w)
          · exact Or.inl w
          · exact Or.inr ⟨by omega, w.2⟩
          · subst w; exact Or.inr ⟨by omega, o, hz'⟩
        · rintro (w | w)
          · exact Or.inl (Or.inl w)
          · by_cases e : b = i
            · exact Or.inr e
            · exact Or.inl (Or.inr ⟨by omega, w.2⟩)
      · have hz' : sf_t kn i (sf_n rg i) := by rw [er']; exact hz
        rw [sf_orI, h2 j]
        constructor
        · rintro ((w | ⟨b, w⟩) | w)
          · exact Or.inl w
          · exact Or.inr ⟨b, by omega, w.2⟩
          · exact Or.inr ⟨i, by omega, o, hz', w⟩
        · rintro (w | ⟨b, w⟩)
          · exact Or.inl (Or.inl w)
          · by_cases e : b = i
            · subst e; exact Or.inr w.2.2.2
            · exact Or.inl (Or.inr ⟨b, by omega, w.2⟩)
  exact ⟨n + 1, key n 0 se us (by omega) (fun b => ⟨Or.inl, fun w => w.resolve_right (fun v => absurd v.1 (by omega))⟩) (fun j => ⟨Or.inl, fun w => w.resolve_right (fun ⟨b, v⟩ => absurd v.1 (by omega))⟩)⟩
theorem sx_ka63 {post : Int32 → Prop} {n : Nat} {co se us : Int32} {op rg ar nx me un kn he po pc sc en : Nat → Int32} {i : Nat} {x4 : Int32} (hn : n ≤ 16) (hv : sf_val n op rg ar) (hi : i < n) (hc : sf_ch op i)
    (h4 : (∃ r, bt (kn i) r = true ∧ bt x4 r = true) ↔ ((¬ op i = 0 ∧ sf_t kn i (sf_n ar i)) ∨ ((op i = 2 ∨ op i = 3) ∧ sf_t kn i (sf_n rg i))))
    (hp : ∀ a, (∀ r, bt a r = true ↔ sf_A op rg ar (sf_t kn) (fun i => bt us i = true) i r) → post a) : wX_knowingAfter_63 post (nI i) (kn i) x4 (nI n) co se us op rg ar nx me un kn he po pc sc en := by
  obtain ⟨q, hq, er⟩ := (hv i hi).2.1 (by rcases hc with e | e | e | e <;> rw [e] <;> decide) (by rcases hc with e | e | e | e <;> rw [e] <;> decide)
  have hz : ¬ (kn i &&& x4) = 0 ↔ ∃ r, bt (kn i) r = true ∧ bt x4 r = true := by
    rw [sf_nz]
    exact ⟨fun ⟨r, h⟩ => ⟨r, (sf_andI _ _ r).mp h⟩, fun ⟨r, h⟩ => ⟨r, (sf_andI _ _ r).mpr h⟩⟩
  refine ⟨vp_in_nI (by omega) (by omega), nm_r (e' := (1 : Int32) <<< (rg i &&& 31)) (by rw [nI_clamp (by omega)]) (br_c (fun z => ?_) (fun z => ?_))⟩
  · have hno : ¬ ((¬ op i = 0 ∧ sf_t kn i (sf_n ar i)) ∨ ((op i = 2 ∨ op i = 3) ∧ sf_t kn i (sf_n rg i))) := fun w => hz.mpr (h4.mpr w) z
    refine sx_hasb i rfl rfl (by omega) (fun hu => hp _ (sf_A_t hc hq er (Or.inr (Or.inr hu)))) (fun hu => hp _ (sf_A_f hc hq er ?_))
    rintro (w | w | w)
    · exact hno (Or.inl w)
    · exact hno (Or.inr w)
    · exact hu w
  · refine hp _ (sf_A_t hc hq er ?_)
    rcases h4.mp (hz.mp z) with w | w
    · exact Or.inl w
    · exact Or.inr (Or.inl w)
theorem sx_knowingAfter {post : Int32 → Prop} {n : Nat} {co se us : Int32} {op rg ar nx me un kn he po pc sc en : Nat → Int32} {i : Nat} (hn : n ≤ 16) (hv : sf_val n op rg ar) (hi : i < n)
    (hp : ∀ a, (∀ r, bt a r = true ↔ sf_A op rg ar (sf_t kn) (fun i => bt us i = true) i r) → post a) : wpX_knowingAfter post (nI n, co, se, us, op, rg, ar, nx, me, un, kn, he, po, pc, sc, en) (nI i) := by
  have hin : vp_in (nI i) 16 := vp_in_nI (by omega) (by omega)
  have ea : op (nI i).toNatClampNeg = op i := sx_at (by omega)
  refine ⟨hin, nm_r (e' := kn i) (sx_at (by omega)) ⟨hin, ?_⟩⟩
  have hn0 : ∀ h : ¬ sf_ch op i, post (kn i) := fun h => hp _ (sf_A_n h)
  have hno : ∀ c : Int32, op i = c → (¬ c = 0 ∧ ¬ c = 1 ∧ ¬ c = 2 ∧ ¬ c = 3) → ¬ sf_ch op i := by
    rintro c e ⟨h0, h1, h2, h3⟩ (h | h | h | h)
    · exact h0 (e.symm.trans h)
    · exact h1 (e.symm.trans h)
    · exact h2 (e.symm.trans h)
    · exact h3 (e.symm.trans h)
  rcases (hv i hi).1 with o | o | o | o | o | o | o | o
  · have hc : sf_ch op i := Or.inl o
    refine nm_r (ea.trans o) (br_t rfl (br_f (by decide) (br_t rfl (br_f (by decide) (br_f (by decide) (sx_ka63 hn hv hi hc ?_ hp))))))
    constructor
    · rintro ⟨r, _, h⟩; exact absurd h (sf_0I r)
    · rintro (w | w)
      · exact absurd o w.1
      · rcases w.1 with e | e <;> rw [o] at e <;> exact absurd e (by decide)
  · have hc : sf_ch op i := Or.inr (Or.inl o)
    obtain ⟨x, hx, ex⟩ := (hv i hi).2.2.1 hc
    have ex' : sf_n ar i = x := sf_n_e ex (by omega)
    refine nm_r (ea.trans o) (br_f (by decide) (br_t rfl (br_f (by decide) (br_f (by decide) ⟨hin, nm_r (e' := (1 : Int32) <<< (nI x &&& 31)) (by rw [nI_clamp (by omega), ex]) (br_f (by decide) (br_f (by decide) (sx_ka63 hn hv hi hc ?_ hp)))⟩))))
    constructor
    · rintro ⟨r, h1, h2⟩
      rw [sf_oneI x (by omega)] at h2
      subst h2
      exact Or.inl ⟨by rw [o]; decide, by rw [ex']; exact h1⟩
    · rintro (w | w)
      · exact ⟨x, by have := w.2; rw [ex'] at this; exact this, (sf_oneI x (by omega) x).mpr rfl⟩
      · rcases w.1 with e | e <;> rw [o] at e <;> exact absurd e (by decide)
  · have hc : sf_ch op i := Or.inr (Or.inr (Or.inl o))
    obtain ⟨x, hx, ex⟩ := (hv i hi).2.2.1 hc
    obtain ⟨q, hq, eq⟩ := (hv i hi).2.1 (by rw [o]; decide) (by rw [o]; decide)
    have ex' : sf_n ar i = x := sf_n_e ex (by omega)
    have eq' : sf_n rg i = q := sf_n_e eq (by omega)
    refine nm_r (ea.trans o) (br_f (by decide) (br_f (by decide) (br_t rfl (br_f (by decide) (br_f (by decide) ⟨hin, nm_r (e' := (1 : Int32) <<< (nI x &&& 31)) (by rw [nI_clamp (by omega), ex]) (br_t rfl ⟨hin, nm_r (e' := ((1 : Int32) <<< (nI x &&& 31)) ||| ((1 : Int32) <<< (nI q &&& 31))) (by rw [nI_clamp (by omega), eq]) (sx_ka63 hn hv hi hc ?_ hp)⟩)⟩)))))
    constructor
    · rintro ⟨r, h1, h2⟩
      rw [sf_orI, sf_oneI x (by omega), sf_oneI q (by omega)] at h2
      rcases h2 with h2 | h2
      · subst h2; exact Or.inl ⟨by rw [o]; decide, by rw [ex']; exact h1⟩
      · subst h2; exact Or.inr ⟨Or.inl o, by rw [eq']; exact h1⟩
    · rintro (w | w)
      · exact ⟨x, by have := w.2; rw [ex'] at this; exact this, (sf_orI _ _ _).mpr (Or.inl ((sf_oneI x (by omega) x).mpr rfl))⟩
      · exact ⟨q, by have := w.2; rw [eq'] at this; exact this, (sf_orI _ _ _).mpr (Or.inr ((sf_oneI q (by omega) q).mpr rfl))⟩
  · have hc : sf_ch op i := Or.inr (Or.inr (Or.inr o))
    obtain ⟨x, hx, ex⟩ := (hv i hi).2.2.1 hc
    obtain ⟨q, hq, eq⟩ := (hv i hi).2.1 (by rw [o]; decide) (by rw [o]; decide)
    have ex' : sf_n ar i = x := sf_n_e ex (by omega)
    have eq' : sf_n rg i = q := sf_n_e eq (by omega)
    refine nm_r (ea.trans o) (br_f (by decide) (br_f (by decide) (br_f (by decide) (br_t rfl (br_f (by decide) (br_f (by decide) ⟨hin, nm_r (e' := (1 : Int32) <<< (nI x &&& 31)) (by rw [nI_clamp (by omega), ex]) (br_f (by decide) (br_t rfl ⟨hin, nm_r (e' := ((1 : Int32) <<< (nI x &&& 31)) ||| ((1 : Int32) <<< (nI q &&& 31))) (by rw [nI_clamp (by omega), eq]) (sx_ka63 hn hv hi hc ?_ hp)⟩))⟩))))))
    constructor
    · rintro ⟨r, h1, h2⟩
      rw [sf_orI, sf_oneI x (by omega), sf_oneI q (by omega)] at h2
      rcases h2 with h2 | h2
      · subst h2; exact Or.inl ⟨by rw [o]; decide, by rw [ex']; exact h1⟩
      · subst h2; exact Or.inr ⟨Or.inr o, by rw [eq']; exact h1⟩
    · rintro (w | w)
      · exact ⟨x, by have := w.2; rw [ex'] at this; exact this, (sf_orI _ _ _).mpr (Or.inl ((sf_oneI x (by omega) x).mpr rfl))⟩
      · exact ⟨q, by have := w.2; rw [eq'] at this; exact this, (sf_orI _ _ _).mpr (Or.inr ((sf_oneI q (by omega) q).mpr rfl))⟩
  · exact nm_r (ea.trans o) (br_f (by decide) (br_f (by decide) (br_f (by decide) (br_f (by decide) (br_t rfl (hn0 (hno _ o (by decide))))))))
  · exact nm_r (ea.trans o) (br_f (by decide) (br_f (by decide) (br_f (by decide) (br_f (by decide) (br_t rfl (hn0 (hno _ o (by decide))))))))
  · exact nm_r (ea.trans o) (br_f (by decide) (br_f (by decide) (br_f (by decide) (br_f (by decide) (br_t rfl (hn0 (hno _ o (by decide))))))))
  · exact nm_r (ea.trans o) (br_f (by decide) (br_f (by decide) (br_f (by decide) (br_f (by decide) (br_t rfl (hn0 (hno _ o (by decide))))))))
theorem sx_passOn {post : SX → Prop} {nm : Nat → Int32} {n : Nat} {co se us : Int32} {op rg ar nx me un kn he po pc sc en : Nat → Int32} {i : Nat} (hn : n ≤ 16) (hx : ∀ i, i < n → nx i = nm i) (hv : sf_val n op rg ar) (hi : i < n)
    (hp : ∀ a K, (∀ r, bt a r = true ↔ sf_A op rg ar (sf_t kn) (fun i => bt us i = true) i r) → (∀ j, j < n → bt (nm i) j = true → K j = kn j ||| a) → (∀ j, j < n → ¬ bt (nm i) j = true → K j = kn j) → post (nI n, co, se, us, op, rg, ar, nx, me, un, K, he, po, pc, sc, en)) : wpX_passOn post (nI n, co, se, us, op, rg, ar, nx, me, un, kn, he, po, pc, sc, en) (nI i) := by
  refine sx_knowingAfter hn hv hi (fun a ha => ?_)
  have key : ∀ d j K, j + d = n → (∀ k, k < j → bt (nm i) k = true → K k = kn k ||| a) → (∀ k, k < j → ¬ bt (nm i) k = true → K k = kn k) → (∀ k, j ≤ k → K k = kn k) →
      wX_passOn_8 post (nI i) a (nI n) co se us (d + 1) (nI j) op rg ar nx me un K he po pc sc en := by
    intro d
    induction d with
    | zero =>
      intro j K hj h1 h2 _
      have e : j = n := by omega
      subst e
      exact br_t (nI_le (Nat.le_refl _) (by omega)) (hp a K ha h1 h2)
    | succ d ih =>
      intro j K hj h1 h2 h3
      have hin : vp_in (nI j) 16 := vp_in_nI (by omega) (by omega)
      refine br_f (nI_ge (by omega) (by omega)) ⟨vp_in_nI (by omega) (by omega), sx_hasb (x' := nm i) j ((sx_at (by omega)).trans (hx i hi)) rfl (by omega) (fun hz => ⟨hin, hin, nm_r (e' := upd K j (K j ||| a)) (by rw [nI_clamp (by omega)]) (nm_r (nI_1 j) (ih (j + 1) _ (by omega) (fun k hk hb => ?_) (fun k hk hb => ?_) (fun k hk => ?_)))⟩) (fun hz => nm_r (nI_1 j) (ih (j + 1) K (by omega) (fun k hk hb => ?_) (fun k hk hb => ?_) (fun k hk => h3 k (by omega))))⟩
      · by_cases e : k = j
        · subst e; rw [pk_us, h3 k (Nat.le_refl k)]
        · rw [pk_un e]; exact h1 k (by omega) hb
      · by_cases e : k = j
        · subst e; exact absurd hz hb
        · rw [pk_un e]; exact h2 k (by omega) hb
      · rw [pk_un (by omega)]; exact h3 k (by omega)
      · by_cases e : k = j
        · subst e; exact absurd hb hz
        · exact h1 k (by omega) hb
      · by_cases e : k = j
        · subst e; exact h3 k (Nat.le_refl k)
        · exact h2 k (by omega) hb
  exact ⟨n + 1, key n 0 kn (by omega) (fun k hk => absurd hk (by omega)) (fun k hk => absurd hk (by omega)) (fun _ _ => rfl)⟩
theorem sx_findKnowing {post : SX → Prop} {nm : Nat → Int32} {n : Nat} {co se us : Int32} {op rg ar nx me un kn he po pc sc en : Nat → Int32} (hn0 : 0 < n) (hn : n ≤ 16) (hx : ∀ i, i < n → nx i = nm i) (hv : sf_val n op rg ar)
    (hco : ∀ j, bt co j = true ↔ sf_come n nm j) (hun : ∀ b, b < n → ∀ j, bt (un b) j = true ↔ sf_U n nm b j)
    (hp : ∀ K s u, (∀ j r, j < n → (sf_t K j r ↔ sf_K n nm op rg ar j r)) → (∀ b, b < n → (bt s b = true ↔ op b = 6 ∧ sf_K n nm op rg ar b (sf_n rg b))) →
      (∀ i, i < n → (bt u i = true ↔ sf_V n nm op rg (sf_K n nm op rg ar) i)) → post (nI n, co, s, u, op, rg, ar, nx, me, un, K, he, po, pc, sc, en)) : wpX_findKnowing post (nI n, co, se, us, op, rg, ar, nx, me, un, kn, he, po, pc, sc, en) := by
  have kc : ∀ (J : Int32 → Int32 → Int32 → Int32 → Int32 → (Nat → Int32) → (Nat → Int32) → (Nat → Int32) → (Nat → Int32) → (Nat → Int32) → (Nat → Int32) → (Nat → Int32) → (Nat → Int32) → (Nat → Int32) → (Nat → Int32) → (Nat → Int32) → (Nat → Int32) → Prop)
      (t : Nat) (s u : Int32) (K0 : Nat → Int32), (∀ i, i < n → (bt u i = true ↔ sf_V n nm op rg (sf_t K0) i)) →
      (∀ K, sf_P n nm op rg ar n (fun i => bt u i = true) K0 K n → J (nI (t + 1)) (nI n) co s u op rg ar nx me un K he po pc sc en) → ∀ d i K, i + d = n → sf_P n nm op rg ar n (fun i => bt u i = true) K0 K i →
      wX_findKnowing_54 post J (nI t) (d + 1) (nI i) (nI n) co s u op rg ar nx me un K he po pc sc en := by
    intro J t s u K0 hV hJ d
    induction d with
    | zero =>
      intro i K hi hP
      have e : i = n := by omega
      subst e
      exact br_t (nI_le (Nat.le_refl _) (by omega)) (nm_r (nI_1 t) (hJ K hP))
    | succ d ih =>
      intro i K hi hP
      refine br_f (nI_ge (by omega) (by omega)) (sx_hasb i rfl rfl (by omega) (fun hc => sx_passOn hn hx hv (by omega) (fun a K' ha h1 h2 => nm_r (nI_1 i) (ih (i + 1) K' (by omega) (sf_P_t hv (Nat.le_refl n) hV hP (by omega) ((hco i).mp hc) ha h1 h2)))) (fun hc => nm_r (nI_1 i) (ih (i + 1) K (by omega) (sf_P_f hP (fun w => hc ((hco i).mpr w))))))
  have kb : ∀ d t K s u, t + d = 65 → sf_T n nm op rg ar t K s u → wX_findKnowing_42 post (d + 1) (nI t) (nI n) co s u op rg ar nx me un K he po pc sc en := by
    intro d
    induction d with
    | zero =>
      intro t K s u ht hT
      have e : t = 65 := by omega
      subst e
      have := sf_T_e hn hT
      exact br_t (by decide) (hp K s u this.1 this.2.1 this.2.2)
    | succ d ih =>
      intro t K s u ht hT
      refine pk_le 65 t (fun z => absurd z (by omega)) (fun _ => sx_findSecretPlaces hn hv (fun s' u' hs' hu' => ?_))
      have hV : ∀ i, i < n → (bt u' i = true ↔ sf_V n nm op rg (sf_t K) i) := by
        intro i hi
        rw [hu' i]
        constructor
        · rintro (w | ⟨b, hb, ho, hk, hu⟩)
          · exact hT.2.2.2.1 i hi w
          · exact ⟨b, hb, sf_K_come (hT.1 b _ hb hk), ho, hk, (hun b hb i).mp hu⟩
        · rintro ⟨b, hb, _, ho, hk, hu⟩
          exact Or.inr ⟨b, hb, ho, hk, (hun b hb i).mpr hu⟩
      exact ⟨n + 1, kc _ t s' u' K hV (fun K' hP => ih (t + 1) K' s' u' (by omega) (sf_T_s hn0 hT hs' hV hP)) n 0 K (by omega) (sf_P_0 hT.1)⟩
  have ka : ∀ d i K, i + d = n → (∀ k, k < i → K k = 0) → wX_findKnowing_2 post (nI n) co se us (d + 1) (nI i) op rg ar nx me un K he po pc sc en := by
    intro d
    induction d with
    | zero =>
      intro i K hi h
      have e : i = n := by omega
      subst e
      refine br_t (nI_le (Nat.le_refl _) (by omega)) (nm_e ⟨66, kb 65 0 _ 0 0 rfl (sf_T_0 hn0 pk_us (fun j hj hj0 => ?_))⟩)
      rw [pk_un hj0]; exact h j hj
    | succ d ih =>
      intro i K hi h
      refine br_f (nI_ge (by omega) (by omega)) ⟨vp_in_nI (by omega) (by omega), nm_r (e' := upd K i 0) (by rw [nI_clamp (by omega)]) (nm_r (nI_1 i) (ih (i + 1) _ (by omega) (fun k hk => ?_)))⟩
      by_cases e : k = i
      · subst e; exact pk_us
      · rw [pk_un e]; exact h k (by omega)
  exact ⟨n + 1, ka n 0 kn (by omega) (fun k hk => absurd hk (by omega))⟩
/-- what the component has worked out of the program -/
def sx_D (n : Nat) (co se us : Int32) (op rg ar nx me un kn : Nat → Int32) : Prop :=
  (∀ i, i < n → nx i = sf_nm n op ar i) ∧ (∀ j, bt co j = true ↔ sf_come n (sf_nm n op ar) j) ∧ (∀ b, b < n → ∀ q, bt (me b) q = true ↔ sf_M n (sf_nm n op ar) b q) ∧
  (∀ b, b < n → ∀ j, bt (un b) j = true ↔ sf_U n (sf_nm n op ar) b j) ∧ (∀ j r, j < n → (sf_t kn j r ↔ sf_K n (sf_nm n op ar) op rg ar j r)) ∧
  (∀ b, b < n → (bt se b = true ↔ op b = 6 ∧ sf_K n (sf_nm n op ar) op rg ar b (sf_n rg b))) ∧ (∀ i, i < n → (bt us i = true ↔ sf_V n (sf_nm n op ar) op rg (sf_K n (sf_nm n op ar) op rg ar) i))
theorem sx_applyRules {post : SX → Prop} {n : Nat} {co se us : Int32} {op rg ar nx me un kn he po pc sc en : Nat → Int32} (hn0 : 0 < n) (hn : n ≤ 16) (hv : sf_val n op rg ar)
    (hp : ∀ co se us nx me un kn, sx_D n co se us op rg ar nx me un kn → post (nI n, co, se, us, op, rg, ar, nx, me, un, kn, he, po, pc, sc, en)) : wpX_applyRules post (nI n, co, se, us, op, rg, ar, nx, me, un, kn, he, po, pc, sc, en) := by
  have hok : sf_ok n (sf_nm n op ar) := sf_nm_ok hn
  have k2 : ∀ co se us nx kn, (∀ i, i < n → nx i = sf_nm n op ar i) → (∀ j, bt co j = true ↔ sf_come n (sf_nm n op ar) j) → ∀ d i me un, i + d = n →
      (∀ b, b < i → ∀ q, bt (me b) q = true ↔ sf_M n (sf_nm n op ar) b q) → (∀ b, b < i → ∀ j, bt (un b) j = true ↔ sf_U n (sf_nm n op ar) b j) →
      wX_applyRules_39 post (nI n) co se us (d + 1) (nI i) op rg ar nx me un kn he po pc sc en := by
    intro co se us nx kn hx hco d
    induction d with
    | zero =>
      intro i me un hi h1 h2
      have e : i = n := by omega
      subst e
      exact br_t (nI_le (Nat.le_refl _) (by omega)) (sx_findKnowing hn0 hn hx hv hco h2 (fun K s u a1 a2 a3 => hp _ _ _ _ _ _ _ ⟨hx, hco, h1, h2, a1, a2, a3⟩))
    | succ d ih =>
      intro i me un hi h1 h2
      have hin : vp_in (nI i) 16 := vp_in_nI (by omega) (by omega)
      refine br_f (nI_ge (by omega) (by omega)) (sx_findMeetings hn hx hok (by omega) (fun z hz => ⟨hin, nm_r (e' := upd me i z) (by rw [nI_clamp (by omega)]) ⟨hin, hin, sx_reach (s := sf_nm n op ar i) (b := z) (S := sf_B (sf_nm n op ar) i) (B := sf_M n (sf_nm n op ar) i) ((sx_at (by omega)).trans (hx i (by omega))) (by rw [nI_clamp (by omega), pk_us]) hn hx hok (hok i (by omega)) (fun _ => Iff.rfl) hz (fun y hy => ⟨hin, nm_r (e' := upd un i y) (by rw [nI_clamp (by omega)]) (nm_r (nI_1 i) (ih (i + 1) _ _ (by omega) (fun b hb q => ?_) (fun b hb q => ?_)))⟩)⟩⟩))
      · by_cases e : b = i
        · subst e; rw [pk_us]; exact hz q
        · rw [pk_un e]; exact h1 b (by omega) q
      · by_cases e : b = i
        · subst e; rw [pk_us]; exact hy q
        · rw [pk_un e]; exact h2 b (by omega) q
  have k1 : ∀ d i nx, i + d = n → (∀ k, k < i → nx k = sf_nm n op ar k) → wX_applyRules_2 post (nI n) co se us (d + 1) (nI i) op rg ar nx me un kn he po pc sc en := by
    intro d
    induction d with
    | zero =>
      intro i nx hi h
      have e : i = n := by omega
      subst e
      exact br_t (nI_le (Nat.le_refl _) (by omega)) (sx_reach (S := fun j => j = 0) (B := sf_no) rfl rfl hn h hok (fun i hi => by have := (sf_uno i).mp hi; omega) sf_uno (fun j => ⟨fun w => absurd w (sf_0I j), fun w => absurd w (fun z => z)⟩) (fun z hz => ⟨i + 1, k2 z se us nx kn h hz i 0 me un (by omega) (fun b hb => absurd hb (by omega)) (fun b hb => absurd hb (by omega))⟩))
    | succ d ih =>
      intro i nx hi h
      refine br_f (nI_ge (by omega) (by omega)) (sx_findNext hn hv (by omega) ⟨vp_in_nI (by omega) (by omega), nm_r (e' := upd nx i (sf_nm n op ar i)) (by rw [nI_clamp (by omega)]) (nm_r (nI_1 i) (ih (i + 1) _ (by omega) (fun k hk => ?_)))⟩)
      by_cases e : k = i
      · subst e; exact pk_us
      · rw [pk_un e]; exact h k (by omega)
  exact ⟨n + 1, k1 n 0 nx (by omega) (fun k hk => absurd hk (by omega))⟩
