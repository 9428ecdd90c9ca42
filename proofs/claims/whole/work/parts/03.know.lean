/-! the program: its instructions, where they go on -/
def sf_ch (op : Nat → Int32) (i : Nat) : Prop := op i = 0 ∨ op i = 1 ∨ op i = 2 ∨ op i = 3
def sf_val (n : Nat) (op rg ar : Nat → Int32) : Prop := ∀ i, i < n →
  (op i = 0 ∨ op i = 1 ∨ op i = 2 ∨ op i = 3 ∨ op i = 4 ∨ op i = 5 ∨ op i = 6 ∨ op i = 7) ∧
  (¬ op i = 5 → ¬ op i = 7 → ∃ r, r < 4 ∧ rg i = nI r) ∧ (sf_ch op i → ∃ x, x < 4 ∧ ar i = nI x) ∧ (op i = 5 ∨ op i = 6 → ∃ x, x ≤ 16 ∧ ar i = nI x)
def sf_n (a : Nat → Int32) (i : Nat) : Nat := (a i).toNatClampNeg
theorem sf_n_e {a : Nat → Int32} {i r : Nat} (h : a i = nI r) (hr : r < 2 ^ 31) : sf_n a i = r := by unfold sf_n; rw [h, nI_clamp hr]
def sf_tg (n : Nat) (ar : Nat → Int32) (i : Nat) : Nat := if sf_n ar i < n then sf_n ar i else n
theorem sf_tg_le (n : Nat) (ar : Nat → Int32) (i : Nat) : sf_tg n ar i ≤ n := by unfold sf_tg; split <;> omega
def sf_nm (n : Nat) (op ar : Nat → Int32) (i : Nat) : Int32 :=
  if op i = 7 then (1 : Int32) <<< (nI n &&& 31) else if op i = 5 then (1 : Int32) <<< (nI (sf_tg n ar i) &&& 31)
  else if op i = 6 then ((1 : Int32) <<< (nI (i + 1) &&& 31)) ||| ((1 : Int32) <<< (nI (sf_tg n ar i) &&& 31)) else (1 : Int32) <<< (nI (i + 1) &&& 31)
theorem sf_nm_ok {n : Nat} {op ar : Nat → Int32} (hn : n ≤ 16) : sf_ok n (sf_nm n op ar) := by
  intro i hi j hj
  have ht := sf_tg_le n ar i
  unfold sf_nm at hj
  split at hj
  · rw [sf_oneI n (by omega)] at hj; omega
  · split at hj
    · rw [sf_oneI _ (by omega)] at hj; omega
    · split at hj
      · rw [sf_orI, sf_oneI _ (by omega), sf_oneI _ (by omega)] at hj; omega
      · rw [sf_oneI _ (by omega)] at hj; omega

/-! knowing: the least relation -/
def sf_A (op rg ar : Nat → Int32) (C : Nat → Nat → Prop) (V : Nat → Prop) (i r : Nat) : Prop :=
  (¬ (sf_ch op i ∧ r = sf_n rg i) ∧ C i r) ∨
  ((sf_ch op i ∧ r = sf_n rg i) ∧ ((¬ op i = 0 ∧ C i (sf_n ar i)) ∨ ((op i = 2 ∨ op i = 3) ∧ C i (sf_n rg i)) ∨ V i))
def sf_V (n : Nat) (nm op rg : Nat → Int32) (C : Nat → Nat → Prop) (i : Nat) : Prop :=
  ∃ b, b < n ∧ sf_come n nm b ∧ op b = 6 ∧ C b (sf_n rg b) ∧ sf_U n nm b i
def sf_K (n : Nat) (nm op rg ar : Nat → Int32) (i r : Nat) : Prop :=
  ∀ C : Nat → Nat → Prop, C 0 1 → (∀ i j r, i < n → sf_come n nm i → bt (nm i) j = true → sf_A op rg ar C (sf_V n nm op rg C) i r → C j r) → C i r
theorem sf_A_mono {op rg ar : Nat → Int32} {C D : Nat → Nat → Prop} {V W : Nat → Prop} {i r : Nat} (hC : ∀ r, C i r → D i r) (hV : V i → W i) (h : sf_A op rg ar C V i r) : sf_A op rg ar D W i r := by
  rcases h with ⟨h1, h2⟩ | ⟨h1, h2⟩
  · exact Or.inl ⟨h1, hC r h2⟩
  · refine Or.inr ⟨h1, ?_⟩
    rcases h2 with ⟨a, b⟩ | ⟨a, b⟩ | h2
    · exact Or.inl ⟨a, hC _ b⟩
    · exact Or.inr (Or.inl ⟨a, hC _ b⟩)
    · exact Or.inr (Or.inr (hV h2))
theorem sf_V_mono {n : Nat} {nm op rg : Nat → Int32} {C D : Nat → Nat → Prop} {i : Nat} (hC : ∀ b r, b < n → C b r → D b r) (h : sf_V n nm op rg C i) : sf_V n nm op rg D i := by
  obtain ⟨b, h1, h2, h3, h4, h5⟩ := h
  exact ⟨b, h1, h2, h3, hC b _ h1 h4, h5⟩
theorem sf_K_0 {n : Nat} {nm op rg ar : Nat → Int32} : sf_K n nm op rg ar 0 1 := fun _ h0 _ => h0
theorem sf_K_s {n : Nat} {nm op rg ar : Nat → Int32} {i j r : Nat} (hi : i < n) (hc : sf_come n nm i) (hj : bt (nm i) j = true)
    (h : sf_A op rg ar (sf_K n nm op rg ar) (sf_V n nm op rg (sf_K n nm op rg ar)) i r) : sf_K n nm op rg ar j r :=
  fun C h0 hs => hs i j r hi hc hj (sf_A_mono (fun _ z => z C h0 hs) (sf_V_mono (fun _ _ _ z => z C h0 hs)) h)
theorem sf_K_come {n : Nat} {nm op rg ar : Nat → Int32} {i r : Nat} (h : sf_K n nm op rg ar i r) : sf_come n nm i :=
  h (fun i _ => sf_come n nm i) sf_come_0 (fun _ _ _ hi hc hj _ => sf_R_step hc hi hj (fun z => z))
theorem sf_K_4 {n : Nat} {nm op rg ar : Nat → Int32} (hv : sf_val n op rg ar) {i r : Nat} (h : sf_K n nm op rg ar i r) : r < 4 := by
  refine h (fun _ r => r < 4) (by omega) (fun i j r hi _ _ hA => ?_)
  rcases hA with ⟨_, h2⟩ | ⟨⟨hc, h1⟩, _⟩
  · exact h2
  · obtain ⟨x, hx, e⟩ := (hv i hi).2.1 (by rcases hc with e | e | e | e <;> rw [e] <;> decide) (by rcases hc with e | e | e | e <;> rw [e] <;> decide)
    rw [h1, sf_n_e e (by omega)]
    exact hx
/-- a table of known registers as a relation -/
def sf_t (K : Nat → Int32) (i r : Nat) : Prop := bt (K i) r = true
theorem sf_K_top {n : Nat} {nm op rg ar K : Nat → Int32} (h0 : sf_t K 0 1)
    (hcl : ∀ i j r, i < n → j < n → sf_come n nm i → bt (nm i) j = true → sf_A op rg ar (sf_t K) (sf_V n nm op rg (sf_t K)) i r → sf_t K j r)
    {i r : Nat} (hi : i < n) (h : sf_K n nm op rg ar i r) : sf_t K i r := by
  refine h (fun i r => i < n → sf_t K i r) (fun _ => h0) (fun i j r hin hc hj hA hjn => ?_) hi
  exact hcl i j r hin hjn hc hj (sf_A_mono (fun _ z => z hin) (sf_V_mono (fun b _ hb z => z hb)) hA)

/-! how many pairs -/
def sf_f (K : Nat → Int32) (t : Nat) : Bool := bt (K (t / 4)) (t % 4)
def sf_k (K : Nat → Int32) (m : Nat) : Nat := sf_c (sf_f K) (4 * m)
theorem sf_k_le (K : Nat → Int32) (m : Nat) : sf_k K m ≤ 4 * m := sf_c_le _ _
theorem sf_k_mono {K K' : Nat → Int32} {m : Nat} (h : ∀ j r, j < m → sf_t K j r → sf_t K' j r) : sf_k K m ≤ sf_k K' m :=
  sf_c_mono _ (fun i hi hf => h (i / 4) (i % 4) (by omega) hf)
theorem sf_k_lt {K K' : Nat → Int32} {m j r : Nat} (h : ∀ j r, j < m → sf_t K j r → sf_t K' j r) (hj : j < m) (hr : r < 4) (h1 : sf_t K' j r) (h2 : ¬ sf_t K j r) : sf_k K m < sf_k K' m := by
  have e1 : (4 * j + r) / 4 = j := by omega
  have e2 : (4 * j + r) % 4 = r := by omega
  refine sf_c_lt (a := 4 * j + r) ?_ ?_ _ (by omega) (fun i hi hf => h (i / 4) (i % 4) (by omega) hf)
  · show bt (K' ((4 * j + r) / 4)) ((4 * j + r) % 4) = true
    rw [e1, e2]; exact h1
  · show ¬ bt (K ((4 * j + r) / 4)) ((4 * j + r) % 4) = true
    rw [e1, e2]; exact h2

/-! one round over the places, up to place i -/
def sf_P (n : Nat) (nm op rg ar : Nat → Int32) (m : Nat) (V0 : Nat → Prop) (K0 K : Nat → Int32) (i : Nat) : Prop :=
  (∀ j r, j < m → sf_t K j r → sf_K n nm op rg ar j r) ∧ (∀ j r, j < m → sf_t K0 j r → sf_t K j r) ∧
  (sf_k K0 m < sf_k K m ∨ ((∀ j, j < m → K j = K0 j) ∧ ∀ i' j r, i' < i → sf_come n nm i' → j < m → bt (nm i') j = true → sf_A op rg ar (sf_t K0) V0 i' r → sf_t K0 j r))
theorem sf_P_0 {n : Nat} {nm op rg ar : Nat → Int32} {m : Nat} {V0 : Nat → Prop} {K : Nat → Int32} (h : ∀ j r, j < m → sf_t K j r → sf_K n nm op rg ar j r) : sf_P n nm op rg ar m V0 K K 0 :=
  ⟨h, fun _ _ _ z => z, Or.inr ⟨fun _ _ => rfl, fun _ _ _ z => absurd z (by omega)⟩⟩
theorem sf_P_f {n : Nat} {nm op rg ar : Nat → Int32} {m : Nat} {V0 : Nat → Prop} {K0 K : Nat → Int32} {i : Nat} (h : sf_P n nm op rg ar m V0 K0 K i) (hc : ¬ sf_come n nm i) : sf_P n nm op rg ar m V0 K0 K (i + 1) := by
  refine ⟨h.1, h.2.1, ?_⟩
  rcases h.2.2 with h3 | ⟨h3, h4⟩
  · exact Or.inl h3
  · refine Or.inr ⟨h3, fun i' j r hi' hc' => ?_⟩
    by_cases e : i' = i
    · subst e; exact absurd hc' hc
    · exact h4 i' j r (by omega) hc'
theorem sf_P_t {n : Nat} {nm op rg ar : Nat → Int32} {m : Nat} {V0 : Nat → Prop} {K0 K K' : Nat → Int32} {i : Nat} {a : Int32} (hv : sf_val n op rg ar) (hm : n ≤ m)
    (hV : ∀ i, i < n → (V0 i ↔ sf_V n nm op rg (sf_t K0) i)) (h : sf_P n nm op rg ar m V0 K0 K i) (hi : i < n) (hc : sf_come n nm i)
    (ha : ∀ r, bt a r = true ↔ sf_A op rg ar (sf_t K) V0 i r)
    (h1 : ∀ j, j < m → bt (nm i) j = true → K' j = K j ||| a) (h2 : ∀ j, j < m → ¬ bt (nm i) j = true → K' j = K j) : sf_P n nm op rg ar m V0 K0 K' (i + 1) := by
  obtain ⟨p1, p2, p3⟩ := h
  have hA : ∀ r, bt a r = true → sf_A op rg ar (sf_K n nm op rg ar) (sf_V n nm op rg (sf_K n nm op rg ar)) i r := fun r hr =>
    sf_A_mono (fun r z => p1 i r (by omega) z) (fun z => sf_V_mono (fun b r hb w => p1 b r (by omega) (p2 b r (by omega) w)) ((hV i hi).mp z)) ((ha r).mp hr)
  have q1 : ∀ j r, j < m → sf_t K' j r → sf_t K j r ∨ (bt (nm i) j = true ∧ bt a r = true) := by
    intro j r hj hr
    by_cases e : bt (nm i) j = true
    · unfold sf_t at hr
      rw [h1 j hj e, sf_orI] at hr
      rcases hr with hr | hr
      · exact Or.inl hr
      · exact Or.inr ⟨e, hr⟩
    · unfold sf_t at hr
      rw [h2 j hj e] at hr
      exact Or.inl hr
  have q2 : ∀ j r, j < m → sf_t K j r → sf_t K' j r := by
    intro j r hj hr
    unfold sf_t
    by_cases e : bt (nm i) j = true
    · rw [h1 j hj e, sf_orI]; exact Or.inl hr
    · rw [h2 j hj e]; exact hr
  have q3 : ∀ j r, j < m → sf_t K' j r → sf_K n nm op rg ar j r := by
    intro j r hj hr
    rcases q1 j r hj hr with hr | ⟨hk, hr⟩
    · exact p1 j r hj hr
    · exact sf_K_s hi hc hk (hA r hr)
  refine ⟨q3, fun j r hj z => q2 j r hj (p2 j r hj z), ?_⟩
  rcases p3 with p3 | ⟨p3, p4⟩
  · exact Or.inl (Nat.lt_of_lt_of_le p3 (sf_k_mono q2))
  · by_cases e : ∀ j, j < m → K' j = K j
    · right
      refine ⟨fun j hj => (e j hj).trans (p3 j hj), fun i' j r hi' hc' hj hk hA' => ?_⟩
      by_cases e' : i' = i
      · subst e'
        have hr : bt a r = true := (ha r).mpr (sf_A_mono (fun r z => by unfold sf_t; rw [p3 i' (by omega)]; exact z) (fun z => z) hA')
        have : K' j = K0 j := (e j hj).trans (p3 j hj)
        unfold sf_t
        rw [← this, h1 j hj hk, sf_orI]
        exact Or.inr hr
      · exact p4 i' j r (by omega) hc' hj hk hA'
    · left
      have : ∃ j, j < m ∧ ¬ K' j = K j := by
        apply Classical.byContradiction
        intro hn
        exact e (fun j hj => Classical.byContradiction (fun z => hn ⟨j, hj, z⟩))
      obtain ⟨j, hj, hne⟩ := this
      obtain ⟨r, hr, hnr⟩ := sf_ne (fun z => hne z.symm) (fun r z => q2 j r hj z)
      have h4 := sf_K_4 hv (q3 j r hj hr)
      have e0 : sf_k K0 m ≤ sf_k K m := sf_k_mono p2
      have := sf_k_lt q2 hj h4 hr hnr
      omega

/-! the component's rounds, t of them done -/
def sf_T (n : Nat) (nm op rg ar : Nat → Int32) (t : Nat) (K : Nat → Int32) (sp us : Int32) : Prop :=
  (∀ j r, j < n → sf_t K j r → sf_K n nm op rg ar j r) ∧ sf_t K 0 1 ∧
  (∀ b, b < n → bt sp b = true → op b = 6 ∧ sf_t K b (sf_n rg b)) ∧ (∀ i, i < n → bt us i = true → sf_V n nm op rg (sf_t K) i) ∧
  (t + 1 ≤ sf_k K n ∨ ((∀ j r, j < n → sf_K n nm op rg ar j r → sf_t K j r) ∧ (∀ b, b < n → op b = 6 → sf_t K b (sf_n rg b) → bt sp b = true) ∧ (∀ i, i < n → sf_V n nm op rg (sf_t K) i → bt us i = true)))
theorem sf_T_0 {n : Nat} {nm op rg ar K : Nat → Int32} (hn : 0 < n) (h0 : K 0 = 2) (h : ∀ j, j < n → ¬ j = 0 → K j = 0) : sf_T n nm op rg ar 0 K 0 0 := by
  have hb := sf_two
  have h1 : sf_t K 0 1 := by unfold sf_t; rw [h0]; exact (hb 1).mpr rfl
  refine ⟨fun j r hj hr => ?_, h1, fun b _ z => absurd z (sf_0I b), fun b _ z => absurd z (sf_0I b), Or.inl ?_⟩
  · unfold sf_t at hr
    by_cases e : j = 0
    · subst e
      rw [h0, hb] at hr
      rw [hr]
      exact sf_K_0
    · rw [h j hj e] at hr
      exact absurd hr (sf_0I r)
  · exact sf_c_pos (f := sf_f K) (a := 1) h1 (4 * n) (by omega)
theorem sf_T_s {n : Nat} {nm op rg ar K K' : Nat → Int32} {t : Nat} {sp us sp' us' : Int32} (hn : 0 < n) (h : sf_T n nm op rg ar t K sp us)
    (hsp : ∀ b, bt sp' b = true ↔ bt sp b = true ∨ (b < n ∧ op b = 6 ∧ sf_t K b (sf_n rg b)))
    (hV : ∀ i, i < n → (bt us' i = true ↔ sf_V n nm op rg (sf_t K) i))
    (hP : sf_P n nm op rg ar n (fun i => bt us' i = true) K K' n) : sf_T n nm op rg ar (t + 1) K' sp' us' := by
  obtain ⟨t1, t2, t3, t4, t5⟩ := h
  obtain ⟨p1, p2, p3⟩ := hP
  refine ⟨p1, p2 0 1 hn t2, fun b hb z => ?_, fun i hi z => sf_V_mono (fun b r hb w => p2 b r hb w) ((hV i hi).mp z), ?_⟩
  · rcases (hsp b).mp z with z | ⟨_, z1, z2⟩
    · exact ⟨(t3 b hb z).1, p2 b _ hb (t3 b hb z).2⟩
    · exact ⟨z1, p2 b _ hb z2⟩
  · rcases p3 with p3 | ⟨p3, p4⟩
    · rcases t5 with t5 | ⟨t5, _⟩
      · left; omega
      · have : sf_k K' n ≤ sf_k K n := sf_k_mono (fun j r hj z => t5 j r hj (p1 j r hj z))
        omega
    · right
      have e : ∀ j r, j < n → (sf_t K' j r ↔ sf_t K j r) := fun j r hj => by unfold sf_t; rw [p3 j hj]
      refine ⟨fun j r hj z => (e j r hj).mpr ?_, fun b hb z1 z2 => (hsp b).mpr (Or.inr ⟨hb, z1, (e b _ hb).mp z2⟩), fun i hi z => (hV i hi).mpr (sf_V_mono (fun b r hb w => (e b r hb).mp w) z)⟩
      refine sf_K_top t2 (fun i j r hi hj hc hk hA => p4 i j r hi hc hj hk (sf_A_mono (fun _ z => z) (fun z => (hV i hi).mpr z) hA)) hj z
theorem sf_T_e {n : Nat} {nm op rg ar K : Nat → Int32} {sp us : Int32} (hn : n ≤ 16) (h : sf_T n nm op rg ar 65 K sp us) :
    (∀ j r, j < n → (sf_t K j r ↔ sf_K n nm op rg ar j r)) ∧ (∀ b, b < n → (bt sp b = true ↔ op b = 6 ∧ sf_K n nm op rg ar b (sf_n rg b))) ∧
    (∀ i, i < n → (bt us i = true ↔ sf_V n nm op rg (sf_K n nm op rg ar) i)) := by
  obtain ⟨t1, t2, t3, t4, t5⟩ := h
  rcases t5 with t5 | ⟨t5, t6, t7⟩
  · have := sf_k_le K n
    omega
  · refine ⟨fun j r hj => ⟨t1 j r hj, t5 j r hj⟩, fun b hb => ⟨fun z => ⟨(t3 b hb z).1, t1 b _ hb (t3 b hb z).2⟩, fun z => t6 b hb z.1 (t5 b _ hb z.2)⟩,
      fun i hi => ⟨fun z => sf_V_mono (fun b r hb w => t1 b r hb w) (t4 i hi z), fun z => t7 i hi (sf_V_mono (fun b r hb w => t5 b r hb w) z)⟩⟩

/-! the reference's rounds: more or not -/
def sf_Y (n : Nat) (nm op rg ar K : Nat → Int32) (mo : Int32) : Prop :=
  (∀ j r, j < n + 1 → sf_t K j r → sf_K n nm op rg ar j r) ∧ sf_t K 0 1 ∧ (mo = 1 ∨ (mo = 0 ∧ ∀ j r, j < n → sf_K n nm op rg ar j r → sf_t K j r))
/-- in a round: the flag tells whether something was added -/
def sf_Q (n : Nat) (nm op rg ar : Nat → Int32) (V0 : Nat → Prop) (K0 K : Nat → Int32) (i : Nat) (mo : Int32) : Prop :=
  sf_P n nm op rg ar (n + 1) V0 K0 K i ∧ ((mo = 1 ∧ sf_k K0 (n + 1) < sf_k K (n + 1)) ∨ (mo = 0 ∧ ∀ j, j < n + 1 → K j = K0 j))
theorem sf_Q_n {n : Nat} {nm op rg ar : Nat → Int32} {V0 : Nat → Prop} {K0 K : Nat → Int32} {mo : Int32} (h0 : sf_t K0 0 1)
    (hV : ∀ i, i < n → (V0 i ↔ sf_V n nm op rg (sf_t K0) i)) (h : sf_Q n nm op rg ar V0 K0 K n mo) : sf_Y n nm op rg ar K mo := by
  obtain ⟨⟨p1, p2, p3⟩, q⟩ := h
  refine ⟨p1, p2 0 1 (by omega) h0, ?_⟩
  rcases q with ⟨q1, _⟩ | ⟨q1, q2⟩
  · exact Or.inl q1
  · refine Or.inr ⟨q1, fun j r hj z => ?_⟩
    have e : ∀ j r, j < n + 1 → (sf_t K j r ↔ sf_t K0 j r) := fun j r hj => by unfold sf_t; rw [q2 j hj]
    rcases p3 with p3 | ⟨_, p4⟩
    · have : sf_k K (n + 1) ≤ sf_k K0 (n + 1) := sf_k_mono (fun j r hj z => (e j r hj).mp z)
      omega
    · refine (e j r (by omega)).mpr (sf_K_top h0 (fun i j r hi hj hc hk hA => p4 i j r hi hc (by omega) hk (sf_A_mono (fun _ z => z) (fun z => (hV i hi).mpr z) hA)) hj z)
/-- the flag after one place: K' is K with a put in -/
theorem sf_Q_t {n : Nat} {nm op rg ar : Nat → Int32} {V0 : Nat → Prop} {K0 K K' : Nat → Int32} {i : Nat} {a mo mo' : Int32} (hv : sf_val n op rg ar)
    (hV : ∀ i, i < n → (V0 i ↔ sf_V n nm op rg (sf_t K0) i)) (h : sf_Q n nm op rg ar V0 K0 K i mo) (hi : i < n) (hc : sf_come n nm i)
    (ha : ∀ r, bt a r = true ↔ sf_A op rg ar (sf_t K) V0 i r)
    (h1 : ∀ j, j < n + 1 → bt (nm i) j = true → K' j = K j ||| a) (h2 : ∀ j, j < n + 1 → ¬ bt (nm i) j = true → K' j = K j)
    (hmo : (mo' = 1 ∧ (mo = 1 ∨ ∃ j, j < n + 1 ∧ ¬ K' j = K j)) ∨ (mo' = mo ∧ ∀ j, j < n + 1 → K' j = K j)) : sf_Q n nm op rg ar V0 K0 K' (i + 1) mo' := by
  have hP := sf_P_t (m := n + 1) hv (by omega) hV h.1 hi hc ha h1 h2
  refine ⟨hP, ?_⟩
  have q2 : ∀ j r, j < n + 1 → sf_t K j r → sf_t K' j r := by
    intro j r hj hr
    unfold sf_t
    by_cases e : bt (nm i) j = true
    · rw [h1 j hj e, sf_orI]; exact Or.inl hr
    · rw [h2 j hj e]; exact hr
  rcases hmo with ⟨m1, m2⟩ | ⟨m1, m2⟩
  · refine Or.inl ⟨m1, ?_⟩
    have e0 : sf_k K0 (n + 1) ≤ sf_k K (n + 1) := sf_k_mono h.1.2.1
    have e1 : sf_k K (n + 1) ≤ sf_k K' (n + 1) := sf_k_mono q2
    have key : (∃ j, j < n + 1 ∧ ¬ K' j = K j) → sf_k K0 (n + 1) < sf_k K' (n + 1) := by
      intro ⟨j, hj, hne⟩
      obtain ⟨r, hr, hnr⟩ := sf_ne (fun z => hne z.symm) (fun r z => q2 j r hj z)
      have := sf_k_lt q2 hj (sf_K_4 hv (hP.1 j r hj hr)) hr hnr
      omega
    rcases m2 with m2 | m2
    · rcases h.2 with ⟨_, z⟩ | ⟨z, _⟩
      · omega
      · rw [m2] at z; exact absurd z (by decide)
    · exact key m2
  · rcases h.2 with ⟨z1, z2⟩ | ⟨z1, z2⟩
    · refine Or.inl ⟨m1.trans z1, Nat.lt_of_lt_of_le z2 (sf_k_mono q2)⟩
    · exact Or.inr ⟨m1.trans z1, fun j hj => (m2 j hj).trans (z2 j hj)⟩
theorem sf_Q_f {n : Nat} {nm op rg ar : Nat → Int32} {V0 : Nat → Prop} {K0 K : Nat → Int32} {i : Nat} {mo : Int32} (h : sf_Q n nm op rg ar V0 K0 K i mo) (hc : ¬ sf_come n nm i) : sf_Q n nm op rg ar V0 K0 K (i + 1) mo :=
  ⟨sf_P_f h.1 hc, h.2⟩
theorem sf_Q_0 {n : Nat} {nm op rg ar K : Nat → Int32} {V0 : Nat → Prop} {mo : Int32} (h : sf_Y n nm op rg ar K mo) : sf_Q n nm op rg ar V0 K K 0 0 :=
  ⟨sf_P_0 h.1, Or.inr ⟨rfl, fun _ _ => rfl⟩⟩
/-- the measure of the reference's rounds -/
def sf_mu (n : Nat) (K : Nat → Int32) (mo : Int32) : Nat := if mo = 0 then 0 else 4 * (n + 1) + 1 - sf_k K (n + 1)
theorem sf_mu_lt {n : Nat} {nm op rg ar : Nat → Int32} {V0 : Nat → Prop} {K0 K : Nat → Int32} {mo : Int32} (h : sf_Q n nm op rg ar V0 K0 K n mo) : sf_mu n K mo < sf_mu n K0 1 := by
  unfold sf_mu
  have h0 := sf_k_le K0 (n + 1)
  have h1 := sf_k_le K (n + 1)
  rw [if_neg (by decide : ¬ (1 : Int32) = 0)]
  rcases h.2 with ⟨z1, z2⟩ | ⟨z1, z2⟩
  · rw [z1, if_neg (by decide : ¬ (1 : Int32) = 0)]; omega
  · rw [z1, if_pos rfl]; omega
theorem sf_Y_0 {n : Nat} {nm op rg ar K : Nat → Int32} (h0 : K 0 = 2) (h : ∀ j, j < n + 1 → ¬ j = 0 → K j = 0) : sf_Y n nm op rg ar K 1 := by
  have hb := sf_two
  have h1 : sf_t K 0 1 := by unfold sf_t; rw [h0]; exact (hb 1).mpr rfl
  refine ⟨fun j r hj hr => ?_, h1, Or.inl rfl⟩
  unfold sf_t at hr
  by_cases e : j = 0
  · subst e
    rw [h0, hb] at hr
    rw [hr]
    exact sf_K_0
  · rw [h j hj e] at hr
    exact absurd hr (sf_0I r)
theorem sf_Y_e {n : Nat} {nm op rg ar K : Nat → Int32} (h : sf_Y n nm op rg ar K 0) (j r : Nat) (hj : j < n) : sf_t K j r ↔ sf_K n nm op rg ar j r := by
  rcases h.2.2 with z | z
  · exact absurd z (by decide)
  · exact ⟨h.1 j r (by omega), z.2 j r hj⟩

/-! what knows behind an instruction -/
theorem sf_A_n {op rg ar K : Nat → Int32} {V : Nat → Prop} {i : Nat} (hc : ¬ sf_ch op i) (r : Nat) : bt (K i) r = true ↔ sf_A op rg ar (sf_t K) V i r :=
  ⟨fun h => Or.inl ⟨fun z => hc z.1, h⟩, fun h => h.elim (fun z => z.2) (fun z => absurd z.1.1 hc)⟩
theorem sf_A_t {op rg ar K : Nat → Int32} {V : Nat → Prop} {i q : Nat} (hc : sf_ch op i) (hq : q < 4) (hr : rg i = nI q)
    (hk : (¬ op i = 0 ∧ sf_t K i (sf_n ar i)) ∨ ((op i = 2 ∨ op i = 3) ∧ sf_t K i (sf_n rg i)) ∨ V i) (r : Nat) : bt (K i ||| ((1 : Int32) <<< (rg i &&& 31))) r = true ↔ sf_A op rg ar (sf_t K) V i r := by
  have e : sf_n rg i = q := sf_n_e hr (by omega)
  rw [hr, sf_orI, sf_oneI q (by omega)]
  constructor
  · intro h
    by_cases z : r = q
    · exact Or.inr ⟨⟨hc, z.trans e.symm⟩, hk⟩
    · exact Or.inl ⟨fun w => z (w.2.trans e), h.resolve_right z⟩
  · intro h
    rcases h with ⟨_, h⟩ | ⟨⟨_, h⟩, _⟩
    · exact Or.inl h
    · exact Or.inr (h.trans e)
theorem sf_A_f {op rg ar K : Nat → Int32} {V : Nat → Prop} {i q : Nat} (hc : sf_ch op i) (hq : q < 4) (hr : rg i = nI q)
    (hk : ¬ ((¬ op i = 0 ∧ sf_t K i (sf_n ar i)) ∨ ((op i = 2 ∨ op i = 3) ∧ sf_t K i (sf_n rg i)) ∨ V i)) (r : Nat) : bt (K i &&& (((1 : Int32) <<< (rg i &&& 31)) ^^^ (-1))) r = true ↔ sf_A op rg ar (sf_t K) V i r := by
  have e : sf_n rg i = q := sf_n_e hr (by omega)
  rw [hr, sf_andnI, sf_oneI q (by omega)]
  constructor
  · intro h
    exact Or.inl ⟨fun w => h.2 (w.2.trans e), h.1⟩
  · intro h
    rcases h with ⟨h1, h⟩ | ⟨_, h⟩
    · exact ⟨h, fun z => h1 ⟨hc, z.trans e.symm⟩⟩
    · exact absurd h hk
