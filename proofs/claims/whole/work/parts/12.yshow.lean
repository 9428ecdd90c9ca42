/-! the reference's count of outputs -/
def sy_l (n : Nat) (q : sf_Cf) : Int32 := if n ≤ q.2.1 then nI q.2.2.1 else (-1)
def sy_V (n : Nat) (F : Nat → sf_Cf) (s : Nat) (rw ln : Nat → Int32) : Prop :=
  ∀ t, t < s → (F t).2.2.1 ≤ 60 ∧ ln t = sy_l n (F t) ∧ ∀ k, k < (F t).2.2.1 → rw (60 * t + k) = (F t).2.2.2 k
theorem sy_ix {s c : Nat} : 60 * nI s + nI c = nI (60 * s + c) := by
  rw [show (60 : Int32) = nI 60 from rfl, pk_mul, nI_add]
theorem sy_m1 {c : Nat} (h : c < 2 ^ 31) : ¬ nI c = -1 := by
  intro e
  have := nI_pos (n := c) h
  rw [e] at this
  exact this (by decide)
theorem sy_same {post : Int32 → Prop} {n : Nat} {ed sp ou : Int32} {op rg ar ka he ro rw ln : Nat → Int32} {F : Nat → sf_Cf} {m a b : Nat} (hm : m ≤ 4) (ha : a < m) (hb : b < m) (hV : sy_V n F m rw ln) (hd : n ≤ (F a).2.1)
    (h1 : n ≤ (F b).2.1 → sf_eq (F b) (F a) → post 1) (h0 : ¬ (n ≤ (F b).2.1 ∧ sf_eq (F b) (F a)) → post 0) : wpY_same post (nI n, ed, sp, ou, op, rg, ar, ka, he, ro, rw, ln) (nI a) (nI b) := by
  have hia : vp_in (nI a) 4 := vp_in_nI (by omega) (by omega)
  have hib : vp_in (nI b) 4 := vp_in_nI (by omega) (by omega)
  obtain ⟨a1, a2, a4⟩ := hV a ha
  obtain ⟨b1, b2, b4⟩ := hV b hb
  have ea : ln (nI a).toNatClampNeg = nI (F a).2.2.1 := by rw [nI_clamp (by omega), a2]; exact if_pos hd
  have eb : ln (nI b).toNatClampNeg = sy_l n (F b) := by rw [nI_clamp (by omega), b2]
  refine ⟨hia, hib, ?_⟩
  rw [ea, eb]
  unfold sy_l
  by_cases hdb : n ≤ (F b).2.1
  · rw [if_pos hdb]
    refine pk_eq (F a).2.2.1 (F b).2.2.1 (fun e => ?_) (fun e => h0 (fun w => e w.2.1.symm))
    have key : ∀ d k, k + d = (F a).2.2.1 → (∀ j, j < k → (F b).2.2.2 j = (F a).2.2.2 j) → wY_same_19 post (nI a) (nI b) (nI n) ed sp ou op rg ar ka he ro rw ln (d + 1) (nI k) := by
      intro d
      induction d with
      | zero =>
        intro k hk h
        refine ⟨hia, br_t (by rw [ea]; exact nI_le (by omega) (by omega)) (h1 hdb ⟨e.symm, fun j hj => h j (by omega)⟩)⟩
      | succ d ih =>
        intro k hk h
        refine ⟨hia, br_f (by rw [ea]; exact nI_ge (by omega) (by omega)) ?_⟩
        rw [sy_ix, sy_ix, nI_clamp (n := 60 * a + k) (by omega), nI_clamp (n := 60 * b + k) (by omega), a4 k (by omega), b4 k (by omega)]
        refine ⟨vp_in_nI (by omega) (by omega), vp_in_nI (by omega) (by omega), br_c (fun z => nm_r (nI_1 k) (ih (k + 1) (by omega) (fun j hj => ?_))) (fun z => h0 (fun w => z (w.2.2 k (by omega)).symm))⟩
        by_cases ej : j = k
        · subst ej; exact z.symm
        · exact h j (by omega)
    exact ⟨_, key (F a).2.2.1 0 (by omega) (fun j hj => absurd hj (by omega))⟩
  · rw [if_neg hdb]
    exact br_f (sy_m1 (by omega)) (h0 (fun w => hdb w.1))
/-- fresh or not -/
theorem sy_sw90 {post : Int32 → SY → Prop} {J4 : Int32 → Int32 → Int32 → Int32 → Int32 → Int32 → (Nat → Int32) → (Nat → Int32) → (Nat → Int32) → (Nat → Int32) → (Nat → Int32) → (Nat → Int32) → (Nat → Int32) → (Nat → Int32) → Prop} {n : Nat} {ed sp ou : Int32} {op rg ar ka he ro rw ln : Nat → Int32}
    {F : Nat → sf_Cf} {p : Int32} {s m : Nat} (hs : s < 4) (hm : m = sf_cnt n F s) (hV : sy_V n F (s + 1) rw ln) (hJ : J4 (nI (sf_cnt n F (s + 1))) (nI (s + 1)) (nI n) ed sp ou op rg ar ka he ro rw ln) :
    ∀ d t (f : Int32), t + d = s → ((f = 1 ∧ n ≤ (F s).2.1 ∧ ∀ j, j < t → ¬ (n ≤ (F j).2.1 ∧ sf_eq (F j) (F s))) ∨ (f = 0 ∧ ¬ (n ≤ (F s).2.1 ∧ ¬ sf_was n F s))) → wY_showsWith_90 post J4 p (nI m) (nI s) (nI n) ed sp ou op rg ar ka he ro rw ln (d + 1) f (nI t) := by
  intro d
  induction d with
  | zero =>
    intro t f ht h
    refine br_t (nI_le (by omega) (by omega)) ?_
    rcases h with ⟨h1, h2, h3⟩ | ⟨h1, h2⟩
    · subst h1
      rw [sf_cnt_t h2 (fun ⟨j, hj, w⟩ => h3 j (by omega) w), ← hm] at hJ
      exact br_f (by decide) (nm_r (nI_1 m) (nm_r (nI_1 s) hJ))
    · subst h1
      rw [sf_cnt_f h2, ← hm] at hJ
      exact br_t rfl (nm_r (nI_1 s) hJ)
  | succ d ih =>
    intro t f ht h
    refine br_f (nI_ge (by omega) (by omega)) ?_
    rcases h with ⟨h1, h2, h3⟩ | ⟨h1, h2⟩
    · subst h1
      refine br_f (by decide) (sy_same (m := s + 1) (by omega) (by omega) (by omega) hV h2 (fun w v => br_f (by decide) (nm_r (nI_1 t) (ih (t + 1) 0 (by omega) (Or.inr ⟨rfl, fun q => q.2 ⟨t, by omega, w, v⟩⟩)))) (fun w => br_t rfl (nm_r (nI_1 t) (ih (t + 1) 1 (by omega) (Or.inl ⟨rfl, h2, fun j hj => ?_⟩)))))
      by_cases e : j = t
      · subst e; exact w
      · exact h3 j (by omega)
    · subst h1
      exact br_t rfl (nm_r (nI_1 t) (ih (t + 1) 0 (by omega) (Or.inr ⟨rfl, h2⟩)))
/-- the copy of the row -/
theorem sy_sw39 {post : Int32 → SY → Prop} {J4 : Int32 → Int32 → Int32 → Int32 → Int32 → Int32 → (Nat → Int32) → (Nat → Int32) → (Nat → Int32) → (Nat → Int32) → (Nat → Int32) → (Nat → Int32) → (Nat → Int32) → (Nat → Int32) → Prop} {n : Nat} {ed sp ou : Int32} {op rg ar ka he ro rw ln : Nat → Int32}
    {p x2 : Int32} {s c : Nat} (hs : s < 4) (hc : c ≤ 60)
    (hJ : ∀ rw', (∀ k, k < c → rw' (60 * s + k) = ro k) → (∀ q, (q < 60 * s ∨ 60 * s + 60 ≤ q) → rw' q = rw q) →
      ((ed = 0 → ∃ m, wY_showsWith_90 post J4 p x2 (nI s) (nI n) ed sp (nI c) op rg ar ka he ro rw' ln m 1 0) ∧ (¬ ed = 0 → ∃ m, wY_showsWith_90 post J4 p x2 (nI s) (nI n) ed sp (nI c) op rg ar ka he ro rw' ln m 0 0))) :
    ∀ d k rw', k + d = c → (∀ j, j < k → rw' (60 * s + j) = ro j) → (∀ q, (q < 60 * s ∨ 60 * s + 60 ≤ q) → rw' q = rw q) → wY_showsWith_39 post J4 p x2 (nI s) (nI n) ed sp (nI c) (d + 1) (nI k) op rg ar ka he ro rw' ln := by
  intro d
  induction d with
  | zero =>
    intro k rw' hk h1 h2
    have e : k = c := by omega
    subst e
    exact br_t (nI_le (Nat.le_refl _) (by omega)) (hJ rw' h1 h2)
  | succ d ih =>
    intro k rw' hk h1 h2
    refine br_f (nI_ge (by omega) (by omega)) ⟨vp_in_nI (by omega) (by omega), ?_⟩
    rw [sy_ix]
    refine ⟨vp_in_nI (by omega) (by omega), nm_r (e' := upd rw' (60 * s + k) (ro k)) (by rw [nI_clamp (n := 60 * s + k) (by omega), nI_clamp (n := k) (by omega)]) (nm_r (nI_1 k) (ih (k + 1) _ (by omega) (fun j hj => ?_) (fun q hq => ?_)))⟩
    · by_cases e : j = k
      · subst e; exact pk_us
      · rw [pk_un (by omega)]; exact h1 j (by omega)
    · rw [pk_un (by omega)]; exact h2 q hq
theorem sy_showsWith {post : Int32 → SY → Prop} {n : Nat} {ed sp ou : Int32} {op rg ar ka he ro rw ln : Nat → Int32} {p : Int32} (hn : n ≤ 16) (hv : sf_val n op rg ar)
    (hp : ∀ ed' sp' ou' ro' rw' ln', post (nI (sf_sh n op rg ar he p)) (nI n, ed', sp', ou', op, rg, ar, ka, sf_bs n op rg ar he p 4, ro', rw', ln')) : wpY_showsWith post (nI n, ed, sp, ou, op, rg, ar, ka, he, ro, rw, ln) p := by
  have key : ∀ d s m ed' sp' ou' ro' rw' ln', s + d = 4 → m = sf_cnt n (sf_F n op rg ar he p) s → sy_V n (sf_F n op rg ar he p) s rw' ln' →
      wY_showsWith_4 post p (d + 1) (nI m) (nI s) (nI n) ed' sp' ou' op rg ar ka (sf_bs n op rg ar he p s) ro' rw' ln' := by
    intro d
    induction d with
    | zero =>
      intro s m ed' sp' ou' ro' rw' ln' hs hm hV
      have e : s = 4 := by omega
      subst e
      rw [hm]
      exact br_t (by decide) (hp ed' sp' ou' ro' rw' ln')
    | succ d ih =>
      intro s m ed' sp' ou' ro' rw' ln' hs hm hV
      refine pk_le 4 s (fun z => absurd z (by omega)) (fun _ => sy_doRun hn hv (fun d' g i c w ro'' hgo hi hc hd a1 => ?_))
      have hF : sf_F n op rg ar he p s = (g, i, c, w) := by
        show (sf_go n op rg ar (sf_bs n op rg ar he p s) p (nI s)).2 = _
        rw [hgo]
      have hg : g = sf_bs n op rg ar he p (s + 1) := by
        rw [sf_bs_s]
        show g = (sf_go n op rg ar (sf_bs n op rg ar he p s) p (nI s)).2.1
        rw [hgo]
      have hV' : ∀ rw'', (∀ k, k < c → rw'' (60 * s + k) = ro'' k) → (∀ q, (q < 60 * s ∨ 60 * s + 60 ≤ q) → rw'' q = rw' q) → sy_V n (sf_F n op rg ar he p) (s + 1) rw'' (upd ln' s (sy_l n (g, i, c, w))) := by
        intro rw'' b1 b2 t ht
        by_cases e : t = s
        · subst e
          rw [hF]
          exact ⟨hc, pk_us, fun k hk => (b1 k hk).trans (a1 k hk)⟩
        · obtain ⟨v1, v2, v3⟩ := hV t (by omega)
          refine ⟨v1, by rw [pk_un e, v2], fun k hk => ?_⟩
          rw [b2 (60 * t + k) (by omega)]
          exact v3 k hk
      have hi4 : vp_in (nI s) 4 := vp_in_nI (by omega) (by omega)
      have fin : ∀ rw'', (∀ k, k < c → rw'' (60 * s + k) = ro'' k) → (∀ q, (q < 60 * s ∨ 60 * s + 60 ≤ q) → rw'' q = rw' q) → ∀ f : Int32, ((f = 1 ∧ n ≤ i) ∨ (f = 0 ∧ ¬ n ≤ i)) →
          ∃ m', wY_showsWith_90 post (wY_showsWith_4 post p (d + 1)) p (nI m) (nI s) (nI n) (sx_e n i) (nI d') (nI c) op rg ar ka g ro'' rw'' (upd ln' s (sy_l n (g, i, c, w))) m' f 0 := by
        intro rw'' b1 b2 f hf
        have hJ := ih (s + 1) (sf_cnt n (sf_F n op rg ar he p) (s + 1)) (sx_e n i) (nI d') (nI c) ro'' rw'' _ (by omega) rfl (hV' rw'' b1 b2)
        rw [← hg] at hJ
        refine ⟨s + 1, sy_sw90 (by omega) hm (hV' rw'' b1 b2) hJ s 0 f (by omega) ?_⟩
        rw [hF]
        rcases hf with ⟨f1, f2⟩ | ⟨f1, f2⟩
        · exact Or.inl ⟨f1, f2, fun j hj => absurd hj (by omega)⟩
        · exact Or.inr ⟨f1, fun q => f2 q.1⟩
      refine sx_if sx_e0 (fun z => ⟨hi4, nm_r (e' := upd ln' s (sy_l n (g, i, c, w))) ?_ ⟨c + 1, sy_sw39 (ou := 0) (by omega) hc (fun rw'' b1 b2 => sx_if sx_e0 (fun y => fin rw'' b1 b2 1 (Or.inl ⟨rfl, y⟩)) (fun y => fin rw'' b1 b2 0 (Or.inr ⟨rfl, y⟩))) c 0 rw' (by omega) (fun j hj => absurd hj (by omega)) (fun _ _ => rfl)⟩⟩)
        (fun z => ⟨hi4, nm_r (e' := upd ln' s (sy_l n (g, i, c, w))) ?_ ⟨c + 1, sy_sw39 (ou := 0) (by omega) hc (fun rw'' b1 b2 => sx_if sx_e0 (fun y => fin rw'' b1 b2 1 (Or.inl ⟨rfl, y⟩)) (fun y => fin rw'' b1 b2 0 (Or.inr ⟨rfl, y⟩))) c 0 rw' (by omega) (fun j hj => absurd hj (by omega)) (fun _ _ => rfl)⟩⟩)
      · rw [nI_clamp (by omega)]
        unfold sy_l
        rw [if_pos z]
      · rw [nI_clamp (by omega)]
        unfold sy_l
        rw [if_neg z]
  exact ⟨5, key 4 0 0 ed sp ou ro rw ln (by omega) rfl (fun t ht => absurd ht (by omega))⟩
theorem sy_leaks {post : Int32 → SY → Prop} {n : Nat} {ed sp ou : Int32} {op rg ar ka he ro rw ln : Nat → Int32} (hn : n ≤ 16) (hv : sf_val n op rg ar)
    (hp : ∀ ed' sp' ou' ro' rw' ln', post (sf_lk n op rg ar 4 0 he).1 (nI n, ed', sp', ou', op, rg, ar, ka, (sf_lk n op rg ar 4 0 he).2, ro', rw', ln')) : wpY_leaks post (nI n, ed, sp, ou, op, rg, ar, ka, he, ro, rw, ln) := by
  have key : ∀ d p g ed' sp' ou' ro' rw' ln', p + d = 4 → sf_lk n op rg ar d p g = sf_lk n op rg ar 4 0 he → wY_leaks_2 post (d + 1) (nI p) (nI n) ed' sp' ou' op rg ar ka g ro' rw' ln' := by
    intro d
    induction d with
    | zero =>
      intro p g ed' sp' ou' ro' rw' ln' hs hm
      have e : p = 4 := by omega
      subst e
      have := hp ed' sp' ou' ro' rw' ln'
      rw [← hm] at this
      exact br_t (by decide) this
    | succ d ih =>
      intro p g ed' sp' ou' ro' rw' ln' hs hm
      refine pk_le 4 p (fun z => absurd z (by omega)) (fun _ => sy_showsWith hn hv (fun ed'' sp'' ou'' ro'' rw'' ln'' => ?_))
      have hle : sf_sh n op rg ar g (nI p) ≤ 4 := sf_cnt_le _ _ 4
      refine pk_le (sf_sh n op rg ar g (nI p)) 1 (fun z => ?_) (fun z => ?_)
      · rw [sf_lk_f (by omega)] at hm
        exact nm_r (nI_1 p) (ih (p + 1) _ ed'' sp'' ou'' ro'' rw'' ln'' (by omega) hm)
      · rw [sf_lk_t z] at hm
        have := hp ed'' sp'' ou'' ro'' rw'' ln''
        rw [← hm] at this
        exact this
  exact ⟨5, key 4 0 he ed sp ou ro rw ln (by omega) rfl⟩
