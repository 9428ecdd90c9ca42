/-! the component's count of outputs -/
/-- the runs with secrets below s, as the component keeps them -/
def sx_V (n : Nat) (F : Nat → sf_Cf) (s : Nat) (po pc en : Nat → Int32) : Prop :=
  ∀ t, t < s → (F t).2.2.1 ≤ 60 ∧ pc t = nI (F t).2.2.1 ∧ en t = sx_e n (F t).2.1 ∧ ∀ k, k < (F t).2.2.1 → po (t * 60 + k) = (F t).2.2.2 k
theorem sx_e0 {n i : Nat} : sx_e n i = 0 ↔ n ≤ i := by
  unfold sx_e
  by_cases h : n ≤ i
  · rw [if_pos h]; exact ⟨fun _ => h, fun _ => rfl⟩
  · rw [if_neg h]; exact ⟨fun e => absurd e (by decide), fun e => absurd e h⟩
theorem sx_haveSameOutput {post : Int32 → Prop} {n : Nat} {co se us : Int32} {op rg ar nx me un kn he po pc sc en : Nat → Int32} {F : Nat → sf_Cf} {m a b : Nat} (hm : m ≤ 4) (ha : a < m) (hb : b < m) (hV : sx_V n F m po pc en)
    (h1 : sf_eq (F a) (F b) → post 1) (h0 : ¬ sf_eq (F a) (F b) → post 0) : wpX_haveSameOutput post (nI n, co, se, us, op, rg, ar, nx, me, un, kn, he, po, pc, sc, en) (nI a) (nI b) := by
  have hia : vp_in (nI a) 4 := vp_in_nI (by omega) (by omega)
  have hib : vp_in (nI b) 4 := vp_in_nI (by omega) (by omega)
  obtain ⟨a1, a2, _, a4⟩ := hV a ha
  obtain ⟨b1, b2, _, b4⟩ := hV b hb
  have ea : pc (nI a).toNatClampNeg = nI (F a).2.2.1 := by rw [nI_clamp (by omega), a2]
  have eb : pc (nI b).toNatClampNeg = nI (F b).2.2.1 := by rw [nI_clamp (by omega), b2]
  refine ⟨hia, hib, ?_⟩
  rw [ea, eb]
  refine pk_eq (F a).2.2.1 (F b).2.2.1 (fun e => ?_) (fun e => h0 (fun w => e w.1))
  have key : ∀ d k, k + d = (F a).2.2.1 → (∀ j, j < k → (F a).2.2.2 j = (F b).2.2.2 j) → wX_haveSameOutput_19 post (nI a) (nI b) (nI n) co se us op rg ar nx me un kn he po pc sc en (d + 1) (nI k) := by
    intro d
    induction d with
    | zero =>
      intro k hk h
      refine ⟨hia, br_t (by rw [ea]; exact nI_le (by omega) (by omega)) (h1 ⟨e, fun j hj => h j (by omega)⟩)⟩
    | succ d ih =>
      intro k hk h
      refine ⟨hia, br_f (by rw [ea]; exact nI_ge (by omega) (by omega)) ?_⟩
      rw [sx_ix, sx_ix, nI_clamp (n := a * 60 + k) (by omega), nI_clamp (n := b * 60 + k) (by omega), a4 k (by omega), b4 k (by omega)]
      refine ⟨vp_in_nI (by omega) (by omega), vp_in_nI (by omega) (by omega), br_c (fun z => nm_r (nI_1 k) (ih (k + 1) (by omega) (fun j hj => ?_))) (fun z => h0 (fun w => z (w.2 k (by omega))))⟩
      by_cases ej : j = k
      · subst ej; exact z
      · exact h j (by omega)
  exact ⟨_, key (F a).2.2.1 0 (by omega) (fun j hj => absurd hj (by omega))⟩
theorem sx_wasShownBefore {post : Int32 → Prop} {n : Nat} {co se us : Int32} {op rg ar nx me un kn he po pc sc en : Nat → Int32} {F : Nat → sf_Cf} {s : Nat} (hs : s < 4) (hV : sx_V n F (s + 1) po pc en)
    (h1 : sf_was n F s → post 1) (h0 : ¬ sf_was n F s → post 0) : wpX_wasShownBefore post (nI n, co, se, us, op, rg, ar, nx, me, un, kn, he, po, pc, sc, en) (nI s) := by
  have key : ∀ d t, t + d = s → (∀ j, j < t → ¬ (n ≤ (F j).2.1 ∧ sf_eq (F j) (F s))) → wX_wasShownBefore_2 post (nI s) (nI n) co se us op rg ar nx me un kn he po pc sc en (d + 1) (nI t) := by
    intro d
    induction d with
    | zero =>
      intro t ht h
      exact br_t (nI_le (by omega) (by omega)) (h0 (fun ⟨j, hj, w⟩ => h j (by omega) w))
    | succ d ih =>
      intro t ht h
      have stay : ¬ (n ≤ (F t).2.1 ∧ sf_eq (F t) (F s)) → wX_wasShownBefore_2 post (nI s) (nI n) co se us op rg ar nx me un kn he po pc sc en (d + 1) (nI (t + 1)) := by
        intro hno
        refine ih (t + 1) (by omega) (fun j hj => ?_)
        by_cases e : j = t
        · subst e; exact hno
        · exact h j (by omega)
      have ee : en (nI t).toNatClampNeg = sx_e n (F t).2.1 := by rw [nI_clamp (by omega), (hV t (by omega)).2.2.1]
      refine br_f (nI_ge (by omega) (by omega)) ⟨vp_in_nI (by omega) (by omega), ?_⟩
      rw [ee]
      exact sx_if sx_e0 (fun w => sx_haveSameOutput (m := s + 1) (by omega) (by omega) (by omega) hV (fun v => br_f (by decide) (h1 ⟨t, by omega, w, v⟩)) (fun v => br_t rfl (nm_r (nI_1 t) (stay (fun z => v z.2))))) (fun w => nm_r (nI_1 t) (stay (fun z => w z.1)))
  exact ⟨_, key s 0 (by omega) (fun j hj => absurd hj (by omega))⟩
theorem sx_countOutputs {post : Int32 → SX → Prop} {n : Nat} {co se us : Int32} {op rg ar nx me un kn he po pc sc en : Nat → Int32} {p : Int32} (hn : n ≤ 16) (hv : sf_val n op rg ar)
    (hp : ∀ po' pc' sc' en', post (nI (sf_sh n op rg ar he p)) (nI n, co, se, us, op, rg, ar, nx, me, un, kn, sf_bs n op rg ar he p 4, po', pc', sc', en')) : wpX_countOutputs post (nI n, co, se, us, op, rg, ar, nx, me, un, kn, he, po, pc, sc, en) p := by
  have key : ∀ d s m po' pc' sc' en', s + d = 4 → m = sf_cnt n (sf_F n op rg ar he p) s → sx_V n (sf_F n op rg ar he p) s po' pc' en' →
      wX_countOutputs_4 post p (d + 1) (nI m) (nI s) (nI n) co se us op rg ar nx me un kn (sf_bs n op rg ar he p s) po' pc' sc' en' := by
    intro d
    induction d with
    | zero =>
      intro s m po' pc' sc' en' hs hm hV
      have e : s = 4 := by omega
      subst e
      rw [hm]
      exact br_t (by decide) (hp po' pc' sc' en')
    | succ d ih =>
      intro s m po' pc' sc' en' hs hm hV
      refine pk_le 4 s (fun z => absurd z (by omega)) (fun _ => sx_doRun hn hv (by omega) (fun d' g i c w po'' pc'' hgo hi hc hd a1 a2 a3 => ?_))
      have hF : sf_F n op rg ar he p s = (g, i, c, w) := by
        show (sf_go n op rg ar (sf_bs n op rg ar he p s) p (nI s)).2 = _
        rw [hgo]
      have hg : g = sf_bs n op rg ar he p (s + 1) := by
        rw [sf_bs_s]
        show g = (sf_go n op rg ar (sf_bs n op rg ar he p s) p (nI s)).2.1
        rw [hgo]
      have hV' : sx_V n (sf_F n op rg ar he p) (s + 1) po'' pc'' (upd en' s (sx_e n i)) := by
        intro t ht
        by_cases e : t = s
        · subst e
          rw [hF]
          exact ⟨hc, a1, pk_us, a3.1⟩
        · obtain ⟨v1, v2, v3, v4⟩ := hV t (by omega)
          refine ⟨v1, by rw [a2 t e, v2], by rw [pk_un e, v3], fun k hk => ?_⟩
          rw [a3.2 (t * 60 + k) (by omega)]
          exact v4 k hk
      have ee : upd en' s (sx_e n i) (nI s).toNatClampNeg = sx_e n i := by rw [nI_clamp (by omega), pk_us]
      refine ⟨vp_in_nI (by omega) (by omega), ?_⟩
      rw [ee, hg]
      refine sx_if sx_e0 (fun z => sx_wasShownBefore (by omega) hV' (fun v => br_f (by decide) (nm_r (nI_1 s) (ih (s + 1) m _ _ _ _ (by omega) ?_ hV'))) (fun v => br_t rfl (nm_r (nI_1 m) (nm_r (nI_1 s) (ih (s + 1) (m + 1) _ _ _ _ (by omega) ?_ hV'))))) (fun z => nm_r (nI_1 s) (ih (s + 1) m _ _ _ _ (by omega) ?_ hV'))
      · rw [hm, sf_cnt_f (fun q => q.2 v)]
      · rw [hm, sf_cnt_t (by rw [hF]; exact z) v]
      · rw [hm, sf_cnt_f (fun q => z (by have := q.1; rw [hF] at this; exact this))]
  exact ⟨5, key 4 0 0 po pc sc en (by omega) rfl (fun t ht => absurd ht (by omega))⟩
theorem sx_leaks {post : Int32 → SX → Prop} {n : Nat} {co se us : Int32} {op rg ar nx me un kn he po pc sc en : Nat → Int32} (hn : n ≤ 16) (hv : sf_val n op rg ar)
    (hp : ∀ po' pc' sc' en', post (sf_lk n op rg ar 4 0 he).1 (nI n, co, se, us, op, rg, ar, nx, me, un, kn, (sf_lk n op rg ar 4 0 he).2, po', pc', sc', en')) : wpX_leaks post (nI n, co, se, us, op, rg, ar, nx, me, un, kn, he, po, pc, sc, en) := by
  have key : ∀ d p g po' pc' sc' en', p + d = 4 → sf_lk n op rg ar d p g = sf_lk n op rg ar 4 0 he → wX_leaks_2 post (d + 1) (nI p) (nI n) co se us op rg ar nx me un kn g po' pc' sc' en' := by
    intro d
    induction d with
    | zero =>
      intro p g po' pc' sc' en' hs hm
      have e : p = 4 := by omega
      subst e
      have := hp po' pc' sc' en'
      rw [← hm] at this
      exact br_t (by decide) this
    | succ d ih =>
      intro p g po' pc' sc' en' hs hm
      refine pk_le 4 p (fun z => absurd z (by omega)) (fun _ => sx_countOutputs hn hv (fun po'' pc'' sc'' en'' => ?_))
      have hle : sf_sh n op rg ar g (nI p) ≤ 4 := sf_cnt_le _ _ 4
      refine pk_le (sf_sh n op rg ar g (nI p)) 1 (fun z => ?_) (fun z => ?_)
      · rw [sf_lk_f (by omega)] at hm
        exact nm_r (nI_1 p) (ih (p + 1) _ po'' pc'' sc'' en'' (by omega) hm)
      · rw [sf_lk_t z] at hm
        have := hp po'' pc'' sc'' en''
        rw [← hm] at this
        exact this
  exact ⟨5, key 4 0 he po pc sc en (by omega) rfl⟩
