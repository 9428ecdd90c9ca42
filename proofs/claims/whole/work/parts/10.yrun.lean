/-! the reference's runs -/
theorem sy_sub4 (a b : Int32) : a - b + 4 = a + 4 - b := by
  rw [Int32.sub_eq_add_neg, Int32.sub_eq_add_neg, Int32.add_assoc, Int32.add_assoc, Int32.add_comm (-b) 4]
def sy_W (c : Nat) (w ro : Nat → Int32) : Prop := ∀ k, k < c → ro k = w k
theorem sy_doOne {post : Int32 → SY → Prop} {n : Nat} {ed sp ou : Int32} {op rg ar ka he ro rw ln : Nat → Int32} {i c : Nat} {w : Nat → Int32} (hn : n ≤ 16) (hv : sf_val n op rg ar) (hi : i < n) (hc : c < 60) (hro : sy_W c w ro)
    (hp : ∀ ro', sy_W (sf_st n op rg ar he i c w).2.2.1 (sf_st n op rg ar he i c w).2.2.2 ro' →
      post (nI (sf_st n op rg ar he i c w).2.1) (nI n, ed, sp, nI (sf_st n op rg ar he i c w).2.2.1, op, rg, ar, ka, (sf_st n op rg ar he i c w).1, ro', rw, ln)) : wpY_doOne post (nI n, ed, sp, nI c, op, rg, ar, ka, he, ro, rw, ln) (nI i) := by
  have hin : vp_in (nI i) 16 := vp_in_nI (by omega) (by omega)
  have ea : op (nI i).toNatClampNeg = op i := sx_at (by omega)
  have eg : rg (nI i).toNatClampNeg = rg i := sx_at (by omega)
  have er : ar (nI i).toNatClampNeg = ar i := sx_at (by omega)
  have hr4 : ¬ op i = 5 → ¬ op i = 7 → vp_in (rg i) 4 := fun h5 h7 => by
    obtain ⟨r, hr, e⟩ := (hv i hi).2.1 h5 h7
    rw [e]; exact vp_in_nI hr (by omega)
  have hx4 : sf_ch op i → vp_in (ar i) 4 := fun h => by
    obtain ⟨r, hr, e⟩ := (hv i hi).2.2.1 h
    rw [e]; exact vp_in_nI hr (by omega)
  refine ⟨hin, nm_r eg ⟨hin, nm_r er ⟨hin, ?_⟩⟩⟩
  rcases (hv i hi).1 with o | o | o | o | o | o | o | o
  · have q1 := hr4 (by rw [o]; decide) (by rw [o]; decide)
    have es : sf_st n op rg ar he i c w = (upd he (sf_n rg i) (ar i), i + 1, c, w) := by
      unfold sf_st; rw [if_pos o]
    rw [es] at hp
    exact br_t (ea.trans o) ⟨q1, nm_e (sy_p (nI_1 i) (hp ro hro))⟩
  · have q1 := hr4 (by rw [o]; decide) (by rw [o]; decide)
    have q2 := hx4 (Or.inr (Or.inl o))
    have es : sf_st n op rg ar he i c w = (upd he (sf_n rg i) (he (sf_n ar i)), i + 1, c, w) := by
      unfold sf_st; rw [if_neg (by rw [o]; decide), if_pos o]
    rw [es] at hp
    exact br_f (by rw [ea, o]; decide) ⟨hin, br_t (ea.trans o) ⟨q2, q1, nm_e (sy_p (nI_1 i) (hp ro hro))⟩⟩
  · have q1 := hr4 (by rw [o]; decide) (by rw [o]; decide)
    have q2 := hx4 (Or.inr (Or.inr (Or.inl o)))
    have es : sf_st n op rg ar he i c w = (upd he (sf_n rg i) (sf_md (he (sf_n rg i) + he (sf_n ar i))), i + 1, c, w) := by
      unfold sf_st; rw [if_neg (by rw [o]; decide), if_neg (by rw [o]; decide), if_pos o]
    rw [es] at hp
    exact br_f (by rw [ea, o]; decide) ⟨hin, br_f (by rw [ea, o]; decide) ⟨hin, br_t (ea.trans o) ⟨q1, q2, by decide, q1, nm_e (sy_p (nI_1 i) (hp ro hro))⟩⟩⟩
  · have q1 := hr4 (by rw [o]; decide) (by rw [o]; decide)
    have q2 := hx4 (Or.inr (Or.inr (Or.inr o)))
    have es : sf_st n op rg ar he i c w = (upd he (sf_n rg i) (sf_md (he (sf_n rg i) + 4 - he (sf_n ar i))), i + 1, c, w) := by
      unfold sf_st; rw [if_neg (by rw [o]; decide), if_neg (by rw [o]; decide), if_neg (by rw [o]; decide), if_pos o]
    rw [es] at hp
    exact br_f (by rw [ea, o]; decide) ⟨hin, br_f (by rw [ea, o]; decide) ⟨hin, br_f (by rw [ea, o]; decide) ⟨hin, br_t (ea.trans o) ⟨q1, q2, by decide, q1, nm_r (e' := upd he (sf_n rg i) (sf_md (he (sf_n rg i) + 4 - he (sf_n ar i)))) (by rw [sy_sub4]; rfl) (sy_p (nI_1 i) (hp ro hro))⟩⟩⟩⟩
  · have q1 := hr4 (by rw [o]; decide) (by rw [o]; decide)
    have es : sf_st n op rg ar he i c w = (he, i + 1, c + 1, upd w c (he (sf_n rg i))) := by
      unfold sf_st; rw [if_neg (by rw [o]; decide), if_neg (by rw [o]; decide), if_neg (by rw [o]; decide), if_neg (by rw [o]; decide), if_pos o]
    rw [es] at hp
    dsimp only at hp
    refine br_f (by rw [ea, o]; decide) ⟨hin, br_f (by rw [ea, o]; decide) ⟨hin, br_f (by rw [ea, o]; decide) ⟨hin, br_f (by rw [ea, o]; decide) ⟨hin, br_t (ea.trans o) ⟨q1, vp_in_nI (by omega) (by omega), nm_r (e' := upd ro c (he (sf_n rg i))) (by rw [nI_clamp (by omega)]; rfl) (nm_r (nI_1 c) (sy_p (nI_1 i) (hp _ (fun k hk => ?_))))⟩⟩⟩⟩⟩
    by_cases e : k = c
    · subst e; rw [pk_us, pk_us]
    · rw [pk_un e, pk_un e]; exact hro k (by omega)
  · obtain ⟨x, hx, hax⟩ := (hv i hi).2.2.2 (Or.inl o)
    have es : sf_st n op rg ar he i c w = (he, sf_tg n ar i, c, w) := by
      unfold sf_st; rw [if_neg (by rw [o]; decide), if_neg (by rw [o]; decide), if_neg (by rw [o]; decide), if_neg (by rw [o]; decide), if_neg (by rw [o]; decide), if_pos o]
    rw [es] at hp
    exact br_f (by rw [ea, o]; decide) ⟨hin, br_f (by rw [ea, o]; decide) ⟨hin, br_f (by rw [ea, o]; decide) ⟨hin, br_f (by rw [ea, o]; decide) ⟨hin, br_f (by rw [ea, o]; decide) ⟨hin, br_t (ea.trans o) (sy_target (by omega) hn hx hax (hp ro hro))⟩⟩⟩⟩⟩
  · obtain ⟨x, hx, hax⟩ := (hv i hi).2.2.2 (Or.inr o)
    have q1 := hr4 (by rw [o]; decide) (by rw [o]; decide)
    have es : sf_st n op rg ar he i c w = if he (sf_n rg i) = 0 then (he, sf_tg n ar i, c, w) else (he, i + 1, c, w) := by
      unfold sf_st; rw [if_neg (by rw [o]; decide), if_neg (by rw [o]; decide), if_neg (by rw [o]; decide), if_neg (by rw [o]; decide), if_neg (by rw [o]; decide), if_neg (by rw [o]; decide), if_pos o]
    rw [es] at hp
    refine br_f (by rw [ea, o]; decide) ⟨hin, br_f (by rw [ea, o]; decide) ⟨hin, br_f (by rw [ea, o]; decide) ⟨hin, br_f (by rw [ea, o]; decide) ⟨hin, br_f (by rw [ea, o]; decide) ⟨hin, br_f (by rw [ea, o]; decide) ⟨hin, br_t (ea.trans o) ⟨q1, br_c (fun z => ?_) (fun z => ?_)⟩⟩⟩⟩⟩⟩⟩
    · have z' : he (sf_n rg i) = 0 := z
      rw [if_pos z'] at hp
      exact sy_target (by omega) hn hx hax (hp ro hro)
    · have z' : ¬ he (sf_n rg i) = 0 := z
      rw [if_neg z'] at hp
      exact sy_p (nI_1 i) (hp ro hro)
  · have es : sf_st n op rg ar he i c w = (he, n, c, w) := by
      unfold sf_st; rw [if_neg (by rw [o]; decide), if_neg (by rw [o]; decide), if_neg (by rw [o]; decide), if_neg (by rw [o]; decide), if_neg (by rw [o]; decide), if_neg (by rw [o]; decide), if_neg (by rw [o]; decide)]
    rw [es] at hp
    exact br_f (by rw [ea, o]; decide) ⟨hin, br_f (by rw [ea, o]; decide) ⟨hin, br_f (by rw [ea, o]; decide) ⟨hin, br_f (by rw [ea, o]; decide) ⟨hin, br_f (by rw [ea, o]; decide) ⟨hin, br_f (by rw [ea, o]; decide) ⟨hin, br_f (by rw [ea, o]; decide) (hp ro hro)⟩⟩⟩⟩⟩⟩
theorem sy_doRun {post : SY → Prop} {n : Nat} {ed sp ou : Int32} {op rg ar ka he ro rw ln : Nat → Int32} {p s : Int32} (hn : n ≤ 16) (hv : sf_val n op rg ar)
    (hp : ∀ d g i c w ro', sf_go n op rg ar he p s = (d, g, i, c, w) → i ≤ n → c ≤ 60 → d ≤ 60 → sy_W c w ro' → post (nI n, sx_e n i, nI d, nI c, op, rg, ar, ka, g, ro', rw, ln)) : wpY_doRun post (nI n, ed, sp, ou, op, rg, ar, ka, he, ro, rw, ln) p s := by
  have ex : ∀ d g i c w ro', sf_go n op rg ar he p s = (d, g, i, c, w) → i ≤ n → c ≤ 60 → d ≤ 60 → sy_W c w ro' → wY_doRun_76 post (nI i) (nI n) ed (nI d) (nI c) op rg ar ka g ro' rw ln := by
    intro d g i c w ro' h1 h2 h3 h3' h4
    have := hp d g i c w ro' h1 h2 h3 h3' h4
    unfold sx_e at this
    refine pk_eq i n (fun z => ?_) (fun z => ?_)
    · rw [if_pos (by omega)] at this; exact this
    · rw [if_neg (by omega)] at this; exact this
  have key : ∀ f d g i c w ro', d + f = 60 → sf_rn n op rg ar f d (g, i, c, w) = sf_go n op rg ar he p s → i ≤ n → c ≤ d → sy_W c w ro' → wY_doRun_40 post (f + 1) (nI i) (nI n) ed (nI d) (nI c) op rg ar ka g ro' rw ln := by
    intro f
    induction f with
    | zero =>
      intro d g i c w ro' hd hr hi hc h4
      have e : d = 60 := by omega
      subst e
      rw [sf_rn_0] at hr
      have := ex 60 g i c w ro' hr.symm hi hc (by omega) h4
      exact pk_le n i (fun z => this) (fun z => br_t (by decide) this)
    | succ f ih =>
      intro d g i c w ro' hd hr hi hc h4
      refine pk_le n i (fun z => ?_) (fun z => pk_le 60 d (fun v => absurd v (by omega)) (fun _ => nm_r (nI_1 d) ?_))
      · rw [sf_rn_f (by omega)] at hr
        exact ex d g i c w ro' hr.symm hi (by omega) (by omega) h4
      · rw [sf_rn_t z] at hr
        have hb := sf_st_le (op := op) (rg := rg) (ar := ar) (g := g) (w := w) (c := c) z
        refine sy_doOne (ou := 0) hn hv z (by omega) h4 ?_
        revert hr hb
        generalize sf_st n op rg ar g i c w = Q
        obtain ⟨g', i', c', w'⟩ := Q
        intro hr hb ro'' a1
        dsimp only at hb a1
        exact ih (d + 1) g' i' c' w' ro'' (by omega) hr hb.1 (by omega) a1
  exact nm_e (nm_e (nm_e (nm_e ⟨61, key 60 0 _ 0 0 (fun _ => 0) ro rfl rfl (by omega) (by omega) (fun k hk => absurd hk (by omega))⟩)))
