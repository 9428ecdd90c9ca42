/-! the component's runs -/
def sx_e (n i : Nat) : Int32 := if n ≤ i then 0 else 1
def sx_W (s c : Nat) (w po po0 : Nat → Int32) : Prop := (∀ k, k < c → po (s * 60 + k) = w k) ∧ (∀ m, (m < s * 60 ∨ s * 60 + 60 ≤ m) → po m = po0 m)
theorem sf_st_le {n : Nat} {op rg ar g w : Nat → Int32} {i c : Nat} (hi : i < n) : (sf_st n op rg ar g i c w).2.1 ≤ n ∧ (sf_st n op rg ar g i c w).2.2.1 ≤ c + 1 := by
  have ht := sf_tg_le n ar i
  unfold sf_st
  repeat' split
  all_goals (dsimp only; omega)
theorem sx_p {post : Int32 → SX → Prop} {x y : Int32} {u : SX} (e : x = y) (h : post y u) : post x u := e ▸ h
theorem sy_p {post : Int32 → SY → Prop} {x y : Int32} {u : SY} (e : x = y) (h : post y u) : post x u := e ▸ h
theorem sx_ix {s c : Nat} : nI s * 60 + nI c = nI (s * 60 + c) := by
  rw [show (60 : Int32) = nI 60 from rfl, pk_mul, nI_add]
theorem sx_doInstruction {post : Int32 → SX → Prop} {n : Nat} {co se us : Int32} {op rg ar nx me un kn he po pc sc en : Nat → Int32} {i s c : Nat} {w po0 pc0 : Nat → Int32} (hn : n ≤ 16) (hv : sf_val n op rg ar) (hi : i < n) (hs : s < 4) (hc : c < 60)
    (hpc : pc s = nI c) (hpp : ∀ t, t ≠ s → pc t = pc0 t) (hpo : sx_W s c w po po0)
    (hp : ∀ po' pc', pc' s = nI (sf_st n op rg ar he i c w).2.2.1 → (∀ t, t ≠ s → pc' t = pc0 t) → sx_W s (sf_st n op rg ar he i c w).2.2.1 (sf_st n op rg ar he i c w).2.2.2 po' po0 →
      post (nI (sf_st n op rg ar he i c w).2.1) (nI n, co, se, us, op, rg, ar, nx, me, un, kn, (sf_st n op rg ar he i c w).1, po', pc', sc, en)) : wpX_doInstruction post (nI n, co, se, us, op, rg, ar, nx, me, un, kn, he, po, pc, sc, en) (nI i) (nI s) := by
  have hin : vp_in (nI i) 16 := vp_in_nI (by omega) (by omega)
  have his : vp_in (nI s) 4 := vp_in_nI hs (by omega)
  have ea : op (nI i).toNatClampNeg = op i := sx_at (by omega)
  have eg : rg (nI i).toNatClampNeg = rg i := sx_at (by omega)
  have er : ar (nI i).toNatClampNeg = ar i := sx_at (by omega)
  have hr4 : ¬ op i = 5 → ¬ op i = 7 → vp_in (rg i) 4 := fun h5 h7 => by
    obtain ⟨r, hr, e⟩ := (hv i hi).2.1 h5 h7
    rw [e]; exact vp_in_nI hr (by omega)
  have hx4 : sf_ch op i → vp_in (ar i) 4 := fun h => by
    obtain ⟨r, hr, e⟩ := (hv i hi).2.2.1 h
    rw [e]; exact vp_in_nI hr (by omega)
  refine ⟨hin, nm_r eg ⟨hin, nm_r er ⟨hin, ?_⟩⟩⟩
  rcases (hv i hi).1 with o | o | o | o | o | o | o | o
  · have q1 := hr4 (by rw [o]; decide) (by rw [o]; decide)
    have es : sf_st n op rg ar he i c w = (upd he (sf_n rg i) (ar i), i + 1, c, w) := by
      unfold sf_st; rw [if_pos o]
    rw [es] at hp
    exact nm_r (ea.trans o) (br_f (by decide) (br_f (by decide) (br_t rfl ⟨q1, nm_e (sx_p (nI_1 i) (hp po pc hpc hpp hpo))⟩)))
  · have q1 := hr4 (by rw [o]; decide) (by rw [o]; decide)
    have q2 := hx4 (Or.inr (Or.inl o))
    have es : sf_st n op rg ar he i c w = (upd he (sf_n rg i) (he (sf_n ar i)), i + 1, c, w) := by
      unfold sf_st; rw [if_neg (by rw [o]; decide), if_pos o]
    rw [es] at hp
    exact nm_r (ea.trans o) (br_f (by decide) (br_f (by decide) (br_f (by decide) (br_t rfl ⟨q2, q1, nm_e (sx_p (nI_1 i) (hp po pc hpc hpp hpo))⟩))))
  · have q1 := hr4 (by rw [o]; decide) (by rw [o]; decide)
    have q2 := hx4 (Or.inr (Or.inr (Or.inl o)))
    have es : sf_st n op rg ar he i c w = (upd he (sf_n rg i) (sf_md (he (sf_n rg i) + he (sf_n ar i))), i + 1, c, w) := by
      unfold sf_st; rw [if_neg (by rw [o]; decide), if_neg (by rw [o]; decide), if_pos o]
    rw [es] at hp
    exact nm_r (ea.trans o) (br_f (by decide) (br_f (by decide) (br_f (by decide) (br_f (by decide) (br_t rfl ⟨q1, q2, by decide, q1, nm_e (sx_p (nI_1 i) (hp po pc hpc hpp hpo))⟩)))))
  · have q1 := hr4 (by rw [o]; decide) (by rw [o]; decide)
    have q2 := hx4 (Or.inr (Or.inr (Or.inr o)))
    have es : sf_st n op rg ar he i c w = (upd he (sf_n rg i) (sf_md (he (sf_n rg i) + 4 - he (sf_n ar i))), i + 1, c, w) := by
      unfold sf_st; rw [if_neg (by rw [o]; decide), if_neg (by rw [o]; decide), if_neg (by rw [o]; decide), if_pos o]
    rw [es] at hp
    exact nm_r (ea.trans o) (br_f (by decide) (br_f (by decide) (br_f (by decide) (br_f (by decide) (br_f (by decide) (br_t rfl ⟨q1, q2, by decide, q1, nm_e (sx_p (nI_1 i) (hp po pc hpc hpp hpo))⟩))))))
  · have q1 := hr4 (by rw [o]; decide) (by rw [o]; decide)
    have es : sf_st n op rg ar he i c w = (he, i + 1, c + 1, upd w c (he (sf_n rg i))) := by
      unfold sf_st; rw [if_neg (by rw [o]; decide), if_neg (by rw [o]; decide), if_neg (by rw [o]; decide), if_neg (by rw [o]; decide), if_pos o]
    rw [es] at hp
    dsimp only at hp
    have eix : nI s * 60 + pc (nI s).toNatClampNeg = nI (s * 60 + c) := by rw [nI_clamp (by omega), hpc, sx_ix]
    refine nm_r (ea.trans o) (br_f (by decide) (br_f (by decide) (br_f (by decide) (br_f (by decide) (br_f (by decide) (br_f (by decide) (br_t rfl ⟨his, q1, ?_⟩)))))))
    rw [eix]
    refine ⟨vp_in_nI (by omega) (by omega), nm_r (e' := upd po (s * 60 + c) (he (sf_n rg i))) (by rw [nI_clamp (by omega)]; rfl) ⟨his, his, nm_r (e' := upd pc s (nI (c + 1))) (by rw [nI_clamp (by omega), hpc, nI_1]) (sx_p (nI_1 i) (hp _ _ pk_us (fun t ht => ?_) ⟨fun k hk => ?_, fun m hm => ?_⟩))⟩⟩
    · rw [pk_un ht]; exact hpp t ht
    · by_cases e : k = c
      · subst e; rw [pk_us, pk_us]
      · rw [pk_un (by omega), pk_un e]; exact hpo.1 k (by omega)
    · rw [pk_un (by omega)]; exact hpo.2 m hm
  · obtain ⟨x, hx, hax⟩ := (hv i hi).2.2.2 (Or.inl o)
    have es : sf_st n op rg ar he i c w = (he, sf_tg n ar i, c, w) := by
      unfold sf_st; rw [if_neg (by rw [o]; decide), if_neg (by rw [o]; decide), if_neg (by rw [o]; decide), if_neg (by rw [o]; decide), if_neg (by rw [o]; decide), if_pos o]
    rw [es] at hp
    exact nm_r (ea.trans o) (br_f (by decide) (br_f (by decide) (br_f (by decide) (br_f (by decide) (br_f (by decide) (br_f (by decide) (br_f (by decide) (br_t rfl (sx_target (by omega) hn hx hax (hp po pc hpc hpp hpo))))))))))
  · obtain ⟨x, hx, hax⟩ := (hv i hi).2.2.2 (Or.inr o)
    have q1 := hr4 (by rw [o]; decide) (by rw [o]; decide)
    have es : sf_st n op rg ar he i c w = if he (sf_n rg i) = 0 then (he, sf_tg n ar i, c, w) else (he, i + 1, c, w) := by
      unfold sf_st; rw [if_neg (by rw [o]; decide), if_neg (by rw [o]; decide), if_neg (by rw [o]; decide), if_neg (by rw [o]; decide), if_neg (by rw [o]; decide), if_neg (by rw [o]; decide), if_pos o]
    rw [es] at hp
    refine nm_r (ea.trans o) (br_f (by decide) (br_f (by decide) (br_f (by decide) (br_f (by decide) (br_f (by decide) (br_f (by decide) (br_f (by decide) (br_f (by decide) (br_t rfl ⟨q1, br_c (fun z => ?_) (fun z => ?_)⟩)))))))))
    · have z' : he (sf_n rg i) = 0 := z
      rw [if_pos z'] at hp
      exact sx_target (by omega) hn hx hax (hp po pc hpc hpp hpo)
    · have z' : ¬ he (sf_n rg i) = 0 := z
      rw [if_neg z'] at hp
      exact sx_p (nI_1 i) (hp po pc hpc hpp hpo)
  · have es : sf_st n op rg ar he i c w = (he, n, c, w) := by
      unfold sf_st; rw [if_neg (by rw [o]; decide), if_neg (by rw [o]; decide), if_neg (by rw [o]; decide), if_neg (by rw [o]; decide), if_neg (by rw [o]; decide), if_neg (by rw [o]; decide), if_neg (by rw [o]; decide)]
    rw [es] at hp
    exact nm_r (ea.trans o) (br_f (by decide) (br_t (by decide) (hp po pc hpc hpp hpo)))
theorem sx_doRun {post : SX → Prop} {n : Nat} {co se us : Int32} {op rg ar nx me un kn he po pc sc en : Nat → Int32} {p : Int32} {s : Nat} (hn : n ≤ 16) (hv : sf_val n op rg ar) (hs : s < 4)
    (hp : ∀ d g i c w po' pc', sf_go n op rg ar he p (nI s) = (d, g, i, c, w) → i ≤ n → c ≤ 60 → d ≤ 60 → pc' s = nI c → (∀ t, t ≠ s → pc' t = pc t) → sx_W s c w po' po →
      post (nI n, co, se, us, op, rg, ar, nx, me, un, kn, g, po', pc', upd sc s (nI d), upd en s (sx_e n i))) : wpX_doRun post (nI n, co, se, us, op, rg, ar, nx, me, un, kn, he, po, pc, sc, en) p (nI s) := by
  have his : vp_in (nI s) 4 := vp_in_nI hs (by omega)
  have ex : ∀ d g i c w po' pc', sf_go n op rg ar he p (nI s) = (d, g, i, c, w) → i ≤ n → c ≤ 60 → d ≤ 60 → pc' s = nI c → (∀ t, t ≠ s → pc' t = pc t) → sx_W s c w po' po →
      wX_doRun_68 post (nI s) (nI i) (nI d) (nI n) co se us op rg ar nx me un kn g po' pc' sc en := by
    intro d g i c w po' pc' h1 h2 h3 h3' h4 h5 h6
    have := hp d g i c w po' pc' h1 h2 h3 h3' h4 h5 h6
    unfold sx_e at this
    refine ⟨his, nm_r (e' := upd sc s (nI d)) (by rw [nI_clamp (by omega)]) (pk_le n i (fun z => ⟨his, nm_r (e' := upd en s 0) (by rw [nI_clamp (by omega)]) ?_⟩) (fun z => ⟨his, nm_r (e' := upd en s 1) (by rw [nI_clamp (by omega)]) ?_⟩))⟩
    · rw [if_pos z] at this; exact this
    · rw [if_neg (by omega)] at this; exact this
  have key : ∀ f d g i c w po' pc', d + f = 60 → sf_rn n op rg ar f d (g, i, c, w) = sf_go n op rg ar he p (nI s) → i ≤ n → c ≤ d → pc' s = nI c → (∀ t, t ≠ s → pc' t = pc t) → sx_W s c w po' po →
      wX_doRun_40 post (nI s) (f + 1) (nI i) (nI d) (nI n) co se us op rg ar nx me un kn g po' pc' sc en := by
    intro f
    induction f with
    | zero =>
      intro d g i c w po' pc' hd hr hi hc h4 h5 h6
      have e : d = 60 := by omega
      subst e
      rw [sf_rn_0] at hr
      exact br_t (by decide) (ex 60 g i c w po' pc' hr.symm hi hc (by omega) h4 h5 h6)
    | succ f ih =>
      intro d g i c w po' pc' hd hr hi hc h4 h5 h6
      refine pk_le 60 d (fun z => absurd z (by omega)) (fun _ => pk_le n i (fun z => ?_) (fun z => ?_))
      · rw [sf_rn_f (by omega)] at hr
        exact ex d g i c w po' pc' hr.symm hi (by omega) (by omega) h4 h5 h6
      · rw [sf_rn_t z] at hr
        have hb := sf_st_le (op := op) (rg := rg) (ar := ar) (g := g) (w := w) (c := c) z
        refine sx_doInstruction hn hv z hs (by omega) h4 h5 h6 ?_
        revert hr hb
        generalize sf_st n op rg ar g i c w = Q
        obtain ⟨g', i', c', w'⟩ := Q
        intro hr hb po'' pc'' a1 a2 a3
        dsimp only at hb a1 a3
        exact nm_r (nI_1 d) (ih (d + 1) g' i' c' w' po'' pc'' (by omega) hr hb.1 (by omega) a1 a2 a3)
  refine nm_e (nm_e (nm_e (nm_e ⟨his, nm_r (e' := upd pc s 0) (by rw [nI_clamp (by omega)]) ⟨61, key 60 0 _ 0 0 (fun _ => 0) po _ rfl rfl (by omega) (by omega) pk_us (fun t ht => pk_un ht) ⟨fun k hk => absurd hk (by omega), fun _ _ => rfl⟩⟩⟩)))
