/-! the runs -/
theorem i_vc_run {k : Nat} {u : SX} {v : SY} (I : i_Rel k u v) (hk : k + 5 ≤ 2560) (v1 : Int32) (v2 : Int32) : wpX_run (fun r u' => wpY_run (fun r' v' => r' = r ∧ i_Rel (k + 5) u' v') v v1 v2) u v1 v2 := by
  obtain ⟨n, co, se, us, ed, sp, ou, op, rg, ar, nx, me, un, kn, he, po, pc, sc, en, ka, ro, rw, ln, rfl, rfl, hn0, hn, hv, hD⟩ := I
  unfold wpX_run
  dsimp only
  refine sx_isNumber (fun hp => br_f (by decide) (sx_isNumber (fun hs => br_f (by decide) ?_) (fun hs => br_t rfl ?_))) (fun hp => br_t rfl ?_)
  · have hs' := hs
    obtain ⟨s, hsn, rfl⟩ := hs
    refine sx_doRun hn hv hsn (fun d g i c w po' pc' hgo hi hc hd a1 a2 a3 => ⟨vp_in_nI (by omega) (by omega), ?_⟩)
    unfold wpY_run
    dsimp only
    refine sy_noNumbers (fun _ _ => br_t rfl (sy_doRun hn hv (fun d2 g2 i2 c2 w2 ro2 hgo2 hi2 hc2 hd2 b1 => ?_))) (fun x => absurd ⟨hp, hs'⟩ x)
    have e := hgo.symm.trans hgo2
    simp only [Prod.mk.injEq] at e
    obtain ⟨e1, e2, e3, e4, e5⟩ := e
    subst e1 e2 e3 e4 e5
    exact ⟨Eq.symm (by rw [nI_clamp (by omega), pk_us]), sz_R hn0 hn hv hD⟩
  · unfold wpY_run
    dsimp only
    exact sy_noNumbers (fun _ x => absurd x hs) (fun _ => br_f (by decide) ⟨rfl, sz_R hn0 hn hv hD⟩)
  · unfold wpY_run
    dsimp only
    exact sy_noNumbers (fun x _ => absurd x hp) (fun _ => br_f (by decide) ⟨rfl, sz_R hn0 hn hv hD⟩)
theorem i_vc_steps {k : Nat} {u : SX} {v : SY} (I : i_Rel k u v) (hk : k + 5 ≤ 2560) (v1 : Int32) (v2 : Int32) : wpX_steps (fun r u' => wpY_steps (fun r' v' => r' = r ∧ i_Rel (k + 5) u' v') v v1 v2) u v1 v2 := by
  obtain ⟨n, co, se, us, ed, sp, ou, op, rg, ar, nx, me, un, kn, he, po, pc, sc, en, ka, ro, rw, ln, rfl, rfl, hn0, hn, hv, hD⟩ := I
  unfold wpX_steps
  dsimp only
  refine sx_isNumber (fun hp => br_f (by decide) (sx_isNumber (fun hs => br_f (by decide) ?_) (fun hs => br_t rfl ?_))) (fun hp => br_t rfl ?_)
  · have hs' := hs
    obtain ⟨s, hsn, rfl⟩ := hs
    refine sx_doRun hn hv hsn (fun d g i c w po' pc' hgo hi hc hd a1 a2 a3 => ⟨vp_in_nI (by omega) (by omega), ?_⟩)
    unfold wpY_steps
    dsimp only
    refine sy_noNumbers (fun _ _ => br_t rfl (sy_doRun hn hv (fun d2 g2 i2 c2 w2 ro2 hgo2 hi2 hc2 hd2 b1 => ?_))) (fun x => absurd ⟨hp, hs'⟩ x)
    have e := hgo.symm.trans hgo2
    simp only [Prod.mk.injEq] at e
    obtain ⟨e1, e2, e3, e4, e5⟩ := e
    subst e1 e2 e3 e4 e5
    exact ⟨Eq.symm (by rw [nI_clamp (by omega), pk_us]), sz_R hn0 hn hv hD⟩
  · unfold wpY_steps
    dsimp only
    exact sy_noNumbers (fun _ x => absurd x hs) (fun _ => br_f (by decide) ⟨rfl, sz_R hn0 hn hv hD⟩)
  · unfold wpY_steps
    dsimp only
    exact sy_noNumbers (fun x _ => absurd x hp) (fun _ => br_f (by decide) ⟨rfl, sz_R hn0 hn hv hD⟩)
theorem i_vc_outs {k : Nat} {u : SX} {v : SY} (I : i_Rel k u v) (hk : k + 5 ≤ 2560) (v1 : Int32) (v2 : Int32) : wpX_outs (fun r u' => wpY_outs (fun r' v' => r' = r ∧ i_Rel (k + 5) u' v') v v1 v2) u v1 v2 := by
  obtain ⟨n, co, se, us, ed, sp, ou, op, rg, ar, nx, me, un, kn, he, po, pc, sc, en, ka, ro, rw, ln, rfl, rfl, hn0, hn, hv, hD⟩ := I
  unfold wpX_outs
  dsimp only
  refine sx_isNumber (fun hp => br_f (by decide) (sx_isNumber (fun hs => br_f (by decide) ?_) (fun hs => br_t rfl ?_))) (fun hp => br_t rfl ?_)
  · have hs' := hs
    obtain ⟨s, hsn, rfl⟩ := hs
    refine sx_doRun hn hv hsn (fun d g i c w po' pc' hgo hi hc hd a1 a2 a3 => ⟨vp_in_nI (by omega) (by omega), ?_⟩)
    unfold wpY_outs
    dsimp only
    refine sy_noNumbers (fun _ _ => br_t rfl (sy_doRun hn hv (fun d2 g2 i2 c2 w2 ro2 hgo2 hi2 hc2 hd2 b1 => ?_))) (fun x => absurd ⟨hp, hs'⟩ x)
    have e := hgo.symm.trans hgo2
    simp only [Prod.mk.injEq] at e
    obtain ⟨e1, e2, e3, e4, e5⟩ := e
    subst e1 e2 e3 e4 e5
    exact ⟨Eq.symm (by rw [nI_clamp (by omega), a1]), sz_R hn0 hn hv hD⟩
  · unfold wpY_outs
    dsimp only
    exact sy_noNumbers (fun _ x => absurd x hs) (fun _ => br_f (by decide) ⟨rfl, sz_R hn0 hn hv hD⟩)
  · unfold wpY_outs
    dsimp only
    exact sy_noNumbers (fun x _ => absurd x hp) (fun _ => br_f (by decide) ⟨rfl, sz_R hn0 hn hv hD⟩)
theorem i_vc_out {k : Nat} {u : SX} {v : SY} (I : i_Rel k u v) (hk : k + 5 ≤ 2560) (v1 : Int32) (v2 : Int32) (v3 : Int32) : wpX_out (fun r u' => wpY_out (fun r' v' => r' = r ∧ i_Rel (k + 5) u' v') v v1 v2 v3) u v1 v2 v3 := by
  obtain ⟨n, co, se, us, ed, sp, ou, op, rg, ar, nx, me, un, kn, he, po, pc, sc, en, ka, ro, rw, ln, rfl, rfl, hn0, hn, hv, hD⟩ := I
  unfold wpX_out
  dsimp only
  refine sx_isNumber (fun hp => br_f (by decide) (sx_isNumber (fun hs => br_f (by decide) ?_) (fun hs => br_t rfl ?_))) (fun hp => br_t rfl ?_)
  · have hs' := hs
    obtain ⟨s, hsn, rfl⟩ := hs
    have hsi : vp_in (nI s) 4 := vp_in_nI hsn (by omega)
    refine sx_doRun hn hv hsn (fun d g i c w po' pc' hgo hi hc hd a1 a2 a3 => ?_)
    have Y : ∀ (r : Int32) (u' : SX), (∀ ro2, sy_W c w ro2 → (v3 < 0 → (-4 = r ∧ i_Rel (k + 5) u' (nI n, sx_e n i, nI d, nI c, op, rg, ar, ka, g, ro2, rw, ln))) ∧ (¬ v3 < 0 → (v3 < nI c → (vp_in v3 60 ∧ (ro2 v3.toNatClampNeg = r ∧ i_Rel (k + 5) u' (nI n, sx_e n i, nI d, nI c, op, rg, ar, ka, g, ro2, rw, ln)))) ∧ (¬ v3 < nI c → (-4 = r ∧ i_Rel (k + 5) u' (nI n, sx_e n i, nI d, nI c, op, rg, ar, ka, g, ro2, rw, ln))))) →
        wpY_out (fun r' v' => r' = r ∧ i_Rel (k + 5) u' v') (nI n, ed, sp, ou, op, rg, ar, ka, he, ro, rw, ln) v1 (nI s) v3 := by
      intro r u' H
      unfold wpY_out
      dsimp only
      refine sy_noNumbers (fun _ _ => br_t rfl (sy_doRun hn hv (fun d2 g2 i2 c2 w2 ro2 hgo2 hi2 hc2 hd2 b1 => ?_))) (fun x => absurd ⟨hp, hs'⟩ x)
      have e := hgo.symm.trans hgo2
      simp only [Prod.mk.injEq] at e
      obtain ⟨e1, e2, e3, e4, e5⟩ := e
      subst e1 e2 e3 e4 e5
      exact H ro2 b1
    refine br_c (fun z => Y _ _ (fun ro2 b1 => br_t z ⟨rfl, sz_R hn0 hn hv hD⟩)) (fun z => ⟨hsi, ?_⟩)
    obtain ⟨j, hj, rfl⟩ := nI_of z
    dsimp only
    rw [nI_clamp (n := s) (by omega), a1]
    refine pk_lt j c (fun x => ?_) (fun x => Y _ _ (fun ro2 b1 => br_f z (br_f (nI_nlt x hj) ⟨rfl, sz_R hn0 hn hv hD⟩)))
    rw [sx_ix]
    refine ⟨vp_in_nI (by omega) (by omega), Y _ _ (fun ro2 b1 => br_f z (br_t (nI_lt x (by omega)) ⟨vp_in_nI (by omega) (by omega), ?_, sz_R hn0 hn hv hD⟩))⟩
    rw [nI_clamp (by omega), nI_clamp (by omega), a3.1 j x, b1 j x]
  · unfold wpY_out
    dsimp only
    exact sy_noNumbers (fun _ x => absurd x hs) (fun _ => br_f (by decide) ⟨rfl, sz_R hn0 hn hv hD⟩)
  · unfold wpY_out
    dsimp only
    exact sy_noNumbers (fun x _ => absurd x hp) (fun _ => br_f (by decide) ⟨rfl, sz_R hn0 hn hv hD⟩)
theorem i_vc_shows {k : Nat} {u : SX} {v : SY} (I : i_Rel k u v) (hk : k + 5 ≤ 2560) (v1 : Int32) : wpX_shows (fun r u' => wpY_shows (fun r' v' => r' = r ∧ i_Rel (k + 5) u' v') v v1) u v1 := by
  obtain ⟨n, co, se, us, ed, sp, ou, op, rg, ar, nx, me, un, kn, he, po, pc, sc, en, ka, ro, rw, ln, rfl, rfl, hn0, hn, hv, hD⟩ := I
  unfold wpX_shows
  dsimp only
  refine sx_isNumber (fun hp => br_f (by decide) (sx_countOutputs hn hv (fun po' pc' sc' en' => ?_))) (fun hp => br_t rfl ?_)
  · unfold wpY_shows
    dsimp only
    exact sy_small (fun _ => br_f (by decide) (sy_showsWith hn hv (fun ed' sp' ou' ro' rw' ln' => ⟨rfl, sz_R hn0 hn hv hD⟩))) (fun x => absurd hp x)
  · unfold wpY_shows
    dsimp only
    exact sy_small (fun x => absurd x hp) (fun _ => br_t rfl ⟨rfl, sz_R hn0 hn hv hD⟩)
theorem i_vc_leaks {k : Nat} {u : SX} {v : SY} (I : i_Rel k u v) (hk : k + 5 ≤ 2560) : wpX_leaks (fun r u' => wpY_leaks (fun r' v' => r' = r ∧ i_Rel (k + 5) u' v') v) u := by
  obtain ⟨n, co, se, us, ed, sp, ou, op, rg, ar, nx, me, un, kn, he, po, pc, sc, en, ka, ro, rw, ln, rfl, rfl, hn0, hn, hv, hD⟩ := I
  exact sx_leaks hn hv (fun po' pc' sc' en' => sy_leaks hn hv (fun ed' sp' ou' ro' rw' ln' => ⟨rfl, sz_R hn0 hn hv hD⟩))
