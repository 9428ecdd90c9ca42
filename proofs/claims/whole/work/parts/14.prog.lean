/-! the program's own calls -/
theorem sz_cl0 : (0 : Int32).toNatClampNeg = 0 := by decide
theorem sz_in0 : vp_in (0 : Int32) 16 := vp_in_nI (n := 0) (by omega) (by omega)
theorem sz_halt : sz_ok 7 0 0 := ⟨by decide, fun _ w => absurd rfl w, fun w => absurd w (by decide), fun w => absurd w (by decide)⟩
theorem sz_val1 {op rg ar : Nat → Int32} : sf_val 1 (upd op 0 7) (upd rg 0 0) (upd ar 0 0) :=
  sz_val (n := 0) (op := op) (rg := rg) (ar := ar) (fun i hi => absurd hi (by omega)) (fun j hj e => absurd hj (by omega)) sz_halt
theorem sz_upd0 : upd (fun _ => 0) 0 0 = (fun _ => 0) := by
  funext j
  unfold upd
  split <;> rfl
theorem sx_becomeHalt {post : SX → Prop} {n : Nat} {co se us : Int32} {op rg ar nx me un kn he po pc sc en : Nat → Int32} {L : Int32} (h : post (1, co, se, us, upd op 0 7, upd rg 0 0, upd ar 0 0, nx, me, un, kn, he, po, pc, sc, en)) : wpX_becomeHalt post (L, co, se, us, op, rg, ar, nx, me, un, kn, he, po, pc, sc, en) := by
  unfold wpX_becomeHalt
  dsimp only
  exact ⟨sz_in0, nm_r (e' := upd op 0 7) (by rw [sz_cl0]) ⟨sz_in0, nm_r (e' := upd rg 0 0) (by rw [sz_cl0]) ⟨sz_in0, nm_r (e' := upd ar 0 0) (by rw [sz_cl0]) h⟩⟩⟩
theorem i_vc0 : wpX_init (fun u => wpY_init (fun v => i_Rel 0 u v)) := by
  unfold wpX_init
  refine sx_becomeHalt (n := 0) (sx_applyRules (n := 1) (by omega) (by omega) sz_val1 (fun co se us nx me un kn hD => ?_))
  unfold wpY_init
  refine nm_e ?_
  have hv := sz_val1 (op := fun _ => 0) (rg := fun _ => 0) (ar := fun _ => 0)
  rw [sz_upd0] at hv hD
  dsimp only
  rw [sz_upd0]
  exact sz_R (n := 1) (by omega) (by omega) hv hD
theorem i_vc_put {k : Nat} {u : SX} {v : SY} (I : i_Rel k u v) (hk : k + 5 ≤ 2560) (v1 : Int32) (v2 : Int32) (v3 : Int32) : wpX_put (fun r u' => wpY_put (fun r' v' => r' = r ∧ i_Rel (k + 5) u' v') v v1 v2 v3) u v1 v2 v3 := by
  obtain ⟨n, co, se, us, ed, sp, ou, op, rg, ar, nx, me, un, kn, he, po, pc, sc, en, ka, ro, rw, ln, rfl, rfl, hn0, hn, hv, hD⟩ := I
  unfold wpX_put
  dsimp only
  refine sx_isInstruction (fun hok => br_f (by decide) (pk_lt n 16 (fun h => nm_r (nI_1 n) ?_) (fun h => ?_))) (fun hno => br_t rfl ?_)
  · have hin : vp_in (nI n) 16 := vp_in_nI h (by omega)
    have hv' : sf_val (n + 1) (upd op n v1) (upd rg n v2) (upd ar n v3) := sz_val hv (fun j hj e => by omega) hok
    refine ⟨hin, nm_r (e' := upd op n v1) (by rw [nI_clamp (by omega)]) ⟨hin, nm_r (e' := upd rg n v2) (by rw [nI_clamp (by omega)]) ⟨hin, nm_r (e' := upd ar n v3) (by rw [nI_clamp (by omega)]) (sx_applyRules (n := n + 1) (by omega) (by omega) hv' (fun co se us nx me un kn hD' => ?_))⟩⟩⟩
    unfold wpY_put
    dsimp only
    refine sy_wrong (fun _ => br_t rfl (pk_eq n 16 (fun e => absurd e (by omega)) (fun _ => ⟨hin, nm_r (e' := upd op n v1) (by rw [nI_clamp (by omega)]) ⟨hin, nm_r (e' := upd rg n v2) (by rw [nI_clamp (by omega)]) ⟨hin, nm_r (e' := upd ar n v3) (by rw [nI_clamp (by omega)]) (nm_r (nI_1 n) ⟨nI_pred n, sz_R (by omega) (by omega) hv' hD'⟩)⟩⟩⟩))) (fun w => absurd hok w)
  · unfold wpY_put
    dsimp only
    exact sy_wrong (fun _ => br_t rfl (pk_eq n 16 (fun e => ⟨rfl, sz_R hn0 hn hv hD⟩) (fun e => absurd e (by omega)))) (fun w => absurd hok w)
  · unfold wpY_put
    dsimp only
    exact sy_wrong (fun w => absurd w hno) (fun _ => br_f (by decide) ⟨rfl, sz_R hn0 hn hv hD⟩)
theorem i_vc_set {k : Nat} {u : SX} {v : SY} (I : i_Rel k u v) (hk : k + 5 ≤ 2560) (v1 : Int32) (v2 : Int32) (v3 : Int32) (v4 : Int32) : wpX_set (fun r u' => wpY_set (fun r' v' => r' = r ∧ i_Rel (k + 5) u' v') v v1 v2 v3 v4) u v1 v2 v3 v4 := by
  obtain ⟨n, co, se, us, ed, sp, ou, op, rg, ar, nx, me, un, kn, he, po, pc, sc, en, ka, ro, rw, ln, rfl, rfl, hn0, hn, hv, hD⟩ := I
  unfold wpX_set
  dsimp only
  refine sx_isPlace hn (fun hi => br_f (by decide) (sx_isInstruction (fun hok => br_f (by decide) ?_) (fun hno => br_t rfl ?_))) (fun hi => br_t rfl ?_)
  · have hi' := hi
    obtain ⟨i, hin, rfl⟩ := hi
    have hin' : vp_in (nI i) 16 := vp_in_nI (by omega) (by omega)
    have hv' : sf_val n (upd op i v2) (upd rg i v3) (upd ar i v4) := sz_val hv (fun j hj e => hj) hok
    refine ⟨hin', nm_r (e' := upd op i v2) (by rw [nI_clamp (by omega)]) ⟨hin', nm_r (e' := upd rg i v3) (by rw [nI_clamp (by omega)]) ⟨hin', nm_r (e' := upd ar i v4) (by rw [nI_clamp (by omega)]) (sx_applyRules hn0 hn hv' (fun co se us nx me un kn hD' => ?_))⟩⟩⟩
    unfold wpY_set
    dsimp only
    exact sy_noPlace hn (fun _ => br_t rfl (sy_wrong (fun _ => br_t rfl ⟨hin', nm_r (e' := upd op i v2) (by rw [nI_clamp (by omega)]) ⟨hin', nm_r (e' := upd rg i v3) (by rw [nI_clamp (by omega)]) ⟨hin', nm_r (e' := upd ar i v4) (by rw [nI_clamp (by omega)]) ⟨rfl, sz_R hn0 hn hv' hD'⟩⟩⟩⟩) (fun w => absurd hok w))) (fun w => absurd hi' w)
  · unfold wpY_set
    dsimp only
    exact sy_noPlace hn (fun _ => br_t rfl (sy_wrong (fun w => absurd w hno) (fun _ => br_f (by decide) ⟨rfl, sz_R hn0 hn hv hD⟩))) (fun w => absurd hi w)
  · unfold wpY_set
    dsimp only
    exact sy_noPlace hn (fun w => absurd w hi) (fun _ => br_f (by decide) ⟨rfl, sz_R hn0 hn hv hD⟩)
theorem i_vc_clear {k : Nat} {u : SX} {v : SY} (I : i_Rel k u v) (hk : k + 5 ≤ 2560) : wpX_clear (fun r u' => wpY_clear (fun r' v' => r' = r ∧ i_Rel (k + 5) u' v') v) u := by
  obtain ⟨n, co, se, us, ed, sp, ou, op, rg, ar, nx, me, un, kn, he, po, pc, sc, en, ka, ro, rw, ln, rfl, rfl, hn0, hn, hv, hD⟩ := I
  unfold wpX_clear
  dsimp only
  refine sx_becomeHalt (n := 0) (sx_applyRules (n := 1) (by omega) (by omega) sz_val1 (fun co se us nx me un kn hD' => ?_))
  unfold wpY_clear
  dsimp only
  exact ⟨sz_in0, nm_r (e' := upd op 0 7) (by rw [sz_cl0]) ⟨sz_in0, nm_r (e' := upd rg 0 0) (by rw [sz_cl0]) ⟨sz_in0, nm_r (e' := upd ar 0 0) (by rw [sz_cl0]) ⟨rfl, sz_R (n := 1) (by omega) (by omega) sz_val1 hD'⟩⟩⟩⟩
theorem i_vc_size {k : Nat} {u : SX} {v : SY} (I : i_Rel k u v) (hk : k + 5 ≤ 2560) : wpX_size (fun r => wpY_size (fun r' => r' = r ∧ i_Rel (k + 5) u v) v) u := by
  obtain ⟨n, co, se, us, ed, sp, ou, op, rg, ar, nx, me, un, kn, he, po, pc, sc, en, ka, ro, rw, ln, rfl, rfl, hn0, hn, hv, hD⟩ := I
  exact ⟨rfl, sz_R hn0 hn hv hD⟩
