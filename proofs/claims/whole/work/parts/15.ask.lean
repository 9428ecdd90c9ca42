/-! the questions about the rules -/
theorem sz_b1 {z : Int32} {m : Nat} (hm : m < 32) (h : bt z m = true) : (z >>> (nI m &&& 31)) &&& 1 = 1 := (sf_has z m hm).mpr h
theorem sz_b0 {z : Int32} {m : Nat} (hm : m < 32) (h : ¬ bt z m = true) : (z >>> (nI m &&& 31)) &&& 1 = 0 := (sf_has0 z m hm).mpr h
theorem i_vc_comeTo {k : Nat} {u : SX} {v : SY} (I : i_Rel k u v) (hk : k + 5 ≤ 2560) (v1 : Int32) : wpX_comeTo (fun r => wpY_comeTo (fun r' => r' = r ∧ i_Rel (k + 5) u v) v v1) u v1 := by
  obtain ⟨n, co, se, us, ed, sp, ou, op, rg, ar, nx, me, un, kn, he, po, pc, sc, en, ka, ro, rw, ln, rfl, rfl, hn0, hn, hv, hD⟩ := I
  unfold wpX_comeTo
  dsimp only
  have hR : i_Rel (k + 5) (nI n, co, se, us, op, rg, ar, nx, me, un, kn, he, po, pc, sc, en) (nI n, ed, sp, ou, op, rg, ar, ka, he, ro, rw, ln) := sz_R hn0 hn hv hD
  refine sx_isPlace hn (fun hi => br_f (by decide) ?_) (fun hi => br_t rfl ?_)
  · have hi' := hi
    obtain ⟨i, hin, rfl⟩ := hi
    refine sx_hasb i rfl rfl (by omega) (fun w => ?_) (fun w => ?_)
    · unfold wpY_comeTo
      dsimp only
      exact sy_noPlace hn (fun _ => br_t rfl (sy_allComeTo hn0 hn hv (fun z hz => ⟨sz_b1 (by omega) ((hz i).mpr ((hD.2.1 i).mp w)), hR⟩))) (fun q => absurd hi' q)
    · unfold wpY_comeTo
      dsimp only
      exact sy_noPlace hn (fun _ => br_t rfl (sy_allComeTo hn0 hn hv (fun z hz => ⟨sz_b0 (by omega) (fun q => w ((hD.2.1 i).mpr ((hz i).mp q))), hR⟩))) (fun q => absurd hi' q)
  · unfold wpY_comeTo
    dsimp only
    exact sy_noPlace hn (fun q => absurd q hi) (fun _ => br_f (by decide) ⟨rfl, hR⟩)
/-- the least one of P below m, or none -/
def sz_L (P : Nat → Prop) (m : Nat) (r : Int32) : Prop := (∃ q, q < m ∧ P q ∧ (∀ j, j < q → ¬ P j) ∧ r = nI q) ∨ ((∀ q, q < m → ¬ P q) ∧ r = -4)
theorem sz_L_u {P : Nat → Prop} {m : Nat} {r r' : Int32} (h : sz_L P m r) (h' : sz_L P m r') : r' = r := by
  rcases h with ⟨q, h1, h2, h3, h4⟩ | ⟨h1, h2⟩ <;> rcases h' with ⟨q', g1, g2, g3, g4⟩ | ⟨g1, g2⟩
  · have : q = q' := by
      rcases Nat.lt_trichotomy q q' with e | e | e
      · exact absurd h2 (g3 q e)
      · exact e
      · exact absurd g2 (h3 q' e)
    rw [h4, g4, this]
  · exact absurd h2 (g1 q h1)
  · exact absurd g2 (h1 q' g1)
  · rw [h2, g2]
/-- the first meeting place of b -/
def sz_F (n : Nat) (nm : Nat → Int32) (b q : Nat) : Prop := sf_M n nm b q ∧ sf_R n nm (sf_B nm b) (fun j => sf_M n nm b j ∧ j ≠ q) q
theorem sx_meeting {post : Int32 → Prop} {n : Nat} {co se us : Int32} {op rg ar nx me un kn he po pc sc en : Nat → Int32} {b : Nat} (hn : n ≤ 16) (hv : sf_val n op rg ar) (hD : sx_D n co se us op rg ar nx me un kn) (hb : b < n)
    (h : ∀ r, sz_L (sz_F n (sf_nm n op ar) b) (n + 1) r → post r) : wpX_meeting post (nI n, co, se, us, op, rg, ar, nx, me, un, kn, he, po, pc, sc, en) (nI b) := by
  have hok : sf_ok n (sf_nm n op ar) := sf_nm_ok hn
  have hs1 : ∀ i, bt ((1 : Int32) <<< (nI b &&& 31)) i = true ↔ i = b := sf_oneI b (by omega)
  have hs2 : ∀ i, bt ((1 : Int32) <<< (nI b &&& 31)) i = true → i ≤ n := fun i hi => by have := (hs1 i).mp hi; omega
  unfold wpX_meeting
  dsimp only
  refine sx_isPlace hn (fun _ => br_f (by decide) ⟨vp_in_nI (by omega) (by omega), nm_r (sx_at (by omega)) (sx_reach (S := fun j => j = b) (B := sf_M n (sf_nm n op ar) b) rfl rfl hn hD.1 hok hs2 hs1 (hD.2.2.1 b hb) (fun z hz => sx_nextOfAll hn hD.1 (fun y hy => nm_e ?_)))⟩) (fun w => absurd ⟨b, hb, rfl⟩ w)
  have hf : ∀ q, bt (me b &&& y) q = true ↔ sz_F n (sf_nm n op ar) b q := by
    intro q
    rw [sf_andI, hD.2.2.1 b hb q, hy q]
    constructor
    · rintro ⟨w1, i, w2, w3, w4⟩
      exact ⟨w1, (sf_first hb sf_M_b w1).mp ⟨i, w2, (hz i).mp w3, w4⟩⟩
    · rintro ⟨w1, w2⟩
      obtain ⟨i, w3, w4, w5⟩ := (sf_first hb sf_M_b w1).mpr w2
      exact ⟨w1, i, w3, (hz i).mpr w4, w5⟩
  have key : ∀ d q, q + d = n + 1 → (∀ j, j < q → ¬ sz_F n (sf_nm n op ar) b j) → wX_meeting_38 post (me b &&& y) (nI n) co se us op rg ar nx me un kn he po pc sc en (d + 1) (nI q) := by
    intro d
    induction d with
    | zero =>
      intro q hq hno
      exact br_t (nI_lt (by omega) (by omega)) (h _ (Or.inr ⟨fun j hj => hno j (by omega), rfl⟩))
    | succ d ih =>
      intro q hq hno
      refine br_f (nI_nlt (by omega) (by omega)) (sx_hasb q rfl rfl (by omega) (fun w => h _ (Or.inl ⟨q, by omega, (hf q).mp w, hno, rfl⟩)) (fun w => nm_r (nI_1 q) (ih (q + 1) (by omega) (fun j hj => ?_))))
      by_cases e : j = q
      · subst e; exact fun v => w ((hf j).mpr v)
      · exact hno j (by omega)
  exact ⟨_, key (n + 1) 0 (by omega) (fun j hj => absurd hj (by omega))⟩
theorem sy_meeting {post : Int32 → Prop} {n : Nat} {ed sp ou : Int32} {op rg ar ka he ro rw ln : Nat → Int32} {b : Nat} (hn : n ≤ 16) (hv : sf_val n op rg ar) (hb : b < n)
    (h : ∀ r, sz_L (sz_F n (sf_nm n op ar) b) (n + 1) r → post r) : wpY_meeting post (nI n, ed, sp, ou, op, rg, ar, ka, he, ro, rw, ln) (nI b) := by
  unfold wpY_meeting
  dsimp only
  refine sy_noPlace hn (fun _ => br_t rfl (sy_meetings hn hv hb (fun m hm => ?_))) (fun w => absurd ⟨b, hb, rfl⟩ w)
  have key : ∀ d q, q + d = n + 1 → (∀ j, j < q → ¬ sz_F n (sf_nm n op ar) b j) → wY_meeting_18 post (nI b) m (nI n) ed sp ou op rg ar ka he ro rw ln (d + 1) (nI q) := by
    intro d
    induction d with
    | zero =>
      intro q hq hno
      exact br_t (nI_lt (by omega) (by omega)) (h _ (Or.inr ⟨fun j hj => hno j (by omega), rfl⟩))
    | succ d ih =>
      intro q hq hno
      have stay : ¬ sz_F n (sf_nm n op ar) b q → wY_meeting_18 post (nI b) m (nI n) ed sp ou op rg ar ka he ro rw ln (d + 1) (nI (q + 1)) := by
        intro w
        refine ih (q + 1) (by omega) (fun j hj => ?_)
        by_cases e : j = q
        · subst e; exact w
        · exact hno j (by omega)
      refine br_f (nI_nlt (by omega) (by omega)) (sy_reach (B := fun j => sf_M n (sf_nm n op ar) b j ∧ j ≠ q) hn hv hb (fun j => ?_) (fun z hz => sx_if ((sf_has m q (by omega)).trans (hm q)) (fun w => sx_if ((sf_has z q (by omega)).trans (hz q)) (fun x => h _ (Or.inl ⟨q, by omega, ⟨w, x⟩, hno, rfl⟩)) (fun x => nm_r (nI_1 q) (stay (fun v => x v.2)))) (fun w => nm_r (nI_1 q) (stay (fun v => w v.1)))))
      rw [sf_andnI, hm j, sf_oneI q (by omega)]
  exact ⟨_, key (n + 1) 0 (by omega) (fun j hj => absurd hj (by omega))⟩
theorem i_vc_meeting {k : Nat} {u : SX} {v : SY} (I : i_Rel k u v) (hk : k + 5 ≤ 2560) (v1 : Int32) : wpX_meeting (fun r => wpY_meeting (fun r' => r' = r ∧ i_Rel (k + 5) u v) v v1) u v1 := by
  obtain ⟨n, co, se, us, ed, sp, ou, op, rg, ar, nx, me, un, kn, he, po, pc, sc, en, ka, ro, rw, ln, rfl, rfl, hn0, hn, hv, hD⟩ := I
  have hR : i_Rel (k + 5) (nI n, co, se, us, op, rg, ar, nx, me, un, kn, he, po, pc, sc, en) (nI n, ed, sp, ou, op, rg, ar, ka, he, ro, rw, ln) := sz_R hn0 hn hv hD
  by_cases hi : sz_P v1 n
  · obtain ⟨b, hb, rfl⟩ := hi
    exact sx_meeting hn hv hD hb (fun r hr => sy_meeting hn hv hb (fun r' hr' => ⟨sz_L_u hr hr', hR⟩))
  · unfold wpX_meeting
    dsimp only
    refine sx_isPlace hn (fun w => absurd w hi) (fun _ => br_t rfl ?_)
    unfold wpY_meeting
    dsimp only
    exact sy_noPlace hn (fun q => absurd q hi) (fun _ => br_f (by decide) ⟨rfl, hR⟩)
theorem i_vc_under {k : Nat} {u : SX} {v : SY} (I : i_Rel k u v) (hk : k + 5 ≤ 2560) (v1 : Int32) (v2 : Int32) : wpX_under (fun r => wpY_under (fun r' => r' = r ∧ i_Rel (k + 5) u v) v v1 v2) u v1 v2 := by
  obtain ⟨n, co, se, us, ed, sp, ou, op, rg, ar, nx, me, un, kn, he, po, pc, sc, en, ka, ro, rw, ln, rfl, rfl, hn0, hn, hv, hD⟩ := I
  have hR : i_Rel (k + 5) (nI n, co, se, us, op, rg, ar, nx, me, un, kn, he, po, pc, sc, en) (nI n, ed, sp, ou, op, rg, ar, ka, he, ro, rw, ln) := sz_R hn0 hn hv hD
  unfold wpX_under
  dsimp only
  refine sx_isPlace hn (fun hq => br_f (by decide) (sx_isPlace hn (fun hb => br_f (by decide) ?_) (fun hb => br_t rfl ?_))) (fun hq => br_t rfl ?_)
  · have hq' := hq
    have hb' := hb
    obtain ⟨q, hqn, rfl⟩ := hq
    obtain ⟨b, hbn, rfl⟩ := hb
    refine ⟨vp_in_nI (by omega) (by omega), sx_hasb q (sx_at (by omega)) rfl (by omega) (fun w => ?_) (fun w => ?_)⟩
    · unfold wpY_under
      dsimp only
      exact sy_noPlace hn (fun _ => br_t rfl (sy_noPlace hn (fun _ => br_t rfl (sy_allUnder hn hv hbn (fun z hz => ⟨sz_b1 (by omega) ((hz q).mpr ((hD.2.2.2.1 b hbn q).mp w)), hR⟩))) (fun x => absurd hb' x))) (fun x => absurd hq' x)
    · unfold wpY_under
      dsimp only
      exact sy_noPlace hn (fun _ => br_t rfl (sy_noPlace hn (fun _ => br_t rfl (sy_allUnder hn hv hbn (fun z hz => ⟨sz_b0 (by omega) (fun x => w ((hD.2.2.2.1 b hbn q).mpr ((hz q).mp x))), hR⟩))) (fun x => absurd hb' x))) (fun x => absurd hq' x)
  · unfold wpY_under
    dsimp only
    exact sy_noPlace hn (fun _ => br_t rfl (sy_noPlace hn (fun x => absurd x hb) (fun _ => br_f (by decide) ⟨rfl, hR⟩))) (fun x => absurd hq x)
  · unfold wpY_under
    dsimp only
    exact sy_noPlace hn (fun x => absurd x hq) (fun _ => br_f (by decide) ⟨rfl, hR⟩)
theorem i_vc_knows {k : Nat} {u : SX} {v : SY} (I : i_Rel k u v) (hk : k + 5 ≤ 2560) (v1 : Int32) (v2 : Int32) : wpX_knows (fun r => wpY_knows (fun r' v' => r' = r ∧ i_Rel (k + 5) u v') v v1 v2) u v1 v2 := by
  obtain ⟨n, co, se, us, ed, sp, ou, op, rg, ar, nx, me, un, kn, he, po, pc, sc, en, ka, ro, rw, ln, rfl, rfl, hn0, hn, hv, hD⟩ := I
  unfold wpX_knows
  dsimp only
  refine sx_isPlace hn (fun hi => br_f (by decide) (sx_isRegister (fun hr => br_f (by decide) ?_) (fun hr => br_t rfl ?_))) (fun hi => br_t rfl ?_)
  · have hi' := hi
    have hr' := hr
    obtain ⟨i, hin, rfl⟩ := hi
    obtain ⟨r, hrn, rfl⟩ := hr
    refine ⟨vp_in_nI (by omega) (by omega), sx_hasb r (sx_at (by omega)) rfl (by omega) (fun w => ?_) (fun w => ?_)⟩
    · unfold wpY_knows
      dsimp only
      exact sy_noPlace hn (fun _ => br_t rfl (sy_small (fun _ => br_f (by decide) (sy_findKnowing hn0 hn hv (fun K hK => ⟨vp_in_nI (by omega) (by omega), by rw [nI_clamp (by omega)]; exact sz_b1 (by omega) ((hK i r hin).mpr ((hD.2.2.2.2.1 i r hin).mp w)), sz_R hn0 hn hv hD⟩))) (fun x => absurd hr' x))) (fun x => absurd hi' x)
    · unfold wpY_knows
      dsimp only
      exact sy_noPlace hn (fun _ => br_t rfl (sy_small (fun _ => br_f (by decide) (sy_findKnowing hn0 hn hv (fun K hK => ⟨vp_in_nI (by omega) (by omega), by rw [nI_clamp (by omega)]; exact sz_b0 (by omega) (fun x => w ((hD.2.2.2.2.1 i r hin).mpr ((hK i r hin).mp x))), sz_R hn0 hn hv hD⟩))) (fun x => absurd hr' x))) (fun x => absurd hi' x)
  · unfold wpY_knows
    dsimp only
    exact sy_noPlace hn (fun _ => br_t rfl (sy_small (fun x => absurd x hr) (fun _ => br_t rfl ⟨rfl, sz_R hn0 hn hv hD⟩))) (fun x => absurd hi x)
  · unfold wpY_knows
    dsimp only
    exact sy_noPlace hn (fun x => absurd x hi) (fun _ => br_f (by decide) ⟨rfl, sz_R hn0 hn hv hD⟩)
theorem i_vc_secret {k : Nat} {u : SX} {v : SY} (I : i_Rel k u v) (hk : k + 5 ≤ 2560) (v1 : Int32) : wpX_secret (fun r => wpY_secret (fun r' v' => r' = r ∧ i_Rel (k + 5) u v') v v1) u v1 := by
  obtain ⟨n, co, se, us, ed, sp, ou, op, rg, ar, nx, me, un, kn, he, po, pc, sc, en, ka, ro, rw, ln, rfl, rfl, hn0, hn, hv, hD⟩ := I
  unfold wpX_secret
  dsimp only
  refine sx_isPlace hn (fun hi => br_f (by decide) ?_) (fun hi => br_t rfl ?_)
  · have hi' := hi
    obtain ⟨i, hin, rfl⟩ := hi
    have hse := hD.2.2.2.2.2.1 i hin
    refine sx_hasb i rfl rfl (by omega) (fun w => ?_) (fun w => ?_)
    · unfold wpY_secret
      dsimp only
      exact sy_noPlace hn (fun _ => br_t rfl (sy_findKnowing hn0 hn hv (fun K hK => sy_allComeTo hn0 hn hv (fun c hc => sy_isSecret hn hv hin hc (fun _ _ _ => br_f (by decide) ⟨rfl, sz_R hn0 hn hv hD⟩) (fun x => absurd ⟨sf_K_come (hse.mp w).2, (hse.mp w).1, (hK i _ hin).mpr (hse.mp w).2⟩ x))))) (fun x => absurd hi' x)
    · unfold wpY_secret
      dsimp only
      exact sy_noPlace hn (fun _ => br_t rfl (sy_findKnowing hn0 hn hv (fun K hK => sy_allComeTo hn0 hn hv (fun c hc => sy_isSecret hn hv hin hc (fun _ x1 x2 => absurd (hse.mpr ⟨x1, (hK i _ hin).mp x2⟩) w) (fun _ => br_t rfl ⟨rfl, sz_R hn0 hn hv hD⟩))))) (fun x => absurd hi' x)
  · unfold wpY_secret
    dsimp only
    exact sy_noPlace hn (fun x => absurd x hi) (fun _ => br_f (by decide) ⟨rfl, sz_R hn0 hn hv hD⟩)
/-- bad places -/
def sz_B (n : Nat) (op rg ar : Nat → Int32) (i : Nat) : Prop :=
  op i = 4 ∧ sf_come n (sf_nm n op ar) i ∧ (sf_K n (sf_nm n op ar) op rg ar i (sf_n rg i) ∨ sf_V n (sf_nm n op ar) op rg (sf_K n (sf_nm n op ar) op rg ar) i)
theorem sx_leastBadPlace {post : Int32 → Prop} {n : Nat} {co se us : Int32} {op rg ar nx me un kn he po pc sc en : Nat → Int32} (hn : n ≤ 16) (hv : sf_val n op rg ar) (hD : sx_D n co se us op rg ar nx me un kn)
    (h : ∀ r, sz_L (sz_B n op rg ar) n r → post r) : wpX_leastBadPlace post (nI n, co, se, us, op, rg, ar, nx, me, un, kn, he, po, pc, sc, en) := by
  have key : ∀ d i, i + d = n → (∀ j, j < i → ¬ sz_B n op rg ar j) → wX_leastBadPlace_2 post (nI n) co se us op rg ar nx me un kn he po pc sc en (d + 1) (nI i) := by
    intro d
    induction d with
    | zero =>
      intro i hi hno
      exact br_t (nI_le (by omega) (by omega)) (h _ (Or.inr ⟨fun j hj => hno j (by omega), rfl⟩))
    | succ d ih =>
      intro i hi hno
      have hin : vp_in (nI i) 16 := vp_in_nI (by omega) (by omega)
      have stay : ¬ sz_B n op rg ar i → wX_leastBadPlace_2 post (nI n) co se us op rg ar nx me un kn he po pc sc en (d + 1) (nI (i + 1)) := by
        intro w
        refine ih (i + 1) (by omega) (fun j hj => ?_)
        by_cases e : j = i
        · subst e; exact w
        · exact hno j (by omega)
      have yes : sz_B n op rg ar i → post (nI i) := fun w => h _ (Or.inl ⟨i, by omega, w, hno, rfl⟩)
      refine br_f (nI_ge (by omega) (by omega)) ⟨hin, sx_eq (sx_at (by omega)) (fun o => sx_hasb i rfl rfl (by omega) (fun hc => ⟨hin, hin, ?_⟩) (fun hc => nm_r (nI_1 i) (stay (fun w => hc ((hD.2.1 i).mpr w.2.1))))) (fun o => nm_r (nI_1 i) (stay (fun w => o w.1)))⟩
      obtain ⟨r, hr, er⟩ := (hv i (by omega)).2.1 (by rw [o]; decide) (by rw [o]; decide)
      have er' : sf_n rg i = r := sf_n_e er (by omega)
      have hc' := (hD.2.1 i).mp hc
      have hK := hD.2.2.2.2.1 i (sf_n rg i) (by omega)
      have hU := hD.2.2.2.2.2.2 i (by omega)
      refine sx_hasb r (sx_at (by omega)) ((sx_at (by omega)).trans er) (by omega) (fun w => yes ⟨o, hc', Or.inl (hK.mp (by rw [er']; exact w))⟩) (fun w => sx_hasb i rfl rfl (by omega) (fun x => yes ⟨o, hc', Or.inr (hU.mp x)⟩) (fun x => nm_r (nI_1 i) (stay (fun q => ?_))))
      rcases q.2.2 with q | q
      · have := hK.mpr q
        rw [er'] at this
        exact w this
      · exact x (hU.mpr q)
  exact ⟨_, key n 0 (by omega) (fun j hj => absurd hj (by omega))⟩
theorem sy_bad {post : Int32 → SY → Prop} {n : Nat} {ed sp ou : Int32} {op rg ar ka he ro rw ln : Nat → Int32} (hn0 : 0 < n) (hn : n ≤ 16) (hv : sf_val n op rg ar)
    (h : ∀ r K, sz_L (sz_B n op rg ar) n r → post r (nI n, ed, sp, ou, op, rg, ar, K, he, ro, rw, ln)) : wpY_bad post (nI n, ed, sp, ou, op, rg, ar, ka, he, ro, rw, ln) := by
  unfold wpY_bad
  dsimp only
  refine sy_findKnowing hn0 hn hv (fun K hK => sy_allComeTo hn0 hn hv (fun c hc => sy_underSecrets hn hv hc (fun z hz => ?_)))
  have hU : ∀ i, bt z i = true ↔ sf_V n (sf_nm n op ar) op rg (sf_K n (sf_nm n op ar) op rg ar) i := fun i =>
    (hz i).trans ⟨sf_V_mono (fun b r hb w => (hK b r hb).mp w), sf_V_mono (fun b r hb w => (hK b r hb).mpr w)⟩
  have key : ∀ d i, i + d = n → (∀ j, j < i → ¬ sz_B n op rg ar j) → wY_bad_17 post c z (nI n) ed sp ou op rg ar K he ro rw ln (d + 1) (nI i) := by
    intro d
    induction d with
    | zero =>
      intro i hi hno
      exact br_t (nI_le (by omega) (by omega)) (h _ K (Or.inr ⟨fun j hj => hno j (by omega), rfl⟩))
    | succ d ih =>
      intro i hi hno
      have hin : vp_in (nI i) 16 := vp_in_nI (by omega) (by omega)
      have stay : ¬ sz_B n op rg ar i → wY_bad_17 post c z (nI n) ed sp ou op rg ar K he ro rw ln (d + 1) (nI (i + 1)) := by
        intro w
        refine ih (i + 1) (by omega) (fun j hj => ?_)
        by_cases e : j = i
        · subst e; exact w
        · exact hno j (by omega)
      have yes : sz_B n op rg ar i → post (nI i) (nI n, ed, sp, ou, op, rg, ar, K, he, ro, rw, ln) := fun w => h _ K (Or.inl ⟨i, by omega, w, hno, rfl⟩)
      refine br_f (nI_ge (by omega) (by omega)) (sx_if ((sf_has c i (by omega)).trans (hc i)) (fun hc' => ⟨hin, sx_eq (sx_at (by omega)) (fun o => ?_) (fun o => br_t rfl (nm_r (nI_1 i) (stay (fun w => o w.1))))⟩) (fun hc' => br_t rfl (nm_r (nI_1 i) (stay (fun w => hc' w.2.1)))))
      obtain ⟨r, hr, er⟩ := (hv i (by omega)).2.1 (by rw [o]; decide) (by rw [o]; decide)
      have er' : sf_n rg i = r := sf_n_e er (by omega)
      have hKi := hK i (sf_n rg i) (by omega)
      refine br_f (by decide) ⟨vp_in_nI (by omega) (by omega), hin, ?_⟩
      rw [nI_clamp (n := i) (by omega), er]
      refine sx_if (sf_has (K i) r (by omega)) (fun w => yes ⟨o, hc', Or.inl (hKi.mp (by rw [er']; exact w))⟩) (fun w => sx_if (sf_has z i (by omega)) (fun x => yes ⟨o, hc', Or.inr ((hU i).mp x)⟩) (fun x => nm_r (nI_1 i) (stay (fun q => ?_))))
      rcases q.2.2 with q | q
      · have := hKi.mpr q
        rw [er'] at this
        exact w this
      · exact x ((hU i).mpr q)
  exact ⟨_, key n 0 (by omega) (fun j hj => absurd hj (by omega))⟩
theorem i_vc_bad {k : Nat} {u : SX} {v : SY} (I : i_Rel k u v) (hk : k + 5 ≤ 2560) : wpX_bad (fun r => wpY_bad (fun r' v' => r' = r ∧ i_Rel (k + 5) u v') v) u := by
  obtain ⟨n, co, se, us, ed, sp, ou, op, rg, ar, nx, me, un, kn, he, po, pc, sc, en, ka, ro, rw, ln, rfl, rfl, hn0, hn, hv, hD⟩ := I
  unfold wpX_bad
  dsimp only
  exact sx_leastBadPlace hn hv hD (fun r hr => sy_bad hn0 hn hv (fun r' K hr' => ⟨sz_L_u hr hr', sz_R hn0 hn hv hD⟩))
theorem i_vc_safe {k : Nat} {u : SX} {v : SY} (I : i_Rel k u v) (hk : k + 5 ≤ 2560) : wpX_safe (fun r => wpY_safe (fun r' v' => r' = r ∧ i_Rel (k + 5) u v') v) u := by
  obtain ⟨n, co, se, us, ed, sp, ou, op, rg, ar, nx, me, un, kn, he, po, pc, sc, en, ka, ro, rw, ln, rfl, rfl, hn0, hn, hv, hD⟩ := I
  unfold wpX_safe
  dsimp only
  refine sx_leastBadPlace hn hv hD (fun r hr => br_c (fun e => ?_) (fun e => ?_))
  · unfold wpY_safe
    dsimp only
    refine sy_bad hn0 hn hv (fun r' K hr' => ?_)
    have := sz_L_u hr hr'
    subst this
    exact br_t e ⟨rfl, sz_R hn0 hn hv hD⟩
  · unfold wpY_safe
    dsimp only
    refine sy_bad hn0 hn hv (fun r' K hr' => ?_)
    have := sz_L_u hr hr'
    subst this
    exact br_f e ⟨rfl, sz_R hn0 hn hv hD⟩
