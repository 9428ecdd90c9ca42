/-! the reference's sets -/
theorem sy_target {post : Int32 → Prop} {n : Nat} {ed sp ou : Int32} {op rg ar ka he ro rw ln : Nat → Int32} {i x : Nat} (hi : i < 16) (hn : n ≤ 16) (hx : x ≤ 16) (ha : ar i = nI x) (h : post (nI (sf_tg n ar i))) : wpY_target post (nI n, ed, sp, ou, op, rg, ar, ka, he, ro, rw, ln) (nI i) := by
  have e : sf_n ar i = x := sf_n_e ha (by omega)
  have ea : ar (nI i).toNatClampNeg = nI x := by rw [nI_clamp (by omega), ha]
  unfold sf_tg at h
  rw [e] at h
  refine ⟨vp_in_nI hi (by omega), ?_⟩
  rw [ea]
  refine pk_le n x (fun z => ?_) (fun z => ⟨vp_in_nI hi (by omega), ?_⟩)
  · rw [if_neg (by omega)] at h; exact h
  · rw [if_pos z] at h; exact h
theorem sy_nexts {post : Int32 → Prop} {n : Nat} {ed sp ou : Int32} {op rg ar ka he ro rw ln : Nat → Int32} {i : Nat} (hn : n ≤ 16) (hv : sf_val n op rg ar) (hi : i < n) (h : post (sf_nm n op ar i)) : wpY_nexts post (nI n, ed, sp, ou, op, rg, ar, ka, he, ro, rw, ln) (nI i) := by
  have ea : op (nI i).toNatClampNeg = op i := sx_at (by omega)
  have hin : vp_in (nI i) 16 := vp_in_nI (by omega) (by omega)
  unfold sf_nm at h
  refine ⟨hin, sx_eq ea (fun o => ?_) (fun o => ⟨hin, sx_eq ea (fun o5 => ?_) (fun o5 => nm_r (e' := (1 : Int32) <<< (nI (i + 1) &&& 31)) (by rw [nI_1]) ⟨hin, sx_eq ea (fun o6 => ?_) (fun o6 => ?_)⟩)⟩)⟩
  · rw [if_pos o] at h; exact h
  · rw [if_neg o, if_pos o5] at h
    obtain ⟨x, hx, hax⟩ := (hv i hi).2.2.2 (Or.inl o5)
    exact sy_target (by omega) hn hx hax h
  · rw [if_neg o, if_neg o5, if_pos o6] at h
    obtain ⟨x, hx, hax⟩ := (hv i hi).2.2.2 (Or.inr o6)
    exact sy_target (by omega) hn hx hax h
  · rw [if_neg o, if_neg o5, if_neg o6] at h; exact h
theorem sy_reach {post : Int32 → Prop} {n : Nat} {ed sp ou : Int32} {op rg ar ka he ro rw ln : Nat → Int32} {b : Nat} {w : Int32} {B : Nat → Prop} (hn : n ≤ 16) (hv : sf_val n op rg ar) (hb : b < n) (hB : ∀ i, bt w i = true ↔ B i)
    (hp : ∀ z, (∀ j, bt z j = true ↔ sf_R n (sf_nm n op ar) (sf_B (sf_nm n op ar) b) B j) → post z) : wpY_reach post (nI n, ed, sp, ou, op, rg, ar, ka, he, ro, rw, ln) (nI b) w := by
  have hok : sf_ok n (sf_nm n op ar) := sf_nm_ok hn
  have hin : ∀ (J : Int32 → Int32 → Prop) (y : Int32), (∀ z, sf_J n (sf_nm n op ar) (sf_B (sf_nm n op ar) b) (fun i => bt w i = true) z y → J z y) →
      ∀ d i z, i + d = n → sf_J1 n (sf_nm n op ar) (sf_B (sf_nm n op ar) b) (fun i => bt w i = true) y i z → wY_reach_35 post J w y (nI n) ed sp ou op rg ar ka he ro rw ln (d + 1) z (nI i) := by
    intro J y hJ d
    induction d with
    | zero =>
      intro i z hi h
      have e : i = n := by omega
      subst e
      exact br_t (nI_le (Nat.le_refl _) (by omega)) (hJ z (sf_J1_n h))
    | succ d ih =>
      intro i z hi h
      exact br_f (nI_ge (by omega) (by omega)) (sx_if (sf_has z i (by omega)) (fun hz => sy_nexts hn hv (by omega) (nm_e (nm_r (nI_1 i) (ih (i + 1) _ (by omega) (sf_J1_t (by omega) h hz))))) (fun hz => nm_r (nI_1 i) (ih (i + 1) z (by omega) (sf_J1_f h hz))))
  have hout : ∀ m z y, n + 1 - sf_c (bt y) (n + 1) ≤ m → sf_J n (sf_nm n op ar) (sf_B (sf_nm n op ar) b) (fun i => bt w i = true) z y → wY_reach_23 post w (nI n) ed sp ou op rg ar ka he ro rw ln (m + 1) z y := by
    intro m
    induction m with
    | zero =>
      intro z y hm h
      refine br_c (fun e => ?_) (fun e => ?_)
      · subst e
        exact hp z (fun j => (sf_J_e h j).trans (sf_R_congr (fun _ => Iff.rfl) hB j))
      · have := sf_J_lt hok (hok b hb) h e
        omega
    | succ m ih =>
      intro z y hm h
      refine br_c (fun e => ?_) (fun e => ?_)
      · subst e
        exact hp z (fun j => (sf_J_e h j).trans (sf_R_congr (fun _ => Iff.rfl) hB j))
      · have := sf_J_lt hok (hok b hb) h e
        exact ⟨n + 1, hin _ z (fun z' h' => ih z' z (by omega) h') n 0 z (by omega) (sf_J1_0 h)⟩
  refine pk_eq b n (fun e => absurd e (by omega)) (fun _ => sy_nexts hn hv hb (nm_e ⟨n + 1 + 1, hout (n + 1) _ 0 (by omega) sf_J_0⟩))
theorem sy_allComeTo {post : Int32 → Prop} {n : Nat} {ed sp ou : Int32} {op rg ar ka he ro rw ln : Nat → Int32} (hn0 : 0 < n) (hn : n ≤ 16) (hv : sf_val n op rg ar)
    (hp : ∀ z, (∀ j, bt z j = true ↔ sf_come n (sf_nm n op ar) j) → post z) : wpY_allComeTo post (nI n, ed, sp, ou, op, rg, ar, ka, he, ro, rw, ln) := by
  unfold wpY_allComeTo
  dsimp only
  refine sy_reach (b := 0) (B := sf_no) hn hv hn0 (fun j => ⟨fun w => absurd w (sf_0I j), fun w => absurd w (fun z => z)⟩) (fun z hz => hp _ (fun j => ?_))
  rw [sf_orI, sf_uno, hz j, sf_come_Y hn0]
  exact ⟨Or.symm, Or.symm⟩
theorem sy_meetings {post : Int32 → Prop} {n : Nat} {ed sp ou : Int32} {op rg ar ka he ro rw ln : Nat → Int32} {b : Nat} (hn : n ≤ 16) (hv : sf_val n op rg ar) (hb : b < n)
    (hp : ∀ z, (∀ q, bt z q = true ↔ sf_M n (sf_nm n op ar) b q) → post z) : wpY_meetings post (nI n, ed, sp, ou, op, rg, ar, ka, he, ro, rw, ln) (nI b) := by
  unfold wpY_meetings
  dsimp only
  refine sy_reach (B := sf_no) hn hv hb (fun j => ⟨fun w => absurd w (sf_0I j), fun w => absurd w (fun z => z)⟩) (fun z hz => sx_if (sf_has0 z n (by omega)) (fun h => hp 0 (fun q => ⟨fun w => absurd w (sf_0I q), fun w => absurd ((hz n).mpr ((sf_M_Y0 hb).mp w.1)) h⟩)) (fun h => nm_e ?_))
  have h0 : sf_R n (sf_nm n op ar) (fun j => j = b) sf_no n := (sf_M_Y0 hb).mpr ((hz n).mp (Classical.byContradiction (fun w => h w)))
  have key : ∀ d q y, q + d = n → (∀ p, bt y p = true ↔ sf_M n (sf_nm n op ar) b p ∧ (p < q ∨ p = n)) → wY_meetings_30 post (nI b) (nI n) ed sp ou op rg ar ka he ro rw ln (d + 1) y (nI q) := by
    intro d
    induction d with
    | zero =>
      intro q y hq hy
      have e : q = n := by omega
      subst e
      exact br_t (nI_le (Nat.le_refl _) (by omega)) (hp y (fun p => (hy p).trans ⟨fun w => w.1, fun w => ⟨w, by have := w.2.1; omega⟩⟩))
    | succ d ih =>
      intro q y hq hy
      have stay : ¬ sf_M n (sf_nm n op ar) b q → wY_meetings_30 post (nI b) (nI n) ed sp ou op rg ar ka he ro rw ln (d + 1) y (nI (q + 1)) := fun w =>
        ih (q + 1) y (by omega) (fun p => (hy p).trans ⟨fun v => ⟨v.1, by omega⟩, fun v => ⟨v.1, by
          by_cases e : p = q
          · subst e; exact absurd v.1 w
          · omega⟩⟩)
      refine br_f (nI_ge (by omega) (by omega)) (sy_reach (B := fun j => j = q) hn hv hb (sf_oneI q (by omega)) (fun r hr => pk_eq q b (fun e => nm_r (nI_1 q) (stay (fun w => w.2.2.1 e))) (fun ne => sx_if (sf_has0 r n (by omega)) (fun h => nm_e (nm_r (nI_1 q) (ih (q + 1) _ (by omega) (fun p => ?_)))) (fun h => nm_r (nI_1 q) (stay (fun w => h (fun v => w.2.2.2 ((sf_M_Y1 hb ne).mpr ((hr n).mp v)))))))))
      rw [sf_orI, hy p, sf_oneI q (by omega)]
      constructor
      · rintro (w | w)
        · exact ⟨w.1, by omega⟩
        · subst w
          exact ⟨⟨h0, by omega, ne, fun v => h ((hr n).mpr ((sf_M_Y1 hb ne).mp v))⟩, by omega⟩
      · intro w
        by_cases e : p = q
        · exact Or.inr e
        · exact Or.inl ⟨w.1, by omega⟩
  refine ⟨n + 1, key n 0 _ (by omega) (fun p => ?_)⟩
  rw [sf_oneI n (by omega)]
  constructor
  · intro w; subst w; exact ⟨(sf_M_n hb).mpr h0, Or.inr rfl⟩
  · intro w; omega
theorem sy_allUnder {post : Int32 → Prop} {n : Nat} {ed sp ou : Int32} {op rg ar ka he ro rw ln : Nat → Int32} {b : Nat} (hn : n ≤ 16) (hv : sf_val n op rg ar) (hb : b < n)
    (hp : ∀ z, (∀ j, bt z j = true ↔ sf_U n (sf_nm n op ar) b j) → post z) : wpY_allUnder post (nI n, ed, sp, ou, op, rg, ar, ka, he, ro, rw, ln) (nI b) := by
  unfold wpY_allUnder
  dsimp only
  refine sy_meetings hn hv hb (fun m hm => sy_reach hn hv hb hm (fun z hz => hp _ (fun j => ?_)))
  rw [sf_andnI, hz j, sf_oneI n (by omega)]
  constructor
  · intro w; exact w.1
  · intro w
    refine ⟨w, fun e => ?_⟩
    subst e
    exact sf_U_n hb w
theorem sy_isSecret {post : Int32 → Prop} {n : Nat} {ed sp ou : Int32} {op rg ar ka he ro rw ln : Nat → Int32} {b : Nat} {c : Int32} (hn : n ≤ 16) (hv : sf_val n op rg ar) (hb : b < n) (hc : ∀ j, bt c j = true ↔ sf_come n (sf_nm n op ar) j)
    (h1 : sf_come n (sf_nm n op ar) b → op b = 6 → sf_t ka b (sf_n rg b) → post 1) (h0 : ¬ (sf_come n (sf_nm n op ar) b ∧ op b = 6 ∧ sf_t ka b (sf_n rg b)) → post 0) : wpY_isSecret post (nI n, ed, sp, ou, op, rg, ar, ka, he, ro, rw, ln) (nI b) c := by
  have hin : vp_in (nI b) 16 := vp_in_nI (by omega) (by omega)
  refine sx_if ((sf_has c b (by omega)).trans (hc b)) (fun w => ⟨hin, sx_eq (sx_at (by omega)) (fun o => ⟨vp_in_nI (by omega) (by omega), hin, ?_⟩) (fun o => h0 (fun v => o v.2.1))⟩) (fun w => h0 (fun v => w v.1))
  obtain ⟨r, hr, er⟩ := (hv b hb).2.1 (by rw [o]; decide) (by rw [o]; decide)
  have er' : sf_n rg b = r := sf_n_e er (by omega)
  rw [nI_clamp (n := b) (by omega), er]
  exact sx_if (sf_has (ka b) r (by omega)) (fun v => h1 w o (by rw [er']; exact v)) (fun v => h0 (fun z => v (by have := z.2.2; rw [er'] at this; exact this)))
theorem sy_underSecrets {post : Int32 → Prop} {n : Nat} {ed sp ou : Int32} {op rg ar ka he ro rw ln : Nat → Int32} {c : Int32} (hn : n ≤ 16) (hv : sf_val n op rg ar) (hc : ∀ j, bt c j = true ↔ sf_come n (sf_nm n op ar) j)
    (hp : ∀ z, (∀ j, bt z j = true ↔ sf_V n (sf_nm n op ar) op rg (sf_t ka) j) → post z) : wpY_underSecrets post (nI n, ed, sp, ou, op, rg, ar, ka, he, ro, rw, ln) c := by
  have key : ∀ d i y, i + d = n → (∀ j, bt y j = true ↔ ∃ b, b < i ∧ sf_come n (sf_nm n op ar) b ∧ op b = 6 ∧ sf_t ka b (sf_n rg b) ∧ sf_U n (sf_nm n op ar) b j) → wY_underSecrets_4 post c (nI n) ed sp ou op rg ar ka he ro rw ln (d + 1) y (nI i) := by
    intro d
    induction d with
    | zero =>
      intro i y hi hy
      have e : i = n := by omega
      subst e
      exact br_t (nI_le (Nat.le_refl _) (by omega)) (hp y hy)
    | succ d ih =>
      intro i y hi hy
      refine br_f (nI_ge (by omega) (by omega)) (sy_isSecret hn hv (by omega) hc (fun w1 w2 w3 => br_f (by decide) (sy_allUnder hn hv (by omega) (fun z hz => nm_e (nm_r (nI_1 i) (ih (i + 1) _ (by omega) (fun j => ?_)))))) (fun w => br_t rfl (nm_r (nI_1 i) (ih (i + 1) y (by omega) (fun j => ?_)))))
      · rw [sf_orI, hy j, hz j]
        constructor
        · rintro (⟨b, v1, v2⟩ | v)
          · exact ⟨b, by omega, v2⟩
          · exact ⟨i, by omega, w1, w2, w3, v⟩
        · rintro ⟨b, v1, v2⟩
          by_cases e : b = i
          · subst e; exact Or.inr v2.2.2.2
          · exact Or.inl ⟨b, by omega, v2⟩
      · rw [hy j]
        constructor
        · rintro ⟨b, v1, v2⟩
          exact ⟨b, by omega, v2⟩
        · rintro ⟨b, v1, v2⟩
          by_cases e : b = i
          · subst e; exact absurd ⟨v2.1, v2.2.1, v2.2.2.1⟩ w
          · exact ⟨b, by omega, v2⟩
  exact ⟨n + 1, key n 0 0 (by omega) (fun j => ⟨fun w => absurd w (sf_0I j), fun ⟨b, v, _⟩ => absurd v (by omega)⟩)⟩
