/-! arguments, the relation -/
def sz_P (v : Int32) (m : Nat) : Prop := ∃ q, q < m ∧ v = nI q
theorem sz_neg {v : Int32} {m : Nat} (hm : m < 2 ^ 31) (h : v < 0) : ¬ sz_P v m := by
  rintro ⟨q, hq, rfl⟩
  exact nI_pos (by omega) h
theorem sz_big {j m : Nat} (h : m ≤ j) (hj : j < 2 ^ 31) : ¬ sz_P (nI j) m := by
  rintro ⟨q, hq, e⟩
  have := (nI_eq hj (by omega)).mp e
  omega
theorem sx_isNumber {post : Int32 → Prop} {v : Int32} (h1 : sz_P v 4 → post 1) (h0 : ¬ sz_P v 4 → post 0) : wpX_isNumber post v := by
  refine br_c (fun z => h0 (sz_neg (by omega) z)) (fun z => ?_)
  obtain ⟨j, hj, rfl⟩ := nI_of z
  exact pk_le 4 j (fun w => h0 (sz_big w hj)) (fun w => h1 ⟨j, w, rfl⟩)
theorem sx_isRegister {post : Int32 → Prop} {v : Int32} (h1 : sz_P v 4 → post 1) (h0 : ¬ sz_P v 4 → post 0) : wpX_isRegister post v := by
  refine br_c (fun z => h0 (sz_neg (by omega) z)) (fun z => ?_)
  obtain ⟨j, hj, rfl⟩ := nI_of z
  exact pk_le 4 j (fun w => h0 (sz_big w hj)) (fun w => h1 ⟨j, w, rfl⟩)
theorem sx_isPlace {post : Int32 → Prop} {n : Nat} {co se us : Int32} {op rg ar nx me un kn he po pc sc en : Nat → Int32} {v : Int32} (hn : n ≤ 16) (h1 : sz_P v n → post 1) (h0 : ¬ sz_P v n → post 0) : wpX_isPlace post (nI n, co, se, us, op, rg, ar, nx, me, un, kn, he, po, pc, sc, en) v := by
  refine br_c (fun z => h0 (sz_neg (by omega) z)) (fun z => ?_)
  obtain ⟨j, hj, rfl⟩ := nI_of z
  exact pk_le n j (fun w => h0 (sz_big w hj)) (fun w => h1 ⟨j, w, rfl⟩)
theorem sy_small {post : Int32 → Prop} {n : Nat} {ed sp ou : Int32} {op rg ar ka he ro rw ln : Nat → Int32} {v : Int32} (h1 : sz_P v 4 → post 1) (h0 : ¬ sz_P v 4 → post 0) : wpY_small post (nI n, ed, sp, ou, op, rg, ar, ka, he, ro, rw, ln) v := by
  refine br_c (fun z => h0 (sz_neg (by omega) z)) (fun z => ?_)
  obtain ⟨j, hj, rfl⟩ := nI_of z
  exact pk_lt 3 j (fun w => h0 (sz_big w hj)) (fun w => h1 ⟨j, by omega, rfl⟩)
theorem sy_noPlace {post : Int32 → Prop} {n : Nat} {ed sp ou : Int32} {op rg ar ka he ro rw ln : Nat → Int32} {v : Int32} (hn : n ≤ 16) (h1 : sz_P v n → post 0) (h0 : ¬ sz_P v n → post 1) : wpY_noPlace post (nI n, ed, sp, ou, op, rg, ar, ka, he, ro, rw, ln) v := by
  refine br_c (fun z => h0 (sz_neg (by omega) z)) (fun z => ?_)
  obtain ⟨j, hj, rfl⟩ := nI_of z
  exact pk_lt j n (fun w => h1 ⟨j, w, rfl⟩) (fun w => h0 (sz_big w hj))
theorem sy_noNumbers {post : Int32 → Prop} {n : Nat} {ed sp ou : Int32} {op rg ar ka he ro rw ln : Nat → Int32} {v1 v2 : Int32} (h1 : sz_P v1 4 → sz_P v2 4 → post 0) (h0 : ¬ (sz_P v1 4 ∧ sz_P v2 4) → post 1) : wpY_noNumbers post (nI n, ed, sp, ou, op, rg, ar, ka, he, ro, rw, ln) v1 v2 := by
  unfold wpY_noNumbers
  dsimp only
  exact sy_small (fun z => br_f (by decide) (sy_small (fun w => br_f (by decide) (h1 z w)) (fun w => br_t rfl (h0 (fun q => w q.2))))) (fun z => br_t rfl (h0 (fun q => z q.1)))
/-- an instruction that may be written -/
def sz_ok (o r x : Int32) : Prop :=
  (o = 0 ∨ o = 1 ∨ o = 2 ∨ o = 3 ∨ o = 4 ∨ o = 5 ∨ o = 6 ∨ o = 7) ∧
  (¬ o = 5 → ¬ o = 7 → ∃ q, q < 4 ∧ r = nI q) ∧ ((o = 0 ∨ o = 1 ∨ o = 2 ∨ o = 3) → ∃ q, q < 4 ∧ x = nI q) ∧ (o = 5 ∨ o = 6 → ∃ q, q ≤ 16 ∧ x = nI q)
theorem sz_8 {j : Nat} (h : j ≤ 7) : nI j = 0 ∨ nI j = 1 ∨ nI j = 2 ∨ nI j = 3 ∨ nI j = 4 ∨ nI j = 5 ∨ nI j = 6 ∨ nI j = 7 := by
  have : j = 0 ∨ j = 1 ∨ j = 2 ∨ j = 3 ∨ j = 4 ∨ j = 5 ∨ j = 6 ∨ j = 7 := by omega
  rcases this with rfl | rfl | rfl | rfl | rfl | rfl | rfl | rfl <;> decide
theorem sz_8b {o : Int32} (h : o = 0 ∨ o = 1 ∨ o = 2 ∨ o = 3 ∨ o = 4 ∨ o = 5 ∨ o = 6 ∨ o = 7) : ¬ o < 0 ∧ o ≤ 7 := by
  rcases h with rfl | rfl | rfl | rfl | rfl | rfl | rfl | rfl <;> decide
theorem sx_ii65 {post : Int32 → Prop} {x : Int32} (h1 : (∃ q, q ≤ 16 ∧ x = nI q) → post 1) (h0 : ¬ (∃ q, q ≤ 16 ∧ x = nI q) → post 0) : wX_isInstruction_65 post x := by
  refine br_c (fun z => h0 (fun ⟨q, hq, e⟩ => sz_neg (m := 17) (by omega) z ⟨q, by omega, e⟩)) (fun z => ?_)
  obtain ⟨j, hj, rfl⟩ := nI_of z
  exact pk_lt 16 j (fun w => h0 (fun ⟨q, hq, e⟩ => sz_big (m := 17) (by omega) hj ⟨q, by omega, e⟩)) (fun w => h1 ⟨j, w, rfl⟩)
theorem sy_wr63 {post : Int32 → Prop} {n : Nat} {ed sp ou : Int32} {op rg ar ka he ro rw ln : Nat → Int32} {x : Int32} (h1 : (∃ q, q ≤ 16 ∧ x = nI q) → post 0) (h0 : ¬ (∃ q, q ≤ 16 ∧ x = nI q) → post 1) : wY_wrong_63 post x (nI n) ed sp ou op rg ar ka he ro rw ln := by
  refine br_c (fun z => h0 (fun ⟨q, hq, e⟩ => sz_neg (m := 17) (by omega) z ⟨q, by omega, e⟩)) (fun z => ?_)
  obtain ⟨j, hj, rfl⟩ := nI_of z
  exact pk_le j 16 (fun w => h1 ⟨j, w, rfl⟩) (fun w => h0 (fun ⟨q, hq, e⟩ => sz_big (m := 17) (by omega) hj ⟨q, by omega, e⟩))
theorem sx_isInstruction {post : Int32 → Prop} {o r x : Int32} (h1 : sz_ok o r x → post 1) (h0 : ¬ sz_ok o r x → post 0) : wpX_isInstruction post o r x := by
  by_cases ho : o = 0 ∨ o = 1 ∨ o = 2 ∨ o = 3 ∨ o = 4 ∨ o = 5 ∨ o = 6 ∨ o = 7
  · refine br_f (sz_8b ho).1 (br_t (sz_8b ho).2 ?_)
    have hok : sz_ok o r x ↔ (¬ o = 5 → ¬ o = 7 → ∃ q, q < 4 ∧ r = nI q) ∧ ((o = 0 ∨ o = 1 ∨ o = 2 ∨ o = 3) → ∃ q, q < 4 ∧ x = nI q) ∧ (o = 5 ∨ o = 6 → ∃ q, q ≤ 16 ∧ x = nI q) := ⟨fun w => w.2, fun w => ⟨ho, w⟩⟩
    rw [hok] at h1 h0
    clear hok
    rcases ho with rfl | rfl | rfl | rfl | rfl | rfl | rfl | rfl
    · exact br_f (by decide) (br_f (by decide) (br_f (by decide) (sx_isRegister (fun hr => br_f (by decide) (br_t rfl (br_f (by decide) (sx_isNumber (fun hx => ⟨rfl, h1 ⟨fun _ _ => hr, fun _ => hx, fun w => absurd w (by decide)⟩⟩) (fun hx => ⟨rfl, h0 (fun w => hx (w.2.1 (by decide)))⟩))))) (fun hr => br_t rfl (h0 (fun w => hr (w.1 (by decide) (by decide))))))))
    · exact br_f (by decide) (br_f (by decide) (br_f (by decide) (sx_isRegister (fun hr => br_f (by decide) (br_f (by decide) (br_t rfl (br_f (by decide) (sx_isNumber (fun hx => ⟨rfl, h1 ⟨fun _ _ => hr, fun _ => hx, fun w => absurd w (by decide)⟩⟩) (fun hx => ⟨rfl, h0 (fun w => hx (w.2.1 (by decide)))⟩)))))) (fun hr => br_t rfl (h0 (fun w => hr (w.1 (by decide) (by decide))))))))
    · exact br_f (by decide) (br_f (by decide) (br_f (by decide) (sx_isRegister (fun hr => br_f (by decide) (br_f (by decide) (br_f (by decide) (br_t rfl (br_f (by decide) (sx_isNumber (fun hx => ⟨rfl, h1 ⟨fun _ _ => hr, fun _ => hx, fun w => absurd w (by decide)⟩⟩) (fun hx => ⟨rfl, h0 (fun w => hx (w.2.1 (by decide)))⟩))))))) (fun hr => br_t rfl (h0 (fun w => hr (w.1 (by decide) (by decide))))))))
    · exact br_f (by decide) (br_f (by decide) (br_f (by decide) (sx_isRegister (fun hr => br_f (by decide) (br_f (by decide) (br_f (by decide) (br_f (by decide) (br_t rfl (br_f (by decide) (sx_isNumber (fun hx => ⟨rfl, h1 ⟨fun _ _ => hr, fun _ => hx, fun w => absurd w (by decide)⟩⟩) (fun hx => ⟨rfl, h0 (fun w => hx (w.2.1 (by decide)))⟩)))))))) (fun hr => br_t rfl (h0 (fun w => hr (w.1 (by decide) (by decide))))))))
    · exact br_f (by decide) (br_f (by decide) (br_f (by decide) (sx_isRegister (fun hr => br_f (by decide) (br_f (by decide) (br_f (by decide) (br_f (by decide) (br_f (by decide) (br_t rfl (br_f (by decide) (br_f (by decide) (h1 ⟨fun _ _ => hr, fun w => absurd w (by decide), fun w => absurd w (by decide)⟩))))))))) (fun hr => br_t rfl (h0 (fun w => hr (w.1 (by decide) (by decide))))))))
    · exact br_t rfl (br_t rfl (br_f (by decide) (br_f (by decide) (br_f (by decide) (br_f (by decide) (br_t rfl (br_t rfl (sx_ii65 (fun hx => h1 ⟨fun w => absurd rfl w, fun w => absurd w (by decide), fun _ => hx⟩) (fun hx => h0 (fun w => hx (w.2.2 (Or.inl rfl))))))))))))
    · exact br_f (by decide) (br_f (by decide) (br_f (by decide) (sx_isRegister (fun hr => br_f (by decide) (br_f (by decide) (br_f (by decide) (br_f (by decide) (br_f (by decide) (br_t rfl (br_f (by decide) (br_t rfl (sx_ii65 (fun hx => h1 ⟨fun _ _ => hr, fun w => absurd w (by decide), fun _ => hx⟩) (fun hx => h0 (fun w => hx (w.2.2 (Or.inr rfl))))))))))))) (fun hr => br_t rfl (h0 (fun w => hr (w.1 (by decide) (by decide))))))))
    · exact br_f (by decide) (br_t rfl (br_t rfl (br_f (by decide) (br_f (by decide) (br_f (by decide) (br_f (by decide) (br_t rfl (br_f (by decide) (br_f (by decide) (h1 ⟨fun _ w => absurd rfl w, fun w => absurd w (by decide), fun w => absurd w (by decide)⟩))))))))))
  · have hno : ¬ sz_ok o r x := fun w => ho w.1
    refine br_c (fun z => h0 hno) (fun z => ?_)
    obtain ⟨j, hj, rfl⟩ := nI_of z
    exact pk_le j 7 (fun w => absurd (sz_8 w) ho) (fun _ => h0 hno)
theorem sy_wrong {post : Int32 → Prop} {n : Nat} {ed sp ou : Int32} {op rg ar ka he ro rw ln : Nat → Int32} {o r x : Int32} (h1 : sz_ok o r x → post 0) (h0 : ¬ sz_ok o r x → post 1) : wpY_wrong post (nI n, ed, sp, ou, op, rg, ar, ka, he, ro, rw, ln) o r x := by
  by_cases ho : o = 0 ∨ o = 1 ∨ o = 2 ∨ o = 3 ∨ o = 4 ∨ o = 5 ∨ o = 6 ∨ o = 7
  · refine br_f (sz_8b ho).1 (br_t (sz_8b ho).2 ?_)
    have hok : sz_ok o r x ↔ (¬ o = 5 → ¬ o = 7 → ∃ q, q < 4 ∧ r = nI q) ∧ ((o = 0 ∨ o = 1 ∨ o = 2 ∨ o = 3) → ∃ q, q < 4 ∧ x = nI q) ∧ (o = 5 ∨ o = 6 → ∃ q, q ≤ 16 ∧ x = nI q) := ⟨fun w => w.2, fun w => ⟨ho, w⟩⟩
    rw [hok] at h1 h0
    clear hok
    have c4 : ∀ o' : Int32, (o' = 0 ∨ o' = 1 ∨ o' = 2 ∨ o' = 3) → ¬ o' = 5 → ¬ o' = 6 → ¬ o' = 7 → o' = o → ¬ (4 : Int32) ≤ o' → wY_wrong_23 post o' r x (nI n) ed sp ou op rg ar ka he ro rw ln := by
      rintro o' hc h5 h6 h7 rfl h4
      unfold wY_wrong_23
      exact sy_small (fun hr => br_f (by decide) (br_f h4 (sy_small (fun hx => br_f (by decide) (h1 ⟨fun _ _ => hr, fun _ => hx, fun w => absurd w (fun w => w.elim h5 h6)⟩)) (fun hx => br_t rfl (h0 (fun w => hx (w.2.1 hc))))))) (fun hr => br_t rfl (h0 (fun w => hr (w.1 h5 h7))))
    rcases ho with rfl | rfl | rfl | rfl | rfl | rfl | rfl | rfl
    · exact br_t (by decide) (c4 _ (by decide) (by decide) (by decide) (by decide) rfl (by decide))
    · exact br_t (by decide) (c4 _ (by decide) (by decide) (by decide) (by decide) rfl (by decide))
    · exact br_t (by decide) (c4 _ (by decide) (by decide) (by decide) (by decide) rfl (by decide))
    · exact br_t (by decide) (c4 _ (by decide) (by decide) (by decide) (by decide) rfl (by decide))
    · refine br_t (by decide) ?_
      unfold wY_wrong_23
      exact sy_small (fun hr => br_f (by decide) (br_t (by decide) (br_f (by decide) (br_f (by decide) (h1 ⟨fun _ _ => hr, fun w => absurd w (by decide), fun w => absurd w (by decide)⟩))))) (fun hr => br_t rfl (h0 (fun w => hr (w.1 (by decide) (by decide)))))
    · exact br_f (by decide) (br_f (by decide) (br_t (by decide) (br_t rfl (sy_wr63 (fun hx => h1 ⟨fun w => absurd rfl w, fun w => absurd w (by decide), fun _ => hx⟩) (fun hx => h0 (fun w => hx (w.2.2 (Or.inl rfl))))))))
    · refine br_f (by decide) (br_t rfl ?_)
      unfold wY_wrong_23
      exact sy_small (fun hr => br_f (by decide) (br_t (by decide) (br_f (by decide) (br_t rfl (sy_wr63 (fun hx => h1 ⟨fun _ _ => hr, fun w => absurd w (by decide), fun _ => hx⟩) (fun hx => h0 (fun w => hx (w.2.2 (Or.inr rfl))))))))) (fun hr => br_t rfl (h0 (fun w => hr (w.1 (by decide) (by decide)))))
    · exact br_f (by decide) (br_f (by decide) (br_t (by decide) (br_f (by decide) (br_f (by decide) (h1 ⟨fun _ w => absurd rfl w, fun w => absurd w (by decide), fun w => absurd w (by decide)⟩)))))
  · have hno : ¬ sz_ok o r x := fun w => ho w.1
    refine br_c (fun z => h0 hno) (fun z => ?_)
    obtain ⟨j, hj, rfl⟩ := nI_of z
    exact pk_le j 7 (fun w => absurd (sz_8 w) ho) (fun _ => h0 hno)
theorem sz_val {n m i : Nat} {op rg ar : Nat → Int32} {o r x : Int32} (hv : sf_val n op rg ar) (hm : ∀ j, j < m → ¬ j = i → j < n) (hok : sz_ok o r x) : sf_val m (upd op i o) (upd rg i r) (upd ar i x) := by
  intro j hj
  unfold sf_ch
  by_cases e : j = i
  · subst e
    rw [pk_us, pk_us, pk_us]
    exact hok
  · rw [pk_un e, pk_un e, pk_un e]
    exact hv j (hm j hj e)
def i_Rel (_ : Nat) (u : SX) (v : SY) : Prop :=
  ∃ (n : Nat) (co se us ed sp ou : Int32) (op rg ar nx me un kn he po pc sc en ka ro rw ln : Nat → Int32), u = (nI n, co, se, us, op, rg, ar, nx, me, un, kn, he, po, pc, sc, en) ∧ v = (nI n, ed, sp, ou, op, rg, ar, ka, he, ro, rw, ln) ∧ 0 < n ∧ n ≤ 16 ∧ sf_val n op rg ar ∧ sx_D n co se us op rg ar nx me un kn
theorem sz_R {k n : Nat} {co se us ed sp ou : Int32} {op rg ar nx me un kn he po pc sc en ka ro rw ln : Nat → Int32} (hn0 : 0 < n) (hn : n ≤ 16) (hv : sf_val n op rg ar) (hD : sx_D n co se us op rg ar nx me un kn) : i_Rel k (nI n, co, se, us, op, rg, ar, nx, me, un, kn, he, po, pc, sc, en) (nI n, ed, sp, ou, op, rg, ar, ka, he, ro, rw, ln) :=
  ⟨n, co, se, us, ed, sp, ou, op, rg, ar, nx, me, un, kn, he, po, pc, sc, en, ka, ro, rw, ln, rfl, rfl, hn0, hn, hv, hD⟩
theorem i_up {k : Nat} {u : SX} {v : SY} (h : i_Rel k u v) : i_Rel (k + 5) u v := h
