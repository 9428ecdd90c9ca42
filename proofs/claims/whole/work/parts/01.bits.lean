def bt (x : Int32) (i : Nat) : Bool := x.toBitVec.getLsbD i
theorem b_ext {x y : Int32} (h : ∀ i, i < 32 → bt x i = bt y i) : x = y := Int32.toBitVec_inj.mp (BitVec.eq_of_getLsbD_eq (fun i hi => h i hi))
theorem b_or (x y : Int32) (i : Nat) : bt (x ||| y) i = (bt x i || bt y i) := by unfold bt; rw [Int32.toBitVec_or, BitVec.getLsbD_or]
theorem b_and (x y : Int32) (i : Nat) : bt (x &&& y) i = (bt x i && bt y i) := by unfold bt; rw [Int32.toBitVec_and, BitVec.getLsbD_and]
theorem b_xor (x y : Int32) (i : Nat) : bt (x ^^^ y) i = (bt x i ^^ bt y i) := by unfold bt; rw [Int32.toBitVec_xor, BitVec.getLsbD_xor]
theorem b_big {x : Int32} {i : Nat} (h : 32 ≤ i) : bt x i = false := BitVec.getLsbD_of_ge _ _ h
theorem b_m1 : ∀ i, i < 32 → bt (-1) i = true := by decide +kernel
theorem b_0 (i : Nat) : bt 0 i = false := BitVec.getLsbD_zero
theorem s_l : ∀ n, n < 32 → ((nI n &&& 31).toBitVec.smod 32).toNat = n := by decide +kernel
theorem b_shl (n : Nat) (hn : n < 32) (x : Int32) {i : Nat} (hi : i < 32) : bt (x <<< (nI n &&& 31)) i = (decide (n ≤ i) && bt x (i - n)) := by
  unfold bt
  rw [Int32.toBitVec_shiftLeft]
  show (x.toBitVec <<< ((nI n &&& 31).toBitVec.smod 32).toNat).getLsbD i = _
  rw [s_l n hn, BitVec.getLsbD_shiftLeft]
  rcases Nat.lt_or_ge i n with h | h
  · simp [h, Nat.not_le.mpr h]
  · simp [hi, h, Nat.not_lt.mpr h]
theorem b_sshr (n : Nat) (hn : n < 32) (x : Int32) {i : Nat} (hi : i < 32) : bt (x >>> (nI n &&& 31)) i = if n + i < 32 then bt x (n + i) else bt x 31 := by
  unfold bt
  rw [Int32.toBitVec_shiftRight]
  show (x.toBitVec.sshiftRight ((nI n &&& 31).toBitVec.smod 32).toNat).getLsbD i = _
  rw [s_l n hn, BitVec.getLsbD_sshiftRight, BitVec.msb_eq_getLsbD_last]
  simp [hi]
theorem pk_us {f : Nat → Int32} {k : Nat} {x : Int32} : upd f k x k = x := if_pos rfl
theorem pk_un {f : Nat → Int32} {k j : Nat} {x : Int32} (h : j ≠ k) : upd f k x j = f j := if_neg h
theorem pk_sub {a b : Nat} (h : b ≤ a) : nI a - nI b = nI (a - b) := by
  obtain ⟨c, rfl⟩ : ∃ c, a = c + b := ⟨a - b, by omega⟩
  rw [← nI_add, Int32.add_sub_cancel, Nat.add_sub_cancel]
theorem pk_m1 (n : Nat) : nI (n + 1) + (-1) = nI n := by
  rw [← nI_1, Int32.add_assoc, show (1 : Int32) + (-1) = 0 from rfl, Int32.add_zero]
theorem pk_mul (a b : Nat) : nI a * nI b = nI (a * b) := (Int32.ofNat_mul a b).symm
theorem pk_ix (x : Int32) {n : Nat} (hn : n < 2 ^ 31) : x < 0 ∨ nI n ≤ x ∨ ∃ j : Nat, j < n ∧ x = nI j := by
  by_cases h : x < 0
  · exact Or.inl h
  · obtain ⟨j, hj, rfl⟩ := nI_of h
    by_cases h2 : j < n
    · exact Or.inr (Or.inr ⟨j, h2, rfl⟩)
    · exact Or.inr (Or.inl (nI_le (by omega) hj))
theorem pk_le {x y : Int32} {A B : Prop} (a b : Nat) (f : a ≤ b → A) (g : b < a → B) (hx : x = nI a := by rfl) (hy : y = nI b := by rfl) (ha : a < 2 ^ 31 := by omega) (hb : b < 2 ^ 31 := by omega) : (x ≤ y → A) ∧ (¬ x ≤ y → B) := by
  subst hx hy
  rw [nI_leI ha hb]
  exact ⟨f, fun z => g (by omega)⟩
theorem pk_lt {x y : Int32} {A B : Prop} (a b : Nat) (f : a < b → A) (g : b ≤ a → B) (hx : x = nI a := by rfl) (hy : y = nI b := by rfl) (ha : a < 2 ^ 31 := by omega) (hb : b < 2 ^ 31 := by omega) : (x < y → A) ∧ (¬ x < y → B) := by
  subst hx hy
  rw [nI_ltI ha hb]
  exact ⟨f, fun z => g (by omega)⟩
theorem pk_eq {x y : Int32} {A B : Prop} (a b : Nat) (f : a = b → A) (g : a ≠ b → B) (hx : x = nI a := by rfl) (hy : y = nI b := by rfl) (ha : a < 2 ^ 31 := by omega) (hb : b < 2 ^ 31 := by omega) : (x = y → A) ∧ (¬ x = y → B) := by
  subst hx hy
  rw [nI_eq ha hb]
  exact ⟨f, g⟩
theorem pk_in {x : Int32} (n N : Nat) (h : n < N) (hx : x = nI n := by rfl) (hN : N < 2 ^ 31 := by omega) : vp_in x N := by
  subst hx
  exact vp_in_nI h hN
theorem pk_cl {x : Int32} (n : Nat) (hx : x = nI n := by rfl) (h : n < 2 ^ 31 := by omega) : x.toNatClampNeg = n := by
  subst hx
  exact nI_clamp h
theorem sf_b1 : ∀ k, k < 32 → bt 1 k = decide (k = 0) := by decide +kernel
theorem sf_one (m : Nat) (hm : m < 32) (i : Nat) : bt ((1 : Int32) <<< (nI m &&& 31)) i = decide (i = m) := by
  rcases Nat.lt_or_ge i 32 with h | h
  · rw [b_shl m hm 1 h, sf_b1 (i - m) (by omega)]
    by_cases e : m ≤ i
    · by_cases e2 : i = m
      · rw [decide_eq_true e, decide_eq_true e2, decide_eq_true (by omega)]; rfl
      · rw [decide_eq_true e, decide_eq_false e2, decide_eq_false (by omega)]; rfl
    · rw [decide_eq_false e, decide_eq_false (p := i = m) (by omega)]; rfl
  · rw [b_big h, decide_eq_false (by omega)]
theorem sf_oneI (m : Nat) (hm : m < 32) (i : Nat) : bt ((1 : Int32) <<< (nI m &&& 31)) i = true ↔ i = m := by
  rw [sf_one m hm i]; exact decide_eq_true_iff
theorem sf_andn (x y : Int32) (i : Nat) : bt (x &&& (y ^^^ (-1))) i = (bt x i && !bt y i) := by
  rw [b_and, b_xor]
  rcases Nat.lt_or_ge i 32 with h | h
  · rw [b_m1 i h]; cases bt x i <;> cases bt y i <;> rfl
  · rw [b_big (x := x) h]; rfl
theorem sf_andnI (x y : Int32) (i : Nat) : bt (x &&& (y ^^^ (-1))) i = true ↔ bt x i = true ∧ ¬ bt y i = true := by
  rw [sf_andn]; cases bt x i <;> cases bt y i <;> decide
theorem sf_orI (x y : Int32) (i : Nat) : bt (x ||| y) i = true ↔ bt x i = true ∨ bt y i = true := by
  rw [b_or]; cases bt x i <;> cases bt y i <;> decide
theorem sf_andI (x y : Int32) (i : Nat) : bt (x &&& y) i = true ↔ bt x i = true ∧ bt y i = true := by
  rw [b_and]; cases bt x i <;> cases bt y i <;> decide
theorem sf_0I (i : Nat) : ¬ bt 0 i = true := by rw [b_0]; decide
theorem sf_bitv (x : Int32) (m : Nat) (hm : m < 32) : (x >>> (nI m &&& 31)) &&& 1 = if bt x m = true then 1 else 0 := by
  apply b_ext
  intro i hi
  rw [b_and, sf_b1 i hi]
  by_cases e : i = 0
  · subst e
    rw [b_sshr m hm x (by omega), if_pos (by omega)]
    show (bt x m && decide (0 = 0)) = _
    cases bt x m <;> decide
  · rw [decide_eq_false e, Bool.and_false]
    by_cases h : bt x m = true
    · rw [if_pos h, sf_b1 i hi, decide_eq_false e]
    · rw [if_neg h, b_0]
theorem sf_has (x : Int32) (m : Nat) (hm : m < 32) : (x >>> (nI m &&& 31)) &&& 1 = 1 ↔ bt x m = true := by
  rw [sf_bitv x m hm]
  by_cases h : bt x m = true
  · rw [if_pos h]; exact ⟨fun _ => h, fun _ => rfl⟩
  · rw [if_neg h]; exact ⟨fun e => absurd e (by decide), fun e => absurd e h⟩
theorem sf_has0 (x : Int32) (m : Nat) (hm : m < 32) : (x >>> (nI m &&& 31)) &&& 1 = 0 ↔ ¬ bt x m = true := by
  rw [sf_bitv x m hm]
  by_cases h : bt x m = true
  · rw [if_pos h]; exact ⟨fun e => absurd e (by decide), fun e => absurd h e⟩
  · rw [if_neg h]; exact ⟨fun _ => h, fun _ => rfl⟩
theorem sf_ext {x y : Int32} (h : ∀ i, bt x i = true ↔ bt y i = true) : x = y := by
  apply b_ext
  intro i _
  exact Bool.eq_iff_iff.mpr (h i)
theorem sf_ne {x y : Int32} (h : ¬ x = y) (hs : ∀ i, bt x i = true → bt y i = true) : ∃ i, bt y i = true ∧ ¬ bt x i = true := by
  apply Classical.byContradiction
  intro hn
  apply h
  apply sf_ext
  intro i
  refine ⟨hs i, fun hy => ?_⟩
  apply Classical.byContradiction
  intro hx
  exact hn ⟨i, hy, hx⟩
theorem sf_nz {x : Int32} : ¬ x = 0 ↔ ∃ i, bt x i = true := by
  constructor
  · intro h
    obtain ⟨i, hi, _⟩ := sf_ne (x := 0) (y := x) (fun e => h e.symm) (fun i hi => absurd hi (sf_0I i))
    exact ⟨i, hi⟩
  · intro ⟨i, hi⟩ e
    rw [e] at hi
    exact sf_0I i hi
theorem sf_two (r : Nat) : bt (2 : Int32) r = true ↔ r = 1 := by
  rw [show (2 : Int32) = (1 : Int32) <<< (nI 1 &&& 31) from by decide]
  exact sf_oneI 1 (by omega) r
theorem sf_uno (r : Nat) : bt (1 : Int32) r = true ↔ r = 0 := by
  rw [show (1 : Int32) = (1 : Int32) <<< (nI 0 &&& 31) from by decide]
  exact sf_oneI 0 (by omega) r
