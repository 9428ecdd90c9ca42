section
def bt (x : Int32) (i : Nat) : Bool := x.toBitVec.getLsbD i
theorem b_ext {x y : Int32} (h : ∀ i, i < 32 → bt x i = bt y i) : x = y := Int32.toBitVec_inj.mp (BitVec.eq_of_getLsbD_eq (fun i hi => h i hi))
theorem b_or (x y : Int32) (i : Nat) : bt (x ||| y) i = (bt x i || bt y i) := by unfold bt; rw [Int32.toBitVec_or, BitVec.getLsbD_or]
theorem b_and (x y : Int32) (i : Nat) : bt (x &&& y) i = (bt x i && bt y i) := by unfold bt; rw [Int32.toBitVec_and, BitVec.getLsbD_and]
theorem b_xor (x y : Int32) (i : Nat) : bt (x ^^^ y) i = (bt x i ^^ bt y i) := by unfold bt; rw [Int32.toBitVec_xor, BitVec.getLsbD_xor]
theorem b_big {x : Int32} {i : Nat} (h : 32 ≤ i) : bt x i = false := BitVec.getLsbD_of_ge _ _ h
theorem b_m1 : ∀ i, i < 32 → bt (-1) i = true := by decide +kernel
theorem b_0 (i : Nat) : bt 0 i = false := BitVec.getLsbD_zero
theorem s_l : ∀ n, n < 32 → ((nI n &&& 31).toBitVec.smod 32).toNat = n := by decide +kernel
theorem b_shl (n : Nat) (hn : n < 32) (x : Int32) {i : Nat} (hi : i < 32) : bt (x <<< (nI n &&& 31)) i = (decide (n ≤ i) && bt x (i - n)) := by
  unfold bt
  rw [Int32.toBitVec_shiftLeft]
  show (x.toBitVec <<< ((nI n &&& 31).toBitVec.smod 32).toNat).getLsbD i = _
  rw [s_l n hn, BitVec.getLsbD_shiftLeft]
  rcases Nat.lt_or_ge i n with h | h
  · simp [h, Nat.not_le.mpr h]
  · simp [hi, h, Nat.not_lt.mpr h]
theorem b_sshr (n : Nat) (hn : n < 32) (x : Int32) {i : Nat} (hi : i < 32) : bt (x >>> (nI n &&& 31)) i = if n + i < 32 then bt x (n + i) else bt x 31 := by
  unfold bt
  rw [Int32.toBitVec_shiftRight]
  show (x.toBitVec.sshiftRight ((nI n &&& 31).toBitVec.smod 32).toNat).getLsbD i = _
  rw [s_l n hn, BitVec.getLsbD_sshiftRight, BitVec.msb_eq_getLsbD_last]
  simp [hi]
theorem pk_us {f : Nat → Int32} {k : Nat} {x : Int32} : upd f k x k = x := if_pos rfl
theorem pk_un {f : Nat → Int32} {k j : Nat} {x : Int32} (h : j ≠ k) : upd f k x j = f j := if_neg h
theorem pk_sub {a b : Nat} (h : b ≤ a) : nI a - nI b = nI (a - b) := by
  obtain ⟨c, rfl⟩ : ∃ c, a = c + b := ⟨a - b, by omega⟩
  rw [← nI_add, Int32.add_sub_cancel, Nat.add_sub_cancel]
theorem pk_m1 (n : Nat) : nI (n + 1) + (-1) = nI n := by
  rw [← nI_1, Int32.add_assoc, show (1 : Int32) + (-1) = 0 from rfl, Int32.add_zero]
theorem pk_mul (a b : Nat) : nI a * nI b = nI (a * b) := (Int32.ofNat_mul a b).symm
theorem pk_ix (x : Int32) {n : Nat} (hn : n < 2 ^ 31) : x < 0 ∨ nI n ≤ x ∨ ∃ j : Nat, j < n ∧ x = nI j := by
  by_cases h : x < 0
  · exact Or.inl h
  · obtain ⟨j, hj, rfl⟩ := nI_of h
    by_cases h2 : j < n
    · exact Or.inr (Or.inr ⟨j, h2, rfl⟩)
    · exact Or.inr (Or.inl (nI_le (by omega) hj))
theorem pk_le {x y : Int32} {A B : Prop} (a b : Nat) (f : a ≤ b → A) (g : b < a → B) (hx : x = nI a := by rfl) (hy : y = nI b := by rfl) (ha : a < 2 ^ 31 := by omega) (hb : b < 2 ^ 31 := by omega) : (x ≤ y → A) ∧ (¬ x ≤ y → B) := by
  subst hx hy
  rw [nI_leI ha hb]
  exact ⟨f, fun z => g (by omega)⟩
theorem pk_lt {x y : Int32} {A B : Prop} (a b : Nat) (f : a < b → A) (g : b ≤ a → B) (hx : x = nI a := by rfl) (hy : y = nI b := by rfl) (ha : a < 2 ^ 31 := by omega) (hb : b < 2 ^ 31 := by omega) : (x < y → A) ∧ (¬ x < y → B) := by
  subst hx hy
  rw [nI_ltI ha hb]
  exact ⟨f, fun z => g (by omega)⟩
theorem pk_eq {x y : Int32} {A B : Prop} (a b : Nat) (f : a = b → A) (g : a ≠ b → B) (hx : x = nI a := by rfl) (hy : y = nI b := by rfl) (ha : a < 2 ^ 31 := by omega) (hb : b < 2 ^ 31 := by omega) : (x = y → A) ∧ (¬ x = y → B) := by
  subst hx hy
  rw [nI_eq ha hb]
  exact ⟨f, g⟩
theorem pk_in {x : Int32} (n N : Nat) (h : n < N) (hx : x = nI n := by rfl) (hN : N < 2 ^ 31 := by omega) : vp_in x N := by
  subst hx
  exact vp_in_nI h hN
theorem pk_cl {x : Int32} (n : Nat) (hx : x = nI n := by rfl) (h : n < 2 ^ 31 := by omega) : x.toNatClampNeg = n := by
  subst hx
  exact nI_clamp h
theorem sf_b1 : ∀ k, k < 32 → bt 1 k = decide (k = 0) := by decide +kernel
theorem sf_one (m : Nat) (hm : m < 32) (i : Nat) : bt ((1 : Int32) <<< (nI m &&& 31)) i = decide (i = m) := by
  rcases Nat.lt_or_ge i 32 with h | h
  · rw [b_shl m hm 1 h, sf_b1 (i - m) (by omega)]
    by_cases e : m ≤ i
    · by_cases e2 : i = m
      · rw [decide_eq_true e, decide_eq_true e2, decide_eq_true (by omega)]; rfl
      · rw [decide_eq_true e, decide_eq_false e2, decide_eq_false (by omega)]; rfl
    · rw [decide_eq_false e, decide_eq_false (p := i = m) (by omega)]; rfl
  · rw [b_big h, decide_eq_false (by omega)]
theorem sf_oneI (m : Nat) (hm : m < 32) (i : Nat) : bt ((1 : Int32) <<< (nI m &&& 31)) i = true ↔ i = m := by
  rw [sf_one m hm i]; exact decide_eq_true_iff
theorem sf_andn (x y : Int32) (i : Nat) : bt (x &&& (y ^^^ (-1))) i = (bt x i && !bt y i) := by
  rw [b_and, b_xor]
  rcases Nat.lt_or_ge i 32 with h | h
  · rw [b_m1 i h]; cases bt x i <;> cases bt y i <;> rfl
  · rw [b_big (x := x) h]; rfl
theorem sf_andnI (x y : Int32) (i : Nat) : bt (x &&& (y ^^^ (-1))) i = true ↔ bt x i = true ∧ ¬ bt y i = true := by
  rw [sf_andn]; cases bt x i <;> cases bt y i <;> decide
theorem sf_orI (x y : Int32) (i : Nat) : bt (x ||| y) i = true ↔ bt x i = true ∨ bt y i = true := by
  rw [b_or]; cases bt x i <;> cases bt y i <;> decide
theorem sf_andI (x y : Int32) (i : Nat) : bt (x &&& y) i = true ↔ bt x i = true ∧ bt y i = true := by
  rw [b_and]; cases bt x i <;> cases bt y i <;> decide
theorem sf_0I (i : Nat) : ¬ bt 0 i = true := by rw [b_0]; decide
theorem sf_bitv (x : Int32) (m : Nat) (hm : m < 32) : (x >>> (nI m &&& 31)) &&& 1 = if bt x m = true then 1 else 0 := by
  apply b_ext
  intro i hi
  rw [b_and, sf_b1 i hi]
  by_cases e : i = 0
  · subst e
    rw [b_sshr m hm x (by omega), if_pos (by omega)]
    show (bt x m && decide (0 = 0)) = _
    cases bt x m <;> decide
  · rw [decide_eq_false e, Bool.and_false]
    by_cases h : bt x m = true
    · rw [if_pos h, sf_b1 i hi, decide_eq_false e]
    · rw [if_neg h, b_0]
theorem sf_has (x : Int32) (m : Nat) (hm : m < 32) : (x >>> (nI m &&& 31)) &&& 1 = 1 ↔ bt x m = true := by
  rw [sf_bitv x m hm]
  by_cases h : bt x m = true
  · rw [if_pos h]; exact ⟨fun _ => h, fun _ => rfl⟩
  · rw [if_neg h]; exact ⟨fun e => absurd e (by decide), fun e => absurd e h⟩
theorem sf_has0 (x : Int32) (m : Nat) (hm : m < 32) : (x >>> (nI m &&& 31)) &&& 1 = 0 ↔ ¬ bt x m = true := by
  rw [sf_bitv x m hm]
  by_cases h : bt x m = true
  · rw [if_pos h]; exact ⟨fun e => absurd e (by decide), fun e => absurd h e⟩
  · rw [if_neg h]; exact ⟨fun _ => h, fun _ => rfl⟩
theorem sf_ext {x y : Int32} (h : ∀ i, bt x i = true ↔ bt y i = true) : x = y := by
  apply b_ext
  intro i _
  exact Bool.eq_iff_iff.mpr (h i)
theorem sf_ne {x y : Int32} (h : ¬ x = y) (hs : ∀ i, bt x i = true → bt y i = true) : ∃ i, bt y i = true ∧ ¬ bt x i = true := by
  apply Classical.byContradiction
  intro hn
  apply h
  apply sf_ext
  intro i
  refine ⟨hs i, fun hy => ?_⟩
  apply Classical.byContradiction
  intro hx
  exact hn ⟨i, hy, hx⟩
theorem sf_nz {x : Int32} : ¬ x = 0 ↔ ∃ i, bt x i = true := by
  constructor
  · intro h
    obtain ⟨i, hi, _⟩ := sf_ne (x := 0) (y := x) (fun e => h e.symm) (fun i hi => absurd hi (sf_0I i))
    exact ⟨i, hi⟩
  · intro ⟨i, hi⟩ e
    rw [e] at hi
    exact sf_0I i hi
theorem sf_two (r : Nat) : bt (2 : Int32) r = true ↔ r = 1 := by
  rw [show (2 : Int32) = (1 : Int32) <<< (nI 1 &&& 31) from by decide]
  exact sf_oneI 1 (by omega) r
theorem sf_uno (r : Nat) : bt (1 : Int32) r = true ↔ r = 0 := by
  rw [show (1 : Int32) = (1 : Int32) <<< (nI 0 &&& 31) from by decide]
  exact sf_oneI 0 (by omega) r
end
section
/-! counting members below m -/
def sf_c (f : Nat → Bool) : Nat → Nat
  | 0 => 0
  | m + 1 => sf_c f m + (if f m = true then 1 else 0)
theorem sf_c_s (f : Nat → Bool) (m : Nat) : sf_c f (m + 1) = sf_c f m + (if f m = true then 1 else 0) := rfl
theorem sf_c_le (f : Nat → Bool) : ∀ m, sf_c f m ≤ m := by
  intro m
  induction m with
  | zero => exact Nat.le_refl 0
  | succ m ih => rw [sf_c_s]; split <;> omega
theorem sf_c_mono {f g : Nat → Bool} : ∀ m, (∀ i, i < m → f i = true → g i = true) → sf_c f m ≤ sf_c g m := by
  intro m
  induction m with
  | zero => intro _; exact Nat.le_refl 0
  | succ m ih =>
    intro h
    have h1 := ih (fun i hi => h i (by omega))
    have h2 := h m (by omega)
    rw [sf_c_s, sf_c_s]
    by_cases hf : f m = true
    · rw [if_pos hf, if_pos (h2 hf)]; omega
    · rw [if_neg hf]; omega
theorem sf_c_lt {f g : Nat → Bool} {a : Nat} (hg : g a = true) (hf : ¬ f a = true) : ∀ m, a < m → (∀ i, i < m → f i = true → g i = true) → sf_c f m < sf_c g m := by
  intro m
  induction m with
  | zero => intro h; omega
  | succ m ih =>
    intro ha h
    have h2 := h m (by omega)
    rw [sf_c_s, sf_c_s]
    by_cases e : a = m
    · subst e
      have h1 := sf_c_mono a (fun i hi => h i (by omega))
      rw [if_neg hf, if_pos hg]; omega
    · have h1 := ih (by omega) (fun i hi => h i (by omega))
      by_cases hfm : f m = true
      · rw [if_pos hfm, if_pos (h2 hfm)]; omega
      · rw [if_neg hfm]; omega
theorem sf_c_pos {f : Nat → Bool} {a : Nat} (ha : f a = true) : ∀ m, a < m → 1 ≤ sf_c f m := by
  intro m
  induction m with
  | zero => intro h; omega
  | succ m ih =>
    intro h
    rw [sf_c_s]
    by_cases e : a = m
    · subst e; rw [if_pos ha]; omega
    · have := ih (by omega); omega
theorem sf_c_full {f : Nat → Bool} : ∀ m, m ≤ sf_c f m → ∀ i, i < m → f i = true := by
  intro m
  induction m with
  | zero => intro _ i hi; omega
  | succ m ih =>
    intro h i hi
    rw [sf_c_s] at h
    have h1 := sf_c_le f m
    by_cases hf : f m = true
    · rw [if_pos hf] at h
      by_cases e : i = m
      · subst e; exact hf
      · exact ih (by omega) i (by omega)
    · rw [if_neg hf] at h; omega

/-! the least set from S, by steps of nm, without B -/
def sf_R (n : Nat) (nm : Nat → Int32) (S B : Nat → Prop) (j : Nat) : Prop :=
  ∀ C : Nat → Prop, (∀ i, S i → ¬ B i → C i) → (∀ i k, C i → i < n → bt (nm i) k = true → ¬ B k → C k) → C j
theorem sf_R_base {n : Nat} {nm : Nat → Int32} {S B : Nat → Prop} {i : Nat} (h : S i) (hb : ¬ B i) : sf_R n nm S B i :=
  fun _ h0 _ => h0 i h hb
theorem sf_R_step {n : Nat} {nm : Nat → Int32} {S B : Nat → Prop} {i k : Nat} (h : sf_R n nm S B i) (hi : i < n) (hk : bt (nm i) k = true) (hb : ¬ B k) : sf_R n nm S B k :=
  fun C h0 hs => hs i k (h C h0 hs) hi hk hb
theorem sf_R_not {n : Nat} {nm : Nat → Int32} {S B : Nat → Prop} {j : Nat} (h : sf_R n nm S B j) : ¬ B j :=
  h (fun j => ¬ B j) (fun _ _ hb => hb) (fun _ _ _ _ _ hb => hb)
def sf_ok (n : Nat) (nm : Nat → Int32) : Prop := ∀ i, i < n → ∀ j, bt (nm i) j = true → j ≤ n
theorem sf_R_le {n : Nat} {nm : Nat → Int32} {S B : Nat → Prop} {j : Nat} (hn : sf_ok n nm) (hS : ∀ i, S i → i ≤ n) (h : sf_R n nm S B j) : j ≤ n :=
  h (fun j => j ≤ n) (fun i hi _ => hS i hi) (fun i k _ hi hk _ => hn i hi k hk)
theorem sf_R_mono {n : Nat} {nm : Nat → Int32} {S B S' B' : Nat → Prop} {j : Nat} (hS : ∀ i, S i → ¬ B i → sf_R n nm S' B' i) (hB : ∀ i, B' i → B i) (h : sf_R n nm S B j) : sf_R n nm S' B' j :=
  h (fun j => sf_R n nm S' B' j) hS (fun _ _ hi hn hk hb => sf_R_step hi hn hk (fun z => hb (hB _ z)))
theorem sf_R_congr {n : Nat} {nm : Nat → Int32} {S B S' B' : Nat → Prop} (hS : ∀ i, S i ↔ S' i) (hB : ∀ i, B i ↔ B' i) (j : Nat) : sf_R n nm S B j ↔ sf_R n nm S' B' j :=
  ⟨sf_R_mono (fun i h hb => sf_R_base ((hS i).mp h) (fun z => hb ((hB i).mpr z))) (fun i z => (hB i).mpr z),
   sf_R_mono (fun i h hb => sf_R_base ((hS i).mpr h) (fun z => hb ((hB i).mp z))) (fun i z => (hB i).mp z)⟩
/-- the places behind b: its next ones are the starts -/
def sf_B (nm : Nat → Int32) (b j : Nat) : Prop := bt (nm b) j = true
theorem sf_R_split {n : Nat} {nm : Nat → Int32} {B : Nat → Prop} {b : Nat} (hb : b < n) (hB : ¬ B b) (j : Nat) : sf_R n nm (fun i => i = b) B j ↔ j = b ∨ sf_R n nm (sf_B nm b) B j := by
  constructor
  · intro h
    refine h (fun j => j = b ∨ sf_R n nm (sf_B nm b) B j) (fun i hi _ => Or.inl hi) (fun i k hi hn hk hbk => ?_)
    rcases hi with e | hi
    · subst e
      exact Or.inr (sf_R_base hk hbk)
    · exact Or.inr (sf_R_step hi hn hk hbk)
  · intro h
    have h0 : sf_R n nm (fun i => i = b) B b := sf_R_base rfl hB
    rcases h with e | h
    · rw [e]; exact h0
    · exact sf_R_mono (fun i hi hbi => sf_R_step h0 hb hi hbi) (fun _ z => z) h

/-! the component's rounds: k rounds done -/
def sf_cl (n : Nat) (nm : Nat → Int32) (B : Nat → Prop) (z : Int32) : Prop := ∀ i k, bt z i = true → i < n → bt (nm i) k = true → ¬ B k → bt z k = true
def sf_I (n : Nat) (nm : Nat → Int32) (S B : Nat → Prop) (k : Nat) (z : Int32) : Prop :=
  (∀ j, bt z j = true → sf_R n nm S B j) ∧ (∀ j, S j → ¬ B j → bt z j = true) ∧ (sf_cl n nm B z ∨ k + 1 ≤ sf_c (bt z) (n + 1))
theorem sf_I_0 {n : Nat} {nm : Nat → Int32} {s b : Int32} (hS : ∀ i, bt s i = true → i ≤ n) : sf_I n nm (fun i => bt s i = true) (fun i => bt b i = true) 0 (s &&& (b ^^^ (-1))) := by
  refine ⟨fun j h => ?_, fun j h hb => (sf_andnI s b j).mpr ⟨h, hb⟩, ?_⟩
  · have h' := (sf_andnI s b j).mp h
    exact sf_R_base h'.1 h'.2
  · by_cases e : s &&& (b ^^^ (-1)) = 0
    · left
      intro i k hi
      rw [e] at hi
      exact absurd hi (sf_0I i)
    · right
      obtain ⟨i, hi⟩ := sf_nz.mp e
      exact sf_c_pos hi (n + 1) (by have := hS i ((sf_andnI s b i).mp hi).1; omega)
theorem sf_I_s {n : Nat} {nm : Nat → Int32} {S : Nat → Prop} {b z y : Int32} {k : Nat} (hn : sf_ok n nm) (h : sf_I n nm S (fun i => bt b i = true) k z)
    (hy : ∀ j, bt y j = true ↔ ∃ i, i < n ∧ bt z i = true ∧ bt (nm i) j = true) : sf_I n nm S (fun i => bt b i = true) (k + 1) (z ||| (y &&& (b ^^^ (-1)))) := by
  obtain ⟨h1, h2, h3⟩ := h
  have hb : ∀ j, bt (z ||| (y &&& (b ^^^ (-1)))) j = true ↔ bt z j = true ∨ (bt y j = true ∧ ¬ bt b j = true) := fun j => by rw [sf_orI, sf_andnI]
  refine ⟨fun j hj => ?_, fun j hj hbj => (hb j).mpr (Or.inl (h2 j hj hbj)), ?_⟩
  · rcases (hb j).mp hj with hj | ⟨hj, hbj⟩
    · exact h1 j hj
    · obtain ⟨i, hi, hz, hk⟩ := (hy j).mp hj
      exact sf_R_step (h1 i hz) hi hk hbj
  · by_cases e : z ||| (y &&& (b ^^^ (-1))) = z
    · left
      rw [e]
      intro i k hi hin hk hbk
      rw [← e]
      exact (hb k).mpr (Or.inr ⟨(hy k).mpr ⟨i, hin, hi, hk⟩, hbk⟩)
    · obtain ⟨j, hj, hz⟩ := sf_ne (fun e' => e e'.symm) (fun i hi => (hb i).mpr (Or.inl hi))
      rcases h3 with h3 | h3
      · exfalso
        rcases (hb j).mp hj with hj | ⟨hj, hbj⟩
        · exact hz hj
        · obtain ⟨i, hi, hzi, hk⟩ := (hy j).mp hj
          exact hz (h3 i j hzi hi hk hbj)
      · right
        have hjn : j < n + 1 := by
          rcases (hb j).mp hj with hj | ⟨hj, hbj⟩
          · exact absurd hj hz
          · obtain ⟨i, hi, hzi, hk⟩ := (hy j).mp hj
            have := hn i hi j hk
            omega
        have := sf_c_lt hj hz (n + 1) hjn (fun i _ hi => (hb i).mpr (Or.inl hi))
        omega
theorem sf_I_n {n : Nat} {nm : Nat → Int32} {S B : Nat → Prop} {z : Int32} (hn : sf_ok n nm) (h : sf_I n nm S B n z) (j : Nat) : bt z j = true ↔ sf_R n nm S B j := by
  obtain ⟨h1, h2, h3⟩ := h
  refine ⟨h1 j, fun h => ?_⟩
  refine h (fun j => bt z j = true) h2 ?_
  rcases h3 with h3 | h3
  · exact fun i k hi hin hk hb => h3 i k hi hin hk hb
  · intro i k _ hin hk _
    exact sf_c_full (n + 1) h3 k (by have := hn i hin k hk; omega)

/-! the reference's rounds -/
def sf_J (n : Nat) (nm : Nat → Int32) (S B : Nat → Prop) (z y : Int32) : Prop :=
  (∀ j, bt z j = true → sf_R n nm S B j) ∧ (∀ j, S j → ¬ B j → bt z j = true) ∧ (∀ j, bt y j = true → bt z j = true) ∧ (z = y → sf_cl n nm B z)
theorem sf_J_0 {n : Nat} {nm : Nat → Int32} {s b : Int32} : sf_J n nm (fun i => bt s i = true) (fun i => bt b i = true) (s &&& (b ^^^ (-1))) 0 := by
  refine ⟨fun j h => ?_, fun j h hb => (sf_andnI s b j).mpr ⟨h, hb⟩, fun j h => absurd h (sf_0I j), fun e i k hi => ?_⟩
  · have h' := (sf_andnI s b j).mp h
    exact sf_R_base h'.1 h'.2
  · rw [e] at hi
    exact absurd hi (sf_0I i)
def sf_J1 (n : Nat) (nm : Nat → Int32) (S B : Nat → Prop) (y : Int32) (m : Nat) (z : Int32) : Prop :=
  (∀ j, bt z j = true → sf_R n nm S B j) ∧ (∀ j, S j → ¬ B j → bt z j = true) ∧ (∀ j, bt y j = true → bt z j = true) ∧ (∀ i k, i < m → bt y i = true → bt (nm i) k = true → ¬ B k → bt z k = true)
theorem sf_J1_0 {n : Nat} {nm : Nat → Int32} {S B : Nat → Prop} {z y : Int32} (h : sf_J n nm S B z y) : sf_J1 n nm S B z 0 z :=
  ⟨h.1, h.2.1, fun _ h => h, fun _ _ hi => absurd hi (by omega)⟩
theorem sf_J1_t {n : Nat} {nm : Nat → Int32} {S : Nat → Prop} {b y z : Int32} {m : Nat} (hm : m < n) (h : sf_J1 n nm S (fun i => bt b i = true) y m z) (hz : bt z m = true) :
    sf_J1 n nm S (fun i => bt b i = true) y (m + 1) (z ||| (nm m &&& (b ^^^ (-1)))) := by
  obtain ⟨h1, h2, h3, h4⟩ := h
  have hb : ∀ j, bt (z ||| (nm m &&& (b ^^^ (-1)))) j = true ↔ bt z j = true ∨ (bt (nm m) j = true ∧ ¬ bt b j = true) := fun j => by rw [sf_orI, sf_andnI]
  refine ⟨fun j hj => ?_, fun j hj hbj => (hb j).mpr (Or.inl (h2 j hj hbj)), fun j hj => (hb j).mpr (Or.inl (h3 j hj)), fun i k hi hy hk hbk => ?_⟩
  · rcases (hb j).mp hj with hj | ⟨hj, hbj⟩
    · exact h1 j hj
    · exact sf_R_step (h1 m hz) hm hj hbj
  · by_cases e : i = m
    · subst e
      exact (hb k).mpr (Or.inr ⟨hk, hbk⟩)
    · exact (hb k).mpr (Or.inl (h4 i k (by omega) hy hk hbk))
theorem sf_J1_f {n : Nat} {nm : Nat → Int32} {S B : Nat → Prop} {y z : Int32} {m : Nat} (h : sf_J1 n nm S B y m z) (hz : ¬ bt z m = true) : sf_J1 n nm S B y (m + 1) z := by
  obtain ⟨h1, h2, h3, h4⟩ := h
  refine ⟨h1, h2, h3, fun i k hi hy hk hbk => ?_⟩
  by_cases e : i = m
  · subst e
    exact absurd (h3 i hy) hz
  · exact h4 i k (by omega) hy hk hbk
theorem sf_J1_n {n : Nat} {nm : Nat → Int32} {S B : Nat → Prop} {y z : Int32} (h : sf_J1 n nm S B y n z) : sf_J n nm S B z y :=
  ⟨h.1, h.2.1, h.2.2.1, fun e i k hi hin hk hb => h.2.2.2 i k hin (by rw [← e]; exact hi) hk hb⟩
theorem sf_J_lt {n : Nat} {nm : Nat → Int32} {S B : Nat → Prop} {z y : Int32} (hn : sf_ok n nm) (hS : ∀ i, S i → i ≤ n) (h : sf_J n nm S B z y) (e : ¬ z = y) : n + 1 - sf_c (bt z) (n + 1) < n + 1 - sf_c (bt y) (n + 1) := by
  obtain ⟨j, hj, hz⟩ := sf_ne (fun e' => e e'.symm) h.2.2.1
  have hjn := sf_R_le hn hS (h.1 j hj)
  have h1 := sf_c_lt hj hz (n + 1) (by omega) (fun i _ hi => h.2.2.1 i hi)
  have h2 := sf_c_le (bt z) (n + 1)
  omega
theorem sf_J_e {n : Nat} {nm : Nat → Int32} {S B : Nat → Prop} {z : Int32} (h : sf_J n nm S B z z) (j : Nat) : bt z j = true ↔ sf_R n nm S B j :=
  ⟨h.1 j, fun hr => hr (fun j => bt z j = true) h.2.1 (fun i k hi hin hk hb => h.2.2.2 rfl i k hi hin hk hb)⟩

/-! come to, meeting places, under -/
def sf_no (_ : Nat) : Prop := False
def sf_come (n : Nat) (nm : Nat → Int32) (i : Nat) : Prop := sf_R n nm (fun j => j = 0) sf_no i
def sf_M (n : Nat) (nm : Nat → Int32) (b q : Nat) : Prop :=
  sf_R n nm (fun j => j = b) sf_no n ∧ q ≤ n ∧ q ≠ b ∧ ¬ sf_R n nm (fun j => j = b) (fun j => j = q) n
def sf_U (n : Nat) (nm : Nat → Int32) (b j : Nat) : Prop := sf_R n nm (sf_B nm b) (sf_M n nm b) j
theorem sf_come_Y {n : Nat} {nm : Nat → Int32} (hn : 0 < n) (i : Nat) : sf_come n nm i ↔ i = 0 ∨ sf_R n nm (sf_B nm 0) sf_no i := sf_R_split hn (fun z => z) i
theorem sf_come_0 {n : Nat} {nm : Nat → Int32} : sf_come n nm 0 := sf_R_base rfl (fun z => z)
theorem sf_M_Y0 {n : Nat} {nm : Nat → Int32} {b : Nat} (hb : b < n) : sf_R n nm (fun j => j = b) sf_no n ↔ sf_R n nm (sf_B nm b) sf_no n := by
  rw [sf_R_split hb (fun z => z)]
  exact ⟨fun h => h.resolve_left (by omega), Or.inr⟩
theorem sf_M_Y1 {n : Nat} {nm : Nat → Int32} {b q : Nat} (hb : b < n) (hq : q ≠ b) : sf_R n nm (fun j => j = b) (fun j => j = q) n ↔ sf_R n nm (sf_B nm b) (fun j => j = q) n := by
  rw [sf_R_split hb (fun z => hq z.symm)]
  exact ⟨fun h => h.resolve_left (by omega), Or.inr⟩
theorem sf_M_n {n : Nat} {nm : Nat → Int32} {b : Nat} (hb : b < n) : sf_M n nm b n ↔ sf_R n nm (fun j => j = b) sf_no n :=
  ⟨fun h => h.1, fun h => ⟨h, Nat.le_refl n, by omega, fun z => sf_R_not z rfl⟩⟩
/-- the end is not under a place -/
theorem sf_U_n {n : Nat} {nm : Nat → Int32} {b : Nat} (hb : b < n) : ¬ sf_U n nm b n := by
  intro h
  have hM : ¬ sf_M n nm b n := sf_R_not h
  apply hM
  rw [sf_M_n hb, sf_M_Y0 hb]
  exact sf_R_mono (fun i hi _ => sf_R_base hi (fun z => z)) (fun _ z => absurd z (fun z => z)) h
/-- the first meeting place, as each side finds it -/
theorem sf_first {n : Nat} {nm : Nat → Int32} {b q : Nat} {B : Nat → Prop} (hb : b < n) (hB : ¬ B b) (hq : B q) :
    (∃ i, i < n ∧ sf_R n nm (fun j => j = b) B i ∧ bt (nm i) q = true) ↔ sf_R n nm (sf_B nm b) (fun j => B j ∧ j ≠ q) q := by
  constructor
  · intro ⟨i, hi, hr, hk⟩
    have h1 : i = b ∨ sf_R n nm (sf_B nm b) B i := (sf_R_split hb hB i).mp hr
    rcases h1 with e | h1
    · subst e
      exact sf_R_base hk (fun z => z.2 rfl)
    · exact sf_R_step (sf_R_mono (fun i hi hbi => sf_R_base hi (fun z => hbi z.1)) (fun _ z => z.1) h1) hi hk (fun z => z.2 rfl)
  · intro h
    apply Classical.byContradiction
    intro hn
    have h0 : sf_R n nm (fun j => j = b) B b := sf_R_base rfl hB
    have : sf_R n nm (fun j => j = b) B q := by
      refine h (fun j => sf_R n nm (fun j => j = b) B j) (fun i hi hbi => ?_) (fun i k hi hin hk hbk => ?_)
      · by_cases e : i = q
        · subst e
          exact absurd ⟨b, hb, h0, hi⟩ hn
        · exact sf_R_step h0 hb hi (fun z => hbi ⟨z, e⟩)
      · by_cases e : k = q
        · subst e
          exact absurd ⟨i, hin, hi, hk⟩ hn
        · exact sf_R_step hi hin hk (fun z => hbk ⟨z, e⟩)
    exact sf_R_not this hq
theorem sf_M_b {n : Nat} {nm : Nat → Int32} {b : Nat} : ¬ sf_M n nm b b := fun h => h.2.2.1 rfl
end
section
/-! the program: its instructions, where they go on -/
def sf_ch (op : Nat → Int32) (i : Nat) : Prop := op i = 0 ∨ op i = 1 ∨ op i = 2 ∨ op i = 3
def sf_val (n : Nat) (op rg ar : Nat → Int32) : Prop := ∀ i, i < n →
  (op i = 0 ∨ op i = 1 ∨ op i = 2 ∨ op i = 3 ∨ op i = 4 ∨ op i = 5 ∨ op i = 6 ∨ op i = 7) ∧
  (¬ op i = 5 → ¬ op i = 7 → ∃ r, r < 4 ∧ rg i = nI r) ∧ (sf_ch op i → ∃ x, x < 4 ∧ ar i = nI x) ∧ (op i = 5 ∨ op i = 6 → ∃ x, x ≤ 16 ∧ ar i = nI x)
def sf_n (a : Nat → Int32) (i : Nat) : Nat := (a i).toNatClampNeg
theorem sf_n_e {a : Nat → Int32} {i r : Nat} (h : a i = nI r) (hr : r < 2 ^ 31) : sf_n a i = r := by unfold sf_n; rw [h, nI_clamp hr]
def sf_tg (n : Nat) (ar : Nat → Int32) (i : Nat) : Nat := if sf_n ar i < n then sf_n ar i else n
theorem sf_tg_le (n : Nat) (ar : Nat → Int32) (i : Nat) : sf_tg n ar i ≤ n := by unfold sf_tg; split <;> omega
def sf_nm (n : Nat) (op ar : Nat → Int32) (i : Nat) : Int32 :=
  if op i = 7 then (1 : Int32) <<< (nI n &&& 31) else if op i = 5 then (1 : Int32) <<< (nI (sf_tg n ar i) &&& 31)
  else if op i = 6 then ((1 : Int32) <<< (nI (i + 1) &&& 31)) ||| ((1 : Int32) <<< (nI (sf_tg n ar i) &&& 31)) else (1 : Int32) <<< (nI (i + 1) &&& 31)
theorem sf_nm_ok {n : Nat} {op ar : Nat → Int32} (hn : n ≤ 16) : sf_ok n (sf_nm n op ar) := by
  intro i hi j hj
  have ht := sf_tg_le n ar i
  unfold sf_nm at hj
  split at hj
  · rw [sf_oneI n (by omega)] at hj; omega
  · split at hj
    · rw [sf_oneI _ (by omega)] at hj; omega
    · split at hj
      · rw [sf_orI, sf_oneI _ (by omega), sf_oneI _ (by omega)] at hj; omega
      · rw [sf_oneI _ (by omega)] at hj; omega

/-! knowing: the least relation -/
def sf_A (op rg ar : Nat → Int32) (C : Nat → Nat → Prop) (V : Nat → Prop) (i r : Nat) : Prop :=
  (¬ (sf_ch op i ∧ r = sf_n rg i) ∧ C i r) ∨
  ((sf_ch op i ∧ r = sf_n rg i) ∧ ((¬ op i = 0 ∧ C i (sf_n ar i)) ∨ ((op i = 2 ∨ op i = 3) ∧ C i (sf_n rg i)) ∨ V i))
def sf_V (n : Nat) (nm op rg : Nat → Int32) (C : Nat → Nat → Prop) (i : Nat) : Prop :=
  ∃ b, b < n ∧ sf_come n nm b ∧ op b = 6 ∧ C b (sf_n rg b) ∧ sf_U n nm b i
def sf_K (n : Nat) (nm op rg ar : Nat → Int32) (i r : Nat) : Prop :=
  ∀ C : Nat → Nat → Prop, C 0 1 → (∀ i j r, i < n → sf_come n nm i → bt (nm i) j = true → sf_A op rg ar C (sf_V n nm op rg C) i r → C j r) → C i r
theorem sf_A_mono {op rg ar : Nat → Int32} {C D : Nat → Nat → Prop} {V W : Nat → Prop} {i r : Nat} (hC : ∀ r, C i r → D i r) (hV : V i → W i) (h : sf_A op rg ar C V i r) : sf_A op rg ar D W i r := by
  rcases h with ⟨h1, h2⟩ | ⟨h1, h2⟩
  · exact Or.inl ⟨h1, hC r h2⟩
  · refine Or.inr ⟨h1, ?_⟩
    rcases h2 with ⟨a, b⟩ | ⟨a, b⟩ | h2
    · exact Or.inl ⟨a, hC _ b⟩
    · exact Or.inr (Or.inl ⟨a, hC _ b⟩)
    · exact Or.inr (Or.inr (hV h2))
theorem sf_V_mono {n : Nat} {nm op rg : Nat → Int32} {C D : Nat → Nat → Prop} {i : Nat} (hC : ∀ b r, b < n → C b r → D b r) (h : sf_V n nm op rg C i) : sf_V n nm op rg D i := by
  obtain ⟨b, h1, h2, h3, h4, h5⟩ := h
  exact ⟨b, h1, h2, h3, hC b _ h1 h4, h5⟩
theorem sf_K_0 {n : Nat} {nm op rg ar : Nat → Int32} : sf_K n nm op rg ar 0 1 := fun _ h0 _ => h0
theorem sf_K_s {n : Nat} {nm op rg ar : Nat → Int32} {i j r : Nat} (hi : i < n) (hc : sf_come n nm i) (hj : bt (nm i) j = true)
    (h : sf_A op rg ar (sf_K n nm op rg ar) (sf_V n nm op rg (sf_K n nm op rg ar)) i r) : sf_K n nm op rg ar j r :=
  fun C h0 hs => hs i j r hi hc hj (sf_A_mono (fun _ z => z C h0 hs) (sf_V_mono (fun _ _ _ z => z C h0 hs)) h)
theorem sf_K_come {n : Nat} {nm op rg ar : Nat → Int32} {i r : Nat} (h : sf_K n nm op rg ar i r) : sf_come n nm i :=
  h (fun i _ => sf_come n nm i) sf_come_0 (fun _ _ _ hi hc hj _ => sf_R_step hc hi hj (fun z => z))
theorem sf_K_4 {n : Nat} {nm op rg ar : Nat → Int32} (hv : sf_val n op rg ar) {i r : Nat} (h : sf_K n nm op rg ar i r) : r < 4 := by
  refine h (fun _ r => r < 4) (by omega) (fun i j r hi _ _ hA => ?_)
  rcases hA with ⟨_, h2⟩ | ⟨⟨hc, h1⟩, _⟩
  · exact h2
  · obtain ⟨x, hx, e⟩ := (hv i hi).2.1 (by rcases hc with e | e | e | e <;> rw [e] <;> decide) (by rcases hc with e | e | e | e <;> rw [e] <;> decide)
    rw [h1, sf_n_e e (by omega)]
    exact hx
/-- a table of known registers as a relation -/
def sf_t (K : Nat → Int32) (i r : Nat) : Prop := bt (K i) r = true
theorem sf_K_top {n : Nat} {nm op rg ar K : Nat → Int32} (h0 : sf_t K 0 1)
    (hcl : ∀ i j r, i < n → j < n → sf_come n nm i → bt (nm i) j = true → sf_A op rg ar (sf_t K) (sf_V n nm op rg (sf_t K)) i r → sf_t K j r)
    {i r : Nat} (hi : i < n) (h : sf_K n nm op rg ar i r) : sf_t K i r := by
  refine h (fun i r => i < n → sf_t K i r) (fun _ => h0) (fun i j r hin hc hj hA hjn => ?_) hi
  exact hcl i j r hin hjn hc hj (sf_A_mono (fun _ z => z hin) (sf_V_mono (fun b _ hb z => z hb)) hA)

/-! how many pairs -/
def sf_f (K : Nat → Int32) (t : Nat) : Bool := bt (K (t / 4)) (t % 4)
def sf_k (K : Nat → Int32) (m : Nat) : Nat := sf_c (sf_f K) (4 * m)
theorem sf_k_le (K : Nat → Int32) (m : Nat) : sf_k K m ≤ 4 * m := sf_c_le _ _
theorem sf_k_mono {K K' : Nat → Int32} {m : Nat} (h : ∀ j r, j < m → sf_t K j r → sf_t K' j r) : sf_k K m ≤ sf_k K' m :=
  sf_c_mono _ (fun i hi hf => h (i / 4) (i % 4) (by omega) hf)
theorem sf_k_lt {K K' : Nat → Int32} {m j r : Nat} (h : ∀ j r, j < m → sf_t K j r → sf_t K' j r) (hj : j < m) (hr : r < 4) (h1 : sf_t K' j r) (h2 : ¬ sf_t K j r) : sf_k K m < sf_k K' m := by
  have e1 : (4 * j + r) / 4 = j := by omega
  have e2 : (4 * j + r) % 4 = r := by omega
  refine sf_c_lt (a := 4 * j + r) ?_ ?_ _ (by omega) (fun i hi hf => h (i / 4) (i % 4) (by omega) hf)
  · show bt (K' ((4 * j + r) / 4)) ((4 * j + r) % 4) = true
    rw [e1, e2]; exact h1
  · show ¬ bt (K ((4 * j + r) / 4)) ((4 * j + r) % 4) = true
    rw [e1, e2]; exact h2

/-! one round over the places, up to place i -/
def sf_P (n : Nat) (nm op rg ar : Nat → Int32) (m : Nat) (V0 : Nat → Prop) (K0 K : Nat → Int32) (i : Nat) : Prop :=
  (∀ j r, j < m → sf_t K j r → sf_K n nm op rg ar j r) ∧ (∀ j r, j < m → sf_t K0 j r → sf_t K j r) ∧
  (sf_k K0 m < sf_k K m ∨ ((∀ j, j < m → K j = K0 j) ∧ ∀ i' j r, i' < i → sf_come n nm i' → j < m → bt (nm i') j = true → sf_A op rg ar (sf_t K0) V0 i' r → sf_t K0 j r))
theorem sf_P_0 {n : Nat} {nm op rg ar : Nat → Int32} {m : Nat} {V0 : Nat → Prop} {K : Nat → Int32} (h : ∀ j r, j < m → sf_t K j r → sf_K n nm op rg ar j r) : sf_P n nm op rg ar m V0 K K 0 :=
  ⟨h, fun _ _ _ z => z, Or.inr ⟨fun _ _ => rfl, fun _ _ _ z => absurd z (by omega)⟩⟩
theorem sf_P_f {n : Nat} {nm op rg ar : Nat → Int32} {m : Nat} {V0 : Nat → Prop} {K0 K : Nat → Int32} {i : Nat} (h : sf_P n nm op rg ar m V0 K0 K i) (hc : ¬ sf_come n nm i) : sf_P n nm op rg ar m V0 K0 K (i + 1) := by
  refine ⟨h.1, h.2.1, ?_⟩
  rcases h.2.2 with h3 | ⟨h3, h4⟩
  · exact Or.inl h3
  · refine Or.inr ⟨h3, fun i' j r hi' hc' => ?_⟩
    by_cases e : i' = i
    · subst e; exact absurd hc' hc
    · exact h4 i' j r (by omega) hc'
theorem sf_P_t {n : Nat} {nm op rg ar : Nat → Int32} {m : Nat} {V0 : Nat → Prop} {K0 K K' : Nat → Int32} {i : Nat} {a : Int32} (hv : sf_val n op rg ar) (hm : n ≤ m)
    (hV : ∀ i, i < n → (V0 i ↔ sf_V n nm op rg (sf_t K0) i)) (h : sf_P n nm op rg ar m V0 K0 K i) (hi : i < n) (hc : sf_come n nm i)
    (ha : ∀ r, bt a r = true ↔ sf_A op rg ar (sf_t K) V0 i r)
    (h1 : ∀ j, j < m → bt (nm i) j = true → K' j = K j ||| a) (h2 : ∀ j, j < m → ¬ bt (nm i) j = true → K' j = K j) : sf_P n nm op rg ar m V0 K0 K' (i + 1) := by
  obtain ⟨p1, p2, p3⟩ := h
  have hA : ∀ r, bt a r = true → sf_A op rg ar (sf_K n nm op rg ar) (sf_V n nm op rg (sf_K n nm op rg ar)) i r := fun r hr =>
    sf_A_mono (fun r z => p1 i r (by omega) z) (fun z => sf_V_mono (fun b r hb w => p1 b r (by omega) (p2 b r (by omega) w)) ((hV i hi).mp z)) ((ha r).mp hr)
  have q1 : ∀ j r, j < m → sf_t K' j r → sf_t K j r ∨ (bt (nm i) j = true ∧ bt a r = true) := by
    intro j r hj hr
    by_cases e : bt (nm i) j = true
    · unfold sf_t at hr
      rw [h1 j hj e, sf_orI] at hr
      rcases hr with hr | hr
      · exact Or.inl hr
      · exact Or.inr ⟨e, hr⟩
    · unfold sf_t at hr
      rw [h2 j hj e] at hr
      exact Or.inl hr
  have q2 : ∀ j r, j < m → sf_t K j r → sf_t K' j r := by
    intro j r hj hr
    unfold sf_t
    by_cases e : bt (nm i) j = true
    · rw [h1 j hj e, sf_orI]; exact Or.inl hr
    · rw [h2 j hj e]; exact hr
  have q3 : ∀ j r, j < m → sf_t K' j r → sf_K n nm op rg ar j r := by
    intro j r hj hr
    rcases q1 j r hj hr with hr | ⟨hk, hr⟩
    · exact p1 j r hj hr
    · exact sf_K_s hi hc hk (hA r hr)
  refine ⟨q3, fun j r hj z => q2 j r hj (p2 j r hj z), ?_⟩
  rcases p3 with p3 | ⟨p3, p4⟩
  · exact Or.inl (Nat.lt_of_lt_of_le p3 (sf_k_mono q2))
  · by_cases e : ∀ j, j < m → K' j = K j
    · right
      refine ⟨fun j hj => (e j hj).trans (p3 j hj), fun i' j r hi' hc' hj hk hA' => ?_⟩
      by_cases e' : i' = i
      · subst e'
        have hr : bt a r = true := (ha r).mpr (sf_A_mono (fun r z => by unfold sf_t; rw [p3 i' (by omega)]; exact z) (fun z => z) hA')
        have : K' j = K0 j := (e j hj).trans (p3 j hj)
        unfold sf_t
        rw [← this, h1 j hj hk, sf_orI]
        exact Or.inr hr
      · exact p4 i' j r (by omega) hc' hj hk hA'
    · left
      have : ∃ j, j < m ∧ ¬ K' j = K j := by
        apply Classical.byContradiction
        intro hn
        exact e (fun j hj => Classical.byContradiction (fun z => hn ⟨j, hj, z⟩))
      obtain ⟨j, hj, hne⟩ := this
      obtain ⟨r, hr, hnr⟩ := sf_ne (fun z => hne z.symm) (fun r z => q2 j r hj z)
      have h4 := sf_K_4 hv (q3 j r hj hr)
      have e0 : sf_k K0 m ≤ sf_k K m := sf_k_mono p2
      have := sf_k_lt q2 hj h4 hr hnr
      omega

/-! the component's rounds, t of them done -/
def sf_T (n : Nat) (nm op rg ar : Nat → Int32) (t : Nat) (K : Nat → Int32) (sp us : Int32) : Prop :=
  (∀ j r, j < n → sf_t K j r → sf_K n nm op rg ar j r) ∧ sf_t K 0 1 ∧
  (∀ b, b < n → bt sp b = true → op b = 6 ∧ sf_t K b (sf_n rg b)) ∧ (∀ i, i < n → bt us i = true → sf_V n nm op rg (sf_t K) i) ∧
  (t + 1 ≤ sf_k K n ∨ ((∀ j r, j < n → sf_K n nm op rg ar j r → sf_t K j r) ∧ (∀ b, b < n → op b = 6 → sf_t K b (sf_n rg b) → bt sp b = true) ∧ (∀ i, i < n → sf_V n nm op rg (sf_t K) i → bt us i = true)))
theorem sf_T_0 {n : Nat} {nm op rg ar K : Nat → Int32} (hn : 0 < n) (h0 : K 0 = 2) (h : ∀ j, j < n → ¬ j = 0 → K j = 0) : sf_T n nm op rg ar 0 K 0 0 := by
  have hb := sf_two
  have h1 : sf_t K 0 1 := by unfold sf_t; rw [h0]; exact (hb 1).mpr rfl
  refine ⟨fun j r hj hr => ?_, h1, fun b _ z => absurd z (sf_0I b), fun b _ z => absurd z (sf_0I b), Or.inl ?_⟩
  · unfold sf_t at hr
    by_cases e : j = 0
    · subst e
      rw [h0, hb] at hr
      rw [hr]
      exact sf_K_0
    · rw [h j hj e] at hr
      exact absurd hr (sf_0I r)
  · exact sf_c_pos (f := sf_f K) (a := 1) h1 (4 * n) (by omega)
theorem sf_T_s {n : Nat} {nm op rg ar K K' : Nat → Int32} {t : Nat} {sp us sp' us' : Int32} (hn : 0 < n) (h : sf_T n nm op rg ar t K sp us)
    (hsp : ∀ b, bt sp' b = true ↔ bt sp b = true ∨ (b < n ∧ op b = 6 ∧ sf_t K b (sf_n rg b)))
    (hV : ∀ i, i < n → (bt us' i = true ↔ sf_V n nm op rg (sf_t K) i))
    (hP : sf_P n nm op rg ar n (fun i => bt us' i = true) K K' n) : sf_T n nm op rg ar (t + 1) K' sp' us' := by
  obtain ⟨t1, t2, t3, t4, t5⟩ := h
  obtain ⟨p1, p2, p3⟩ := hP
  refine ⟨p1, p2 0 1 hn t2, fun b hb z => ?_, fun i hi z => sf_V_mono (fun b r hb w => p2 b r hb w) ((hV i hi).mp z), ?_⟩
  · rcases (hsp b).mp z with z | ⟨_, z1, z2⟩
    · exact ⟨(t3 b hb z).1, p2 b _ hb (t3 b hb z).2⟩
    · exact ⟨z1, p2 b _ hb z2⟩
  · rcases p3 with p3 | ⟨p3, p4⟩
    · rcases t5 with t5 | ⟨t5, _⟩
      · left; omega
      · have : sf_k K' n ≤ sf_k K n := sf_k_mono (fun j r hj z => t5 j r hj (p1 j r hj z))
        omega
    · right
      have e : ∀ j r, j < n → (sf_t K' j r ↔ sf_t K j r) := fun j r hj => by unfold sf_t; rw [p3 j hj]
      refine ⟨fun j r hj z => (e j r hj).mpr ?_, fun b hb z1 z2 => (hsp b).mpr (Or.inr ⟨hb, z1, (e b _ hb).mp z2⟩), fun i hi z => (hV i hi).mpr (sf_V_mono (fun b r hb w => (e b r hb).mp w) z)⟩
      refine sf_K_top t2 (fun i j r hi hj hc hk hA => p4 i j r hi hc hj hk (sf_A_mono (fun _ z => z) (fun z => (hV i hi).mpr z) hA)) hj z
theorem sf_T_e {n : Nat} {nm op rg ar K : Nat → Int32} {sp us : Int32} (hn : n ≤ 16) (h : sf_T n nm op rg ar 65 K sp us) :
    (∀ j r, j < n → (sf_t K j r ↔ sf_K n nm op rg ar j r)) ∧ (∀ b, b < n → (bt sp b = true ↔ op b = 6 ∧ sf_K n nm op rg ar b (sf_n rg b))) ∧
    (∀ i, i < n → (bt us i = true ↔ sf_V n nm op rg (sf_K n nm op rg ar) i)) := by
  obtain ⟨t1, t2, t3, t4, t5⟩ := h
  rcases t5 with t5 | ⟨t5, t6, t7⟩
  · have := sf_k_le K n
    omega
  · refine ⟨fun j r hj => ⟨t1 j r hj, t5 j r hj⟩, fun b hb => ⟨fun z => ⟨(t3 b hb z).1, t1 b _ hb (t3 b hb z).2⟩, fun z => t6 b hb z.1 (t5 b _ hb z.2)⟩,
      fun i hi => ⟨fun z => sf_V_mono (fun b r hb w => t1 b r hb w) (t4 i hi z), fun z => t7 i hi (sf_V_mono (fun b r hb w => t5 b r hb w) z)⟩⟩

/-! the reference's rounds: more or not -/
def sf_Y (n : Nat) (nm op rg ar K : Nat → Int32) (mo : Int32) : Prop :=
  (∀ j r, j < n + 1 → sf_t K j r → sf_K n nm op rg ar j r) ∧ sf_t K 0 1 ∧ (mo = 1 ∨ (mo = 0 ∧ ∀ j r, j < n → sf_K n nm op rg ar j r → sf_t K j r))
/-- in a round: the flag tells whether something was added -/
def sf_Q (n : Nat) (nm op rg ar : Nat → Int32) (V0 : Nat → Prop) (K0 K : Nat → Int32) (i : Nat) (mo : Int32) : Prop :=
  sf_P n nm op rg ar (n + 1) V0 K0 K i ∧ ((mo = 1 ∧ sf_k K0 (n + 1) < sf_k K (n + 1)) ∨ (mo = 0 ∧ ∀ j, j < n + 1 → K j = K0 j))
theorem sf_Q_n {n : Nat} {nm op rg ar : Nat → Int32} {V0 : Nat → Prop} {K0 K : Nat → Int32} {mo : Int32} (h0 : sf_t K0 0 1)
    (hV : ∀ i, i < n → (V0 i ↔ sf_V n nm op rg (sf_t K0) i)) (h : sf_Q n nm op rg ar V0 K0 K n mo) : sf_Y n nm op rg ar K mo := by
  obtain ⟨⟨p1, p2, p3⟩, q⟩ := h
  refine ⟨p1, p2 0 1 (by omega) h0, ?_⟩
  rcases q with ⟨q1, _⟩ | ⟨q1, q2⟩
  · exact Or.inl q1
  · refine Or.inr ⟨q1, fun j r hj z => ?_⟩
    have e : ∀ j r, j < n + 1 → (sf_t K j r ↔ sf_t K0 j r) := fun j r hj => by unfold sf_t; rw [q2 j hj]
    rcases p3 with p3 | ⟨_, p4⟩
    · have : sf_k K (n + 1) ≤ sf_k K0 (n + 1) := sf_k_mono (fun j r hj z => (e j r hj).mp z)
      omega
    · refine (e j r (by omega)).mpr (sf_K_top h0 (fun i j r hi hj hc hk hA => p4 i j r hi hc (by omega) hk (sf_A_mono (fun _ z => z) (fun z => (hV i hi).mpr z) hA)) hj z)
/-- the flag after one place: K' is K with a put in -/
theorem sf_Q_t {n : Nat} {nm op rg ar : Nat → Int32} {V0 : Nat → Prop} {K0 K K' : Nat → Int32} {i : Nat} {a mo mo' : Int32} (hv : sf_val n op rg ar)
    (hV : ∀ i, i < n → (V0 i ↔ sf_V n nm op rg (sf_t K0) i)) (h : sf_Q n nm op rg ar V0 K0 K i mo) (hi : i < n) (hc : sf_come n nm i)
    (ha : ∀ r, bt a r = true ↔ sf_A op rg ar (sf_t K) V0 i r)
    (h1 : ∀ j, j < n + 1 → bt (nm i) j = true → K' j = K j ||| a) (h2 : ∀ j, j < n + 1 → ¬ bt (nm i) j = true → K' j = K j)
    (hmo : (mo' = 1 ∧ (mo = 1 ∨ ∃ j, j < n + 1 ∧ ¬ K' j = K j)) ∨ (mo' = mo ∧ ∀ j, j < n + 1 → K' j = K j)) : sf_Q n nm op rg ar V0 K0 K' (i + 1) mo' := by
  have hP := sf_P_t (m := n + 1) hv (by omega) hV h.1 hi hc ha h1 h2
  refine ⟨hP, ?_⟩
  have q2 : ∀ j r, j < n + 1 → sf_t K j r → sf_t K' j r := by
    intro j r hj hr
    unfold sf_t
    by_cases e : bt (nm i) j = true
    · rw [h1 j hj e, sf_orI]; exact Or.inl hr
    · rw [h2 j hj e]; exact hr
  rcases hmo with ⟨m1, m2⟩ | ⟨m1, m2⟩
  · refine Or.inl ⟨m1, ?_⟩
    have e0 : sf_k K0 (n + 1) ≤ sf_k K (n + 1) := sf_k_mono h.1.2.1
    have e1 : sf_k K (n + 1) ≤ sf_k K' (n + 1) := sf_k_mono q2
    have key : (∃ j, j < n + 1 ∧ ¬ K' j = K j) → sf_k K0 (n + 1) < sf_k K' (n + 1) := by
      intro ⟨j, hj, hne⟩
      obtain ⟨r, hr, hnr⟩ := sf_ne (fun z => hne z.symm) (fun r z => q2 j r hj z)
      have := sf_k_lt q2 hj (sf_K_4 hv (hP.1 j r hj hr)) hr hnr
      omega
    rcases m2 with m2 | m2
    · rcases h.2 with ⟨_, z⟩ | ⟨z, _⟩
      · omega
      · rw [m2] at z; exact absurd z (by decide)
    · exact key m2
  · rcases h.2 with ⟨z1, z2⟩ | ⟨z1, z2⟩
    · refine Or.inl ⟨m1.trans z1, Nat.lt_of_lt_of_le z2 (sf_k_mono q2)⟩
    · exact Or.inr ⟨m1.trans z1, fun j hj => (m2 j hj).trans (z2 j hj)⟩
theorem sf_Q_f {n : Nat} {nm op rg ar : Nat → Int32} {V0 : Nat → Prop} {K0 K : Nat → Int32} {i : Nat} {mo : Int32} (h : sf_Q n nm op rg ar V0 K0 K i mo) (hc : ¬ sf_come n nm i) : sf_Q n nm op rg ar V0 K0 K (i + 1) mo :=
  ⟨sf_P_f h.1 hc, h.2⟩
theorem sf_Q_0 {n : Nat} {nm op rg ar K : Nat → Int32} {V0 : Nat → Prop} {mo : Int32} (h : sf_Y n nm op rg ar K mo) : sf_Q n nm op rg ar V0 K K 0 0 :=
  ⟨sf_P_0 h.1, Or.inr ⟨rfl, fun _ _ => rfl⟩⟩
/-- the measure of the reference's rounds -/
def sf_mu (n : Nat) (K : Nat → Int32) (mo : Int32) : Nat := if mo = 0 then 0 else 4 * (n + 1) + 1 - sf_k K (n + 1)
theorem sf_mu_lt {n : Nat} {nm op rg ar : Nat → Int32} {V0 : Nat → Prop} {K0 K : Nat → Int32} {mo : Int32} (h : sf_Q n nm op rg ar V0 K0 K n mo) : sf_mu n K mo < sf_mu n K0 1 := by
  unfold sf_mu
  have h0 := sf_k_le K0 (n + 1)
  have h1 := sf_k_le K (n + 1)
  rw [if_neg (by decide : ¬ (1 : Int32) = 0)]
  rcases h.2 with ⟨z1, z2⟩ | ⟨z1, z2⟩
  · rw [z1, if_neg (by decide : ¬ (1 : Int32) = 0)]; omega
  · rw [z1, if_pos rfl]; omega
theorem sf_Y_0 {n : Nat} {nm op rg ar K : Nat → Int32} (h0 : K 0 = 2) (h : ∀ j, j < n + 1 → ¬ j = 0 → K j = 0) : sf_Y n nm op rg ar K 1 := by
  have hb := sf_two
  have h1 : sf_t K 0 1 := by unfold sf_t; rw [h0]; exact (hb 1).mpr rfl
  refine ⟨fun j r hj hr => ?_, h1, Or.inl rfl⟩
  unfold sf_t at hr
  by_cases e : j = 0
  · subst e
    rw [h0, hb] at hr
    rw [hr]
    exact sf_K_0
  · rw [h j hj e] at hr
    exact absurd hr (sf_0I r)
theorem sf_Y_e {n : Nat} {nm op rg ar K : Nat → Int32} (h : sf_Y n nm op rg ar K 0) (j r : Nat) (hj : j < n) : sf_t K j r ↔ sf_K n nm op rg ar j r := by
  rcases h.2.2 with z | z
  · exact absurd z (by decide)
  · exact ⟨h.1 j r (by omega), z.2 j r hj⟩

/-! what knows behind an instruction -/
theorem sf_A_n {op rg ar K : Nat → Int32} {V : Nat → Prop} {i : Nat} (hc : ¬ sf_ch op i) (r : Nat) : bt (K i) r = true ↔ sf_A op rg ar (sf_t K) V i r :=
  ⟨fun h => Or.inl ⟨fun z => hc z.1, h⟩, fun h => h.elim (fun z => z.2) (fun z => absurd z.1.1 hc)⟩
theorem sf_A_t {op rg ar K : Nat → Int32} {V : Nat → Prop} {i q : Nat} (hc : sf_ch op i) (hq : q < 4) (hr : rg i = nI q)
    (hk : (¬ op i = 0 ∧ sf_t K i (sf_n ar i)) ∨ ((op i = 2 ∨ op i = 3) ∧ sf_t K i (sf_n rg i)) ∨ V i) (r : Nat) : bt (K i ||| ((1 : Int32) <<< (rg i &&& 31))) r = true ↔ sf_A op rg ar (sf_t K) V i r := by
  have e : sf_n rg i = q := sf_n_e hr (by omega)
  rw [hr, sf_orI, sf_oneI q (by omega)]
  constructor
  · intro h
    by_cases z : r = q
    · exact Or.inr ⟨⟨hc, z.trans e.symm⟩, hk⟩
    · exact Or.inl ⟨fun w => z (w.2.trans e), h.resolve_right z⟩
  · intro h
    rcases h with ⟨_, h⟩ | ⟨⟨_, h⟩, _⟩
    · exact Or.inl h
    · exact Or.inr (h.trans e)
theorem sf_A_f {op rg ar K : Nat → Int32} {V : Nat → Prop} {i q : Nat} (hc : sf_ch op i) (hq : q < 4) (hr : rg i = nI q)
    (hk : ¬ ((¬ op i = 0 ∧ sf_t K i (sf_n ar i)) ∨ ((op i = 2 ∨ op i = 3) ∧ sf_t K i (sf_n rg i)) ∨ V i)) (r : Nat) : bt (K i &&& (((1 : Int32) <<< (rg i &&& 31)) ^^^ (-1))) r = true ↔ sf_A op rg ar (sf_t K) V i r := by
  have e : sf_n rg i = q := sf_n_e hr (by omega)
  rw [hr, sf_andnI, sf_oneI q (by omega)]
  constructor
  · intro h
    exact Or.inl ⟨fun w => h.2 (w.2.trans e), h.1⟩
  · intro h
    rcases h with ⟨h1, h⟩ | ⟨_, h⟩
    · exact ⟨h, fun z => h1 ⟨hc, z.trans e.symm⟩⟩
    · exact absurd h hk
end
section
/-! a run: registers g, place i, c numbers put out, w the row of them -/
def sf_md (t : Int32) : Int32 := t - t / 4 * 4
abbrev sf_Cf : Type := (Nat → Int32) × Nat × Nat × (Nat → Int32)
def sf_st (n : Nat) (op rg ar : Nat → Int32) (g : Nat → Int32) (i c : Nat) (w : Nat → Int32) : sf_Cf :=
  if op i = 0 then (upd g (sf_n rg i) (ar i), i + 1, c, w)
  else if op i = 1 then (upd g (sf_n rg i) (g (sf_n ar i)), i + 1, c, w)
  else if op i = 2 then (upd g (sf_n rg i) (sf_md (g (sf_n rg i) + g (sf_n ar i))), i + 1, c, w)
  else if op i = 3 then (upd g (sf_n rg i) (sf_md (g (sf_n rg i) + 4 - g (sf_n ar i))), i + 1, c, w)
  else if op i = 4 then (g, i + 1, c + 1, upd w c (g (sf_n rg i)))
  else if op i = 5 then (g, sf_tg n ar i, c, w)
  else if op i = 6 then (if g (sf_n rg i) = 0 then (g, sf_tg n ar i, c, w) else (g, i + 1, c, w))
  else (g, n, c, w)
def sf_rn (n : Nat) (op rg ar : Nat → Int32) : Nat → Nat → sf_Cf → Nat × sf_Cf
  | 0, d, q => (d, q)
  | f + 1, d, q => if q.2.1 < n then sf_rn n op rg ar f (d + 1) (sf_st n op rg ar q.1 q.2.1 q.2.2.1 q.2.2.2) else (d, q)
theorem sf_rn_0 (n : Nat) (op rg ar : Nat → Int32) (d : Nat) (q : sf_Cf) : sf_rn n op rg ar 0 d q = (d, q) := rfl
theorem sf_rn_t {n : Nat} {op rg ar : Nat → Int32} {f d i c : Nat} {g w : Nat → Int32} (h : i < n) : sf_rn n op rg ar (f + 1) d (g, i, c, w) = sf_rn n op rg ar f (d + 1) (sf_st n op rg ar g i c w) := if_pos h
theorem sf_rn_f {n : Nat} {op rg ar : Nat → Int32} {f d i c : Nat} {g w : Nat → Int32} (h : ¬ i < n) : sf_rn n op rg ar (f + 1) d (g, i, c, w) = (d, g, i, c, w) := if_neg h
/-- the run with public p, secret s, over the registers as they were left -/
def sf_go (n : Nat) (op rg ar : Nat → Int32) (g : Nat → Int32) (p s : Int32) : Nat × sf_Cf :=
  sf_rn n op rg ar 60 0 (upd (upd (upd (upd g 0 p) 1 s) 2 0) 3 0, 0, 0, fun _ => 0)
/-- the registers ahead of the run with secret s -/
def sf_bs (n : Nat) (op rg ar : Nat → Int32) (g : Nat → Int32) (p : Int32) : Nat → (Nat → Int32)
  | 0 => g
  | s + 1 => (sf_go n op rg ar (sf_bs n op rg ar g p s) p (nI s)).2.1
def sf_rs (n : Nat) (op rg ar : Nat → Int32) (g : Nat → Int32) (p : Int32) (s : Nat) : Nat × sf_Cf := sf_go n op rg ar (sf_bs n op rg ar g p s) p (nI s)
theorem sf_bs_s (n : Nat) (op rg ar : Nat → Int32) (g : Nat → Int32) (p : Int32) (s : Nat) : sf_bs n op rg ar g p (s + 1) = (sf_rs n op rg ar g p s).2.1 := rfl
/-! two outputs alike; shown before; how many -/
def sf_eq (a b : sf_Cf) : Prop := a.2.2.1 = b.2.2.1 ∧ ∀ k, k < a.2.2.1 → a.2.2.2 k = b.2.2.2 k
/-- q is done, and the run with secret s gave the same as an earlier one that is done -/
def sf_was (n : Nat) (F : Nat → sf_Cf) (s : Nat) : Prop := ∃ t, t < s ∧ n ≤ (F t).2.1 ∧ sf_eq (F t) (F s)
noncomputable def sf_cnt (n : Nat) (F : Nat → sf_Cf) : Nat → Nat
  | 0 => 0
  | s + 1 => sf_cnt n F s + @ite Nat (n ≤ (F s).2.1 ∧ ¬ sf_was n F s) (Classical.propDecidable _) 1 0
theorem sf_cnt_t {n : Nat} {F : Nat → sf_Cf} {s : Nat} (h1 : n ≤ (F s).2.1) (h2 : ¬ sf_was n F s) : sf_cnt n F (s + 1) = sf_cnt n F s + 1 := by
  exact congrArg (fun z => sf_cnt n F s + z) (if_pos ⟨h1, h2⟩)
theorem sf_cnt_f {n : Nat} {F : Nat → sf_Cf} {s : Nat} (h : ¬ (n ≤ (F s).2.1 ∧ ¬ sf_was n F s)) : sf_cnt n F (s + 1) = sf_cnt n F s := by
  exact congrArg (fun z => sf_cnt n F s + z) (if_neg h)
theorem sf_cnt_le (n : Nat) (F : Nat → sf_Cf) : ∀ s, sf_cnt n F s ≤ s := by
  intro s
  induction s with
  | zero => exact Nat.le_refl 0
  | succ s ih =>
    by_cases h : n ≤ (F s).2.1 ∧ ¬ sf_was n F s
    · rw [sf_cnt_t h.1 h.2]; omega
    · rw [sf_cnt_f h]; omega
def sf_F (n : Nat) (op rg ar : Nat → Int32) (g : Nat → Int32) (p : Int32) (s : Nat) : sf_Cf := (sf_rs n op rg ar g p s).2
noncomputable def sf_sh (n : Nat) (op rg ar : Nat → Int32) (g : Nat → Int32) (p : Int32) : Nat := sf_cnt n (sf_F n op rg ar g p) 4
/-- leaks: public numbers p, p + 1 .. (f of them) -/
noncomputable def sf_lk (n : Nat) (op rg ar : Nat → Int32) : Nat → Nat → (Nat → Int32) → Int32 × (Nat → Int32)
  | 0, _, g => (0, g)
  | f + 1, p, g => if 1 < sf_sh n op rg ar g (nI p) then (1, sf_bs n op rg ar g (nI p) 4) else sf_lk n op rg ar f (p + 1) (sf_bs n op rg ar g (nI p) 4)
theorem sf_lk_t {n : Nat} {op rg ar g : Nat → Int32} {f p : Nat} (h : 1 < sf_sh n op rg ar g (nI p)) : sf_lk n op rg ar (f + 1) p g = (1, sf_bs n op rg ar g (nI p) 4) := if_pos h
theorem sf_lk_f {n : Nat} {op rg ar g : Nat → Int32} {f p : Nat} (h : ¬ 1 < sf_sh n op rg ar g (nI p)) : sf_lk n op rg ar (f + 1) p g = sf_lk n op rg ar f (p + 1) (sf_bs n op rg ar g (nI p) 4) := if_neg h
end
section
/-! the component's sets -/
theorem sx_at {a : Nat → Int32} {i : Nat} (h : i < 2 ^ 31) : a (nI i).toNatClampNeg = a i := by rw [nI_clamp h]
theorem sx_if {p q A B : Prop} (e : p ↔ q) (f : q → A) (g : ¬ q → B) : (p → A) ∧ (¬ p → B) := ⟨fun z => f (e.mp z), fun z => g (fun w => z (e.mpr w))⟩
theorem sx_eq {x x' c : Int32} {A B : Prop} (e : x = x') (f : x' = c → A) (g : ¬ x' = c → B) : (x = c → A) ∧ (¬ x = c → B) := by subst e; exact ⟨f, g⟩
theorem sx_has {post : Int32 → Prop} {x y x' : Int32} (m : Nat) (hx : x = x') (hy : y = nI m) (hm : m < 32) (h1 : bt x' m = true → post 1) (h0 : ¬ bt x' m = true → post 0) : wpX_has post x y := by
  subst hx hy
  exact br_c (fun z => h1 ((sf_has x m hm).mp z)) (fun z => h0 (fun w => z ((sf_has x m hm).mpr w)))
theorem sx_hasb {A B : Prop} {x y x' : Int32} (m : Nat) (hx : x = x') (hy : y = nI m) (hm : m < 32) (h1 : bt x' m = true → B) (h0 : ¬ bt x' m = true → A) : wpX_has (fun r => (r = 0 → A) ∧ (¬ r = 0 → B)) x y :=
  sx_has m hx hy hm (fun z => br_f (by decide) (h1 z)) (fun z => br_t rfl (h0 z))
theorem sx_target {post : Int32 → Prop} {n : Nat} {co se us : Int32} {op rg ar nx me un kn he po pc sc en : Nat → Int32} {i x : Nat} (hi : i < 16) (hn : n ≤ 16) (hx : x ≤ 16) (ha : ar i = nI x) (h : post (nI (sf_tg n ar i))) : wpX_target post (nI n, co, se, us, op, rg, ar, nx, me, un, kn, he, po, pc, sc, en) (nI i) := by
  have e : sf_n ar i = x := sf_n_e ha (by omega)
  unfold sf_tg at h
  rw [e] at h
  refine ⟨vp_in_nI hi (by omega), nm_r (e' := nI x) (by rw [nI_clamp (by omega), ha]) (pk_le n x (fun z => ?_) (fun z => ?_))⟩
  · rw [if_neg (by omega)] at h; exact h
  · rw [if_pos z] at h; exact h
theorem sx_findNext {post : Int32 → Prop} {n : Nat} {co se us : Int32} {op rg ar nx me un kn he po pc sc en : Nat → Int32} {i : Nat} (hn : n ≤ 16) (hv : sf_val n op rg ar) (hi : i < n) (h : post (sf_nm n op ar i)) : wpX_findNext post (nI n, co, se, us, op, rg, ar, nx, me, un, kn, he, po, pc, sc, en) (nI i) := by
  have ea : op (nI i).toNatClampNeg = op i := sx_at (by omega)
  have hin : vp_in (nI i) 16 := vp_in_nI (by omega) (by omega)
  unfold sf_nm at h
  refine nm_r (e' := (1 : Int32) <<< (nI (i + 1) &&& 31)) (by rw [nI_1]) ⟨hin, ?_⟩
  rcases (hv i hi).1 with o | o | o | o | o | o | o | o <;> rw [o] at h
  · exact nm_r (ea.trans o) (br_t (by decide) h)
  · exact nm_r (ea.trans o) (br_t (by decide) h)
  · exact nm_r (ea.trans o) (br_t (by decide) h)
  · exact nm_r (ea.trans o) (br_t (by decide) h)
  · exact nm_r (ea.trans o) (br_t (by decide) h)
  · obtain ⟨x, hx, hax⟩ := (hv i hi).2.2.2 (Or.inl o)
    exact nm_r (ea.trans o) (br_f (by decide) (br_f (by decide) (br_t rfl (sx_target (by omega) hn hx hax h))))
  · obtain ⟨x, hx, hax⟩ := (hv i hi).2.2.2 (Or.inr o)
    exact nm_r (ea.trans o) (br_f (by decide) (br_f (by decide) (br_f (by decide) (br_t rfl (sx_target (by omega) hn hx hax h)))))
  · exact nm_r (ea.trans o) (br_f (by decide) (br_f (by decide) (br_f (by decide) (br_f (by decide) (br_t rfl h)))))
theorem sx_nextOfAll {post : Int32 → Prop} {nm : Nat → Int32} {n : Nat} {co se us : Int32} {op rg ar nx me un kn he po pc sc en : Nat → Int32} {z : Int32} (hn : n ≤ 16) (hx : ∀ i, i < n → nx i = nm i)
    (hp : ∀ y, (∀ j, bt y j = true ↔ ∃ k, k < n ∧ bt z k = true ∧ bt (nm k) j = true) → post y) : wpX_nextOfAll post (nI n, co, se, us, op, rg, ar, nx, me, un, kn, he, po, pc, sc, en) z := by
  have key : ∀ d i y, i + d = n → (∀ j, bt y j = true ↔ ∃ k, k < i ∧ bt z k = true ∧ bt (nm k) j = true) → wX_nextOfAll_4 post z (nI n) co se us op rg ar nx me un kn he po pc sc en (d + 1) y (nI i) := by
    intro d
    induction d with
    | zero =>
      intro i y hi hy
      have e : i = n := by omega
      subst e
      exact br_t (nI_le (Nat.le_refl _) (by omega)) (hp y hy)
    | succ d ih =>
      intro i y hi hy
      refine br_f (nI_ge (by omega) (by omega)) (sx_hasb i rfl rfl (by omega) (fun hz => ⟨vp_in_nI (by omega) (by omega), nm_r (e' := y ||| nm i) (by rw [nI_clamp (by omega), hx i (by omega)]) (nm_r (nI_1 i) ?_)⟩) (fun hz => nm_r (nI_1 i) ?_))
      · refine ih (i + 1) _ (by omega) (fun j => ?_)
        rw [sf_orI, hy j]
        constructor
        · rintro (⟨k, h1, h2, h3⟩ | h)
          · exact ⟨k, by omega, h2, h3⟩
          · exact ⟨i, by omega, hz, h⟩
        · rintro ⟨k, h1, h2, h3⟩
          by_cases e : k = i
          · subst e; exact Or.inr h3
          · exact Or.inl ⟨k, by omega, h2, h3⟩
      · refine ih (i + 1) _ (by omega) (fun j => ?_)
        rw [hy j]
        constructor
        · rintro ⟨k, h1, h2, h3⟩
          exact ⟨k, by omega, h2, h3⟩
        · rintro ⟨k, h1, h2, h3⟩
          by_cases e : k = i
          · subst e; exact absurd h2 hz
          · exact ⟨k, by omega, h2, h3⟩
  exact ⟨n + 1, key n 0 0 (by omega) (fun j => ⟨fun h => absurd h (sf_0I j), fun ⟨k, h, _⟩ => absurd h (by omega)⟩)⟩
theorem sx_reach {post : Int32 → Prop} {nm : Nat → Int32} {n : Nat} {co se us : Int32} {op rg ar nx me un kn he po pc sc en : Nat → Int32} {s b s' b' : Int32} {S B : Nat → Prop} (hs' : s' = s) (hb' : b' = b) (hn : n ≤ 16) (hx : ∀ i, i < n → nx i = nm i) (hok : sf_ok n nm)
    (hs : ∀ i, bt s i = true → i ≤ n) (hS : ∀ i, bt s i = true ↔ S i) (hB : ∀ i, bt b i = true ↔ B i)
    (hp : ∀ z, (∀ j, bt z j = true ↔ sf_R n nm S B j) → post z) : wpX_reach post (nI n, co, se, us, op, rg, ar, nx, me, un, kn, he, po, pc, sc, en) s' b' := by
  subst hs' hb'
  have key : ∀ d k z, k + d = n → sf_I n nm (fun i => bt s' i = true) (fun i => bt b' i = true) k z → wX_reach_9 post b' (nI n) co se us op rg ar nx me un kn he po pc sc en (d + 1) z (nI k) := by
    intro d
    induction d with
    | zero =>
      intro k z hk h
      have e : k = n := by omega
      subst e
      exact br_t (nI_le (Nat.le_refl _) (by omega)) (hp z (fun j => (sf_I_n hok h j).trans (sf_R_congr hS hB j)))
    | succ d ih =>
      intro k z hk h
      exact br_f (nI_ge (by omega) (by omega)) (sx_nextOfAll hn hx (fun y hy => nm_e (nm_r (nI_1 k) (ih (k + 1) _ (by omega) (sf_I_s hok h hy)))))
  exact nm_e ⟨n + 1, key n 0 _ (by omega) (sf_I_0 hs)⟩
theorem sx_findMeetings {post : Int32 → Prop} {nm : Nat → Int32} {n : Nat} {co se us : Int32} {op rg ar nx me un kn he po pc sc en : Nat → Int32} {b : Nat} (hn : n ≤ 16) (hx : ∀ i, i < n → nx i = nm i) (hok : sf_ok n nm) (hb : b < n)
    (hp : ∀ z, (∀ q, bt z q = true ↔ sf_M n nm b q) → post z) : wpX_findMeetings post (nI n, co, se, us, op, rg, ar, nx, me, un, kn, he, po, pc, sc, en) (nI b) := by
  have hs1 : ∀ i, bt ((1 : Int32) <<< (nI b &&& 31)) i = true ↔ i = b := sf_oneI b (by omega)
  have hs2 : ∀ i, bt ((1 : Int32) <<< (nI b &&& 31)) i = true → i ≤ n := fun i hi => by have := (hs1 i).mp hi; omega
  refine sx_reach (S := fun j => j = b) (B := sf_no) rfl rfl hn hx hok hs2 hs1 (fun i => ⟨fun h => absurd h (sf_0I i), fun h => absurd h (fun z => z)⟩) (fun z hz => sx_hasb n rfl rfl (by omega) (fun h => ?_) (fun h => hp 0 (fun q => ⟨fun w => absurd w (sf_0I q), fun w => absurd ((hz n).mpr w.1) h⟩)))
  have h0 := (hz n).mp h
  have key : ∀ d q y, q + d = n + 1 → (∀ p, bt y p = true ↔ sf_M n nm b p ∧ p < q) → wX_findMeetings_27 post (nI b) (nI n) co se us op rg ar nx me un kn he po pc sc en (d + 1) y (nI q) := by
    intro d
    induction d with
    | zero =>
      intro q y hq hy
      exact br_t (nI_lt (by omega) (by omega)) (hp y (fun p => (hy p).trans ⟨fun w => w.1, fun w => ⟨w, by have := w.2.1; omega⟩⟩))
    | succ d ih =>
      intro q y hq hy
      have stay : ¬ sf_M n nm b q → wX_findMeetings_27 post (nI b) (nI n) co se us op rg ar nx me un kn he po pc sc en (d + 1) y (nI (q + 1)) := fun w =>
        ih (q + 1) y (by omega) (fun p => (hy p).trans ⟨fun v => ⟨v.1, by omega⟩, fun v => ⟨v.1, by
          by_cases e : p = q
          · subst e; exact absurd v.1 w
          · omega⟩⟩)
      refine br_f (nI_nlt (by omega) (by omega)) (sx_reach (S := fun j => j = b) (B := fun j => j = q) rfl rfl hn hx hok hs2 hs1 (sf_oneI q (by omega)) (fun r hr => pk_eq q b (fun e => nm_r (nI_1 q) (stay (fun w => w.2.2.1 e))) (fun ne => sx_hasb n rfl rfl (by omega) (fun h => nm_r (nI_1 q) (stay (fun w => w.2.2.2 ((hr n).mp h)))) (fun h => nm_e (nm_r (nI_1 q) (ih (q + 1) _ (by omega) (fun p => ?_)))))))
      rw [sf_orI, hy p, sf_oneI q (by omega)]
      constructor
      · rintro (w | w)
        · exact ⟨w.1, by omega⟩
        · subst w
          exact ⟨⟨h0, by omega, ne, fun v => h ((hr n).mpr v)⟩, by omega⟩
      · intro w
        by_cases e : p = q
        · exact Or.inr e
        · exact Or.inl ⟨w.1, by omega⟩
  exact ⟨n + 2, key (n + 1) 0 0 (by omega) (fun p => ⟨fun w => absurd w (sf_0I p), fun w => absurd w.2 (by omega)⟩)⟩
end
section
/-! the component's knowing -/
theorem sx_findSecretPlaces {post : SX → Prop} {n : Nat} {co se us : Int32} {op rg ar nx me un kn he po pc sc en : Nat → Int32} (hn : n ≤ 16) (hv : sf_val n op rg ar)
    (hp : ∀ se' us', (∀ b, bt se' b = true ↔ bt se b = true ∨ (b < n ∧ op b = 6 ∧ sf_t kn b (sf_n rg b))) →
      (∀ i, bt us' i = true ↔ bt us i = true ∨ ∃ b, b < n ∧ op b = 6 ∧ sf_t kn b (sf_n rg b) ∧ bt (un b) i = true) → post (nI n, co, se', us', op, rg, ar, nx, me, un, kn, he, po, pc, sc, en)) : wpX_findSecretPlaces post (nI n, co, se, us, op, rg, ar, nx, me, un, kn, he, po, pc, sc, en) := by
  have key : ∀ d i s u, i + d = n → (∀ b, bt s b = true ↔ bt se b = true ∨ (b < i ∧ op b = 6 ∧ sf_t kn b (sf_n rg b))) →
      (∀ j, bt u j = true ↔ bt us j = true ∨ ∃ b, b < i ∧ op b = 6 ∧ sf_t kn b (sf_n rg b) ∧ bt (un b) j = true) →
      wX_findSecretPlaces_2 post (nI n) co op rg ar nx me un kn he po pc sc en (d + 1) (nI i) s u := by
    intro d
    induction d with
    | zero =>
      intro i s u hi h1 h2
      have e : i = n := by omega
      subst e
      exact br_t (nI_le (Nat.le_refl _) (by omega)) (hp s u h1 h2)
    | succ d ih =>
      intro i s u hi h1 h2
      have stay : ¬ (op i = 6 ∧ sf_t kn i (sf_n rg i)) → wX_findSecretPlaces_2 post (nI n) co op rg ar nx me un kn he po pc sc en (d + 1) (nI (i + 1)) s u := by
        intro hno
        refine ih (i + 1) s u (by omega) (fun b => (h1 b).trans ⟨fun w => w.imp id (fun v => ⟨by omega, v.2⟩), fun w => w.imp id (fun v => ⟨?_, v.2⟩)⟩) (fun j => (h2 j).trans ⟨fun w => w.imp id (fun ⟨b, v⟩ => ⟨b, by omega, v.2⟩), fun w => w.imp id (fun ⟨b, v⟩ => ⟨b, ?_, v.2⟩)⟩)
        · by_cases e : b = i
          · subst e; exact absurd v.2 hno
          · omega
        · by_cases e : b = i
          · subst e; exact absurd ⟨v.2.1, v.2.2.1⟩ hno
          · omega
      have hin : vp_in (nI i) 16 := vp_in_nI (by omega) (by omega)
      refine br_f (nI_ge (by omega) (by omega)) ⟨hin, sx_eq (sx_at (by omega)) (fun o => ⟨hin, hin, ?_⟩) (fun o => nm_r (nI_1 i) (stay (fun w => o w.1)))⟩
      obtain ⟨r, hr, er⟩ := (hv i (by omega)).2.1 (by rw [o]; decide) (by rw [o]; decide)
      have er' : sf_n rg i = r := sf_n_e er (by omega)
      refine sx_hasb r (sx_at (by omega)) ((sx_at (by omega)).trans er) (by omega) (fun hz => nm_e ⟨hin, nm_r (e' := u ||| un i) (by rw [nI_clamp (by omega)]) (nm_r (nI_1 i) (ih (i + 1) _ _ (by omega) (fun b => ?_) (fun j => ?_)))⟩) (fun hz => nm_r (nI_1 i) (stay (fun w => hz (by have := w.2; rw [er'] at this; exact this))))
      · have hz' : sf_t kn i (sf_n rg i) := by rw [er']; exact hz
        rw [sf_orI, h1 b, sf_oneI i (by omega)]
        constructor
        · rintro ((w | w) | w)
          · exact Or.inl w
          · exact Or.inr ⟨by omega, w.2⟩
          · subst w; exact Or.inr ⟨by omega, o, hz'⟩
        · rintro (w | w)
          · exact Or.inl (Or.inl w)
          · by_cases e : b = i
            · exact Or.inr e
            · exact Or.inl (Or.inr ⟨by omega, w.2⟩)
      · have hz' : sf_t kn i (sf_n rg i) := by rw [er']; exact hz
        rw [sf_orI, h2 j]
        constructor
        · rintro ((w | ⟨b, w⟩) | w)
          · exact Or.inl w
          · exact Or.inr ⟨b, by omega, w.2⟩
          · exact Or.inr ⟨i, by omega, o, hz', w⟩
        · rintro (w | ⟨b, w⟩)
          · exact Or.inl (Or.inl w)
          · by_cases e : b = i
            · subst e; exact Or.inr w.2.2.2
            · exact Or.inl (Or.inr ⟨b, by omega, w.2⟩)
  exact ⟨n + 1, key n 0 se us (by omega) (fun b => ⟨Or.inl, fun w => w.resolve_right (fun v => absurd v.1 (by omega))⟩) (fun j => ⟨Or.inl, fun w => w.resolve_right (fun ⟨b, v⟩ => absurd v.1 (by omega))⟩)⟩
theorem sx_ka63 {post : Int32 → Prop} {n : Nat} {co se us : Int32} {op rg ar nx me un kn he po pc sc en : Nat → Int32} {i : Nat} {x4 : Int32} (hn : n ≤ 16) (hv : sf_val n op rg ar) (hi : i < n) (hc : sf_ch op i)
    (h4 : (∃ r, bt (kn i) r = true ∧ bt x4 r = true) ↔ ((¬ op i = 0 ∧ sf_t kn i (sf_n ar i)) ∨ ((op i = 2 ∨ op i = 3) ∧ sf_t kn i (sf_n rg i))))
    (hp : ∀ a, (∀ r, bt a r = true ↔ sf_A op rg ar (sf_t kn) (fun i => bt us i = true) i r) → post a) : wX_knowingAfter_63 post (nI i) (kn i) x4 (nI n) co se us op rg ar nx me un kn he po pc sc en := by
  obtain ⟨q, hq, er⟩ := (hv i hi).2.1 (by rcases hc with e | e | e | e <;> rw [e] <;> decide) (by rcases hc with e | e | e | e <;> rw [e] <;> decide)
  have hz : ¬ (kn i &&& x4) = 0 ↔ ∃ r, bt (kn i) r = true ∧ bt x4 r = true := by
    rw [sf_nz]
    exact ⟨fun ⟨r, h⟩ => ⟨r, (sf_andI _ _ r).mp h⟩, fun ⟨r, h⟩ => ⟨r, (sf_andI _ _ r).mpr h⟩⟩
  refine ⟨vp_in_nI (by omega) (by omega), nm_r (e' := (1 : Int32) <<< (rg i &&& 31)) (by rw [nI_clamp (by omega)]) (br_c (fun z => ?_) (fun z => ?_))⟩
  · have hno : ¬ ((¬ op i = 0 ∧ sf_t kn i (sf_n ar i)) ∨ ((op i = 2 ∨ op i = 3) ∧ sf_t kn i (sf_n rg i))) := fun w => hz.mpr (h4.mpr w) z
    refine sx_hasb i rfl rfl (by omega) (fun hu => hp _ (sf_A_t hc hq er (Or.inr (Or.inr hu)))) (fun hu => hp _ (sf_A_f hc hq er ?_))
    rintro (w | w | w)
    · exact hno (Or.inl w)
    · exact hno (Or.inr w)
    · exact hu w
  · refine hp _ (sf_A_t hc hq er ?_)
    rcases h4.mp (hz.mp z) with w | w
    · exact Or.inl w
    · exact Or.inr (Or.inl w)
theorem sx_knowingAfter {post : Int32 → Prop} {n : Nat} {co se us : Int32} {op rg ar nx me un kn he po pc sc en : Nat → Int32} {i : Nat} (hn : n ≤ 16) (hv : sf_val n op rg ar) (hi : i < n)
    (hp : ∀ a, (∀ r, bt a r = true ↔ sf_A op rg ar (sf_t kn) (fun i => bt us i = true) i r) → post a) : wpX_knowingAfter post (nI n, co, se, us, op, rg, ar, nx, me, un, kn, he, po, pc, sc, en) (nI i) := by
  have hin : vp_in (nI i) 16 := vp_in_nI (by omega) (by omega)
  have ea : op (nI i).toNatClampNeg = op i := sx_at (by omega)
  refine ⟨hin, nm_r (e' := kn i) (sx_at (by omega)) ⟨hin, ?_⟩⟩
  have hn0 : ∀ h : ¬ sf_ch op i, post (kn i) := fun h => hp _ (sf_A_n h)
  have hno : ∀ c : Int32, op i = c → (¬ c = 0 ∧ ¬ c = 1 ∧ ¬ c = 2 ∧ ¬ c = 3) → ¬ sf_ch op i := by
    rintro c e ⟨h0, h1, h2, h3⟩ (h | h | h | h)
    · exact h0 (e.symm.trans h)
    · exact h1 (e.symm.trans h)
    · exact h2 (e.symm.trans h)
    · exact h3 (e.symm.trans h)
  rcases (hv i hi).1 with o | o | o | o | o | o | o | o
  · have hc : sf_ch op i := Or.inl o
    refine nm_r (ea.trans o) (br_t rfl (br_f (by decide) (br_t rfl (br_f (by decide) (br_f (by decide) (sx_ka63 hn hv hi hc ?_ hp))))))
    constructor
    · rintro ⟨r, _, h⟩; exact absurd h (sf_0I r)
    · rintro (w | w)
      · exact absurd o w.1
      · rcases w.1 with e | e <;> rw [o] at e <;> exact absurd e (by decide)
  · have hc : sf_ch op i := Or.inr (Or.inl o)
    obtain ⟨x, hx, ex⟩ := (hv i hi).2.2.1 hc
    have ex' : sf_n ar i = x := sf_n_e ex (by omega)
    refine nm_r (ea.trans o) (br_f (by decide) (br_t rfl (br_f (by decide) (br_f (by decide) ⟨hin, nm_r (e' := (1 : Int32) <<< (nI x &&& 31)) (by rw [nI_clamp (by omega), ex]) (br_f (by decide) (br_f (by decide) (sx_ka63 hn hv hi hc ?_ hp)))⟩))))
    constructor
    · rintro ⟨r, h1, h2⟩
      rw [sf_oneI x (by omega)] at h2
      subst h2
      exact Or.inl ⟨by rw [o]; decide, by rw [ex']; exact h1⟩
    · rintro (w | w)
      · exact ⟨x, by have := w.2; rw [ex'] at this; exact this, (sf_oneI x (by omega) x).mpr rfl⟩
      · rcases w.1 with e | e <;> rw [o] at e <;> exact absurd e (by decide)
  · have hc : sf_ch op i := Or.inr (Or.inr (Or.inl o))
    obtain ⟨x, hx, ex⟩ := (hv i hi).2.2.1 hc
    obtain ⟨q, hq, eq⟩ := (hv i hi).2.1 (by rw [o]; decide) (by rw [o]; decide)
    have ex' : sf_n ar i = x := sf_n_e ex (by omega)
    have eq' : sf_n rg i = q := sf_n_e eq (by omega)
    refine nm_r (ea.trans o) (br_f (by decide) (br_f (by decide) (br_t rfl (br_f (by decide) (br_f (by decide) ⟨hin, nm_r (e' := (1 : Int32) <<< (nI x &&& 31)) (by rw [nI_clamp (by omega), ex]) (br_t rfl ⟨hin, nm_r (e' := ((1 : Int32) <<< (nI x &&& 31)) ||| ((1 : Int32) <<< (nI q &&& 31))) (by rw [nI_clamp (by omega), eq]) (sx_ka63 hn hv hi hc ?_ hp)⟩)⟩)))))
    constructor
    · rintro ⟨r, h1, h2⟩
      rw [sf_orI, sf_oneI x (by omega), sf_oneI q (by omega)] at h2
      rcases h2 with h2 | h2
      · subst h2; exact Or.inl ⟨by rw [o]; decide, by rw [ex']; exact h1⟩
      · subst h2; exact Or.inr ⟨Or.inl o, by rw [eq']; exact h1⟩
    · rintro (w | w)
      · exact ⟨x, by have := w.2; rw [ex'] at this; exact this, (sf_orI _ _ _).mpr (Or.inl ((sf_oneI x (by omega) x).mpr rfl))⟩
      · exact ⟨q, by have := w.2; rw [eq'] at this; exact this, (sf_orI _ _ _).mpr (Or.inr ((sf_oneI q (by omega) q).mpr rfl))⟩
  · have hc : sf_ch op i := Or.inr (Or.inr (Or.inr o))
    obtain ⟨x, hx, ex⟩ := (hv i hi).2.2.1 hc
    obtain ⟨q, hq, eq⟩ := (hv i hi).2.1 (by rw [o]; decide) (by rw [o]; decide)
    have ex' : sf_n ar i = x := sf_n_e ex (by omega)
    have eq' : sf_n rg i = q := sf_n_e eq (by omega)
    refine nm_r (ea.trans o) (br_f (by decide) (br_f (by decide) (br_f (by decide) (br_t rfl (br_f (by decide) (br_f (by decide) ⟨hin, nm_r (e' := (1 : Int32) <<< (nI x &&& 31)) (by rw [nI_clamp (by omega), ex]) (br_f (by decide) (br_t rfl ⟨hin, nm_r (e' := ((1 : Int32) <<< (nI x &&& 31)) ||| ((1 : Int32) <<< (nI q &&& 31))) (by rw [nI_clamp (by omega), eq]) (sx_ka63 hn hv hi hc ?_ hp)⟩))⟩))))))
    constructor
    · rintro ⟨r, h1, h2⟩
      rw [sf_orI, sf_oneI x (by omega), sf_oneI q (by omega)] at h2
      rcases h2 with h2 | h2
      · subst h2; exact Or.inl ⟨by rw [o]; decide, by rw [ex']; exact h1⟩
      · subst h2; exact Or.inr ⟨Or.inr o, by rw [eq']; exact h1⟩
    · rintro (w | w)
      · exact ⟨x, by have := w.2; rw [ex'] at this; exact this, (sf_orI _ _ _).mpr (Or.inl ((sf_oneI x (by omega) x).mpr rfl))⟩
      · exact ⟨q, by have := w.2; rw [eq'] at this; exact this, (sf_orI _ _ _).mpr (Or.inr ((sf_oneI q (by omega) q).mpr rfl))⟩
  · exact nm_r (ea.trans o) (br_f (by decide) (br_f (by decide) (br_f (by decide) (br_f (by decide) (br_t rfl (hn0 (hno _ o (by decide))))))))
  · exact nm_r (ea.trans o) (br_f (by decide) (br_f (by decide) (br_f (by decide) (br_f (by decide) (br_t rfl (hn0 (hno _ o (by decide))))))))
  · exact nm_r (ea.trans o) (br_f (by decide) (br_f (by decide) (br_f (by decide) (br_f (by decide) (br_t rfl (hn0 (hno _ o (by decide))))))))
  · exact nm_r (ea.trans o) (br_f (by decide) (br_f (by decide) (br_f (by decide) (br_f (by decide) (br_t rfl (hn0 (hno _ o (by decide))))))))
theorem sx_passOn {post : SX → Prop} {nm : Nat → Int32} {n : Nat} {co se us : Int32} {op rg ar nx me un kn he po pc sc en : Nat → Int32} {i : Nat} (hn : n ≤ 16) (hx : ∀ i, i < n → nx i = nm i) (hv : sf_val n op rg ar) (hi : i < n)
    (hp : ∀ a K, (∀ r, bt a r = true ↔ sf_A op rg ar (sf_t kn) (fun i => bt us i = true) i r) → (∀ j, j < n → bt (nm i) j = true → K j = kn j ||| a) → (∀ j, j < n → ¬ bt (nm i) j = true → K j = kn j) → post (nI n, co, se, us, op, rg, ar, nx, me, un, K, he, po, pc, sc, en)) : wpX_passOn post (nI n, co, se, us, op, rg, ar, nx, me, un, kn, he, po, pc, sc, en) (nI i) := by
  refine sx_knowingAfter hn hv hi (fun a ha => ?_)
  have key : ∀ d j K, j + d = n → (∀ k, k < j → bt (nm i) k = true → K k = kn k ||| a) → (∀ k, k < j → ¬ bt (nm i) k = true → K k = kn k) → (∀ k, j ≤ k → K k = kn k) →
      wX_passOn_8 post (nI i) a (nI n) co se us (d + 1) (nI j) op rg ar nx me un K he po pc sc en := by
    intro d
    induction d with
    | zero =>
      intro j K hj h1 h2 _
      have e : j = n := by omega
      subst e
      exact br_t (nI_le (Nat.le_refl _) (by omega)) (hp a K ha h1 h2)
    | succ d ih =>
      intro j K hj h1 h2 h3
      have hin : vp_in (nI j) 16 := vp_in_nI (by omega) (by omega)
      refine br_f (nI_ge (by omega) (by omega)) ⟨vp_in_nI (by omega) (by omega), sx_hasb (x' := nm i) j ((sx_at (by omega)).trans (hx i hi)) rfl (by omega) (fun hz => ⟨hin, hin, nm_r (e' := upd K j (K j ||| a)) (by rw [nI_clamp (by omega)]) (nm_r (nI_1 j) (ih (j + 1) _ (by omega) (fun k hk hb => ?_) (fun k hk hb => ?_) (fun k hk => ?_)))⟩) (fun hz => nm_r (nI_1 j) (ih (j + 1) K (by omega) (fun k hk hb => ?_) (fun k hk hb => ?_) (fun k hk => h3 k (by omega))))⟩
      · by_cases e : k = j
        · subst e; rw [pk_us, h3 k (Nat.le_refl k)]
        · rw [pk_un e]; exact h1 k (by omega) hb
      · by_cases e : k = j
        · subst e; exact absurd hz hb
        · rw [pk_un e]; exact h2 k (by omega) hb
      · rw [pk_un (by omega)]; exact h3 k (by omega)
      · by_cases e : k = j
        · subst e; exact absurd hb hz
        · exact h1 k (by omega) hb
      · by_cases e : k = j
        · subst e; exact h3 k (Nat.le_refl k)
        · exact h2 k (by omega) hb
  exact ⟨n + 1, key n 0 kn (by omega) (fun k hk => absurd hk (by omega)) (fun k hk => absurd hk (by omega)) (fun _ _ => rfl)⟩
theorem sx_findKnowing {post : SX → Prop} {nm : Nat → Int32} {n : Nat} {co se us : Int32} {op rg ar nx me un kn he po pc sc en : Nat → Int32} (hn0 : 0 < n) (hn : n ≤ 16) (hx : ∀ i, i < n → nx i = nm i) (hv : sf_val n op rg ar)
    (hco : ∀ j, bt co j = true ↔ sf_come n nm j) (hun : ∀ b, b < n → ∀ j, bt (un b) j = true ↔ sf_U n nm b j)
    (hp : ∀ K s u, (∀ j r, j < n → (sf_t K j r ↔ sf_K n nm op rg ar j r)) → (∀ b, b < n → (bt s b = true ↔ op b = 6 ∧ sf_K n nm op rg ar b (sf_n rg b))) →
      (∀ i, i < n → (bt u i = true ↔ sf_V n nm op rg (sf_K n nm op rg ar) i)) → post (nI n, co, s, u, op, rg, ar, nx, me, un, K, he, po, pc, sc, en)) : wpX_findKnowing post (nI n, co, se, us, op, rg, ar, nx, me, un, kn, he, po, pc, sc, en) := by
  have kc : ∀ (J : Int32 → Int32 → Int32 → Int32 → Int32 → (Nat → Int32) → (Nat → Int32) → (Nat → Int32) → (Nat → Int32) → (Nat → Int32) → (Nat → Int32) → (Nat → Int32) → (Nat → Int32) → (Nat → Int32) → (Nat → Int32) → (Nat → Int32) → (Nat → Int32) → Prop)
      (t : Nat) (s u : Int32) (K0 : Nat → Int32), (∀ i, i < n → (bt u i = true ↔ sf_V n nm op rg (sf_t K0) i)) →
      (∀ K, sf_P n nm op rg ar n (fun i => bt u i = true) K0 K n → J (nI (t + 1)) (nI n) co s u op rg ar nx me un K he po pc sc en) → ∀ d i K, i + d = n → sf_P n nm op rg ar n (fun i => bt u i = true) K0 K i →
      wX_findKnowing_54 post J (nI t) (d + 1) (nI i) (nI n) co s u op rg ar nx me un K he po pc sc en := by
    intro J t s u K0 hV hJ d
    induction d with
    | zero =>
      intro i K hi hP
      have e : i = n := by omega
      subst e
      exact br_t (nI_le (Nat.le_refl _) (by omega)) (nm_r (nI_1 t) (hJ K hP))
    | succ d ih =>
      intro i K hi hP
      refine br_f (nI_ge (by omega) (by omega)) (sx_hasb i rfl rfl (by omega) (fun hc => sx_passOn hn hx hv (by omega) (fun a K' ha h1 h2 => nm_r (nI_1 i) (ih (i + 1) K' (by omega) (sf_P_t hv (Nat.le_refl n) hV hP (by omega) ((hco i).mp hc) ha h1 h2)))) (fun hc => nm_r (nI_1 i) (ih (i + 1) K (by omega) (sf_P_f hP (fun w => hc ((hco i).mpr w))))))
  have kb : ∀ d t K s u, t + d = 65 → sf_T n nm op rg ar t K s u → wX_findKnowing_42 post (d + 1) (nI t) (nI n) co s u op rg ar nx me un K he po pc sc en := by
    intro d
    induction d with
    | zero =>
      intro t K s u ht hT
      have e : t = 65 := by omega
      subst e
      have := sf_T_e hn hT
      exact br_t (by decide) (hp K s u this.1 this.2.1 this.2.2)
    | succ d ih =>
      intro t K s u ht hT
      refine pk_le 65 t (fun z => absurd z (by omega)) (fun _ => sx_findSecretPlaces hn hv (fun s' u' hs' hu' => ?_))
      have hV : ∀ i, i < n → (bt u' i = true ↔ sf_V n nm op rg (sf_t K) i) := by
        intro i hi
        rw [hu' i]
        constructor
        · rintro (w | ⟨b, hb, ho, hk, hu⟩)
          · exact hT.2.2.2.1 i hi w
          · exact ⟨b, hb, sf_K_come (hT.1 b _ hb hk), ho, hk, (hun b hb i).mp hu⟩
        · rintro ⟨b, hb, _, ho, hk, hu⟩
          exact Or.inr ⟨b, hb, ho, hk, (hun b hb i).mpr hu⟩
      exact ⟨n + 1, kc _ t s' u' K hV (fun K' hP => ih (t + 1) K' s' u' (by omega) (sf_T_s hn0 hT hs' hV hP)) n 0 K (by omega) (sf_P_0 hT.1)⟩
  have ka : ∀ d i K, i + d = n → (∀ k, k < i → K k = 0) → wX_findKnowing_2 post (nI n) co se us (d + 1) (nI i) op rg ar nx me un K he po pc sc en := by
    intro d
    induction d with
    | zero =>
      intro i K hi h
      have e : i = n := by omega
      subst e
      refine br_t (nI_le (Nat.le_refl _) (by omega)) (nm_e ⟨66, kb 65 0 _ 0 0 rfl (sf_T_0 hn0 pk_us (fun j hj hj0 => ?_))⟩)
      rw [pk_un hj0]; exact h j hj
    | succ d ih =>
      intro i K hi h
      refine br_f (nI_ge (by omega) (by omega)) ⟨vp_in_nI (by omega) (by omega), nm_r (e' := upd K i 0) (by rw [nI_clamp (by omega)]) (nm_r (nI_1 i) (ih (i + 1) _ (by omega) (fun k hk => ?_)))⟩
      by_cases e : k = i
      · subst e; exact pk_us
      · rw [pk_un e]; exact h k (by omega)
  exact ⟨n + 1, ka n 0 kn (by omega) (fun k hk => absurd hk (by omega))⟩
/-- what the component has worked out of the program -/
def sx_D (n : Nat) (co se us : Int32) (op rg ar nx me un kn : Nat → Int32) : Prop :=
  (∀ i, i < n → nx i = sf_nm n op ar i) ∧ (∀ j, bt co j = true ↔ sf_come n (sf_nm n op ar) j) ∧ (∀ b, b < n → ∀ q, bt (me b) q = true ↔ sf_M n (sf_nm n op ar) b q) ∧
  (∀ b, b < n → ∀ j, bt (un b) j = true ↔ sf_U n (sf_nm n op ar) b j) ∧ (∀ j r, j < n → (sf_t kn j r ↔ sf_K n (sf_nm n op ar) op rg ar j r)) ∧
  (∀ b, b < n → (bt se b = true ↔ op b = 6 ∧ sf_K n (sf_nm n op ar) op rg ar b (sf_n rg b))) ∧ (∀ i, i < n → (bt us i = true ↔ sf_V n (sf_nm n op ar) op rg (sf_K n (sf_nm n op ar) op rg ar) i))
theorem sx_applyRules {post : SX → Prop} {n : Nat} {co se us : Int32} {op rg ar nx me un kn he po pc sc en : Nat → Int32} (hn0 : 0 < n) (hn : n ≤ 16) (hv : sf_val n op rg ar)
    (hp : ∀ co se us nx me un kn, sx_D n co se us op rg ar nx me un kn → post (nI n, co, se, us, op, rg, ar, nx, me, un, kn, he, po, pc, sc, en)) : wpX_applyRules post (nI n, co, se, us, op, rg, ar, nx, me, un, kn, he, po, pc, sc, en) := by
  have hok : sf_ok n (sf_nm n op ar) := sf_nm_ok hn
  have k2 : ∀ co se us nx kn, (∀ i, i < n → nx i = sf_nm n op ar i) → (∀ j, bt co j = true ↔ sf_come n (sf_nm n op ar) j) → ∀ d i me un, i + d = n →
      (∀ b, b < i → ∀ q, bt (me b) q = true ↔ sf_M n (sf_nm n op ar) b q) → (∀ b, b < i → ∀ j, bt (un b) j = true ↔ sf_U n (sf_nm n op ar) b j) →
      wX_applyRules_39 post (nI n) co se us (d + 1) (nI i) op rg ar nx me un kn he po pc sc en := by
    intro co se us nx kn hx hco d
    induction d with
    | zero =>
      intro i me un hi h1 h2
      have e : i = n := by omega
      subst e
      exact br_t (nI_le (Nat.le_refl _) (by omega)) (sx_findKnowing hn0 hn hx hv hco h2 (fun K s u a1 a2 a3 => hp _ _ _ _ _ _ _ ⟨hx, hco, h1, h2, a1, a2, a3⟩))
    | succ d ih =>
      intro i me un hi h1 h2
      have hin : vp_in (nI i) 16 := vp_in_nI (by omega) (by omega)
      refine br_f (nI_ge (by omega) (by omega)) (sx_findMeetings hn hx hok (by omega) (fun z hz => ⟨hin, nm_r (e' := upd me i z) (by rw [nI_clamp (by omega)]) ⟨hin, hin, sx_reach (s := sf_nm n op ar i) (b := z) (S := sf_B (sf_nm n op ar) i) (B := sf_M n (sf_nm n op ar) i) ((sx_at (by omega)).trans (hx i (by omega))) (by rw [nI_clamp (by omega), pk_us]) hn hx hok (hok i (by omega)) (fun _ => Iff.rfl) hz (fun y hy => ⟨hin, nm_r (e' := upd un i y) (by rw [nI_clamp (by omega)]) (nm_r (nI_1 i) (ih (i + 1) _ _ (by omega) (fun b hb q => ?_) (fun b hb q => ?_)))⟩)⟩⟩))
      · by_cases e : b = i
        · subst e; rw [pk_us]; exact hz q
        · rw [pk_un e]; exact h1 b (by omega) q
      · by_cases e : b = i
        · subst e; rw [pk_us]; exact hy q
        · rw [pk_un e]; exact h2 b (by omega) q
  have k1 : ∀ d i nx, i + d = n → (∀ k, k < i → nx k = sf_nm n op ar k) → wX_applyRules_2 post (nI n) co se us (d + 1) (nI i) op rg ar nx me un kn he po pc sc en := by
    intro d
    induction d with
    | zero =>
      intro i nx hi h
      have e : i = n := by omega
      subst e
      exact br_t (nI_le (Nat.le_refl _) (by omega)) (sx_reach (S := fun j => j = 0) (B := sf_no) rfl rfl hn h hok (fun i hi => by have := (sf_uno i).mp hi; omega) sf_uno (fun j => ⟨fun w => absurd w (sf_0I j), fun w => absurd w (fun z => z)⟩) (fun z hz => ⟨i + 1, k2 z se us nx kn h hz i 0 me un (by omega) (fun b hb => absurd hb (by omega)) (fun b hb => absurd hb (by omega))⟩))
    | succ d ih =>
      intro i nx hi h
      refine br_f (nI_ge (by omega) (by omega)) (sx_findNext hn hv (by omega) ⟨vp_in_nI (by omega) (by omega), nm_r (e' := upd nx i (sf_nm n op ar i)) (by rw [nI_clamp (by omega)]) (nm_r (nI_1 i) (ih (i + 1) _ (by omega) (fun k hk => ?_)))⟩)
      by_cases e : k = i
      · subst e; exact pk_us
      · rw [pk_un e]; exact h k (by omega)
  exact ⟨n + 1, k1 n 0 nx (by omega) (fun k hk => absurd hk (by omega))⟩
end
section
/-! the reference's sets -/
theorem sy_target {post : Int32 → Prop} {n : Nat} {ed sp ou : Int32} {op rg ar ka he ro rw ln : Nat → Int32} {i x : Nat} (hi : i < 16) (hn : n ≤ 16) (hx : x ≤ 16) (ha : ar i = nI x) (h : post (nI (sf_tg n ar i))) : wpY_target post (nI n, ed, sp, ou, op, rg, ar, ka, he, ro, rw, ln) (nI i) := by
  have e : sf_n ar i = x := sf_n_e ha (by omega)
  have ea : ar (nI i).toNatClampNeg = nI x := by rw [nI_clamp (by omega), ha]
  unfold sf_tg at h
  rw [e] at h
  refine ⟨vp_in_nI hi (by omega), ?_⟩
  rw [ea]
  refine pk_le n x (fun z => ?_) (fun z => ⟨vp_in_nI hi (by omega), ?_⟩)
  · rw [if_neg (by omega)] at h; exact h
  · rw [if_pos z] at h; exact h
theorem sy_nexts {post : Int32 → Prop} {n : Nat} {ed sp ou : Int32} {op rg ar ka he ro rw ln : Nat → Int32} {i : Nat} (hn : n ≤ 16) (hv : sf_val n op rg ar) (hi : i < n) (h : post (sf_nm n op ar i)) : wpY_nexts post (nI n, ed, sp, ou, op, rg, ar, ka, he, ro, rw, ln) (nI i) := by
  have ea : op (nI i).toNatClampNeg = op i := sx_at (by omega)
  have hin : vp_in (nI i) 16 := vp_in_nI (by omega) (by omega)
  unfold sf_nm at h
  refine ⟨hin, sx_eq ea (fun o => ?_) (fun o => ⟨hin, sx_eq ea (fun o5 => ?_) (fun o5 => nm_r (e' := (1 : Int32) <<< (nI (i + 1) &&& 31)) (by rw [nI_1]) ⟨hin, sx_eq ea (fun o6 => ?_) (fun o6 => ?_)⟩)⟩)⟩
  · rw [if_pos o] at h; exact h
  · rw [if_neg o, if_pos o5] at h
    obtain ⟨x, hx, hax⟩ := (hv i hi).2.2.2 (Or.inl o5)
    exact sy_target (by omega) hn hx hax h
  · rw [if_neg o, if_neg o5, if_pos o6] at h
    obtain ⟨x, hx, hax⟩ := (hv i hi).2.2.2 (Or.inr o6)
    exact sy_target (by omega) hn hx hax h
  · rw [if_neg o, if_neg o5, if_neg o6] at h; exact h
theorem sy_reach {post : Int32 → Prop} {n : Nat} {ed sp ou : Int32} {op rg ar ka he ro rw ln : Nat → Int32} {b : Nat} {w : Int32} {B : Nat → Prop} (hn : n ≤ 16) (hv : sf_val n op rg ar) (hb : b < n) (hB : ∀ i, bt w i = true ↔ B i)
    (hp : ∀ z, (∀ j, bt z j = true ↔ sf_R n (sf_nm n op ar) (sf_B (sf_nm n op ar) b) B j) → post z) : wpY_reach post (nI n, ed, sp, ou, op, rg, ar, ka, he, ro, rw, ln) (nI b) w := by
  have hok : sf_ok n (sf_nm n op ar) := sf_nm_ok hn
  have hin : ∀ (J : Int32 → Int32 → Prop) (y : Int32), (∀ z, sf_J n (sf_nm n op ar) (sf_B (sf_nm n op ar) b) (fun i => bt w i = true) z y → J z y) →
      ∀ d i z, i + d = n → sf_J1 n (sf_nm n op ar) (sf_B (sf_nm n op ar) b) (fun i => bt w i = true) y i z → wY_reach_35 post J w y (nI n) ed sp ou op rg ar ka he ro rw ln (d + 1) z (nI i) := by
    intro J y hJ d
    induction d with
    | zero =>
      intro i z hi h
      have e : i = n := by omega
      subst e
      exact br_t (nI_le (Nat.le_refl _) (by omega)) (hJ z (sf_J1_n h))
    | succ d ih =>
      intro i z hi h
      exact br_f (nI_ge (by omega) (by omega)) (sx_if (sf_has z i (by omega)) (fun hz => sy_nexts hn hv (by omega) (nm_e (nm_r (nI_1 i) (ih (i + 1) _ (by omega) (sf_J1_t (by omega) h hz))))) (fun hz => nm_r (nI_1 i) (ih (i + 1) z (by omega) (sf_J1_f h hz))))
  have hout : ∀ m z y, n + 1 - sf_c (bt y) (n + 1) ≤ m → sf_J n (sf_nm n op ar) (sf_B (sf_nm n op ar) b) (fun i => bt w i = true) z y → wY_reach_23 post w (nI n) ed sp ou op rg ar ka he ro rw ln (m + 1) z y := by
    intro m
    induction m with
    | zero =>
      intro z y hm h
      refine br_c (fun e => ?_) (fun e => ?_)
      · subst e
        exact hp z (fun j => (sf_J_e h j).trans (sf_R_congr (fun _ => Iff.rfl) hB j))
      · have := sf_J_lt hok (hok b hb) h e
        omega
    | succ m ih =>
      intro z y hm h
      refine br_c (fun e => ?_) (fun e => ?_)
      · subst e
        exact hp z (fun j => (sf_J_e h j).trans (sf_R_congr (fun _ => Iff.rfl) hB j))
      · have := sf_J_lt hok (hok b hb) h e
        exact ⟨n + 1, hin _ z (fun z' h' => ih z' z (by omega) h') n 0 z (by omega) (sf_J1_0 h)⟩
  refine pk_eq b n (fun e => absurd e (by omega)) (fun _ => sy_nexts hn hv hb (nm_e ⟨n + 1 + 1, hout (n + 1) _ 0 (by omega) sf_J_0⟩))
theorem sy_allComeTo {post : Int32 → Prop} {n : Nat} {ed sp ou : Int32} {op rg ar ka he ro rw ln : Nat → Int32} (hn0 : 0 < n) (hn : n ≤ 16) (hv : sf_val n op rg ar)
    (hp : ∀ z, (∀ j, bt z j = true ↔ sf_come n (sf_nm n op ar) j) → post z) : wpY_allComeTo post (nI n, ed, sp, ou, op, rg, ar, ka, he, ro, rw, ln) := by
  unfold wpY_allComeTo
  dsimp only
  refine sy_reach (b := 0) (B := sf_no) hn hv hn0 (fun j => ⟨fun w => absurd w (sf_0I j), fun w => absurd w (fun z => z)⟩) (fun z hz => hp _ (fun j => ?_))
  rw [sf_orI, sf_uno, hz j, sf_come_Y hn0]
  exact ⟨Or.symm, Or.symm⟩
theorem sy_meetings {post : Int32 → Prop} {n : Nat} {ed sp ou : Int32} {op rg ar ka he ro rw ln : Nat → Int32} {b : Nat} (hn : n ≤ 16) (hv : sf_val n op rg ar) (hb : b < n)
    (hp : ∀ z, (∀ q, bt z q = true ↔ sf_M n (sf_nm n op ar) b q) → post z) : wpY_meetings post (nI n, ed, sp, ou, op, rg, ar, ka, he, ro, rw, ln) (nI b) := by
  unfold wpY_meetings
  dsimp only
  refine sy_reach (B := sf_no) hn hv hb (fun j => ⟨fun w => absurd w (sf_0I j), fun w => absurd w (fun z => z)⟩) (fun z hz => sx_if (sf_has0 z n (by omega)) (fun h => hp 0 (fun q => ⟨fun w => absurd w (sf_0I q), fun w => absurd ((hz n).mpr ((sf_M_Y0 hb).mp w.1)) h⟩)) (fun h => nm_e ?_))
  have h0 : sf_R n (sf_nm n op ar) (fun j => j = b) sf_no n := (sf_M_Y0 hb).mpr ((hz n).mp (Classical.byContradiction (fun w => h w)))
  have key : ∀ d q y, q + d = n → (∀ p, bt y p = true ↔ sf_M n (sf_nm n op ar) b p ∧ (p < q ∨ p = n)) → wY_meetings_30 post (nI b) (nI n) ed sp ou op rg ar ka he ro rw ln (d + 1) y (nI q) := by
    intro d
    induction d with
    | zero =>
      intro q y hq hy
      have e : q = n := by omega
      subst e
      exact br_t (nI_le (Nat.le_refl _) (by omega)) (hp y (fun p => (hy p).trans ⟨fun w => w.1, fun w => ⟨w, by have := w.2.1; omega⟩⟩))
    | succ d ih =>
      intro q y hq hy
      have stay : ¬ sf_M n (sf_nm n op ar) b q → wY_meetings_30 post (nI b) (nI n) ed sp ou op rg ar ka he ro rw ln (d + 1) y (nI (q + 1)) := fun w =>
        ih (q + 1) y (by omega) (fun p => (hy p).trans ⟨fun v => ⟨v.1, by omega⟩, fun v => ⟨v.1, by
          by_cases e : p = q
          · subst e; exact absurd v.1 w
          · omega⟩⟩)
      refine br_f (nI_ge (by omega) (by omega)) (sy_reach (B := fun j => j = q) hn hv hb (sf_oneI q (by omega)) (fun r hr => pk_eq q b (fun e => nm_r (nI_1 q) (stay (fun w => w.2.2.1 e))) (fun ne => sx_if (sf_has0 r n (by omega)) (fun h => nm_e (nm_r (nI_1 q) (ih (q + 1) _ (by omega) (fun p => ?_)))) (fun h => nm_r (nI_1 q) (stay (fun w => h (fun v => w.2.2.2 ((sf_M_Y1 hb ne).mpr ((hr n).mp v)))))))))
      rw [sf_orI, hy p, sf_oneI q (by omega)]
      constructor
      · rintro (w | w)
        · exact ⟨w.1, by omega⟩
        · subst w
          exact ⟨⟨h0, by omega, ne, fun v => h ((hr n).mpr ((sf_M_Y1 hb ne).mp v))⟩, by omega⟩
      · intro w
        by_cases e : p = q
        · exact Or.inr e
        · exact Or.inl ⟨w.1, by omega⟩
  refine ⟨n + 1, key n 0 _ (by omega) (fun p => ?_)⟩
  rw [sf_oneI n (by omega)]
  constructor
  · intro w; subst w; exact ⟨(sf_M_n hb).mpr h0, Or.inr rfl⟩
  · intro w; omega
theorem sy_allUnder {post : Int32 → Prop} {n : Nat} {ed sp ou : Int32} {op rg ar ka he ro rw ln : Nat → Int32} {b : Nat} (hn : n ≤ 16) (hv : sf_val n op rg ar) (hb : b < n)
    (hp : ∀ z, (∀ j, bt z j = true ↔ sf_U n (sf_nm n op ar) b j) → post z) : wpY_allUnder post (nI n, ed, sp, ou, op, rg, ar, ka, he, ro, rw, ln) (nI b) := by
  unfold wpY_allUnder
  dsimp only
  refine sy_meetings hn hv hb (fun m hm => sy_reach hn hv hb hm (fun z hz => hp _ (fun j => ?_)))
  rw [sf_andnI, hz j, sf_oneI n (by omega)]
  constructor
  · intro w; exact w.1
  · intro w
    refine ⟨w, fun e => ?_⟩
    subst e
    exact sf_U_n hb w
theorem sy_isSecret {post : Int32 → Prop} {n : Nat} {ed sp ou : Int32} {op rg ar ka he ro rw ln : Nat → Int32} {b : Nat} {c : Int32} (hn : n ≤ 16) (hv : sf_val n op rg ar) (hb : b < n) (hc : ∀ j, bt c j = true ↔ sf_come n (sf_nm n op ar) j)
    (h1 : sf_come n (sf_nm n op ar) b → op b = 6 → sf_t ka b (sf_n rg b) → post 1) (h0 : ¬ (sf_come n (sf_nm n op ar) b ∧ op b = 6 ∧ sf_t ka b (sf_n rg b)) → post 0) : wpY_isSecret post (nI n, ed, sp, ou, op, rg, ar, ka, he, ro, rw, ln) (nI b) c := by
  have hin : vp_in (nI b) 16 := vp_in_nI (by omega) (by omega)
  refine sx_if ((sf_has c b (by omega)).trans (hc b)) (fun w => ⟨hin, sx_eq (sx_at (by omega)) (fun o => ⟨vp_in_nI (by omega) (by omega), hin, ?_⟩) (fun o => h0 (fun v => o v.2.1))⟩) (fun w => h0 (fun v => w v.1))
  obtain ⟨r, hr, er⟩ := (hv b hb).2.1 (by rw [o]; decide) (by rw [o]; decide)
  have er' : sf_n rg b = r := sf_n_e er (by omega)
  rw [nI_clamp (n := b) (by omega), er]
  exact sx_if (sf_has (ka b) r (by omega)) (fun v => h1 w o (by rw [er']; exact v)) (fun v => h0 (fun z => v (by have := z.2.2; rw [er'] at this; exact this)))
theorem sy_underSecrets {post : Int32 → Prop} {n : Nat} {ed sp ou : Int32} {op rg ar ka he ro rw ln : Nat → Int32} {c : Int32} (hn : n ≤ 16) (hv : sf_val n op rg ar) (hc : ∀ j, bt c j = true ↔ sf_come n (sf_nm n op ar) j)
    (hp : ∀ z, (∀ j, bt z j = true ↔ sf_V n (sf_nm n op ar) op rg (sf_t ka) j) → post z) : wpY_underSecrets post (nI n, ed, sp, ou, op, rg, ar, ka, he, ro, rw, ln) c := by
  have key : ∀ d i y, i + d = n → (∀ j, bt y j = true ↔ ∃ b, b < i ∧ sf_come n (sf_nm n op ar) b ∧ op b = 6 ∧ sf_t ka b (sf_n rg b) ∧ sf_U n (sf_nm n op ar) b j) → wY_underSecrets_4 post c (nI n) ed sp ou op rg ar ka he ro rw ln (d + 1) y (nI i) := by
    intro d
    induction d with
    | zero =>
      intro i y hi hy
      have e : i = n := by omega
      subst e
      exact br_t (nI_le (Nat.le_refl _) (by omega)) (hp y hy)
    | succ d ih =>
      intro i y hi hy
      refine br_f (nI_ge (by omega) (by omega)) (sy_isSecret hn hv (by omega) hc (fun w1 w2 w3 => br_f (by decide) (sy_allUnder hn hv (by omega) (fun z hz => nm_e (nm_r (nI_1 i) (ih (i + 1) _ (by omega) (fun j => ?_)))))) (fun w => br_t rfl (nm_r (nI_1 i) (ih (i + 1) y (by omega) (fun j => ?_)))))
      · rw [sf_orI, hy j, hz j]
        constructor
        · rintro (⟨b, v1, v2⟩ | v)
          · exact ⟨b, by omega, v2⟩
          · exact ⟨i, by omega, w1, w2, w3, v⟩
        · rintro ⟨b, v1, v2⟩
          by_cases e : b = i
          · subst e; exact Or.inr v2.2.2.2
          · exact Or.inl ⟨b, by omega, v2⟩
      · rw [hy j]
        constructor
        · rintro ⟨b, v1, v2⟩
          exact ⟨b, by omega, v2⟩
        · rintro ⟨b, v1, v2⟩
          by_cases e : b = i
          · subst e; exact absurd ⟨v2.1, v2.2.1, v2.2.2.1⟩ w
          · exact ⟨b, by omega, v2⟩
  exact ⟨n + 1, key n 0 0 (by omega) (fun j => ⟨fun w => absurd w (sf_0I j), fun ⟨b, v, _⟩ => absurd v (by omega)⟩)⟩
end
section
/-! the reference's knowing -/
theorem sy_b81 {post : Int32 → Prop} {n : Nat} {ed sp ou : Int32} {op rg ar ka he ro rw ln : Nat → Int32} {f x3 x4 x5 z : Int32} (h1 : (¬ f = 0 ∨ x5 = 1 ∨ z = 1) → post (x4 ||| x3)) (h0 : ¬ (¬ f = 0 ∨ x5 = 1 ∨ z = 1) → post (x4 &&& (x3 ^^^ (-1)))) : wY_behind_81 post f x3 x4 x5 z (nI n) ed sp ou op rg ar ka he ro rw ln :=
  br_c (fun e => br_c (fun e1 => br_f (by decide) (h1 (Or.inr (Or.inl e1)))) (fun e1 => br_c (fun e2 => br_f (by decide) (h1 (Or.inr (Or.inr e2)))) (fun e2 => br_t rfl (h0 (fun w => w.elim (fun v => v e) (fun v => v.elim e1 e2)))))) (fun e => br_f (by decide) (h1 (Or.inl e)))
theorem sy_behind {post : Int32 → Prop} {n : Nat} {ed sp ou : Int32} {op rg ar ka he ro rw ln : Nat → Int32} {i : Nat} {f : Int32} {V : Nat → Prop} (hn : n ≤ 16) (hv : sf_val n op rg ar) (hi : i < n) (hf : V i ↔ ¬ f = 0)
    (hp : ∀ a, (∀ r, bt a r = true ↔ sf_A op rg ar (sf_t ka) V i r) → post a) : wpY_behind post (nI n, ed, sp, ou, op, rg, ar, ka, he, ro, rw, ln) (nI i) f := by
  have hin : vp_in (nI i) 16 := vp_in_nI (by omega) (by omega)
  have ea : op (nI i).toNatClampNeg = op i := sx_at (by omega)
  have eg : rg (nI i).toNatClampNeg = rg i := sx_at (by omega)
  have er : ar (nI i).toNatClampNeg = ar i := sx_at (by omega)
  have hn0 : ∀ h : ¬ sf_ch op i, post (ka i) := fun h => hp _ (sf_A_n h)
  have hno : ∀ c : Int32, op i = c → (¬ c = 0 ∧ ¬ c = 1 ∧ ¬ c = 2 ∧ ¬ c = 3) → ¬ sf_ch op i := by
    rintro c e ⟨h0, h1, h2, h3⟩ (h | h | h | h)
    · exact h0 (e.symm.trans h)
    · exact h1 (e.symm.trans h)
    · exact h2 (e.symm.trans h)
    · exact h3 (e.symm.trans h)
  have fin : ∀ {x5 z : Int32}, sf_ch op i → ((x5 = 1 ∨ z = 1) ↔ ((¬ op i = 0 ∧ sf_t ka i (sf_n ar i)) ∨ ((op i = 2 ∨ op i = 3) ∧ sf_t ka i (sf_n rg i)))) → wY_behind_81 post f ((1 : Int32) <<< (rg i &&& 31)) (ka i) x5 z (nI n) ed sp ou op rg ar ka he ro rw ln := by
    intro x5 z hc hk
    obtain ⟨q, hq, eq⟩ := (hv i hi).2.1 (by rcases hc with e | e | e | e <;> rw [e] <;> decide) (by rcases hc with e | e | e | e <;> rw [e] <;> decide)
    refine sy_b81 (fun w => hp _ (sf_A_t hc hq eq ?_)) (fun w => hp _ (sf_A_f hc hq eq (fun v => w ?_)))
    · rcases w with w | w
      · exact Or.inr (Or.inr (hf.mpr w))
      · exact (hk.mp w).elim Or.inl (fun v => Or.inr (Or.inl v))
    · rcases v with v | v | v
      · exact Or.inr (hk.mpr (Or.inl v))
      · exact Or.inr (hk.mpr (Or.inr v))
      · exact Or.inl (hf.mp v)
  refine ⟨hin, nm_r (e' := (1 : Int32) <<< (rg i &&& 31)) (by rw [eg]) ⟨vp_in_nI (by omega) (by omega), nm_r (e' := ka i) (sx_at (by omega)) ⟨hin, ?_⟩⟩⟩
  rcases (hv i hi).1 with o | o | o | o | o | o | o | o
  · have hc : sf_ch op i := Or.inl o
    refine br_t (by rw [ea, o]; decide) ⟨hin, br_t (by rw [ea, o]) ⟨hin, br_t (by rw [ea, o]; decide) (fin hc ?_)⟩⟩
    constructor
    · rintro (w | w) <;> exact absurd w (by decide)
    · rintro (w | w)
      · exact absurd o w.1
      · rcases w.1 with e | e <;> rw [o] at e <;> exact absurd e (by decide)
  · have hc : sf_ch op i := Or.inr (Or.inl o)
    obtain ⟨x, hx, ex⟩ := (hv i hi).2.2.1 hc
    have ex' : sf_n ar i = x := sf_n_e ex (by omega)
    refine br_t (by rw [ea, o]; decide) ⟨hin, br_f (by rw [ea, o]; decide) ⟨hin, ⟨hin, br_t (by rw [ea, o]; decide) (fin hc ?_)⟩⟩⟩
    rw [er, ex, sf_has (ka i) x (by omega), ex']
    constructor
    · rintro (w | w)
      · exact Or.inl ⟨by rw [o]; decide, w⟩
      · exact absurd w (by decide)
    · rintro (w | w)
      · exact Or.inl w.2
      · rcases w.1 with e | e <;> rw [o] at e <;> exact absurd e (by decide)
  · have hc : sf_ch op i := Or.inr (Or.inr (Or.inl o))
    obtain ⟨x, hx, ex⟩ := (hv i hi).2.2.1 hc
    obtain ⟨q, hq, eq⟩ := (hv i hi).2.1 (by rw [o]; decide) (by rw [o]; decide)
    have ex' : sf_n ar i = x := sf_n_e ex (by omega)
    have eq' : sf_n rg i = q := sf_n_e eq (by omega)
    refine br_t (by rw [ea, o]; decide) ⟨hin, br_f (by rw [ea, o]; decide) ⟨hin, ⟨hin, br_f (by rw [ea, o]; decide) ⟨hin, fin hc ?_⟩⟩⟩⟩
    rw [er, ex, eg, eq, sf_has (ka i) x (by omega), sf_has (ka i) q (by omega), ex', eq']
    exact ⟨fun w => w.imp (fun v => ⟨by rw [o]; decide, v⟩) (fun v => ⟨Or.inl o, v⟩), fun w => w.imp (fun v => v.2) (fun v => v.2)⟩
  · have hc : sf_ch op i := Or.inr (Or.inr (Or.inr o))
    obtain ⟨x, hx, ex⟩ := (hv i hi).2.2.1 hc
    obtain ⟨q, hq, eq⟩ := (hv i hi).2.1 (by rw [o]; decide) (by rw [o]; decide)
    have ex' : sf_n ar i = x := sf_n_e ex (by omega)
    have eq' : sf_n rg i = q := sf_n_e eq (by omega)
    refine br_t (by rw [ea, o]; decide) ⟨hin, br_f (by rw [ea, o]; decide) ⟨hin, ⟨hin, br_f (by rw [ea, o]; decide) ⟨hin, fin hc ?_⟩⟩⟩⟩
    rw [er, ex, eg, eq, sf_has (ka i) x (by omega), sf_has (ka i) q (by omega), ex', eq']
    exact ⟨fun w => w.imp (fun v => ⟨by rw [o]; decide, v⟩) (fun v => ⟨Or.inr o, v⟩), fun w => w.imp (fun v => v.2) (fun v => v.2)⟩
  · exact br_f (by rw [ea, o]; decide) (hn0 (hno _ o (by decide)))
  · exact br_f (by rw [ea, o]; decide) (hn0 (hno _ o (by decide)))
  · exact br_f (by rw [ea, o]; decide) (hn0 (hno _ o (by decide)))
  · exact br_f (by rw [ea, o]; decide) (hn0 (hno _ o (by decide)))
theorem sy_sub {a k : Int32} (h : a &&& (k ^^^ (-1)) = 0) : k ||| a = k := by
  apply sf_ext
  intro j
  rw [sf_orI]
  refine ⟨fun w => w.elim id (fun v => ?_), Or.inl⟩
  apply Classical.byContradiction
  intro hk
  exact sf_0I j (by rw [← h]; exact (sf_andnI a k j).mpr ⟨v, hk⟩)
theorem sy_nsub {a k : Int32} (h : ¬ a &&& (k ^^^ (-1)) = 0) : ¬ k ||| a = k := by
  intro e
  obtain ⟨j, hj⟩ := sf_nz.mp h
  have := (sf_andnI a k j).mp hj
  apply this.2
  rw [← e, sf_orI]
  exact Or.inr this.1
theorem sf_mu_pos (n : Nat) (K : Nat → Int32) : 0 < sf_mu n K 1 := by
  unfold sf_mu
  have := sf_k_le K (n + 1)
  rw [if_neg (by decide : ¬ (1 : Int32) = 0)]
  omega
/-- the inner loop over the next places -/
theorem sy_fk95 {post : SY → Prop} {J37 : Int32 → (Nat → Int32) → (Nat → Int32) → (Nat → Int32) → (Nat → Int32) → (Nat → Int32) → (Nat → Int32) → (Nat → Int32) → (Nat → Int32) → Prop}
    {J52 : Int32 → Int32 → (Nat → Int32) → (Nat → Int32) → (Nat → Int32) → (Nat → Int32) → (Nat → Int32) → (Nat → Int32) → (Nat → Int32) → (Nat → Int32) → Prop} {n : Nat} {ed sp ou : Int32} {op rg ar ka he ro rw ln : Nat → Int32} {c u a N mo : Int32} {i : Nat} (hn : n ≤ 16) (hi : i < n) (hc : bt c i = true)
    (hJ : ∀ mo' K, (∀ k, k < n + 1 → bt N k = true → K k = ka k ||| a) → (∀ k, k < n + 1 → ¬ bt N k = true → K k = ka k) →
      ((mo' = 1 ∧ (mo = 1 ∨ ∃ j, j < n + 1 ∧ ¬ K j = ka j)) ∨ (mo' = mo ∧ ∀ j, j < n + 1 → K j = ka j)) → J52 mo' (nI (i + 1)) op rg ar K he ro rw ln) :
    ∀ d j mo' K, j + d = n + 1 → (∀ k, k < j → bt N k = true → K k = ka k ||| a) → (∀ k, k < j → ¬ bt N k = true → K k = ka k) → (∀ k, j ≤ k → K k = ka k) →
      ((mo' = 1 ∧ (mo = 1 ∨ ∃ k, k < j ∧ ¬ K k = ka k)) ∨ (mo' = mo ∧ ∀ k, k < j → K k = ka k)) → wY_findKnowing_95 post J37 J52 c u (nI i) a N (nI n) ed sp ou (d + 1) mo' (nI j) op rg ar K he ro rw ln := by
  intro d
  induction d with
  | zero =>
    intro j mo' K hj h1 h2 h3 h4
    have e : j = n + 1 := by omega
    subst e
    exact br_t (nI_lt (by omega) (by omega)) (nm_r (nI_1 i) (hJ mo' K h1 h2 h4))
  | succ d ih =>
    intro j mo' K hj h1 h2 h3 h4
    have hin : vp_in (nI j) 17 := vp_in_nI (by omega) (by omega)
    have ek : K (nI j).toNatClampNeg = K j := sx_at (by omega)
    have ekj : K j = ka j := h3 j (Nat.le_refl j)
    have stay : (bt N j = true → ka j ||| a = ka j) → wY_findKnowing_95 post J37 J52 c u (nI i) a N (nI n) ed sp ou (d + 1) mo' (nI (j + 1)) op rg ar K he ro rw ln := by
      intro hs
      refine ih (j + 1) mo' K (by omega) (fun k hk hb => ?_) (fun k hk hb => ?_) (fun k hk => h3 k (by omega)) ?_
      · by_cases e : k = j
        · subst e; rw [ekj, hs hb]
        · exact h1 k (by omega) hb
      · by_cases e : k = j
        · subst e; exact ekj
        · exact h2 k (by omega) hb
      · rcases h4 with ⟨m1, m2⟩ | ⟨m1, m2⟩
        · exact Or.inl ⟨m1, m2.imp id (fun ⟨k, v⟩ => ⟨k, by omega, v.2⟩)⟩
        · refine Or.inr ⟨m1, fun k hk => ?_⟩
          by_cases e : k = j
          · subst e; exact ekj
          · exact m2 k (by omega)
    refine br_f (nI_nlt (by omega) (by omega)) (sx_if (sf_has c i (by omega)) (fun _ => sx_if (sf_has N j (by omega)) (fun hN => ⟨hin, ?_⟩) (fun hN => nm_r (nI_1 j) (stay (fun w => absurd w hN)))) (fun w => absurd hc w))
    rw [ek, ekj]
    refine br_c (fun w => nm_r (nI_1 j) (stay (fun _ => sy_sub w))) (fun w => ⟨hin, hin, nm_r (e' := upd K j (ka j ||| a)) (by rw [nI_clamp (by omega)]) (nm_r (nI_1 j) (ih (j + 1) 1 _ (by omega) (fun k hk hb => ?_) (fun k hk hb => ?_) (fun k hk => ?_) (Or.inl ⟨rfl, Or.inr ⟨j, by omega, ?_⟩⟩)))⟩)
    · by_cases e : k = j
      · subst e; exact pk_us
      · rw [pk_un e]; exact h1 k (by omega) hb
    · by_cases e : k = j
      · subst e; exact absurd hN hb
      · rw [pk_un e]; exact h2 k (by omega) hb
    · rw [pk_un (by omega)]; exact h3 k (by omega)
    · rw [pk_us]; exact sy_nsub w
theorem sy_findKnowing {post : SY → Prop} {n : Nat} {ed sp ou : Int32} {op rg ar ka he ro rw ln : Nat → Int32} (hn0 : 0 < n) (hn : n ≤ 16) (hv : sf_val n op rg ar)
    (hp : ∀ K, (∀ j r, j < n → (sf_t K j r ↔ sf_K n (sf_nm n op ar) op rg ar j r)) → post (nI n, ed, sp, ou, op, rg, ar, K, he, ro, rw, ln)) : wpY_findKnowing post (nI n, ed, sp, ou, op, rg, ar, ka, he, ro, rw, ln) := by
  unfold wpY_findKnowing
  dsimp only
  refine sy_allComeTo hn0 hn hv (fun c hc => ?_)
  have k52 : ∀ (J37 : Int32 → (Nat → Int32) → (Nat → Int32) → (Nat → Int32) → (Nat → Int32) → (Nat → Int32) → (Nat → Int32) → (Nat → Int32) → (Nat → Int32) → Prop) (u : Int32) (K0 : Nat → Int32),
      (∀ i, i < n → (bt u i = true ↔ sf_V n (sf_nm n op ar) op rg (sf_t K0) i)) → (∀ K mo, sf_Q n (sf_nm n op ar) op rg ar (fun i => bt u i = true) K0 K n mo → J37 mo op rg ar K he ro rw ln) →
      ∀ d i mo K, i + d = n → sf_Q n (sf_nm n op ar) op rg ar (fun i => bt u i = true) K0 K i mo → wY_findKnowing_52 post J37 c u (nI n) ed sp ou (d + 1) mo (nI i) op rg ar K he ro rw ln := by
    intro J37 u K0 hV hJ d
    induction d with
    | zero =>
      intro i mo K hi hQ
      have e : i = n := by omega
      subst e
      exact br_t (nI_le (Nat.le_refl _) (by omega)) (hJ K mo hQ)
    | succ d ih =>
      intro i mo K hi hQ
      have body : ∀ f : Int32, (bt u i = true ↔ ¬ f = 0) → wY_findKnowing_79 post J37 (wY_findKnowing_52 post J37 c u (nI n) ed sp ou (d + 1)) c mo u (nI i) f (nI i) (nI n) ed sp ou op rg ar K he ro rw ln := by
        intro f hf
        refine sy_behind (V := fun i => bt u i = true) hn hv (by omega) hf (fun a ha => sy_nexts hn hv (by omega) ?_)
        by_cases hci : bt c i = true
        · exact ⟨n + 1 + 1, sy_fk95 hn (by omega) hci (fun mo' K' h1 h2 h3 => ih (i + 1) mo' K' (by omega) (sf_Q_t hv hV hQ (by omega) ((hc i).mp hci) ha h1 h2 h3)) (n + 1) 0 mo K (by omega) (fun k hk => absurd hk (by omega)) (fun k hk => absurd hk (by omega)) (fun _ _ => rfl) (Or.inr ⟨rfl, fun k hk => absurd hk (by omega)⟩)⟩
        · exact ⟨1, br_f (nI_nlt (a := n) (b := 0) (by omega) (by omega)) (br_f (fun w => hci ((sf_has c i (by omega)).mp w)) (nm_r (nI_1 i) (ih (i + 1) mo K (by omega) (sf_Q_f hQ (fun w => hci ((hc i).mpr w))))))⟩
      exact br_f (nI_ge (by omega) (by omega)) (sx_if (sf_has u i (by omega)) (fun w => body 1 ⟨fun _ => by decide, fun _ => w⟩) (fun w => body 0 ⟨fun v => absurd v w, fun v => absurd rfl v⟩))
  have k37 : ∀ m mo K, sf_mu n K mo ≤ m → sf_Y n (sf_nm n op ar) op rg ar K mo → wY_findKnowing_37 post c (nI n) ed sp ou (m + 1) mo op rg ar K he ro rw ln := by
    intro m
    induction m with
    | zero =>
      intro mo K hm hY
      refine br_c (fun e => ?_) (fun e => ?_)
      · subst e; exact hp K (fun j r hj => sf_Y_e hY j r hj)
      · rcases hY.2.2 with w | w
        · subst w; have := sf_mu_pos n K; omega
        · exact absurd w.1 e
    | succ m ih =>
      intro mo K hm hY
      refine br_c (fun e => ?_) (fun e => ?_)
      · subst e; exact hp K (fun j r hj => sf_Y_e hY j r hj)
      · rcases hY.2.2 with w | w
        · subst w
          exact sy_underSecrets hn hv hc (fun u hu => ⟨n + 1, k52 _ u K (fun i _ => hu i) (fun K' mo' hQ => ih mo' K' (by have := sf_mu_lt hQ; omega) (sf_Q_n hY.2.1 (fun i _ => hu i) hQ)) n 0 0 K (by omega) (sf_Q_0 hY)⟩)
        · exact absurd w.1 e
  have k7 : ∀ d i K, i + d = n + 1 → (∀ k, k < i → K k = 0) → wY_findKnowing_7 post c (nI n) ed sp ou (d + 1) (nI i) op rg ar K he ro rw ln := by
    intro d
    induction d with
    | zero =>
      intro i K hi h
      refine br_t (nI_lt (by omega) (by omega)) (nm_e ⟨_, k37 _ 1 _ (Nat.le_refl _) (sf_Y_0 pk_us (fun j hj hj0 => ?_))⟩)
      rw [pk_un hj0]; exact h j (by omega)
    | succ d ih =>
      intro i K hi h
      refine br_f (nI_nlt (by omega) (by omega)) ⟨vp_in_nI (by omega) (by omega), nm_r (e' := upd K i 0) (by rw [nI_clamp (by omega)]) (nm_r (nI_1 i) (ih (i + 1) _ (by omega) (fun k hk => ?_)))⟩
      by_cases e : k = i
      · subst e; exact pk_us
      · rw [pk_un e]; exact h k (by omega)
  exact ⟨n + 1 + 1, k7 (n + 1) 0 ka (by omega) (fun k hk => absurd hk (by omega))⟩
end
section
/-! the component's runs -/
def sx_e (n i : Nat) : Int32 := if n ≤ i then 0 else 1
def sx_W (s c : Nat) (w po po0 : Nat → Int32) : Prop := (∀ k, k < c → po (s * 60 + k) = w k) ∧ (∀ m, (m < s * 60 ∨ s * 60 + 60 ≤ m) → po m = po0 m)
theorem sf_st_le {n : Nat} {op rg ar g w : Nat → Int32} {i c : Nat} (hi : i < n) : (sf_st n op rg ar g i c w).2.1 ≤ n ∧ (sf_st n op rg ar g i c w).2.2.1 ≤ c + 1 := by
  have ht := sf_tg_le n ar i
  unfold sf_st
  repeat' split
  all_goals (dsimp only; omega)
theorem sx_p {post : Int32 → SX → Prop} {x y : Int32} {u : SX} (e : x = y) (h : post y u) : post x u := e ▸ h
theorem sy_p {post : Int32 → SY → Prop} {x y : Int32} {u : SY} (e : x = y) (h : post y u) : post x u := e ▸ h
theorem sx_ix {s c : Nat} : nI s * 60 + nI c = nI (s * 60 + c) := by
  rw [show (60 : Int32) = nI 60 from rfl, pk_mul, nI_add]
theorem sx_doInstruction {post : Int32 → SX → Prop} {n : Nat} {co se us : Int32} {op rg ar nx me un kn he po pc sc en : Nat → Int32} {i s c : Nat} {w po0 pc0 : Nat → Int32} (hn : n ≤ 16) (hv : sf_val n op rg ar) (hi : i < n) (hs : s < 4) (hc : c < 60)
    (hpc : pc s = nI c) (hpp : ∀ t, t ≠ s → pc t = pc0 t) (hpo : sx_W s c w po po0)
    (hp : ∀ po' pc', pc' s = nI (sf_st n op rg ar he i c w).2.2.1 → (∀ t, t ≠ s → pc' t = pc0 t) → sx_W s (sf_st n op rg ar he i c w).2.2.1 (sf_st n op rg ar he i c w).2.2.2 po' po0 →
      post (nI (sf_st n op rg ar he i c w).2.1) (nI n, co, se, us, op, rg, ar, nx, me, un, kn, (sf_st n op rg ar he i c w).1, po', pc', sc, en)) : wpX_doInstruction post (nI n, co, se, us, op, rg, ar, nx, me, un, kn, he, po, pc, sc, en) (nI i) (nI s) := by
  have hin : vp_in (nI i) 16 := vp_in_nI (by omega) (by omega)
  have his : vp_in (nI s) 4 := vp_in_nI hs (by omega)
  have ea : op (nI i).toNatClampNeg = op i := sx_at (by omega)
  have eg : rg (nI i).toNatClampNeg = rg i := sx_at (by omega)
  have er : ar (nI i).toNatClampNeg = ar i := sx_at (by omega)
  have hr4 : ¬ op i = 5 → ¬ op i = 7 → vp_in (rg i) 4 := fun h5 h7 => by
    obtain ⟨r, hr, e⟩ := (hv i hi).2.1 h5 h7
    rw [e]; exact vp_in_nI hr (by omega)
  have hx4 : sf_ch op i → vp_in (ar i) 4 := fun h => by
    obtain ⟨r, hr, e⟩ := (hv i hi).2.2.1 h
    rw [e]; exact vp_in_nI hr (by omega)
  refine ⟨hin, nm_r eg ⟨hin, nm_r er ⟨hin, ?_⟩⟩⟩
  rcases (hv i hi).1 with o | o | o | o | o | o | o | o
  · have q1 := hr4 (by rw [o]; decide) (by rw [o]; decide)
    have es : sf_st n op rg ar he i c w = (upd he (sf_n rg i) (ar i), i + 1, c, w) := by
      unfold sf_st; rw [if_pos o]
    rw [es] at hp
    exact nm_r (ea.trans o) (br_f (by decide) (br_f (by decide) (br_t rfl ⟨q1, nm_e (sx_p (nI_1 i) (hp po pc hpc hpp hpo))⟩)))
  · have q1 := hr4 (by rw [o]; decide) (by rw [o]; decide)
    have q2 := hx4 (Or.inr (Or.inl o))
    have es : sf_st n op rg ar he i c w = (upd he (sf_n rg i) (he (sf_n ar i)), i + 1, c, w) := by
      unfold sf_st; rw [if_neg (by rw [o]; decide), if_pos o]
    rw [es] at hp
    exact nm_r (ea.trans o) (br_f (by decide) (br_f (by decide) (br_f (by decide) (br_t rfl ⟨q2, q1, nm_e (sx_p (nI_1 i) (hp po pc hpc hpp hpo))⟩))))
  · have q1 := hr4 (by rw [o]; decide) (by rw [o]; decide)
    have q2 := hx4 (Or.inr (Or.inr (Or.inl o)))
    have es : sf_st n op rg ar he i c w = (upd he (sf_n rg i) (sf_md (he (sf_n rg i) + he (sf_n ar i))), i + 1, c, w) := by
      unfold sf_st; rw [if_neg (by rw [o]; decide), if_neg (by rw [o]; decide), if_pos o]
    rw [es] at hp
    exact nm_r (ea.trans o) (br_f (by decide) (br_f (by decide) (br_f (by decide) (br_f (by decide) (br_t rfl ⟨q1, q2, by decide, q1, nm_e (sx_p (nI_1 i) (hp po pc hpc hpp hpo))⟩)))))
  · have q1 := hr4 (by rw [o]; decide) (by rw [o]; decide)
    have q2 := hx4 (Or.inr (Or.inr (Or.inr o)))
    have es : sf_st n op rg ar he i c w = (upd he (sf_n rg i) (sf_md (he (sf_n rg i) + 4 - he (sf_n ar i))), i + 1, c, w) := by
      unfold sf_st; rw [if_neg (by rw [o]; decide), if_neg (by rw [o]; decide), if_neg (by rw [o]; decide), if_pos o]
    rw [es] at hp
    exact nm_r (ea.trans o) (br_f (by decide) (br_f (by decide) (br_f (by decide) (br_f (by decide) (br_f (by decide) (br_t rfl ⟨q1, q2, by decide, q1, nm_e (sx_p (nI_1 i) (hp po pc hpc hpp hpo))⟩))))))
  · have q1 := hr4 (by rw [o]; decide) (by rw [o]; decide)
    have es : sf_st n op rg ar he i c w = (he, i + 1, c + 1, upd w c (he (sf_n rg i))) := by
      unfold sf_st; rw [if_neg (by rw [o]; decide), if_neg (by rw [o]; decide), if_neg (by rw [o]; decide), if_neg (by rw [o]; decide), if_pos o]
    rw [es] at hp
    dsimp only at hp
    have eix : nI s * 60 + pc (nI s).toNatClampNeg = nI (s * 60 + c) := by rw [nI_clamp (by omega), hpc, sx_ix]
    refine nm_r (ea.trans o) (br_f (by decide) (br_f (by decide) (br_f (by decide) (br_f (by decide) (br_f (by decide) (br_f (by decide) (br_t rfl ⟨his, q1, ?_⟩)))))))
    rw [eix]
    refine ⟨vp_in_nI (by omega) (by omega), nm_r (e' := upd po (s * 60 + c) (he (sf_n rg i))) (by rw [nI_clamp (by omega)]; rfl) ⟨his, his, nm_r (e' := upd pc s (nI (c + 1))) (by rw [nI_clamp (by omega), hpc, nI_1]) (sx_p (nI_1 i) (hp _ _ pk_us (fun t ht => ?_) ⟨fun k hk => ?_, fun m hm => ?_⟩))⟩⟩
    · rw [pk_un ht]; exact hpp t ht
    · by_cases e : k = c
      · subst e; rw [pk_us, pk_us]
      · rw [pk_un (by omega), pk_un e]; exact hpo.1 k (by omega)
    · rw [pk_un (by omega)]; exact hpo.2 m hm
  · obtain ⟨x, hx, hax⟩ := (hv i hi).2.2.2 (Or.inl o)
    have es : sf_st n op rg ar he i c w = (he, sf_tg n ar i, c, w) := by
      unfold sf_st; rw [if_neg (by rw [o]; decide), if_neg (by rw [o]; decide), if_neg (by rw [o]; decide), if_neg (by rw [o]; decide), if_neg (by rw [o]; decide), if_pos o]
    rw [es] at hp
    exact nm_r (ea.trans o) (br_f (by decide) (br_f (by decide) (br_f (by decide) (br_f (by decide) (br_f (by decide) (br_f (by decide) (br_f (by decide) (br_t rfl (sx_target (by omega) hn hx hax (hp po pc hpc hpp hpo))))))))))
  · obtain ⟨x, hx, hax⟩ := (hv i hi).2.2.2 (Or.inr o)
    have q1 := hr4 (by rw [o]; decide) (by rw [o]; decide)
    have es : sf_st n op rg ar he i c w = if he (sf_n rg i) = 0 then (he, sf_tg n ar i, c, w) else (he, i + 1, c, w) := by
      unfold sf_st; rw [if_neg (by rw [o]; decide), if_neg (by rw [o]; decide), if_neg (by rw [o]; decide), if_neg (by rw [o]; decide), if_neg (by rw [o]; decide), if_neg (by rw [o]; decide), if_pos o]
    rw [es] at hp
    refine nm_r (ea.trans o) (br_f (by decide) (br_f (by decide) (br_f (by decide) (br_f (by decide) (br_f (by decide) (br_f (by decide) (br_f (by decide) (br_f (by decide) (br_t rfl ⟨q1, br_c (fun z => ?_) (fun z => ?_)⟩)))))))))
    · have z' : he (sf_n rg i) = 0 := z
      rw [if_pos z'] at hp
      exact sx_target (by omega) hn hx hax (hp po pc hpc hpp hpo)
    · have z' : ¬ he (sf_n rg i) = 0 := z
      rw [if_neg z'] at hp
      exact sx_p (nI_1 i) (hp po pc hpc hpp hpo)
  · have es : sf_st n op rg ar he i c w = (he, n, c, w) := by
      unfold sf_st; rw [if_neg (by rw [o]; decide), if_neg (by rw [o]; decide), if_neg (by rw [o]; decide), if_neg (by rw [o]; decide), if_neg (by rw [o]; decide), if_neg (by rw [o]; decide), if_neg (by rw [o]; decide)]
    rw [es] at hp
    exact nm_r (ea.trans o) (br_f (by decide) (br_t (by decide) (hp po pc hpc hpp hpo)))
theorem sx_doRun {post : SX → Prop} {n : Nat} {co se us : Int32} {op rg ar nx me un kn he po pc sc en : Nat → Int32} {p : Int32} {s : Nat} (hn : n ≤ 16) (hv : sf_val n op rg ar) (hs : s < 4)
    (hp : ∀ d g i c w po' pc', sf_go n op rg ar he p (nI s) = (d, g, i, c, w) → i ≤ n → c ≤ 60 → d ≤ 60 → pc' s = nI c → (∀ t, t ≠ s → pc' t = pc t) → sx_W s c w po' po →
      post (nI n, co, se, us, op, rg, ar, nx, me, un, kn, g, po', pc', upd sc s (nI d), upd en s (sx_e n i))) : wpX_doRun post (nI n, co, se, us, op, rg, ar, nx, me, un, kn, he, po, pc, sc, en) p (nI s) := by
  have his : vp_in (nI s) 4 := vp_in_nI hs (by omega)
  have ex : ∀ d g i c w po' pc', sf_go n op rg ar he p (nI s) = (d, g, i, c, w) → i ≤ n → c ≤ 60 → d ≤ 60 → pc' s = nI c → (∀ t, t ≠ s → pc' t = pc t) → sx_W s c w po' po →
      wX_doRun_68 post (nI s) (nI i) (nI d) (nI n) co se us op rg ar nx me un kn g po' pc' sc en := by
    intro d g i c w po' pc' h1 h2 h3 h3' h4 h5 h6
    have := hp d g i c w po' pc' h1 h2 h3 h3' h4 h5 h6
    unfold sx_e at this
    refine ⟨his, nm_r (e' := upd sc s (nI d)) (by rw [nI_clamp (by omega)]) (pk_le n i (fun z => ⟨his, nm_r (e' := upd en s 0) (by rw [nI_clamp (by omega)]) ?_⟩) (fun z => ⟨his, nm_r (e' := upd en s 1) (by rw [nI_clamp (by omega)]) ?_⟩))⟩
    · rw [if_pos z] at this; exact this
    · rw [if_neg (by omega)] at this; exact this
  have key : ∀ f d g i c w po' pc', d + f = 60 → sf_rn n op rg ar f d (g, i, c, w) = sf_go n op rg ar he p (nI s) → i ≤ n → c ≤ d → pc' s = nI c → (∀ t, t ≠ s → pc' t = pc t) → sx_W s c w po' po →
      wX_doRun_40 post (nI s) (f + 1) (nI i) (nI d) (nI n) co se us op rg ar nx me un kn g po' pc' sc en := by
    intro f
    induction f with
    | zero =>
      intro d g i c w po' pc' hd hr hi hc h4 h5 h6
      have e : d = 60 := by omega
      subst e
      rw [sf_rn_0] at hr
      exact br_t (by decide) (ex 60 g i c w po' pc' hr.symm hi hc (by omega) h4 h5 h6)
    | succ f ih =>
      intro d g i c w po' pc' hd hr hi hc h4 h5 h6
      refine pk_le 60 d (fun z => absurd z (by omega)) (fun _ => pk_le n i (fun z => ?_) (fun z => ?_))
      · rw [sf_rn_f (by omega)] at hr
        exact ex d g i c w po' pc' hr.symm hi (by omega) (by omega) h4 h5 h6
      · rw [sf_rn_t z] at hr
        have hb := sf_st_le (op := op) (rg := rg) (ar := ar) (g := g) (w := w) (c := c) z
        refine sx_doInstruction hn hv z hs (by omega) h4 h5 h6 ?_
        revert hr hb
        generalize sf_st n op rg ar g i c w = Q
        obtain ⟨g', i', c', w'⟩ := Q
        intro hr hb po'' pc'' a1 a2 a3
        dsimp only at hb a1 a3
        exact nm_r (nI_1 d) (ih (d + 1) g' i' c' w' po'' pc'' (by omega) hr hb.1 (by omega) a1 a2 a3)
  refine nm_e (nm_e (nm_e (nm_e ⟨his, nm_r (e' := upd pc s 0) (by rw [nI_clamp (by omega)]) ⟨61, key 60 0 _ 0 0 (fun _ => 0) po _ rfl rfl (by omega) (by omega) pk_us (fun t ht => pk_un ht) ⟨fun k hk => absurd hk (by omega), fun _ _ => rfl⟩⟩⟩)))
end
section
/-! the reference's runs -/
theorem sy_sub4 (a b : Int32) : a - b + 4 = a + 4 - b := by
  rw [Int32.sub_eq_add_neg, Int32.sub_eq_add_neg, Int32.add_assoc, Int32.add_assoc, Int32.add_comm (-b) 4]
def sy_W (c : Nat) (w ro : Nat → Int32) : Prop := ∀ k, k < c → ro k = w k
theorem sy_doOne {post : Int32 → SY → Prop} {n : Nat} {ed sp ou : Int32} {op rg ar ka he ro rw ln : Nat → Int32} {i c : Nat} {w : Nat → Int32} (hn : n ≤ 16) (hv : sf_val n op rg ar) (hi : i < n) (hc : c < 60) (hro : sy_W c w ro)
    (hp : ∀ ro', sy_W (sf_st n op rg ar he i c w).2.2.1 (sf_st n op rg ar he i c w).2.2.2 ro' →
      post (nI (sf_st n op rg ar he i c w).2.1) (nI n, ed, sp, nI (sf_st n op rg ar he i c w).2.2.1, op, rg, ar, ka, (sf_st n op rg ar he i c w).1, ro', rw, ln)) : wpY_doOne post (nI n, ed, sp, nI c, op, rg, ar, ka, he, ro, rw, ln) (nI i) := by
  have hin : vp_in (nI i) 16 := vp_in_nI (by omega) (by omega)
  have ea : op (nI i).toNatClampNeg = op i := sx_at (by omega)
  have eg : rg (nI i).toNatClampNeg = rg i := sx_at (by omega)
  have er : ar (nI i).toNatClampNeg = ar i := sx_at (by omega)
  have hr4 : ¬ op i = 5 → ¬ op i = 7 → vp_in (rg i) 4 := fun h5 h7 => by
    obtain ⟨r, hr, e⟩ := (hv i hi).2.1 h5 h7
    rw [e]; exact vp_in_nI hr (by omega)
  have hx4 : sf_ch op i → vp_in (ar i) 4 := fun h => by
    obtain ⟨r, hr, e⟩ := (hv i hi).2.2.1 h
    rw [e]; exact vp_in_nI hr (by omega)
  refine ⟨hin, nm_r eg ⟨hin, nm_r er ⟨hin, ?_⟩⟩⟩
  rcases (hv i hi).1 with o | o | o | o | o | o | o | o
  · have q1 := hr4 (by rw [o]; decide) (by rw [o]; decide)
    have es : sf_st n op rg ar he i c w = (upd he (sf_n rg i) (ar i), i + 1, c, w) := by
      unfold sf_st; rw [if_pos o]
    rw [es] at hp
    exact br_t (ea.trans o) ⟨q1, nm_e (sy_p (nI_1 i) (hp ro hro))⟩
  · have q1 := hr4 (by rw [o]; decide) (by rw [o]; decide)
    have q2 := hx4 (Or.inr (Or.inl o))
    have es : sf_st n op rg ar he i c w = (upd he (sf_n rg i) (he (sf_n ar i)), i + 1, c, w) := by
      unfold sf_st; rw [if_neg (by rw [o]; decide), if_pos o]
    rw [es] at hp
    exact br_f (by rw [ea, o]; decide) ⟨hin, br_t (ea.trans o) ⟨q2, q1, nm_e (sy_p (nI_1 i) (hp ro hro))⟩⟩
  · have q1 := hr4 (by rw [o]; decide) (by rw [o]; decide)
    have q2 := hx4 (Or.inr (Or.inr (Or.inl o)))
    have es : sf_st n op rg ar he i c w = (upd he (sf_n rg i) (sf_md (he (sf_n rg i) + he (sf_n ar i))), i + 1, c, w) := by
      unfold sf_st; rw [if_neg (by rw [o]; decide), if_neg (by rw [o]; decide), if_pos o]
    rw [es] at hp
    exact br_f (by rw [ea, o]; decide) ⟨hin, br_f (by rw [ea, o]; decide) ⟨hin, br_t (ea.trans o) ⟨q1, q2, by decide, q1, nm_e (sy_p (nI_1 i) (hp ro hro))⟩⟩⟩
  · have q1 := hr4 (by rw [o]; decide) (by rw [o]; decide)
    have q2 := hx4 (Or.inr (Or.inr (Or.inr o)))
    have es : sf_st n op rg ar he i c w = (upd he (sf_n rg i) (sf_md (he (sf_n rg i) + 4 - he (sf_n ar i))), i + 1, c, w) := by
      unfold sf_st; rw [if_neg (by rw [o]; decide), if_neg (by rw [o]; decide), if_neg (by rw [o]; decide), if_pos o]
    rw [es] at hp
    exact br_f (by rw [ea, o]; decide) ⟨hin, br_f (by rw [ea, o]; decide) ⟨hin, br_f (by rw [ea, o]; decide) ⟨hin, br_t (ea.trans o) ⟨q1, q2, by decide, q1, nm_r (e' := upd he (sf_n rg i) (sf_md (he (sf_n rg i) + 4 - he (sf_n ar i)))) (by rw [sy_sub4]; rfl) (sy_p (nI_1 i) (hp ro hro))⟩⟩⟩⟩
  · have q1 := hr4 (by rw [o]; decide) (by rw [o]; decide)
    have es : sf_st n op rg ar he i c w = (he, i + 1, c + 1, upd w c (he (sf_n rg i))) := by
      unfold sf_st; rw [if_neg (by rw [o]; decide), if_neg (by rw [o]; decide), if_neg (by rw [o]; decide), if_neg (by rw [o]; decide), if_pos o]
    rw [es] at hp
    dsimp only at hp
    refine br_f (by rw [ea, o]; decide) ⟨hin, br_f (by rw [ea, o]; decide) ⟨hin, br_f (by rw [ea, o]; decide) ⟨hin, br_f (by rw [ea, o]; decide) ⟨hin, br_t (ea.trans o) ⟨q1, vp_in_nI (by omega) (by omega), nm_r (e' := upd ro c (he (sf_n rg i))) (by rw [nI_clamp (by omega)]; rfl) (nm_r (nI_1 c) (sy_p (nI_1 i) (hp _ (fun k hk => ?_))))⟩⟩⟩⟩⟩
    by_cases e : k = c
    · subst e; rw [pk_us, pk_us]
    · rw [pk_un e, pk_un e]; exact hro k (by omega)
  · obtain ⟨x, hx, hax⟩ := (hv i hi).2.2.2 (Or.inl o)
    have es : sf_st n op rg ar he i c w = (he, sf_tg n ar i, c, w) := by
      unfold sf_st; rw [if_neg (by rw [o]; decide), if_neg (by rw [o]; decide), if_neg (by rw [o]; decide), if_neg (by rw [o]; decide), if_neg (by rw [o]; decide), if_pos o]
    rw [es] at hp
    exact br_f (by rw [ea, o]; decide) ⟨hin, br_f (by rw [ea, o]; decide) ⟨hin, br_f (by rw [ea, o]; decide) ⟨hin, br_f (by rw [ea, o]; decide) ⟨hin, br_f (by rw [ea, o]; decide) ⟨hin, br_t (ea.trans o) (sy_target (by omega) hn hx hax (hp ro hro))⟩⟩⟩⟩⟩
  · obtain ⟨x, hx, hax⟩ := (hv i hi).2.2.2 (Or.inr o)
    have q1 := hr4 (by rw [o]; decide) (by rw [o]; decide)
    have es : sf_st n op rg ar he i c w = if he (sf_n rg i) = 0 then (he, sf_tg n ar i, c, w) else (he, i + 1, c, w) := by
      unfold sf_st; rw [if_neg (by rw [o]; decide), if_neg (by rw [o]; decide), if_neg (by rw [o]; decide), if_neg (by rw [o]; decide), if_neg (by rw [o]; decide), if_neg (by rw [o]; decide), if_pos o]
    rw [es] at hp
    refine br_f (by rw [ea, o]; decide) ⟨hin, br_f (by rw [ea, o]; decide) ⟨hin, br_f (by rw [ea, o]; decide) ⟨hin, br_f (by rw [ea, o]; decide) ⟨hin, br_f (by rw [ea, o]; decide) ⟨hin, br_f (by rw [ea, o]; decide) ⟨hin, br_t (ea.trans o) ⟨q1, br_c (fun z => ?_) (fun z => ?_)⟩⟩⟩⟩⟩⟩⟩
    · have z' : he (sf_n rg i) = 0 := z
      rw [if_pos z'] at hp
      exact sy_target (by omega) hn hx hax (hp ro hro)
    · have z' : ¬ he (sf_n rg i) = 0 := z
      rw [if_neg z'] at hp
      exact sy_p (nI_1 i) (hp ro hro)
  · have es : sf_st n op rg ar he i c w = (he, n, c, w) := by
      unfold sf_st; rw [if_neg (by rw [o]; decide), if_neg (by rw [o]; decide), if_neg (by rw [o]; decide), if_neg (by rw [o]; decide), if_neg (by rw [o]; decide), if_neg (by rw [o]; decide), if_neg (by rw [o]; decide)]
    rw [es] at hp
    exact br_f (by rw [ea, o]; decide) ⟨hin, br_f (by rw [ea, o]; decide) ⟨hin, br_f (by rw [ea, o]; decide) ⟨hin, br_f (by rw [ea, o]; decide) ⟨hin, br_f (by rw [ea, o]; decide) ⟨hin, br_f (by rw [ea, o]; decide) ⟨hin, br_f (by rw [ea, o]; decide) (hp ro hro)⟩⟩⟩⟩⟩⟩
theorem sy_doRun {post : SY → Prop} {n : Nat} {ed sp ou : Int32} {op rg ar ka he ro rw ln : Nat → Int32} {p s : Int32} (hn : n ≤ 16) (hv : sf_val n op rg ar)
    (hp : ∀ d g i c w ro', sf_go n op rg ar he p s = (d, g, i, c, w) → i ≤ n → c ≤ 60 → d ≤ 60 → sy_W c w ro' → post (nI n, sx_e n i, nI d, nI c, op, rg, ar, ka, g, ro', rw, ln)) : wpY_doRun post (nI n, ed, sp, ou, op, rg, ar, ka, he, ro, rw, ln) p s := by
  have ex : ∀ d g i c w ro', sf_go n op rg ar he p s = (d, g, i, c, w) → i ≤ n → c ≤ 60 → d ≤ 60 → sy_W c w ro' → wY_doRun_76 post (nI i) (nI n) ed (nI d) (nI c) op rg ar ka g ro' rw ln := by
    intro d g i c w ro' h1 h2 h3 h3' h4
    have := hp d g i c w ro' h1 h2 h3 h3' h4
    unfold sx_e at this
    refine pk_eq i n (fun z => ?_) (fun z => ?_)
    · rw [if_pos (by omega)] at this; exact this
    · rw [if_neg (by omega)] at this; exact this
  have key : ∀ f d g i c w ro', d + f = 60 → sf_rn n op rg ar f d (g, i, c, w) = sf_go n op rg ar he p s → i ≤ n → c ≤ d → sy_W c w ro' → wY_doRun_40 post (f + 1) (nI i) (nI n) ed (nI d) (nI c) op rg ar ka g ro' rw ln := by
    intro f
    induction f with
    | zero =>
      intro d g i c w ro' hd hr hi hc h4
      have e : d = 60 := by omega
      subst e
      rw [sf_rn_0] at hr
      have := ex 60 g i c w ro' hr.symm hi hc (by omega) h4
      exact pk_le n i (fun z => this) (fun z => br_t (by decide) this)
    | succ f ih =>
      intro d g i c w ro' hd hr hi hc h4
      refine pk_le n i (fun z => ?_) (fun z => pk_le 60 d (fun v => absurd v (by omega)) (fun _ => nm_r (nI_1 d) ?_))
      · rw [sf_rn_f (by omega)] at hr
        exact ex d g i c w ro' hr.symm hi (by omega) (by omega) h4
      · rw [sf_rn_t z] at hr
        have hb := sf_st_le (op := op) (rg := rg) (ar := ar) (g := g) (w := w) (c := c) z
        refine sy_doOne (ou := 0) hn hv z (by omega) h4 ?_
        revert hr hb
        generalize sf_st n op rg ar g i c w = Q
        obtain ⟨g', i', c', w'⟩ := Q
        intro hr hb ro'' a1
        dsimp only at hb a1
        exact ih (d + 1) g' i' c' w' ro'' (by omega) hr hb.1 (by omega) a1
  exact nm_e (nm_e (nm_e (nm_e ⟨61, key 60 0 _ 0 0 (fun _ => 0) ro rfl rfl (by omega) (by omega) (fun k hk => absurd hk (by omega))⟩)))
end
section
/-! the component's count of outputs -/
/-- the runs with secrets below s, as the component keeps them -/
def sx_V (n : Nat) (F : Nat → sf_Cf) (s : Nat) (po pc en : Nat → Int32) : Prop :=
  ∀ t, t < s → (F t).2.2.1 ≤ 60 ∧ pc t = nI (F t).2.2.1 ∧ en t = sx_e n (F t).2.1 ∧ ∀ k, k < (F t).2.2.1 → po (t * 60 + k) = (F t).2.2.2 k
theorem sx_e0 {n i : Nat} : sx_e n i = 0 ↔ n ≤ i := by
  unfold sx_e
  by_cases h : n ≤ i
  · rw [if_pos h]; exact ⟨fun _ => h, fun _ => rfl⟩
  · rw [if_neg h]; exact ⟨fun e => absurd e (by decide), fun e => absurd e h⟩
theorem sx_haveSameOutput {post : Int32 → Prop} {n : Nat} {co se us : Int32} {op rg ar nx me un kn he po pc sc en : Nat → Int32} {F : Nat → sf_Cf} {m a b : Nat} (hm : m ≤ 4) (ha : a < m) (hb : b < m) (hV : sx_V n F m po pc en)
    (h1 : sf_eq (F a) (F b) → post 1) (h0 : ¬ sf_eq (F a) (F b) → post 0) : wpX_haveSameOutput post (nI n, co, se, us, op, rg, ar, nx, me, un, kn, he, po, pc, sc, en) (nI a) (nI b) := by
  have hia : vp_in (nI a) 4 := vp_in_nI (by omega) (by omega)
  have hib : vp_in (nI b) 4 := vp_in_nI (by omega) (by omega)
  obtain ⟨a1, a2, _, a4⟩ := hV a ha
  obtain ⟨b1, b2, _, b4⟩ := hV b hb
  have ea : pc (nI a).toNatClampNeg = nI (F a).2.2.1 := by rw [nI_clamp (by omega), a2]
  have eb : pc (nI b).toNatClampNeg = nI (F b).2.2.1 := by rw [nI_clamp (by omega), b2]
  refine ⟨hia, hib, ?_⟩
  rw [ea, eb]
  refine pk_eq (F a).2.2.1 (F b).2.2.1 (fun e => ?_) (fun e => h0 (fun w => e w.1))
  have key : ∀ d k, k + d = (F a).2.2.1 → (∀ j, j < k → (F a).2.2.2 j = (F b).2.2.2 j) → wX_haveSameOutput_19 post (nI a) (nI b) (nI n) co se us op rg ar nx me un kn he po pc sc en (d + 1) (nI k) := by
    intro d
    induction d with
    | zero =>
      intro k hk h
      refine ⟨hia, br_t (by rw [ea]; exact nI_le (by omega) (by omega)) (h1 ⟨e, fun j hj => h j (by omega)⟩)⟩
    | succ d ih =>
      intro k hk h
      refine ⟨hia, br_f (by rw [ea]; exact nI_ge (by omega) (by omega)) ?_⟩
      rw [sx_ix, sx_ix, nI_clamp (n := a * 60 + k) (by omega), nI_clamp (n := b * 60 + k) (by omega), a4 k (by omega), b4 k (by omega)]
      refine ⟨vp_in_nI (by omega) (by omega), vp_in_nI (by omega) (by omega), br_c (fun z => nm_r (nI_1 k) (ih (k + 1) (by omega) (fun j hj => ?_))) (fun z => h0 (fun w => z (w.2 k (by omega))))⟩
      by_cases ej : j = k
      · subst ej; exact z
      · exact h j (by omega)
  exact ⟨_, key (F a).2.2.1 0 (by omega) (fun j hj => absurd hj (by omega))⟩
theorem sx_wasShownBefore {post : Int32 → Prop} {n : Nat} {co se us : Int32} {op rg ar nx me un kn he po pc sc en : Nat → Int32} {F : Nat → sf_Cf} {s : Nat} (hs : s < 4) (hV : sx_V n F (s + 1) po pc en)
    (h1 : sf_was n F s → post 1) (h0 : ¬ sf_was n F s → post 0) : wpX_wasShownBefore post (nI n, co, se, us, op, rg, ar, nx, me, un, kn, he, po, pc, sc, en) (nI s) := by
  have key : ∀ d t, t + d = s → (∀ j, j < t → ¬ (n ≤ (F j).2.1 ∧ sf_eq (F j) (F s))) → wX_wasShownBefore_2 post (nI s) (nI n) co se us op rg ar nx me un kn he po pc sc en (d + 1) (nI t) := by
    intro d
    induction d with
    | zero =>
      intro t ht h
      exact br_t (nI_le (by omega) (by omega)) (h0 (fun ⟨j, hj, w⟩ => h j (by omega) w))
    | succ d ih =>
      intro t ht h
      have stay : ¬ (n ≤ (F t).2.1 ∧ sf_eq (F t) (F s)) → wX_wasShownBefore_2 post (nI s) (nI n) co se us op rg ar nx me un kn he po pc sc en (d + 1) (nI (t + 1)) := by
        intro hno
        refine ih (t + 1) (by omega) (fun j hj => ?_)
        by_cases e : j = t
        · subst e; exact hno
        · exact h j (by omega)
      have ee : en (nI t).toNatClampNeg = sx_e n (F t).2.1 := by rw [nI_clamp (by omega), (hV t (by omega)).2.2.1]
      refine br_f (nI_ge (by omega) (by omega)) ⟨vp_in_nI (by omega) (by omega), ?_⟩
      rw [ee]
      exact sx_if sx_e0 (fun w => sx_haveSameOutput (m := s + 1) (by omega) (by omega) (by omega) hV (fun v => br_f (by decide) (h1 ⟨t, by omega, w, v⟩)) (fun v => br_t rfl (nm_r (nI_1 t) (stay (fun z => v z.2))))) (fun w => nm_r (nI_1 t) (stay (fun z => w z.1)))
  exact ⟨_, key s 0 (by omega) (fun j hj => absurd hj (by omega))⟩
theorem sx_countOutputs {post : Int32 → SX → Prop} {n : Nat} {co se us : Int32} {op rg ar nx me un kn he po pc sc en : Nat → Int32} {p : Int32} (hn : n ≤ 16) (hv : sf_val n op rg ar)
    (hp : ∀ po' pc' sc' en', post (nI (sf_sh n op rg ar he p)) (nI n, co, se, us, op, rg, ar, nx, me, un, kn, sf_bs n op rg ar he p 4, po', pc', sc', en')) : wpX_countOutputs post (nI n, co, se, us, op, rg, ar, nx, me, un, kn, he, po, pc, sc, en) p := by
  have key : ∀ d s m po' pc' sc' en', s + d = 4 → m = sf_cnt n (sf_F n op rg ar he p) s → sx_V n (sf_F n op rg ar he p) s po' pc' en' →
      wX_countOutputs_4 post p (d + 1) (nI m) (nI s) (nI n) co se us op rg ar nx me un kn (sf_bs n op rg ar he p s) po' pc' sc' en' := by
    intro d
    induction d with
    | zero =>
      intro s m po' pc' sc' en' hs hm hV
      have e : s = 4 := by omega
      subst e
      rw [hm]
      exact br_t (by decide) (hp po' pc' sc' en')
    | succ d ih =>
      intro s m po' pc' sc' en' hs hm hV
      refine pk_le 4 s (fun z => absurd z (by omega)) (fun _ => sx_doRun hn hv (by omega) (fun d' g i c w po'' pc'' hgo hi hc hd a1 a2 a3 => ?_))
      have hF : sf_F n op rg ar he p s = (g, i, c, w) := by
        show (sf_go n op rg ar (sf_bs n op rg ar he p s) p (nI s)).2 = _
        rw [hgo]
      have hg : g = sf_bs n op rg ar he p (s + 1) := by
        rw [sf_bs_s]
        show g = (sf_go n op rg ar (sf_bs n op rg ar he p s) p (nI s)).2.1
        rw [hgo]
      have hV' : sx_V n (sf_F n op rg ar he p) (s + 1) po'' pc'' (upd en' s (sx_e n i)) := by
        intro t ht
        by_cases e : t = s
        · subst e
          rw [hF]
          exact ⟨hc, a1, pk_us, a3.1⟩
        · obtain ⟨v1, v2, v3, v4⟩ := hV t (by omega)
          refine ⟨v1, by rw [a2 t e, v2], by rw [pk_un e, v3], fun k hk => ?_⟩
          rw [a3.2 (t * 60 + k) (by omega)]
          exact v4 k hk
      have ee : upd en' s (sx_e n i) (nI s).toNatClampNeg = sx_e n i := by rw [nI_clamp (by omega), pk_us]
      refine ⟨vp_in_nI (by omega) (by omega), ?_⟩
      rw [ee, hg]
      refine sx_if sx_e0 (fun z => sx_wasShownBefore (by omega) hV' (fun v => br_f (by decide) (nm_r (nI_1 s) (ih (s + 1) m _ _ _ _ (by omega) ?_ hV'))) (fun v => br_t rfl (nm_r (nI_1 m) (nm_r (nI_1 s) (ih (s + 1) (m + 1) _ _ _ _ (by omega) ?_ hV'))))) (fun z => nm_r (nI_1 s) (ih (s + 1) m _ _ _ _ (by omega) ?_ hV'))
      · rw [hm, sf_cnt_f (fun q => q.2 v)]
      · rw [hm, sf_cnt_t (by rw [hF]; exact z) v]
      · rw [hm, sf_cnt_f (fun q => z (by have := q.1; rw [hF] at this; exact this))]
  exact ⟨5, key 4 0 0 po pc sc en (by omega) rfl (fun t ht => absurd ht (by omega))⟩
theorem sx_leaks {post : Int32 → SX → Prop} {n : Nat} {co se us : Int32} {op rg ar nx me un kn he po pc sc en : Nat → Int32} (hn : n ≤ 16) (hv : sf_val n op rg ar)
    (hp : ∀ po' pc' sc' en', post (sf_lk n op rg ar 4 0 he).1 (nI n, co, se, us, op, rg, ar, nx, me, un, kn, (sf_lk n op rg ar 4 0 he).2, po', pc', sc', en')) : wpX_leaks post (nI n, co, se, us, op, rg, ar, nx, me, un, kn, he, po, pc, sc, en) := by
  have key : ∀ d p g po' pc' sc' en', p + d = 4 → sf_lk n op rg ar d p g = sf_lk n op rg ar 4 0 he → wX_leaks_2 post (d + 1) (nI p) (nI n) co se us op rg ar nx me un kn g po' pc' sc' en' := by
    intro d
    induction d with
    | zero =>
      intro p g po' pc' sc' en' hs hm
      have e : p = 4 := by omega
      subst e
      have := hp po' pc' sc' en'
      rw [← hm] at this
      exact br_t (by decide) this
    | succ d ih =>
      intro p g po' pc' sc' en' hs hm
      refine pk_le 4 p (fun z => absurd z (by omega)) (fun _ => sx_countOutputs hn hv (fun po'' pc'' sc'' en'' => ?_))
      have hle : sf_sh n op rg ar g (nI p) ≤ 4 := sf_cnt_le _ _ 4
      refine pk_le (sf_sh n op rg ar g (nI p)) 1 (fun z => ?_) (fun z => ?_)
      · rw [sf_lk_f (by omega)] at hm
        exact nm_r (nI_1 p) (ih (p + 1) _ po'' pc'' sc'' en'' (by omega) hm)
      · rw [sf_lk_t z] at hm
        have := hp po'' pc'' sc'' en''
        rw [← hm] at this
        exact this
  exact ⟨5, key 4 0 he po pc sc en (by omega) rfl⟩
end
section
/-! the reference's count of outputs -/
def sy_l (n : Nat) (q : sf_Cf) : Int32 := if n ≤ q.2.1 then nI q.2.2.1 else (-1)
def sy_V (n : Nat) (F : Nat → sf_Cf) (s : Nat) (rw ln : Nat → Int32) : Prop :=
  ∀ t, t < s → (F t).2.2.1 ≤ 60 ∧ ln t = sy_l n (F t) ∧ ∀ k, k < (F t).2.2.1 → rw (60 * t + k) = (F t).2.2.2 k
theorem sy_ix {s c : Nat} : 60 * nI s + nI c = nI (60 * s + c) := by
  rw [show (60 : Int32) = nI 60 from rfl, pk_mul, nI_add]
theorem sy_m1 {c : Nat} (h : c < 2 ^ 31) : ¬ nI c = -1 := by
  intro e
  have := nI_pos (n := c) h
  rw [e] at this
  exact this (by decide)
theorem sy_same {post : Int32 → Prop} {n : Nat} {ed sp ou : Int32} {op rg ar ka he ro rw ln : Nat → Int32} {F : Nat → sf_Cf} {m a b : Nat} (hm : m ≤ 4) (ha : a < m) (hb : b < m) (hV : sy_V n F m rw ln) (hd : n ≤ (F a).2.1)
    (h1 : n ≤ (F b).2.1 → sf_eq (F b) (F a) → post 1) (h0 : ¬ (n ≤ (F b).2.1 ∧ sf_eq (F b) (F a)) → post 0) : wpY_same post (nI n, ed, sp, ou, op, rg, ar, ka, he, ro, rw, ln) (nI a) (nI b) := by
  have hia : vp_in (nI a) 4 := vp_in_nI (by omega) (by omega)
  have hib : vp_in (nI b) 4 := vp_in_nI (by omega) (by omega)
  obtain ⟨a1, a2, a4⟩ := hV a ha
  obtain ⟨b1, b2, b4⟩ := hV b hb
  have ea : ln (nI a).toNatClampNeg = nI (F a).2.2.1 := by rw [nI_clamp (by omega), a2]; exact if_pos hd
  have eb : ln (nI b).toNatClampNeg = sy_l n (F b) := by rw [nI_clamp (by omega), b2]
  refine ⟨hia, hib, ?_⟩
  rw [ea, eb]
  unfold sy_l
  by_cases hdb : n ≤ (F b).2.1
  · rw [if_pos hdb]
    refine pk_eq (F a).2.2.1 (F b).2.2.1 (fun e => ?_) (fun e => h0 (fun w => e w.2.1.symm))
    have key : ∀ d k, k + d = (F a).2.2.1 → (∀ j, j < k → (F b).2.2.2 j = (F a).2.2.2 j) → wY_same_19 post (nI a) (nI b) (nI n) ed sp ou op rg ar ka he ro rw ln (d + 1) (nI k) := by
      intro d
      induction d with
      | zero =>
        intro k hk h
        refine ⟨hia, br_t (by rw [ea]; exact nI_le (by omega) (by omega)) (h1 hdb ⟨e.symm, fun j hj => h j (by omega)⟩)⟩
      | succ d ih =>
        intro k hk h
        refine ⟨hia, br_f (by rw [ea]; exact nI_ge (by omega) (by omega)) ?_⟩
        rw [sy_ix, sy_ix, nI_clamp (n := 60 * a + k) (by omega), nI_clamp (n := 60 * b + k) (by omega), a4 k (by omega), b4 k (by omega)]
        refine ⟨vp_in_nI (by omega) (by omega), vp_in_nI (by omega) (by omega), br_c (fun z => nm_r (nI_1 k) (ih (k + 1) (by omega) (fun j hj => ?_))) (fun z => h0 (fun w => z (w.2.2 k (by omega)).symm))⟩
        by_cases ej : j = k
        · subst ej; exact z.symm
        · exact h j (by omega)
    exact ⟨_, key (F a).2.2.1 0 (by omega) (fun j hj => absurd hj (by omega))⟩
  · rw [if_neg hdb]
    exact br_f (sy_m1 (by omega)) (h0 (fun w => hdb w.1))
/-- fresh or not -/
theorem sy_sw90 {post : Int32 → SY → Prop} {J4 : Int32 → Int32 → Int32 → Int32 → Int32 → Int32 → (Nat → Int32) → (Nat → Int32) → (Nat → Int32) → (Nat → Int32) → (Nat → Int32) → (Nat → Int32) → (Nat → Int32) → (Nat → Int32) → Prop} {n : Nat} {ed sp ou : Int32} {op rg ar ka he ro rw ln : Nat → Int32}
    {F : Nat → sf_Cf} {p : Int32} {s m : Nat} (hs : s < 4) (hm : m = sf_cnt n F s) (hV : sy_V n F (s + 1) rw ln) (hJ : J4 (nI (sf_cnt n F (s + 1))) (nI (s + 1)) (nI n) ed sp ou op rg ar ka he ro rw ln) :
    ∀ d t (f : Int32), t + d = s → ((f = 1 ∧ n ≤ (F s).2.1 ∧ ∀ j, j < t → ¬ (n ≤ (F j).2.1 ∧ sf_eq (F j) (F s))) ∨ (f = 0 ∧ ¬ (n ≤ (F s).2.1 ∧ ¬ sf_was n F s))) → wY_showsWith_90 post J4 p (nI m) (nI s) (nI n) ed sp ou op rg ar ka he ro rw ln (d + 1) f (nI t) := by
  intro d
  induction d with
  | zero =>
    intro t f ht h
    refine br_t (nI_le (by omega) (by omega)) ?_
    rcases h with ⟨h1, h2, h3⟩ | ⟨h1, h2⟩
    · subst h1
      rw [sf_cnt_t h2 (fun ⟨j, hj, w⟩ => h3 j (by omega) w), ← hm] at hJ
      exact br_f (by decide) (nm_r (nI_1 m) (nm_r (nI_1 s) hJ))
    · subst h1
      rw [sf_cnt_f h2, ← hm] at hJ
      exact br_t rfl (nm_r (nI_1 s) hJ)
  | succ d ih =>
    intro t f ht h
    refine br_f (nI_ge (by omega) (by omega)) ?_
    rcases h with ⟨h1, h2, h3⟩ | ⟨h1, h2⟩
    · subst h1
      refine br_f (by decide) (sy_same (m := s + 1) (by omega) (by omega) (by omega) hV h2 (fun w v => br_f (by decide) (nm_r (nI_1 t) (ih (t + 1) 0 (by omega) (Or.inr ⟨rfl, fun q => q.2 ⟨t, by omega, w, v⟩⟩)))) (fun w => br_t rfl (nm_r (nI_1 t) (ih (t + 1) 1 (by omega) (Or.inl ⟨rfl, h2, fun j hj => ?_⟩)))))
      by_cases e : j = t
      · subst e; exact w
      · exact h3 j (by omega)
    · subst h1
      exact br_t rfl (nm_r (nI_1 t) (ih (t + 1) 0 (by omega) (Or.inr ⟨rfl, h2⟩)))
/-- the copy of the row -/
theorem sy_sw39 {post : Int32 → SY → Prop} {J4 : Int32 → Int32 → Int32 → Int32 → Int32 → Int32 → (Nat → Int32) → (Nat → Int32) → (Nat → Int32) → (Nat → Int32) → (Nat → Int32) → (Nat → Int32) → (Nat → Int32) → (Nat → Int32) → Prop} {n : Nat} {ed sp ou : Int32} {op rg ar ka he ro rw ln : Nat → Int32}
    {p x2 : Int32} {s c : Nat} (hs : s < 4) (hc : c ≤ 60)
    (hJ : ∀ rw', (∀ k, k < c → rw' (60 * s + k) = ro k) → (∀ q, (q < 60 * s ∨ 60 * s + 60 ≤ q) → rw' q = rw q) →
      ((ed = 0 → ∃ m, wY_showsWith_90 post J4 p x2 (nI s) (nI n) ed sp (nI c) op rg ar ka he ro rw' ln m 1 0) ∧ (¬ ed = 0 → ∃ m, wY_showsWith_90 post J4 p x2 (nI s) (nI n) ed sp (nI c) op rg ar ka he ro rw' ln m 0 0))) :
    ∀ d k rw', k + d = c → (∀ j, j < k → rw' (60 * s + j) = ro j) → (∀ q, (q < 60 * s ∨ 60 * s + 60 ≤ q) → rw' q = rw q) → wY_showsWith_39 post J4 p x2 (nI s) (nI n) ed sp (nI c) (d + 1) (nI k) op rg ar ka he ro rw' ln := by
  intro d
  induction d with
  | zero =>
    intro k rw' hk h1 h2
    have e : k = c := by omega
    subst e
    exact br_t (nI_le (Nat.le_refl _) (by omega)) (hJ rw' h1 h2)
  | succ d ih =>
    intro k rw' hk h1 h2
    refine br_f (nI_ge (by omega) (by omega)) ⟨vp_in_nI (by omega) (by omega), ?_⟩
    rw [sy_ix]
    refine ⟨vp_in_nI (by omega) (by omega), nm_r (e' := upd rw' (60 * s + k) (ro k)) (by rw [nI_clamp (n := 60 * s + k) (by omega), nI_clamp (n := k) (by omega)]) (nm_r (nI_1 k) (ih (k + 1) _ (by omega) (fun j hj => ?_) (fun q hq => ?_)))⟩
    · by_cases e : j = k
      · subst e; exact pk_us
      · rw [pk_un (by omega)]; exact h1 j (by omega)
    · rw [pk_un (by omega)]; exact h2 q hq
theorem sy_showsWith {post : Int32 → SY → Prop} {n : Nat} {ed sp ou : Int32} {op rg ar ka he ro rw ln : Nat → Int32} {p : Int32} (hn : n ≤ 16) (hv : sf_val n op rg ar)
    (hp : ∀ ed' sp' ou' ro' rw' ln', post (nI (sf_sh n op rg ar he p)) (nI n, ed', sp', ou', op, rg, ar, ka, sf_bs n op rg ar he p 4, ro', rw', ln')) : wpY_showsWith post (nI n, ed, sp, ou, op, rg, ar, ka, he, ro, rw, ln) p := by
  have key : ∀ d s m ed' sp' ou' ro' rw' ln', s + d = 4 → m = sf_cnt n (sf_F n op rg ar he p) s → sy_V n (sf_F n op rg ar he p) s rw' ln' →
      wY_showsWith_4 post p (d + 1) (nI m) (nI s) (nI n) ed' sp' ou' op rg ar ka (sf_bs n op rg ar he p s) ro' rw' ln' := by
    intro d
    induction d with
    | zero =>
      intro s m ed' sp' ou' ro' rw' ln' hs hm hV
      have e : s = 4 := by omega
      subst e
      rw [hm]
      exact br_t (by decide) (hp ed' sp' ou' ro' rw' ln')
    | succ d ih =>
      intro s m ed' sp' ou' ro' rw' ln' hs hm hV
      refine pk_le 4 s (fun z => absurd z (by omega)) (fun _ => sy_doRun hn hv (fun d' g i c w ro'' hgo hi hc hd a1 => ?_))
      have hF : sf_F n op rg ar he p s = (g, i, c, w) := by
        show (sf_go n op rg ar (sf_bs n op rg ar he p s) p (nI s)).2 = _
        rw [hgo]
      have hg : g = sf_bs n op rg ar he p (s + 1) := by
        rw [sf_bs_s]
        show g = (sf_go n op rg ar (sf_bs n op rg ar he p s) p (nI s)).2.1
        rw [hgo]
      have hV' : ∀ rw'', (∀ k, k < c → rw'' (60 * s + k) = ro'' k) → (∀ q, (q < 60 * s ∨ 60 * s + 60 ≤ q) → rw'' q = rw' q) → sy_V n (sf_F n op rg ar he p) (s + 1) rw'' (upd ln' s (sy_l n (g, i, c, w))) := by
        intro rw'' b1 b2 t ht
        by_cases e : t = s
        · subst e
          rw [hF]
          exact ⟨hc, pk_us, fun k hk => (b1 k hk).trans (a1 k hk)⟩
        · obtain ⟨v1, v2, v3⟩ := hV t (by omega)
          refine ⟨v1, by rw [pk_un e, v2], fun k hk => ?_⟩
          rw [b2 (60 * t + k) (by omega)]
          exact v3 k hk
      have hi4 : vp_in (nI s) 4 := vp_in_nI (by omega) (by omega)
      have fin : ∀ rw'', (∀ k, k < c → rw'' (60 * s + k) = ro'' k) → (∀ q, (q < 60 * s ∨ 60 * s + 60 ≤ q) → rw'' q = rw' q) → ∀ f : Int32, ((f = 1 ∧ n ≤ i) ∨ (f = 0 ∧ ¬ n ≤ i)) →
          ∃ m', wY_showsWith_90 post (wY_showsWith_4 post p (d + 1)) p (nI m) (nI s) (nI n) (sx_e n i) (nI d') (nI c) op rg ar ka g ro'' rw'' (upd ln' s (sy_l n (g, i, c, w))) m' f 0 := by
        intro rw'' b1 b2 f hf
        have hJ := ih (s + 1) (sf_cnt n (sf_F n op rg ar he p) (s + 1)) (sx_e n i) (nI d') (nI c) ro'' rw'' _ (by omega) rfl (hV' rw'' b1 b2)
        rw [← hg] at hJ
        refine ⟨s + 1, sy_sw90 (by omega) hm (hV' rw'' b1 b2) hJ s 0 f (by omega) ?_⟩
        rw [hF]
        rcases hf with ⟨f1, f2⟩ | ⟨f1, f2⟩
        · exact Or.inl ⟨f1, f2, fun j hj => absurd hj (by omega)⟩
        · exact Or.inr ⟨f1, fun q => f2 q.1⟩
      refine sx_if sx_e0 (fun z => ⟨hi4, nm_r (e' := upd ln' s (sy_l n (g, i, c, w))) ?_ ⟨c + 1, sy_sw39 (ou := 0) (by omega) hc (fun rw'' b1 b2 => sx_if sx_e0 (fun y => fin rw'' b1 b2 1 (Or.inl ⟨rfl, y⟩)) (fun y => fin rw'' b1 b2 0 (Or.inr ⟨rfl, y⟩))) c 0 rw' (by omega) (fun j hj => absurd hj (by omega)) (fun _ _ => rfl)⟩⟩)
        (fun z => ⟨hi4, nm_r (e' := upd ln' s (sy_l n (g, i, c, w))) ?_ ⟨c + 1, sy_sw39 (ou := 0) (by omega) hc (fun rw'' b1 b2 => sx_if sx_e0 (fun y => fin rw'' b1 b2 1 (Or.inl ⟨rfl, y⟩)) (fun y => fin rw'' b1 b2 0 (Or.inr ⟨rfl, y⟩))) c 0 rw' (by omega) (fun j hj => absurd hj (by omega)) (fun _ _ => rfl)⟩⟩)
      · rw [nI_clamp (by omega)]
        unfold sy_l
        rw [if_pos z]
      · rw [nI_clamp (by omega)]
        unfold sy_l
        rw [if_neg z]
  exact ⟨5, key 4 0 0 ed sp ou ro rw ln (by omega) rfl (fun t ht => absurd ht (by omega))⟩
theorem sy_leaks {post : Int32 → SY → Prop} {n : Nat} {ed sp ou : Int32} {op rg ar ka he ro rw ln : Nat → Int32} (hn : n ≤ 16) (hv : sf_val n op rg ar)
    (hp : ∀ ed' sp' ou' ro' rw' ln', post (sf_lk n op rg ar 4 0 he).1 (nI n, ed', sp', ou', op, rg, ar, ka, (sf_lk n op rg ar 4 0 he).2, ro', rw', ln')) : wpY_leaks post (nI n, ed, sp, ou, op, rg, ar, ka, he, ro, rw, ln) := by
  have key : ∀ d p g ed' sp' ou' ro' rw' ln', p + d = 4 → sf_lk n op rg ar d p g = sf_lk n op rg ar 4 0 he → wY_leaks_2 post (d + 1) (nI p) (nI n) ed' sp' ou' op rg ar ka g ro' rw' ln' := by
    intro d
    induction d with
    | zero =>
      intro p g ed' sp' ou' ro' rw' ln' hs hm
      have e : p = 4 := by omega
      subst e
      have := hp ed' sp' ou' ro' rw' ln'
      rw [← hm] at this
      exact br_t (by decide) this
    | succ d ih =>
      intro p g ed' sp' ou' ro' rw' ln' hs hm
      refine pk_le 4 p (fun z => absurd z (by omega)) (fun _ => sy_showsWith hn hv (fun ed'' sp'' ou'' ro'' rw'' ln'' => ?_))
      have hle : sf_sh n op rg ar g (nI p) ≤ 4 := sf_cnt_le _ _ 4
      refine pk_le (sf_sh n op rg ar g (nI p)) 1 (fun z => ?_) (fun z => ?_)
      · rw [sf_lk_f (by omega)] at hm
        exact nm_r (nI_1 p) (ih (p + 1) _ ed'' sp'' ou'' ro'' rw'' ln'' (by omega) hm)
      · rw [sf_lk_t z] at hm
        have := hp ed'' sp'' ou'' ro'' rw'' ln''
        rw [← hm] at this
        exact this
  exact ⟨5, key 4 0 he ed sp ou ro rw ln (by omega) rfl⟩
end
section
/-! arguments, the relation -/
def sz_P (v : Int32) (m : Nat) : Prop := ∃ q, q < m ∧ v = nI q
theorem sz_neg {v : Int32} {m : Nat} (hm : m < 2 ^ 31) (h : v < 0) : ¬ sz_P v m := by
  rintro ⟨q, hq, rfl⟩
  exact nI_pos (by omega) h
theorem sz_big {j m : Nat} (h : m ≤ j) (hj : j < 2 ^ 31) : ¬ sz_P (nI j) m := by
  rintro ⟨q, hq, e⟩
  have := (nI_eq hj (by omega)).mp e
  omega
theorem sx_isNumber {post : Int32 → Prop} {v : Int32} (h1 : sz_P v 4 → post 1) (h0 : ¬ sz_P v 4 → post 0) : wpX_isNumber post v := by
  refine br_c (fun z => h0 (sz_neg (by omega) z)) (fun z => ?_)
  obtain ⟨j, hj, rfl⟩ := nI_of z
  exact pk_le 4 j (fun w => h0 (sz_big w hj)) (fun w => h1 ⟨j, w, rfl⟩)
theorem sx_isRegister {post : Int32 → Prop} {v : Int32} (h1 : sz_P v 4 → post 1) (h0 : ¬ sz_P v 4 → post 0) : wpX_isRegister post v := by
  refine br_c (fun z => h0 (sz_neg (by omega) z)) (fun z => ?_)
  obtain ⟨j, hj, rfl⟩ := nI_of z
  exact pk_le 4 j (fun w => h0 (sz_big w hj)) (fun w => h1 ⟨j, w, rfl⟩)
theorem sx_isPlace {post : Int32 → Prop} {n : Nat} {co se us : Int32} {op rg ar nx me un kn he po pc sc en : Nat → Int32} {v : Int32} (hn : n ≤ 16) (h1 : sz_P v n → post 1) (h0 : ¬ sz_P v n → post 0) : wpX_isPlace post (nI n, co, se, us, op, rg, ar, nx, me, un, kn, he, po, pc, sc, en) v := by
  refine br_c (fun z => h0 (sz_neg (by omega) z)) (fun z => ?_)
  obtain ⟨j, hj, rfl⟩ := nI_of z
  exact pk_le n j (fun w => h0 (sz_big w hj)) (fun w => h1 ⟨j, w, rfl⟩)
theorem sy_small {post : Int32 → Prop} {n : Nat} {ed sp ou : Int32} {op rg ar ka he ro rw ln : Nat → Int32} {v : Int32} (h1 : sz_P v 4 → post 1) (h0 : ¬ sz_P v 4 → post 0) : wpY_small post (nI n, ed, sp, ou, op, rg, ar, ka, he, ro, rw, ln) v := by
  refine br_c (fun z => h0 (sz_neg (by omega) z)) (fun z => ?_)
  obtain ⟨j, hj, rfl⟩ := nI_of z
  exact pk_lt 3 j (fun w => h0 (sz_big w hj)) (fun w => h1 ⟨j, by omega, rfl⟩)
theorem sy_noPlace {post : Int32 → Prop} {n : Nat} {ed sp ou : Int32} {op rg ar ka he ro rw ln : Nat → Int32} {v : Int32} (hn : n ≤ 16) (h1 : sz_P v n → post 0) (h0 : ¬ sz_P v n → post 1) : wpY_noPlace post (nI n, ed, sp, ou, op, rg, ar, ka, he, ro, rw, ln) v := by
  refine br_c (fun z => h0 (sz_neg (by omega) z)) (fun z => ?_)
  obtain ⟨j, hj, rfl⟩ := nI_of z
  exact pk_lt j n (fun w => h1 ⟨j, w, rfl⟩) (fun w => h0 (sz_big w hj))
theorem sy_noNumbers {post : Int32 → Prop} {n : Nat} {ed sp ou : Int32} {op rg ar ka he ro rw ln : Nat → Int32} {v1 v2 : Int32} (h1 : sz_P v1 4 → sz_P v2 4 → post 0) (h0 : ¬ (sz_P v1 4 ∧ sz_P v2 4) → post 1) : wpY_noNumbers post (nI n, ed, sp, ou, op, rg, ar, ka, he, ro, rw, ln) v1 v2 := by
  unfold wpY_noNumbers
  dsimp only
  exact sy_small (fun z => br_f (by decide) (sy_small (fun w => br_f (by decide) (h1 z w)) (fun w => br_t rfl (h0 (fun q => w q.2))))) (fun z => br_t rfl (h0 (fun q => z q.1)))
/-- an instruction that may be written -/
def sz_ok (o r x : Int32) : Prop :=
  (o = 0 ∨ o = 1 ∨ o = 2 ∨ o = 3 ∨ o = 4 ∨ o = 5 ∨ o = 6 ∨ o = 7) ∧
  (¬ o = 5 → ¬ o = 7 → ∃ q, q < 4 ∧ r = nI q) ∧ ((o = 0 ∨ o = 1 ∨ o = 2 ∨ o = 3) → ∃ q, q < 4 ∧ x = nI q) ∧ (o = 5 ∨ o = 6 → ∃ q, q ≤ 16 ∧ x = nI q)
theorem sz_8 {j : Nat} (h : j ≤ 7) : nI j = 0 ∨ nI j = 1 ∨ nI j = 2 ∨ nI j = 3 ∨ nI j = 4 ∨ nI j = 5 ∨ nI j = 6 ∨ nI j = 7 := by
  have : j = 0 ∨ j = 1 ∨ j = 2 ∨ j = 3 ∨ j = 4 ∨ j = 5 ∨ j = 6 ∨ j = 7 := by omega
  rcases this with rfl | rfl | rfl | rfl | rfl | rfl | rfl | rfl <;> decide
theorem sz_8b {o : Int32} (h : o = 0 ∨ o = 1 ∨ o = 2 ∨ o = 3 ∨ o = 4 ∨ o = 5 ∨ o = 6 ∨ o = 7) : ¬ o < 0 ∧ o ≤ 7 := by
  rcases h with rfl | rfl | rfl | rfl | rfl | rfl | rfl | rfl <;> decide
theorem sx_ii65 {post : Int32 → Prop} {x : Int32} (h1 : (∃ q, q ≤ 16 ∧ x = nI q) → post 1) (h0 : ¬ (∃ q, q ≤ 16 ∧ x = nI q) → post 0) : wX_isInstruction_65 post x := by
  refine br_c (fun z => h0 (fun ⟨q, hq, e⟩ => sz_neg (m := 17) (by omega) z ⟨q, by omega, e⟩)) (fun z => ?_)
  obtain ⟨j, hj, rfl⟩ := nI_of z
  exact pk_lt 16 j (fun w => h0 (fun ⟨q, hq, e⟩ => sz_big (m := 17) (by omega) hj ⟨q, by omega, e⟩)) (fun w => h1 ⟨j, w, rfl⟩)
theorem sy_wr63 {post : Int32 → Prop} {n : Nat} {ed sp ou : Int32} {op rg ar ka he ro rw ln : Nat → Int32} {x : Int32} (h1 : (∃ q, q ≤ 16 ∧ x = nI q) → post 0) (h0 : ¬ (∃ q, q ≤ 16 ∧ x = nI q) → post 1) : wY_wrong_63 post x (nI n) ed sp ou op rg ar ka he ro rw ln := by
  refine br_c (fun z => h0 (fun ⟨q, hq, e⟩ => sz_neg (m := 17) (by omega) z ⟨q, by omega, e⟩)) (fun z => ?_)
  obtain ⟨j, hj, rfl⟩ := nI_of z
  exact pk_le j 16 (fun w => h1 ⟨j, w, rfl⟩) (fun w => h0 (fun ⟨q, hq, e⟩ => sz_big (m := 17) (by omega) hj ⟨q, by omega, e⟩))
theorem sx_isInstruction {post : Int32 → Prop} {o r x : Int32} (h1 : sz_ok o r x → post 1) (h0 : ¬ sz_ok o r x → post 0) : wpX_isInstruction post o r x := by
  by_cases ho : o = 0 ∨ o = 1 ∨ o = 2 ∨ o = 3 ∨ o = 4 ∨ o = 5 ∨ o = 6 ∨ o = 7
  · refine br_f (sz_8b ho).1 (br_t (sz_8b ho).2 ?_)
    have hok : sz_ok o r x ↔ (¬ o = 5 → ¬ o = 7 → ∃ q, q < 4 ∧ r = nI q) ∧ ((o = 0 ∨ o = 1 ∨ o = 2 ∨ o = 3) → ∃ q, q < 4 ∧ x = nI q) ∧ (o = 5 ∨ o = 6 → ∃ q, q ≤ 16 ∧ x = nI q) := ⟨fun w => w.2, fun w => ⟨ho, w⟩⟩
    rw [hok] at h1 h0
    clear hok
    rcases ho with rfl | rfl | rfl | rfl | rfl | rfl | rfl | rfl
    · exact br_f (by decide) (br_f (by decide) (br_f (by decide) (sx_isRegister (fun hr => br_f (by decide) (br_t rfl (br_f (by decide) (sx_isNumber (fun hx => ⟨rfl, h1 ⟨fun _ _ => hr, fun _ => hx, fun w => absurd w (by decide)⟩⟩) (fun hx => ⟨rfl, h0 (fun w => hx (w.2.1 (by decide)))⟩))))) (fun hr => br_t rfl (h0 (fun w => hr (w.1 (by decide) (by decide))))))))
    · exact br_f (by decide) (br_f (by decide) (br_f (by decide) (sx_isRegister (fun hr => br_f (by decide) (br_f (by decide) (br_t rfl (br_f (by decide) (sx_isNumber (fun hx => ⟨rfl, h1 ⟨fun _ _ => hr, fun _ => hx, fun w => absurd w (by decide)⟩⟩) (fun hx => ⟨rfl, h0 (fun w => hx (w.2.1 (by decide)))⟩)))))) (fun hr => br_t rfl (h0 (fun w => hr (w.1 (by decide) (by decide))))))))
    · exact br_f (by decide) (br_f (by decide) (br_f (by decide) (sx_isRegister (fun hr => br_f (by decide) (br_f (by decide) (br_f (by decide) (br_t rfl (br_f (by decide) (sx_isNumber (fun hx => ⟨rfl, h1 ⟨fun _ _ => hr, fun _ => hx, fun w => absurd w (by decide)⟩⟩) (fun hx => ⟨rfl, h0 (fun w => hx (w.2.1 (by decide)))⟩))))))) (fun hr => br_t rfl (h0 (fun w => hr (w.1 (by decide) (by decide))))))))
    · exact br_f (by decide) (br_f (by decide) (br_f (by decide) (sx_isRegister (fun hr => br_f (by decide) (br_f (by decide) (br_f (by decide) (br_f (by decide) (br_t rfl (br_f (by decide) (sx_isNumber (fun hx => ⟨rfl, h1 ⟨fun _ _ => hr, fun _ => hx, fun w => absurd w (by decide)⟩⟩) (fun hx => ⟨rfl, h0 (fun w => hx (w.2.1 (by decide)))⟩)))))))) (fun hr => br_t rfl (h0 (fun w => hr (w.1 (by decide) (by decide))))))))
    · exact br_f (by decide) (br_f (by decide) (br_f (by decide) (sx_isRegister (fun hr => br_f (by decide) (br_f (by decide) (br_f (by decide) (br_f (by decide) (br_f (by decide) (br_t rfl (br_f (by decide) (br_f (by decide) (h1 ⟨fun _ _ => hr, fun w => absurd w (by decide), fun w => absurd w (by decide)⟩))))))))) (fun hr => br_t rfl (h0 (fun w => hr (w.1 (by decide) (by decide))))))))
    · exact br_t rfl (br_t rfl (br_f (by decide) (br_f (by decide) (br_f (by decide) (br_f (by decide) (br_t rfl (br_t rfl (sx_ii65 (fun hx => h1 ⟨fun w => absurd rfl w, fun w => absurd w (by decide), fun _ => hx⟩) (fun hx => h0 (fun w => hx (w.2.2 (Or.inl rfl))))))))))))
    · exact br_f (by decide) (br_f (by decide) (br_f (by decide) (sx_isRegister (fun hr => br_f (by decide) (br_f (by decide) (br_f (by decide) (br_f (by decide) (br_f (by decide) (br_t rfl (br_f (by decide) (br_t rfl (sx_ii65 (fun hx => h1 ⟨fun _ _ => hr, fun w => absurd w (by decide), fun _ => hx⟩) (fun hx => h0 (fun w => hx (w.2.2 (Or.inr rfl))))))))))))) (fun hr => br_t rfl (h0 (fun w => hr (w.1 (by decide) (by decide))))))))
    · exact br_f (by decide) (br_t rfl (br_t rfl (br_f (by decide) (br_f (by decide) (br_f (by decide) (br_f (by decide) (br_t rfl (br_f (by decide) (br_f (by decide) (h1 ⟨fun _ w => absurd rfl w, fun w => absurd w (by decide), fun w => absurd w (by decide)⟩))))))))))
  · have hno : ¬ sz_ok o r x := fun w => ho w.1
    refine br_c (fun z => h0 hno) (fun z => ?_)
    obtain ⟨j, hj, rfl⟩ := nI_of z
    exact pk_le j 7 (fun w => absurd (sz_8 w) ho) (fun _ => h0 hno)
theorem sy_wrong {post : Int32 → Prop} {n : Nat} {ed sp ou : Int32} {op rg ar ka he ro rw ln : Nat → Int32} {o r x : Int32} (h1 : sz_ok o r x → post 0) (h0 : ¬ sz_ok o r x → post 1) : wpY_wrong post (nI n, ed, sp, ou, op, rg, ar, ka, he, ro, rw, ln) o r x := by
  by_cases ho : o = 0 ∨ o = 1 ∨ o = 2 ∨ o = 3 ∨ o = 4 ∨ o = 5 ∨ o = 6 ∨ o = 7
  · refine br_f (sz_8b ho).1 (br_t (sz_8b ho).2 ?_)
    have hok : sz_ok o r x ↔ (¬ o = 5 → ¬ o = 7 → ∃ q, q < 4 ∧ r = nI q) ∧ ((o = 0 ∨ o = 1 ∨ o = 2 ∨ o = 3) → ∃ q, q < 4 ∧ x = nI q) ∧ (o = 5 ∨ o = 6 → ∃ q, q ≤ 16 ∧ x = nI q) := ⟨fun w => w.2, fun w => ⟨ho, w⟩⟩
    rw [hok] at h1 h0
    clear hok
    have c4 : ∀ o' : Int32, (o' = 0 ∨ o' = 1 ∨ o' = 2 ∨ o' = 3) → ¬ o' = 5 → ¬ o' = 6 → ¬ o' = 7 → o' = o → ¬ (4 : Int32) ≤ o' → wY_wrong_23 post o' r x (nI n) ed sp ou op rg ar ka he ro rw ln := by
      rintro o' hc h5 h6 h7 rfl h4
      unfold wY_wrong_23
      exact sy_small (fun hr => br_f (by decide) (br_f h4 (sy_small (fun hx => br_f (by decide) (h1 ⟨fun _ _ => hr, fun _ => hx, fun w => absurd w (fun w => w.elim h5 h6)⟩)) (fun hx => br_t rfl (h0 (fun w => hx (w.2.1 hc))))))) (fun hr => br_t rfl (h0 (fun w => hr (w.1 h5 h7))))
    rcases ho with rfl | rfl | rfl | rfl | rfl | rfl | rfl | rfl
    · exact br_t (by decide) (c4 _ (by decide) (by decide) (by decide) (by decide) rfl (by decide))
    · exact br_t (by decide) (c4 _ (by decide) (by decide) (by decide) (by decide) rfl (by decide))
    · exact br_t (by decide) (c4 _ (by decide) (by decide) (by decide) (by decide) rfl (by decide))
    · exact br_t (by decide) (c4 _ (by decide) (by decide) (by decide) (by decide) rfl (by decide))
    · refine br_t (by decide) ?_
      unfold wY_wrong_23
      exact sy_small (fun hr => br_f (by decide) (br_t (by decide) (br_f (by decide) (br_f (by decide) (h1 ⟨fun _ _ => hr, fun w => absurd w (by decide), fun w => absurd w (by decide)⟩))))) (fun hr => br_t rfl (h0 (fun w => hr (w.1 (by decide) (by decide)))))
    · exact br_f (by decide) (br_f (by decide) (br_t (by decide) (br_t rfl (sy_wr63 (fun hx => h1 ⟨fun w => absurd rfl w, fun w => absurd w (by decide), fun _ => hx⟩) (fun hx => h0 (fun w => hx (w.2.2 (Or.inl rfl))))))))
    · refine br_f (by decide) (br_t rfl ?_)
      unfold wY_wrong_23
      exact sy_small (fun hr => br_f (by decide) (br_t (by decide) (br_f (by decide) (br_t rfl (sy_wr63 (fun hx => h1 ⟨fun _ _ => hr, fun w => absurd w (by decide), fun _ => hx⟩) (fun hx => h0 (fun w => hx (w.2.2 (Or.inr rfl))))))))) (fun hr => br_t rfl (h0 (fun w => hr (w.1 (by decide) (by decide)))))
    · exact br_f (by decide) (br_f (by decide) (br_t (by decide) (br_f (by decide) (br_f (by decide) (h1 ⟨fun _ w => absurd rfl w, fun w => absurd w (by decide), fun w => absurd w (by decide)⟩)))))
  · have hno : ¬ sz_ok o r x := fun w => ho w.1
    refine br_c (fun z => h0 hno) (fun z => ?_)
    obtain ⟨j, hj, rfl⟩ := nI_of z
    exact pk_le j 7 (fun w => absurd (sz_8 w) ho) (fun _ => h0 hno)
theorem sz_val {n m i : Nat} {op rg ar : Nat → Int32} {o r x : Int32} (hv : sf_val n op rg ar) (hm : ∀ j, j < m → ¬ j = i → j < n) (hok : sz_ok o r x) : sf_val m (upd op i o) (upd rg i r) (upd ar i x) := by
  intro j hj
  unfold sf_ch
  by_cases e : j = i
  · subst e
    rw [pk_us, pk_us, pk_us]
    exact hok
  · rw [pk_un e, pk_un e, pk_un e]
    exact hv j (hm j hj e)
def i_Rel (_ : Nat) (u : SX) (v : SY) : Prop :=
  ∃ (n : Nat) (co se us ed sp ou : Int32) (op rg ar nx me un kn he po pc sc en ka ro rw ln : Nat → Int32), u = (nI n, co, se, us, op, rg, ar, nx, me, un, kn, he, po, pc, sc, en) ∧ v = (nI n, ed, sp, ou, op, rg, ar, ka, he, ro, rw, ln) ∧ 0 < n ∧ n ≤ 16 ∧ sf_val n op rg ar ∧ sx_D n co se us op rg ar nx me un kn
theorem sz_R {k n : Nat} {co se us ed sp ou : Int32} {op rg ar nx me un kn he po pc sc en ka ro rw ln : Nat → Int32} (hn0 : 0 < n) (hn : n ≤ 16) (hv : sf_val n op rg ar) (hD : sx_D n co se us op rg ar nx me un kn) : i_Rel k (nI n, co, se, us, op, rg, ar, nx, me, un, kn, he, po, pc, sc, en) (nI n, ed, sp, ou, op, rg, ar, ka, he, ro, rw, ln) :=
  ⟨n, co, se, us, ed, sp, ou, op, rg, ar, nx, me, un, kn, he, po, pc, sc, en, ka, ro, rw, ln, rfl, rfl, hn0, hn, hv, hD⟩
theorem i_up {k : Nat} {u : SX} {v : SY} (h : i_Rel k u v) : i_Rel (k + 5) u v := h
end
section
/-! the program's own calls -/
theorem sz_cl0 : (0 : Int32).toNatClampNeg = 0 := by decide
theorem sz_in0 : vp_in (0 : Int32) 16 := vp_in_nI (n := 0) (by omega) (by omega)
theorem sz_halt : sz_ok 7 0 0 := ⟨by decide, fun _ w => absurd rfl w, fun w => absurd w (by decide), fun w => absurd w (by decide)⟩
theorem sz_val1 {op rg ar : Nat → Int32} : sf_val 1 (upd op 0 7) (upd rg 0 0) (upd ar 0 0) :=
  sz_val (n := 0) (op := op) (rg := rg) (ar := ar) (fun i hi => absurd hi (by omega)) (fun j hj e => absurd hj (by omega)) sz_halt
theorem sz_upd0 : upd (fun _ => 0) 0 0 = (fun _ => 0) := by
  funext j
  unfold upd
  split <;> rfl
theorem sx_becomeHalt {post : SX → Prop} {n : Nat} {co se us : Int32} {op rg ar nx me un kn he po pc sc en : Nat → Int32} {L : Int32} (h : post (1, co, se, us, upd op 0 7, upd rg 0 0, upd ar 0 0, nx, me, un, kn, he, po, pc, sc, en)) : wpX_becomeHalt post (L, co, se, us, op, rg, ar, nx, me, un, kn, he, po, pc, sc, en) := by
  unfold wpX_becomeHalt
  dsimp only
  exact ⟨sz_in0, nm_r (e' := upd op 0 7) (by rw [sz_cl0]) ⟨sz_in0, nm_r (e' := upd rg 0 0) (by rw [sz_cl0]) ⟨sz_in0, nm_r (e' := upd ar 0 0) (by rw [sz_cl0]) h⟩⟩⟩
theorem i_vc0 : wpX_init (fun u => wpY_init (fun v => i_Rel 0 u v)) := by
  unfold wpX_init
  refine sx_becomeHalt (n := 0) (sx_applyRules (n := 1) (by omega) (by omega) sz_val1 (fun co se us nx me un kn hD => ?_))
  unfold wpY_init
  refine nm_e ?_
  have hv := sz_val1 (op := fun _ => 0) (rg := fun _ => 0) (ar := fun _ => 0)
  rw [sz_upd0] at hv hD
  dsimp only
  rw [sz_upd0]
  exact sz_R (n := 1) (by omega) (by omega) hv hD
theorem i_vc_put {k : Nat} {u : SX} {v : SY} (I : i_Rel k u v) (hk : k + 5 ≤ 2560) (v1 : Int32) (v2 : Int32) (v3 : Int32) : wpX_put (fun r u' => wpY_put (fun r' v' => r' = r ∧ i_Rel (k + 5) u' v') v v1 v2 v3) u v1 v2 v3 := by
  obtain ⟨n, co, se, us, ed, sp, ou, op, rg, ar, nx, me, un, kn, he, po, pc, sc, en, ka, ro, rw, ln, rfl, rfl, hn0, hn, hv, hD⟩ := I
  unfold wpX_put
  dsimp only
  refine sx_isInstruction (fun hok => br_f (by decide) (pk_lt n 16 (fun h => nm_r (nI_1 n) ?_) (fun h => ?_))) (fun hno => br_t rfl ?_)
  · have hin : vp_in (nI n) 16 := vp_in_nI h (by omega)
    have hv' : sf_val (n + 1) (upd op n v1) (upd rg n v2) (upd ar n v3) := sz_val hv (fun j hj e => by omega) hok
    refine ⟨hin, nm_r (e' := upd op n v1) (by rw [nI_clamp (by omega)]) ⟨hin, nm_r (e' := upd rg n v2) (by rw [nI_clamp (by omega)]) ⟨hin, nm_r (e' := upd ar n v3) (by rw [nI_clamp (by omega)]) (sx_applyRules (n := n + 1) (by omega) (by omega) hv' (fun co se us nx me un kn hD' => ?_))⟩⟩⟩
    unfold wpY_put
    dsimp only
    refine sy_wrong (fun _ => br_t rfl (pk_eq n 16 (fun e => absurd e (by omega)) (fun _ => ⟨hin, nm_r (e' := upd op n v1) (by rw [nI_clamp (by omega)]) ⟨hin, nm_r (e' := upd rg n v2) (by rw [nI_clamp (by omega)]) ⟨hin, nm_r (e' := upd ar n v3) (by rw [nI_clamp (by omega)]) (nm_r (nI_1 n) ⟨nI_pred n, sz_R (by omega) (by omega) hv' hD'⟩)⟩⟩⟩))) (fun w => absurd hok w)
  · unfold wpY_put
    dsimp only
    exact sy_wrong (fun _ => br_t rfl (pk_eq n 16 (fun e => ⟨rfl, sz_R hn0 hn hv hD⟩) (fun e => absurd e (by omega)))) (fun w => absurd hok w)
  · unfold wpY_put
    dsimp only
    exact sy_wrong (fun w => absurd w hno) (fun _ => br_f (by decide) ⟨rfl, sz_R hn0 hn hv hD⟩)
theorem i_vc_set {k : Nat} {u : SX} {v : SY} (I : i_Rel k u v) (hk : k + 5 ≤ 2560) (v1 : Int32) (v2 : Int32) (v3 : Int32) (v4 : Int32) : wpX_set (fun r u' => wpY_set (fun r' v' => r' = r ∧ i_Rel (k + 5) u' v') v v1 v2 v3 v4) u v1 v2 v3 v4 := by
  obtain ⟨n, co, se, us, ed, sp, ou, op, rg, ar, nx, me, un, kn, he, po, pc, sc, en, ka, ro, rw, ln, rfl, rfl, hn0, hn, hv, hD⟩ := I
  unfold wpX_set
  dsimp only
  refine sx_isPlace hn (fun hi => br_f (by decide) (sx_isInstruction (fun hok => br_f (by decide) ?_) (fun hno => br_t rfl ?_))) (fun hi => br_t rfl ?_)
  · have hi' := hi
    obtain ⟨i, hin, rfl⟩ := hi
    have hin' : vp_in (nI i) 16 := vp_in_nI (by omega) (by omega)
    have hv' : sf_val n (upd op i v2) (upd rg i v3) (upd ar i v4) := sz_val hv (fun j hj e => hj) hok
    refine ⟨hin', nm_r (e' := upd op i v2) (by rw [nI_clamp (by omega)]) ⟨hin', nm_r (e' := upd rg i v3) (by rw [nI_clamp (by omega)]) ⟨hin', nm_r (e' := upd ar i v4) (by rw [nI_clamp (by omega)]) (sx_applyRules hn0 hn hv' (fun co se us nx me un kn hD' => ?_))⟩⟩⟩
    unfold wpY_set
    dsimp only
    exact sy_noPlace hn (fun _ => br_t rfl (sy_wrong (fun _ => br_t rfl ⟨hin', nm_r (e' := upd op i v2) (by rw [nI_clamp (by omega)]) ⟨hin', nm_r (e' := upd rg i v3) (by rw [nI_clamp (by omega)]) ⟨hin', nm_r (e' := upd ar i v4) (by rw [nI_clamp (by omega)]) ⟨rfl, sz_R hn0 hn hv' hD'⟩⟩⟩⟩) (fun w => absurd hok w))) (fun w => absurd hi' w)
  · unfold wpY_set
    dsimp only
    exact sy_noPlace hn (fun _ => br_t rfl (sy_wrong (fun w => absurd w hno) (fun _ => br_f (by decide) ⟨rfl, sz_R hn0 hn hv hD⟩))) (fun w => absurd hi w)
  · unfold wpY_set
    dsimp only
    exact sy_noPlace hn (fun w => absurd w hi) (fun _ => br_f (by decide) ⟨rfl, sz_R hn0 hn hv hD⟩)
theorem i_vc_clear {k : Nat} {u : SX} {v : SY} (I : i_Rel k u v) (hk : k + 5 ≤ 2560) : wpX_clear (fun r u' => wpY_clear (fun r' v' => r' = r ∧ i_Rel (k + 5) u' v') v) u := by
  obtain ⟨n, co, se, us, ed, sp, ou, op, rg, ar, nx, me, un, kn, he, po, pc, sc, en, ka, ro, rw, ln, rfl, rfl, hn0, hn, hv, hD⟩ := I
  unfold wpX_clear
  dsimp only
  refine sx_becomeHalt (n := 0) (sx_applyRules (n := 1) (by omega) (by omega) sz_val1 (fun co se us nx me un kn hD' => ?_))
  unfold wpY_clear
  dsimp only
  exact ⟨sz_in0, nm_r (e' := upd op 0 7) (by rw [sz_cl0]) ⟨sz_in0, nm_r (e' := upd rg 0 0) (by rw [sz_cl0]) ⟨sz_in0, nm_r (e' := upd ar 0 0) (by rw [sz_cl0]) ⟨rfl, sz_R (n := 1) (by omega) (by omega) sz_val1 hD'⟩⟩⟩⟩
theorem i_vc_size {k : Nat} {u : SX} {v : SY} (I : i_Rel k u v) (hk : k + 5 ≤ 2560) : wpX_size (fun r => wpY_size (fun r' => r' = r ∧ i_Rel (k + 5) u v) v) u := by
  obtain ⟨n, co, se, us, ed, sp, ou, op, rg, ar, nx, me, un, kn, he, po, pc, sc, en, ka, ro, rw, ln, rfl, rfl, hn0, hn, hv, hD⟩ := I
  exact ⟨rfl, sz_R hn0 hn hv hD⟩
end
section
/-! the questions about the rules -/
theorem sz_b1 {z : Int32} {m : Nat} (hm : m < 32) (h : bt z m = true) : (z >>> (nI m &&& 31)) &&& 1 = 1 := (sf_has z m hm).mpr h
theorem sz_b0 {z : Int32} {m : Nat} (hm : m < 32) (h : ¬ bt z m = true) : (z >>> (nI m &&& 31)) &&& 1 = 0 := (sf_has0 z m hm).mpr h
theorem i_vc_comeTo {k : Nat} {u : SX} {v : SY} (I : i_Rel k u v) (hk : k + 5 ≤ 2560) (v1 : Int32) : wpX_comeTo (fun r => wpY_comeTo (fun r' => r' = r ∧ i_Rel (k + 5) u v) v v1) u v1 := by
  obtain ⟨n, co, se, us, ed, sp, ou, op, rg, ar, nx, me, un, kn, he, po, pc, sc, en, ka, ro, rw, ln, rfl, rfl, hn0, hn, hv, hD⟩ := I
  unfold wpX_comeTo
  dsimp only
  have hR : i_Rel (k + 5) (nI n, co, se, us, op, rg, ar, nx, me, un, kn, he, po, pc, sc, en) (nI n, ed, sp, ou, op, rg, ar, ka, he, ro, rw, ln) := sz_R hn0 hn hv hD
  refine sx_isPlace hn (fun hi => br_f (by decide) ?_) (fun hi => br_t rfl ?_)
  · have hi' := hi
    obtain ⟨i, hin, rfl⟩ := hi
    refine sx_hasb i rfl rfl (by omega) (fun w => ?_) (fun w => ?_)
    · unfold wpY_comeTo
      dsimp only
      exact sy_noPlace hn (fun _ => br_t rfl (sy_allComeTo hn0 hn hv (fun z hz => ⟨sz_b1 (by omega) ((hz i).mpr ((hD.2.1 i).mp w)), hR⟩))) (fun q => absurd hi' q)
    · unfold wpY_comeTo
      dsimp only
      exact sy_noPlace hn (fun _ => br_t rfl (sy_allComeTo hn0 hn hv (fun z hz => ⟨sz_b0 (by omega) (fun q => w ((hD.2.1 i).mpr ((hz i).mp q))), hR⟩))) (fun q => absurd hi' q)
  · unfold wpY_comeTo
    dsimp only
    exact sy_noPlace hn (fun q => absurd q hi) (fun _ => br_f (by decide) ⟨rfl, hR⟩)
/-- the least one of P below m, or none -/
def sz_L (P : Nat → Prop) (m : Nat) (r : Int32) : Prop := (∃ q, q < m ∧ P q ∧ (∀ j, j < q → ¬ P j) ∧ r = nI q) ∨ ((∀ q, q < m → ¬ P q) ∧ r = -4)
theorem sz_L_u {P : Nat → Prop} {m : Nat} {r r' : Int32} (h : sz_L P m r) (h' : sz_L P m r') : r' = r := by
  rcases h with ⟨q, h1, h2, h3, h4⟩ | ⟨h1, h2⟩ <;> rcases h' with ⟨q', g1, g2, g3, g4⟩ | ⟨g1, g2⟩
  · have : q = q' := by
      rcases Nat.lt_trichotomy q q' with e | e | e
      · exact absurd h2 (g3 q e)
      · exact e
      · exact absurd g2 (h3 q' e)
    rw [h4, g4, this]
  · exact absurd h2 (g1 q h1)
  · exact absurd g2 (h1 q' g1)
  · rw [h2, g2]
/-- the first meeting place of b -/
def sz_F (n : Nat) (nm : Nat → Int32) (b q : Nat) : Prop := sf_M n nm b q ∧ sf_R n nm (sf_B nm b) (fun j => sf_M n nm b j ∧ j ≠ q) q
theorem sx_meeting {post : Int32 → Prop} {n : Nat} {co se us : Int32} {op rg ar nx me un kn he po pc sc en : Nat → Int32} {b : Nat} (hn : n ≤ 16) (hv : sf_val n op rg ar) (hD : sx_D n co se us op rg ar nx me un kn) (hb : b < n)
    (h : ∀ r, sz_L (sz_F n (sf_nm n op ar) b) (n + 1) r → post r) : wpX_meeting post (nI n, co, se, us, op, rg, ar, nx, me, un, kn, he, po, pc, sc, en) (nI b) := by
  have hok : sf_ok n (sf_nm n op ar) := sf_nm_ok hn
  have hs1 : ∀ i, bt ((1 : Int32) <<< (nI b &&& 31)) i = true ↔ i = b := sf_oneI b (by omega)
  have hs2 : ∀ i, bt ((1 : Int32) <<< (nI b &&& 31)) i = true → i ≤ n := fun i hi => by have := (hs1 i).mp hi; omega
  unfold wpX_meeting
  dsimp only
  refine sx_isPlace hn (fun _ => br_f (by decide) ⟨vp_in_nI (by omega) (by omega), nm_r (sx_at (by omega)) (sx_reach (S := fun j => j = b) (B := sf_M n (sf_nm n op ar) b) rfl rfl hn hD.1 hok hs2 hs1 (hD.2.2.1 b hb) (fun z hz => sx_nextOfAll hn hD.1 (fun y hy => nm_e ?_)))⟩) (fun w => absurd ⟨b, hb, rfl⟩ w)
  have hf : ∀ q, bt (me b &&& y) q = true ↔ sz_F n (sf_nm n op ar) b q := by
    intro q
    rw [sf_andI, hD.2.2.1 b hb q, hy q]
    constructor
    · rintro ⟨w1, i, w2, w3, w4⟩
      exact ⟨w1, (sf_first hb sf_M_b w1).mp ⟨i, w2, (hz i).mp w3, w4⟩⟩
    · rintro ⟨w1, w2⟩
      obtain ⟨i, w3, w4, w5⟩ := (sf_first hb sf_M_b w1).mpr w2
      exact ⟨w1, i, w3, (hz i).mpr w4, w5⟩
  have key : ∀ d q, q + d = n + 1 → (∀ j, j < q → ¬ sz_F n (sf_nm n op ar) b j) → wX_meeting_38 post (me b &&& y) (nI n) co se us op rg ar nx me un kn he po pc sc en (d + 1) (nI q) := by
    intro d
    induction d with
    | zero =>
      intro q hq hno
      exact br_t (nI_lt (by omega) (by omega)) (h _ (Or.inr ⟨fun j hj => hno j (by omega), rfl⟩))
    | succ d ih =>
      intro q hq hno
      refine br_f (nI_nlt (by omega) (by omega)) (sx_hasb q rfl rfl (by omega) (fun w => h _ (Or.inl ⟨q, by omega, (hf q).mp w, hno, rfl⟩)) (fun w => nm_r (nI_1 q) (ih (q + 1) (by omega) (fun j hj => ?_))))
      by_cases e : j = q
      · subst e; exact fun v => w ((hf j).mpr v)
      · exact hno j (by omega)
  exact ⟨_, key (n + 1) 0 (by omega) (fun j hj => absurd hj (by omega))⟩
theorem sy_meeting {post : Int32 → Prop} {n : Nat} {ed sp ou : Int32} {op rg ar ka he ro rw ln : Nat → Int32} {b : Nat} (hn : n ≤ 16) (hv : sf_val n op rg ar) (hb : b < n)
    (h : ∀ r, sz_L (sz_F n (sf_nm n op ar) b) (n + 1) r → post r) : wpY_meeting post (nI n, ed, sp, ou, op, rg, ar, ka, he, ro, rw, ln) (nI b) := by
  unfold wpY_meeting
  dsimp only
  refine sy_noPlace hn (fun _ => br_t rfl (sy_meetings hn hv hb (fun m hm => ?_))) (fun w => absurd ⟨b, hb, rfl⟩ w)
  have key : ∀ d q, q + d = n + 1 → (∀ j, j < q → ¬ sz_F n (sf_nm n op ar) b j) → wY_meeting_18 post (nI b) m (nI n) ed sp ou op rg ar ka he ro rw ln (d + 1) (nI q) := by
    intro d
    induction d with
    | zero =>
      intro q hq hno
      exact br_t (nI_lt (by omega) (by omega)) (h _ (Or.inr ⟨fun j hj => hno j (by omega), rfl⟩))
    | succ d ih =>
      intro q hq hno
      have stay : ¬ sz_F n (sf_nm n op ar) b q → wY_meeting_18 post (nI b) m (nI n) ed sp ou op rg ar ka he ro rw ln (d + 1) (nI (q + 1)) := by
        intro w
        refine ih (q + 1) (by omega) (fun j hj => ?_)
        by_cases e : j = q
        · subst e; exact w
        · exact hno j (by omega)
      refine br_f (nI_nlt (by omega) (by omega)) (sy_reach (B := fun j => sf_M n (sf_nm n op ar) b j ∧ j ≠ q) hn hv hb (fun j => ?_) (fun z hz => sx_if ((sf_has m q (by omega)).trans (hm q)) (fun w => sx_if ((sf_has z q (by omega)).trans (hz q)) (fun x => h _ (Or.inl ⟨q, by omega, ⟨w, x⟩, hno, rfl⟩)) (fun x => nm_r (nI_1 q) (stay (fun v => x v.2)))) (fun w => nm_r (nI_1 q) (stay (fun v => w v.1)))))
      rw [sf_andnI, hm j, sf_oneI q (by omega)]
  exact ⟨_, key (n + 1) 0 (by omega) (fun j hj => absurd hj (by omega))⟩
theorem i_vc_meeting {k : Nat} {u : SX} {v : SY} (I : i_Rel k u v) (hk : k + 5 ≤ 2560) (v1 : Int32) : wpX_meeting (fun r => wpY_meeting (fun r' => r' = r ∧ i_Rel (k + 5) u v) v v1) u v1 := by
  obtain ⟨n, co, se, us, ed, sp, ou, op, rg, ar, nx, me, un, kn, he, po, pc, sc, en, ka, ro, rw, ln, rfl, rfl, hn0, hn, hv, hD⟩ := I
  have hR : i_Rel (k + 5) (nI n, co, se, us, op, rg, ar, nx, me, un, kn, he, po, pc, sc, en) (nI n, ed, sp, ou, op, rg, ar, ka, he, ro, rw, ln) := sz_R hn0 hn hv hD
  by_cases hi : sz_P v1 n
  · obtain ⟨b, hb, rfl⟩ := hi
    exact sx_meeting hn hv hD hb (fun r hr => sy_meeting hn hv hb (fun r' hr' => ⟨sz_L_u hr hr', hR⟩))
  · unfold wpX_meeting
    dsimp only
    refine sx_isPlace hn (fun w => absurd w hi) (fun _ => br_t rfl ?_)
    unfold wpY_meeting
    dsimp only
    exact sy_noPlace hn (fun q => absurd q hi) (fun _ => br_f (by decide) ⟨rfl, hR⟩)
theorem i_vc_under {k : Nat} {u : SX} {v : SY} (I : i_Rel k u v) (hk : k + 5 ≤ 2560) (v1 : Int32) (v2 : Int32) : wpX_under (fun r => wpY_under (fun r' => r' = r ∧ i_Rel (k + 5) u v) v v1 v2) u v1 v2 := by
  obtain ⟨n, co, se, us, ed, sp, ou, op, rg, ar, nx, me, un, kn, he, po, pc, sc, en, ka, ro, rw, ln, rfl, rfl, hn0, hn, hv, hD⟩ := I
  have hR : i_Rel (k + 5) (nI n, co, se, us, op, rg, ar, nx, me, un, kn, he, po, pc, sc, en) (nI n, ed, sp, ou, op, rg, ar, ka, he, ro, rw, ln) := sz_R hn0 hn hv hD
  unfold wpX_under
  dsimp only
  refine sx_isPlace hn (fun hq => br_f (by decide) (sx_isPlace hn (fun hb => br_f (by decide) ?_) (fun hb => br_t rfl ?_))) (fun hq => br_t rfl ?_)
  · have hq' := hq
    have hb' := hb
    obtain ⟨q, hqn, rfl⟩ := hq
    obtain ⟨b, hbn, rfl⟩ := hb
    refine ⟨vp_in_nI (by omega) (by omega), sx_hasb q (sx_at (by omega)) rfl (by omega) (fun w => ?_) (fun w => ?_)⟩
    · unfold wpY_under
      dsimp only
      exact sy_noPlace hn (fun _ => br_t rfl (sy_noPlace hn (fun _ => br_t rfl (sy_allUnder hn hv hbn (fun z hz => ⟨sz_b1 (by omega) ((hz q).mpr ((hD.2.2.2.1 b hbn q).mp w)), hR⟩))) (fun x => absurd hb' x))) (fun x => absurd hq' x)
    · unfold wpY_under
      dsimp only
      exact sy_noPlace hn (fun _ => br_t rfl (sy_noPlace hn (fun _ => br_t rfl (sy_allUnder hn hv hbn (fun z hz => ⟨sz_b0 (by omega) (fun x => w ((hD.2.2.2.1 b hbn q).mpr ((hz q).mp x))), hR⟩))) (fun x => absurd hb' x))) (fun x => absurd hq' x)
  · unfold wpY_under
    dsimp only
    exact sy_noPlace hn (fun _ => br_t rfl (sy_noPlace hn (fun x => absurd x hb) (fun _ => br_f (by decide) ⟨rfl, hR⟩))) (fun x => absurd hq x)
  · unfold wpY_under
    dsimp only
    exact sy_noPlace hn (fun x => absurd x hq) (fun _ => br_f (by decide) ⟨rfl, hR⟩)
theorem i_vc_knows {k : Nat} {u : SX} {v : SY} (I : i_Rel k u v) (hk : k + 5 ≤ 2560) (v1 : Int32) (v2 : Int32) : wpX_knows (fun r => wpY_knows (fun r' v' => r' = r ∧ i_Rel (k + 5) u v') v v1 v2) u v1 v2 := by
  obtain ⟨n, co, se, us, ed, sp, ou, op, rg, ar, nx, me, un, kn, he, po, pc, sc, en, ka, ro, rw, ln, rfl, rfl, hn0, hn, hv, hD⟩ := I
  unfold wpX_knows
  dsimp only
  refine sx_isPlace hn (fun hi => br_f (by decide) (sx_isRegister (fun hr => br_f (by decide) ?_) (fun hr => br_t rfl ?_))) (fun hi => br_t rfl ?_)
  · have hi' := hi
    have hr' := hr
    obtain ⟨i, hin, rfl⟩ := hi
    obtain ⟨r, hrn, rfl⟩ := hr
    refine ⟨vp_in_nI (by omega) (by omega), sx_hasb r (sx_at (by omega)) rfl (by omega) (fun w => ?_) (fun w => ?_)⟩
    · unfold wpY_knows
      dsimp only
      exact sy_noPlace hn (fun _ => br_t rfl (sy_small (fun _ => br_f (by decide) (sy_findKnowing hn0 hn hv (fun K hK => ⟨vp_in_nI (by omega) (by omega), by rw [nI_clamp (by omega)]; exact sz_b1 (by omega) ((hK i r hin).mpr ((hD.2.2.2.2.1 i r hin).mp w)), sz_R hn0 hn hv hD⟩))) (fun x => absurd hr' x))) (fun x => absurd hi' x)
    · unfold wpY_knows
      dsimp only
      exact sy_noPlace hn (fun _ => br_t rfl (sy_small (fun _ => br_f (by decide) (sy_findKnowing hn0 hn hv (fun K hK => ⟨vp_in_nI (by omega) (by omega), by rw [nI_clamp (by omega)]; exact sz_b0 (by omega) (fun x => w ((hD.2.2.2.2.1 i r hin).mpr ((hK i r hin).mp x))), sz_R hn0 hn hv hD⟩))) (fun x => absurd hr' x))) (fun x => absurd hi' x)
  · unfold wpY_knows
    dsimp only
    exact sy_noPlace hn (fun _ => br_t rfl (sy_small (fun x => absurd x hr) (fun _ => br_t rfl ⟨rfl, sz_R hn0 hn hv hD⟩))) (fun x => absurd hi x)
  · unfold wpY_knows
    dsimp only
    exact sy_noPlace hn (fun x => absurd x hi) (fun _ => br_f (by decide) ⟨rfl, sz_R hn0 hn hv hD⟩)
theorem i_vc_secret {k : Nat} {u : SX} {v : SY} (I : i_Rel k u v) (hk : k + 5 ≤ 2560) (v1 : Int32) : wpX_secret (fun r => wpY_secret (fun r' v' => r' = r ∧ i_Rel (k + 5) u v') v v1) u v1 := by
  obtain ⟨n, co, se, us, ed, sp, ou, op, rg, ar, nx, me, un, kn, he, po, pc, sc, en, ka, ro, rw, ln, rfl, rfl, hn0, hn, hv, hD⟩ := I
  unfold wpX_secret
  dsimp only
  refine sx_isPlace hn (fun hi => br_f (by decide) ?_) (fun hi => br_t rfl ?_)
  · have hi' := hi
    obtain ⟨i, hin, rfl⟩ := hi
    have hse := hD.2.2.2.2.2.1 i hin
    refine sx_hasb i rfl rfl (by omega) (fun w => ?_) (fun w => ?_)
    · unfold wpY_secret
      dsimp only
      exact sy_noPlace hn (fun _ => br_t rfl (sy_findKnowing hn0 hn hv (fun K hK => sy_allComeTo hn0 hn hv (fun c hc => sy_isSecret hn hv hin hc (fun _ _ _ => br_f (by decide) ⟨rfl, sz_R hn0 hn hv hD⟩) (fun x => absurd ⟨sf_K_come (hse.mp w).2, (hse.mp w).1, (hK i _ hin).mpr (hse.mp w).2⟩ x))))) (fun x => absurd hi' x)
    · unfold wpY_secret
      dsimp only
      exact sy_noPlace hn (fun _ => br_t rfl (sy_findKnowing hn0 hn hv (fun K hK => sy_allComeTo hn0 hn hv (fun c hc => sy_isSecret hn hv hin hc (fun _ x1 x2 => absurd (hse.mpr ⟨x1, (hK i _ hin).mp x2⟩) w) (fun _ => br_t rfl ⟨rfl, sz_R hn0 hn hv hD⟩))))) (fun x => absurd hi' x)
  · unfold wpY_secret
    dsimp only
    exact sy_noPlace hn (fun x => absurd x hi) (fun _ => br_f (by decide) ⟨rfl, sz_R hn0 hn hv hD⟩)
/-- bad places -/
def sz_B (n : Nat) (op rg ar : Nat → Int32) (i : Nat) : Prop :=
  op i = 4 ∧ sf_come n (sf_nm n op ar) i ∧ (sf_K n (sf_nm n op ar) op rg ar i (sf_n rg i) ∨ sf_V n (sf_nm n op ar) op rg (sf_K n (sf_nm n op ar) op rg ar) i)
theorem sx_leastBadPlace {post : Int32 → Prop} {n : Nat} {co se us : Int32} {op rg ar nx me un kn he po pc sc en : Nat → Int32} (hn : n ≤ 16) (hv : sf_val n op rg ar) (hD : sx_D n co se us op rg ar nx me un kn)
    (h : ∀ r, sz_L (sz_B n op rg ar) n r → post r) : wpX_leastBadPlace post (nI n, co, se, us, op, rg, ar, nx, me, un, kn, he, po, pc, sc, en) := by
  have key : ∀ d i, i + d = n → (∀ j, j < i → ¬ sz_B n op rg ar j) → wX_leastBadPlace_2 post (nI n) co se us op rg ar nx me un kn he po pc sc en (d + 1) (nI i) := by
    intro d
    induction d with
    | zero =>
      intro i hi hno
      exact br_t (nI_le (by omega) (by omega)) (h _ (Or.inr ⟨fun j hj => hno j (by omega), rfl⟩))
    | succ d ih =>
      intro i hi hno
      have hin : vp_in (nI i) 16 := vp_in_nI (by omega) (by omega)
      have stay : ¬ sz_B n op rg ar i → wX_leastBadPlace_2 post (nI n) co se us op rg ar nx me un kn he po pc sc en (d + 1) (nI (i + 1)) := by
        intro w
        refine ih (i + 1) (by omega) (fun j hj => ?_)
        by_cases e : j = i
        · subst e; exact w
        · exact hno j (by omega)
      have yes : sz_B n op rg ar i → post (nI i) := fun w => h _ (Or.inl ⟨i, by omega, w, hno, rfl⟩)
      refine br_f (nI_ge (by omega) (by omega)) ⟨hin, sx_eq (sx_at (by omega)) (fun o => sx_hasb i rfl rfl (by omega) (fun hc => ⟨hin, hin, ?_⟩) (fun hc => nm_r (nI_1 i) (stay (fun w => hc ((hD.2.1 i).mpr w.2.1))))) (fun o => nm_r (nI_1 i) (stay (fun w => o w.1)))⟩
      obtain ⟨r, hr, er⟩ := (hv i (by omega)).2.1 (by rw [o]; decide) (by rw [o]; decide)
      have er' : sf_n rg i = r := sf_n_e er (by omega)
      have hc' := (hD.2.1 i).mp hc
      have hK := hD.2.2.2.2.1 i (sf_n rg i) (by omega)
      have hU := hD.2.2.2.2.2.2 i (by omega)
      refine sx_hasb r (sx_at (by omega)) ((sx_at (by omega)).trans er) (by omega) (fun w => yes ⟨o, hc', Or.inl (hK.mp (by rw [er']; exact w))⟩) (fun w => sx_hasb i rfl rfl (by omega) (fun x => yes ⟨o, hc', Or.inr (hU.mp x)⟩) (fun x => nm_r (nI_1 i) (stay (fun q => ?_))))
      rcases q.2.2 with q | q
      · have := hK.mpr q
        rw [er'] at this
        exact w this
      · exact x (hU.mpr q)
  exact ⟨_, key n 0 (by omega) (fun j hj => absurd hj (by omega))⟩
theorem sy_bad {post : Int32 → SY → Prop} {n : Nat} {ed sp ou : Int32} {op rg ar ka he ro rw ln : Nat → Int32} (hn0 : 0 < n) (hn : n ≤ 16) (hv : sf_val n op rg ar)
    (h : ∀ r K, sz_L (sz_B n op rg ar) n r → post r (nI n, ed, sp, ou, op, rg, ar, K, he, ro, rw, ln)) : wpY_bad post (nI n, ed, sp, ou, op, rg, ar, ka, he, ro, rw, ln) := by
  unfold wpY_bad
  dsimp only
  refine sy_findKnowing hn0 hn hv (fun K hK => sy_allComeTo hn0 hn hv (fun c hc => sy_underSecrets hn hv hc (fun z hz => ?_)))
  have hU : ∀ i, bt z i = true ↔ sf_V n (sf_nm n op ar) op rg (sf_K n (sf_nm n op ar) op rg ar) i := fun i =>
    (hz i).trans ⟨sf_V_mono (fun b r hb w => (hK b r hb).mp w), sf_V_mono (fun b r hb w => (hK b r hb).mpr w)⟩
  have key : ∀ d i, i + d = n → (∀ j, j < i → ¬ sz_B n op rg ar j) → wY_bad_17 post c z (nI n) ed sp ou op rg ar K he ro rw ln (d + 1) (nI i) := by
    intro d
    induction d with
    | zero =>
      intro i hi hno
      exact br_t (nI_le (by omega) (by omega)) (h _ K (Or.inr ⟨fun j hj => hno j (by omega), rfl⟩))
    | succ d ih =>
      intro i hi hno
      have hin : vp_in (nI i) 16 := vp_in_nI (by omega) (by omega)
      have stay : ¬ sz_B n op rg ar i → wY_bad_17 post c z (nI n) ed sp ou op rg ar K he ro rw ln (d + 1) (nI (i + 1)) := by
        intro w
        refine ih (i + 1) (by omega) (fun j hj => ?_)
        by_cases e : j = i
        · subst e; exact w
        · exact hno j (by omega)
      have yes : sz_B n op rg ar i → post (nI i) (nI n, ed, sp, ou, op, rg, ar, K, he, ro, rw, ln) := fun w => h _ K (Or.inl ⟨i, by omega, w, hno, rfl⟩)
      refine br_f (nI_ge (by omega) (by omega)) (sx_if ((sf_has c i (by omega)).trans (hc i)) (fun hc' => ⟨hin, sx_eq (sx_at (by omega)) (fun o => ?_) (fun o => br_t rfl (nm_r (nI_1 i) (stay (fun w => o w.1))))⟩) (fun hc' => br_t rfl (nm_r (nI_1 i) (stay (fun w => hc' w.2.1)))))
      obtain ⟨r, hr, er⟩ := (hv i (by omega)).2.1 (by rw [o]; decide) (by rw [o]; decide)
      have er' : sf_n rg i = r := sf_n_e er (by omega)
      have hKi := hK i (sf_n rg i) (by omega)
      refine br_f (by decide) ⟨vp_in_nI (by omega) (by omega), hin, ?_⟩
      rw [nI_clamp (n := i) (by omega), er]
      refine sx_if (sf_has (K i) r (by omega)) (fun w => yes ⟨o, hc', Or.inl (hKi.mp (by rw [er']; exact w))⟩) (fun w => sx_if (sf_has z i (by omega)) (fun x => yes ⟨o, hc', Or.inr ((hU i).mp x)⟩) (fun x => nm_r (nI_1 i) (stay (fun q => ?_))))
      rcases q.2.2 with q | q
      · have := hKi.mpr q
        rw [er'] at this
        exact w this
      · exact x ((hU i).mpr q)
  exact ⟨_, key n 0 (by omega) (fun j hj => absurd hj (by omega))⟩
theorem i_vc_bad {k : Nat} {u : SX} {v : SY} (I : i_Rel k u v) (hk : k + 5 ≤ 2560) : wpX_bad (fun r => wpY_bad (fun r' v' => r' = r ∧ i_Rel (k + 5) u v') v) u := by
  obtain ⟨n, co, se, us, ed, sp, ou, op, rg, ar, nx, me, un, kn, he, po, pc, sc, en, ka, ro, rw, ln, rfl, rfl, hn0, hn, hv, hD⟩ := I
  unfold wpX_bad
  dsimp only
  exact sx_leastBadPlace hn hv hD (fun r hr => sy_bad hn0 hn hv (fun r' K hr' => ⟨sz_L_u hr hr', sz_R hn0 hn hv hD⟩))
theorem i_vc_safe {k : Nat} {u : SX} {v : SY} (I : i_Rel k u v) (hk : k + 5 ≤ 2560) : wpX_safe (fun r => wpY_safe (fun r' v' => r' = r ∧ i_Rel (k + 5) u v') v) u := by
  obtain ⟨n, co, se, us, ed, sp, ou, op, rg, ar, nx, me, un, kn, he, po, pc, sc, en, ka, ro, rw, ln, rfl, rfl, hn0, hn, hv, hD⟩ := I
  unfold wpX_safe
  dsimp only
  refine sx_leastBadPlace hn hv hD (fun r hr => br_c (fun e => ?_) (fun e => ?_))
  · unfold wpY_safe
    dsimp only
    refine sy_bad hn0 hn hv (fun r' K hr' => ?_)
    have := sz_L_u hr hr'
    subst this
    exact br_t e ⟨rfl, sz_R hn0 hn hv hD⟩
  · unfold wpY_safe
    dsimp only
    refine sy_bad hn0 hn hv (fun r' K hr' => ?_)
    have := sz_L_u hr hr'
    subst this
    exact br_f e ⟨rfl, sz_R hn0 hn hv hD⟩
end
section
/-! the runs -/
theorem i_vc_run {k : Nat} {u : SX} {v : SY} (I : i_Rel k u v) (hk : k + 5 ≤ 2560) (v1 : Int32) (v2 : Int32) : wpX_run (fun r u' => wpY_run (fun r' v' => r' = r ∧ i_Rel (k + 5) u' v') v v1 v2) u v1 v2 := by
  obtain ⟨n, co, se, us, ed, sp, ou, op, rg, ar, nx, me, un, kn, he, po, pc, sc, en, ka, ro, rw, ln, rfl, rfl, hn0, hn, hv, hD⟩ := I
  unfold wpX_run
  dsimp only
  refine sx_isNumber (fun hp => br_f (by decide) (sx_isNumber (fun hs => br_f (by decide) ?_) (fun hs => br_t rfl ?_))) (fun hp => br_t rfl ?_)
  · have hs' := hs
    obtain ⟨s, hsn, rfl⟩ := hs
    refine sx_doRun hn hv hsn (fun d g i c w po' pc' hgo hi hc hd a1 a2 a3 => ⟨vp_in_nI (by omega) (by omega), ?_⟩)
    unfold wpY_run
    dsimp only
    refine sy_noNumbers (fun _ _ => br_t rfl (sy_doRun hn hv (fun d2 g2 i2 c2 w2 ro2 hgo2 hi2 hc2 hd2 b1 => ?_))) (fun x => absurd ⟨hp, hs'⟩ x)
    have e := hgo.symm.trans hgo2
    simp only [Prod.mk.injEq] at e
    obtain ⟨e1, e2, e3, e4, e5⟩ := e
    subst e1 e2 e3 e4 e5
    exact ⟨Eq.symm (by rw [nI_clamp (by omega), pk_us]), sz_R hn0 hn hv hD⟩
  · unfold wpY_run
    dsimp only
    exact sy_noNumbers (fun _ x => absurd x hs) (fun _ => br_f (by decide) ⟨rfl, sz_R hn0 hn hv hD⟩)
  · unfold wpY_run
    dsimp only
    exact sy_noNumbers (fun x _ => absurd x hp) (fun _ => br_f (by decide) ⟨rfl, sz_R hn0 hn hv hD⟩)
theorem i_vc_steps {k : Nat} {u : SX} {v : SY} (I : i_Rel k u v) (hk : k + 5 ≤ 2560) (v1 : Int32) (v2 : Int32) : wpX_steps (fun r u' => wpY_steps (fun r' v' => r' = r ∧ i_Rel (k + 5) u' v') v v1 v2) u v1 v2 := by
  obtain ⟨n, co, se, us, ed, sp, ou, op, rg, ar, nx, me, un, kn, he, po, pc, sc, en, ka, ro, rw, ln, rfl, rfl, hn0, hn, hv, hD⟩ := I
  unfold wpX_steps
  dsimp only
  refine sx_isNumber (fun hp => br_f (by decide) (sx_isNumber (fun hs => br_f (by decide) ?_) (fun hs => br_t rfl ?_))) (fun hp => br_t rfl ?_)
  · have hs' := hs
    obtain ⟨s, hsn, rfl⟩ := hs
    refine sx_doRun hn hv hsn (fun d g i c w po' pc' hgo hi hc hd a1 a2 a3 => ⟨vp_in_nI (by omega) (by omega), ?_⟩)
    unfold wpY_steps
    dsimp only
    refine sy_noNumbers (fun _ _ => br_t rfl (sy_doRun hn hv (fun d2 g2 i2 c2 w2 ro2 hgo2 hi2 hc2 hd2 b1 => ?_))) (fun x => absurd ⟨hp, hs'⟩ x)
    have e := hgo.symm.trans hgo2
    simp only [Prod.mk.injEq] at e
    obtain ⟨e1, e2, e3, e4, e5⟩ := e
    subst e1 e2 e3 e4 e5
    exact ⟨Eq.symm (by rw [nI_clamp (by omega), pk_us]), sz_R hn0 hn hv hD⟩
  · unfold wpY_steps
    dsimp only
    exact sy_noNumbers (fun _ x => absurd x hs) (fun _ => br_f (by decide) ⟨rfl, sz_R hn0 hn hv hD⟩)
  · unfold wpY_steps
    dsimp only
    exact sy_noNumbers (fun x _ => absurd x hp) (fun _ => br_f (by decide) ⟨rfl, sz_R hn0 hn hv hD⟩)
theorem i_vc_outs {k : Nat} {u : SX} {v : SY} (I : i_Rel k u v) (hk : k + 5 ≤ 2560) (v1 : Int32) (v2 : Int32) : wpX_outs (fun r u' => wpY_outs (fun r' v' => r' = r ∧ i_Rel (k + 5) u' v') v v1 v2) u v1 v2 := by
  obtain ⟨n, co, se, us, ed, sp, ou, op, rg, ar, nx, me, un, kn, he, po, pc, sc, en, ka, ro, rw, ln, rfl, rfl, hn0, hn, hv, hD⟩ := I
  unfold wpX_outs
  dsimp only
  refine sx_isNumber (fun hp => br_f (by decide) (sx_isNumber (fun hs => br_f (by decide) ?_) (fun hs => br_t rfl ?_))) (fun hp => br_t rfl ?_)
  · have hs' := hs
    obtain ⟨s, hsn, rfl⟩ := hs
    refine sx_doRun hn hv hsn (fun d g i c w po' pc' hgo hi hc hd a1 a2 a3 => ⟨vp_in_nI (by omega) (by omega), ?_⟩)
    unfold wpY_outs
    dsimp only
    refine sy_noNumbers (fun _ _ => br_t rfl (sy_doRun hn hv (fun d2 g2 i2 c2 w2 ro2 hgo2 hi2 hc2 hd2 b1 => ?_))) (fun x => absurd ⟨hp, hs'⟩ x)
    have e := hgo.symm.trans hgo2
    simp only [Prod.mk.injEq] at e
    obtain ⟨e1, e2, e3, e4, e5⟩ := e
    subst e1 e2 e3 e4 e5
    exact ⟨Eq.symm (by rw [nI_clamp (by omega), a1]), sz_R hn0 hn hv hD⟩
  · unfold wpY_outs
    dsimp only
    exact sy_noNumbers (fun _ x => absurd x hs) (fun _ => br_f (by decide) ⟨rfl, sz_R hn0 hn hv hD⟩)
  · unfold wpY_outs
    dsimp only
    exact sy_noNumbers (fun x _ => absurd x hp) (fun _ => br_f (by decide) ⟨rfl, sz_R hn0 hn hv hD⟩)
theorem i_vc_out {k : Nat} {u : SX} {v : SY} (I : i_Rel k u v) (hk : k + 5 ≤ 2560) (v1 : Int32) (v2 : Int32) (v3 : Int32) : wpX_out (fun r u' => wpY_out (fun r' v' => r' = r ∧ i_Rel (k + 5) u' v') v v1 v2 v3) u v1 v2 v3 := by
  obtain ⟨n, co, se, us, ed, sp, ou, op, rg, ar, nx, me, un, kn, he, po, pc, sc, en, ka, ro, rw, ln, rfl, rfl, hn0, hn, hv, hD⟩ := I
  unfold wpX_out
  dsimp only
  refine sx_isNumber (fun hp => br_f (by decide) (sx_isNumber (fun hs => br_f (by decide) ?_) (fun hs => br_t rfl ?_))) (fun hp => br_t rfl ?_)
  · have hs' := hs
    obtain ⟨s, hsn, rfl⟩ := hs
    have hsi : vp_in (nI s) 4 := vp_in_nI hsn (by omega)
    refine sx_doRun hn hv hsn (fun d g i c w po' pc' hgo hi hc hd a1 a2 a3 => ?_)
    have Y : ∀ (r : Int32) (u' : SX), (∀ ro2, sy_W c w ro2 → (v3 < 0 → (-4 = r ∧ i_Rel (k + 5) u' (nI n, sx_e n i, nI d, nI c, op, rg, ar, ka, g, ro2, rw, ln))) ∧ (¬ v3 < 0 → (v3 < nI c → (vp_in v3 60 ∧ (ro2 v3.toNatClampNeg = r ∧ i_Rel (k + 5) u' (nI n, sx_e n i, nI d, nI c, op, rg, ar, ka, g, ro2, rw, ln)))) ∧ (¬ v3 < nI c → (-4 = r ∧ i_Rel (k + 5) u' (nI n, sx_e n i, nI d, nI c, op, rg, ar, ka, g, ro2, rw, ln))))) →
        wpY_out (fun r' v' => r' = r ∧ i_Rel (k + 5) u' v') (nI n, ed, sp, ou, op, rg, ar, ka, he, ro, rw, ln) v1 (nI s) v3 := by
      intro r u' H
      unfold wpY_out
      dsimp only
      refine sy_noNumbers (fun _ _ => br_t rfl (sy_doRun hn hv (fun d2 g2 i2 c2 w2 ro2 hgo2 hi2 hc2 hd2 b1 => ?_))) (fun x => absurd ⟨hp, hs'⟩ x)
      have e := hgo.symm.trans hgo2
      simp only [Prod.mk.injEq] at e
      obtain ⟨e1, e2, e3, e4, e5⟩ := e
      subst e1 e2 e3 e4 e5
      exact H ro2 b1
    refine br_c (fun z => Y _ _ (fun ro2 b1 => br_t z ⟨rfl, sz_R hn0 hn hv hD⟩)) (fun z => ⟨hsi, ?_⟩)
    obtain ⟨j, hj, rfl⟩ := nI_of z
    dsimp only
    rw [nI_clamp (n := s) (by omega), a1]
    refine pk_lt j c (fun x => ?_) (fun x => Y _ _ (fun ro2 b1 => br_f z (br_f (nI_nlt x hj) ⟨rfl, sz_R hn0 hn hv hD⟩)))
    rw [sx_ix]
    refine ⟨vp_in_nI (by omega) (by omega), Y _ _ (fun ro2 b1 => br_f z (br_t (nI_lt x (by omega)) ⟨vp_in_nI (by omega) (by omega), ?_, sz_R hn0 hn hv hD⟩))⟩
    rw [nI_clamp (by omega), nI_clamp (by omega), a3.1 j x, b1 j x]
  · unfold wpY_out
    dsimp only
    exact sy_noNumbers (fun _ x => absurd x hs) (fun _ => br_f (by decide) ⟨rfl, sz_R hn0 hn hv hD⟩)
  · unfold wpY_out
    dsimp only
    exact sy_noNumbers (fun x _ => absurd x hp) (fun _ => br_f (by decide) ⟨rfl, sz_R hn0 hn hv hD⟩)
theorem i_vc_shows {k : Nat} {u : SX} {v : SY} (I : i_Rel k u v) (hk : k + 5 ≤ 2560) (v1 : Int32) : wpX_shows (fun r u' => wpY_shows (fun r' v' => r' = r ∧ i_Rel (k + 5) u' v') v v1) u v1 := by
  obtain ⟨n, co, se, us, ed, sp, ou, op, rg, ar, nx, me, un, kn, he, po, pc, sc, en, ka, ro, rw, ln, rfl, rfl, hn0, hn, hv, hD⟩ := I
  unfold wpX_shows
  dsimp only
  refine sx_isNumber (fun hp => br_f (by decide) (sx_countOutputs hn hv (fun po' pc' sc' en' => ?_))) (fun hp => br_t rfl ?_)
  · unfold wpY_shows
    dsimp only
    exact sy_small (fun _ => br_f (by decide) (sy_showsWith hn hv (fun ed' sp' ou' ro' rw' ln' => ⟨rfl, sz_R hn0 hn hv hD⟩))) (fun x => absurd hp x)
  · unfold wpY_shows
    dsimp only
    exact sy_small (fun x => absurd x hp) (fun _ => br_t rfl ⟨rfl, sz_R hn0 hn hv hD⟩)
theorem i_vc_leaks {k : Nat} {u : SX} {v : SY} (I : i_Rel k u v) (hk : k + 5 ≤ 2560) : wpX_leaks (fun r u' => wpY_leaks (fun r' v' => r' = r ∧ i_Rel (k + 5) u' v') v) u := by
  obtain ⟨n, co, se, us, ed, sp, ou, op, rg, ar, nx, me, un, kn, he, po, pc, sc, en, ka, ro, rw, ln, rfl, rfl, hn0, hn, hv, hD⟩ := I
  exact sx_leaks hn hv (fun po' pc' sc' en' => sy_leaks hn hv (fun ed' sp' ou' ro' rw' ln' => ⟨rfl, sz_R hn0 hn hv hD⟩))
end
