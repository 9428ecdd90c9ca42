/-! counting members below m -/
def sf_c (f : Nat → Bool) : Nat → Nat
  | 0 => 0
  | m + 1 => sf_c f m + (if f m = true then 1 else 0)
theorem sf_c_s (f : Nat → Bool) (m : Nat) : sf_c f (m + 1) = sf_c f m + (if f m = true then 1 else 0) := rfl
theorem sf_c_le (f : Nat → Bool) : ∀ m, sf_c f m ≤ m := by
  intro m
  induction m with
  | zero => exact Nat.le_refl 0
  | succ m ih => rw [sf_c_s]; split <;> omega
theorem sf_c_mono {f g : Nat → Bool} : ∀ m, (∀ i, i < m → f i = true → g i = true) → sf_c f m ≤ sf_c g m := by
  intro m
  induction m with
  | zero => intro _; exact Nat.le_refl 0
  | succ m ih =>
    intro h
    have h1 := ih (fun i hi => h i (by omega))
    have h2 := h m (by omega)
    rw [sf_c_s, sf_c_s]
    by_cases hf : f m = true
    · rw [if_pos hf, if_pos (h2 hf)]; omega
    · rw [if_neg hf]; omega
theorem sf_c_lt {f g : Nat → Bool} {a : Nat} (hg : g a = true) (hf : ¬ f a = true) : ∀ m, a < m → (∀ i, i < m → f i = true → g i = true) → sf_c f m < sf_c g m := by
  intro m
  induction m with
  | zero => intro h; omega
  | succ m ih =>
    intro ha h
    have h2 := h m (by omega)
    rw [sf_c_s, sf_c_s]
    by_cases e : a = m
    · subst e
      have h1 := sf_c_mono a (fun i hi => h i (by omega))
      rw [if_neg hf, if_pos hg]; omega
    · have h1 := ih (by omega) (fun i hi => h i (by omega))
      by_cases hfm : f m = true
      · rw [if_pos hfm, if_pos (h2 hfm)]; omega
      · rw [if_neg hfm]; omega
theorem sf_c_pos {f : Nat → Bool} {a : Nat} (ha : f a = true) : ∀ m, a < m → 1 ≤ sf_c f m := by
  intro m
  induction m with
  | zero => intro h; omega
  | succ m ih =>
    intro h
    rw [sf_c_s]
    by_cases e : a = m
    · subst e; rw [if_pos ha]; omega
    · have := ih (by omega); omega
theorem sf_c_full {f : Nat → Bool} : ∀ m, m ≤ sf_c f m → ∀ i, i < m → f i = true := by
  intro m
  induction m with
  | zero => intro _ i hi; omega
  | succ m ih =>
    intro h i hi
    rw [sf_c_s] at h
    have h1 := sf_c_le f m
    by_cases hf : f m = true
    · rw [if_pos hf] at h
      by_cases e : i = m
      · subst e; exact hf
      · exact ih (by omega) i (by omega)
    · rw [if_neg hf] at h; omega

/-! the least set from S, by steps of nm, without B -/
def sf_R (n : Nat) (nm : Nat → Int32) (S B : Nat → Prop) (j : Nat) : Prop :=
  ∀ C : Nat → Prop, (∀ i, S i → ¬ B i → C i) → (∀ i k, C i → i < n → bt (nm i) k = true → ¬ B k → C k) → C j
theorem sf_R_base {n : Nat} {nm : Nat → Int32} {S B : Nat → Prop} {i : Nat} (h : S i) (hb : ¬ B i) : sf_R n nm S B i :=
  fun _ h0 _ => h0 i h hb
theorem sf_R_step {n : Nat} {nm : Nat → Int32} {S B : Nat → Prop} {i k : Nat} (h : sf_R n nm S B i) (hi : i < n) (hk : bt (nm i) k = true) (hb : ¬ B k) : sf_R n nm S B k :=
  fun C h0 hs => hs i k (h C h0 hs) hi hk hb
theorem sf_R_not {n : Nat} {nm : Nat → Int32} {S B : Nat → Prop} {j : Nat} (h : sf_R n nm S B j) : ¬ B j :=
  h (fun j => ¬ B j) (fun _ _ hb => hb) (fun _ _ _ _ _ hb => hb)
def sf_ok (n : Nat) (nm : Nat → Int32) : Prop := ∀ i, i < n → ∀ j, bt (nm i) j = true → j ≤ n
theorem sf_R_le {n : Nat} {nm : Nat → Int32} {S B : Nat → Prop} {j : Nat} (hn : sf_ok n nm) (hS : ∀ i, S i → i ≤ n) (h : sf_R n nm S B j) : j ≤ n :=
  h (fun j => j ≤ n) (fun i hi _ => hS i hi) (fun i k _ hi hk _ => hn i hi k hk)
theorem sf_R_mono {n : Nat} {nm : Nat → Int32} {S B S' B' : Nat → Prop} {j : Nat} (hS : ∀ i, S i → ¬ B i → sf_R n nm S' B' i) (hB : ∀ i, B' i → B i) (h : sf_R n nm S B j) : sf_R n nm S' B' j :=
  h (fun j => sf_R n nm S' B' j) hS (fun _ _ hi hn hk hb => sf_R_step hi hn hk (fun z => hb (hB _ z)))
theorem sf_R_congr {n : Nat} {nm : Nat → Int32} {S B S' B' : Nat → Prop} (hS : ∀ i, S i ↔ S' i) (hB : ∀ i, B i ↔ B' i) (j : Nat) : sf_R n nm S B j ↔ sf_R n nm S' B' j :=
  ⟨sf_R_mono (fun i h hb => sf_R_base ((hS i).mp h) (fun z => hb ((hB i).mpr z))) (fun i z => (hB i).mpr z),
   sf_R_mono (fun i h hb => sf_R_base ((hS i).mpr h) (fun z => hb ((hB i).mp z))) (fun i z => (hB i).mp z)⟩
/-- the places behind b: its next ones are the starts -/
def sf_B (nm : Nat → Int32) (b j : Nat) : Prop := bt (nm b) j = true
theorem sf_R_split {n : Nat} {nm : Nat → Int32} {B : Nat → Prop} {b : Nat} (hb : b < n) (hB : ¬ B b) (j : Nat) : sf_R n nm (fun i => i = b) B j ↔ j = b ∨ sf_R n nm (sf_B nm b) B j := by
  constructor
  · intro h
    refine h (fun j => j = b ∨ sf_R n nm (sf_B nm b) B j) (fun i hi _ => Or.inl hi) (fun i k hi hn hk hbk => ?_)
    rcases hi with e | hi
    · subst e
      exact Or.inr (sf_R_base hk hbk)
    · exact Or.inr (sf_R_step hi hn hk hbk)
  · intro h
    have h0 : sf_R n nm (fun i => i = b) B b := sf_R_base rfl hB
    rcases h with e | h
    · rw [e]; exact h0
    · exact sf_R_mono (fun i hi hbi => sf_R_step h0 hb hi hbi) (fun _ z => z) h

/-! the component's rounds: k rounds done -/
def sf_cl (n : Nat) (nm : Nat → Int32) (B : Nat → Prop) (z : Int32) : Prop := ∀ i k, bt z i = true → i < n → bt (nm i) k = true → ¬ B k → bt z k = true
def sf_I (n : Nat) (nm : Nat → Int32) (S B : Nat → Prop) (k : Nat) (z : Int32) : Prop :=
  (∀ j, bt z j = true → sf_R n nm S B j) ∧ (∀ j, S j → ¬ B j → bt z j = true) ∧ (sf_cl n nm B z ∨ k + 1 ≤ sf_c (bt z) (n + 1))
theorem sf_I_0 {n : Nat} {nm : Nat → Int32} {s b : Int32} (hS : ∀ i, bt s i = true → i ≤ n) : sf_I n nm (fun i => bt s i = true) (fun i => bt b i = true) 0 (s &&& (b ^^^ (-1))) := by
  refine ⟨fun j h => ?_, fun j h hb => (sf_andnI s b j).mpr ⟨h, hb⟩, ?_⟩
  · have h' := (sf_andnI s b j).mp h
    exact sf_R_base h'.1 h'.2
  · by_cases e : s &&& (b ^^^ (-1)) = 0
    · left
      intro i k hi
      rw [e] at hi
      exact absurd hi (sf_0I i)
    · right
      obtain ⟨i, hi⟩ := sf_nz.mp e
      exact sf_c_pos hi (n + 1) (by have := hS i ((sf_andnI s b i).mp hi).1; omega)
theorem sf_I_s {n : Nat} {nm : Nat → Int32} {S : Nat → Prop} {b z y : Int32} {k : Nat} (hn : sf_ok n nm) (h : sf_I n nm S (fun i => bt b i = true) k z)
    (hy : ∀ j, bt y j = true ↔ ∃ i, i < n ∧ bt z i = true ∧ bt (nm i) j = true) : sf_I n nm S (fun i => bt b i = true) (k + 1) (z ||| (y &&& (b ^^^ (-1)))) := by
  obtain ⟨h1, h2, h3⟩ := h
  have hb : ∀ j, bt (z ||| (y &&& (b ^^^ (-1)))) j = true ↔ bt z j = true ∨ (bt y j = true ∧ ¬ bt b j = true) := fun j => by rw [sf_orI, sf_andnI]
  refine ⟨fun j hj => ?_, fun j hj hbj => (hb j).mpr (Or.inl (h2 j hj hbj)), ?_⟩
  · rcases (hb j).mp hj with hj | ⟨hj, hbj⟩
    · exact h1 j hj
    · obtain ⟨i, hi, hz, hk⟩ := (hy j).mp hj
      exact sf_R_step (h1 i hz) hi hk hbj
  · by_cases e : z ||| (y &&& (b ^^^ (-1))) = z
    · left
      rw [e]
      intro i k hi hin hk hbk
      rw [← e]
      exact (hb k).mpr (Or.inr ⟨(hy k).mpr ⟨i, hin, hi, hk⟩, hbk⟩)
    · obtain ⟨j, hj, hz⟩ := sf_ne (fun e' => e e'.symm) (fun i hi => (hb i).mpr (Or.inl hi))
      rcases h3 with h3 | h3
      · exfalso
        rcases (hb j).mp hj with hj | ⟨hj, hbj⟩
        · exact hz hj
        · obtain ⟨i, hi, hzi, hk⟩ := (hy j).mp hj
          exact hz (h3 i j hzi hi hk hbj)
      · right
        have hjn : j < n + 1 := by
          rcases (hb j).mp hj with hj | ⟨hj, hbj⟩
          · exact absurd hj hz
          · obtain ⟨i, hi, hzi, hk⟩ := (hy j).mp hj
            have := hn i hi j hk
            omega
        have := sf_c_lt hj hz (n + 1) hjn (fun i _ hi => (hb i).mpr (Or.inl hi))
        omega
theorem sf_I_n {n : Nat} {nm : Nat → Int32} {S B : Nat → Prop} {z : Int32} (hn : sf_ok n nm) (h : sf_I n nm S B n z) (j : Nat) : bt z j = true ↔ sf_R n nm S B j := by
  obtain ⟨h1, h2, h3⟩ := h
  refine ⟨h1 j, fun h => ?_⟩
  refine h (fun j => bt z j = true) h2 ?_
  rcases h3 with h3 | h3
  · exact fun i k hi hin hk hb => h3 i k hi hin hk hb
  · intro i k _ hin hk _
    exact sf_c_full (n + 1) h3 k (by have := hn i hin k hk; omega)

/-! the reference's rounds -/
def sf_J (n : Nat) (nm : Nat → Int32) (S B : Nat → Prop) (z y : Int32) : Prop :=
  (∀ j, bt z j = true → sf_R n nm S B j) ∧ (∀ j, S j → ¬ B j → bt z j = true) ∧ (∀ j, bt y j = true → bt z j = true) ∧ (z = y → sf_cl n nm B z)
theorem sf_J_0 {n : Nat} {nm : Nat → Int32} {s b : Int32} : sf_J n nm (fun i => bt s i = true) (fun i => bt b i = true) (s &&& (b ^^^ (-1))) 0 := by
  refine ⟨fun j h => ?_, fun j h hb => (sf_andnI s b j).mpr ⟨h, hb⟩, fun j h => absurd h (sf_0I j), fun e i k hi => ?_⟩
  · have h' := (sf_andnI s b j).mp h
    exact sf_R_base h'.1 h'.2
  · rw [e] at hi
    exact absurd hi (sf_0I i)
def sf_J1 (n : Nat) (nm : Nat → Int32) (S B : Nat → Prop) (y : Int32) (m : Nat) (z : Int32) : Prop :=
  (∀ j, bt z j = true → sf_R n nm S B j) ∧ (∀ j, S j → ¬ B j → bt z j = true) ∧ (∀ j, bt y j = true → bt z j = true) ∧ (∀ i k, i < m → bt y i = true → bt (nm i) k = true → ¬ B k → bt z k = true)
theorem sf_J1_0 {n : Nat} {nm : Nat → Int32} {S B : Nat → Prop} {z y : Int32} (h : sf_J n nm S B z y) : sf_J1 n nm S B z 0 z :=
  ⟨h.1, h.2.1, fun _ h => h, fun _ _ hi => absurd hi (by omega)⟩
theorem sf_J1_t {n : Nat} {nm : Nat → Int32} {S : Nat → Prop} {b y z : Int32} {m : Nat} (hm : m < n) (h : sf_J1 n nm S (fun i => bt b i = true) y m z) (hz : bt z m = true) :
    sf_J1 n nm S (fun i => bt b i = true) y (m + 1) (z ||| (nm m &&& (b ^^^ (-1)))) := by
  obtain ⟨h1, h2, h3, h4⟩ := h
  have hb : ∀ j, bt (z ||| (nm m &&& (b ^^^ (-1)))) j = true ↔ bt z j = true ∨ (bt (nm m) j = true ∧ ¬ bt b j = true) := fun j => by rw [sf_orI, sf_andnI]
  refine ⟨fun j hj => ?_, fun j hj hbj => (hb j).mpr (Or.inl (h2 j hj hbj)), fun j hj => (hb j).mpr (Or.inl (h3 j hj)), fun i k hi hy hk hbk => ?_⟩
  · rcases (hb j).mp hj with hj | ⟨hj, hbj⟩
    · exact h1 j hj
    · exact sf_R_step (h1 m hz) hm hj hbj
  · by_cases e : i = m
    · subst e
      exact (hb k).mpr (Or.inr ⟨hk, hbk⟩)
    · exact (hb k).mpr (Or.inl (h4 i k (by omega) hy hk hbk))
theorem sf_J1_f {n : Nat} {nm : Nat → Int32} {S B : Nat → Prop} {y z : Int32} {m : Nat} (h : sf_J1 n nm S B y m z) (hz : ¬ bt z m = true) : sf_J1 n nm S B y (m + 1) z := by
  obtain ⟨h1, h2, h3, h4⟩ := h
  refine ⟨h1, h2, h3, fun i k hi hy hk hbk => ?_⟩
  by_cases e : i = m
  · subst e
    exact absurd (h3 i hy) hz
  · exact h4 i k (by omega) hy hk hbk
theorem sf_J1_n {n : Nat} {nm : Nat → Int32} {S B : Nat → Prop} {y z : Int32} (h : sf_J1 n nm S B y n z) : sf_J n nm S B z y :=
  ⟨h.1, h.2.1, h.2.2.1, fun e i k hi hin hk hb => h.2.2.2 i k hin (by rw [← e]; exact hi) hk hb⟩
theorem sf_J_lt {n : Nat} {nm : Nat → Int32} {S B : Nat → Prop} {z y : Int32} (hn : sf_ok n nm) (hS : ∀ i, S i → i ≤ n) (h : sf_J n nm S B z y) (e : ¬ z = y) : n + 1 - sf_c (bt z) (n + 1) < n + 1 - sf_c (bt y) (n + 1) := by
  obtain ⟨j, hj, hz⟩ := sf_ne (fun e' => e e'.symm) h.2.2.1
  have hjn := sf_R_le hn hS (h.1 j hj)
  have h1 := sf_c_lt hj hz (n + 1) (by omega) (fun i _ hi => h.2.2.1 i hi)
  have h2 := sf_c_le (bt z) (n + 1)
  omega
theorem sf_J_e {n : Nat} {nm : Nat → Int32} {S B : Nat → Prop} {z : Int32} (h : sf_J n nm S B z z) (j : Nat) : bt z j = true ↔ sf_R n nm S B j :=
  ⟨h.1 j, fun hr => hr (fun j => bt z j = true) h.2.1 (fun i k hi hin hk hb => h.2.2.2 rfl i k hi hin hk hb)⟩

/-! come to, meeting places, under -/
def sf_no (_ : Nat) : Prop := False
def sf_come (n : Nat) (nm : Nat → Int32) (i : Nat) : Prop := sf_R n nm (fun j => j = 0) sf_no i
def sf_M (n : Nat) (nm : Nat → Int32) (b q : Nat) : Prop :=
  sf_R n nm (fun j => j = b) sf_no n ∧ q ≤ n ∧ q ≠ b ∧ ¬ sf_R n nm (fun j => j = b) (fun j => j = q) n
def sf_U (n : Nat) (nm : Nat → Int32) (b j : Nat) : Prop := sf_R n nm (sf_B nm b) (sf_M n nm b) j
theorem sf_come_Y {n : Nat} {nm : Nat → Int32} (hn : 0 < n) (i : Nat) : sf_come n nm i ↔ i = 0 ∨ sf_R n nm (sf_B nm 0) sf_no i := sf_R_split hn (fun z => z) i
theorem sf_come_0 {n : Nat} {nm : Nat → Int32} : sf_come n nm 0 := sf_R_base rfl (fun z => z)
theorem sf_M_Y0 {n : Nat} {nm : Nat → Int32} {b : Nat} (hb : b < n) : sf_R n nm (fun j => j = b) sf_no n ↔ sf_R n nm (sf_B nm b) sf_no n := by
  rw [sf_R_split hb (fun z => z)]
  exact ⟨fun h => h.resolve_left (by omega), Or.inr⟩
theorem sf_M_Y1 {n : Nat} {nm : Nat → Int32} {b q : Nat} (hb : b < n) (hq : q ≠ b) : sf_R n nm (fun j => j = b) (fun j => j = q) n ↔ sf_R n nm (sf_B nm b) (fun j => j = q) n := by
  rw [sf_R_split hb (fun z => hq z.symm)]
  exact ⟨fun h => h.resolve_left (by omega), Or.inr⟩
theorem sf_M_n {n : Nat} {nm : Nat → Int32} {b : Nat} (hb : b < n) : sf_M n nm b n ↔ sf_R n nm (fun j => j = b) sf_no n :=
  ⟨fun h => h.1, fun h => ⟨h, Nat.le_refl n, by omega, fun z => sf_R_not z rfl⟩⟩
/-- the end is not under a place -/
theorem sf_U_n {n : Nat} {nm : Nat → Int32} {b : Nat} (hb : b < n) : ¬ sf_U n nm b n := by
  intro h
  have hM : ¬ sf_M n nm b n := sf_R_not h
  apply hM
  rw [sf_M_n hb, sf_M_Y0 hb]
  exact sf_R_mono (fun i hi _ => sf_R_base hi (fun z => z)) (fun _ z => absurd z (fun z => z)) h
/-- the first meeting place, as each side finds it -/
theorem sf_first {n : Nat} {nm : Nat → Int32} {b q : Nat} {B : Nat → Prop} (hb : b < n) (hB : ¬ B b) (hq : B q) :
    (∃ i, i < n ∧ sf_R n nm (fun j => j = b) B i ∧ bt (nm i) q = true) ↔ sf_R n nm (sf_B nm b) (fun j => B j ∧ j ≠ q) q := by
  constructor
  · intro ⟨i, hi, hr, hk⟩
    have h1 : i = b ∨ sf_R n nm (sf_B nm b) B i := (sf_R_split hb hB i).mp hr
    rcases h1 with e | h1
    · subst e
      exact sf_R_base hk (fun z => z.2 rfl)
    · exact sf_R_step (sf_R_mono (fun i hi hbi => sf_R_base hi (fun z => hbi z.1)) (fun _ z => z.1) h1) hi hk (fun z => z.2 rfl)
  · intro h
    apply Classical.byContradiction
    intro hn
    have h0 : sf_R n nm (fun j => j = b) B b := sf_R_base rfl hB
    have : sf_R n nm (fun j => j = b) B q := by
      refine h (fun j => sf_R n nm (fun j => j = b) B j) (fun i hi hbi => ?_) (fun i k hi hin hk hbk => ?_)
      · by_cases e : i = q
        · subst e
          exact absurd ⟨b, hb, h0, hi⟩ hn
        · exact sf_R_step h0 hb hi (fun z => hbi ⟨z, e⟩)
      · by_cases e : k = q
        · subst e
          exact absurd ⟨i, hin, hi, hk⟩ hn
        · exact sf_R_step hi hin hk (fun z => hbk ⟨z, e⟩)
    exact sf_R_not this hq
theorem sf_M_b {n : Nat} {nm : Nat → Int32} {b : Nat} : ¬ sf_M n nm b b := fun h => h.2.2.1 rfl
