/-! a run: registers g, place i, c numbers put out, w the row of them -/
def sf_md (t : Int32) : Int32 := t - t / 4 * 4
abbrev sf_Cf : Type := (Nat → Int32) × Nat × Nat × (Nat → Int32)
def sf_st (n : Nat) (op rg ar : Nat → Int32) (g : Nat → Int32) (i c : Nat) (w : Nat → Int32) : sf_Cf :=
  if op i = 0 then (upd g (sf_n rg i) (ar i), i + 1, c, w)
  else if op i = 1 then (upd g (sf_n rg i) (g (sf_n ar i)), i + 1, c, w)
  else if op i = 2 then (upd g (sf_n rg i) (sf_md (g (sf_n rg i) + g (sf_n ar i))), i + 1, c, w)
  else if op i = 3 then (upd g (sf_n rg i) (sf_md (g (sf_n rg i) + 4 - g (sf_n ar i))), i + 1, c, w)
  else if op i = 4 then (g, i + 1, c + 1, upd w c (g (sf_n rg i)))
  else if op i = 5 then (g, sf_tg n ar i, c, w)
  else if op i = 6 then (if g (sf_n rg i) = 0 then (g, sf_tg n ar i, c, w) else (g, i + 1, c, w))
  else (g, n, c, w)
def sf_rn (n : Nat) (op rg ar : Nat → Int32) : Nat → Nat → sf_Cf → Nat × sf_Cf
  | 0, d, q => (d, q)
  | f + 1, d, q => if q.2.1 < n then sf_rn n op rg ar f (d + 1) (sf_st n op rg ar q.1 q.2.1 q.2.2.1 q.2.2.2) else (d, q)
theorem sf_rn_0 (n : Nat) (op rg ar : Nat → Int32) (d : Nat) (q : sf_Cf) : sf_rn n op rg ar 0 d q = (d, q) := rfl
theorem sf_rn_t {n : Nat} {op rg ar : Nat → Int32} {f d i c : Nat} {g w : Nat → Int32} (h : i < n) : sf_rn n op rg ar (f + 1) d (g, i, c, w) = sf_rn n op rg ar f (d + 1) (sf_st n op rg ar g i c w) := if_pos h
theorem sf_rn_f {n : Nat} {op rg ar : Nat → Int32} {f d i c : Nat} {g w : Nat → Int32} (h : ¬ i < n) : sf_rn n op rg ar (f + 1) d (g, i, c, w) = (d, g, i, c, w) := if_neg h
/-- the run with public p, secret s, over the registers as they were left -/
def sf_go (n : Nat) (op rg ar : Nat → Int32) (g : Nat → Int32) (p s : Int32) : Nat × sf_Cf :=
  sf_rn n op rg ar 60 0 (upd (upd (upd (upd g 0 p) 1 s) 2 0) 3 0, 0, 0, fun _ => 0)
/-- the registers ahead of the run with secret s -/
def sf_bs (n : Nat) (op rg ar : Nat → Int32) (g : Nat → Int32) (p : Int32) : Nat → (Nat → Int32)
  | 0 => g
  | s + 1 => (sf_go n op rg ar (sf_bs n op rg ar g p s) p (nI s)).2.1
def sf_rs (n : Nat) (op rg ar : Nat → Int32) (g : Nat → Int32) (p : Int32) (s : Nat) : Nat × sf_Cf := sf_go n op rg ar (sf_bs n op rg ar g p s) p (nI s)
theorem sf_bs_s (n : Nat) (op rg ar : Nat → Int32) (g : Nat → Int32) (p : Int32) (s : Nat) : sf_bs n op rg ar g p (s + 1) = (sf_rs n op rg ar g p s).2.1 := rfl
/-! two outputs alike; shown before; how many -/
def sf_eq (a b : sf_Cf) : Prop := a.2.2.1 = b.2.2.1 ∧ ∀ k, k < a.2.2.1 → a.2.2.2 k = b.2.2.2 k
/-- q is done, and the run with secret s gave the same as an earlier one that is done -/
def sf_was (n : Nat) (F : Nat → sf_Cf) (s : Nat) : Prop := ∃ t, t < s ∧ n ≤ (F t).2.1 ∧ sf_eq (F t) (F s)
noncomputable def sf_cnt (n : Nat) (F : Nat → sf_Cf) : Nat → Nat
  | 0 => 0
  | s + 1 => sf_cnt n F s + @ite Nat (n ≤ (F s).2.1 ∧ ¬ sf_was n F s) (Classical.propDecidable _) 1 0
theorem sf_cnt_t {n : Nat} {F : Nat → sf_Cf} {s : Nat} (h1 : n ≤ (F s).2.1) (h2 : ¬ sf_was n F s) : sf_cnt n F (s + 1) = sf_cnt n F s + 1 := by
  exact congrArg (fun z => sf_cnt n F s + z) (if_pos ⟨h1, h2⟩)
theorem sf_cnt_f {n : Nat} {F : Nat → sf_Cf} {s : Nat} (h : ¬ (n ≤ (F s).2.1 ∧ ¬ sf_was n F s)) : sf_cnt n F (s + 1) = sf_cnt n F s := by
  exact congrArg (fun z => sf_cnt n F s + z) (if_neg h)
theorem sf_cnt_le (n : Nat) (F : Nat → sf_Cf) : ∀ s, sf_cnt n F s ≤ s := by
  intro s
  induction s with
  | zero => exact Nat.le_refl 0
  | succ s ih =>
    by_cases h : n ≤ (F s).2.1 ∧ ¬ sf_was n F s
    · rw [sf_cnt_t h.1 h.2]; omega
    · rw [sf_cnt_f h]; omega
def sf_F (n : Nat) (op rg ar : Nat → Int32) (g : Nat → Int32) (p : Int32) (s : Nat) : sf_Cf := (sf_rs n op rg ar g p s).2
noncomputable def sf_sh (n : Nat) (op rg ar : Nat → Int32) (g : Nat → Int32) (p : Int32) : Nat := sf_cnt n (sf_F n op rg ar g p) 4
/-- leaks: public numbers p, p + 1 .. (f of them) -/
noncomputable def sf_lk (n : Nat) (op rg ar : Nat → Int32) : Nat → Nat → (Nat → Int32) → Int32 × (Nat → Int32)
  | 0, _, g => (0, g)
  | f + 1, p, g => if 1 < sf_sh n op rg ar g (nI p) then (1, sf_bs n op rg ar g (nI p) 4) else sf_lk n op rg ar f (p + 1) (sf_bs n op rg ar g (nI p) 4)
theorem sf_lk_t {n : Nat} {op rg ar g : Nat → Int32} {f p : Nat} (h : 1 < sf_sh n op rg ar g (nI p)) : sf_lk n op rg ar (f + 1) p g = (1, sf_bs n op rg ar g (nI p) 4) := if_pos h
theorem sf_lk_f {n : Nat} {op rg ar g : Nat → Int32} {f p : Nat} (h : ¬ 1 < sf_sh n op rg ar g (nI p)) : sf_lk n op rg ar (f + 1) p g = sf_lk n op rg ar f (p + 1) (sf_bs n op rg ar g (nI p) 4) := if_neg h
