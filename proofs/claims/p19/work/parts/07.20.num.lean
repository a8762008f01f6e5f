/-! ===== numbers, rows and calls in the functions of the methods ===== -/
theorem nI_negone {n : Nat} (h : n < 2 ^ 31) : (nI n = (-1)) ↔ False := by
  refine ⟨fun e => ?_, False.elim⟩
  have h1 := congrArg Int32.toInt e
  rw [nI_toInt h] at h1
  have h2 : ((-1 : Int32)).toInt = -1 := by decide
  rw [h2] at h1
  omega
theorem negone_nI {n : Nat} (h : n < 2 ^ 31) : ((-1) = nI n) ↔ False := by
  rw [eq_comm]; exact nI_negone h
theorem negone_lt0 : ((-1 : Int32) < nI 0) ↔ True := by decide
theorem neg_lt0 {x : Int32} (h : x.toInt < 0) : (x < nI 0) ↔ True := by
  simp only [iff_true]; exact Int32.lt_iff_toInt_lt.mpr (by rw [nI_toInt (by omega)]; exact h)
theorem negone_le (n : Nat) (h : n < 2 ^ 31) : (nI n ≤ (-1 : Int32)) ↔ False := by
  refine ⟨fun e => ?_, False.elim⟩
  have h1 := Int32.le_iff_toInt_le.mp e
  rw [nI_toInt h] at h1
  have h2 : ((-1 : Int32)).toInt = -1 := by decide
  rw [h2] at h1
  omega
theorem in_n {i n : Nat} (h : i < n) (hn : i < 2 ^ 31) : ¬ (nI i < 0 ∨ n ≤ (nI i).toNatClampNeg) := by
  intro c
  rcases c with c | c
  · exact nI_pos hn c
  · rw [nI_clamp hn] at c; omega
theorem rdA_n {α β : Type} {f : Nat → α} {n i : Nat} (k : α → Option β) (h : i < n) (hn : i < 2 ^ 31) : rdA f n (nI i) k = k (f i) := by
  unfold rdA
  rw [if_neg (in_n h hn), nI_clamp hn]
theorem wrA_n {β : Type} {T : Nat → Nat → Int32} {c n i : Nat} {x : Int32} (k : (Nat → Nat → Int32) → Option β) (h : i < n) (hn : i < 2 ^ 31) : wrA T c n (nI i) x k = k (st2 T c i x) := by
  unfold wrA
  rw [if_neg (in_n h hn), nI_clamp hn]
theorem wrJ_n {β : Type} {T : Nat → Nat → Int64} {c n i : Nat} {x : Int64} (k : (Nat → Nat → Int64) → Option β) (h : i < n) (hn : i < 2 ^ 31) : wrJ T c n (nI i) x k = k (stJ T c i x) := by
  unfold wrJ
  rw [if_neg (in_n h hn), nI_clamp hn]
theorem wr1_n {β : Type} {f : Nat → Int32} {n i : Nat} {x : Int32} (k : (Nat → Int32) → Option β) (h : i < n) (hn : i < 2 ^ 31) : wr1 f n (nI i) x k = k (upd f i x) := by
  unfold wr1
  rw [if_neg (in_n h hn), nI_clamp hn]
theorem sdm (a d : Nat) : a - a / d * d = a % d := by have := Nat.div_add_mod a d; rw [Nat.mul_comm] at this; omega
theorem bnd_s {α β : Type} (x : α) (k : α → Option β) : bnd x k = k x := rfl
theorem nz_n {β : Type} {n : Nat} (k : Option β) (h : 0 < n) (hn : n < 2 ^ 31) : nz (nI n) k = k := by unfold nz; rw [if_neg (nI_ne0 h hn)]
theorem zb0 {β : Type} (k : Option β) : zb (nI 0) k = k := rfl
theorem zb1 {β : Type} (k : Option β) : zb (nI 1) k = k := rfl
theorem cal1_s {α γ : Type} (a : α) (k : α → Option γ) : cal1 (some a) k = k a := rfl
theorem cal2_s {α β γ : Type} (a : α) (b : β) (k : α → β → Option γ) : cal2 (some (a, b)) k = k a b := rfl
theorem cal3_s {α β δ γ : Type} (a : α) (b : β) (d : δ) (k : α → β → δ → Option γ) : cal3 (some (a, b, d)) k = k a b d := rfl
theorem cal4_s {α β δ ε γ : Type} (a : α) (b : β) (d : δ) (f : ε) (k : α → β → δ → ε → Option γ) : cal4 (some (a, b, d, f)) k = k a b d f := rfl
theorem cal5_s {α β δ ε ζ γ : Type} (a : α) (b : β) (d : δ) (f : ε) (g : ζ) (k : α → β → δ → ε → ζ → Option γ) : cal5 (some (a, b, d, f, g)) k = k a b d f g := rfl
theorem cal6_s {α β δ ε ζ η γ : Type} (a : α) (b : β) (d : δ) (f : ε) (g : ζ) (i : η) (k : α → β → δ → ε → ζ → η → Option γ) : cal6 (some (a, b, d, f, g, i)) k = k a b d f g i := rfl
theorem st2_s (T : Nat → Nat → Int32) (k i : Nat) (x : Int32) (a j : Nat) : st2 T k i x a j = if a = k ∧ j = i then x else T a j := by
  unfold st2
  by_cases h : a = k
  · simp only [h, if_true, true_and, upd]
  · simp only [h, if_false, false_and]
theorem stJ_s (T : Nat → Nat → Int64) (k i : Nat) (x : Int64) (a j : Nat) : stJ T k i x a j = if a = k ∧ j = i then x else T a j := by
  unfold stJ
  by_cases h : a = k
  · simp only [h, if_true, true_and, vp_updL]
  · simp only [h, if_false, false_and]
theorem setc_s {α : Type} (T : Nat → α) (k : Nat) (f : α) (a : Nat) : setc T k f a = if a = k then f else T a := rfl
theorem upd_s (f : Nat → Int32) (k : Nat) (x : Int32) (j : Nat) : upd f k x j = if j = k then x else f j := rfl
/-- a truth value as the machine has it -/
def bi (b : Bool) : Int32 := if b then nI 1 else nI 0
theorem bi_t : bi true = nI 1 := rfl
theorem bi_f : bi false = nI 0 := rfl
theorem bi_eq0 (b : Bool) : (bi b = nI 0) ↔ b = false := by cases b <;> decide
theorem bi_eq1 (b : Bool) : (bi b = nI 1) ↔ b = true := by cases b <;> decide
theorem zb_bi {β : Type} (b : Bool) (k : Option β) : zb (bi b) k = k := by cases b <;> rfl
theorem some_bi {c : Prop} [Decidable c] : (if c then some (nI 1) else some (nI 0)) = some (bi (decide c)) := by
  by_cases h : c <;> simp [h, bi]
theorem some_bi' {c : Prop} [Decidable c] : (if c then some (nI 0) else some (nI 1)) = some (bi (decide (¬ c))) := by
  by_cases h : c <;> simp [h, bi]
