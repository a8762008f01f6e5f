/-! ===== the functions of the methods: partial, a place outside of its row has no answer ===== -/
def st2 (T : Nat → Nat → Int32) (k i : Nat) (x : Int32) : Nat → Nat → Int32 := fun a => if a = k then upd (T a) i x else T a
def stJ (T : Nat → Nat → Int64) (k i : Nat) (x : Int64) : Nat → Nat → Int64 := fun a => if a = k then vp_updL (T a) i x else T a
def setc {α : Type} (T : Nat → α) (k : Nat) (f : α) : Nat → α := fun a => if a = k then f else T a
def rdA {α β : Type} (f : Nat → α) (n : Nat) (i : Int32) (k : α → Option β) : Option β := if i < 0 ∨ n ≤ i.toNatClampNeg then none else k (f i.toNatClampNeg)
def wrA {β : Type} (T : Nat → Nat → Int32) (c n : Nat) (i x : Int32) (k : (Nat → Nat → Int32) → Option β) : Option β := if i < 0 ∨ n ≤ i.toNatClampNeg then none else k (st2 T c i.toNatClampNeg x)
def wrJ {β : Type} (T : Nat → Nat → Int64) (c n : Nat) (i : Int32) (x : Int64) (k : (Nat → Nat → Int64) → Option β) : Option β := if i < 0 ∨ n ≤ i.toNatClampNeg then none else k (stJ T c i.toNatClampNeg x)
def wr1 {β : Type} (f : Nat → Int32) (n : Nat) (i x : Int32) (k : (Nat → Int32) → Option β) : Option β := if i < 0 ∨ n ≤ i.toNatClampNeg then none else k (upd f i.toNatClampNeg x)
def bnd {α β : Type} (x : α) (k : α → Option β) : Option β := k x
def nz {β : Type} (y : Int32) (k : Option β) : Option β := if y = 0 then none else k
def nzL {β : Type} (y : Int64) (k : Option β) : Option β := if y = 0 then none else k
def zb {β : Type} (x : Int32) (k : Option β) : Option β := if x = 0 ∨ x = 1 then k else none
def cal1 {α γ : Type} (x : Option α) (k : α → Option γ) : Option γ := x.bind k
def cal2 {α β γ : Type} (x : Option (α × β)) (k : α → β → Option γ) : Option γ := x.bind fun u => k u.1 u.2
def cal3 {α β δ γ : Type} (x : Option (α × β × δ)) (k : α → β → δ → Option γ) : Option γ := x.bind fun u => k u.1 u.2.1 u.2.2
def cal4 {α β δ ε γ : Type} (x : Option (α × β × δ × ε)) (k : α → β → δ → ε → Option γ) : Option γ := x.bind fun u => k u.1 u.2.1 u.2.2.1 u.2.2.2
def cal5 {α β δ ε ζ γ : Type} (x : Option (α × β × δ × ε × ζ)) (k : α → β → δ → ε → ζ → Option γ) : Option γ := x.bind fun u => k u.1 u.2.1 u.2.2.1 u.2.2.2.1 u.2.2.2.2
def cal6 {α β δ ε ζ η γ : Type} (x : Option (α × β × δ × ε × ζ × η)) (k : α → β → δ → ε → ζ → η → Option γ) : Option γ := x.bind fun u => k u.1 u.2.1 u.2.2.1 u.2.2.2.1 u.2.2.2.2.1 u.2.2.2.2.2
def FU : Nat := 5000
theorem rdA_e {α β : Type} {f : Nat → α} {n : Nat} {i : Int32} {k : α → Option β} {r : β} (h : rdA f n i k = some r) : vp_in i n ∧ ∃ x, x = f i.toNatClampNeg ∧ k x = some r := by
  unfold rdA at h
  by_cases c : i < 0 ∨ n ≤ i.toNatClampNeg
  · rw [if_pos c] at h; cases h
  · rw [if_neg c] at h; exact ⟨c, _, rfl, h⟩
theorem wrA_e {β : Type} {T : Nat → Nat → Int32} {c n : Nat} {i x : Int32} {k : (Nat → Nat → Int32) → Option β} {r : β} (h : wrA T c n i x k = some r) : vp_in i n ∧ ∃ T1, T1 = st2 T c i.toNatClampNeg x ∧ k T1 = some r := by
  unfold wrA at h
  by_cases c : i < 0 ∨ n ≤ i.toNatClampNeg
  · rw [if_pos c] at h; cases h
  · rw [if_neg c] at h; exact ⟨c, _, rfl, h⟩
theorem wrJ_e {β : Type} {T : Nat → Nat → Int64} {c n : Nat} {i : Int32} {x : Int64} {k : (Nat → Nat → Int64) → Option β} {r : β} (h : wrJ T c n i x k = some r) : vp_in i n ∧ ∃ T1, T1 = stJ T c i.toNatClampNeg x ∧ k T1 = some r := by
  unfold wrJ at h
  by_cases c : i < 0 ∨ n ≤ i.toNatClampNeg
  · rw [if_pos c] at h; cases h
  · rw [if_neg c] at h; exact ⟨c, _, rfl, h⟩
theorem wr1_e {β : Type} {f : Nat → Int32} {n : Nat} {i x : Int32} {k : (Nat → Int32) → Option β} {r : β} (h : wr1 f n i x k = some r) : vp_in i n ∧ ∃ T1, T1 = upd f i.toNatClampNeg x ∧ k T1 = some r := by
  unfold wr1 at h
  by_cases c : i < 0 ∨ n ≤ i.toNatClampNeg
  · rw [if_pos c] at h; cases h
  · rw [if_neg c] at h; exact ⟨c, _, rfl, h⟩
theorem bnd_e {α β : Type} {x : α} {k : α → Option β} {r : β} (h : bnd x k = some r) : ∃ z, z = x ∧ k z = some r := ⟨x, rfl, h⟩
theorem nz_e {β : Type} {y : Int32} {k : Option β} {r : β} (h : nz y k = some r) : ¬ y = 0 ∧ k = some r := by
  unfold nz at h
  by_cases c : y = 0
  · rw [if_pos c] at h; cases h
  · rw [if_neg c] at h; exact ⟨c, h⟩
theorem nzL_e {β : Type} {y : Int64} {k : Option β} {r : β} (h : nzL y k = some r) : ¬ y = 0 ∧ k = some r := by
  unfold nzL at h
  by_cases c : y = 0
  · rw [if_pos c] at h; cases h
  · rw [if_neg c] at h; exact ⟨c, h⟩
theorem zb_e {β : Type} {x : Int32} {k : Option β} {r : β} (h : zb x k = some r) : (x = 0 ∨ x = 1) ∧ k = some r := by
  unfold zb at h
  by_cases c : x = 0 ∨ x = 1
  · rw [if_pos c] at h; exact ⟨c, h⟩
  · rw [if_neg c] at h; cases h
theorem ifp {β : Type} {c : Prop} [Decidable c] {a b : Option β} {r : β} (h : (if c then a else b) = some r) (hc : c) : a = some r := by rw [if_pos hc] at h; exact h
theorem ifn {β : Type} {c : Prop} [Decidable c] {a b : Option β} {r : β} (h : (if c then a else b) = some r) (hc : ¬ c) : b = some r := by rw [if_neg hc] at h; exact h
theorem cal1_e {α γ : Type} {x : Option α} {k : α → Option γ} {r : γ} (h : cal1 x k = some r) : ∃ a, x = some a ∧ k a = some r := by
  cases x with
  | none => cases h
  | some u => exact ⟨u, rfl, h⟩
theorem cal2_e {α β γ : Type} {x : Option (α × β)} {k : α → β → Option γ} {r : γ} (h : cal2 x k = some r) : ∃ a b, x = some (a, b) ∧ k a b = some r := by
  cases x with
  | none => cases h
  | some u => exact ⟨u.1, u.2, rfl, h⟩
theorem cal3_e {α β δ γ : Type} {x : Option (α × β × δ)} {k : α → β → δ → Option γ} {r : γ} (h : cal3 x k = some r) : ∃ a b d, x = some (a, b, d) ∧ k a b d = some r := by
  cases x with
  | none => cases h
  | some u => exact ⟨u.1, u.2.1, u.2.2, rfl, h⟩
theorem cal4_e {α β δ ε γ : Type} {x : Option (α × β × δ × ε)} {k : α → β → δ → ε → Option γ} {r : γ} (h : cal4 x k = some r) : ∃ a b d f, x = some (a, b, d, f) ∧ k a b d f = some r := by
  cases x with
  | none => cases h
  | some u => exact ⟨u.1, u.2.1, u.2.2.1, u.2.2.2, rfl, h⟩
theorem cal5_e {α β δ ε ζ γ : Type} {x : Option (α × β × δ × ε × ζ)} {k : α → β → δ → ε → ζ → Option γ} {r : γ} (h : cal5 x k = some r) : ∃ a b d f g, x = some (a, b, d, f, g) ∧ k a b d f g = some r := by
  cases x with
  | none => cases h
  | some u => exact ⟨u.1, u.2.1, u.2.2.1, u.2.2.2.1, u.2.2.2.2, rfl, h⟩
theorem cal6_e {α β δ ε ζ η γ : Type} {x : Option (α × β × δ × ε × ζ × η)} {k : α → β → δ → ε → ζ → η → Option γ} {r : γ} (h : cal6 x k = some r) : ∃ a b d f g i, x = some (a, b, d, f, g, i) ∧ k a b d f g i = some r := by
  cases x with
  | none => cases h
  | some u => exact ⟨u.1, u.2.1, u.2.2.1, u.2.2.2.1, u.2.2.2.2.1, u.2.2.2.2.2, rfl, h⟩
