section
/-! ===== the functions of the methods: partial, a place outside of its row has no answer ===== -/
def st2 (T : Nat → Nat → Int32) (k i : Nat) (x : Int32) : Nat → Nat → Int32 := fun a => if a = k then upd (T a) i x else T a
def stJ (T : Nat → Nat → Int64) (k i : Nat) (x : Int64) : Nat → Nat → Int64 := fun a => if a = k then vp_updL (T a) i x else T a
def setc {α : Type} (T : Nat → α) (k : Nat) (f : α) : Nat → α := fun a => if a = k then f else T a
def rdA {α β : Type} (f : Nat → α) (n : Nat) (i : Int32) (k : α → Option β) : Option β := if i < 0 ∨ n ≤ i.toNatClampNeg then none else k (f i.toNatClampNeg)
def wrA {β : Type} (T : Nat → Nat → Int32) (c n : Nat) (i x : Int32) (k : (Nat → Nat → Int32) → Option β) : Option β := if i < 0 ∨ n ≤ i.toNatClampNeg then none else k (st2 T c i.toNatClampNeg x)
def wrJ {β : Type} (T : Nat → Nat → Int64) (c n : Nat) (i : Int32) (x : Int64) (k : (Nat → Nat → Int64) → Option β) : Option β := if i < 0 ∨ n ≤ i.toNatClampNeg then none else k (stJ T c i.toNatClampNeg x)
def wr1 {β : Type} (f : Nat → Int32) (n : Nat) (i x : Int32) (k : (Nat → Int32) → Option β) : Option β := if i < 0 ∨ n ≤ i.toNatClampNeg then none else k (upd f i.toNatClampNeg x)
def bnd {α β : Type} (x : α) (k : α → Option β) : Option β := k x
def nz {β : Type} (y : Int32) (k : Option β) : Option β := if y = 0 then none else k
def nzL {β : Type} (y : Int64) (k : Option β) : Option β := if y = 0 then none else k
def zb {β : Type} (x : Int32) (k : Option β) : Option β := if x = 0 ∨ x = 1 then k else none
def cal1 {α γ : Type} (x : Option α) (k : α → Option γ) : Option γ := x.bind k
def cal2 {α β γ : Type} (x : Option (α × β)) (k : α → β → Option γ) : Option γ := x.bind fun u => k u.1 u.2
def cal3 {α β δ γ : Type} (x : Option (α × β × δ)) (k : α → β → δ → Option γ) : Option γ := x.bind fun u => k u.1 u.2.1 u.2.2
def cal4 {α β δ ε γ : Type} (x : Option (α × β × δ × ε)) (k : α → β → δ → ε → Option γ) : Option γ := x.bind fun u => k u.1 u.2.1 u.2.2.1 u.2.2.2
def cal5 {α β δ ε ζ γ : Type} (x : Option (α × β × δ × ε × ζ)) (k : α → β → δ → ε → ζ → Option γ) : Option γ := x.bind fun u => k u.1 u.2.1 u.2.2.1 u.2.2.2.1 u.2.2.2.2
def cal6 {α β δ ε ζ η γ : Type} (x : Option (α × β × δ × ε × ζ × η)) (k : α → β → δ → ε → ζ → η → Option γ) : Option γ := x.bind fun u => k u.1 u.2.1 u.2.2.1 u.2.2.2.1 u.2.2.2.2.1 u.2.2.2.2.2
def FU : Nat := 5000
theorem rdA_e {α β : Type} {f : Nat → α} {n : Nat} {i : Int32} {k : α → Option β} {r : β} (h : rdA f n i k = some r) : vp_in i n ∧ ∃ x, x = f i.toNatClampNeg ∧ k x = some r := by
  unfold rdA at h
  by_cases c : i < 0 ∨ n ≤ i.toNatClampNeg
  · rw [if_pos c] at h; cases h
  · rw [if_neg c] at h; exact ⟨c, _, rfl, h⟩
theorem wrA_e {β : Type} {T : Nat → Nat → Int32} {c n : Nat} {i x : Int32} {k : (Nat → Nat → Int32) → Option β} {r : β} (h : wrA T c n i x k = some r) : vp_in i n ∧ ∃ T1, T1 = st2 T c i.toNatClampNeg x ∧ k T1 = some r := by
  unfold wrA at h
  by_cases c : i < 0 ∨ n ≤ i.toNatClampNeg
  · rw [if_pos c] at h; cases h
  · rw [if_neg c] at h; exact ⟨c, _, rfl, h⟩
theorem wrJ_e {β : Type} {T : Nat → Nat → Int64} {c n : Nat} {i : Int32} {x : Int64} {k : (Nat → Nat → Int64) → Option β} {r : β} (h : wrJ T c n i x k = some r) : vp_in i n ∧ ∃ T1, T1 = stJ T c i.toNatClampNeg x ∧ k T1 = some r := by
  unfold wrJ at h
  by_cases c : i < 0 ∨ n ≤ i.toNatClampNeg
  · rw [if_pos c] at h; cases h
  · rw [if_neg c] at h; exact ⟨c, _, rfl, h⟩
theorem wr1_e {β : Type} {f : Nat → Int32} {n : Nat} {i x : Int32} {k : (Nat → Int32) → Option β} {r : β} (h : wr1 f n i x k = some r) : vp_in i n ∧ ∃ T1, T1 = upd f i.toNatClampNeg x ∧ k T1 = some r := by
  unfold wr1 at h
  by_cases c : i < 0 ∨ n ≤ i.toNatClampNeg
  · rw [if_pos c] at h; cases h
  · rw [if_neg c] at h; exact ⟨c, _, rfl, h⟩
theorem bnd_e {α β : Type} {x : α} {k : α → Option β} {r : β} (h : bnd x k = some r) : ∃ z, z = x ∧ k z = some r := ⟨x, rfl, h⟩
theorem nz_e {β : Type} {y : Int32} {k : Option β} {r : β} (h : nz y k = some r) : ¬ y = 0 ∧ k = some r := by
  unfold nz at h
  by_cases c : y = 0
  · rw [if_pos c] at h; cases h
  · rw [if_neg c] at h; exact ⟨c, h⟩
theorem nzL_e {β : Type} {y : Int64} {k : Option β} {r : β} (h : nzL y k = some r) : ¬ y = 0 ∧ k = some r := by
  unfold nzL at h
  by_cases c : y = 0
  · rw [if_pos c] at h; cases h
  · rw [if_neg c] at h; exact ⟨c, h⟩
theorem zb_e {β : Type} {x : Int32} {k : Option β} {r : β} (h : zb x k = some r) : (x = 0 ∨ x = 1) ∧ k = some r := by
  unfold zb at h
  by_cases c : x = 0 ∨ x = 1
  · rw [if_pos c] at h; exact ⟨c, h⟩
  · rw [if_neg c] at h; cases h
theorem ifp {β : Type} {c : Prop} [Decidable c] {a b : Option β} {r : β} (h : (if c then a else b) = some r) (hc : c) : a = some r := by rw [if_pos hc] at h; exact h
theorem ifn {β : Type} {c : Prop} [Decidable c] {a b : Option β} {r : β} (h : (if c then a else b) = some r) (hc : ¬ c) : b = some r := by rw [if_neg hc] at h; exact h
theorem cal1_e {α γ : Type} {x : Option α} {k : α → Option γ} {r : γ} (h : cal1 x k = some r) : ∃ a, x = some a ∧ k a = some r := by
  cases x with
  | none => cases h
  | some u => exact ⟨u, rfl, h⟩
theorem cal2_e {α β γ : Type} {x : Option (α × β)} {k : α → β → Option γ} {r : γ} (h : cal2 x k = some r) : ∃ a b, x = some (a, b) ∧ k a b = some r := by
  cases x with
  | none => cases h
  | some u => exact ⟨u.1, u.2, rfl, h⟩
theorem cal3_e {α β δ γ : Type} {x : Option (α × β × δ)} {k : α → β → δ → Option γ} {r : γ} (h : cal3 x k = some r) : ∃ a b d, x = some (a, b, d) ∧ k a b d = some r := by
  cases x with
  | none => cases h
  | some u => exact ⟨u.1, u.2.1, u.2.2, rfl, h⟩
theorem cal4_e {α β δ ε γ : Type} {x : Option (α × β × δ × ε)} {k : α → β → δ → ε → Option γ} {r : γ} (h : cal4 x k = some r) : ∃ a b d f, x = some (a, b, d, f) ∧ k a b d f = some r := by
  cases x with
  | none => cases h
  | some u => exact ⟨u.1, u.2.1, u.2.2.1, u.2.2.2, rfl, h⟩
theorem cal5_e {α β δ ε ζ γ : Type} {x : Option (α × β × δ × ε × ζ)} {k : α → β → δ → ε → ζ → Option γ} {r : γ} (h : cal5 x k = some r) : ∃ a b d f g, x = some (a, b, d, f, g) ∧ k a b d f g = some r := by
  cases x with
  | none => cases h
  | some u => exact ⟨u.1, u.2.1, u.2.2.1, u.2.2.2.1, u.2.2.2.2, rfl, h⟩
theorem cal6_e {α β δ ε ζ η γ : Type} {x : Option (α × β × δ × ε × ζ × η)} {k : α → β → δ → ε → ζ → η → Option γ} {r : γ} (h : cal6 x k = some r) : ∃ a b d f g i, x = some (a, b, d, f, g, i) ∧ k a b d f g i = some r := by
  cases x with
  | none => cases h
  | some u => exact ⟨u.1, u.2.1, u.2.2.1, u.2.2.2.1, u.2.2.2.2.1, u.2.2.2.2.2, rfl, h⟩
end
section
/-! ===== the functions of the methods, written by program out of the bytecode ===== -/

def F_X4_topOf (T_0 : Nat → Nat → Int32) (v1 : Int32) : Option (Int32) :=
  if v1 < nI 0 then some (-1) else if (nI 10) ≤ v1 then some (-1) else rdA (T_0 2) 10 v1 fun x3 => some x3
def F_X4_isStockMove (T_0 : Nat → Nat → Int32) (r_0_rules : Nat → Int32) : Option (Int32) :=
  cal1 (F_X4_topOf T_0 (nI 9)) fun x1 => if x1 = (-1) then cal1 (F_X4_topOf T_0 (nI 7)) fun x5 => if x5 = (-1) then zb (nI 0) <| some (nI 0) else if (r_0_rules 7) ≤ (T_0 0 6) then zb (nI 0) <| some (nI 0) else zb (nI 1) <| some (nI 1) else zb (nI 1) <| some (nI 1)
def F_X1_rankOf (r_0 : Nat → Int32) (v1 : Int32) : Option (Int32) :=
  if (r_0 1) ≤ nI 0 then some (nI 0) else nz (r_0 1) <| some ((v1 - v1 / (r_0 1) * (r_0 1)) + (nI 1))
def F_X5_at (f_0 : Nat → Int32) (n_0 : Nat) (v1 : Int32) : Option (Int32) :=
  if v1 < nI 0 then some (-1) else if (nI n_0) ≤ v1 then some (-1) else rdA f_0 n_0 v1 fun x3 => some x3
def F_X4_isUp (T_0 : Nat → Nat → Int32) (v1 : Int32) : Option (Int32) :=
  cal1 (F_X5_at (T_0 1) 16 v1) fun x1 => if x1 = (nI 20) then zb (nI 1) <| some (nI 1) else zb (nI 0) <| some (nI 0)
def F_X4_isNextUp (T_0 : Nat → Nat → Int32) (r_0_rules : Nat → Int32) (v1 : Int32) : Option (Int32) :=
  cal1 (F_X1_rankOf r_0_rules v1) fun x1 => if x1 = (nI 1) then zb (nI 1) <| some (nI 1) else cal1 (F_X4_isUp T_0 (v1 - (nI 1))) fun x5 => if x5 = nI 0 then zb (nI 0) <| some (nI 0) else zb (nI 1) <| some (nI 1)
def F_X5_isCell (v0 : Int32) : Option (Int32) :=
  if v0 < (nI 5) then zb (nI 0) <| some (nI 0) else if (nI 7) ≤ v0 then zb (nI 0) <| some (nI 0) else zb (nI 1) <| some (nI 1)
def F_X5_isColumn (v0 : Int32) : Option (Int32) :=
  if v0 < nI 0 then zb (nI 0) <| some (nI 0) else if (nI 5) ≤ v0 then zb (nI 0) <| some (nI 0) else zb (nI 1) <| some (nI 1)
def F_X4_under_b20 (T_0 : Nat → Nat → Int32) (s0 : Int32) : Option (Int32) :=
  if (nI 16) ≤ s0 then some (-1) else some s0
def F_X4_under (T_0 : Nat → Nat → Int32) (v1 : Int32) : Option (Int32) :=
  if v1 < nI 0 then F_X4_under_b20 T_0 (-1) else if (nI 16) ≤ v1 then F_X4_under_b20 T_0 (-1) else rdA (T_0 1) 16 v1 fun x4 => F_X4_under_b20 T_0 x4
def F_X5_isCard (v0 : Int32) : Option (Int32) :=
  if v0 < nI 0 then zb (nI 0) <| some (nI 0) else if (nI 16) ≤ v0 then zb (nI 0) <| some (nI 0) else zb (nI 1) <| some (nI 1)
def F_X4_liesHidden (T_0 : Nat → Nat → Int32) (v1 : Int32) : Option (Int32) :=
  cal1 (F_X5_isCard v1) fun x1 => if x1 = nI 0 then zb (nI 0) <| some (nI 0) else if (((T_0 0 5) >>> (v1 &&& 31)) &&& (nI 1)) = (nI 1) then zb (nI 1) <| some (nI 1) else zb (nI 0) <| some (nI 0)
def F_X1_suitOf (r_0 : Nat → Int32) (v1 : Int32) : Option (Int32) :=
  if (r_0 1) ≤ nI 0 then some (nI 0) else nz (r_0 1) <| some (v1 / (r_0 1))
def F_X1_isFitting (r_0 : Nat → Int32) (v1 : Int32) (v2 : Int32) : Option (Int32) :=
  cal1 (F_X1_rankOf r_0 v1) fun x1 => cal1 (F_X1_rankOf r_0 v2) fun x3 => if x1 = (x3 - (nI 1)) then if (r_0 4) = (nI 0) then cal1 (F_X1_suitOf r_0 v1) fun x7 => cal1 (F_X1_suitOf r_0 v2) fun x9 => if x7 = x9 then zb (nI 1) <| some (nI 1) else zb (nI 0) <| some (nI 0) else if (r_0 4) = (nI 1) then cal1 (F_X1_suitOf r_0 v1) fun x15 => nz (nI 2) <| cal1 (F_X1_suitOf r_0 v2) fun x18 => nz (nI 2) <| if (x15 - x15 / (nI 2) * (nI 2)) = (x18 - x18 / (nI 2) * (nI 2)) then zb (nI 0) <| some (nI 0) else zb (nI 1) <| some (nI 1) else zb (nI 1) <| some (nI 1) else zb (nI 0) <| some (nI 0)
def F_X4_runOf_s24 (T_0 : Nat → Nat → Int32) (r_0_rules : Nat → Int32) (K24 : Int32 → Int32 → Int32 → Option (Int32)) (v2 : Int32) (v3 : Int32) (v4 : Int32) : Option (Int32) :=
  if v4 = (-1) then some v3 else if (nI 16) ≤ v3 then some v3 else cal1 (F_X4_liesHidden T_0 v4) fun x3 => if x3 = nI 0 then cal1 (F_X1_isFitting r_0_rules v2 v4) fun x6 => if x6 = nI 0 then some v3 else cal1 (F_X4_under T_0 v4) fun x9 => K24 v4 (v3 + (nI 1)) x9 else some v3
def F_X4_runOf_L24 (T_0 : Nat → Nat → Int32) (r_0_rules : Nat → Int32) : Nat → Int32 → Int32 → Int32 → Option (Int32)
  | 0 => fun _ _ _ => none
  | n + 1 => fun v2 v3 v4 => F_X4_runOf_s24 T_0 r_0_rules (F_X4_runOf_L24 T_0 r_0_rules n) v2 v3 v4
def F_X4_runOf_b16 (T_0 : Nat → Nat → Int32) (r_0_rules : Nat → Int32) (v2 : Int32) (s0 : Int32) : Option (Int32) :=
  cal1 (F_X4_under T_0 v2) fun x11 => F_X4_runOf_L24 T_0 r_0_rules FU v2 s0 x11
def F_X4_runOf (T_0 : Nat → Nat → Int32) (r_0_rules : Nat → Int32) (v1 : Int32) : Option (Int32) :=
  cal1 (F_X4_topOf T_0 v1) fun x13 => if x13 = (-1) then F_X4_runOf_b16 T_0 r_0_rules x13 (nI 0) else F_X4_runOf_b16 T_0 r_0_rules x13 (nI 1)
def F_X4_mostTo_b73 (T_0 : Nat → Nat → Int32) (r_0_rules : Nat → Int32) (K42 : Int32 → Int32 → Int32 → Option (Int32)) (v1 : Int32) (v3 : Int32) (s0 : Int32) (s1 : Int32) : Option (Int32) :=
  K42 v1 (s0 * s1) (v3 + (nI 1))
def F_X4_mostTo_s42 (T_0 : Nat → Nat → Int32) (r_0_rules : Nat → Int32) (K42 : Int32 → Int32 → Int32 → Option (Int32)) (v1 : Int32) (v2 : Int32) (v3 : Int32) : Option (Int32) :=
  if (r_0_rules 2) ≤ v3 then some v2 else if v3 = v1 then F_X4_mostTo_b73 T_0 r_0_rules K42 v1 v3 v2 (nI 1) else cal1 (F_X4_topOf T_0 v3) fun x3 => if x3 = (-1) then F_X4_mostTo_b73 T_0 r_0_rules K42 v1 v3 v2 (nI 2) else F_X4_mostTo_b73 T_0 r_0_rules K42 v1 v3 v2 (nI 1)
def F_X4_mostTo_L42 (T_0 : Nat → Nat → Int32) (r_0_rules : Nat → Int32) : Nat → Int32 → Int32 → Int32 → Option (Int32)
  | 0 => fun _ _ _ => none
  | n + 1 => fun v1 v2 v3 => F_X4_mostTo_s42 T_0 r_0_rules (F_X4_mostTo_L42 T_0 r_0_rules n) v1 v2 v3
def F_X4_mostTo_b32 (T_0 : Nat → Nat → Int32) (r_0_rules : Nat → Int32) (K4 : Int32 → Int32 → Int32 → Option (Int32)) (v1 : Int32) (v3 : Int32) (s0 : Int32) (s1 : Int32) : Option (Int32) :=
  K4 v1 (s0 + s1) (v3 + (nI 1))
def F_X4_mostTo_s4 (T_0 : Nat → Nat → Int32) (r_0_rules : Nat → Int32) (K4 : Int32 → Int32 → Int32 → Option (Int32)) (v1 : Int32) (v2 : Int32) (v3 : Int32) : Option (Int32) :=
  if ((nI 5) + (r_0_rules 3)) ≤ v3 then F_X4_mostTo_L42 T_0 r_0_rules FU v1 v2 (nI 0) else cal1 (F_X4_topOf T_0 v3) fun x7 => if x7 = (-1) then F_X4_mostTo_b32 T_0 r_0_rules K4 v1 v3 v2 (nI 1) else F_X4_mostTo_b32 T_0 r_0_rules K4 v1 v3 v2 (nI 0)
def F_X4_mostTo_L4 (T_0 : Nat → Nat → Int32) (r_0_rules : Nat → Int32) : Nat → Int32 → Int32 → Int32 → Option (Int32)
  | 0 => fun _ _ _ => none
  | n + 1 => fun v1 v2 v3 => F_X4_mostTo_s4 T_0 r_0_rules (F_X4_mostTo_L4 T_0 r_0_rules n) v1 v2 v3
def F_X4_mostTo (T_0 : Nat → Nat → Int32) (r_0_rules : Nat → Int32) (v1 : Int32) : Option (Int32) :=
  F_X4_mostTo_L4 T_0 r_0_rules FU v1 (nI 1) (nI 5)
def F_X4_fromTop_s17 (T_0 : Nat → Nat → Int32) (K17 : Int32 → Int32 → Int32 → Option (Int32)) (v3 : Int32) (v4 : Int32) (v5 : Int32) : Option (Int32) :=
  if v4 ≤ v5 then some v3 else if v3 = (-1) then some v3 else cal1 (F_X4_under T_0 v3) fun x3 => K17 x3 v4 (v5 + (nI 1))
def F_X4_fromTop_L17 (T_0 : Nat → Nat → Int32) : Nat → Int32 → Int32 → Int32 → Option (Int32)
  | 0 => fun _ _ _ => none
  | n + 1 => fun v3 v4 v5 => F_X4_fromTop_s17 T_0 (F_X4_fromTop_L17 T_0 n) v3 v4 v5
def F_X4_fromTop (T_0 : Nat → Nat → Int32) (v1 : Int32) (v2 : Int32) : Option (Int32) :=
  cal1 (F_X4_topOf T_0 v1) fun x5 => F_X4_fromTop_L17 T_0 FU x5 (if (nI 16) < v2 then (nI 16) else v2) (nI 0)
def F_X1_isForEmptyColumns (r_0 : Nat → Int32) (v1 : Int32) : Option (Int32) :=
  if (r_0 5) = nI 0 then zb (nI 1) <| some (nI 1) else if (r_0 5) = (nI 1) then cal1 (F_X1_rankOf r_0 v1) fun x5 => if x5 = (r_0 1) then zb (nI 1) <| some (nI 1) else zb (nI 0) <| some (nI 0) else zb (nI 0) <| some (nI 0)
def F_X4_isForColumn (T_0 : Nat → Nat → Int32) (r_0_rules : Nat → Int32) (v1 : Int32) (v2 : Int32) : Option (Int32) :=
  cal1 (F_X4_topOf T_0 v2) fun x1 => if x1 = (-1) then cal1 (F_X1_isForEmptyColumns r_0_rules v1) fun x7 => zb x7 <| some x7 else cal1 (F_X1_isFitting r_0_rules v1 x1) fun x4 => zb x4 <| some x4
def F_X4_isMove_b145 (T_0 : Nat → Nat → Int32) (r_0_rules : Nat → Int32) (v1 : Int32) (v2 : Int32) (v3 : Int32) : Option (Int32) :=
  cal1 (F_X4_fromTop T_0 v1 (v3 - (nI 1))) fun x1 => cal1 (F_X4_isForColumn T_0 r_0_rules x1 v2) fun x3 => zb x3 <| some x3
def F_X4_isMove (T_0 : Nat → Nat → Int32) (r_0_rules : Nat → Int32) (v1 : Int32) (v2 : Int32) (v3 : Int32) : Option (Int32) :=
  if v1 = (nI 9) then if v2 = (nI 7) then cal1 (F_X4_isStockMove T_0 r_0_rules) fun x48 => if x48 = nI 0 then zb (nI 0) <| some (nI 0) else zb (nI 1) <| some (nI 1) else zb (nI 0) <| some (nI 0) else cal1 (F_X4_topOf T_0 v1) fun x7 => if x7 = (-1) then zb (nI 0) <| some (nI 0) else if v1 = v2 then zb (nI 0) <| some (nI 0) else if v2 = (nI 8) then cal1 (F_X4_isNextUp T_0 r_0_rules x7) fun x42 => zb x42 <| some x42 else cal1 (F_X5_isCell v2) fun x13 => if x13 = nI 0 then cal1 (F_X5_isColumn v2) fun x16 => if x16 = nI 0 then zb (nI 0) <| some (nI 0) else if v2 < (r_0_rules 2) then if v3 ≤ (nI 1) then F_X4_isMove_b145 T_0 r_0_rules v1 v2 v3 else cal1 (F_X4_runOf T_0 r_0_rules v1) fun x22 => if x22 < v3 then zb (nI 0) <| some (nI 0) else cal1 (F_X4_mostTo T_0 r_0_rules v2) fun x26 => if v3 ≤ x26 then F_X4_isMove_b145 T_0 r_0_rules v1 v2 v3 else zb (nI 0) <| some (nI 0) else zb (nI 0) <| some (nI 0) else cal1 (F_X5_isCell v1) fun x31 => if x31 = nI 0 then if (r_0_rules 3) ≤ (v2 - (nI 5)) then zb (nI 0) <| some (nI 0) else cal1 (F_X4_topOf T_0 v2) fun x37 => if x37 = (-1) then zb (nI 1) <| some (nI 1) else zb (nI 0) <| some (nI 0) else zb (nI 0) <| some (nI 0)
def F_X1_cards (r_0 : Nat → Int32) : Option (Int32) :=
  some ((r_0 0) * (r_0 1))
def F_X4_isSafeUp_s2 (T_0 : Nat → Nat → Int32) (r_0_rules : Nat → Int32) (K2 : Int32 → Int32 → Option (Int32)) (v1 : Int32) (v2 : Int32) : Option (Int32) :=
  cal1 (F_X1_cards r_0_rules) fun x1 => if x1 ≤ v2 then zb (nI 1) <| some (nI 1) else cal1 (F_X4_isUp T_0 v2) fun x5 => if x5 = nI 0 then cal1 (F_X1_isFitting r_0_rules v2 v1) fun x8 => if x8 = nI 0 then K2 v1 (v2 + (nI 1)) else zb (nI 0) <| some (nI 0) else K2 v1 (v2 + (nI 1))
def F_X4_isSafeUp_L2 (T_0 : Nat → Nat → Int32) (r_0_rules : Nat → Int32) : Nat → Int32 → Int32 → Option (Int32)
  | 0 => fun _ _ => none
  | n + 1 => fun v1 v2 => F_X4_isSafeUp_s2 T_0 r_0_rules (F_X4_isSafeUp_L2 T_0 r_0_rules n) v1 v2
def F_X4_isSafeUp (T_0 : Nat → Nat → Int32) (r_0_rules : Nat → Int32) (v1 : Int32) : Option (Int32) :=
  F_X4_isSafeUp_L2 T_0 r_0_rules FU v1 (nI 0)
def F_X4_firstSafePlace_s2 (T_0 : Nat → Nat → Int32) (r_0_rules : Nat → Int32) (K2 : Int32 → Option (Int32)) (v1 : Int32) : Option (Int32) :=
  if (nI 7) < v1 then some (-1) else cal1 (F_X4_isMove T_0 r_0_rules v1 (nI 8) (nI 1)) fun x2 => if x2 = nI 0 then K2 (v1 + (nI 1)) else cal1 (F_X4_topOf T_0 v1) fun x5 => cal1 (F_X4_isSafeUp T_0 r_0_rules x5) fun x7 => if x7 = nI 0 then K2 (v1 + (nI 1)) else some v1
def F_X4_firstSafePlace_L2 (T_0 : Nat → Nat → Int32) (r_0_rules : Nat → Int32) : Nat → Int32 → Option (Int32)
  | 0 => fun _ => none
  | n + 1 => fun v1 => F_X4_firstSafePlace_s2 T_0 r_0_rules (F_X4_firstSafePlace_L2 T_0 r_0_rules n) v1
def F_X4_firstSafePlace (T_0 : Nat → Nat → Int32) (r_0_rules : Nat → Int32) : Option (Int32) :=
  F_X4_firstSafePlace_L2 T_0 r_0_rules FU (nI 0)
def F_X3_isRow (S_0 : Nat → Nat → Int64) (n_0 : Nat) (v1 : Int32) : Option (Int32) :=
  if v1 < nI 0 then zb (nI 0) <| some (nI 0) else if (nI n_0) ≤ v1 then zb (nI 0) <| some (nI 0) else if (nI n_0) ≤ v1 then zb (nI 0) <| some (nI 0) else if (nI n_0) ≤ v1 then zb (nI 0) <| some (nI 0) else zb (nI 1) <| some (nI 1)
def F_X4_packed_s11 (T_0 : Nat → Nat → Int32) (K11 : Int32 → Int64 → Int32 → Option (Int64)) (v3 : Int32) (v4 : Int64) (v6 : Int32) : Option (Int64) :=
  if v3 ≤ v6 then some v4 else if (nI 16) ≤ v6 then some v4 else rdA (T_0 1) 16 v6 fun x3 => K11 v3 ((v4 <<< (((nI 5) : Int32).toInt64 &&& 63)) ||| (x3.toInt64)) (v6 + (nI 1))
def F_X4_packed_L11 (T_0 : Nat → Nat → Int32) : Nat → Int32 → Int64 → Int32 → Option (Int64)
  | 0 => fun _ _ _ => none
  | n + 1 => fun v3 v4 v6 => F_X4_packed_s11 T_0 (F_X4_packed_L11 T_0 n) v3 v4 v6
def F_X4_packed (T_0 : Nat → Nat → Int32) (v1 : Int32) (v2 : Int32) (v3 : Int32) : Option (Int64) :=
  F_X4_packed_L11 T_0 FU v3 (v1.toInt64) (if v2 < (nI 0) then (nI 0) else v2)
def F_X4_packedTops_s4 (T_0 : Nat → Nat → Int32) (K4 : Int64 → Int32 → Option (Int64)) (v1 : Int64) (v3 : Int32) : Option (Int64) :=
  if (nI 10) ≤ v3 then some v1 else rdA (T_0 2) 10 v3 fun x2 => K4 ((v1 <<< (((nI 5) : Int32).toInt64 &&& 63)) ||| (((x2 + (nI 1)) : Int32).toInt64)) (v3 + (nI 1))
def F_X4_packedTops_L4 (T_0 : Nat → Nat → Int32) : Nat → Int64 → Int32 → Option (Int64)
  | 0 => fun _ _ => none
  | n + 1 => fun v1 v3 => F_X4_packedTops_s4 T_0 (F_X4_packedTops_L4 T_0 n) v1 v3
def F_X4_packedTops (T_0 : Nat → Nat → Int32) : Option (Int64) :=
  F_X4_packedTops_L4 T_0 FU (lN 0) (nI 0)
def F_X3_keep (T_2 : Nat → Nat → Int32) (n_0 : Nat) (S_0 : Nat → Nat → Int64) (v1 : Int32) : Option ((Nat → Nat → Int64)) :=
  cal1 (F_X3_isRow S_0 n_0 v1) fun x1 => if x1 = nI 0 then some S_0 else cal1 (F_X4_packed T_2 (T_2 0 5) (nI 0) (nI 8)) fun x4 => wrJ S_0 0 n_0 v1 x4 fun S_0u6 => cal1 (F_X4_packed T_2 (T_2 0 6) (nI 8) (nI 16)) fun x8 => wrJ S_0u6 1 n_0 v1 x8 fun S_0u10 => cal1 (F_X4_packedTops T_2) fun x12 => wrJ S_0u10 2 n_0 v1 x12 fun S_0u14 => some S_0u14
def F_X5_codeOf (v0 : Int32) (v1 : Int32) (v2 : Int32) : Option (Int32) :=
  some ((((nI 1000) * v0) + ((nI 100) * v1)) + v2)
def F_X5_put (n_0 : Nat) (f_0 : Nat → Int32) (v1 : Int32) (v2 : Int32) : Option ((Nat → Int32)) :=
  if v1 < nI 0 then some f_0 else if (nI n_0) ≤ v1 then some f_0 else wr1 f_0 n_0 v1 v2 fun f_0u3 => some f_0u3
def F_X4_floorOf (v0 : Int32) : Option (Int32) :=
  if v0 = (nI 7) then some (nI 18) else if v0 = (nI 8) then some (nI 20) else if v0 = (nI 9) then some (nI 19) else if (nI 5) ≤ v0 then some (nI 17) else some (nI 16)
def F_X4_layOn_b27 (T_0 : Nat → Nat → Int32) (v2 : Int32) (v3 : Int32) (s1 : Int32) (s2 : Int32) : Option ((Nat → Nat → Int32)) :=
  cal1 (F_X5_put 16 (T_0 1) s1 s2) fun f1 => bnd (setc T_0 1 f1) fun T_0u3 => if v3 = (nI 8) then some T_0u3 else cal1 (F_X5_put 10 (T_0u3 2) v3 v2) fun f5 => bnd (setc T_0u3 2 f5) fun T_0u7 => some T_0u7
def F_X4_layOn (T_0 : Nat → Nat → Int32) (v1 : Int32) (v2 : Int32) (v3 : Int32) : Option ((Nat → Nat → Int32)) :=
  cal1 (F_X4_topOf T_0 v3) fun x8 => if x8 = (-1) then cal1 (F_X4_floorOf v3) fun x11 => F_X4_layOn_b27 T_0 v2 v3 v1 x11 else F_X4_layOn_b27 T_0 v2 v3 v1 x8
def F_X4_carry_b58 (T_0 : Nat → Nat → Int32) (v2 : Int32) (v4 : Int32) (v5 : Int32) : Option ((Nat → Nat → Int32)) :=
  cal1 (F_X4_layOn T_0 v4 v5 v2) fun T_0u1 => some T_0u1
def F_X4_carry (T_0 : Nat → Nat → Int32) (v1 : Int32) (v2 : Int32) (v3 : Int32) : Option ((Nat → Nat → Int32)) :=
  cal1 (F_X4_fromTop T_0 v1 (v3 - (nI 1))) fun x3 => cal1 (F_X4_topOf T_0 v1) fun x5 => cal1 (F_X4_under T_0 x3) fun x7 => cal1 (F_X5_put 10 (T_0 2) v1 x7) fun f9 => bnd (setc T_0 2 f9) fun T_0u11 => cal1 (F_X5_isCard x7) fun x12 => if x12 = nI 0 then F_X4_carry_b58 T_0u11 v2 x3 x5 else bnd (st2 T_0u11 0 5 ((T_0u11 0 5) &&& (((nI 1) <<< (x7 &&& 31)) ^^^ (-1)))) fun T_0u15 => F_X4_carry_b58 T_0u15 v2 x3 x5
def F_X4_turnOver_b33 (T_0 : Nat → Nat → Int32) : Option ((Nat → Nat → Int32)) :=
  bnd (st2 T_0 0 6 ((T_0 0 6) + (nI 1))) fun T_0u1 => some T_0u1
def F_X4_turnOver_s2 (K2 : (Nat → Nat → Int32) → Int32 → Option ((Nat → Nat → Int32))) (T_0 : Nat → Nat → Int32) (v1 : Int32) : Option ((Nat → Nat → Int32)) :=
  if (nI 16) ≤ v1 then F_X4_turnOver_b33 T_0 else cal1 (F_X4_topOf T_0 (nI 7)) fun x3 => if x3 = (-1) then F_X4_turnOver_b33 T_0 else cal1 (F_X4_carry T_0 (nI 7) (nI 9) (nI 1)) fun T_0u6 => K2 T_0u6 (v1 + (nI 1))
def F_X4_turnOver_L2 : Nat → (Nat → Nat → Int32) → Int32 → Option ((Nat → Nat → Int32))
  | 0 => fun _ _ => none
  | n + 1 => fun T_0 v1 => F_X4_turnOver_s2 (F_X4_turnOver_L2 n) T_0 v1
def F_X4_turnOver (T_0 : Nat → Nat → Int32) : Option ((Nat → Nat → Int32)) :=
  F_X4_turnOver_L2 FU T_0 (nI 0)
def F_X4_play (T_0 : Nat → Nat → Int32) (v1 : Int32) : Option ((Nat → Nat → Int32)) :=
  nz (nI 1000) <| if (v1 / (nI 1000)) = (nI 9) then cal1 (F_X4_topOf T_0 (nI 9)) fun x3 => if x3 = (-1) then cal1 (F_X4_turnOver T_0) fun T_0u6 => some T_0u6 else cal1 (F_X4_carry T_0 (nI 9) (nI 7) (nI 1)) fun T_0u8 => some T_0u8 else nz (nI 100) <| nz (nI 10) <| nz (nI 100) <| cal1 (F_X4_carry T_0 (v1 / (nI 1000)) ((v1 / (nI 100)) - (v1 / (nI 100)) / (nI 10) * (nI 10)) (v1 - v1 / (nI 100) * (nI 100))) fun T_0u13 => some T_0u13
def F_X5_doMove (P_0 : Nat → Int32) (S_0_past : Nat → Nat → Int64) (T_0_now : Nat → Nat → Int32) (v1 : Int32) (v2 : Int32) (v3 : Int32) : Option ((Nat → Int32) × (Nat → Nat → Int64) × (Nat → Nat → Int32)) :=
  cal1 (F_X3_keep T_0_now 200 S_0_past (P_0 7)) fun S_0_pastu1 => cal1 (F_X5_codeOf v1 v2 v3) fun x3 => cal1 (F_X4_play T_0_now x3) fun T_0_nowu5 => bnd (upd P_0 7 ((P_0 7) + (nI 1))) fun P_0u7 => some (P_0u7, S_0_pastu1, T_0_nowu5)
def F_X5_safe_b50 (r_0_rules : Nat → Int32) (P_0 : Nat → Int32) (T_0_now : Nat → Nat → Int32) (S_0_past : Nat → Nat → Int64) (v1 : Int32) : Option (Int32 × (Nat → Int32) × (Nat → Nat → Int32) × (Nat → Nat → Int64)) :=
  some (((P_0 7) - v1), P_0, T_0_now, S_0_past)
def F_X5_safe_s19 (r_0_rules : Nat → Int32) (K19 : (Nat → Int32) → (Nat → Nat → Int32) → (Nat → Nat → Int64) → Int32 → Int32 → Int32 → Option (Int32 × (Nat → Int32) × (Nat → Nat → Int32) × (Nat → Nat → Int64))) (P_0 : Nat → Int32) (T_0_now : Nat → Nat → Int32) (S_0_past : Nat → Nat → Int64) (v1 : Int32) (v2 : Int32) (v3 : Int32) : Option (Int32 × (Nat → Int32) × (Nat → Nat → Int32) × (Nat → Nat → Int64)) :=
  if v3 ≤ nI 0 then F_X5_safe_b50 r_0_rules P_0 T_0_now S_0_past v1 else if v2 = (-1) then F_X5_safe_b50 r_0_rules P_0 T_0_now S_0_past v1 else cal3 (F_X5_doMove P_0 S_0_past T_0_now v2 (nI 8) (nI 1)) fun P_0u3 S_0_pastu4 T_0_nowu5 => cal1 (F_X4_firstSafePlace T_0_nowu5 r_0_rules) fun x7 => K19 P_0u3 T_0_nowu5 S_0_pastu4 v1 x7 (v3 + (-1))
def F_X5_safe_L19 (r_0_rules : Nat → Int32) : Nat → (Nat → Int32) → (Nat → Nat → Int32) → (Nat → Nat → Int64) → Int32 → Int32 → Int32 → Option (Int32 × (Nat → Int32) × (Nat → Nat → Int32) × (Nat → Nat → Int64))
  | 0 => fun _ _ _ _ _ _ => none
  | n + 1 => fun P_0 T_0_now S_0_past v1 v2 v3 => F_X5_safe_s19 r_0_rules (F_X5_safe_L19 r_0_rules n) P_0 T_0_now S_0_past v1 v2 v3
def F_X5_safe (r_0_rules : Nat → Int32) (P_0 : Nat → Int32) (T_0_now : Nat → Nat → Int32) (S_0_past : Nat → Nat → Int64) : Option (Int32 × (Nat → Int32) × (Nat → Nat → Int32) × (Nat → Nat → Int64)) :=
  cal1 (F_X4_firstSafePlace T_0_now r_0_rules) fun x9 => F_X5_safe_L19 r_0_rules FU P_0 T_0_now S_0_past (P_0 7) x9 ((nI 200) - (P_0 7))
def F_X4_listMoves_s73 (r_0_rules : Nat → Int32) (K7 : (Nat → Nat → Int32) → Int32 → Option ((Nat → Nat → Int32))) (K50 : (Nat → Nat → Int32) → Int32 → Int32 → Int32 → Option ((Nat → Nat → Int32))) (K73 : (Nat → Nat → Int32) → Int32 → Int32 → Int32 → Int32 → Int32 → Option ((Nat → Nat → Int32))) (T_0 : Nat → Nat → Int32) (v1 : Int32) (v2 : Int32) (v3 : Int32) (v4 : Int32) (v5 : Int32) : Option ((Nat → Nat → Int32)) :=
  if v4 < v5 then K50 T_0 v1 v2 (v3 + (nI 1)) else if (nI 160) ≤ (T_0 0 4) then K73 T_0 v1 v2 v3 v4 (v5 + (nI 1)) else cal1 (F_X4_isMove T_0 r_0_rules v1 v3 v5) fun x3 => if x3 = nI 0 then K73 T_0 v1 v2 v3 v4 (v5 + (nI 1)) else cal1 (F_X5_codeOf v1 v3 v5) fun x6 => cal1 (F_X5_put 160 (T_0 3) (T_0 0 4) x6) fun f8 => bnd (setc T_0 3 f8) fun T_0u10 => bnd (st2 T_0u10 0 4 ((T_0u10 0 4) + (nI 1))) fun T_0u11 => K73 T_0u11 v1 v2 v3 v4 (v5 + (nI 1))
def F_X4_listMoves_L73 (r_0_rules : Nat → Int32) (K7 : (Nat → Nat → Int32) → Int32 → Option ((Nat → Nat → Int32))) (K50 : (Nat → Nat → Int32) → Int32 → Int32 → Int32 → Option ((Nat → Nat → Int32))) : Nat → (Nat → Nat → Int32) → Int32 → Int32 → Int32 → Int32 → Int32 → Option ((Nat → Nat → Int32))
  | 0 => fun _ _ _ _ _ _ => none
  | n + 1 => fun T_0 v1 v2 v3 v4 v5 => F_X4_listMoves_s73 r_0_rules K7 K50 (F_X4_listMoves_L73 r_0_rules K7 K50 n) T_0 v1 v2 v3 v4 v5
def F_X4_listMoves_s50 (r_0_rules : Nat → Int32) (K7 : (Nat → Nat → Int32) → Int32 → Option ((Nat → Nat → Int32))) (K50 : (Nat → Nat → Int32) → Int32 → Int32 → Int32 → Option ((Nat → Nat → Int32))) (T_0 : Nat → Nat → Int32) (v1 : Int32) (v2 : Int32) (v3 : Int32) : Option ((Nat → Nat → Int32)) :=
  if (nI 8) < v3 then K7 T_0 (v1 + (nI 1)) else cal1 (F_X5_isColumn v3) fun x13 => if x13 = nI 0 then F_X4_listMoves_L73 r_0_rules K7 K50 FU T_0 v1 v2 v3 (nI 1) (nI 1) else F_X4_listMoves_L73 r_0_rules K7 K50 FU T_0 v1 v2 v3 v2 (nI 1)
def F_X4_listMoves_L50 (r_0_rules : Nat → Int32) (K7 : (Nat → Nat → Int32) → Int32 → Option ((Nat → Nat → Int32))) : Nat → (Nat → Nat → Int32) → Int32 → Int32 → Int32 → Option ((Nat → Nat → Int32))
  | 0 => fun _ _ _ _ => none
  | n + 1 => fun T_0 v1 v2 v3 => F_X4_listMoves_s50 r_0_rules K7 (F_X4_listMoves_L50 r_0_rules K7 n) T_0 v1 v2 v3
def F_X4_listMoves_b31 (r_0_rules : Nat → Int32) (K7 : (Nat → Nat → Int32) → Int32 → Option ((Nat → Nat → Int32))) (T_0 : Nat → Nat → Int32) (v1 : Int32) : Option ((Nat → Nat → Int32)) :=
  cal1 (F_X5_isColumn v1) fun x16 => if x16 = nI 0 then F_X4_listMoves_L50 r_0_rules K7 FU T_0 v1 (nI 1) (nI 0) else cal1 (F_X4_runOf T_0 r_0_rules v1) fun x19 => F_X4_listMoves_L50 r_0_rules K7 FU T_0 v1 x19 (nI 0)
def F_X4_listMoves_s7 (r_0_rules : Nat → Int32) (K7 : (Nat → Nat → Int32) → Int32 → Option ((Nat → Nat → Int32))) (T_0 : Nat → Nat → Int32) (v1 : Int32) : Option ((Nat → Nat → Int32)) :=
  if (nI 10) ≤ v1 then some T_0 else cal1 (F_X4_topOf T_0 v1) fun x22 => if x22 = (-1) then if v1 = (nI 9) then F_X4_listMoves_b31 r_0_rules K7 T_0 v1 else K7 T_0 (v1 + (nI 1)) else F_X4_listMoves_b31 r_0_rules K7 T_0 v1
def F_X4_listMoves_L7 (r_0_rules : Nat → Int32) : Nat → (Nat → Nat → Int32) → Int32 → Option ((Nat → Nat → Int32))
  | 0 => fun _ _ => none
  | n + 1 => fun T_0 v1 => F_X4_listMoves_s7 r_0_rules (F_X4_listMoves_L7 r_0_rules n) T_0 v1
def F_X4_listMoves (r_0_rules : Nat → Int32) (T_0 : Nat → Nat → Int32) : Option ((Nat → Nat → Int32)) :=
  bnd (st2 T_0 0 4 (nI 0)) fun T_0u26 => F_X4_listMoves_L7 r_0_rules FU T_0u26 (nI 0)
def F_X5_moves (P_0 : Nat → Int32) (r_0_rules : Nat → Int32) (T_0_now : Nat → Nat → Int32) : Option (Int32 × (Nat → Nat → Int32)) :=
  cal1 (F_X4_listMoves r_0_rules T_0_now) fun T_0_nowu1 => some ((T_0_nowu1 0 4), T_0_nowu1)
def F_X4_copyFrom (T_1 : Nat → Nat → Int32) (T_0 : Nat → Nat → Int32) : Option ((Nat → Nat → Int32)) :=
  bnd (setc T_0 1 (va_cpy (T_1 1) (T_0 1) 0 0 16)) fun T_0u1 => bnd (setc T_0u1 2 (va_cpy (T_1 2) (T_0u1 2) 0 0 10)) fun T_0u2 => bnd (st2 T_0u2 0 5 (T_1 0 5)) fun T_0u3 => bnd (st2 T_0u3 0 6 (T_1 0 6)) fun T_0u4 => some T_0u4
def F_J7_fill_53178_s5 (n_0 : Nat) (K5 : (Nat → Int32) → Int32 → Int32 → Int32 → Option ((Nat → Int32))) (f_0 : Nat → Int32) (v1 : Int32) (v2 : Int32) (v3 : Int32) : Option ((Nat → Int32)) :=
  if v3 ≤ v2 then some f_0 else wr1 f_0 n_0 v2 v1 fun f_0u2 => K5 f_0u2 v1 (v2 + (nI 1)) v3
def F_J7_fill_53178_L5 (n_0 : Nat) : Nat → (Nat → Int32) → Int32 → Int32 → Int32 → Option ((Nat → Int32))
  | 0 => fun _ _ _ _ => none
  | n + 1 => fun f_0 v1 v2 v3 => F_J7_fill_53178_s5 n_0 (F_J7_fill_53178_L5 n_0 n) f_0 v1 v2 v3
def F_J7_fill_53178 (n_0 : Nat) (f_0 : Nat → Int32) (v1 : Int32) : Option ((Nat → Int32)) :=
  F_J7_fill_53178_L5 n_0 FU f_0 v1 (nI 0) (nI n_0)
def F_X3_bucketOf (S_0 : Nat → Nat → Int64) (n_0 : Nat) (v1 : Int32) : Option (Int32) :=
  cal1 (F_X3_isRow S_0 n_0 v1) fun x1 => if x1 = nI 0 then some (nI 0) else rdA (S_0 0) n_0 v1 fun x4 => rdA (S_0 1) n_0 v1 fun x6 => some (((((((((x4 * (lN 31)) + x6) * (-7046029254386353131)) : Int64).toUInt64 >>> (((nI 40) : Int32).toInt64.toUInt64 &&& Int64.toUInt64 63)).toInt64) : Int64).toInt32) &&& (nI 255))
def F_X2_makeKnown (S_0_shelf : Nat → Nat → Int64) (Q_0 : Nat → Nat → Int32) (v1 : Int32) : Option ((Nat → Nat → Int32)) :=
  cal1 (F_X3_bucketOf S_0_shelf 401 (Q_0 0 1)) fun x1 => cal1 (F_X5_put 401 (Q_0 1) (Q_0 0 1) v1) fun f3 => bnd (setc Q_0 1 f3) fun Q_0u5 => cal1 (F_X5_at (Q_0u5 2) 256 x1) fun x6 => cal1 (F_X5_put 401 (Q_0u5 3) (Q_0u5 0 1) x6) fun f8 => bnd (setc Q_0u5 3 f8) fun Q_0u10 => cal1 (F_X5_put 256 (Q_0u10 2) x1 (Q_0u10 0 1)) fun f11 => bnd (setc Q_0u10 2 f11) fun Q_0u13 => bnd (st2 Q_0u13 0 1 ((Q_0u13 0 1) + (nI 1))) fun Q_0u14 => some Q_0u14
def F_X4_cardsUp_s4 (T_0 : Nat → Nat → Int32) (r_0_rules : Nat → Int32) (K4 : Int32 → Int32 → Option (Int32)) (v1 : Int32) (v2 : Int32) : Option (Int32) :=
  cal1 (F_X1_cards r_0_rules) fun x1 => if x1 ≤ v2 then some v1 else cal1 (F_X4_isUp T_0 v2) fun x4 => if x4 = nI 0 then K4 v1 (v2 + (nI 1)) else K4 (v1 + (nI 1)) (v2 + (nI 1))
def F_X4_cardsUp_L4 (T_0 : Nat → Nat → Int32) (r_0_rules : Nat → Int32) : Nat → Int32 → Int32 → Option (Int32)
  | 0 => fun _ _ => none
  | n + 1 => fun v1 v2 => F_X4_cardsUp_s4 T_0 r_0_rules (F_X4_cardsUp_L4 T_0 r_0_rules n) v1 v2
def F_X4_cardsUp (T_0 : Nat → Nat → Int32) (r_0_rules : Nat → Int32) : Option (Int32) :=
  F_X4_cardsUp_L4 T_0 r_0_rules FU (nI 0) (nI 0)
def F_X4_isWon (T_0 : Nat → Nat → Int32) (r_0_rules : Nat → Int32) : Option (Int32) :=
  cal1 (F_X4_cardsUp T_0 r_0_rules) fun x1 => cal1 (F_X1_cards r_0_rules) fun x3 => if x1 = x3 then zb (nI 1) <| some (nI 1) else zb (nI 0) <| some (nI 0)
def F_X4_unpacked_s17 (K17 : (Nat → Nat → Int32) → Int32 → Int64 → Int32 → Option (Int32 × (Nat → Nat → Int32))) (T_0 : Nat → Nat → Int32) (v3 : Int32) (v5 : Int64) (v7 : Int32) : Option (Int32 × (Nat → Nat → Int32)) :=
  if v7 < v3 then some ((v5.toInt32), T_0) else if v7 < nI 0 then some ((v5.toInt32), T_0) else wrA T_0 1 16 v7 (((v5 &&& (lN 31)) : Int64).toInt32) fun T_0u3 => K17 T_0u3 v3 (v5 >>> (((nI 5) : Int32).toInt64 &&& 63)) (v7 + (-1))
def F_X4_unpacked_L17 : Nat → (Nat → Nat → Int32) → Int32 → Int64 → Int32 → Option (Int32 × (Nat → Nat → Int32))
  | 0 => fun _ _ _ _ => none
  | n + 1 => fun T_0 v3 v5 v7 => F_X4_unpacked_s17 (F_X4_unpacked_L17 n) T_0 v3 v5 v7
def F_X4_unpacked (T_0 : Nat → Nat → Int32) (v1 : Int64) (v3 : Int32) (v4 : Int32) : Option (Int32 × (Nat → Nat → Int32)) :=
  F_X4_unpacked_L17 FU T_0 v3 v1 ((if (nI 16) < v4 then (nI 16) else v4) - (nI 1))
def F_X4_unpackTops_s11 (K11 : (Nat → Nat → Int32) → Int64 → Int32 → Option ((Nat → Nat → Int32))) (T_0 : Nat → Nat → Int32) (v3 : Int64) (v5 : Int32) : Option ((Nat → Nat → Int32)) :=
  if v5 < nI 0 then some T_0 else wrA T_0 2 10 v5 ((((v3 &&& (lN 31)) : Int64).toInt32) - (nI 1)) fun T_0u2 => K11 T_0u2 (v3 >>> (((nI 5) : Int32).toInt64 &&& 63)) (v5 + (-1))
def F_X4_unpackTops_L11 : Nat → (Nat → Nat → Int32) → Int64 → Int32 → Option ((Nat → Nat → Int32))
  | 0 => fun _ _ _ => none
  | n + 1 => fun T_0 v3 v5 => F_X4_unpackTops_s11 (F_X4_unpackTops_L11 n) T_0 v3 v5
def F_X4_unpackTops (T_0 : Nat → Nat → Int32) (v1 : Int64) : Option ((Nat → Nat → Int32)) :=
  F_X4_unpackTops_L11 FU T_0 v1 ((nI 10) - (nI 1))
def F_X3_fetch (S_0 : Nat → Nat → Int64) (n_0 : Nat) (T_2 : Nat → Nat → Int32) (v1 : Int32) : Option ((Nat → Nat → Int32)) :=
  cal1 (F_X3_isRow S_0 n_0 v1) fun x1 => if x1 = nI 0 then some T_2 else rdA (S_0 0) n_0 v1 fun x4 => cal2 (F_X4_unpacked T_2 x4 (nI 0) (nI 8)) fun x6 T_2u7 => bnd (st2 T_2u7 0 5 x6) fun T_2u9 => rdA (S_0 1) n_0 v1 fun x10 => cal2 (F_X4_unpacked T_2u9 x10 (nI 8) (nI 16)) fun x12 T_2u13 => bnd (st2 T_2u13 0 6 x12) fun T_2u15 => rdA (S_0 2) n_0 v1 fun x16 => cal1 (F_X4_unpackTops T_2u15 x16) fun T_2u18 => some T_2u18
def F_X4_listedAt (T_0 : Nat → Nat → Int32) (v1 : Int32) : Option (Int32) :=
  if (T_0 0 4) ≤ v1 then some (-1) else cal1 (F_X5_at (T_0 3) 160 v1) fun x2 => some x2
def F_X3_areSame (S_0 : Nat → Nat → Int64) (n_0 : Nat) (v1 : Int32) (v2 : Int32) : Option (Int32) :=
  cal1 (F_X3_isRow S_0 n_0 v1) fun x1 => if x1 = nI 0 then zb (nI 0) <| some (nI 0) else cal1 (F_X3_isRow S_0 n_0 v2) fun x5 => if x5 = nI 0 then zb (nI 0) <| some (nI 0) else rdA (S_0 0) n_0 v1 fun x9 => rdA (S_0 0) n_0 v2 fun x11 => if (lg_cmp x9 x11) = nI 0 then rdA (S_0 1) n_0 v1 fun x15 => rdA (S_0 1) n_0 v2 fun x17 => if (lg_cmp x15 x17) = nI 0 then zb (nI 1) <| some (nI 1) else zb (nI 0) <| some (nI 0) else zb (nI 0) <| some (nI 0)
def F_X2_isKnownAlready_s21 (Q_0 : Nat → Nat → Int32) (S_0_shelf : Nat → Nat → Int64) (K21 : Int32 → Int32 → Option (Int32)) (v1 : Int32) (v2 : Int32) : Option (Int32) :=
  if (nI 400) ≤ v2 then zb (nI 0) <| some (nI 0) else if v1 = (-1) then zb (nI 0) <| some (nI 0) else cal1 (F_X3_areSame S_0_shelf 401 v1 (Q_0 0 1)) fun x5 => if x5 = nI 0 then cal1 (F_X5_at (Q_0 3) 401 v1) fun x8 => K21 x8 (v2 + (nI 1)) else zb (nI 1) <| some (nI 1)
def F_X2_isKnownAlready_L21 (Q_0 : Nat → Nat → Int32) (S_0_shelf : Nat → Nat → Int64) : Nat → Int32 → Int32 → Option (Int32)
  | 0 => fun _ _ => none
  | n + 1 => fun v1 v2 => F_X2_isKnownAlready_s21 Q_0 S_0_shelf (F_X2_isKnownAlready_L21 Q_0 S_0_shelf n) v1 v2
def F_X2_isKnownAlready (Q_0 : Nat → Nat → Int32) (S_0_shelf : Nat → Nat → Int64) : Option (Int32) :=
  cal1 (F_X3_bucketOf S_0_shelf 401 (Q_0 0 1)) fun x11 => cal1 (F_X5_at (Q_0 2) 256 x11) fun x13 => F_X2_isKnownAlready_L21 Q_0 S_0_shelf FU x13 (nI 0)
def F_X2_run_s101 (r_0_table_rules : Nat → Int32) (K55 : (Nat → Nat → Int32) → (Nat → Nat → Int32) → (Nat → Nat → Int32) → (Nat → Nat → Int64) → Int32 → Int32 → Option (Int32 × (Nat → Nat → Int32) × (Nat → Nat → Int32) × (Nat → Nat → Int32) × (Nat → Nat → Int64))) (K101 : (Nat → Nat → Int32) → (Nat → Nat → Int32) → (Nat → Nat → Int32) → (Nat → Nat → Int64) → Int32 → Int32 → Int32 → Int32 → Option (Int32 × (Nat → Nat → Int32) × (Nat → Nat → Int32) × (Nat → Nat → Int32) × (Nat → Nat → Int64))) (Q_0 : Nat → Nat → Int32) (T_0_origin : Nat → Nat → Int32) (T_0_table : Nat → Nat → Int32) (S_0_shelf : Nat → Nat → Int64) (v1 : Int32) (v2 : Int32) (v3 : Int32) (v4 : Int32) : Option (Int32 × (Nat → Nat → Int32) × (Nat → Nat → Int32) × (Nat → Nat → Int32) × (Nat → Nat → Int64)) :=
  if (T_0_origin 0 4) ≤ v4 then K55 Q_0 T_0_origin T_0_table S_0_shelf v1 (v2 + (nI 1)) else cal1 (F_X4_copyFrom T_0_origin T_0_table) fun T_0_tableu2 => cal1 (F_X4_listedAt T_0_origin v4) fun x4 => cal1 (F_X4_play T_0_tableu2 x4) fun T_0_tableu6 => cal1 (F_X3_keep T_0_tableu6 401 S_0_shelf (Q_0 0 1)) fun S_0_shelfu8 => cal1 (F_X2_isKnownAlready Q_0 S_0_shelfu8) fun x10 => if x10 = nI 0 then if (Q_0 0 1) < v1 then cal1 (F_X2_makeKnown S_0_shelfu8 Q_0 v3) fun Q_0u14 => cal1 (F_X4_isWon T_0_tableu6 r_0_table_rules) fun x16 => if x16 = nI 0 then K101 Q_0u14 T_0_origin T_0_tableu6 S_0_shelfu8 v1 v2 v3 (v4 + (nI 1)) else some (v3, Q_0u14, T_0_origin, T_0_tableu6, S_0_shelfu8) else some ((-2), Q_0, T_0_origin, T_0_tableu6, S_0_shelfu8) else K101 Q_0 T_0_origin T_0_tableu6 S_0_shelfu8 v1 v2 v3 (v4 + (nI 1))
def F_X2_run_L101 (r_0_table_rules : Nat → Int32) (K55 : (Nat → Nat → Int32) → (Nat → Nat → Int32) → (Nat → Nat → Int32) → (Nat → Nat → Int64) → Int32 → Int32 → Option (Int32 × (Nat → Nat → Int32) × (Nat → Nat → Int32) × (Nat → Nat → Int32) × (Nat → Nat → Int64))) : Nat → (Nat → Nat → Int32) → (Nat → Nat → Int32) → (Nat → Nat → Int32) → (Nat → Nat → Int64) → Int32 → Int32 → Int32 → Int32 → Option (Int32 × (Nat → Nat → Int32) × (Nat → Nat → Int32) × (Nat → Nat → Int32) × (Nat → Nat → Int64))
  | 0 => fun _ _ _ _ _ _ _ _ => none
  | n + 1 => fun Q_0 T_0_origin T_0_table S_0_shelf v1 v2 v3 v4 => F_X2_run_s101 r_0_table_rules K55 (F_X2_run_L101 r_0_table_rules K55 n) Q_0 T_0_origin T_0_table S_0_shelf v1 v2 v3 v4
def F_X2_run_s55 (r_0_table_rules : Nat → Int32) (K55 : (Nat → Nat → Int32) → (Nat → Nat → Int32) → (Nat → Nat → Int32) → (Nat → Nat → Int64) → Int32 → Int32 → Option (Int32 × (Nat → Nat → Int32) × (Nat → Nat → Int32) × (Nat → Nat → Int32) × (Nat → Nat → Int64))) (Q_0 : Nat → Nat → Int32) (T_0_origin : Nat → Nat → Int32) (T_0_table : Nat → Nat → Int32) (S_0_shelf : Nat → Nat → Int64) (v1 : Int32) (v2 : Int32) : Option (Int32 × (Nat → Nat → Int32) × (Nat → Nat → Int32) × (Nat → Nat → Int32) × (Nat → Nat → Int64)) :=
  if (Q_0 0 1) ≤ v2 then some ((-1), Q_0, T_0_origin, T_0_table, S_0_shelf) else if v1 ≤ v2 then some ((-1), Q_0, T_0_origin, T_0_table, S_0_shelf) else cal1 (F_X5_at (Q_0 1) 401 v2) fun x21 => cal1 (F_X3_fetch S_0_shelf 401 T_0_origin v2) fun T_0_originu23 => cal1 (F_X4_listMoves r_0_table_rules T_0_originu23) fun T_0_originu25 => F_X2_run_L101 r_0_table_rules K55 FU Q_0 T_0_originu25 T_0_table S_0_shelf v1 v2 (x21 + (nI 1)) (nI 0)
def F_X2_run_L55 (r_0_table_rules : Nat → Int32) : Nat → (Nat → Nat → Int32) → (Nat → Nat → Int32) → (Nat → Nat → Int32) → (Nat → Nat → Int64) → Int32 → Int32 → Option (Int32 × (Nat → Nat → Int32) × (Nat → Nat → Int32) × (Nat → Nat → Int32) × (Nat → Nat → Int64))
  | 0 => fun _ _ _ _ _ _ => none
  | n + 1 => fun Q_0 T_0_origin T_0_table S_0_shelf v1 v2 => F_X2_run_s55 r_0_table_rules (F_X2_run_L55 r_0_table_rules n) Q_0 T_0_origin T_0_table S_0_shelf v1 v2
def F_X2_run (r_0_table_rules : Nat → Int32) (Q_0 : Nat → Nat → Int32) (T_0_origin : Nat → Nat → Int32) (T_0_table : Nat → Nat → Int32) (S_0_shelf : Nat → Nat → Int64) (v1 : Int32) : Option (Int32 × (Nat → Nat → Int32) × (Nat → Nat → Int32) × (Nat → Nat → Int32) × (Nat → Nat → Int64)) :=
  cal1 (F_J7_fill_53178 256 (Q_0 2) (-1)) fun f27 => bnd (setc Q_0 2 f27) fun Q_0u29 => bnd (st2 Q_0u29 0 1 (nI 0)) fun Q_0u30 => cal1 (F_X4_copyFrom T_0_table T_0_origin) fun T_0_originu31 => cal1 (F_X3_keep T_0_table 401 S_0_shelf (nI 0)) fun S_0_shelfu33 => cal1 (F_X2_makeKnown S_0_shelfu33 Q_0u30 (nI 0)) fun Q_0u35 => cal1 (F_X4_isWon T_0_table r_0_table_rules) fun x37 => if x37 = nI 0 then F_X2_run_L55 r_0_table_rules FU Q_0u35 T_0_originu31 T_0_table S_0_shelfu33 v1 (nI 0) else some ((nI 0), Q_0u35, T_0_originu31, T_0_table, S_0_shelfu33)
def F_X5_hint_s40 (P_0 : Nat → Int32) (r_0_rules : Nat → Int32) (K40 : (Nat → Nat → Int32) → (Nat → Nat → Int32) → (Nat → Nat → Int32) → (Nat → Nat → Int32) → (Nat → Nat → Int64) → Int32 → Int32 → Option (Int32 × (Nat → Nat → Int32) × (Nat → Nat → Int32) × (Nat → Nat → Int32) × (Nat → Nat → Int32) × (Nat → Nat → Int64))) (Q_0_searcher : Nat → Nat → Int32) (T_0_searcher_table : Nat → Nat → Int32) (T_0_now : Nat → Nat → Int32) (T_0_searcher_origin : Nat → Nat → Int32) (S_0_searcher_shelf : Nat → Nat → Int64) (v1 : Int32) (v2 : Int32) : Option (Int32 × (Nat → Nat → Int32) × (Nat → Nat → Int32) × (Nat → Nat → Int32) × (Nat → Nat → Int32) × (Nat → Nat → Int64)) :=
  if (T_0_now 0 4) ≤ v2 then some ((-1), Q_0_searcher, T_0_searcher_table, T_0_now, T_0_searcher_origin, S_0_searcher_shelf) else cal1 (F_X4_listedAt T_0_now v2) fun x2 => cal1 (F_X4_copyFrom T_0_now T_0_searcher_table) fun T_0_searcher_tableu4 => cal1 (F_X4_play T_0_searcher_tableu4 x2) fun T_0_searcher_tableu6 => cal5 (F_X2_run r_0_rules Q_0_searcher T_0_searcher_origin T_0_searcher_tableu6 S_0_searcher_shelf (nI 100)) fun x8 Q_0_searcheru9 T_0_searcher_originu10 T_0_searcher_tableu11 S_0_searcher_shelfu12 => if x8 = (v1 - (nI 1)) then some (x2, Q_0_searcheru9, T_0_searcher_tableu11, T_0_now, T_0_searcher_originu10, S_0_searcher_shelfu12) else K40 Q_0_searcheru9 T_0_searcher_tableu11 T_0_now T_0_searcher_originu10 S_0_searcher_shelfu12 v1 (v2 + (nI 1))
def F_X5_hint_L40 (P_0 : Nat → Int32) (r_0_rules : Nat → Int32) : Nat → (Nat → Nat → Int32) → (Nat → Nat → Int32) → (Nat → Nat → Int32) → (Nat → Nat → Int32) → (Nat → Nat → Int64) → Int32 → Int32 → Option (Int32 × (Nat → Nat → Int32) × (Nat → Nat → Int32) × (Nat → Nat → Int32) × (Nat → Nat → Int32) × (Nat → Nat → Int64))
  | 0 => fun _ _ _ _ _ _ _ => none
  | n + 1 => fun Q_0_searcher T_0_searcher_table T_0_now T_0_searcher_origin S_0_searcher_shelf v1 v2 => F_X5_hint_s40 P_0 r_0_rules (F_X5_hint_L40 P_0 r_0_rules n) Q_0_searcher T_0_searcher_table T_0_now T_0_searcher_origin S_0_searcher_shelf v1 v2
def F_X5_hint (P_0 : Nat → Int32) (r_0_rules : Nat → Int32) (Q_0_searcher : Nat → Nat → Int32) (T_0_searcher_table : Nat → Nat → Int32) (T_0_now : Nat → Nat → Int32) (T_0_searcher_origin : Nat → Nat → Int32) (S_0_searcher_shelf : Nat → Nat → Int64) : Option (Int32 × (Nat → Nat → Int32) × (Nat → Nat → Int32) × (Nat → Nat → Int32) × (Nat → Nat → Int32) × (Nat → Nat → Int64)) :=
  cal1 (F_X4_copyFrom T_0_now T_0_searcher_table) fun T_0_searcher_tableu15 => cal5 (F_X2_run r_0_rules Q_0_searcher T_0_searcher_origin T_0_searcher_tableu15 S_0_searcher_shelf (nI 100)) fun x17 Q_0_searcheru18 T_0_searcher_originu19 T_0_searcher_tableu20 S_0_searcher_shelfu21 => if (nI 1) ≤ x17 then cal1 (F_X4_listMoves r_0_rules T_0_now) fun T_0_nowu24 => F_X5_hint_L40 P_0 r_0_rules FU Q_0_searcheru18 T_0_searcher_tableu20 T_0_nowu24 T_0_searcher_originu19 S_0_searcher_shelfu21 x17 (nI 0) else some ((-1), Q_0_searcheru18, T_0_searcher_tableu20, T_0_now, T_0_searcher_originu19, S_0_searcher_shelfu21)
def F_X0_nextOf_b22 (s0 : Int32) : Option (Int32) :=
  some (s0 &&& (nI 2147483647))
def F_X0_nextOf (v0 : Int32) (v1 : Int32) : Option (Int32) :=
  if v0 = nI 0 then F_X0_nextOf_b22 ((v1 * (nI 214013)) + (nI 2531011)) else F_X0_nextOf_b22 ((v1 * (nI 1103515245)) + (nI 12345))
def F_X0_draw_s39 (K39 : (Nat → Nat → Int32) → Int32 → Int32 → Int32 → Int32 → Option ((Nat → Nat → Int32))) (D_0 : Nat → Nat → Int32) (v1 : Int32) (v3 : Int32) (v4 : Int32) (v5 : Int32) : Option ((Nat → Nat → Int32)) :=
  if v5 ≤ nI 0 then some D_0 else cal1 (F_X0_nextOf v1 v4) fun x2 => nz (nI 65536) <| nz (nI 32768) <| nz v5 <| cal1 (F_X5_at (D_0 0) 16 (((x2 / (nI 65536)) - (x2 / (nI 65536)) / (nI 32768) * (nI 32768)) - ((x2 / (nI 65536)) - (x2 / (nI 65536)) / (nI 32768) * (nI 32768)) / v5 * v5)) fun x7 => cal1 (F_X5_put 16 (D_0 1) (v3 - v5) x7) fun f9 => bnd (setc D_0 1 f9) fun D_0u11 => cal1 (F_X5_at (D_0u11 0) 16 (v5 - (nI 1))) fun x12 => cal1 (F_X5_put 16 (D_0u11 0) (((x2 / (nI 65536)) - (x2 / (nI 65536)) / (nI 32768) * (nI 32768)) - ((x2 / (nI 65536)) - (x2 / (nI 65536)) / (nI 32768) * (nI 32768)) / v5 * v5) x12) fun f14 => bnd (setc D_0u11 0 f14) fun D_0u16 => K39 D_0u16 v1 v3 x2 (v5 + (-1))
def F_X0_draw_L39 : Nat → (Nat → Nat → Int32) → Int32 → Int32 → Int32 → Int32 → Option ((Nat → Nat → Int32))
  | 0 => fun _ _ _ _ _ => none
  | n + 1 => fun D_0 v1 v3 v4 v5 => F_X0_draw_s39 (F_X0_draw_L39 n) D_0 v1 v3 v4 v5
def F_X0_draw_b28 (D_0 : Nat → Nat → Int32) (v1 : Int32) (v2 : Int32) (v3 : Int32) : Option ((Nat → Nat → Int32)) :=
  F_X0_draw_L39 FU D_0 v1 v3 v2 (if (nI 16) < v3 then (nI 16) else v3)
def F_X0_draw_s3 (K3 : (Nat → Nat → Int32) → Int32 → Int32 → Int32 → Int32 → Option ((Nat → Nat → Int32))) (D_0 : Nat → Nat → Int32) (v1 : Int32) (v2 : Int32) (v3 : Int32) (v4 : Int32) : Option ((Nat → Nat → Int32)) :=
  if (nI 16) ≤ v4 then F_X0_draw_b28 D_0 v1 v2 v3 else wrA D_0 0 16 v4 v4 fun D_0u18 => K3 D_0u18 v1 v2 v3 (v4 + (nI 1))
def F_X0_draw_L3 : Nat → (Nat → Nat → Int32) → Int32 → Int32 → Int32 → Int32 → Option ((Nat → Nat → Int32))
  | 0 => fun _ _ _ _ _ => none
  | n + 1 => fun D_0 v1 v2 v3 v4 => F_X0_draw_s3 (F_X0_draw_L3 n) D_0 v1 v2 v3 v4
def F_X0_draw (D_0 : Nat → Nat → Int32) (v1 : Int32) (v2 : Int32) (v3 : Int32) : Option ((Nat → Nat → Int32)) :=
  F_X0_draw_L3 FU D_0 v1 v2 v3 (nI 0)
def F_X1_inColumns (r_0 : Nat → Int32) : Option (Int32) :=
  cal1 (F_X1_cards r_0) fun x1 => some (x1 - (r_0 6))
def F_X0_takenAt (D_0 : Nat → Nat → Int32) (v1 : Int32) : Option (Int32) :=
  cal1 (F_X5_at (D_0 1) 16 v1) fun x1 => some x1
def F_X4_lay_b119 (r_1 : Nat → Int32) (D_2 : Nat → Nat → Int32) (K40 : (Nat → Nat → Int32) → Int32 → Int32 → Option ((Nat → Nat → Int32))) (T_0 : Nat → Nat → Int32) (v3 : Int32) (v4 : Int32) (v5 : Int32) : Option ((Nat → Nat → Int32)) :=
  cal1 (F_X0_takenAt D_2 v4) fun x1 => cal1 (F_X0_takenAt D_2 v4) fun x3 => cal1 (F_X4_layOn T_0 x1 x3 v5) fun T_0u5 => K40 T_0u5 v3 (v4 + (nI 1))
def F_X4_lay_b74 (r_1 : Nat → Int32) (D_2 : Nat → Nat → Int32) (K40 : (Nat → Nat → Int32) → Int32 → Int32 → Option ((Nat → Nat → Int32))) (T_0 : Nat → Nat → Int32) (v3 : Int32) (v4 : Int32) (s0 : Int32) : Option ((Nat → Nat → Int32)) :=
  cal1 (F_X4_topOf T_0 s0) fun x7 => if (r_1 8) = nI 0 then F_X4_lay_b119 r_1 D_2 K40 T_0 v3 v4 s0 else if s0 = (nI 9) then F_X4_lay_b119 r_1 D_2 K40 T_0 v3 v4 s0 else cal1 (F_X5_isCard x7) fun x11 => if x11 = nI 0 then F_X4_lay_b119 r_1 D_2 K40 T_0 v3 v4 s0 else bnd (st2 T_0 0 5 ((T_0 0 5) ||| ((nI 1) <<< (x7 &&& 31)))) fun T_0u14 => F_X4_lay_b119 r_1 D_2 K40 T_0u14 v3 v4 s0
def F_X4_lay_s40 (r_1 : Nat → Int32) (D_2 : Nat → Nat → Int32) (K40 : (Nat → Nat → Int32) → Int32 → Int32 → Option ((Nat → Nat → Int32))) (T_0 : Nat → Nat → Int32) (v3 : Int32) (v4 : Int32) : Option ((Nat → Nat → Int32)) :=
  cal1 (F_X1_cards r_1) fun x15 => if x15 ≤ v4 then some T_0 else if v3 ≤ v4 then F_X4_lay_b74 r_1 D_2 K40 T_0 v3 v4 (nI 9) else if (r_1 2) ≤ nI 0 then F_X4_lay_b74 r_1 D_2 K40 T_0 v3 v4 (nI 9) else nz (r_1 2) <| F_X4_lay_b74 r_1 D_2 K40 T_0 v3 v4 (v4 - v4 / (r_1 2) * (r_1 2))
def F_X4_lay_L40 (r_1 : Nat → Int32) (D_2 : Nat → Nat → Int32) : Nat → (Nat → Nat → Int32) → Int32 → Int32 → Option ((Nat → Nat → Int32))
  | 0 => fun _ _ _ => none
  | n + 1 => fun T_0 v3 v4 => F_X4_lay_s40 r_1 D_2 (F_X4_lay_L40 r_1 D_2 n) T_0 v3 v4
def F_X4_lay (r_1 : Nat → Int32) (D_2 : Nat → Nat → Int32) (T_0 : Nat → Nat → Int32) : Option ((Nat → Nat → Int32)) :=
  bnd (st2 T_0 0 5 (nI 0)) fun T_0u21 => bnd (st2 T_0u21 0 6 (nI 0)) fun T_0u22 => cal1 (F_J7_fill_53178 16 (T_0u22 1) (nI 20)) fun f23 => bnd (setc T_0u22 1 f23) fun T_0u25 => cal1 (F_J7_fill_53178 10 (T_0u25 2) (-1)) fun f26 => bnd (setc T_0u25 2 f26) fun T_0u28 => cal1 (F_X1_inColumns r_1) fun x29 => F_X4_lay_L40 r_1 D_2 FU T_0u28 x29 (nI 0)
def F_X5_dealNumber (r_0_rules : Nat → Int32) (P_0 : Nat → Int32) (D_0_dealt : Nat → Nat → Int32) (T_0_now : Nat → Nat → Int32) (v1 : Int32) (v2 : Int32) : Option ((Nat → Int32) × (Nat → Nat → Int32) × (Nat → Nat → Int32)) :=
  cal1 (F_X1_cards r_0_rules) fun x1 => cal1 (F_X0_draw D_0_dealt v1 v2 x1) fun D_0_dealtu3 => cal1 (F_X4_lay r_0_rules D_0_dealtu3 T_0_now) fun T_0_nowu5 => bnd (upd P_0 7 (nI 0)) fun P_0u7 => bnd (upd P_0u7 8 (nI 0)) fun P_0u8 => some (P_0u8, D_0_dealtu3, T_0_nowu5)
def F_X5_moneyOfDeal (P_0 : Nat → Int32) (T_0_now : Nat → Nat → Int32) (r_0_rules : Nat → Int32) : Option (Int32) :=
  cal1 (F_X4_cardsUp T_0_now r_0_rules) fun x1 => some ((((nI 5) * x1) - (P_0 7)) - ((nI 2) * (P_0 8)))
def F_X5_isWithin (v0 : Int32) (v1 : Int32) (v2 : Int32) : Option (Int32) :=
  if v0 < v1 then zb (nI 0) <| some (nI 0) else if v2 < v0 then zb (nI 0) <| some (nI 0) else zb (nI 1) <| some (nI 1)
def F_X6_thrown (I_0 : Nat → Nat → Int32) (L_0 : Nat → Nat → Int64) : Option (Int32) :=
  some (I_0 0 0)
def F_X6_goesWell (L_0 : Nat → Nat → Int64) (I_0 : Nat → Nat → Int32) (v1 : Int32) : Option (Int32 × (Nat → Nat → Int32)) :=
  bnd (st2 I_0 0 0 v1) fun I_0u1 => if v1 = nI 0 then zb (nI 1) <| some ((nI 1), I_0u1) else zb (nI 0) <| some ((nI 0), I_0u1)
def F_X6_in (v0 : Int32) (v1 : Int32) (v2 : Int32) : Option (Int32) :=
  if v0 < v1 then zb (nI 0) <| some (nI 0) else if v2 < v0 then zb (nI 0) <| some (nI 0) else zb (nI 1) <| some (nI 1)
def F_X6_takeRules_b100 (L_0 : Nat → Nat → Int64) (I_0 : Nat → Nat → Int32) (s1 : Int32) (s2 : Int32) : Option ((Nat → Nat → Int32)) :=
  wrA I_0 1 9 s1 s2 fun I_0u1 => some I_0u1
def F_X6_takeRules (L_0 : Nat → Nat → Int64) (I_0 : Nat → Nat → Int32) : Option ((Nat → Nat → Int32)) :=
  wrA I_0 1 9 (nI 0) (I_0 0 1) fun I_0u3 => wrA I_0u3 1 9 (nI 1) (I_0u3 0 2) fun I_0u5 => wrA I_0u5 1 9 (nI 2) (I_0u5 0 3) fun I_0u7 => wrA I_0u7 1 9 (nI 3) (I_0u7 0 4) fun I_0u9 => wrA I_0u9 1 9 (nI 4) (I_0u9 0 5) fun I_0u11 => wrA I_0u11 1 9 (nI 5) (I_0u11 0 6) fun I_0u13 => wrA I_0u13 1 9 (nI 6) (I_0u13 0 7) fun I_0u15 => wrA I_0u15 1 9 (nI 7) (I_0u15 0 8) fun I_0u17 => if (I_0u17 0 9) = nI 0 then F_X6_takeRules_b100 L_0 I_0u17 (nI 8) (nI 0) else F_X6_takeRules_b100 L_0 I_0u17 (nI 8) (nI 1)
def F_X6_deck_b57 (L_0 : Nat → Nat → Int64) (I_0 : Nat → Nat → Int32) (v1 : Int32) (v2 : Int32) (s1 : Int32) : Option (Int32 × (Nat → Nat → Int32)) :=
  cal2 (F_X6_goesWell L_0 I_0 s1) fun x1 I_0u2 => if x1 = nI 0 then some ((nI 0), I_0u2) else bnd (st2 I_0u2 0 1 v1) fun I_0u5 => bnd (st2 I_0u5 0 2 v2) fun I_0u6 => some ((v1 * v2), I_0u6)
def F_X6_deck_b46 (L_0 : Nat → Nat → Int64) (I_0 : Nat → Nat → Int32) (v1 : Int32) (v2 : Int32) (s0 : Int32) : Option (Int32 × (Nat → Nat → Int32)) :=
  if s0 = nI 0 then F_X6_deck_b57 L_0 I_0 v1 v2 (nI 1) else F_X6_deck_b57 L_0 I_0 v1 v2 (nI 0)
def F_X6_deck (L_0 : Nat → Nat → Int64) (I_0 : Nat → Nat → Int32) (v1 : Int32) (v2 : Int32) : Option (Int32 × (Nat → Nat → Int32)) :=
  cal1 (F_X6_in v1 (nI 1) (nI 4)) fun x8 => if x8 = nI 0 then F_X6_deck_b46 L_0 I_0 v1 v2 (nI 0) else cal1 (F_X6_in v2 (nI 1) (nI 6)) fun x11 => if x11 = nI 0 then F_X6_deck_b46 L_0 I_0 v1 v2 (nI 0) else cal1 (F_X6_in (v1 * v2) (nI 2) (nI 16)) fun x14 => if x14 = nI 0 then F_X6_deck_b46 L_0 I_0 v1 v2 (nI 0) else if (v1 * v2) ≤ (I_0 0 7) then F_X6_deck_b46 L_0 I_0 v1 v2 (nI 0) else F_X6_deck_b46 L_0 I_0 v1 v2 (nI 1)
def F_X6_table_b43 (L_0 : Nat → Nat → Int64) (I_0 : Nat → Nat → Int32) (v1 : Int32) (v2 : Int32) (v3 : Int32) (v4 : Int32) (s1 : Int32) : Option ((Nat → Nat → Int32)) :=
  cal2 (F_X6_goesWell L_0 I_0 s1) fun x1 I_0u2 => if x1 = nI 0 then some I_0u2 else bnd (st2 I_0u2 0 3 v1) fun I_0u5 => bnd (st2 I_0u5 0 4 v2) fun I_0u6 => bnd (st2 I_0u6 0 5 v3) fun I_0u7 => bnd (st2 I_0u7 0 6 v4) fun I_0u8 => some I_0u8
def F_X6_table (L_0 : Nat → Nat → Int64) (I_0 : Nat → Nat → Int32) (v1 : Int32) (v2 : Int32) (v3 : Int32) (v4 : Int32) : Option ((Nat → Nat → Int32)) :=
  cal1 (F_X6_in v1 (nI 1) (nI 5)) fun x9 => if x9 = nI 0 then F_X6_table_b43 L_0 I_0 v1 v2 v3 v4 (nI 1) else cal1 (F_X6_in v2 (nI 0) (nI 2)) fun x12 => if x12 = nI 0 then F_X6_table_b43 L_0 I_0 v1 v2 v3 v4 (nI 1) else cal1 (F_X6_in v3 (nI 0) (nI 2)) fun x15 => if x15 = nI 0 then F_X6_table_b43 L_0 I_0 v1 v2 v3 v4 (nI 1) else cal1 (F_X6_in v4 (nI 0) (nI 2)) fun x18 => if x18 = nI 0 then F_X6_table_b43 L_0 I_0 v1 v2 v3 v4 (nI 1) else F_X6_table_b43 L_0 I_0 v1 v2 v3 v4 (nI 0)
def F_X6_stock_b38 (L_0 : Nat → Nat → Int64) (I_0 : Nat → Nat → Int32) (v1 : Int32) (v2 : Int32) (v3 : Int32) (s1 : Int32) : Option ((Nat → Nat → Int32)) :=
  cal2 (F_X6_goesWell L_0 I_0 s1) fun x1 I_0u2 => if x1 = nI 0 then some I_0u2 else bnd (st2 I_0u2 0 7 v1) fun I_0u5 => bnd (st2 I_0u5 0 8 v2) fun I_0u6 => zb v3 <| bnd (st2 I_0u6 0 9 v3) fun I_0u7 => some I_0u7
def F_X6_stock (L_0 : Nat → Nat → Int64) (I_0 : Nat → Nat → Int32) (v1 : Int32) (v2 : Int32) (v3 : Int32) : Option ((Nat → Nat → Int32)) :=
  cal1 (F_X6_in v1 (nI 0) (nI 8)) fun x9 => if x9 = nI 0 then F_X6_stock_b38 L_0 I_0 v1 v2 v3 (nI 1) else cal1 (F_X6_in v2 (nI 0) (nI 2)) fun x12 => if x12 = nI 0 then F_X6_stock_b38 L_0 I_0 v1 v2 v3 (nI 1) else if ((I_0 0 1) * (I_0 0 2)) ≤ v1 then F_X6_stock_b38 L_0 I_0 v1 v2 v3 (nI 1) else F_X6_stock_b38 L_0 I_0 v1 v2 v3 (nI 0)
def F_X6_next_b25 (s0 : Int64) : Option (Int64) :=
  nzL (lN 2147483648) <| some (s0 - s0 / (lN 2147483648) * (lN 2147483648))
def F_X6_next (v0 : Int32) (v1 : Int64) : Option (Int64) :=
  if v0 = nI 0 then F_X6_next_b25 ((v1 * (lN 214013)) + (lN 2531011)) else F_X6_next_b25 ((v1 * (lN 1103515245)) + (lN 12345))
def F_X6_clear_b54 (I_0 : Nat → Nat → Int32) (L_0 : Nat → Nat → Int64) : Option ((Nat → Nat → Int32) × (Nat → Nat → Int64)) :=
  wrA I_0 5 2 (nI 0) (-1) fun I_0u1 => wrA I_0u1 5 2 (nI 1) (-1) fun I_0u3 => bnd (st2 I_0u3 0 21 (nI 0)) fun I_0u5 => bnd (st2 I_0u5 0 23 (nI 0)) fun I_0u6 => bnd (st2 I_0u6 0 24 (nI 0)) fun I_0u7 => some (I_0u7, L_0)
def F_X6_clear_s36 (K36 : (Nat → Nat → Int32) → (Nat → Nat → Int64) → Int32 → Option ((Nat → Nat → Int32) × (Nat → Nat → Int64))) (I_0 : Nat → Nat → Int32) (L_0 : Nat → Nat → Int64) (v1 : Int32) : Option ((Nat → Nat → Int32) × (Nat → Nat → Int64)) :=
  if (nI 4) ≤ v1 then F_X6_clear_b54 I_0 L_0 else wrA I_0 6 4 v1 (nI 0) fun I_0u9 => K36 I_0u9 L_0 (v1 + (nI 1))
def F_X6_clear_L36 : Nat → (Nat → Nat → Int32) → (Nat → Nat → Int64) → Int32 → Option ((Nat → Nat → Int32) × (Nat → Nat → Int64))
  | 0 => fun _ _ _ => none
  | n + 1 => fun I_0 L_0 v1 => F_X6_clear_s36 (F_X6_clear_L36 n) I_0 L_0 v1
def F_X6_clear_s2 (K2 : (Nat → Nat → Int32) → (Nat → Nat → Int64) → Int32 → Option ((Nat → Nat → Int32) × (Nat → Nat → Int64))) (I_0 : Nat → Nat → Int32) (L_0 : Nat → Nat → Int64) (v1 : Int32) : Option ((Nat → Nat → Int32) × (Nat → Nat → Int64)) :=
  if (nI 5) ≤ v1 then F_X6_clear_L36 FU I_0 L_0 (nI 0) else wrJ L_0 0 5 v1 (lN 0) fun L_0u12 => wrA I_0 3 5 v1 (nI 0) fun I_0u14 => wrA I_0u14 4 5 v1 (nI 0) fun I_0u16 => K2 I_0u16 L_0u12 (v1 + (nI 1))
def F_X6_clear_L2 : Nat → (Nat → Nat → Int32) → (Nat → Nat → Int64) → Int32 → Option ((Nat → Nat → Int32) × (Nat → Nat → Int64))
  | 0 => fun _ _ _ => none
  | n + 1 => fun I_0 L_0 v1 => F_X6_clear_s2 (F_X6_clear_L2 n) I_0 L_0 v1
def F_X6_clear (I_0 : Nat → Nat → Int32) (L_0 : Nat → Nat → Int64) : Option ((Nat → Nat → Int32) × (Nat → Nat → Int64)) :=
  F_X6_clear_L2 FU I_0 L_0 (nI 0)
def F_X6_push (I_0 : Nat → Nat → Int32) (L_0 : Nat → Nat → Int64) (v1 : Int32) (v2 : Int32) : Option ((Nat → Nat → Int32) × (Nat → Nat → Int64)) :=
  rdA (L_0 0) 5 v1 fun x1 => rdA (I_0 3) 5 v1 fun x3 => wrJ L_0 0 5 v1 (x1 ||| ((v2.toInt64) <<< ((((nI 4) * x3) : Int32).toInt64 &&& 63))) fun L_0u5 => rdA (I_0 3) 5 v1 fun x7 => wrA I_0 3 5 v1 (x7 + (nI 1)) fun I_0u9 => some (I_0u9, L_0u5)
def F_X6_lay_b232 (K181 : (Nat → Nat → Int32) → (Nat → Nat → Int64) → Int32 → Option ((Nat → Nat → Int32) × (Nat → Nat → Int64))) (I_0 : Nat → Nat → Int32) (L_0 : Nat → Nat → Int64) (v7 : Int32) (s1 : Int32) (s2 : Int32) : Option ((Nat → Nat → Int32) × (Nat → Nat → Int64)) :=
  wrA I_0 4 5 s1 s2 fun I_0u1 => K181 I_0u1 L_0 (v7 + (nI 1))
def F_X6_lay_s181 (K181 : (Nat → Nat → Int32) → (Nat → Nat → Int64) → Int32 → Option ((Nat → Nat → Int32) × (Nat → Nat → Int64))) (I_0 : Nat → Nat → Int32) (L_0 : Nat → Nat → Int64) (v7 : Int32) : Option ((Nat → Nat → Int32) × (Nat → Nat → Int64)) :=
  rdA (I_0 1) 9 (nI 2) fun x3 => if x3 ≤ v7 then some (I_0, L_0) else rdA (I_0 1) 9 (nI 8) fun x6 => if x6 = (nI 1) then rdA (I_0 3) 5 v7 fun x9 => if x9 ≤ nI 0 then F_X6_lay_b232 K181 I_0 L_0 v7 v7 (nI 0) else rdA (I_0 3) 5 v7 fun x12 => F_X6_lay_b232 K181 I_0 L_0 v7 v7 (x12 - (nI 1)) else F_X6_lay_b232 K181 I_0 L_0 v7 v7 (nI 0)
def F_X6_lay_L181 : Nat → (Nat → Nat → Int32) → (Nat → Nat → Int64) → Int32 → Option ((Nat → Nat → Int32) × (Nat → Nat → Int64))
  | 0 => fun _ _ _ => none
  | n + 1 => fun I_0 L_0 v7 => F_X6_lay_s181 (F_X6_lay_L181 n) I_0 L_0 v7
def F_X6_lay_s60 (K60 : (Nat → Nat → Int32) → (Nat → Nat → Int64) → Int32 → Int32 → Int64 → Int32 → Int32 → Option ((Nat → Nat → Int32) × (Nat → Nat → Int64))) (I_0 : Nat → Nat → Int32) (L_0 : Nat → Nat → Int64) (v1 : Int32) (v3 : Int32) (v4 : Int64) (v6 : Int32) (v7 : Int32) : Option ((Nat → Nat → Int32) × (Nat → Nat → Int64)) :=
  rdA (I_0 1) 9 (nI 6) fun x14 => if (v6 + x14) ≤ v7 then F_X6_lay_L181 FU I_0 L_0 (nI 0) else cal1 (F_X6_next v1 v4) fun x17 => nzL (lN 65536) <| nzL (lN 32768) <| nzL (v3.toInt64) <| rdA (I_0 9) 16 (((((x17 / (lN 65536)) - (x17 / (lN 65536)) / (lN 32768) * (lN 32768)) - ((x17 / (lN 65536)) - (x17 / (lN 65536)) / (lN 32768) * (lN 32768)) / (v3.toInt64) * (v3.toInt64)) : Int64).toInt32) fun x22 => rdA (I_0 9) 16 (v3 - (nI 1)) fun x24 => wrA I_0 9 16 (((((x17 / (lN 65536)) - (x17 / (lN 65536)) / (lN 32768) * (lN 32768)) - ((x17 / (lN 65536)) - (x17 / (lN 65536)) / (lN 32768) * (lN 32768)) / (v3.toInt64) * (v3.toInt64)) : Int64).toInt32) x24 fun I_0u26 => if v6 ≤ v7 then wrA I_0u26 8 8 (I_0u26 0 23) x22 fun I_0u29 => bnd (st2 I_0u29 0 23 ((I_0u29 0 23) + (nI 1))) fun I_0u31 => K60 I_0u31 L_0 v1 (v3 + (-1)) x17 v6 (v7 + (nI 1)) else rdA (I_0u26 1) 9 (nI 2) fun x32 => nz x32 <| cal2 (F_X6_push I_0u26 L_0 (v7 - v7 / x32 * x32) x22) fun I_0u35 L_0u36 => K60 I_0u35 L_0u36 v1 (v3 + (-1)) x17 v6 (v7 + (nI 1))
def F_X6_lay_L60 : Nat → (Nat → Nat → Int32) → (Nat → Nat → Int64) → Int32 → Int32 → Int64 → Int32 → Int32 → Option ((Nat → Nat → Int32) × (Nat → Nat → Int64))
  | 0 => fun _ _ _ _ _ _ _ => none
  | n + 1 => fun I_0 L_0 v1 v3 v4 v6 v7 => F_X6_lay_s60 (F_X6_lay_L60 n) I_0 L_0 v1 v3 v4 v6 v7
def F_X6_lay_b42 (I_0 : Nat → Nat → Int32) (L_0 : Nat → Nat → Int64) (v1 : Int32) (v2 : Int32) (v3 : Int32) : Option ((Nat → Nat → Int32) × (Nat → Nat → Int64)) :=
  rdA (I_0 1) 9 (nI 6) fun x38 => F_X6_lay_L60 FU I_0 L_0 v1 v3 (v2.toInt64) (v3 - x38) (nI 0)
def F_X6_lay_s21 (K21 : (Nat → Nat → Int32) → (Nat → Nat → Int64) → Int32 → Int32 → Int32 → Int32 → Option ((Nat → Nat → Int32) × (Nat → Nat → Int64))) (I_0 : Nat → Nat → Int32) (L_0 : Nat → Nat → Int64) (v1 : Int32) (v2 : Int32) (v3 : Int32) (v4 : Int32) : Option ((Nat → Nat → Int32) × (Nat → Nat → Int64)) :=
  if v3 ≤ v4 then F_X6_lay_b42 I_0 L_0 v1 v2 v3 else wrA I_0 9 16 v4 v4 fun I_0u41 => K21 I_0u41 L_0 v1 v2 v3 (v4 + (nI 1))
def F_X6_lay_L21 : Nat → (Nat → Nat → Int32) → (Nat → Nat → Int64) → Int32 → Int32 → Int32 → Int32 → Option ((Nat → Nat → Int32) × (Nat → Nat → Int64))
  | 0 => fun _ _ _ _ _ _ => none
  | n + 1 => fun I_0 L_0 v1 v2 v3 v4 => F_X6_lay_s21 (F_X6_lay_L21 n) I_0 L_0 v1 v2 v3 v4
def F_X6_lay (I_0 : Nat → Nat → Int32) (L_0 : Nat → Nat → Int64) (v1 : Int32) (v2 : Int32) : Option ((Nat → Nat → Int32) × (Nat → Nat → Int64)) :=
  cal2 (F_X6_clear I_0 L_0) fun I_0u43 L_0u44 => rdA (I_0u43 1) 9 (nI 0) fun x46 => rdA (I_0u43 1) 9 (nI 1) fun x48 => F_X6_lay_L21 FU I_0u43 L_0u44 v1 v2 (x46 * x48) (nI 0)
def F_X6_atHome (I_0 : Nat → Nat → Int32) (L_0 : Nat → Nat → Int64) : Option (Int32) :=
  rdA (I_0 6) 4 (nI 0) fun x1 => rdA (I_0 6) 4 (nI 1) fun x3 => rdA (I_0 6) 4 (nI 2) fun x5 => rdA (I_0 6) 4 (nI 3) fun x7 => some (((x1 + x3) + x5) + x7)
def F_X6_money (I_0 : Nat → Nat → Int32) (L_0 : Nat → Nat → Int64) : Option (Int32) :=
  cal1 (F_X6_atHome I_0 L_0) fun x1 => some ((((nI 5) * x1) - (I_0 0 13)) - ((nI 2) * (I_0 0 12)))
def F_X6_store_b241 (I_0 : Nat → Nat → Int32) (cc : Nat) (nn : Nat) (L_0 : Nat → Nat → Int64) (v2 : Int32) (v7 : Int64) : Option ((Nat → Nat → Int64)) :=
  wrJ L_0 cc nn (v2 + (nI 7)) v7 fun L_0u1 => some L_0u1
def F_X6_store_b232 (I_0 : Nat → Nat → Int32) (cc : Nat) (nn : Nat) (K163 : (Nat → Nat → Int64) → Int32 → Int64 → Int32 → Option ((Nat → Nat → Int64))) (L_0 : Nat → Nat → Int64) (v2 : Int32) (v9 : Int32) (s0 : Int64) (s1 : Int64) : Option ((Nat → Nat → Int64)) :=
  K163 L_0 v2 (s0 ||| s1) (v9 + (nI 1))
def F_X6_store_b198 (I_0 : Nat → Nat → Int32) (cc : Nat) (nn : Nat) (K163 : (Nat → Nat → Int64) → Int32 → Int64 → Int32 → Option ((Nat → Nat → Int64))) (L_0 : Nat → Nat → Int64) (v2 : Int32) (v9 : Int32) (s0 : Int64) (s1 : Int64) : Option ((Nat → Nat → Int64)) :=
  if (I_0 0 23) ≤ v9 then F_X6_store_b232 I_0 cc nn K163 L_0 v2 v9 (s0 ||| s1) (lN 0) else rdA (I_0 8) 8 v9 fun x4 => F_X6_store_b232 I_0 cc nn K163 L_0 v2 v9 (s0 ||| s1) ((x4.toInt64) <<< ((((nI 32) + ((nI 4) * v9)) : Int32).toInt64 &&& 63))
def F_X6_store_s163 (I_0 : Nat → Nat → Int32) (cc : Nat) (nn : Nat) (K163 : (Nat → Nat → Int64) → Int32 → Int64 → Int32 → Option ((Nat → Nat → Int64))) (L_0 : Nat → Nat → Int64) (v2 : Int32) (v7 : Int64) (v9 : Int32) : Option ((Nat → Nat → Int64)) :=
  if (nI 8) ≤ v9 then F_X6_store_b241 I_0 cc nn L_0 v2 v7 else if (I_0 0 21) ≤ v9 then F_X6_store_b198 I_0 cc nn K163 L_0 v2 v9 v7 (lN 0) else rdA (I_0 7) 8 v9 fun x8 => F_X6_store_b198 I_0 cc nn K163 L_0 v2 v9 v7 ((x8.toInt64) <<< ((((nI 4) * v9) : Int32).toInt64 &&& 63))
def F_X6_store_L163 (I_0 : Nat → Nat → Int32) (cc : Nat) (nn : Nat) : Nat → (Nat → Nat → Int64) → Int32 → Int64 → Int32 → Option ((Nat → Nat → Int64))
  | 0 => fun _ _ _ _ => none
  | n + 1 => fun L_0 v2 v7 v9 => F_X6_store_s163 I_0 cc nn (F_X6_store_L163 I_0 cc nn n) L_0 v2 v7 v9
def F_X6_store_b149 (I_0 : Nat → Nat → Int32) (cc : Nat) (nn : Nat) (L_0 : Nat → Nat → Int64) (v2 : Int32) (v5 : Int64) : Option ((Nat → Nat → Int64)) :=
  wrJ L_0 cc nn (v2 + (nI 6)) v5 fun L_0u10 => F_X6_store_L163 I_0 cc nn FU L_0u10 v2 (lN 0) (nI 0)
def F_X6_store_s116 (I_0 : Nat → Nat → Int32) (cc : Nat) (nn : Nat) (K116 : (Nat → Nat → Int64) → Int32 → Int64 → Int32 → Option ((Nat → Nat → Int64))) (L_0 : Nat → Nat → Int64) (v2 : Int32) (v5 : Int64) (v7 : Int32) : Option ((Nat → Nat → Int64)) :=
  if (nI 4) ≤ v7 then F_X6_store_b149 I_0 cc nn L_0 v2 v5 else rdA (I_0 6) 4 v7 fun x13 => K116 L_0 v2 (v5 ||| ((x13.toInt64) <<< ((((nI 20) + ((nI 3) * v7)) : Int32).toInt64 &&& 63))) (v7 + (nI 1))
def F_X6_store_L116 (I_0 : Nat → Nat → Int32) (cc : Nat) (nn : Nat) : Nat → (Nat → Nat → Int64) → Int32 → Int64 → Int32 → Option ((Nat → Nat → Int64))
  | 0 => fun _ _ _ _ => none
  | n + 1 => fun L_0 v2 v5 v7 => F_X6_store_s116 I_0 cc nn (F_X6_store_L116 I_0 cc nn n) L_0 v2 v5 v7
def F_X6_store_b57 (I_0 : Nat → Nat → Int32) (cc : Nat) (nn : Nat) (L_0 : Nat → Nat → Int64) (v2 : Int32) (v3 : Int64) : Option ((Nat → Nat → Int64)) :=
  wrJ L_0 cc nn (v2 + (nI 5)) v3 fun L_0u15 => rdA (I_0 5) 2 (nI 0) fun x17 => rdA (I_0 5) 2 (nI 1) fun x19 => F_X6_store_L116 I_0 cc nn FU L_0u15 v2 ((((((x17.toInt64) + (lN 1)) ||| (((x19.toInt64) + (lN 1)) <<< (((nI 5) : Int32).toInt64 &&& 63))) ||| ((((I_0 0 24) : Int32).toInt64) <<< (((nI 10) : Int32).toInt64 &&& 63))) ||| ((((I_0 0 21) : Int32).toInt64) <<< (((nI 12) : Int32).toInt64 &&& 63))) ||| ((((I_0 0 23) : Int32).toInt64) <<< (((nI 16) : Int32).toInt64 &&& 63))) (nI 0)
def F_X6_store_s5 (I_0 : Nat → Nat → Int32) (cc : Nat) (nn : Nat) (K5 : (Nat → Nat → Int64) → Int32 → Int64 → Int32 → Option ((Nat → Nat → Int64))) (L_0 : Nat → Nat → Int64) (v2 : Int32) (v3 : Int64) (v5 : Int32) : Option ((Nat → Nat → Int64)) :=
  if (nI 5) ≤ v5 then F_X6_store_b57 I_0 cc nn L_0 v2 v3 else rdA (L_0 0) 5 v5 fun x22 => wrJ L_0 cc nn (v2 + v5) x22 fun L_0u24 => rdA (I_0 3) 5 v5 fun x26 => rdA (I_0 4) 5 v5 fun x28 => K5 L_0u24 v2 (v3 ||| ((((x26 ||| (x28 <<< ((nI 5) &&& 31))) : Int32).toInt64) <<< ((((nI 10) * v5) : Int32).toInt64 &&& 63))) (v5 + (nI 1))
def F_X6_store_L5 (I_0 : Nat → Nat → Int32) (cc : Nat) (nn : Nat) : Nat → (Nat → Nat → Int64) → Int32 → Int64 → Int32 → Option ((Nat → Nat → Int64))
  | 0 => fun _ _ _ _ => none
  | n + 1 => fun L_0 v2 v3 v5 => F_X6_store_s5 I_0 cc nn (F_X6_store_L5 I_0 cc nn n) L_0 v2 v3 v5
def F_X6_store (I_0 : Nat → Nat → Int32) (cc : Nat) (nn : Nat) (L_0 : Nat → Nat → Int64) (v2 : Int32) : Option ((Nat → Nat → Int64)) :=
  F_X6_store_L5 I_0 cc nn FU L_0 v2 (lN 0) (nI 0)
def F_X6_deal_b25 (I_0 : Nat → Nat → Int32) (L_0 : Nat → Nat → Int64) (v1 : Int32) (v2 : Int32) (s1 : Int32) : Option (Int32 × (Nat → Nat → Int32) × (Nat → Nat → Int64)) :=
  cal2 (F_X6_goesWell L_0 I_0 s1) fun x1 I_0u2 => if x1 = nI 0 then some ((nI 0), I_0u2, L_0) else cal1 (F_X6_money I_0u2 L_0) fun x5 => bnd (st2 I_0u2 0 14 ((I_0u2 0 14) + x5)) fun I_0u7 => cal1 (F_X6_takeRules L_0 I_0u7) fun I_0u8 => cal2 (F_X6_lay I_0u8 L_0 v1 v2) fun I_0u10 L_0u11 => bnd (st2 I_0u10 0 13 (nI 0)) fun I_0u13 => bnd (st2 I_0u13 0 12 (nI 0)) fun I_0u14 => cal1 (F_X6_store I_0u14 1 1616 L_0u11 (nI 0)) fun L_0u15 => rdA (I_0u14 1) 9 (nI 0) fun x17 => rdA (I_0u14 1) 9 (nI 1) fun x19 => rdA (I_0u14 1) 9 (nI 6) fun x21 => some (((x17 * x19) - x21), I_0u14, L_0u15)
def F_X6_deal (I_0 : Nat → Nat → Int32) (L_0 : Nat → Nat → Int64) (v1 : Int32) (v2 : Int32) : Option (Int32 × (Nat → Nat → Int32) × (Nat → Nat → Int64)) :=
  cal1 (F_X6_in v1 (nI 0) (nI 1)) fun x23 => if x23 = nI 0 then F_X6_deal_b25 I_0 L_0 v1 v2 (nI 1) else cal1 (F_X6_in v2 (nI 0) (nI 1000000)) fun x26 => if x26 = nI 0 then F_X6_deal_b25 I_0 L_0 v1 v2 (nI 1) else F_X6_deal_b25 I_0 L_0 v1 v2 (nI 0)
def F_X6_load_s177 (cc : Nat) (nn : Nat) (K177 : (Nat → Nat → Int32) → (Nat → Nat → Int64) → Int32 → Int32 → Option ((Nat → Nat → Int32) × (Nat → Nat → Int64))) (I_0 : Nat → Nat → Int32) (L_0 : Nat → Nat → Int64) (v2 : Int32) (v5 : Int32) : Option ((Nat → Nat → Int32) × (Nat → Nat → Int64)) :=
  if (nI 8) ≤ v5 then some (I_0, L_0) else rdA (L_0 cc) nn (v2 + (nI 7)) fun x2 => wrA I_0 7 8 v5 (((((x2.toUInt64 >>> ((((nI 4) * v5) : Int32).toInt64.toUInt64 &&& Int64.toUInt64 63)).toInt64) &&& (lN 15)) : Int64).toInt32) fun I_0u4 => rdA (L_0 cc) nn (v2 + (nI 7)) fun x6 => wrA I_0u4 8 8 v5 (((((x6.toUInt64 >>> ((((nI 32) + ((nI 4) * v5)) : Int32).toInt64.toUInt64 &&& Int64.toUInt64 63)).toInt64) &&& (lN 15)) : Int64).toInt32) fun I_0u8 => K177 I_0u8 L_0 v2 (v5 + (nI 1))
def F_X6_load_L177 (cc : Nat) (nn : Nat) : Nat → (Nat → Nat → Int32) → (Nat → Nat → Int64) → Int32 → Int32 → Option ((Nat → Nat → Int32) × (Nat → Nat → Int64))
  | 0 => fun _ _ _ _ => none
  | n + 1 => fun I_0 L_0 v2 v5 => F_X6_load_s177 cc nn (F_X6_load_L177 cc nn n) I_0 L_0 v2 v5
def F_X6_load_s141 (cc : Nat) (nn : Nat) (K141 : (Nat → Nat → Int32) → (Nat → Nat → Int64) → Int32 → Int64 → Int32 → Option ((Nat → Nat → Int32) × (Nat → Nat → Int64))) (I_0 : Nat → Nat → Int32) (L_0 : Nat → Nat → Int64) (v2 : Int32) (v3 : Int64) (v5 : Int32) : Option ((Nat → Nat → Int32) × (Nat → Nat → Int64)) :=
  if (nI 4) ≤ v5 then F_X6_load_L177 cc nn FU I_0 L_0 v2 (nI 0) else wrA I_0 6 4 v5 (((((v3.toUInt64 >>> ((((nI 20) + ((nI 3) * v5)) : Int32).toInt64.toUInt64 &&& Int64.toUInt64 63)).toInt64) &&& (lN 7)) : Int64).toInt32) fun I_0u11 => K141 I_0u11 L_0 v2 v3 (v5 + (nI 1))
def F_X6_load_L141 (cc : Nat) (nn : Nat) : Nat → (Nat → Nat → Int32) → (Nat → Nat → Int64) → Int32 → Int64 → Int32 → Option ((Nat → Nat → Int32) × (Nat → Nat → Int64))
  | 0 => fun _ _ _ _ _ => none
  | n + 1 => fun I_0 L_0 v2 v3 v5 => F_X6_load_s141 cc nn (F_X6_load_L141 cc nn n) I_0 L_0 v2 v3 v5
def F_X6_load_b62 (cc : Nat) (nn : Nat) (I_0 : Nat → Nat → Int32) (L_0 : Nat → Nat → Int64) (v2 : Int32) : Option ((Nat → Nat → Int32) × (Nat → Nat → Int64)) :=
  rdA (L_0 cc) nn (v2 + (nI 6)) fun x13 => wrA I_0 5 2 (nI 0) ((((x13 &&& (lN 31)) : Int64).toInt32) - (nI 1)) fun I_0u15 => wrA I_0u15 5 2 (nI 1) ((((((x13.toUInt64 >>> (((nI 5) : Int32).toInt64.toUInt64 &&& Int64.toUInt64 63)).toInt64) &&& (lN 31)) : Int64).toInt32) - (nI 1)) fun I_0u17 => bnd (st2 I_0u17 0 24 (((((x13.toUInt64 >>> (((nI 10) : Int32).toInt64.toUInt64 &&& Int64.toUInt64 63)).toInt64) &&& (lN 3)) : Int64).toInt32)) fun I_0u19 => bnd (st2 I_0u19 0 21 (((((x13.toUInt64 >>> (((nI 12) : Int32).toInt64.toUInt64 &&& Int64.toUInt64 63)).toInt64) &&& (lN 15)) : Int64).toInt32)) fun I_0u20 => bnd (st2 I_0u20 0 23 (((((x13.toUInt64 >>> (((nI 16) : Int32).toInt64.toUInt64 &&& Int64.toUInt64 63)).toInt64) &&& (lN 15)) : Int64).toInt32)) fun I_0u21 => F_X6_load_L141 cc nn FU I_0u21 L_0 v2 x13 (nI 0)
def F_X6_load_s2 (cc : Nat) (nn : Nat) (K2 : (Nat → Nat → Int32) → (Nat → Nat → Int64) → Int32 → Int32 → Option ((Nat → Nat → Int32) × (Nat → Nat → Int64))) (I_0 : Nat → Nat → Int32) (L_0 : Nat → Nat → Int64) (v2 : Int32) (v3 : Int32) : Option ((Nat → Nat → Int32) × (Nat → Nat → Int64)) :=
  if (nI 5) ≤ v3 then F_X6_load_b62 cc nn I_0 L_0 v2 else rdA (L_0 cc) nn (v2 + v3) fun x23 => wrJ L_0 0 5 v3 x23 fun L_0u25 => rdA (L_0u25 cc) nn (v2 + (nI 5)) fun x27 => wrA I_0 3 5 v3 ((((((x27.toUInt64 >>> ((((nI 10) * v3) : Int32).toInt64.toUInt64 &&& Int64.toUInt64 63)).toInt64) &&& (lN 1023)) : Int64).toInt32) &&& (nI 31)) fun I_0u29 => wrA I_0u29 4 5 v3 ((((((x27.toUInt64 >>> ((((nI 10) * v3) : Int32).toInt64.toUInt64 &&& Int64.toUInt64 63)).toInt64) &&& (lN 1023)) : Int64).toInt32) >>> ((nI 5) &&& 31)) fun I_0u31 => K2 I_0u31 L_0u25 v2 (v3 + (nI 1))
def F_X6_load_L2 (cc : Nat) (nn : Nat) : Nat → (Nat → Nat → Int32) → (Nat → Nat → Int64) → Int32 → Int32 → Option ((Nat → Nat → Int32) × (Nat → Nat → Int64))
  | 0 => fun _ _ _ _ => none
  | n + 1 => fun I_0 L_0 v2 v3 => F_X6_load_s2 cc nn (F_X6_load_L2 cc nn n) I_0 L_0 v2 v3
def F_X6_load (cc : Nat) (nn : Nat) (I_0 : Nat → Nat → Int32) (L_0 : Nat → Nat → Int64) (v2 : Int32) : Option ((Nat → Nat → Int32) × (Nat → Nat → Int64)) :=
  F_X6_load_L2 cc nn FU I_0 L_0 v2 (nI 0)
def F_X6_numberOf_b123 (I_0 : Nat → Nat → Int32) (L_0 : Nat → Nat → Int64) (v2 : Int32) : Option (Int32 × (Nat → Nat → Int32) × (Nat → Nat → Int64)) :=
  cal2 (F_X6_load 2 8 I_0 L_0 (nI 0)) fun I_0u1 L_0u2 => some (v2, I_0u1, L_0u2)
def F_X6_numberOf_b106 (K38 : (Nat → Nat → Int32) → (Nat → Nat → Int64) → Int32 → Int32 → Int32 → Option (Int32 × (Nat → Nat → Int32) × (Nat → Nat → Int64))) (I_0 : Nat → Nat → Int32) (L_0 : Nat → Nat → Int64) (v1 : Int32) (v2 : Int32) (v3 : Int32) (v4 : Int32) : Option (Int32 × (Nat → Nat → Int32) × (Nat → Nat → Int64)) :=
  if v4 = nI 0 then K38 I_0 L_0 v1 v2 (v3 + (-1)) else K38 I_0 L_0 v1 v3 (v3 + (-1))
def F_X6_numberOf_s63 (K38 : (Nat → Nat → Int32) → (Nat → Nat → Int64) → Int32 → Int32 → Int32 → Option (Int32 × (Nat → Nat → Int32) × (Nat → Nat → Int64))) (K63 : (Nat → Nat → Int32) → (Nat → Nat → Int64) → Int32 → Int32 → Int32 → Int32 → Int32 → Option (Int32 × (Nat → Nat → Int32) × (Nat → Nat → Int64))) (I_0 : Nat → Nat → Int32) (L_0 : Nat → Nat → Int64) (v1 : Int32) (v2 : Int32) (v3 : Int32) (v4 : Int32) (v5 : Int32) : Option (Int32 × (Nat → Nat → Int32) × (Nat → Nat → Int64)) :=
  if (nI 8) ≤ v5 then F_X6_numberOf_b106 K38 I_0 L_0 v1 v2 v3 v4 else if v4 = nI 0 then K63 I_0 L_0 v1 v2 v3 (nI 0) (v5 + (nI 1)) else rdA (L_0 3) 3216 v5 fun x7 => rdA (L_0 1) 1616 v5 fun x9 => if (lg_cmp x7 x9) = nI 0 then K63 I_0 L_0 v1 v2 v3 (nI 1) (v5 + (nI 1)) else K63 I_0 L_0 v1 v2 v3 (nI 0) (v5 + (nI 1))
def F_X6_numberOf_L63 (K38 : (Nat → Nat → Int32) → (Nat → Nat → Int64) → Int32 → Int32 → Int32 → Option (Int32 × (Nat → Nat → Int32) × (Nat → Nat → Int64))) : Nat → (Nat → Nat → Int32) → (Nat → Nat → Int64) → Int32 → Int32 → Int32 → Int32 → Int32 → Option (Int32 × (Nat → Nat → Int32) × (Nat → Nat → Int64))
  | 0 => fun _ _ _ _ _ _ _ => none
  | n + 1 => fun I_0 L_0 v1 v2 v3 v4 v5 => F_X6_numberOf_s63 K38 (F_X6_numberOf_L63 K38 n) I_0 L_0 v1 v2 v3 v4 v5
def F_X6_numberOf_s38 (K38 : (Nat → Nat → Int32) → (Nat → Nat → Int64) → Int32 → Int32 → Int32 → Option (Int32 × (Nat → Nat → Int32) × (Nat → Nat → Int64))) (I_0 : Nat → Nat → Int32) (L_0 : Nat → Nat → Int64) (v1 : Int32) (v2 : Int32) (v3 : Int32) : Option (Int32 × (Nat → Nat → Int32) × (Nat → Nat → Int64)) :=
  if v3 < nI 0 then F_X6_numberOf_b123 I_0 L_0 v2 else cal2 (F_X6_lay I_0 L_0 v1 v3) fun I_0u13 L_0u14 => cal1 (F_X6_store I_0u13 3 3216 L_0u14 (nI 0)) fun L_0u16 => F_X6_numberOf_L63 K38 FU I_0u13 L_0u16 v1 v2 v3 (nI 1) (nI 0)
def F_X6_numberOf_L38 : Nat → (Nat → Nat → Int32) → (Nat → Nat → Int64) → Int32 → Int32 → Int32 → Option (Int32 × (Nat → Nat → Int32) × (Nat → Nat → Int64))
  | 0 => fun _ _ _ _ _ => none
  | n + 1 => fun I_0 L_0 v1 v2 v3 => F_X6_numberOf_s38 (F_X6_numberOf_L38 n) I_0 L_0 v1 v2 v3
def F_X6_numberOf_b15 (I_0 : Nat → Nat → Int32) (L_0 : Nat → Nat → Int64) (v1 : Int32) (s1 : Int32) : Option (Int32 × (Nat → Nat → Int32) × (Nat → Nat → Int64)) :=
  cal2 (F_X6_goesWell L_0 I_0 s1) fun x18 I_0u19 => if x18 = nI 0 then some ((nI 0), I_0u19, L_0) else cal1 (F_X6_store I_0u19 2 8 L_0 (nI 0)) fun L_0u22 => F_X6_numberOf_L38 FU I_0u19 L_0u22 v1 (-1) (nI 500)
def F_X6_numberOf (I_0 : Nat → Nat → Int32) (L_0 : Nat → Nat → Int64) (v1 : Int32) : Option (Int32 × (Nat → Nat → Int32) × (Nat → Nat → Int64)) :=
  cal1 (F_X6_in v1 (nI 0) (nI 1)) fun x24 => if x24 = nI 0 then F_X6_numberOf_b15 I_0 L_0 v1 (nI 1) else F_X6_numberOf_b15 I_0 L_0 v1 (nI 0)
def F_X6_cardAt (I_0 : Nat → Nat → Int32) (L_0 : Nat → Nat → Int64) (v1 : Int32) (v2 : Int32) : Option (Int32) :=
  rdA (L_0 0) 5 v1 fun x1 => some (((((x1.toUInt64 >>> ((((nI 4) * v2) : Int32).toInt64.toUInt64 &&& Int64.toUInt64 63)).toInt64) &&& (lN 15)) : Int64).toInt32)
def F_X6_pop_b93 (I_0 : Nat → Nat → Int32) (L_0 : Nat → Nat → Int64) (v2 : Int32) (s1 : Int32) (s2 : Int32) : Option (Int32 × (Nat → Nat → Int32) × (Nat → Nat → Int64)) :=
  wrA I_0 4 5 s1 s2 fun I_0u1 => some (v2, I_0u1, L_0)
def F_X6_pop_b87 (I_0 : Nat → Nat → Int32) (L_0 : Nat → Nat → Int64) (v1 : Int32) (v2 : Int32) (s1 : Int32) : Option (Int32 × (Nat → Nat → Int32) × (Nat → Nat → Int64)) :=
  rdA (I_0 4) 5 v1 fun x3 => F_X6_pop_b93 I_0 L_0 v2 s1 x3
def F_X6_pop (I_0 : Nat → Nat → Int32) (L_0 : Nat → Nat → Int64) (v1 : Int32) : Option (Int32 × (Nat → Nat → Int32) × (Nat → Nat → Int64)) :=
  rdA (I_0 3) 5 v1 fun x5 => wrA I_0 3 5 v1 (x5 - (nI 1)) fun I_0u7 => rdA (I_0u7 3) 5 v1 fun x9 => cal1 (F_X6_cardAt I_0u7 L_0 v1 x9) fun x11 => rdA (L_0 0) 5 v1 fun x13 => rdA (I_0u7 3) 5 v1 fun x15 => wrJ L_0 0 5 v1 (x13 &&& (((lN 15) <<< ((((nI 4) * x15) : Int32).toInt64 &&& 63)) ^^^ (-1))) fun L_0u17 => rdA (I_0u7 3) 5 v1 fun x19 => if x19 ≤ nI 0 then F_X6_pop_b87 I_0u7 L_0u17 v1 x11 v1 else rdA (I_0u7 4) 5 v1 fun x22 => rdA (I_0u7 3) 5 v1 fun x24 => if x22 < x24 then F_X6_pop_b87 I_0u7 L_0u17 v1 x11 v1 else rdA (I_0u7 3) 5 v1 fun x27 => F_X6_pop_b93 I_0u7 L_0u17 x11 v1 (x27 - (nI 1))
def F_X6_suitOf (I_0 : Nat → Nat → Int32) (L_0 : Nat → Nat → Int64) (v1 : Int32) : Option (Int32) :=
  rdA (I_0 1) 9 (nI 1) fun x1 => nz x1 <| some (v1 / x1)
def F_X6_rankOf (I_0 : Nat → Nat → Int32) (L_0 : Nat → Nat → Int64) (v1 : Int32) : Option (Int32) :=
  rdA (I_0 1) 9 (nI 1) fun x1 => nz x1 <| some ((v1 - v1 / x1 * x1) + (nI 1))
def F_X6_fits_b61 (I_0 : Nat → Nat → Int32) (L_0 : Nat → Nat → Int64) (v1 : Int32) (v2 : Int32) (s0 : Int32) : Option (Int32) :=
  if s0 = nI 0 then zb (nI 0) <| some (nI 0) else cal1 (F_X6_rankOf I_0 L_0 v1) fun x3 => cal1 (F_X6_rankOf I_0 L_0 v2) fun x5 => if x3 = (x5 - (nI 1)) then zb (nI 1) <| some (nI 1) else zb (nI 0) <| some (nI 0)
def F_X6_fits (I_0 : Nat → Nat → Int32) (L_0 : Nat → Nat → Int64) (v1 : Int32) (v2 : Int32) : Option (Int32) :=
  cal1 (F_X6_suitOf I_0 L_0 v1) fun x10 => cal1 (F_X6_suitOf I_0 L_0 v2) fun x12 => rdA (I_0 1) 9 (nI 4) fun x14 => if x14 = nI 0 then if x10 = x12 then F_X6_fits_b61 I_0 L_0 v1 v2 (nI 1) else F_X6_fits_b61 I_0 L_0 v1 v2 (nI 0) else rdA (I_0 1) 9 (nI 4) fun x17 => if x17 = (nI 2) then F_X6_fits_b61 I_0 L_0 v1 v2 (nI 1) else nz (nI 2) <| nz (nI 2) <| if (x10 - x10 / (nI 2) * (nI 2)) = (x12 - x12 / (nI 2) * (nI 2)) then F_X6_fits_b61 I_0 L_0 v1 v2 (nI 0) else F_X6_fits_b61 I_0 L_0 v1 v2 (nI 1)
def F_X6_lastOf (I_0 : Nat → Nat → Int32) (L_0 : Nat → Nat → Int64) (v1 : Int32) : Option (Int32) :=
  if (nI 5) ≤ v1 then if (nI 7) ≤ v1 then if v1 = (nI 7) then if (I_0 0 21) ≤ nI 0 then some (-1) else rdA (I_0 7) 8 ((I_0 0 21) - (nI 1)) fun x5 => some x5 else some (-1) else rdA (I_0 5) 2 (v1 - (nI 5)) fun x7 => some x7 else rdA (I_0 3) 5 v1 fun x9 => if x9 ≤ nI 0 then some (-1) else rdA (I_0 3) 5 v1 fun x12 => cal1 (F_X6_cardAt I_0 L_0 v1 (x12 - (nI 1))) fun x14 => some x14
def F_X6_comesTo (I_0 : Nat → Nat → Int32) (L_0 : Nat → Nat → Int64) (v1 : Int32) (v2 : Int32) : Option (Int32) :=
  rdA (I_0 1) 9 (nI 2) fun x1 => if v2 < x1 then rdA (I_0 3) 5 v2 fun x4 => if x4 ≤ nI 0 then rdA (I_0 1) 9 (nI 5) fun x7 => if x7 = nI 0 then zb (nI 1) <| some (nI 1) else rdA (I_0 1) 9 (nI 5) fun x11 => if x11 = (nI 1) then cal1 (F_X6_rankOf I_0 L_0 v1) fun x15 => rdA (I_0 1) 9 (nI 1) fun x17 => if x15 = x17 then zb (nI 1) <| some (nI 1) else zb (nI 0) <| some (nI 0) else zb (nI 0) <| some (nI 0) else rdA (I_0 3) 5 v2 fun x22 => cal1 (F_X6_cardAt I_0 L_0 v2 (x22 - (nI 1))) fun x24 => cal1 (F_X6_fits I_0 L_0 v1 x24) fun x26 => zb x26 <| some x26 else zb (nI 0) <| some (nI 0)
def F_X6_isRow_b173 (I_0 : Nat → Nat → Int32) (L_0 : Nat → Nat → Int64) (v1 : Int32) (v2 : Int32) (v3 : Int32) (v4 : Int32) (v5 : Int32) (v6 : Int32) : Option (Int32) :=
  if v5 = nI 0 then zb (nI 0) <| some (nI 0) else if v6 < v3 then zb (nI 0) <| some (nI 0) else cal1 (F_X6_cardAt I_0 L_0 v1 v4) fun x5 => cal1 (F_X6_comesTo I_0 L_0 x5 v2) fun x7 => if x7 = nI 0 then zb (nI 0) <| some (nI 0) else zb (nI 1) <| some (nI 1)
def F_X6_isRow_b164 (I_0 : Nat → Nat → Int32) (L_0 : Nat → Nat → Int64) (K130 : Int32 → Int32 → Int32 → Int32 → Int32 → Int32 → Int32 → Option (Int32)) (v1 : Int32) (v2 : Int32) (v3 : Int32) (v4 : Int32) (v5 : Int32) (v7 : Int32) (s0 : Int32) (s1 : Int32) : Option (Int32) :=
  K130 v1 v2 v3 v4 v5 (s0 * s1) (v7 + (nI 1))
def F_X6_isRow_s130 (I_0 : Nat → Nat → Int32) (L_0 : Nat → Nat → Int64) (K130 : Int32 → Int32 → Int32 → Int32 → Int32 → Int32 → Int32 → Option (Int32)) (v1 : Int32) (v2 : Int32) (v3 : Int32) (v4 : Int32) (v5 : Int32) (v6 : Int32) (v7 : Int32) : Option (Int32) :=
  rdA (I_0 1) 9 (nI 2) fun x12 => if x12 ≤ v7 then F_X6_isRow_b173 I_0 L_0 v1 v2 v3 v4 v5 v6 else rdA (I_0 3) 5 v7 fun x15 => if x15 = nI 0 then if v7 = v2 then F_X6_isRow_b164 I_0 L_0 K130 v1 v2 v3 v4 v5 v7 v6 (nI 1) else F_X6_isRow_b164 I_0 L_0 K130 v1 v2 v3 v4 v5 v7 v6 (nI 2) else F_X6_isRow_b164 I_0 L_0 K130 v1 v2 v3 v4 v5 v7 v6 (nI 1)
def F_X6_isRow_L130 (I_0 : Nat → Nat → Int32) (L_0 : Nat → Nat → Int64) : Nat → Int32 → Int32 → Int32 → Int32 → Int32 → Int32 → Int32 → Option (Int32)
  | 0 => fun _ _ _ _ _ _ _ => none
  | n + 1 => fun v1 v2 v3 v4 v5 v6 v7 => F_X6_isRow_s130 I_0 L_0 (F_X6_isRow_L130 I_0 L_0 n) v1 v2 v3 v4 v5 v6 v7
def F_X6_isRow_b118 (I_0 : Nat → Nat → Int32) (L_0 : Nat → Nat → Int64) (K89 : Int32 → Int32 → Int32 → Int32 → Int32 → Int32 → Int32 → Option (Int32)) (v1 : Int32) (v2 : Int32) (v3 : Int32) (v4 : Int32) (v5 : Int32) (v7 : Int32) (s0 : Int32) (s1 : Int32) : Option (Int32) :=
  K89 v1 v2 v3 v4 v5 (s0 + s1) (v7 + (nI 1))
def F_X6_isRow_s89 (I_0 : Nat → Nat → Int32) (L_0 : Nat → Nat → Int64) (K89 : Int32 → Int32 → Int32 → Int32 → Int32 → Int32 → Int32 → Option (Int32)) (v1 : Int32) (v2 : Int32) (v3 : Int32) (v4 : Int32) (v5 : Int32) (v6 : Int32) (v7 : Int32) : Option (Int32) :=
  rdA (I_0 1) 9 (nI 3) fun x19 => if x19 ≤ v7 then F_X6_isRow_L130 I_0 L_0 FU v1 v2 v3 v4 v5 v6 (nI 0) else rdA (I_0 5) 2 v7 fun x22 => if x22 = (-1) then F_X6_isRow_b118 I_0 L_0 K89 v1 v2 v3 v4 v5 v7 v6 (nI 1) else F_X6_isRow_b118 I_0 L_0 K89 v1 v2 v3 v4 v5 v7 v6 (nI 0)
def F_X6_isRow_L89 (I_0 : Nat → Nat → Int32) (L_0 : Nat → Nat → Int64) : Nat → Int32 → Int32 → Int32 → Int32 → Int32 → Int32 → Int32 → Option (Int32)
  | 0 => fun _ _ _ _ _ _ _ => none
  | n + 1 => fun v1 v2 v3 v4 v5 v6 v7 => F_X6_isRow_s89 I_0 L_0 (F_X6_isRow_L89 I_0 L_0 n) v1 v2 v3 v4 v5 v6 v7
def F_X6_isRow_b83 (I_0 : Nat → Nat → Int32) (L_0 : Nat → Nat → Int64) (v1 : Int32) (v2 : Int32) (v3 : Int32) (v4 : Int32) (v5 : Int32) : Option (Int32) :=
  F_X6_isRow_L89 I_0 L_0 FU v1 v2 v3 v4 v5 (nI 1) (nI 0)
def F_X6_isRow_s37 (I_0 : Nat → Nat → Int32) (L_0 : Nat → Nat → Int64) (K37 : Int32 → Int32 → Int32 → Int32 → Int32 → Int32 → Option (Int32)) (v1 : Int32) (v2 : Int32) (v3 : Int32) (v4 : Int32) (v5 : Int32) (v6 : Int32) : Option (Int32) :=
  rdA (I_0 3) 5 v1 fun x25 => if x25 ≤ (v6 + (nI 1)) then F_X6_isRow_b83 I_0 L_0 v1 v2 v3 v4 v5 else if v5 = nI 0 then F_X6_isRow_b83 I_0 L_0 v1 v2 v3 v4 v5 else cal1 (F_X6_cardAt I_0 L_0 v1 (v6 + (nI 1))) fun x29 => cal1 (F_X6_cardAt I_0 L_0 v1 v6) fun x31 => cal1 (F_X6_fits I_0 L_0 x29 x31) fun x33 => K37 v1 v2 v3 v4 x33 (v6 + (nI 1))
def F_X6_isRow_L37 (I_0 : Nat → Nat → Int32) (L_0 : Nat → Nat → Int64) : Nat → Int32 → Int32 → Int32 → Int32 → Int32 → Int32 → Option (Int32)
  | 0 => fun _ _ _ _ _ _ => none
  | n + 1 => fun v1 v2 v3 v4 v5 v6 => F_X6_isRow_s37 I_0 L_0 (F_X6_isRow_L37 I_0 L_0 n) v1 v2 v3 v4 v5 v6
def F_X6_isRow (I_0 : Nat → Nat → Int32) (L_0 : Nat → Nat → Int64) (v1 : Int32) (v2 : Int32) (v3 : Int32) : Option (Int32) :=
  rdA (I_0 3) 5 v1 fun x35 => rdA (I_0 4) 5 v1 fun x37 => if (x35 - v3) < x37 then F_X6_isRow_L37 I_0 L_0 FU v1 v2 v3 (x35 - v3) (nI 0) (x35 - v3) else if (x35 - v3) < nI 0 then F_X6_isRow_L37 I_0 L_0 FU v1 v2 v3 (x35 - v3) (nI 0) (x35 - v3) else F_X6_isRow_L37 I_0 L_0 FU v1 v2 v3 (x35 - v3) (nI 1) (x35 - v3)
def F_X6_isMove_b157 (I_0 : Nat → Nat → Int32) (L_0 : Nat → Nat → Int64) (v2 : Int32) : Option (Int32) :=
  rdA (I_0 1) 9 (nI 3) fun x1 => if x1 ≤ (v2 - (nI 5)) then zb (nI 0) <| some (nI 0) else rdA (I_0 5) 2 (v2 - (nI 5)) fun x5 => if x5 = (-1) then zb (nI 1) <| some (nI 1) else zb (nI 0) <| some (nI 0)
def F_X6_isMove_b82 (I_0 : Nat → Nat → Int32) (L_0 : Nat → Nat → Int64) (v1 : Int32) (v2 : Int32) (v3 : Int32) : Option (Int32) :=
  cal1 (F_X6_lastOf I_0 L_0 v1) fun x10 => if v3 = (nI 1) then if x10 = (-1) then zb (nI 0) <| some (nI 0) else if v2 = (nI 8) then cal1 (F_X6_rankOf I_0 L_0 x10) fun x29 => cal1 (F_X6_suitOf I_0 L_0 x10) fun x31 => rdA (I_0 6) 4 x31 fun x33 => if x29 = (x33 + (nI 1)) then zb (nI 1) <| some (nI 1) else zb (nI 0) <| some (nI 0) else cal1 (F_X6_in v2 (nI 5) (nI 6)) fun x16 => if x16 = nI 0 then if (nI 5) ≤ v2 then zb (nI 0) <| some (nI 0) else cal1 (F_X6_comesTo I_0 L_0 x10 v2) fun x21 => if x21 = nI 0 then zb (nI 0) <| some (nI 0) else zb (nI 1) <| some (nI 1) else if v1 < (nI 5) then F_X6_isMove_b157 I_0 L_0 v2 else if v1 = (nI 7) then F_X6_isMove_b157 I_0 L_0 v2 else zb (nI 0) <| some (nI 0) else zb (nI 0) <| some (nI 0)
def F_X6_isMove (I_0 : Nat → Nat → Int32) (L_0 : Nat → Nat → Int64) (v1 : Int32) (v2 : Int32) (v3 : Int32) : Option (Int32) :=
  if v1 = (nI 9) then if v2 = (nI 7) then if v3 = (nI 1) then if nI 0 < (I_0 0 23) then zb (nI 1) <| some (nI 1) else if (I_0 0 21) ≤ nI 0 then zb (nI 0) <| some (nI 0) else rdA (I_0 1) 9 (nI 7) fun x57 => if x57 ≤ (I_0 0 24) then zb (nI 0) <| some (nI 0) else zb (nI 1) <| some (nI 1) else zb (nI 0) <| some (nI 0) else zb (nI 0) <| some (nI 0) else if (nI 5) ≤ v1 then F_X6_isMove_b82 I_0 L_0 v1 v2 v3 else if (nI 5) ≤ v2 then F_X6_isMove_b82 I_0 L_0 v1 v2 v3 else if v1 = v2 then zb (nI 0) <| some (nI 0) else cal1 (F_X6_isRow I_0 L_0 v1 v2 v3) fun x44 => if x44 = nI 0 then zb (nI 0) <| some (nI 0) else zb (nI 1) <| some (nI 1)
def F_X6_turnStock_b83 (L_0 : Nat → Nat → Int64) (I_0 : Nat → Nat → Int32) : Option ((Nat → Nat → Int32)) :=
  bnd (st2 I_0 0 23 (I_0 0 21)) fun I_0u1 => bnd (st2 I_0u1 0 21 (nI 0)) fun I_0u2 => bnd (st2 I_0u2 0 24 ((I_0u2 0 24) + (nI 1))) fun I_0u3 => some I_0u3
def F_X6_turnStock_s50 (L_0 : Nat → Nat → Int64) (K50 : (Nat → Nat → Int32) → Int32 → Option ((Nat → Nat → Int32))) (I_0 : Nat → Nat → Int32) (v1 : Int32) : Option ((Nat → Nat → Int32)) :=
  if (I_0 0 21) ≤ v1 then F_X6_turnStock_b83 L_0 I_0 else rdA (I_0 7) 8 (((I_0 0 21) - (nI 1)) - v1) fun x5 => wrA I_0 8 8 v1 x5 fun I_0u7 => K50 I_0u7 (v1 + (nI 1))
def F_X6_turnStock_L50 (L_0 : Nat → Nat → Int64) : Nat → (Nat → Nat → Int32) → Int32 → Option ((Nat → Nat → Int32))
  | 0 => fun _ _ => none
  | n + 1 => fun I_0 v1 => F_X6_turnStock_s50 L_0 (F_X6_turnStock_L50 L_0 n) I_0 v1
def F_X6_turnStock (L_0 : Nat → Nat → Int64) (I_0 : Nat → Nat → Int32) : Option ((Nat → Nat → Int32)) :=
  if (I_0 0 23) ≤ nI 0 then F_X6_turnStock_L50 L_0 FU I_0 (nI 0) else bnd (st2 I_0 0 23 ((I_0 0 23) - (nI 1))) fun I_0u10 => rdA (I_0u10 8) 8 (I_0u10 0 23) fun x11 => wrA I_0u10 7 8 (I_0u10 0 21) x11 fun I_0u13 => bnd (st2 I_0u13 0 21 ((I_0u13 0 21) + (nI 1))) fun I_0u15 => some I_0u15
def F_X6_take (I_0 : Nat → Nat → Int32) (L_0 : Nat → Nat → Int64) (v1 : Int32) : Option (Int32 × (Nat → Nat → Int32) × (Nat → Nat → Int64)) :=
  if (nI 5) ≤ v1 then if (nI 7) ≤ v1 then bnd (st2 I_0 0 21 ((I_0 0 21) - (nI 1))) fun I_0u3 => rdA (I_0u3 7) 8 (I_0u3 0 21) fun x4 => some (x4, I_0u3, L_0) else rdA (I_0 5) 2 (v1 - (nI 5)) fun x6 => wrA I_0 5 2 (v1 - (nI 5)) (-1) fun I_0u8 => some (x6, I_0u8, L_0) else cal3 (F_X6_pop I_0 L_0 v1) fun x10 I_0u11 L_0u12 => some (x10, I_0u11, L_0u12)
def F_X6_play_s43 (K43 : (Nat → Nat → Int32) → (Nat → Nat → Int64) → Int32 → Int32 → Option ((Nat → Nat → Int32) × (Nat → Nat → Int64))) (I_0 : Nat → Nat → Int32) (L_0 : Nat → Nat → Int64) (v2 : Int32) (v4 : Int32) : Option ((Nat → Nat → Int32) × (Nat → Nat → Int64)) :=
  if v4 < nI 0 then some (I_0, L_0) else rdA (I_0 9) 16 v4 fun x2 => if (nI 5) ≤ v2 then if v2 = (nI 8) then cal1 (F_X6_suitOf I_0 L_0 x2) fun x8 => rdA (I_0 6) 4 x8 fun x10 => wrA I_0 6 4 x8 (x10 + (nI 1)) fun I_0u12 => K43 I_0u12 L_0 v2 (v4 + (-1)) else wrA I_0 5 2 (v2 - (nI 5)) x2 fun I_0u6 => K43 I_0u6 L_0 v2 (v4 + (-1)) else cal2 (F_X6_push I_0 L_0 v2 x2) fun I_0u14 L_0u15 => K43 I_0u14 L_0u15 v2 (v4 + (-1))
def F_X6_play_L43 : Nat → (Nat → Nat → Int32) → (Nat → Nat → Int64) → Int32 → Int32 → Option ((Nat → Nat → Int32) × (Nat → Nat → Int64))
  | 0 => fun _ _ _ _ => none
  | n + 1 => fun I_0 L_0 v2 v4 => F_X6_play_s43 (F_X6_play_L43 n) I_0 L_0 v2 v4
def F_X6_play_b38 (I_0 : Nat → Nat → Int32) (L_0 : Nat → Nat → Int64) (v2 : Int32) (v3 : Int32) : Option ((Nat → Nat → Int32) × (Nat → Nat → Int64)) :=
  F_X6_play_L43 FU I_0 L_0 v2 (v3 - (nI 1))
def F_X6_play_s14 (K14 : (Nat → Nat → Int32) → (Nat → Nat → Int64) → Int32 → Int32 → Int32 → Int32 → Option ((Nat → Nat → Int32) × (Nat → Nat → Int64))) (I_0 : Nat → Nat → Int32) (L_0 : Nat → Nat → Int64) (v1 : Int32) (v2 : Int32) (v3 : Int32) (v4 : Int32) : Option ((Nat → Nat → Int32) × (Nat → Nat → Int64)) :=
  if v3 ≤ v4 then F_X6_play_b38 I_0 L_0 v2 v3 else cal3 (F_X6_take I_0 L_0 v1) fun x18 I_0u19 L_0u20 => wrA I_0u19 9 16 v4 x18 fun I_0u22 => K14 I_0u22 L_0u20 v1 v2 v3 (v4 + (nI 1))
def F_X6_play_L14 : Nat → (Nat → Nat → Int32) → (Nat → Nat → Int64) → Int32 → Int32 → Int32 → Int32 → Option ((Nat → Nat → Int32) × (Nat → Nat → Int64))
  | 0 => fun _ _ _ _ _ _ => none
  | n + 1 => fun I_0 L_0 v1 v2 v3 v4 => F_X6_play_s14 (F_X6_play_L14 n) I_0 L_0 v1 v2 v3 v4
def F_X6_play (I_0 : Nat → Nat → Int32) (L_0 : Nat → Nat → Int64) (v1 : Int32) (v2 : Int32) (v3 : Int32) : Option ((Nat → Nat → Int32) × (Nat → Nat → Int64)) :=
  if v1 = (nI 9) then cal1 (F_X6_turnStock L_0 I_0) fun I_0u25 => some (I_0u25, L_0) else F_X6_play_L14 FU I_0 L_0 v1 v2 v3 (nI 0)
def F_X6_isWon (I_0 : Nat → Nat → Int32) (L_0 : Nat → Nat → Int64) : Option (Int32) :=
  cal1 (F_X6_atHome I_0 L_0) fun x1 => rdA (I_0 1) 9 (nI 0) fun x3 => rdA (I_0 1) 9 (nI 1) fun x5 => if x1 = (x3 * x5) then zb (nI 1) <| some (nI 1) else zb (nI 0) <| some (nI 0)
def F_X6_doMove (I_0 : Nat → Nat → Int32) (L_0 : Nat → Nat → Int64) (v1 : Int32) (v2 : Int32) (v3 : Int32) : Option ((Nat → Nat → Int32) × (Nat → Nat → Int64)) :=
  cal2 (F_X6_play I_0 L_0 v1 v2 v3) fun I_0u1 L_0u2 => bnd (st2 I_0u1 0 13 ((I_0u1 0 13) + (nI 1))) fun I_0u4 => cal1 (F_X6_store I_0u4 1 1616 L_0u2 ((nI 8) * (I_0u4 0 13))) fun L_0u5 => some (I_0u4, L_0u5)
def F_X6_move_b98 (I_0 : Nat → Nat → Int32) (L_0 : Nat → Nat → Int64) (v1 : Int32) (v2 : Int32) (v3 : Int32) (s1 : Int32) : Option (Int32 × (Nat → Nat → Int32) × (Nat → Nat → Int64)) :=
  cal2 (F_X6_goesWell L_0 I_0 s1) fun x1 I_0u2 => if x1 = nI 0 then some ((nI 0), I_0u2, L_0) else cal2 (F_X6_doMove I_0u2 L_0 v1 v2 v3) fun I_0u5 L_0u6 => cal1 (F_X6_atHome I_0u5 L_0u6) fun x8 => some (x8, I_0u5, L_0u6)
def F_X6_move_b61 (I_0 : Nat → Nat → Int32) (L_0 : Nat → Nat → Int64) (v1 : Int32) (v2 : Int32) (v3 : Int32) (s0 : Int32) : Option (Int32 × (Nat → Nat → Int32) × (Nat → Nat → Int64)) :=
  if s0 = nI 0 then F_X6_move_b98 I_0 L_0 v1 v2 v3 (nI 1) else if (I_0 0 13) = (nI 200) then F_X6_move_b98 I_0 L_0 v1 v2 v3 (nI 2) else cal1 (F_X6_isMove I_0 L_0 v1 v2 v3) fun x12 => if x12 = nI 0 then F_X6_move_b98 I_0 L_0 v1 v2 v3 (nI 2) else F_X6_move_b98 I_0 L_0 v1 v2 v3 (nI 0)
def F_X6_move (I_0 : Nat → Nat → Int32) (L_0 : Nat → Nat → Int64) (v1 : Int32) (v2 : Int32) (v3 : Int32) : Option (Int32 × (Nat → Nat → Int32) × (Nat → Nat → Int64)) :=
  cal1 (F_X6_in v1 (nI 0) (nI 9)) fun x15 => if x15 = nI 0 then F_X6_move_b61 I_0 L_0 v1 v2 v3 (nI 0) else if v1 = (nI 8) then F_X6_move_b61 I_0 L_0 v1 v2 v3 (nI 0) else cal1 (F_X6_in v2 (nI 0) (nI 8)) fun x19 => if x19 = nI 0 then F_X6_move_b61 I_0 L_0 v1 v2 v3 (nI 0) else if v1 = v2 then F_X6_move_b61 I_0 L_0 v1 v2 v3 (nI 0) else cal1 (F_X6_in v3 (nI 1) (nI 16)) fun x23 => if x23 = nI 0 then F_X6_move_b61 I_0 L_0 v1 v2 v3 (nI 0) else if v3 = (nI 1) then F_X6_move_b61 I_0 L_0 v1 v2 v3 (nI 1) else if (nI 5) ≤ v1 then F_X6_move_b61 I_0 L_0 v1 v2 v3 (nI 0) else if (nI 5) ≤ v2 then F_X6_move_b61 I_0 L_0 v1 v2 v3 (nI 0) else F_X6_move_b61 I_0 L_0 v1 v2 v3 (nI 1)
def F_X6_undo_b41 (I_0 : Nat → Nat → Int32) (L_0 : Nat → Nat → Int64) (s0 : Int32) : Option (Int32 × (Nat → Nat → Int32) × (Nat → Nat → Int64)) :=
  bnd (st2 I_0 0 13 ((I_0 0 13) - s0)) fun I_0u1 => bnd (st2 I_0u1 0 12 ((I_0u1 0 12) + s0)) fun I_0u2 => cal2 (F_X6_load 1 1616 I_0u2 L_0 ((nI 8) * (I_0u2 0 13))) fun I_0u3 L_0u4 => some (s0, I_0u3, L_0u4)
def F_X6_undo_b17 (I_0 : Nat → Nat → Int32) (L_0 : Nat → Nat → Int64) (v1 : Int32) (s1 : Int32) : Option (Int32 × (Nat → Nat → Int32) × (Nat → Nat → Int64)) :=
  cal2 (F_X6_goesWell L_0 I_0 s1) fun x6 I_0u7 => if x6 = nI 0 then some ((nI 0), I_0u7, L_0) else if (I_0u7 0 13) ≤ v1 then F_X6_undo_b41 I_0u7 L_0 (I_0u7 0 13) else F_X6_undo_b41 I_0u7 L_0 v1
def F_X6_undo (I_0 : Nat → Nat → Int32) (L_0 : Nat → Nat → Int64) (v1 : Int32) : Option (Int32 × (Nat → Nat → Int32) × (Nat → Nat → Int64)) :=
  cal1 (F_X6_in v1 (nI 1) (nI 200)) fun x11 => if x11 = nI 0 then F_X6_undo_b17 I_0 L_0 v1 (nI 1) else F_X6_undo_b17 I_0 L_0 v1 (nI 0)
def F_X6_isSafe_s4 (I_0 : Nat → Nat → Int32) (L_0 : Nat → Nat → Int64) (K4 : Int32 → Int32 → Int32 → Option (Int32)) (v1 : Int32) (v2 : Int32) (v3 : Int32) : Option (Int32) :=
  rdA (I_0 1) 9 (nI 0) fun x1 => rdA (I_0 1) 9 (nI 1) fun x3 => if (x1 * x3) ≤ v3 then zb v2 <| some v2 else if v2 = nI 0 then K4 v1 (nI 0) (v3 + (nI 1)) else cal1 (F_X6_rankOf I_0 L_0 v3) fun x8 => cal1 (F_X6_suitOf I_0 L_0 v3) fun x10 => rdA (I_0 6) 4 x10 fun x12 => if x8 ≤ x12 then K4 v1 (nI 1) (v3 + (nI 1)) else cal1 (F_X6_fits I_0 L_0 v3 v1) fun x15 => if x15 = nI 0 then K4 v1 (nI 1) (v3 + (nI 1)) else K4 v1 (nI 0) (v3 + (nI 1))
def F_X6_isSafe_L4 (I_0 : Nat → Nat → Int32) (L_0 : Nat → Nat → Int64) : Nat → Int32 → Int32 → Int32 → Option (Int32)
  | 0 => fun _ _ _ => none
  | n + 1 => fun v1 v2 v3 => F_X6_isSafe_s4 I_0 L_0 (F_X6_isSafe_L4 I_0 L_0 n) v1 v2 v3
def F_X6_isSafe (I_0 : Nat → Nat → Int32) (L_0 : Nat → Nat → Int64) (v1 : Int32) : Option (Int32) :=
  F_X6_isSafe_L4 I_0 L_0 FU v1 (nI 1) (nI 0)
def F_X6_safe_b65 (K9 : (Nat → Nat → Int32) → (Nat → Nat → Int64) → Int32 → Int32 → Option (Int32 × (Nat → Nat → Int32) × (Nat → Nat → Int64))) (K27 : (Nat → Nat → Int32) → (Nat → Nat → Int64) → Int32 → Int32 → Int32 → Option (Int32 × (Nat → Nat → Int32) × (Nat → Nat → Int64))) (I_0 : Nat → Nat → Int32) (L_0 : Nat → Nat → Int64) (v1 : Int32) (v3 : Int32) (s0 : Int32) : Option (Int32 × (Nat → Nat → Int32) × (Nat → Nat → Int64)) :=
  if s0 = nI 0 then K27 I_0 L_0 v1 s0 (v3 + (nI 1)) else cal2 (F_X6_doMove I_0 L_0 v3 (nI 8) (nI 1)) fun I_0u2 L_0u3 => K27 I_0u2 L_0u3 (v1 + (nI 1)) s0 (v3 + (nI 1))
def F_X6_safe_s27 (K9 : (Nat → Nat → Int32) → (Nat → Nat → Int64) → Int32 → Int32 → Option (Int32 × (Nat → Nat → Int32) × (Nat → Nat → Int64))) (K27 : (Nat → Nat → Int32) → (Nat → Nat → Int64) → Int32 → Int32 → Int32 → Option (Int32 × (Nat → Nat → Int32) × (Nat → Nat → Int64))) (I_0 : Nat → Nat → Int32) (L_0 : Nat → Nat → Int64) (v1 : Int32) (v2 : Int32) (v3 : Int32) : Option (Int32 × (Nat → Nat → Int32) × (Nat → Nat → Int64)) :=
  if (nI 7) < v3 then K9 I_0 L_0 v1 v2 else if v2 = nI 0 then cal1 (F_X6_isMove I_0 L_0 v3 (nI 8) (nI 1)) fun x7 => if x7 = nI 0 then F_X6_safe_b65 K9 K27 I_0 L_0 v1 v3 (nI 0) else cal1 (F_X6_lastOf I_0 L_0 v3) fun x10 => cal1 (F_X6_isSafe I_0 L_0 x10) fun x12 => if x12 = nI 0 then F_X6_safe_b65 K9 K27 I_0 L_0 v1 v3 (nI 0) else F_X6_safe_b65 K9 K27 I_0 L_0 v1 v3 (nI 1) else K9 I_0 L_0 v1 v2
def F_X6_safe_L27 (K9 : (Nat → Nat → Int32) → (Nat → Nat → Int64) → Int32 → Int32 → Option (Int32 × (Nat → Nat → Int32) × (Nat → Nat → Int64))) : Nat → (Nat → Nat → Int32) → (Nat → Nat → Int64) → Int32 → Int32 → Int32 → Option (Int32 × (Nat → Nat → Int32) × (Nat → Nat → Int64))
  | 0 => fun _ _ _ _ _ => none
  | n + 1 => fun I_0 L_0 v1 v2 v3 => F_X6_safe_s27 K9 (F_X6_safe_L27 K9 n) I_0 L_0 v1 v2 v3
def F_X6_safe_s9 (K9 : (Nat → Nat → Int32) → (Nat → Nat → Int64) → Int32 → Int32 → Option (Int32 × (Nat → Nat → Int32) × (Nat → Nat → Int64))) (I_0 : Nat → Nat → Int32) (L_0 : Nat → Nat → Int64) (v1 : Int32) (v2 : Int32) : Option (Int32 × (Nat → Nat → Int32) × (Nat → Nat → Int64)) :=
  if v2 = nI 0 then some (v1, I_0, L_0) else if (nI 200) ≤ (I_0 0 13) then some (v1, I_0, L_0) else F_X6_safe_L27 K9 FU I_0 L_0 v1 (nI 0) (nI 0)
def F_X6_safe_L9 : Nat → (Nat → Nat → Int32) → (Nat → Nat → Int64) → Int32 → Int32 → Option (Int32 × (Nat → Nat → Int32) × (Nat → Nat → Int64))
  | 0 => fun _ _ _ _ => none
  | n + 1 => fun I_0 L_0 v1 v2 => F_X6_safe_s9 (F_X6_safe_L9 n) I_0 L_0 v1 v2
def F_X6_safe (I_0 : Nat → Nat → Int32) (L_0 : Nat → Nat → Int64) : Option (Int32 × (Nat → Nat → Int32) × (Nat → Nat → Int64)) :=
  bnd (st2 I_0 0 0 (nI 0)) fun I_0u17 => F_X6_safe_L9 FU I_0u17 L_0 (nI 0) (nI 1)
def F_X6_find_b90 (I_0 : Nat → Nat → Int32) (L_0 : Nat → Nat → Int64) (v4 : Int32) (v5 : Int32) (v6 : Int32) : Option (Int32) :=
  some ((((nI 1000) * v4) + ((nI 100) * v5)) + v6)
def F_X6_find_b65 (I_0 : Nat → Nat → Int32) (L_0 : Nat → Nat → Int64) (K4 : Int32 → Int32 → Int32 → Option (Int32)) (v1 : Int32) (v2 : Int32) (v3 : Int32) (v4 : Int32) (v5 : Int32) (v6 : Int32) (s0 : Int32) : Option (Int32) :=
  if s0 = nI 0 then K4 v1 v2 (v3 + (nI 1)) else cal1 (F_X6_isMove I_0 L_0 v4 v5 v6) fun x2 => if x2 = nI 0 then K4 v1 v2 (v3 + (nI 1)) else if v2 = v1 then F_X6_find_b90 I_0 L_0 v4 v5 v6 else K4 v1 (v2 + (nI 1)) (v3 + (nI 1))
def F_X6_find_s4 (I_0 : Nat → Nat → Int32) (L_0 : Nat → Nat → Int64) (K4 : Int32 → Int32 → Int32 → Option (Int32)) (v1 : Int32) (v2 : Int32) (v3 : Int32) : Option (Int32) :=
  if (nI 1440) ≤ v3 then some ((-1) - v2) else nz (nI 144) <| nz (nI 16) <| nz (nI 9) <| nz (nI 16) <| if (v3 / (nI 144)) = (nI 8) then F_X6_find_b65 I_0 L_0 K4 v1 v2 v3 (v3 / (nI 144)) ((v3 / (nI 16)) - (v3 / (nI 16)) / (nI 9) * (nI 9)) ((v3 - v3 / (nI 16) * (nI 16)) + (nI 1)) (nI 0) else if ((v3 - v3 / (nI 16) * (nI 16)) + (nI 1)) = (nI 1) then F_X6_find_b65 I_0 L_0 K4 v1 v2 v3 (v3 / (nI 144)) ((v3 / (nI 16)) - (v3 / (nI 16)) / (nI 9) * (nI 9)) ((v3 - v3 / (nI 16) * (nI 16)) + (nI 1)) (nI 1) else if (nI 5) ≤ (v3 / (nI 144)) then F_X6_find_b65 I_0 L_0 K4 v1 v2 v3 (v3 / (nI 144)) ((v3 / (nI 16)) - (v3 / (nI 16)) / (nI 9) * (nI 9)) ((v3 - v3 / (nI 16) * (nI 16)) + (nI 1)) (nI 0) else if (nI 5) ≤ ((v3 / (nI 16)) - (v3 / (nI 16)) / (nI 9) * (nI 9)) then F_X6_find_b65 I_0 L_0 K4 v1 v2 v3 (v3 / (nI 144)) ((v3 / (nI 16)) - (v3 / (nI 16)) / (nI 9) * (nI 9)) ((v3 - v3 / (nI 16) * (nI 16)) + (nI 1)) (nI 0) else F_X6_find_b65 I_0 L_0 K4 v1 v2 v3 (v3 / (nI 144)) ((v3 / (nI 16)) - (v3 / (nI 16)) / (nI 9) * (nI 9)) ((v3 - v3 / (nI 16) * (nI 16)) + (nI 1)) (nI 1)
def F_X6_find_L4 (I_0 : Nat → Nat → Int32) (L_0 : Nat → Nat → Int64) : Nat → Int32 → Int32 → Int32 → Option (Int32)
  | 0 => fun _ _ _ => none
  | n + 1 => fun v1 v2 v3 => F_X6_find_s4 I_0 L_0 (F_X6_find_L4 I_0 L_0 n) v1 v2 v3
def F_X6_find (I_0 : Nat → Nat → Int32) (L_0 : Nat → Nat → Int64) (v1 : Int32) : Option (Int32) :=
  F_X6_find_L4 I_0 L_0 FU v1 (nI 0) (nI 0)
def F_X6_moves (L_0 : Nat → Nat → Int64) (I_0 : Nat → Nat → Int32) : Option (Int32 × (Nat → Nat → Int32)) :=
  bnd (st2 I_0 0 0 (nI 0)) fun I_0u1 => cal1 (F_X6_find I_0u1 L_0 (-1)) fun x2 => some (((-1) - x2), I_0u1)
def F_X6_moveAt_b10 (L_0 : Nat → Nat → Int64) (I_0 : Nat → Nat → Int32) (v1 : Int32) (s1 : Int32) : Option (Int32 × (Nat → Nat → Int32)) :=
  cal2 (F_X6_goesWell L_0 I_0 s1) fun x1 I_0u2 => if x1 = nI 0 then some ((nI 0), I_0u2) else cal1 (F_X6_find I_0u2 L_0 v1) fun x5 => if nI 0 ≤ x5 then some (x5, I_0u2) else some ((-1), I_0u2)
def F_X6_moveAt (L_0 : Nat → Nat → Int64) (I_0 : Nat → Nat → Int32) (v1 : Int32) : Option (Int32 × (Nat → Nat → Int32)) :=
  if v1 < nI 0 then F_X6_moveAt_b10 L_0 I_0 v1 (nI 1) else F_X6_moveAt_b10 L_0 I_0 v1 (nI 0)
def F_X6_card_b156 (L_0 : Nat → Nat → Int64) (I_0 : Nat → Nat → Int32) (v1 : Int32) (v2 : Int32) (s0 : Int32) : Option (Int32 × (Nat → Nat → Int32)) :=
  if v2 < s0 then if v1 = (nI 7) then rdA (I_0 7) 8 ((s0 - (nI 1)) - v2) fun x5 => some (x5, I_0) else rdA (I_0 8) 8 ((s0 - (nI 1)) - v2) fun x3 => some (x3, I_0) else some ((-1), I_0)
def F_X6_card_b20 (L_0 : Nat → Nat → Int64) (I_0 : Nat → Nat → Int32) (v1 : Int32) (v2 : Int32) (s1 : Int32) : Option (Int32 × (Nat → Nat → Int32)) :=
  cal2 (F_X6_goesWell L_0 I_0 s1) fun x7 I_0u8 => if x7 = nI 0 then some ((nI 0), I_0u8) else if (nI 5) ≤ v1 then if (nI 7) ≤ v1 then if v1 = (nI 8) then rdA (I_0u8 1) 9 (nI 0) fun x15 => if x15 ≤ v2 then some ((-1), I_0u8) else rdA (I_0u8 6) 4 v2 fun x18 => if x18 ≤ nI 0 then some ((-1), I_0u8) else rdA (I_0u8 1) 9 (nI 1) fun x21 => rdA (I_0u8 6) 4 v2 fun x23 => some ((((v2 * x21) + x23) - (nI 1)), I_0u8) else if v1 = (nI 7) then F_X6_card_b156 L_0 I_0u8 v1 v2 (I_0u8 0 21) else F_X6_card_b156 L_0 I_0u8 v1 v2 (I_0u8 0 23) else if v2 = nI 0 then rdA (I_0u8 5) 2 (v1 - (nI 5)) fun x26 => some (x26, I_0u8) else some ((-1), I_0u8) else rdA (I_0u8 3) 5 v1 fun x28 => if v2 < x28 then rdA (I_0u8 4) 5 v1 fun x31 => if x31 ≤ v2 then cal1 (F_X6_cardAt I_0u8 L_0 v1 v2) fun x34 => some (x34, I_0u8) else some ((-2), I_0u8) else some ((-1), I_0u8)
def F_X6_card (L_0 : Nat → Nat → Int64) (I_0 : Nat → Nat → Int32) (v1 : Int32) (v2 : Int32) : Option (Int32 × (Nat → Nat → Int32)) :=
  cal1 (F_X6_in v1 (nI 0) (nI 9)) fun x36 => if x36 = nI 0 then F_X6_card_b20 L_0 I_0 v1 v2 (nI 1) else if v2 < nI 0 then F_X6_card_b20 L_0 I_0 v1 v2 (nI 1) else F_X6_card_b20 L_0 I_0 v1 v2 (nI 0)
def F_X6_told_b16 (L_0 : Nat → Nat → Int64) (I_0 : Nat → Nat → Int32) (v1 : Int32) (s1 : Int32) : Option (Int32 × (Nat → Nat → Int32)) :=
  cal2 (F_X6_goesWell L_0 I_0 s1) fun x1 I_0u2 => if x1 = nI 0 then some ((nI 0), I_0u2) else if v1 = (nI 0) then cal1 (F_X6_atHome I_0u2 L_0) fun x6 => some (x6, I_0u2) else if v1 = (nI 1) then some ((I_0u2 0 13), I_0u2) else if v1 = (nI 2) then some ((I_0u2 0 12), I_0u2) else if v1 = (nI 3) then some ((I_0u2 0 24), I_0u2) else if v1 = (nI 4) then cal1 (F_X6_money I_0u2 L_0) fun x12 => some (x12, I_0u2) else if v1 = (nI 5) then cal1 (F_X6_money I_0u2 L_0) fun x15 => some (((I_0u2 0 14) + x15), I_0u2) else if v1 = (nI 6) then cal1 (F_X6_isWon I_0u2 L_0) fun x18 => if x18 = nI 0 then some ((nI 0), I_0u2) else some ((nI 1), I_0u2) else rdA (I_0u2 4) 5 (nI 0) fun x21 => rdA (I_0u2 4) 5 (nI 1) fun x23 => rdA (I_0u2 4) 5 (nI 2) fun x25 => rdA (I_0u2 4) 5 (nI 3) fun x27 => rdA (I_0u2 4) 5 (nI 4) fun x29 => some (((((x21 + x23) + x25) + x27) + x29), I_0u2)
def F_X6_told (L_0 : Nat → Nat → Int64) (I_0 : Nat → Nat → Int32) (v1 : Int32) : Option (Int32 × (Nat → Nat → Int32)) :=
  cal1 (F_X6_in v1 (nI 0) (nI 7)) fun x31 => if x31 = nI 0 then F_X6_told_b16 L_0 I_0 v1 (nI 1) else F_X6_told_b16 L_0 I_0 v1 (nI 0)
def F_X6_isAhead (I_0 : Nat → Nat → Int32) (L_0 : Nat → Nat → Int64) (v1 : Int32) (v2 : Int32) : Option (Int32) :=
  rdA (I_0 3) 5 v1 fun x1 => rdA (I_0 4) 5 v1 fun x3 => rdA (I_0 3) 5 v2 fun x5 => rdA (I_0 4) 5 v2 fun x7 => rdA (L_0 0) 5 v1 fun x9 => rdA (L_0 0) 5 v2 fun x11 => if (lg_cmp x9 x11) < nI 0 then zb (nI 1) <| some (nI 1) else rdA (L_0 0) 5 v1 fun x15 => rdA (L_0 0) 5 v2 fun x17 => if (lg_cmp x15 x17) = nI 0 then if (lg_cmp ((x1.toInt64) ||| ((x3.toInt64) <<< (((nI 5) : Int32).toInt64 &&& 63))) ((x5.toInt64) ||| ((x7.toInt64) <<< (((nI 5) : Int32).toInt64 &&& 63)))) < nI 0 then zb (nI 1) <| some (nI 1) else if (lg_cmp ((x1.toInt64) ||| ((x3.toInt64) <<< (((nI 5) : Int32).toInt64 &&& 63))) ((x5.toInt64) ||| ((x7.toInt64) <<< (((nI 5) : Int32).toInt64 &&& 63)))) = nI 0 then if v2 ≤ v1 then zb (nI 0) <| some (nI 0) else zb (nI 1) <| some (nI 1) else zb (nI 0) <| some (nI 0) else zb (nI 0) <| some (nI 0)
def F_X6_sort_b218 (I_0 : Nat → Nat → Int32) (cc : Nat) (nn : Nat) (L_0 : Nat → Nat → Int64) (v2 : Int32) (v5 : Int64) (s0 : Int64) : Option ((Nat → Nat → Int64)) :=
  rdA (L_0 cc) nn (v2 + (nI 6)) fun x1 => wrJ L_0 cc nn (v2 + (nI 6)) (((((x1.toUInt64 >>> (((nI 10) : Int32).toInt64.toUInt64 &&& Int64.toUInt64 63)).toInt64) <<< (((nI 10) : Int32).toInt64 &&& 63)) ||| (v5 + (lN 1))) ||| ((s0 + (lN 1)) <<< (((nI 5) : Int32).toInt64 &&& 63))) fun L_0u3 => some L_0u3
def F_X6_sort_b184 (I_0 : Nat → Nat → Int32) (cc : Nat) (nn : Nat) (L_0 : Nat → Nat → Int64) (v2 : Int32) (s0 : Int64) : Option ((Nat → Nat → Int64)) :=
  rdA (I_0 5) 2 (nI 0) fun x5 => rdA (I_0 5) 2 (nI 1) fun x7 => if x7 ≤ x5 then rdA (I_0 5) 2 (nI 0) fun x10 => F_X6_sort_b218 I_0 cc nn L_0 v2 s0 (x10.toInt64) else rdA (I_0 5) 2 (nI 1) fun x12 => F_X6_sort_b218 I_0 cc nn L_0 v2 s0 (x12.toInt64)
def F_X6_sort_b146 (I_0 : Nat → Nat → Int32) (cc : Nat) (nn : Nat) (L_0 : Nat → Nat → Int64) (v2 : Int32) (v3 : Int64) : Option ((Nat → Nat → Int64)) :=
  wrJ L_0 cc nn (v2 + (nI 5)) v3 fun L_0u14 => rdA (I_0 5) 2 (nI 0) fun x16 => rdA (I_0 5) 2 (nI 1) fun x18 => if x18 ≤ x16 then rdA (I_0 5) 2 (nI 1) fun x21 => F_X6_sort_b184 I_0 cc nn L_0u14 v2 (x21.toInt64) else rdA (I_0 5) 2 (nI 0) fun x23 => F_X6_sort_b184 I_0 cc nn L_0u14 v2 (x23.toInt64)
def F_X6_sort_s116 (I_0 : Nat → Nat → Int32) (cc : Nat) (nn : Nat) (K116 : (Nat → Nat → Int64) → Int32 → Int64 → Int32 → Option ((Nat → Nat → Int64))) (L_0 : Nat → Nat → Int64) (v2 : Int32) (v3 : Int64) (v5 : Int32) : Option ((Nat → Nat → Int64)) :=
  rdA (I_0 1) 9 (nI 2) fun x25 => if x25 ≤ v5 then F_X6_sort_b146 I_0 cc nn L_0 v2 v3 else rdA (L_0 5) 8 v5 fun x28 => wrJ L_0 cc nn (v2 + v5) x28 fun L_0u30 => K116 L_0u30 v2 v3 (v5 + (nI 1))
def F_X6_sort_L116 (I_0 : Nat → Nat → Int32) (cc : Nat) (nn : Nat) : Nat → (Nat → Nat → Int64) → Int32 → Int64 → Int32 → Option ((Nat → Nat → Int64))
  | 0 => fun _ _ _ _ => none
  | n + 1 => fun L_0 v2 v3 v5 => F_X6_sort_s116 I_0 cc nn (F_X6_sort_L116 I_0 cc nn n) L_0 v2 v3 v5
def F_X6_sort_b66 (I_0 : Nat → Nat → Int32) (cc : Nat) (nn : Nat) (K11 : (Nat → Nat → Int64) → Int32 → Int64 → Int32 → Option ((Nat → Nat → Int64))) (L_0 : Nat → Nat → Int64) (v2 : Int32) (v3 : Int64) (v5 : Int32) (v6 : Int32) : Option ((Nat → Nat → Int64)) :=
  rdA (L_0 0) 5 v5 fun x32 => wrJ L_0 5 8 v6 x32 fun L_0u34 => rdA (I_0 3) 5 v5 fun x36 => rdA (I_0 4) 5 v5 fun x38 => K11 L_0u34 v2 (v3 ||| ((((x36 ||| (x38 <<< ((nI 5) &&& 31))) : Int32).toInt64) <<< ((((nI 10) * v6) : Int32).toInt64 &&& 63))) (v5 + (nI 1))
def F_X6_sort_b57 (I_0 : Nat → Nat → Int32) (cc : Nat) (nn : Nat) (K11 : (Nat → Nat → Int64) → Int32 → Int64 → Int32 → Option ((Nat → Nat → Int64))) (K28 : (Nat → Nat → Int64) → Int32 → Int64 → Int32 → Int32 → Int32 → Option ((Nat → Nat → Int64))) (L_0 : Nat → Nat → Int64) (v2 : Int32) (v3 : Int64) (v5 : Int32) (v7 : Int32) (s0 : Int32) (s1 : Int32) : Option ((Nat → Nat → Int64)) :=
  K28 L_0 v2 v3 v5 (s0 + s1) (v7 + (nI 1))
def F_X6_sort_s28 (I_0 : Nat → Nat → Int32) (cc : Nat) (nn : Nat) (K11 : (Nat → Nat → Int64) → Int32 → Int64 → Int32 → Option ((Nat → Nat → Int64))) (K28 : (Nat → Nat → Int64) → Int32 → Int64 → Int32 → Int32 → Int32 → Option ((Nat → Nat → Int64))) (L_0 : Nat → Nat → Int64) (v2 : Int32) (v3 : Int64) (v5 : Int32) (v6 : Int32) (v7 : Int32) : Option ((Nat → Nat → Int64)) :=
  rdA (I_0 1) 9 (nI 2) fun x40 => if x40 ≤ v7 then F_X6_sort_b66 I_0 cc nn K11 L_0 v2 v3 v5 v6 else cal1 (F_X6_isAhead I_0 L_0 v7 v5) fun x43 => if x43 = nI 0 then F_X6_sort_b57 I_0 cc nn K11 K28 L_0 v2 v3 v5 v7 v6 (nI 0) else F_X6_sort_b57 I_0 cc nn K11 K28 L_0 v2 v3 v5 v7 v6 (nI 1)
def F_X6_sort_L28 (I_0 : Nat → Nat → Int32) (cc : Nat) (nn : Nat) (K11 : (Nat → Nat → Int64) → Int32 → Int64 → Int32 → Option ((Nat → Nat → Int64))) : Nat → (Nat → Nat → Int64) → Int32 → Int64 → Int32 → Int32 → Int32 → Option ((Nat → Nat → Int64))
  | 0 => fun _ _ _ _ _ _ => none
  | n + 1 => fun L_0 v2 v3 v5 v6 v7 => F_X6_sort_s28 I_0 cc nn K11 (F_X6_sort_L28 I_0 cc nn K11 n) L_0 v2 v3 v5 v6 v7
def F_X6_sort_s11 (I_0 : Nat → Nat → Int32) (cc : Nat) (nn : Nat) (K11 : (Nat → Nat → Int64) → Int32 → Int64 → Int32 → Option ((Nat → Nat → Int64))) (L_0 : Nat → Nat → Int64) (v2 : Int32) (v3 : Int64) (v5 : Int32) : Option ((Nat → Nat → Int64)) :=
  rdA (I_0 1) 9 (nI 2) fun x46 => if x46 ≤ v5 then F_X6_sort_L116 I_0 cc nn FU L_0 v2 v3 (nI 0) else F_X6_sort_L28 I_0 cc nn K11 FU L_0 v2 v3 v5 (nI 0) (nI 0)
def F_X6_sort_L11 (I_0 : Nat → Nat → Int32) (cc : Nat) (nn : Nat) : Nat → (Nat → Nat → Int64) → Int32 → Int64 → Int32 → Option ((Nat → Nat → Int64))
  | 0 => fun _ _ _ _ => none
  | n + 1 => fun L_0 v2 v3 v5 => F_X6_sort_s11 I_0 cc nn (F_X6_sort_L11 I_0 cc nn n) L_0 v2 v3 v5
def F_X6_sort (I_0 : Nat → Nat → Int32) (cc : Nat) (nn : Nat) (L_0 : Nat → Nat → Int64) (v2 : Int32) : Option ((Nat → Nat → Int64)) :=
  cal1 (F_X6_store I_0 cc nn L_0 v2) fun L_0u49 => F_X6_sort_L11 I_0 cc nn FU L_0u49 v2 (lN 0) (nI 0)
def F_X6_isKnown_b80 (I_0 : Nat → Nat → Int32) (K17 : (Nat → Nat → Int64) → Int32 → Option (Int32 × (Nat → Nat → Int64))) (L_0 : Nat → Nat → Int64) (v1 : Int32) (v2 : Int32) : Option (Int32 × (Nat → Nat → Int64)) :=
  if v2 = nI 0 then K17 L_0 (v1 + (nI 1)) else zb (nI 1) <| some ((nI 1), L_0)
def F_X6_isKnown_s29 (I_0 : Nat → Nat → Int32) (K17 : (Nat → Nat → Int64) → Int32 → Option (Int32 × (Nat → Nat → Int64))) (K29 : (Nat → Nat → Int64) → Int32 → Int32 → Int32 → Option (Int32 × (Nat → Nat → Int64))) (L_0 : Nat → Nat → Int64) (v1 : Int32) (v2 : Int32) (v3 : Int32) : Option (Int32 × (Nat → Nat → Int64)) :=
  if (nI 8) ≤ v3 then F_X6_isKnown_b80 I_0 K17 L_0 v1 v2 else if v2 = nI 0 then F_X6_isKnown_b80 I_0 K17 L_0 v1 v2 else rdA (L_0 4) 3216 (((nI 8) * v1) + v3) fun x5 => rdA (L_0 4) 3216 (((nI 8) * (I_0 0 29)) + v3) fun x7 => if (lg_cmp x5 x7) = nI 0 then K29 L_0 v1 (nI 1) (v3 + (nI 1)) else K29 L_0 v1 (nI 0) (v3 + (nI 1))
def F_X6_isKnown_L29 (I_0 : Nat → Nat → Int32) (K17 : (Nat → Nat → Int64) → Int32 → Option (Int32 × (Nat → Nat → Int64))) : Nat → (Nat → Nat → Int64) → Int32 → Int32 → Int32 → Option (Int32 × (Nat → Nat → Int64))
  | 0 => fun _ _ _ _ => none
  | n + 1 => fun L_0 v1 v2 v3 => F_X6_isKnown_s29 I_0 K17 (F_X6_isKnown_L29 I_0 K17 n) L_0 v1 v2 v3
def F_X6_isKnown_s17 (I_0 : Nat → Nat → Int32) (K17 : (Nat → Nat → Int64) → Int32 → Option (Int32 × (Nat → Nat → Int64))) (L_0 : Nat → Nat → Int64) (v1 : Int32) : Option (Int32 × (Nat → Nat → Int64)) :=
  if (I_0 0 29) ≤ v1 then zb (nI 0) <| some ((nI 0), L_0) else F_X6_isKnown_L29 I_0 K17 FU L_0 v1 (nI 1) (nI 0)
def F_X6_isKnown_L17 (I_0 : Nat → Nat → Int32) : Nat → (Nat → Nat → Int64) → Int32 → Option (Int32 × (Nat → Nat → Int64))
  | 0 => fun _ _ => none
  | n + 1 => fun L_0 v1 => F_X6_isKnown_s17 I_0 (F_X6_isKnown_L17 I_0 n) L_0 v1
def F_X6_isKnown (I_0 : Nat → Nat → Int32) (L_0 : Nat → Nat → Int64) : Option (Int32 × (Nat → Nat → Int64)) :=
  cal1 (F_X6_sort I_0 4 3216 L_0 ((nI 8) * (I_0 0 29))) fun L_0u12 => F_X6_isKnown_L17 I_0 FU L_0u12 (nI 0)
def F_X6_learn_b76 (I_0 : Nat → Nat → Int32) (L_0 : Nat → Nat → Int64) (v1 : Int32) (v6 : Int32) : Option (Int32 × (Nat → Nat → Int32) × (Nat → Nat → Int64)) :=
  cal2 (F_X6_load 3 3216 I_0 L_0 ((nI 8) * v1)) fun I_0u1 L_0u2 => some (v6, I_0u1, L_0u2)
def F_X6_learn_b43 (I_0 : Nat → Nat → Int32) (L_0 : Nat → Nat → Int64) (v1 : Int32) (s0 : Int32) : Option (Int32 × (Nat → Nat → Int32) × (Nat → Nat → Int64)) :=
  if (nI 2) ≤ s0 then F_X6_learn_b76 I_0 L_0 v1 s0 else cal1 (F_X6_store I_0 3 3216 L_0 ((nI 8) * (I_0 0 29))) fun L_0u5 => bnd (st2 I_0 0 29 ((I_0 0 29) + (nI 1))) fun I_0u7 => F_X6_learn_b76 I_0u7 L_0u5 v1 s0
def F_X6_learn (I_0 : Nat → Nat → Int32) (L_0 : Nat → Nat → Int64) (v1 : Int32) (v2 : Int32) (v3 : Int32) (v4 : Int32) (v5 : Int32) : Option (Int32 × (Nat → Nat → Int32) × (Nat → Nat → Int64)) :=
  cal2 (F_X6_play I_0 L_0 v2 v3 v4) fun I_0u8 L_0u9 => cal2 (F_X6_isKnown I_0u8 L_0u9) fun x11 L_0u12 => if x11 = nI 0 then if (I_0u8 0 29) = v5 then F_X6_learn_b43 I_0u8 L_0u12 v1 (nI 2) else cal1 (F_X6_isWon I_0u8 L_0u12) fun x16 => if x16 = nI 0 then F_X6_learn_b43 I_0u8 L_0u12 v1 (nI 0) else F_X6_learn_b43 I_0u8 L_0u12 v1 (nI 1) else F_X6_learn_b76 I_0u8 L_0u12 v1 (nI 0)
def F_X6_goOn_b75 (K14 : (Nat → Nat → Int32) → (Nat → Nat → Int64) → Int32 → Int32 → Int32 → Option (Int32 × (Nat → Nat → Int32) × (Nat → Nat → Int64))) (I_0 : Nat → Nat → Int32) (L_0 : Nat → Nat → Int64) (v1 : Int32) (v2 : Int32) (v3 : Int32) (v4 : Int32) (v5 : Int32) (v6 : Int32) (s0 : Int32) : Option (Int32 × (Nat → Nat → Int32) × (Nat → Nat → Int64)) :=
  if s0 = nI 0 then K14 I_0 L_0 v1 v2 (v3 + (nI 1)) else cal1 (F_X6_isMove I_0 L_0 v4 v5 v6) fun x2 => if x2 = nI 0 then K14 I_0 L_0 v1 v2 (v3 + (nI 1)) else cal3 (F_X6_learn I_0 L_0 v1 v4 v5 v6 v2) fun x5 I_0u6 L_0u7 => if x5 ≤ nI 0 then K14 I_0u6 L_0u7 v1 v2 (v3 + (nI 1)) else some (x5, I_0u6, L_0u7)
def F_X6_goOn_s14 (K14 : (Nat → Nat → Int32) → (Nat → Nat → Int64) → Int32 → Int32 → Int32 → Option (Int32 × (Nat → Nat → Int32) × (Nat → Nat → Int64))) (I_0 : Nat → Nat → Int32) (L_0 : Nat → Nat → Int64) (v1 : Int32) (v2 : Int32) (v3 : Int32) : Option (Int32 × (Nat → Nat → Int32) × (Nat → Nat → Int64)) :=
  if (nI 1440) ≤ v3 then some ((nI 0), I_0, L_0) else nz (nI 144) <| nz (nI 16) <| nz (nI 9) <| nz (nI 16) <| if (v3 / (nI 144)) = (nI 8) then F_X6_goOn_b75 K14 I_0 L_0 v1 v2 v3 (v3 / (nI 144)) ((v3 / (nI 16)) - (v3 / (nI 16)) / (nI 9) * (nI 9)) ((v3 - v3 / (nI 16) * (nI 16)) + (nI 1)) (nI 0) else if ((v3 - v3 / (nI 16) * (nI 16)) + (nI 1)) = (nI 1) then F_X6_goOn_b75 K14 I_0 L_0 v1 v2 v3 (v3 / (nI 144)) ((v3 / (nI 16)) - (v3 / (nI 16)) / (nI 9) * (nI 9)) ((v3 - v3 / (nI 16) * (nI 16)) + (nI 1)) (nI 1) else if (nI 5) ≤ (v3 / (nI 144)) then F_X6_goOn_b75 K14 I_0 L_0 v1 v2 v3 (v3 / (nI 144)) ((v3 / (nI 16)) - (v3 / (nI 16)) / (nI 9) * (nI 9)) ((v3 - v3 / (nI 16) * (nI 16)) + (nI 1)) (nI 0) else if (nI 5) ≤ ((v3 / (nI 16)) - (v3 / (nI 16)) / (nI 9) * (nI 9)) then F_X6_goOn_b75 K14 I_0 L_0 v1 v2 v3 (v3 / (nI 144)) ((v3 / (nI 16)) - (v3 / (nI 16)) / (nI 9) * (nI 9)) ((v3 - v3 / (nI 16) * (nI 16)) + (nI 1)) (nI 0) else F_X6_goOn_b75 K14 I_0 L_0 v1 v2 v3 (v3 / (nI 144)) ((v3 / (nI 16)) - (v3 / (nI 16)) / (nI 9) * (nI 9)) ((v3 - v3 / (nI 16) * (nI 16)) + (nI 1)) (nI 1)
def F_X6_goOn_L14 : Nat → (Nat → Nat → Int32) → (Nat → Nat → Int64) → Int32 → Int32 → Int32 → Option (Int32 × (Nat → Nat → Int32) × (Nat → Nat → Int64))
  | 0 => fun _ _ _ _ _ => none
  | n + 1 => fun I_0 L_0 v1 v2 v3 => F_X6_goOn_s14 (F_X6_goOn_L14 n) I_0 L_0 v1 v2 v3
def F_X6_goOn (I_0 : Nat → Nat → Int32) (L_0 : Nat → Nat → Int64) (v1 : Int32) (v2 : Int32) : Option (Int32 × (Nat → Nat → Int32) × (Nat → Nat → Int64)) :=
  cal2 (F_X6_load 3 3216 I_0 L_0 ((nI 8) * v1)) fun I_0u19 L_0u20 => F_X6_goOn_L14 FU I_0u19 L_0u20 v1 v2 (nI 0)
def F_X6_look_b118 (I_0 : Nat → Nat → Int32) (L_0 : Nat → Nat → Int64) (v2 : Int32) : Option (Int32 × (Nat → Nat → Int32) × (Nat → Nat → Int64)) :=
  cal2 (F_X6_load 3 3216 I_0 L_0 (nI 0)) fun I_0u1 L_0u2 => some (v2, I_0u1, L_0u2)
def F_X6_look_b88 (K41 : (Nat → Nat → Int32) → (Nat → Nat → Int64) → Int32 → Int32 → Int32 → Int32 → Option (Int32 × (Nat → Nat → Int32) × (Nat → Nat → Int64))) (I_0 : Nat → Nat → Int32) (L_0 : Nat → Nat → Int64) (v1 : Int32) (v3 : Int32) (v4 : Int32) (v6 : Int32) : Option (Int32 × (Nat → Nat → Int32) × (Nat → Nat → Int64)) :=
  if v6 = (nI 1) then K41 I_0 L_0 v1 v4 v3 (v4 + (nI 1)) else if v6 = (nI 2) then K41 I_0 L_0 v1 (-2) v3 (v4 + (nI 1)) else K41 I_0 L_0 v1 (-1) v3 (v4 + (nI 1))
def F_X6_look_s63 (K41 : (Nat → Nat → Int32) → (Nat → Nat → Int64) → Int32 → Int32 → Int32 → Int32 → Option (Int32 × (Nat → Nat → Int32) × (Nat → Nat → Int64))) (K63 : (Nat → Nat → Int32) → (Nat → Nat → Int64) → Int32 → Int32 → Int32 → Int32 → Int32 → Option (Int32 × (Nat → Nat → Int32) × (Nat → Nat → Int64))) (I_0 : Nat → Nat → Int32) (L_0 : Nat → Nat → Int64) (v1 : Int32) (v3 : Int32) (v4 : Int32) (v5 : Int32) (v6 : Int32) : Option (Int32 × (Nat → Nat → Int32) × (Nat → Nat → Int64)) :=
  if v5 ≤ v3 then F_X6_look_b88 K41 I_0 L_0 v1 v3 v4 v6 else if v6 = nI 0 then cal3 (F_X6_goOn I_0 L_0 v3 v1) fun x8 I_0u9 L_0u10 => K63 I_0u9 L_0u10 v1 (v3 + (nI 1)) v4 v5 x8 else F_X6_look_b88 K41 I_0 L_0 v1 v3 v4 v6
def F_X6_look_L63 (K41 : (Nat → Nat → Int32) → (Nat → Nat → Int64) → Int32 → Int32 → Int32 → Int32 → Option (Int32 × (Nat → Nat → Int32) × (Nat → Nat → Int64))) : Nat → (Nat → Nat → Int32) → (Nat → Nat → Int64) → Int32 → Int32 → Int32 → Int32 → Int32 → Option (Int32 × (Nat → Nat → Int32) × (Nat → Nat → Int64))
  | 0 => fun _ _ _ _ _ _ _ => none
  | n + 1 => fun I_0 L_0 v1 v3 v4 v5 v6 => F_X6_look_s63 K41 (F_X6_look_L63 K41 n) I_0 L_0 v1 v3 v4 v5 v6
def F_X6_look_s41 (K41 : (Nat → Nat → Int32) → (Nat → Nat → Int64) → Int32 → Int32 → Int32 → Int32 → Option (Int32 × (Nat → Nat → Int32) × (Nat → Nat → Int64))) (I_0 : Nat → Nat → Int32) (L_0 : Nat → Nat → Int64) (v1 : Int32) (v2 : Int32) (v3 : Int32) (v4 : Int32) : Option (Int32 × (Nat → Nat → Int32) × (Nat → Nat → Int64)) :=
  if v2 = (-1) then if (I_0 0 29) ≤ v3 then F_X6_look_b118 I_0 L_0 v2 else F_X6_look_L63 K41 FU I_0 L_0 v1 v3 v4 (I_0 0 29) (nI 0) else F_X6_look_b118 I_0 L_0 v2
def F_X6_look_L41 : Nat → (Nat → Nat → Int32) → (Nat → Nat → Int64) → Int32 → Int32 → Int32 → Int32 → Option (Int32 × (Nat → Nat → Int32) × (Nat → Nat → Int64))
  | 0 => fun _ _ _ _ _ _ => none
  | n + 1 => fun I_0 L_0 v1 v2 v3 v4 => F_X6_look_s41 (F_X6_look_L41 n) I_0 L_0 v1 v2 v3 v4
def F_X6_look_b35 (I_0 : Nat → Nat → Int32) (L_0 : Nat → Nat → Int64) (v1 : Int32) (s0 : Int32) : Option (Int32 × (Nat → Nat → Int32) × (Nat → Nat → Int64)) :=
  F_X6_look_L41 FU I_0 L_0 v1 s0 (nI 0) (nI 1)
def F_X6_look (I_0 : Nat → Nat → Int32) (L_0 : Nat → Nat → Int64) (v1 : Int32) : Option (Int32 × (Nat → Nat → Int32) × (Nat → Nat → Int64)) :=
  bnd (st2 I_0 0 29 (nI 1)) fun I_0u14 => cal1 (F_X6_store I_0u14 3 3216 L_0 (nI 0)) fun L_0u15 => cal1 (F_X6_sort I_0u14 4 3216 L_0u15 (nI 0)) fun L_0u17 => cal1 (F_X6_isWon I_0u14 L_0u17) fun x19 => if x19 = nI 0 then F_X6_look_b35 I_0u14 L_0u17 v1 (-1) else F_X6_look_b35 I_0u14 L_0u17 v1 (nI 0)
def F_X6_search_b17 (I_0 : Nat → Nat → Int32) (L_0 : Nat → Nat → Int64) (v1 : Int32) (s1 : Int32) : Option (Int32 × (Nat → Nat → Int32) × (Nat → Nat → Int64)) :=
  cal2 (F_X6_goesWell L_0 I_0 s1) fun x1 I_0u2 => if x1 = nI 0 then some ((nI 0), I_0u2, L_0) else cal3 (F_X6_look I_0u2 L_0 v1) fun x5 I_0u6 L_0u7 => some (x5, I_0u6, L_0u7)
def F_X6_search (I_0 : Nat → Nat → Int32) (L_0 : Nat → Nat → Int64) (v1 : Int32) : Option (Int32 × (Nat → Nat → Int32) × (Nat → Nat → Int64)) :=
  cal1 (F_X6_in v1 (nI 1) (nI 400)) fun x9 => if x9 = nI 0 then F_X6_search_b17 I_0 L_0 v1 (nI 1) else F_X6_search_b17 I_0 L_0 v1 (nI 0)
def F_X6_known_b17 (I_0 : Nat → Nat → Int32) (L_0 : Nat → Nat → Int64) (v1 : Int32) (s1 : Int32) : Option (Int32 × (Nat → Nat → Int32) × (Nat → Nat → Int64)) :=
  cal2 (F_X6_goesWell L_0 I_0 s1) fun x1 I_0u2 => if x1 = nI 0 then some ((nI 0), I_0u2, L_0) else cal3 (F_X6_look I_0u2 L_0 v1) fun x5 I_0u6 L_0u7 => some ((I_0u6 0 29), I_0u6, L_0u7)
def F_X6_known (I_0 : Nat → Nat → Int32) (L_0 : Nat → Nat → Int64) (v1 : Int32) : Option (Int32 × (Nat → Nat → Int32) × (Nat → Nat → Int64)) :=
  cal1 (F_X6_in v1 (nI 1) (nI 400)) fun x9 => if x9 = nI 0 then F_X6_known_b17 I_0 L_0 v1 (nI 1) else F_X6_known_b17 I_0 L_0 v1 (nI 0)
def F_X6_hint_s38 (K38 : (Nat → Nat → Int32) → (Nat → Nat → Int64) → Int32 → Int32 → Int32 → Option (Int32 × (Nat → Nat → Int32) × (Nat → Nat → Int64))) (I_0 : Nat → Nat → Int32) (L_0 : Nat → Nat → Int64) (v1 : Int32) (v2 : Int32) (v3 : Int32) : Option (Int32 × (Nat → Nat → Int32) × (Nat → Nat → Int64)) :=
  if v2 ≤ v3 then some ((-1), I_0, L_0) else cal1 (F_X6_find I_0 L_0 v3) fun x2 => nz (nI 1000) <| nz (nI 100) <| nz (nI 10) <| nz (nI 100) <| cal2 (F_X6_play I_0 L_0 (x2 / (nI 1000)) ((x2 / (nI 100)) - (x2 / (nI 100)) / (nI 10) * (nI 10)) (x2 - x2 / (nI 100) * (nI 100))) fun I_0u8 L_0u9 => cal3 (F_X6_look I_0u8 L_0u9 (nI 100)) fun x11 I_0u12 L_0u13 => cal2 (F_X6_load 2 8 I_0u12 L_0u13 (nI 0)) fun I_0u15 L_0u16 => if x11 = (v1 - (nI 1)) then some (x2, I_0u15, L_0u16) else K38 I_0u15 L_0u16 v1 v2 (v3 + (nI 1))
def F_X6_hint_L38 : Nat → (Nat → Nat → Int32) → (Nat → Nat → Int64) → Int32 → Int32 → Int32 → Option (Int32 × (Nat → Nat → Int32) × (Nat → Nat → Int64))
  | 0 => fun _ _ _ _ _ => none
  | n + 1 => fun I_0 L_0 v1 v2 v3 => F_X6_hint_s38 (F_X6_hint_L38 n) I_0 L_0 v1 v2 v3
def F_X6_hint (I_0 : Nat → Nat → Int32) (L_0 : Nat → Nat → Int64) : Option (Int32 × (Nat → Nat → Int32) × (Nat → Nat → Int64)) :=
  bnd (st2 I_0 0 0 (nI 0)) fun I_0u19 => cal3 (F_X6_look I_0u19 L_0 (nI 100)) fun x20 I_0u21 L_0u22 => if (nI 1) ≤ x20 then cal1 (F_X6_store I_0u21 2 8 L_0u22 (nI 0)) fun L_0u25 => cal1 (F_X6_find I_0u21 L_0u25 (-1)) fun x27 => F_X6_hint_L38 FU I_0u21 L_0u25 x20 ((-1) - x27) (nI 0) else some ((-1), I_0u21, L_0u22)
def F_X6_odds_b209 (I_0 : Nat → Nat → Int32) (L_0 : Nat → Nat → Int64) (v6 : Int32) (v7 : Int32) : Option (Int32 × (Nat → Nat → Int32) × (Nat → Nat → Int64)) :=
  cal2 (F_X6_load 2 8 I_0 L_0 (nI 0)) fun I_0u1 L_0u2 => some ((((nI 10) * v6) + v7), I_0u1, L_0u2)
def F_X6_odds_s182 (K182 : (Nat → Nat → Int32) → (Nat → Nat → Int64) → Int32 → Int32 → Int32 → Option (Int32 × (Nat → Nat → Int32) × (Nat → Nat → Int64))) (I_0 : Nat → Nat → Int32) (L_0 : Nat → Nat → Int64) (v6 : Int32) (v7 : Int32) (v8 : Int32) : Option (Int32 × (Nat → Nat → Int32) × (Nat → Nat → Int64)) :=
  if (nI 9) ≤ v8 then F_X6_odds_b209 I_0 L_0 v6 v7 else rdA (I_0 2) 9 v8 fun x5 => wrA I_0 1 9 v8 x5 fun I_0u7 => K182 I_0u7 L_0 v6 v7 (v8 + (nI 1))
def F_X6_odds_L182 : Nat → (Nat → Nat → Int32) → (Nat → Nat → Int64) → Int32 → Int32 → Int32 → Option (Int32 × (Nat → Nat → Int32) × (Nat → Nat → Int64))
  | 0 => fun _ _ _ _ _ => none
  | n + 1 => fun I_0 L_0 v6 v7 v8 => F_X6_odds_s182 (F_X6_odds_L182 n) I_0 L_0 v6 v7 v8
def F_X6_odds_b170 (K119 : (Nat → Nat → Int32) → (Nat → Nat → Int64) → Int32 → Int32 → Int32 → Int32 → Int32 → Int32 → Int32 → Option (Int32 × (Nat → Nat → Int32) × (Nat → Nat → Int64))) (I_0 : Nat → Nat → Int32) (L_0 : Nat → Nat → Int64) (v1 : Int32) (v2 : Int32) (v3 : Int32) (v4 : Int32) (v6 : Int32) (v8 : Int32) (s0 : Int32) (s1 : Int32) : Option (Int32 × (Nat → Nat → Int32) × (Nat → Nat → Int64)) :=
  K119 I_0 L_0 v1 v2 v3 v4 v6 (s0 + s1) (v8 + (nI 1))
def F_X6_odds_b154 (K119 : (Nat → Nat → Int32) → (Nat → Nat → Int64) → Int32 → Int32 → Int32 → Int32 → Int32 → Int32 → Int32 → Option (Int32 × (Nat → Nat → Int32) × (Nat → Nat → Int64))) (I_0 : Nat → Nat → Int32) (L_0 : Nat → Nat → Int64) (v1 : Int32) (v2 : Int32) (v3 : Int32) (v4 : Int32) (v7 : Int32) (v8 : Int32) (v9 : Int32) (s0 : Int32) (s1 : Int32) : Option (Int32 × (Nat → Nat → Int32) × (Nat → Nat → Int64)) :=
  if v9 = (-1) then F_X6_odds_b170 K119 I_0 L_0 v1 v2 v3 v4 (s0 + s1) v8 v7 (nI 1) else F_X6_odds_b170 K119 I_0 L_0 v1 v2 v3 v4 (s0 + s1) v8 v7 (nI 0)
def F_X6_odds_s119 (K119 : (Nat → Nat → Int32) → (Nat → Nat → Int64) → Int32 → Int32 → Int32 → Int32 → Int32 → Int32 → Int32 → Option (Int32 × (Nat → Nat → Int32) × (Nat → Nat → Int64))) (I_0 : Nat → Nat → Int32) (L_0 : Nat → Nat → Int64) (v1 : Int32) (v2 : Int32) (v3 : Int32) (v4 : Int32) (v6 : Int32) (v7 : Int32) (v8 : Int32) : Option (Int32 × (Nat → Nat → Int32) × (Nat → Nat → Int64)) :=
  if v3 ≤ v8 then F_X6_odds_L182 FU I_0 L_0 v6 v7 (nI 0) else cal2 (F_X6_lay I_0 L_0 v1 (v2 + v8)) fun I_0u11 L_0u12 => cal3 (F_X6_look I_0u11 L_0u12 v4) fun x14 I_0u15 L_0u16 => if x14 < nI 0 then F_X6_odds_b154 K119 I_0u15 L_0u16 v1 v2 v3 v4 v7 v8 x14 v6 (nI 0) else F_X6_odds_b154 K119 I_0u15 L_0u16 v1 v2 v3 v4 v7 v8 x14 v6 (nI 1)
def F_X6_odds_L119 : Nat → (Nat → Nat → Int32) → (Nat → Nat → Int64) → Int32 → Int32 → Int32 → Int32 → Int32 → Int32 → Int32 → Option (Int32 × (Nat → Nat → Int32) × (Nat → Nat → Int64))
  | 0 => fun _ _ _ _ _ _ _ _ _ => none
  | n + 1 => fun I_0 L_0 v1 v2 v3 v4 v6 v7 v8 => F_X6_odds_s119 (F_X6_odds_L119 n) I_0 L_0 v1 v2 v3 v4 v6 v7 v8
def F_X6_odds_b106 (I_0 : Nat → Nat → Int32) (L_0 : Nat → Nat → Int64) (v1 : Int32) (v2 : Int32) (v3 : Int32) (v4 : Int32) : Option (Int32 × (Nat → Nat → Int32) × (Nat → Nat → Int64)) :=
  cal1 (F_X6_takeRules L_0 I_0) fun I_0u19 => F_X6_odds_L119 FU I_0u19 L_0 v1 v2 v3 v4 (nI 0) (nI 0) (nI 0)
def F_X6_odds_s79 (K79 : (Nat → Nat → Int32) → (Nat → Nat → Int64) → Int32 → Int32 → Int32 → Int32 → Int32 → Option (Int32 × (Nat → Nat → Int32) × (Nat → Nat → Int64))) (I_0 : Nat → Nat → Int32) (L_0 : Nat → Nat → Int64) (v1 : Int32) (v2 : Int32) (v3 : Int32) (v4 : Int32) (v6 : Int32) : Option (Int32 × (Nat → Nat → Int32) × (Nat → Nat → Int64)) :=
  if (nI 9) ≤ v6 then F_X6_odds_b106 I_0 L_0 v1 v2 v3 v4 else rdA (I_0 1) 9 v6 fun x22 => wrA I_0 2 9 v6 x22 fun I_0u24 => K79 I_0u24 L_0 v1 v2 v3 v4 (v6 + (nI 1))
def F_X6_odds_L79 : Nat → (Nat → Nat → Int32) → (Nat → Nat → Int64) → Int32 → Int32 → Int32 → Int32 → Int32 → Option (Int32 × (Nat → Nat → Int32) × (Nat → Nat → Int64))
  | 0 => fun _ _ _ _ _ _ _ => none
  | n + 1 => fun I_0 L_0 v1 v2 v3 v4 v6 => F_X6_odds_s79 (F_X6_odds_L79 n) I_0 L_0 v1 v2 v3 v4 v6
def F_X6_odds_b59 (I_0 : Nat → Nat → Int32) (L_0 : Nat → Nat → Int64) (v1 : Int32) (v2 : Int32) (v3 : Int32) (v4 : Int32) (s1 : Int32) : Option (Int32 × (Nat → Nat → Int32) × (Nat → Nat → Int64)) :=
  cal2 (F_X6_goesWell L_0 I_0 s1) fun x26 I_0u27 => if x26 = nI 0 then some ((nI 0), I_0u27, L_0) else cal1 (F_X6_store I_0u27 2 8 L_0 (nI 0)) fun L_0u30 => F_X6_odds_L79 FU I_0u27 L_0u30 v1 v2 v3 v4 (nI 0)
def F_X6_odds_b46 (I_0 : Nat → Nat → Int32) (L_0 : Nat → Nat → Int64) (v1 : Int32) (v2 : Int32) (v3 : Int32) (v4 : Int32) (s0 : Int32) : Option (Int32 × (Nat → Nat → Int32) × (Nat → Nat → Int64)) :=
  if s0 = nI 0 then F_X6_odds_b59 I_0 L_0 v1 v2 v3 v4 (nI 1) else F_X6_odds_b59 I_0 L_0 v1 v2 v3 v4 (nI 0)
def F_X6_odds (I_0 : Nat → Nat → Int32) (L_0 : Nat → Nat → Int64) (v1 : Int32) (v2 : Int32) (v3 : Int32) (v4 : Int32) : Option (Int32 × (Nat → Nat → Int32) × (Nat → Nat → Int64)) :=
  cal1 (F_X6_in v1 (nI 0) (nI 1)) fun x33 => if x33 = nI 0 then F_X6_odds_b46 I_0 L_0 v1 v2 v3 v4 (nI 0) else cal1 (F_X6_in v2 (nI 0) (nI 1000000)) fun x36 => if x36 = nI 0 then F_X6_odds_b46 I_0 L_0 v1 v2 v3 v4 (nI 0) else cal1 (F_X6_in v3 (nI 1) (nI 8)) fun x39 => if x39 = nI 0 then F_X6_odds_b46 I_0 L_0 v1 v2 v3 v4 (nI 0) else cal1 (F_X6_in v4 (nI 1) (nI 200)) fun x42 => if x42 = nI 0 then F_X6_odds_b46 I_0 L_0 v1 v2 v3 v4 (nI 0) else F_X6_odds_b46 I_0 L_0 v1 v2 v3 v4 (nI 1)
def F_X0_isSameAs_s2 (D_0 : Nat → Nat → Int32) (D_1 : Nat → Nat → Int32) (K2 : Int32 → Int32 → Option (Int32)) (v2 : Int32) (v3 : Int32) : Option (Int32) :=
  if v2 ≤ v3 then zb (nI 1) <| some (nI 1) else cal1 (F_X0_takenAt D_0 v3) fun x3 => cal1 (F_X0_takenAt D_1 v3) fun x5 => if x3 = x5 then K2 v2 (v3 + (nI 1)) else zb (nI 0) <| some (nI 0)
def F_X0_isSameAs_L2 (D_0 : Nat → Nat → Int32) (D_1 : Nat → Nat → Int32) : Nat → Int32 → Int32 → Option (Int32)
  | 0 => fun _ _ => none
  | n + 1 => fun v2 v3 => F_X0_isSameAs_s2 D_0 D_1 (F_X0_isSameAs_L2 D_0 D_1 n) v2 v3
def F_X0_isSameAs (D_0 : Nat → Nat → Int32) (D_1 : Nat → Nat → Int32) (v2 : Int32) : Option (Int32) :=
  F_X0_isSameAs_L2 D_0 D_1 FU v2 (nI 0)
def F_X1_copyFrom (r_1 : Nat → Int32) (r_0 : Nat → Int32) : Option ((Nat → Int32)) :=
  bnd (upd r_0 0 (r_1 0)) fun r_0u1 => bnd (upd r_0u1 1 (r_1 1)) fun r_0u2 => bnd (upd r_0u2 2 (r_1 2)) fun r_0u3 => bnd (upd r_0u3 3 (r_1 3)) fun r_0u4 => bnd (upd r_0u4 4 (r_1 4)) fun r_0u5 => bnd (upd r_0u5 5 (r_1 5)) fun r_0u6 => bnd (upd r_0u6 6 (r_1 6)) fun r_0u7 => bnd (upd r_0u7 7 (r_1 7)) fun r_0u8 => zb (r_1 8) <| bnd (upd r_0u8 8 (r_1 8)) fun r_0u9 => some r_0u9
def F_X4_highestUp_s21 (T_0 : Nat → Nat → Int32) (r_0_rules : Nat → Int32) (K21 : Int32 → Int32 → Option (Int32)) (v1 : Int32) (v2 : Int32) : Option (Int32) :=
  if v2 ≤ nI 0 then some (-1) else cal1 (F_X4_isUp T_0 (((v1 * (r_0_rules 1)) + v2) - (nI 1))) fun x2 => if x2 = nI 0 then K21 v1 (v2 + (-1)) else some (((v1 * (r_0_rules 1)) + v2) - (nI 1))
def F_X4_highestUp_L21 (T_0 : Nat → Nat → Int32) (r_0_rules : Nat → Int32) : Nat → Int32 → Int32 → Option (Int32)
  | 0 => fun _ _ => none
  | n + 1 => fun v1 v2 => F_X4_highestUp_s21 T_0 r_0_rules (F_X4_highestUp_L21 T_0 r_0_rules n) v1 v2
def F_X4_highestUp (T_0 : Nat → Nat → Int32) (r_0_rules : Nat → Int32) (v1 : Int32) : Option (Int32) :=
  if v1 < (r_0_rules 0) then F_X4_highestUp_L21 T_0 r_0_rules FU v1 (r_0_rules 1) else some (-1)
def F_X4_heightOf_s8 (T_0 : Nat → Nat → Int32) (K8 : Int32 → Int32 → Option (Int32)) (v2 : Int32) (v3 : Int32) : Option (Int32) :=
  if v3 = (-1) then some v2 else if (nI 16) ≤ v2 then some v2 else cal1 (F_X4_under T_0 v3) fun x3 => K8 (v2 + (nI 1)) x3
def F_X4_heightOf_L8 (T_0 : Nat → Nat → Int32) : Nat → Int32 → Int32 → Option (Int32)
  | 0 => fun _ _ => none
  | n + 1 => fun v2 v3 => F_X4_heightOf_s8 T_0 (F_X4_heightOf_L8 T_0 n) v2 v3
def F_X4_heightOf (T_0 : Nat → Nat → Int32) (v1 : Int32) : Option (Int32) :=
  cal1 (F_X4_topOf T_0 v1) fun x5 => F_X4_heightOf_L8 T_0 FU (nI 0) x5
def F_X4_seenInColumn (T_0 : Nat → Nat → Int32) (v1 : Int32) (v2 : Int32) : Option (Int32) :=
  cal1 (F_X4_heightOf T_0 v1) fun x1 => if v2 < x1 then cal1 (F_X4_fromTop T_0 v1 ((x1 - (nI 1)) - v2)) fun x4 => cal1 (F_X4_liesHidden T_0 x4) fun x6 => if x6 = nI 0 then some x4 else some (-2) else some (-1)
end
section
/-! ===== the functions of the methods that throw: 0 and the answer, or which exception; written by program out of the bytecode ===== -/
def F_X5_deck (P_0 : Nat → Int32) (r_0_nextRules : Nat → Int32) (v1 : Int32) (v2 : Int32) : Option (Nat × Int32 × (Nat → Int32)) :=
  cal1 (F_X5_isWithin v1 (nI 1) (nI 4)) fun x1 => if x1 = nI 0 then some (1, (nI 0), r_0_nextRules) else cal1 (F_X5_isWithin v2 (nI 1) (nI 6)) fun x4 => if x4 = nI 0 then some (1, (nI 0), r_0_nextRules) else cal1 (F_X5_isWithin (v1 * v2) (nI 2) (nI 16)) fun x7 => if x7 = nI 0 then some (1, (nI 0), r_0_nextRules) else if (r_0_nextRules 6) < (v1 * v2) then bnd (upd r_0_nextRules 0 v1) fun r_0_nextRulesu11 => bnd (upd r_0_nextRulesu11 1 v2) fun r_0_nextRulesu12 => some (0, (v1 * v2), r_0_nextRulesu12) else some (1, (nI 0), r_0_nextRules)
def F_X5_table (P_0 : Nat → Int32) (r_0_nextRules : Nat → Int32) (v1 : Int32) (v2 : Int32) (v3 : Int32) (v4 : Int32) : Option (Nat × (Nat → Int32)) :=
  cal1 (F_X5_isWithin v1 (nI 1) (nI 5)) fun x1 => if x1 = nI 0 then some (1, r_0_nextRules) else cal1 (F_X5_isWithin v2 (nI 0) (nI 2)) fun x4 => if x4 = nI 0 then some (1, r_0_nextRules) else cal1 (F_X5_isWithin v3 (nI 0) (nI 2)) fun x7 => if x7 = nI 0 then some (1, r_0_nextRules) else cal1 (F_X5_isWithin v4 (nI 0) (nI 2)) fun x10 => if x10 = nI 0 then some (1, r_0_nextRules) else bnd (upd r_0_nextRules 2 v1) fun r_0_nextRulesu13 => bnd (upd r_0_nextRulesu13 3 v2) fun r_0_nextRulesu14 => bnd (upd r_0_nextRulesu14 4 v3) fun r_0_nextRulesu15 => bnd (upd r_0_nextRulesu15 5 v4) fun r_0_nextRulesu16 => some (0, r_0_nextRulesu16)
def F_X5_stock (P_0 : Nat → Int32) (r_0_nextRules : Nat → Int32) (v1 : Int32) (v2 : Int32) (v3 : Int32) : Option (Nat × (Nat → Int32)) :=
  cal1 (F_X5_isWithin v1 (nI 0) (nI 8)) fun x1 => if x1 = nI 0 then some (1, r_0_nextRules) else cal1 (F_X5_isWithin v2 (nI 0) (nI 2)) fun x4 => if x4 = nI 0 then some (1, r_0_nextRules) else cal1 (F_X1_cards r_0_nextRules) fun x7 => if v1 < x7 then bnd (upd r_0_nextRules 6 v1) fun r_0_nextRulesu10 => bnd (upd r_0_nextRulesu10 7 v2) fun r_0_nextRulesu11 => zb v3 <| bnd (upd r_0_nextRulesu11 8 v3) fun r_0_nextRulesu12 => some (0, r_0_nextRulesu12) else some (1, r_0_nextRules)
def F_X5_deal (r_0_nextRules : Nat → Int32) (P_0 : Nat → Int32) (T_0_now : Nat → Nat → Int32) (r_0_rules : Nat → Int32) (D_0_dealt : Nat → Nat → Int32) (v1 : Int32) (v2 : Int32) : Option (Nat × Int32 × (Nat → Int32) × (Nat → Nat → Int32) × (Nat → Int32) × (Nat → Nat → Int32)) :=
  cal1 (F_X5_isWithin v1 (nI 0) (nI 1)) fun x1 => if x1 = nI 0 then some (1, (nI 0), P_0, T_0_now, r_0_rules, D_0_dealt) else cal1 (F_X5_isWithin v2 (nI 0) (nI 1000000)) fun x4 => if x4 = nI 0 then some (1, (nI 0), P_0, T_0_now, r_0_rules, D_0_dealt) else cal1 (F_X5_moneyOfDeal P_0 T_0_now r_0_rules) fun x7 => bnd (upd P_0 9 ((P_0 9) + x7)) fun P_0u9 => cal1 (F_X1_copyFrom r_0_nextRules r_0_rules) fun r_0_rulesu10 => cal3 (F_X5_dealNumber r_0_rulesu10 P_0u9 D_0_dealt T_0_now v1 v2) fun P_0u12 D_0_dealtu13 T_0_nowu14 => cal1 (F_X1_inColumns r_0_rulesu10) fun x16 => some (0, x16, P_0u12, T_0_nowu14, r_0_rulesu10, D_0_dealtu13)
def F_X5_numberOf_s21 (P_0 : Nat → Int32) (r_0_rules : Nat → Int32) (D_0_dealt : Nat → Nat → Int32) (K21 : (Nat → Nat → Int32) → Int32 → Int32 → Option (Nat × Int32 × (Nat → Nat → Int32))) (D_0_tried : Nat → Nat → Int32) (v1 : Int32) (v2 : Int32) : Option (Nat × Int32 × (Nat → Nat → Int32)) :=
  if (nI 500) < v2 then some (0, (-1), D_0_tried) else cal1 (F_X1_cards r_0_rules) fun x2 => cal1 (F_X0_draw D_0_tried v1 v2 x2) fun D_0_triedu4 => cal1 (F_X1_cards r_0_rules) fun x6 => cal1 (F_X0_isSameAs D_0_triedu4 D_0_dealt x6) fun x8 => if x8 = nI 0 then K21 D_0_triedu4 v1 (v2 + (nI 1)) else some (0, v2, D_0_triedu4)
def F_X5_numberOf_L21 (P_0 : Nat → Int32) (r_0_rules : Nat → Int32) (D_0_dealt : Nat → Nat → Int32) : Nat → (Nat → Nat → Int32) → Int32 → Int32 → Option (Nat × Int32 × (Nat → Nat → Int32))
  | 0 => fun _ _ _ => none
  | n + 1 => fun D_0_tried v1 v2 => F_X5_numberOf_s21 P_0 r_0_rules D_0_dealt (F_X5_numberOf_L21 P_0 r_0_rules D_0_dealt n) D_0_tried v1 v2
def F_X5_numberOf (P_0 : Nat → Int32) (r_0_rules : Nat → Int32) (D_0_dealt : Nat → Nat → Int32) (D_0_tried : Nat → Nat → Int32) (v1 : Int32) : Option (Nat × Int32 × (Nat → Nat → Int32)) :=
  cal1 (F_X5_isWithin v1 (nI 0) (nI 1)) fun x11 => if x11 = nI 0 then some (1, (nI 0), D_0_tried) else F_X5_numberOf_L21 P_0 r_0_rules D_0_dealt FU D_0_tried v1 (nI 0)
def F_X5_move_b63 (r_0_rules : Nat → Int32) (P_0 : Nat → Int32) (T_0_now : Nat → Nat → Int32) (S_0_past : Nat → Nat → Int64) (v1 : Int32) (v2 : Int32) (v3 : Int32) (s0 : Int32) (s1 : Int32) (s2 : Int32) : Option (Nat × Int32 × (Nat → Int32) × (Nat → Nat → Int32) × (Nat → Nat → Int64)) :=
  cal1 (F_X5_isWithin s0 s1 s2) fun x1 => if x1 = nI 0 then some (1, (nI 0), P_0, T_0_now, S_0_past) else if (nI 200) ≤ (P_0 7) then some (2, (nI 0), P_0, T_0_now, S_0_past) else cal1 (F_X4_isMove T_0_now r_0_rules v1 v2 v3) fun x5 => if x5 = nI 0 then some (2, (nI 0), P_0, T_0_now, S_0_past) else cal3 (F_X5_doMove P_0 S_0_past T_0_now v1 v2 v3) fun P_0u8 S_0_pastu9 T_0_nowu10 => cal1 (F_X4_cardsUp T_0_nowu10 r_0_rules) fun x12 => some (0, x12, P_0u8, T_0_nowu10, S_0_pastu9)
def F_X5_move (r_0_rules : Nat → Int32) (P_0 : Nat → Int32) (T_0_now : Nat → Nat → Int32) (S_0_past : Nat → Nat → Int64) (v1 : Int32) (v2 : Int32) (v3 : Int32) : Option (Nat × Int32 × (Nat → Int32) × (Nat → Nat → Int32) × (Nat → Nat → Int64)) :=
  cal1 (F_X5_isWithin v1 (nI 0) (nI 9)) fun x14 => if x14 = nI 0 then some (1, (nI 0), P_0, T_0_now, S_0_past) else if v1 = (nI 8) then some (1, (nI 0), P_0, T_0_now, S_0_past) else cal1 (F_X5_isWithin v2 (nI 0) (nI 8)) fun x18 => if x18 = nI 0 then some (1, (nI 0), P_0, T_0_now, S_0_past) else if v1 = v2 then some (1, (nI 0), P_0, T_0_now, S_0_past) else cal1 (F_X5_isColumn v1) fun x22 => if x22 = nI 0 then F_X5_move_b63 r_0_rules P_0 T_0_now S_0_past v1 v2 v3 v3 (nI 1) (nI 1) else cal1 (F_X5_isColumn v2) fun x25 => if x25 = nI 0 then F_X5_move_b63 r_0_rules P_0 T_0_now S_0_past v1 v2 v3 v3 (nI 1) (nI 1) else F_X5_move_b63 r_0_rules P_0 T_0_now S_0_past v1 v2 v3 v3 (nI 1) (nI 16)
def F_X5_undo (S_0_past : Nat → Nat → Int64) (P_0 : Nat → Int32) (T_0_now : Nat → Nat → Int32) (v1 : Int32) : Option (Nat × Int32 × (Nat → Int32) × (Nat → Nat → Int32)) :=
  cal1 (F_X5_isWithin v1 (nI 1) (nI 200)) fun x1 => if x1 = nI 0 then some (1, (nI 0), P_0, T_0_now) else if (if (P_0 7) < v1 then (P_0 7) else v1) ≤ nI 0 then some (0, (if (P_0 7) < v1 then (P_0 7) else v1), P_0, T_0_now) else bnd (upd P_0 7 ((P_0 7) - (if (P_0 7) < v1 then (P_0 7) else v1))) fun P_0u5 => bnd (upd P_0u5 8 ((P_0u5 8) + (if (P_0 7) < v1 then (P_0 7) else v1))) fun P_0u6 => cal1 (F_X3_fetch S_0_past 200 T_0_now (P_0u6 7)) fun T_0_nowu7 => some (0, (if (P_0 7) < v1 then (P_0 7) else v1), P_0u6, T_0_nowu7)
def F_X5_moveAt (P_0 : Nat → Int32) (r_0_rules : Nat → Int32) (T_0_now : Nat → Nat → Int32) (v1 : Int32) : Option (Nat × Int32 × (Nat → Nat → Int32)) :=
  if nI 0 ≤ v1 then cal1 (F_X4_listMoves r_0_rules T_0_now) fun T_0_nowu2 => cal1 (F_X4_listedAt T_0_nowu2 v1) fun x4 => some (0, x4, T_0_nowu2) else some (3, (nI 0), T_0_now)
def F_X5_card (P_0 : Nat → Int32) (T_0_now : Nat → Nat → Int32) (r_0_rules : Nat → Int32) (v1 : Int32) (v2 : Int32) : Option (Nat × Int32) :=
  cal1 (F_X5_isWithin v1 (nI 0) (nI 9)) fun x1 => if x1 = nI 0 then some (1, (nI 0)) else if nI 0 ≤ v2 then if v1 = (nI 8) then cal1 (F_X4_highestUp T_0_now r_0_rules v2) fun x13 => some (0, x13) else cal1 (F_X5_isColumn v1) fun x6 => if x6 = nI 0 then cal1 (F_X4_fromTop T_0_now v1 v2) fun x9 => some (0, x9) else cal1 (F_X4_seenInColumn T_0_now v1 v2) fun x11 => some (0, x11) else some (1, (nI 0))
def F_J6_bitCount_0f7a4 (v0 : Int32) : Option (Int32) :=
  some ((((((((v0 - (((v0.toUInt32 >>> (((nI 1) : Int32).toUInt32 &&& Int32.toUInt32 31)).toInt32) &&& (nI 1431655765))) &&& (nI 858993459)) + (((((v0 - (((v0.toUInt32 >>> (((nI 1) : Int32).toUInt32 &&& Int32.toUInt32 31)).toInt32) &&& (nI 1431655765))) : Int32).toUInt32 >>> (((nI 2) : Int32).toUInt32 &&& Int32.toUInt32 31)).toInt32) &&& (nI 858993459))) + ((((((v0 - (((v0.toUInt32 >>> (((nI 1) : Int32).toUInt32 &&& Int32.toUInt32 31)).toInt32) &&& (nI 1431655765))) &&& (nI 858993459)) + (((((v0 - (((v0.toUInt32 >>> (((nI 1) : Int32).toUInt32 &&& Int32.toUInt32 31)).toInt32) &&& (nI 1431655765))) : Int32).toUInt32 >>> (((nI 2) : Int32).toUInt32 &&& Int32.toUInt32 31)).toInt32) &&& (nI 858993459))) : Int32).toUInt32 >>> (((nI 4) : Int32).toUInt32 &&& Int32.toUInt32 31)).toInt32)) &&& (nI 252645135)) + ((((((((v0 - (((v0.toUInt32 >>> (((nI 1) : Int32).toUInt32 &&& Int32.toUInt32 31)).toInt32) &&& (nI 1431655765))) &&& (nI 858993459)) + (((((v0 - (((v0.toUInt32 >>> (((nI 1) : Int32).toUInt32 &&& Int32.toUInt32 31)).toInt32) &&& (nI 1431655765))) : Int32).toUInt32 >>> (((nI 2) : Int32).toUInt32 &&& Int32.toUInt32 31)).toInt32) &&& (nI 858993459))) + ((((((v0 - (((v0.toUInt32 >>> (((nI 1) : Int32).toUInt32 &&& Int32.toUInt32 31)).toInt32) &&& (nI 1431655765))) &&& (nI 858993459)) + (((((v0 - (((v0.toUInt32 >>> (((nI 1) : Int32).toUInt32 &&& Int32.toUInt32 31)).toInt32) &&& (nI 1431655765))) : Int32).toUInt32 >>> (((nI 2) : Int32).toUInt32 &&& Int32.toUInt32 31)).toInt32) &&& (nI 858993459))) : Int32).toUInt32 >>> (((nI 4) : Int32).toUInt32 &&& Int32.toUInt32 31)).toInt32)) &&& (nI 252645135)) : Int32).toUInt32 >>> (((nI 8) : Int32).toUInt32 &&& Int32.toUInt32 31)).toInt32)) + (((((((((v0 - (((v0.toUInt32 >>> (((nI 1) : Int32).toUInt32 &&& Int32.toUInt32 31)).toInt32) &&& (nI 1431655765))) &&& (nI 858993459)) + (((((v0 - (((v0.toUInt32 >>> (((nI 1) : Int32).toUInt32 &&& Int32.toUInt32 31)).toInt32) &&& (nI 1431655765))) : Int32).toUInt32 >>> (((nI 2) : Int32).toUInt32 &&& Int32.toUInt32 31)).toInt32) &&& (nI 858993459))) + ((((((v0 - (((v0.toUInt32 >>> (((nI 1) : Int32).toUInt32 &&& Int32.toUInt32 31)).toInt32) &&& (nI 1431655765))) &&& (nI 858993459)) + (((((v0 - (((v0.toUInt32 >>> (((nI 1) : Int32).toUInt32 &&& Int32.toUInt32 31)).toInt32) &&& (nI 1431655765))) : Int32).toUInt32 >>> (((nI 2) : Int32).toUInt32 &&& Int32.toUInt32 31)).toInt32) &&& (nI 858993459))) : Int32).toUInt32 >>> (((nI 4) : Int32).toUInt32 &&& Int32.toUInt32 31)).toInt32)) &&& (nI 252645135)) + ((((((((v0 - (((v0.toUInt32 >>> (((nI 1) : Int32).toUInt32 &&& Int32.toUInt32 31)).toInt32) &&& (nI 1431655765))) &&& (nI 858993459)) + (((((v0 - (((v0.toUInt32 >>> (((nI 1) : Int32).toUInt32 &&& Int32.toUInt32 31)).toInt32) &&& (nI 1431655765))) : Int32).toUInt32 >>> (((nI 2) : Int32).toUInt32 &&& Int32.toUInt32 31)).toInt32) &&& (nI 858993459))) + ((((((v0 - (((v0.toUInt32 >>> (((nI 1) : Int32).toUInt32 &&& Int32.toUInt32 31)).toInt32) &&& (nI 1431655765))) &&& (nI 858993459)) + (((((v0 - (((v0.toUInt32 >>> (((nI 1) : Int32).toUInt32 &&& Int32.toUInt32 31)).toInt32) &&& (nI 1431655765))) : Int32).toUInt32 >>> (((nI 2) : Int32).toUInt32 &&& Int32.toUInt32 31)).toInt32) &&& (nI 858993459))) : Int32).toUInt32 >>> (((nI 4) : Int32).toUInt32 &&& Int32.toUInt32 31)).toInt32)) &&& (nI 252645135)) : Int32).toUInt32 >>> (((nI 8) : Int32).toUInt32 &&& Int32.toUInt32 31)).toInt32)) : Int32).toUInt32 >>> (((nI 16) : Int32).toUInt32 &&& Int32.toUInt32 31)).toInt32)) &&& (nI 63))
def F_X5_told (P_0 : Nat → Int32) (T_0_now : Nat → Nat → Int32) (r_0_rules : Nat → Int32) (v1 : Int32) : Option (Nat × Int32) :=
  cal1 (F_X5_isWithin v1 (nI 0) (nI 7)) fun x1 => if x1 = nI 0 then some (1, (nI 0)) else if v1 = (nI 0) then cal1 (F_X4_cardsUp T_0_now r_0_rules) fun x5 => some (0, x5) else if v1 = (nI 1) then some (0, (P_0 7)) else if v1 = (nI 2) then some (0, (P_0 8)) else if v1 = (nI 3) then some (0, (T_0_now 0 6)) else if v1 = (nI 4) then cal1 (F_X5_moneyOfDeal P_0 T_0_now r_0_rules) fun x11 => some (0, x11) else if v1 = (nI 5) then cal1 (F_X5_moneyOfDeal P_0 T_0_now r_0_rules) fun x14 => some (0, ((P_0 9) + x14)) else if v1 = (nI 6) then cal1 (F_X4_isWon T_0_now r_0_rules) fun x17 => if x17 = nI 0 then some (0, (nI 0)) else some (0, (nI 1)) else cal1 (F_J6_bitCount_0f7a4 (T_0_now 0 5)) fun x20 => some (0, x20)
def F_X5_search (P_0 : Nat → Int32) (T_0_now : Nat → Nat → Int32) (r_0_rules : Nat → Int32) (Q_0_searcher : Nat → Nat → Int32) (T_0_searcher_table : Nat → Nat → Int32) (T_0_searcher_origin : Nat → Nat → Int32) (S_0_searcher_shelf : Nat → Nat → Int64) (v1 : Int32) : Option (Nat × Int32 × (Nat → Nat → Int32) × (Nat → Nat → Int32) × (Nat → Nat → Int32) × (Nat → Nat → Int64)) :=
  cal1 (F_X5_isWithin v1 (nI 1) (nI 400)) fun x1 => if x1 = nI 0 then some (1, (nI 0), Q_0_searcher, T_0_searcher_table, T_0_searcher_origin, S_0_searcher_shelf) else cal1 (F_X4_copyFrom T_0_now T_0_searcher_table) fun T_0_searcher_tableu4 => cal5 (F_X2_run r_0_rules Q_0_searcher T_0_searcher_origin T_0_searcher_tableu4 S_0_searcher_shelf v1) fun x6 Q_0_searcheru7 T_0_searcher_originu8 T_0_searcher_tableu9 S_0_searcher_shelfu10 => some (0, x6, Q_0_searcheru7, T_0_searcher_tableu9, T_0_searcher_originu8, S_0_searcher_shelfu10)
def F_X5_known (P_0 : Nat → Int32) (T_0_now : Nat → Nat → Int32) (r_0_rules : Nat → Int32) (Q_0_searcher : Nat → Nat → Int32) (T_0_searcher_table : Nat → Nat → Int32) (T_0_searcher_origin : Nat → Nat → Int32) (S_0_searcher_shelf : Nat → Nat → Int64) (v1 : Int32) : Option (Nat × Int32 × (Nat → Nat → Int32) × (Nat → Nat → Int32) × (Nat → Nat → Int32) × (Nat → Nat → Int64)) :=
  cal1 (F_X5_isWithin v1 (nI 1) (nI 400)) fun x1 => if x1 = nI 0 then some (1, (nI 0), Q_0_searcher, T_0_searcher_table, T_0_searcher_origin, S_0_searcher_shelf) else cal1 (F_X4_copyFrom T_0_now T_0_searcher_table) fun T_0_searcher_tableu4 => cal5 (F_X2_run r_0_rules Q_0_searcher T_0_searcher_origin T_0_searcher_tableu4 S_0_searcher_shelf v1) fun x6 Q_0_searcheru7 T_0_searcher_originu8 T_0_searcher_tableu9 S_0_searcher_shelfu10 => some (0, (Q_0_searcheru7 0 1), Q_0_searcheru7, T_0_searcher_tableu9, T_0_searcher_originu8, S_0_searcher_shelfu10)
def F_X5_odds_b150 (P_0 : Nat → Int32) (r_0_nextRules : Nat → Int32) (D_0_tried : Nat → Nat → Int32) (Q_0_searcher : Nat → Nat → Int32) (T_0_searcher_table : Nat → Nat → Int32) (T_0_searcher_origin : Nat → Nat → Int32) (S_0_searcher_shelf : Nat → Nat → Int64) (v5 : Int32) (v6 : Int32) : Option (Nat × Int32 × (Nat → Nat → Int32) × (Nat → Nat → Int32) × (Nat → Nat → Int32) × (Nat → Nat → Int32) × (Nat → Nat → Int64)) :=
  some (0, (((nI 10) * v5) + v6), D_0_tried, Q_0_searcher, T_0_searcher_table, T_0_searcher_origin, S_0_searcher_shelf)
def F_X5_odds_s70 (P_0 : Nat → Int32) (r_0_nextRules : Nat → Int32) (K70 : (Nat → Nat → Int32) → (Nat → Nat → Int32) → (Nat → Nat → Int32) → (Nat → Nat → Int32) → (Nat → Nat → Int64) → Int32 → Int32 → Int32 → Int32 → Int32 → Int32 → Int32 → Option (Nat × Int32 × (Nat → Nat → Int32) × (Nat → Nat → Int32) × (Nat → Nat → Int32) × (Nat → Nat → Int32) × (Nat → Nat → Int64))) (D_0_tried : Nat → Nat → Int32) (Q_0_searcher : Nat → Nat → Int32) (T_0_searcher_table : Nat → Nat → Int32) (T_0_searcher_origin : Nat → Nat → Int32) (S_0_searcher_shelf : Nat → Nat → Int64) (v1 : Int32) (v2 : Int32) (v3 : Int32) (v4 : Int32) (v5 : Int32) (v6 : Int32) (v7 : Int32) : Option (Nat × Int32 × (Nat → Nat → Int32) × (Nat → Nat → Int32) × (Nat → Nat → Int32) × (Nat → Nat → Int32) × (Nat → Nat → Int64)) :=
  if v3 ≤ v7 then F_X5_odds_b150 P_0 r_0_nextRules D_0_tried Q_0_searcher T_0_searcher_table T_0_searcher_origin S_0_searcher_shelf v5 v6 else cal1 (F_X1_cards r_0_nextRules) fun x2 => cal1 (F_X0_draw D_0_tried v1 (v2 + v7) x2) fun D_0_triedu4 => cal1 (F_X4_lay r_0_nextRules D_0_triedu4 T_0_searcher_table) fun T_0_searcher_tableu6 => cal5 (F_X2_run r_0_nextRules Q_0_searcher T_0_searcher_origin T_0_searcher_tableu6 S_0_searcher_shelf v4) fun x8 Q_0_searcheru9 T_0_searcher_originu10 T_0_searcher_tableu11 S_0_searcher_shelfu12 => if x8 < nI 0 then if x8 = (-1) then K70 D_0_triedu4 Q_0_searcheru9 T_0_searcher_tableu11 T_0_searcher_originu10 S_0_searcher_shelfu12 v1 v2 v3 v4 v5 (v6 + (nI 1)) (v7 + (nI 1)) else K70 D_0_triedu4 Q_0_searcheru9 T_0_searcher_tableu11 T_0_searcher_originu10 S_0_searcher_shelfu12 v1 v2 v3 v4 v5 v6 (v7 + (nI 1)) else K70 D_0_triedu4 Q_0_searcheru9 T_0_searcher_tableu11 T_0_searcher_originu10 S_0_searcher_shelfu12 v1 v2 v3 v4 (v5 + (nI 1)) v6 (v7 + (nI 1))
def F_X5_odds_L70 (P_0 : Nat → Int32) (r_0_nextRules : Nat → Int32) : Nat → (Nat → Nat → Int32) → (Nat → Nat → Int32) → (Nat → Nat → Int32) → (Nat → Nat → Int32) → (Nat → Nat → Int64) → Int32 → Int32 → Int32 → Int32 → Int32 → Int32 → Int32 → Option (Nat × Int32 × (Nat → Nat → Int32) × (Nat → Nat → Int32) × (Nat → Nat → Int32) × (Nat → Nat → Int32) × (Nat → Nat → Int64))
  | 0 => fun _ _ _ _ _ _ _ _ _ _ _ _ => none
  | n + 1 => fun D_0_tried Q_0_searcher T_0_searcher_table T_0_searcher_origin S_0_searcher_shelf v1 v2 v3 v4 v5 v6 v7 => F_X5_odds_s70 P_0 r_0_nextRules (F_X5_odds_L70 P_0 r_0_nextRules n) D_0_tried Q_0_searcher T_0_searcher_table T_0_searcher_origin S_0_searcher_shelf v1 v2 v3 v4 v5 v6 v7
def F_X5_odds (P_0 : Nat → Int32) (r_0_nextRules : Nat → Int32) (D_0_tried : Nat → Nat → Int32) (Q_0_searcher : Nat → Nat → Int32) (T_0_searcher_table : Nat → Nat → Int32) (T_0_searcher_origin : Nat → Nat → Int32) (S_0_searcher_shelf : Nat → Nat → Int64) (v1 : Int32) (v2 : Int32) (v3 : Int32) (v4 : Int32) : Option (Nat × Int32 × (Nat → Nat → Int32) × (Nat → Nat → Int32) × (Nat → Nat → Int32) × (Nat → Nat → Int32) × (Nat → Nat → Int64)) :=
  cal1 (F_X5_isWithin v1 (nI 0) (nI 1)) fun x16 => if x16 = nI 0 then some (1, (nI 0), D_0_tried, Q_0_searcher, T_0_searcher_table, T_0_searcher_origin, S_0_searcher_shelf) else cal1 (F_X5_isWithin v2 (nI 0) (nI 1000000)) fun x19 => if x19 = nI 0 then some (1, (nI 0), D_0_tried, Q_0_searcher, T_0_searcher_table, T_0_searcher_origin, S_0_searcher_shelf) else cal1 (F_X5_isWithin v3 (nI 1) (nI 8)) fun x22 => if x22 = nI 0 then some (1, (nI 0), D_0_tried, Q_0_searcher, T_0_searcher_table, T_0_searcher_origin, S_0_searcher_shelf) else cal1 (F_X5_isWithin v4 (nI 1) (nI 200)) fun x25 => if x25 = nI 0 then some (1, (nI 0), D_0_tried, Q_0_searcher, T_0_searcher_table, T_0_searcher_origin, S_0_searcher_shelf) else F_X5_odds_L70 P_0 r_0_nextRules FU D_0_tried Q_0_searcher T_0_searcher_table T_0_searcher_origin S_0_searcher_shelf v1 v2 v3 v4 (nI 0) (nI 0) (nI 0)
end
section
/-! rows on bits, shifts and unsigned numbers, to paste: each family out of a closed proof of our own, whole with what it rests on; each by itself clean at Lean in its own claim (generation 39, form 5). Take a family whole -/
/-! ===== Int32 by its bits: bt x i ===== -/
def bt (x : Int32) (i : Nat) : Bool := x.toBitVec.getLsbD i
theorem b_ext {x y : Int32} (h : ∀ i, i < 32 → bt x i = bt y i) : x = y := Int32.toBitVec_inj.mp (BitVec.eq_of_getLsbD_eq (fun i hi => h i hi))
theorem b_or (x y : Int32) (i : Nat) : bt (x ||| y) i = (bt x i || bt y i) := by unfold bt; rw [Int32.toBitVec_or, BitVec.getLsbD_or]
theorem b_and (x y : Int32) (i : Nat) : bt (x &&& y) i = (bt x i && bt y i) := by unfold bt; rw [Int32.toBitVec_and, BitVec.getLsbD_and]
theorem b_xor (x y : Int32) (i : Nat) : bt (x ^^^ y) i = (bt x i ^^ bt y i) := by unfold bt; rw [Int32.toBitVec_xor, BitVec.getLsbD_xor]
theorem b_big {x : Int32} {i : Nat} (h : 32 ≤ i) : bt x i = false := BitVec.getLsbD_of_ge _ _ h
theorem b_255 (i : Nat) : bt 255 i = decide (i < 8) := by
  rcases Nat.lt_or_ge i 32 with h | h
  · exact (by decide +kernel : ∀ i, i < 32 → bt 255 i = decide (i < 8)) i h
  · rw [b_big h, decide_eq_false (by omega)]
theorem b_65535 (i : Nat) : bt 65535 i = decide (i < 16) := by
  rcases Nat.lt_or_ge i 32 with h | h
  · exact (by decide +kernel : ∀ i, i < 32 → bt 65535 i = decide (i < 16)) i h
  · rw [b_big h, decide_eq_false (by omega)]
theorem b_m1 : ∀ i, i < 32 → bt (-1) i = true := by decide +kernel
theorem b_0 (i : Nat) : bt 0 i = false := BitVec.getLsbD_zero
theorem s_l : ∀ n, n < 32 → ((nI n &&& 31).toBitVec.smod 32).toNat = n := by decide +kernel
theorem s_u : ∀ n, n < 32 → (((nI n).toUInt32 &&& Int32.toUInt32 31).toBitVec % 32).toNat = n := by decide +kernel
theorem b_shl (n : Nat) (hn : n < 32) (x : Int32) {i : Nat} (hi : i < 32) : bt (x <<< (nI n &&& 31)) i = (decide (n ≤ i) && bt x (i - n)) := by
  unfold bt
  rw [Int32.toBitVec_shiftLeft]
  show (x.toBitVec <<< ((nI n &&& 31).toBitVec.smod 32).toNat).getLsbD i = _
  rw [s_l n hn, BitVec.getLsbD_shiftLeft]
  rcases Nat.lt_or_ge i n with h | h
  · simp [h, Nat.not_le.mpr h]
  · simp [hi, h, Nat.not_lt.mpr h]
theorem b_ushr (n : Nat) (hn : n < 32) (x : Int32) (i : Nat) : bt ((x.toUInt32 >>> ((nI n).toUInt32 &&& Int32.toUInt32 31)).toInt32) i = bt x (n + i) := by
  show (x.toUInt32 >>> ((nI n).toUInt32 &&& Int32.toUInt32 31)).toBitVec.getLsbD i = x.toUInt32.toBitVec.getLsbD (n + i)
  rw [UInt32.toBitVec_shiftRight]
  show (x.toUInt32.toBitVec >>> (((nI n).toUInt32 &&& Int32.toUInt32 31).toBitVec % 32).toNat).getLsbD i = _
  rw [s_u n hn, BitVec.getLsbD_ushiftRight]
theorem b_sshr (n : Nat) (hn : n < 32) (x : Int32) {i : Nat} (hi : i < 32) : bt (x >>> (nI n &&& 31)) i = if n + i < 32 then bt x (n + i) else bt x 31 := by
  unfold bt
  rw [Int32.toBitVec_shiftRight]
  show (x.toBitVec.sshiftRight ((nI n &&& 31).toBitVec.smod 32).toNat).getLsbD i = _
  rw [s_l n hn, BitVec.getLsbD_sshiftRight, BitVec.msb_eq_getLsbD_last]
  simp [hi]
theorem b_shl8 (x : Int32) {i : Nat} (hi : i < 32) : bt (x <<< ((8 : Int32) &&& 31)) i = (decide (8 ≤ i) && bt x (i - 8)) := b_shl 8 (by omega) x hi
theorem b_shl16 (x : Int32) {i : Nat} (hi : i < 32) : bt (x <<< ((16 : Int32) &&& 31)) i = (decide (16 ≤ i) && bt x (i - 16)) := b_shl 16 (by omega) x hi
theorem b_shl24 (x : Int32) {i : Nat} (hi : i < 32) : bt (x <<< ((24 : Int32) &&& 31)) i = (decide (24 ≤ i) && bt x (i - 24)) := b_shl 24 (by omega) x hi
theorem b_sshr8 (x : Int32) {i : Nat} (hi : i < 32) : bt (x >>> ((8 : Int32) &&& 31)) i = if 8 + i < 32 then bt x (8 + i) else bt x 31 := b_sshr 8 (by omega) x hi
/-! ===== nI under and, xor, >>>, one bit, 65535 ===== -/
theorem nx_and (a b : Nat) : nI a &&& nI b = nI (a &&& b) := by
  apply Int32.toBitVec_inj.1
  show BitVec.ofNat 32 a &&& BitVec.ofNat 32 b = BitVec.ofNat 32 (a &&& b)
  apply BitVec.eq_of_getLsbD_eq
  intro i hi
  simp [hi]
theorem nx_xor (a b : Nat) : nI a ^^^ nI b = nI (a ^^^ b) := by
  apply Int32.toBitVec_inj.1
  show BitVec.ofNat 32 a ^^^ BitVec.ofNat 32 b = BitVec.ofNat 32 (a ^^^ b)
  apply BitVec.eq_of_getLsbD_eq
  intro i hi
  simp [hi]
theorem nx_cnt : ∀ j : Fin 32, (UInt32.ofNat j.val &&& Int32.toUInt32 31).toNat % 32 = j.val := by decide +kernel
theorem nx_ush {k j : Nat} (hk : k < 65536) (hj : j < 32) : ((nI k).toUInt32 >>> ((nI j).toUInt32 &&& Int32.toUInt32 31)).toInt32 = nI (k >>> j) := by
  have hs : k >>> j ≤ k := by
    rw [Nat.shiftRight_eq_div_pow]
    exact Nat.div_le_self _ _
  have e2 : UInt32.ofNat k >>> (UInt32.ofNat j &&& Int32.toUInt32 31) = UInt32.ofNat (k >>> j) := by
    apply UInt32.toNat_inj.1
    have h1 : (UInt32.ofNat k).toNat = k := Nat.mod_eq_of_lt (by omega)
    have h2 : (UInt32.ofNat (k >>> j)).toNat = k >>> j := Nat.mod_eq_of_lt (by omega)
    rw [UInt32.toNat_shiftRight, nx_cnt ⟨j, hj⟩, h1, h2]
  show (UInt32.ofNat k >>> (UInt32.ofNat j &&& Int32.toUInt32 31)).toInt32 = _
  rw [e2]
  rfl
theorem nx_bit {k j : Nat} (hk : k < 65536) (hj : j < 16) : (((nI k).toUInt32 >>> ((nI j).toUInt32 &&& Int32.toUInt32 31)).toInt32 &&& 1) = 0 ↔ k.testBit j = false := by
  rw [nx_ush hk (by omega)]
  show nI (k >>> j) &&& nI 1 = 0 ↔ _
  rw [nx_and, Nat.and_one_is_mod, ← nI_0, nI_eq (by omega) (by omega), Nat.testBit_eq_decide_div_mod_eq, Nat.shiftRight_eq_div_pow, decide_eq_false_iff_not]
  generalize k / 2 ^ j = z
  omega
theorem nx_mod (k : Nat) : nI k &&& 65535 = nI (k % 65536) := by
  show nI k &&& nI 65535 = _
  rw [nx_and, show (65535 : Nat) = 2 ^ 16 - 1 from rfl, Nat.and_two_pow_sub_one_eq_mod]
theorem nx_m16 {k : Nat} (h : k < 65536) : nI k &&& 65535 = nI k := by rw [nx_mod, Nat.mod_eq_of_lt h]
theorem nx_mask (x : Int32) : ∃ k, k < 65536 ∧ x &&& 65535 = nI k := by
  have e : x = nI x.toBitVec.toNat := by
    apply Int32.toBitVec_inj.1
    show x.toBitVec = BitVec.ofNat 32 x.toBitVec.toNat
    simp
  refine ⟨x.toBitVec.toNat % 65536, Nat.mod_lt _ (by omega), ?_⟩
  rw [← nx_mod, ← e]
/-! ===== Int32 as a set of bits: test, set ===== -/
def nf_M (m : Int32) : Nat := 4294967296 - m.toBitVec.toNat
theorem nf_sh : ∀ l, l < 32 → ((1 : Int32) <<< (nI l &&& 31)).toBitVec = BitVec.twoPow 32 l := by decide +kernel
theorem nf_sl : ∀ l, l < 32 → (((nI l).toUInt32 &&& Int32.toUInt32 31).toBitVec % 32).toNat = l := by decide +kernel
theorem nf_tp : ∀ l, l < 32 → BitVec.twoPow 32 l ≠ 0#32 := by decide +kernel
theorem nf_bit (m : Int32) (l : Nat) (hl : l < 32) : ((m.toUInt32 >>> ((nI l).toUInt32 &&& Int32.toUInt32 31)).toInt32 &&& 1) = 0 ↔ (m &&& ((1 : Int32) <<< (nI l &&& 31))) = 0 := by
  have e : ((m.toUInt32 >>> ((nI l).toUInt32 &&& Int32.toUInt32 31)).toInt32).toBitVec = m.toBitVec >>> l := by
    show m.toBitVec >>> (((nI l).toUInt32 &&& Int32.toUInt32 31).toBitVec % 32) = m.toBitVec >>> l
    rw [BitVec.ushiftRight_eq', nf_sl l hl]
  rw [← Int32.toBitVec_inj, ← Int32.toBitVec_inj, Int32.toBitVec_and, Int32.toBitVec_and, nf_sh l hl, e, BitVec.and_twoPow]
  show (m.toBitVec >>> l &&& 1#32) = 0#32 ↔ _ = 0#32
  rw [BitVec.and_one_eq_setWidth_ofBool_getLsbD, BitVec.getLsbD_ushiftRight, Nat.add_zero]
  cases hb : m.toBitVec.getLsbD l
  · exact ⟨fun _ => by simp, fun _ => by decide⟩
  · exact ⟨fun z => absurd z (by decide), fun z => absurd ((if_pos rfl).symm.trans z) (nf_tp l hl)⟩
theorem nf_gr (m k : Int32) (h : m &&& k = 0) (hk : k ≠ 0) : nf_M (m ||| k) < nf_M m := by
  have hm := m.toBitVec.isLt
  have hm' := (m ||| k).toBitVec.isLt
  have h1 : m.toBitVec.toNat ≤ (m ||| k).toBitVec.toNat := by
    rw [Int32.toBitVec_or, BitVec.toNat_or]
    exact Nat.left_le_or
  have h2 : m.toBitVec.toNat ≠ (m ||| k).toBitVec.toNat := by
    intro e
    have e2 : m = m ||| k := Int32.toBitVec_inj.mp (BitVec.eq_of_toNat_eq e)
    apply hk
    apply Int32.toBitVec_inj.mp
    show k.toBitVec = 0#32
    apply BitVec.eq_of_getLsbD_eq
    intro i hi
    have a : m.toBitVec.getLsbD i = (m.toBitVec.getLsbD i || k.toBitVec.getLsbD i) := by rw [← BitVec.getLsbD_or, ← Int32.toBitVec_or, ← e2]
    have b : (m.toBitVec.getLsbD i && k.toBitVec.getLsbD i) = false := by
      rw [← BitVec.getLsbD_and, ← Int32.toBitVec_and, h]
      exact BitVec.getLsbD_zero
    rw [BitVec.getLsbD_zero]
    revert a b
    cases m.toBitVec.getLsbD i <;> cases k.toBitVec.getLsbD i <;> simp
  unfold nf_M
  omega
/-! ===== a byte read unsigned ===== -/
theorem bp_b (x : Int32) : x.toInt8.toInt32 &&& 255 = x &&& 255 := by
  apply Int32.toBitVec_inj.mp
  rw [Int32.toBitVec_and, Int32.toBitVec_and, Int8.toBitVec_toInt32, Int32.toBitVec_toInt8]
  apply BitVec.eq_of_getLsbD_eq
  intro i hi
  rw [BitVec.getLsbD_and, BitVec.getLsbD_and]
  have hm : ∀ i < 32, 8 ≤ i → (255 : Int32).toBitVec.getLsbD i = false := by decide
  rcases Nat.lt_or_ge i 8 with z | z
  · rw [BitVec.getLsbD_signExtend, BitVec.getLsbD_signExtend, if_pos z, if_pos hi]
    simp only [z, hi, decide_true, Bool.true_and]
  · rw [hm i hi z]; simp
/-! ===== the char cast and 65535 ===== -/
/-! ===== Int64 as a set of bits: test, set, clear ===== -/
theorem ts_nf {x : Bool} (h : ¬ x = false) : x = true := by cases x <;> first | rfl | exact absurd rfl h
theorem ts_nt {x : Bool} (h : ¬ x = true) : x = false := by cases x <;> first | rfl | exact absurd rfl h
theorem ts_bit {w : Int64} {s : UInt64} {j : Nat} (hj : j < 64) (hs : s.toNat = j) : ((w.toUInt64 >>> s).toInt64 &&& 1) = 0 ↔ w.toBitVec.getLsbD j = false := by
  have e : (w.toUInt64 >>> s).toInt64.toBitVec = w.toBitVec >>> j := by
    apply BitVec.eq_of_toNat_eq
    show (w.toUInt64 >>> s).toNat = _
    rw [UInt64.toNat_shiftRight, hs, Nat.mod_eq_of_lt hj, BitVec.toNat_ushiftRight]
    rfl
  rw [← Int64.toBitVec_inj, Int64.toBitVec_and, e]
  show w.toBitVec >>> j &&& 1#64 = 0#64 ↔ _
  constructor
  · intro h
    have t := congrArg (fun x => x.getLsbD 0) h
    simpa using t
  · intro h
    apply BitVec.eq_of_getLsbD_eq
    intro i hi
    cases i with
    | zero => simp [h]
    | succ i => simp
theorem ts_or {w m : Int64} {j : Nat} (hj : j < 64) (hm : m.toBitVec = BitVec.twoPow 64 j) : (w ||| m) = w ↔ w.toBitVec.getLsbD j = true := by
  rw [← Int64.toBitVec_inj, Int64.toBitVec_or, hm]
  constructor
  · intro h
    have t := congrArg (fun x => x.getLsbD j) h
    simp only [BitVec.getLsbD_or, BitVec.getLsbD_twoPow] at t
    simpa [hj] using t.symm
  · intro h
    apply BitVec.eq_of_getLsbD_eq
    intro i hi
    rw [BitVec.getLsbD_or, BitVec.getLsbD_twoPow]
    by_cases e : j = i
    · subst e; rw [h, Bool.true_or]
    · simp [e]
theorem ts_and {w m : Int64} {j : Nat} (hj : j < 64) (hm : m.toBitVec = BitVec.twoPow 64 j) : (w &&& (m ^^^ (-1))) = w ↔ w.toBitVec.getLsbD j = false := by
  have ha : (-1 : Int64).toBitVec = BitVec.allOnes 64 := by decide
  rw [← Int64.toBitVec_inj, Int64.toBitVec_and, Int64.toBitVec_xor, hm, ha]
  constructor
  · intro h
    have t := congrArg (fun x => x.getLsbD j) h
    simp only [BitVec.getLsbD_and, BitVec.getLsbD_xor, BitVec.getLsbD_twoPow, BitVec.getLsbD_allOnes] at t
    simpa [hj] using t.symm
  · intro h
    apply BitVec.eq_of_getLsbD_eq
    intro i hi
    rw [BitVec.getLsbD_and, BitVec.getLsbD_xor, BitVec.getLsbD_twoPow, BitVec.getLsbD_allOnes]
    by_cases e : j = i
    · subst e; rw [h, Bool.false_and]
    · simp [e, hi]
/-! ===== lN n to 2^64: shifts, and, or, masks, one bit ===== -/
theorem wb_tb (n : Nat) : (lN n).toBitVec = BitVec.ofNat 64 n := rfl
theorem wb_inj {a b : Int64} (h : a.toBitVec = b.toBitVec) : a = b := Int64.toBitVec_inj.mp h
theorem wb_tn {n : Nat} (h : n < 2 ^ 64) : (lN n).toBitVec.toNat = n := by rw [wb_tb, BitVec.toNat_ofNat, Nat.mod_eq_of_lt h]
theorem wb_of (x : Int64) : ∃ n, n < 2 ^ 64 ∧ x = lN n := ⟨x.toBitVec.toNat, x.toBitVec.isLt, wb_inj (by rw [wb_tb]; simp)⟩
theorem wb_of32 (x : Int32) : ∃ n, n < 2 ^ 32 ∧ x = nI n := ⟨x.toBitVec.toNat, x.toBitVec.isLt, Int32.toBitVec_inj.mp (by show _ = BitVec.ofNat 32 _; simp)⟩
theorem wb_c : ∀ k, k < 64 → ((nI k).toInt64 &&& 63) = lN k := by decide +kernel
theorem wb_cu : ∀ k, k < 64 → ((nI k).toInt64.toUInt64 &&& Int64.toUInt64 63) = UInt64.ofNat k := by decide +kernel
theorem wb_sm : ∀ k, k < 64 → (BitVec.ofNat 64 k).smod 64 = BitVec.ofNat 64 k := by decide +kernel
theorem wb_pw {a b : Nat} (h : a ≤ b) : 2 ^ b = 2 ^ a * 2 ^ (b - a) := by rw [← Nat.pow_add]; congr 1; omega
theorem wb_lt2 {a b : Nat} (h : a < b) : 2 ^ a < 2 ^ b := Nat.pow_lt_pow_right (by decide) h
theorem wb_mod (n : Nat) : lN n = lN (n % 2 ^ 64) := wb_inj (by rw [wb_tb, wb_tb]; apply BitVec.eq_of_toNat_eq; rw [BitVec.toNat_ofNat, BitVec.toNat_ofNat, Nat.mod_mod])
theorem wb_shr {n k : Nat} (hn : n < 2 ^ 64) (hk : k < 64) : ((lN n).toUInt64 >>> ((nI k).toInt64.toUInt64 &&& Int64.toUInt64 63)).toInt64 = lN (n / 2 ^ k) := by
  rw [wb_cu k hk]
  apply wb_inj
  apply BitVec.eq_of_toNat_eq
  show ((lN n).toUInt64 >>> UInt64.ofNat k).toNat = (BitVec.ofNat 64 _).toNat
  have h1 : (UInt64.ofNat k).toNat = k := by
    show (BitVec.ofNat 64 k).toNat = k
    rw [BitVec.toNat_ofNat, Nat.mod_eq_of_lt (by omega)]
  have h2 : (lN n).toUInt64.toNat = n := wb_tn hn
  rw [UInt64.toNat_shiftRight, h1, h2, Nat.mod_eq_of_lt hk, Nat.shiftRight_eq_div_pow, BitVec.toNat_ofNat, Nat.mod_eq_of_lt (Nat.lt_of_le_of_lt (Nat.div_le_self _ _) hn)]
theorem wb_shl (n : Nat) {k : Nat} (hk : k < 64) : lN n <<< ((nI k).toInt64 &&& 63) = lN (n * 2 ^ k) := by
  rw [wb_c k hk]
  apply wb_inj
  rw [Int64.toBitVec_shiftLeft, wb_tb, wb_tb, wb_tb, wb_sm k hk]
  apply BitVec.eq_of_toNat_eq
  rw [BitVec.shiftLeft_eq', BitVec.toNat_shiftLeft, BitVec.toNat_ofNat, BitVec.toNat_ofNat, BitVec.toNat_ofNat, Nat.mod_eq_of_lt (show k < 2 ^ 64 by omega), Nat.shiftLeft_eq, Nat.mul_mod, Nat.mod_mod, ← Nat.mul_mod]
theorem wb_and {a b : Nat} (ha : a < 2 ^ 64) (hb : b < 2 ^ 64) : lN a &&& lN b = lN (a &&& b) := by
  apply wb_inj
  rw [Int64.toBitVec_and, wb_tb, wb_tb, wb_tb]
  apply BitVec.eq_of_toNat_eq
  rw [BitVec.toNat_and, BitVec.toNat_ofNat, BitVec.toNat_ofNat, BitVec.toNat_ofNat, Nat.mod_eq_of_lt ha, Nat.mod_eq_of_lt hb, Nat.mod_eq_of_lt (Nat.and_lt_two_pow _ hb)]
theorem wb_or {a b : Nat} (ha : a < 2 ^ 64) (hb : b < 2 ^ 64) : lN a ||| lN b = lN (a ||| b) := by
  apply wb_inj
  rw [Int64.toBitVec_or, wb_tb, wb_tb, wb_tb]
  apply BitVec.eq_of_toNat_eq
  rw [BitVec.toNat_or, BitVec.toNat_ofNat, BitVec.toNat_ofNat, BitVec.toNat_ofNat, Nat.mod_eq_of_lt ha, Nat.mod_eq_of_lt hb, Nat.mod_eq_of_lt (Nat.or_lt_two_pow ha hb)]
theorem wb_mask {n k : Nat} (hn : n < 2 ^ 64) (hk : k < 64) : lN n &&& lN (2 ^ k - 1) = lN (n % 2 ^ k) := by
  rw [wb_and hn (by have := wb_lt2 hk; omega), Nat.and_two_pow_sub_one_eq_mod]
theorem wb_a1 {n : Nat} (hn : n < 2 ^ 64) : lN n &&& 1 = lN (n % 2) := wb_mask (k := 1) hn (by decide)
theorem wb_bit {n k : Nat} (hn : n < 2 ^ 64) (hk : k < 64) : ((lN n).toUInt64 >>> ((nI k).toInt64.toUInt64 &&& Int64.toUInt64 63)).toInt64 &&& 1 = lN (n / 2 ^ k % 2) := by
  rw [wb_shr hn hk, wb_a1 (Nat.lt_of_le_of_lt (Nat.div_le_self _ _) hn)]
theorem wb_xor {q k : Nat} (hk : k < 63) (h : 2 ^ k ≤ q) (h2 : q < 2 ^ (k + 1)) : lN q ^^^ lN (2 ^ k) = lN (q - 2 ^ k) := by
  obtain ⟨r, rfl⟩ : ∃ r, q = 2 ^ k + r := ⟨q - 2 ^ k, by omega⟩
  have hr : r < 2 ^ k := by rw [Nat.pow_succ] at h2; omega
  have hx : (2 ^ k + r) ^^^ 2 ^ k = r := by
    apply Nat.eq_of_testBit_eq
    intro i
    rw [Nat.testBit_xor, Nat.testBit_two_pow]
    rcases Nat.lt_trichotomy i k with h | h | h
    · rw [Nat.testBit_two_pow_add_gt h]
      simp [show ¬ k = i by omega]
    · subst h
      rw [Nat.testBit_two_pow_add_eq]
      simp
    · have a1 : 2 ^ (k + 1) ≤ 2 ^ i := Nat.pow_le_pow_right (by decide) h
      rw [Nat.testBit_lt_two_pow (show 2 ^ k + r < 2 ^ i by omega), Nat.testBit_lt_two_pow (show r < 2 ^ i by omega)]
      simp [show ¬ k = i by omega]
  have b1 := wb_lt2 (show k + 1 < 64 by omega)
  have b2 := wb_lt2 (show k < 64 by omega)
  apply wb_inj
  rw [Int64.toBitVec_xor, wb_tb, wb_tb, wb_tb]
  apply BitVec.eq_of_toNat_eq
  rw [BitVec.toNat_xor, BitVec.toNat_ofNat, BitVec.toNat_ofNat, BitVec.toNat_ofNat, Nat.mod_eq_of_lt (by omega : 2 ^ k + r < 2 ^ 64), Nat.mod_eq_of_lt b2, hx, Nat.add_sub_cancel_left, Nat.mod_eq_of_lt (by omega)]
/-! ===== lN: masks, 'or' of parts that don't overlap is a sum ===== -/
theorem u_tn {n : Nat} (h : n < 2 ^ 64) : (UInt64.ofNat n).toNat = n := Nat.mod_eq_of_lt h
theorem g_and {a b c : Nat} (ha : a < 2 ^ 64) (hb : b < 2 ^ 64) (hc : a &&& b = c) : lN a &&& lN b = lN c := by
  subst hc
  have h : UInt64.ofNat a &&& UInt64.ofNat b = UInt64.ofNat (a &&& b) := UInt64.toNat_inj.mp (by rw [UInt64.toNat_and, u_tn ha, u_tn hb, u_tn (Nat.and_lt_two_pow a hb)])
  have h2 := congrArg UInt64.toInt64 h
  exact h2
theorem g_and1 {a : Nat} (ha : a < 2 ^ 64) : lN a &&& 1 = lN (a % 2) := g_and (b := 1) ha (by decide) (Nat.and_two_pow_sub_one_eq_mod a 1)
theorem g_mask {a s p : Nat} (hp : 2 ^ s = p) (hs : s < 64) (ha : a < 2 ^ 64) : lN a &&& lN (p - 1) = lN (a % p) := by
  subst hp
  have := Nat.pow_lt_pow_right (show 1 < 2 by decide) hs
  exact g_and ha (by omega) (Nat.and_two_pow_sub_one_eq_mod a s)
theorem g_or {k p a b : Nat} (hp : 2 ^ k = p) (ha : a < p) (h : b * p + a < 2 ^ 64) : lN (b * p) ||| lN a = lN (b * p + a) := by
  subst hp
  have h1 : b * 2 ^ k ||| a = b * 2 ^ k + a := by rw [← Nat.shiftLeft_eq, Nat.shiftLeft_add_eq_or_of_lt ha]
  have h3 : UInt64.ofNat (b * 2 ^ k) ||| UInt64.ofNat a = UInt64.ofNat (b * 2 ^ k + a) := UInt64.toNat_inj.mp (by rw [UInt64.toNat_or, u_tn (by omega), u_tn (by omega), u_tn h, h1])
  have h2 := congrArg UInt64.toInt64 h3
  exact h2
theorem g_or' {k p a b : Nat} (hp : 2 ^ k = p) (ha : a < p) (h : a + b * p < 2 ^ 64) : lN a ||| lN (b * p) = lN (a + b * p) := by
  rw [Int64.or_comm, g_or hp ha (by omega), Nat.add_comm]
theorem g_ushr {a k p : Nat} {y : UInt64} (hy : y = UInt64.ofNat k) (hk : k < 64) (hp : 2 ^ k = p) (ha : a < 2 ^ 64) : ((lN a).toUInt64 >>> y).toInt64 = lN (a / p) := by
  subst hy hp
  have h : UInt64.ofNat a >>> UInt64.ofNat k = UInt64.ofNat (a / 2 ^ k) := UInt64.toNat_inj.mp (by rw [UInt64.toNat_shiftRight, u_tn ha, u_tn (by omega), u_tn (Nat.lt_of_le_of_lt (Nat.div_le_self _ _) ha), Nat.mod_eq_of_lt hk, Nat.shiftRight_eq_div_pow])
  have h2 := congrArg UInt64.toInt64 h
  exact h2
theorem g_shl {a k p : Nat} {y : Int64} (hy : y.toBitVec.smod 64 = BitVec.ofNat 64 k) (hk : k < 64) (hp : 2 ^ k = p) (ha : a < 2 ^ 64) : lN a <<< y = lN (a * p) := by
  subst hp
  apply Int64.toBitVec_inj.mp
  rw [Int64.toBitVec_shiftLeft, hy]
  apply BitVec.eq_of_toNat_eq
  have hb : (lN a).toBitVec.toNat = a := Nat.mod_eq_of_lt ha
  have hk' : (BitVec.ofNat 64 k).toNat = k := Nat.mod_eq_of_lt (by omega)
  have h : ((lN a).toBitVec <<< BitVec.ofNat 64 k).toNat = (a * 2 ^ k) % 2 ^ 64 := by simp only [BitVec.shiftLeft_eq', BitVec.toNat_shiftLeft, hb, hk', Nat.shiftLeft_eq]
  exact h
/-! ===== lN to 2^62 under >> and >>> ===== -/
theorem pf_lI {a : Nat} (h : a < 2 ^ 63) : (lN a).toInt = (a : Int) := lg_ofNat_toInt h
theorem pf_shr {a d : Nat} {D : Int64} (hD : (D.toBitVec.smod 64).toNat = d) (h : a < 2 ^ 62) : lN a >>> D = lN (a / 2 ^ d) := by
  have hd : a / 2 ^ d ≤ a := Nat.div_le_self _ _
  apply Int64.toInt_inj.mp
  have e : (lN a >>> D).toInt = (lN a).toInt >>> d := by
    rw [← hD]
    exact BitVec.toInt_sshiftRight ..
  rw [e, Int.shiftRight_eq_div_pow, pf_lI (by omega), pf_lI (by omega)]
  rfl
theorem pf_ushr {a d : Nat} {D : UInt64} (hD : D.toNat % 64 = d) (h : a < 2 ^ 62) : ((lN a).toUInt64 >>> D).toInt64 = lN (a / 2 ^ d) := by
  have hd : a / 2 ^ d ≤ a := Nat.div_le_self _ _
  have e : (lN a).toUInt64 >>> D = UInt64.ofNat (a / 2 ^ d) := UInt64.toNat_inj.mp (by
    rw [UInt64.toNat_shiftRight, hD, Nat.shiftRight_eq_div_pow, UInt64.toNat_ofNat']
    show (UInt64.ofNat a).toNat / 2 ^ d = _
    rw [UInt64.toNat_ofNat', Nat.mod_eq_of_lt (by omega), Nat.mod_eq_of_lt (by omega)])
  rw [e]
  rfl
theorem pf_andw (x : Int64) : ∃ m, m < 2 ^ 32 ∧ x &&& 4294967295 = lN m := ⟨x.toBitVec.toNat % 2 ^ 32, Nat.mod_lt _ (by decide), Int64.toBitVec_inj.mp (BitVec.eq_of_toNat_eq (by
  show (x.toBitVec &&& 4294967295#64).toNat = (BitVec.ofNat 64 (x.toBitVec.toNat % 2 ^ 32)).toNat
  rw [BitVec.toNat_and, show (4294967295#64).toNat = 2 ^ 32 - 1 from by decide, Nat.and_two_pow_sub_one_eq_mod, BitVec.toNat_ofNat]
  omega))⟩
/-! ===== Int64 as an unsigned number: uN x ===== -/
def uN (x : Int64) : Nat := x.toUInt64.toNat
theorem uN_lt (x : Int64) : uN x < 18446744073709551616 := x.toUInt64.toNat_lt
theorem uN_inj {x y : Int64} (h : uN x = uN y) : x = y := congrArg UInt64.toInt64 (UInt64.toNat_inj.mp h)
theorem uN_add (x y : Int64) : uN (x + y) = (uN x + uN y) % 18446744073709551616 := by
  show (x.toUInt64 + y.toUInt64).toNat = _
  exact UInt64.toNat_add _ _
theorem uN_mul (x y : Int64) : uN (x * y) = (uN x * uN y) % 18446744073709551616 := by
  show (x.toUInt64 * y.toUInt64).toNat = _
  exact UInt64.toNat_mul _ _
theorem uN_shl (x : Int64) : uN (x <<< ((1 : Int32).toInt64 &&& 63)) = (2 * uN x) % 18446744073709551616 := by
  have h : (((1 : Int32).toInt64 &&& 63).toBitVec.smod 64).toNat = 1 := by decide
  show (x.toBitVec <<< (((1 : Int32).toInt64 &&& 63).toBitVec.smod 64).toNat).toNat = _
  rw [h, BitVec.toNat_shiftLeft, Nat.shiftLeft_eq, Nat.mul_comm]
  rfl
theorem uN_shr (x : Int64) (s : UInt64) : uN (x.toUInt64 >>> s).toInt64 = uN x / 2 ^ (s.toNat % 64) := by
  show (x.toUInt64 >>> s).toNat = _
  rw [UInt64.toNat_shiftRight, Nat.shiftRight_eq_div_pow]
  rfl
theorem uN_s32 (x : Int64) : uN (x.toUInt64 >>> ((32 : Int32).toInt64.toUInt64 &&& Int64.toUInt64 63)).toInt64 = uN x / 4294967296 := by
  have h : ((32 : Int32).toInt64.toUInt64 &&& Int64.toUInt64 63).toNat % 64 = 32 := by decide
  rw [uN_shr, h]
theorem uN_s63 (x : Int64) : uN (x.toUInt64 >>> ((63 : Int32).toInt64.toUInt64 &&& Int64.toUInt64 63)).toInt64 = uN x / 9223372036854775808 := by
  have h : ((63 : Int32).toInt64.toUInt64 &&& Int64.toUInt64 63).toNat % 64 = 63 := by decide
  rw [uN_shr, h]
theorem uN_lo (x : Int64) : uN (x &&& 4294967295) = uN x % 4294967296 := by
  show (x.toUInt64 &&& Int64.toUInt64 4294967295).toNat = _
  rw [UInt64.toNat_and]
  exact Nat.and_two_pow_sub_one_eq_mod _ 32
theorem uN_bit (x : Int64) : (x &&& 1) = 0 ↔ uN x % 2 = 0 := by
  have h : uN (x &&& 1) = uN x % 2 := by
    show (x.toUInt64 &&& Int64.toUInt64 1).toNat = _
    rw [UInt64.toNat_and]
    exact Nat.and_two_pow_sub_one_eq_mod _ 1
  rw [← h]
  exact ⟨fun z => by rw [z]; rfl, fun z => uN_inj (z.trans rfl)⟩
theorem uN_or {x y : Int64} (hy : uN y < 2) : uN ((x <<< ((1 : Int32).toInt64 &&& 63)) ||| y) = (2 * uN x) % 18446744073709551616 + uN y := by
  have h1 : uN ((x <<< ((1 : Int32).toInt64 &&& 63)) ||| y) = uN (x <<< ((1 : Int32).toInt64 &&& 63)) ||| uN y := UInt64.toNat_or _ _
  have h2 : (2 * uN x) % 18446744073709551616 = 2 ^ 1 * (uN x % 9223372036854775808) := by omega
  rw [h1, uN_shl, h2]
  exact (Nat.two_pow_add_eq_or_of_lt (i := 1) hy _).symm
theorem nat_xor {a : Nat} (h : a < 18446744073709551616) : a ^^^ 2 ^ 63 = (a + 9223372036854775808) % 18446744073709551616 := by
  have h1 : (a ^^^ 2 ^ 63) % 2 ^ 63 = a % 2 ^ 63 := by rw [Nat.xor_mod_two_pow, Nat.mod_self, Nat.xor_zero]
  have h2 : (a ^^^ 2 ^ 63) / 2 ^ 63 = (a / 2 ^ 63) ^^^ 1 := by rw [Nat.xor_div_two_pow, Nat.div_self (Nat.two_pow_pos 63)]
  have h3 : a / 2 ^ 63 = 0 ∨ a / 2 ^ 63 = 1 := by omega
  generalize a ^^^ 2 ^ 63 = t at h1 h2
  rcases h3 with h3 | h3
  · rw [h3] at h2
    have h2 : t / 2 ^ 63 = 1 := h2
    omega
  · rw [h3] at h2
    have h2 : t / 2 ^ 63 = 0 := h2
    omega
theorem uN_xor (x : Int64) : uN (x ^^^ (-9223372036854775808)) = (uN x + 9223372036854775808) % 18446744073709551616 := by
  rw [← nat_xor (uN_lt x)]
  exact UInt64.toNat_xor _ _
theorem uN_int (x : Int64) : x.toInt = if 2 * uN x < 18446744073709551616 then (uN x : Int) else (uN x : Int) - 18446744073709551616 := BitVec.toInt_eq_toNat_cond _
theorem uN_le (x y : Int64) : (x ^^^ (-9223372036854775808)) ≤ (y ^^^ (-9223372036854775808)) ↔ uN x ≤ uN y := by
  have hx := uN_lt x
  have hy := uN_lt y
  rw [Int64.le_iff_toInt_le, uN_int, uN_int, uN_xor, uN_xor]
  omega
theorem uN_sk (x : Int64) {k : Nat} (hk : k < 64) : uN (x.toUInt64 >>> ((nI k).toInt64.toUInt64 &&& Int64.toUInt64 63)).toInt64 = uN x / 2 ^ k := by
  have h : ((nI k).toInt64.toUInt64 &&& Int64.toUInt64 63).toNat % 64 = k := by
    rw [nI_l (by omega), UInt64.toNat_and]
    have e : (lN k).toUInt64.toNat = k % 2 ^ 64 := rfl
    have e2 : (Int64.toUInt64 63).toNat = 2 ^ 6 - 1 := by decide
    rw [e, e2, Nat.and_two_pow_sub_one_eq_mod]
    omega
  rw [uN_shr, h]
/-! ===== unsigned comparison by xor with the least ===== -/
theorem lN_bv (n : Nat) : (lN n).toBitVec = BitVec.ofNat 64 n := rfl
theorem lN_nat {n : Nat} (h : n < 2 ^ 64) : (lN n).toBitVec.toNat = n := by rw [lN_bv, BitVec.toNat_ofNat]; exact Nat.mod_eq_of_lt h
theorem lN_xor (a b : Nat) : lN a ^^^ lN b = lN (a ^^^ b) := by
  apply Int64.toBitVec_inj.mp; rw [Int64.toBitVec_xor, lN_bv, lN_bv, lN_bv]; apply BitVec.eq_of_getLsbD_eq; intro i hi; simp [BitVec.getLsbD_ofNat, Nat.testBit_xor, hi]
theorem lN_ti {m : Nat} (h : m < 2 ^ 64) : (lN m).toInt = if m < 2 ^ 63 then (m : Int) else (m : Int) - 2 ^ 64 := by
  have c := BitVec.toInt_eq_toNat_cond (lN m).toBitVec
  rw [lN_nat h] at c
  show (lN m).toBitVec.toInt = _
  rw [c]
  split <;> split <;> omega
theorem xor63 {x : Nat} (h : x < 2 ^ 63) : x ^^^ 2 ^ 63 = 2 ^ 63 + x := by
  apply Nat.eq_of_testBit_eq
  intro i
  rw [Nat.testBit_xor, Nat.testBit_two_pow]
  rcases Nat.lt_trichotomy i 63 with z | z | z
  · rw [Nat.testBit_two_pow_add_gt z, decide_eq_false (by omega)]; simp
  · subst z; rw [Nat.testBit_two_pow_add_eq]; simp
  · have hp : 2 ^ 64 ≤ 2 ^ i := Nat.pow_le_pow_right (by decide) z
    rw [Nat.testBit_lt_two_pow (show x < 2 ^ i by omega), Nat.testBit_lt_two_pow (show 2 ^ 63 + x < 2 ^ i by omega), decide_eq_false (by omega)]; rfl
theorem xorS {a : Nat} (h : a < 2 ^ 64) : (lN a ^^^ (-9223372036854775808)).toInt = (a : Int) - 2 ^ 63 := by
  rw [show (-9223372036854775808 : Int64) = lN (2 ^ 63) from by decide +kernel, lN_xor]
  rcases Nat.lt_or_ge a (2 ^ 63) with z | z
  · rw [xor63 z, lN_ti (by omega), if_neg (by omega)]; omega
  · obtain ⟨x, rfl⟩ : ∃ x, a = 2 ^ 63 + x := ⟨a - 2 ^ 63, by omega⟩
    rw [← xor63 (by omega), Nat.xor_assoc, Nat.xor_self, Nat.xor_zero, lN_ti (by omega), if_pos (by omega), xor63 (by omega)]; omega
theorem ultL {a b : Nat} (ha : a < 2 ^ 64) (hb : b < 2 ^ 64) : ((lN b ^^^ (-9223372036854775808)) ≤ (lN a ^^^ (-9223372036854775808))) ↔ b ≤ a := by
  rw [Int64.le_iff_toInt_le, xorS ha, xorS hb]; omega
/-! ===== Int64 masks of n low bits ===== -/
theorem cr_bits (W U M : BitVec 64) : ((W &&& U) &&& (U &&& (M ^^^ BitVec.allOnes 64))) = 0#64 ↔ (W &&& U) &&& M = W &&& U := by
  constructor
  · intro h
    apply BitVec.eq_of_getLsbD_eq
    intro i hi
    have e := congrArg (fun x => BitVec.getLsbD x i) h
    simp only [BitVec.getLsbD_and, BitVec.getLsbD_xor, BitVec.getLsbD_allOnes, BitVec.getLsbD_zero, hi, decide_true] at e ⊢
    revert e
    cases W.getLsbD i <;> cases U.getLsbD i <;> cases M.getLsbD i <;> decide
  · intro h
    apply BitVec.eq_of_getLsbD_eq
    intro i hi
    have e := congrArg (fun x => BitVec.getLsbD x i) h
    simp only [BitVec.getLsbD_and, BitVec.getLsbD_xor, BitVec.getLsbD_allOnes, BitVec.getLsbD_zero, hi, decide_true] at e ⊢
    revert e
    cases W.getLsbD i <;> cases U.getLsbD i <;> cases M.getLsbD i <;> decide
theorem cr_mask (w U m : Int64) (n : Nat) (hm : m.toBitVec.toNat = 2 ^ n - 1) : ((w &&& U) &&& (U &&& (m ^^^ (-1)))) = 0 ↔ (w &&& U).toBitVec.toNat < 2 ^ n := by
  have e0 : (-1 : Int64).toBitVec = BitVec.allOnes 64 := by decide
  have z0 : (0 : Int64).toBitVec = 0#64 := by decide
  rw [← Int64.toBitVec_inj, z0, Int64.toBitVec_and, Int64.toBitVec_and, Int64.toBitVec_and, Int64.toBitVec_xor, e0, cr_bits]
  generalize w.toBitVec &&& U.toBitVec = T
  rw [← BitVec.toNat_inj, BitVec.toNat_and, hm, Nat.and_two_pow_sub_one_eq_mod]
  constructor
  · intro h
    have t := Nat.mod_lt T.toNat (Nat.two_pow_pos n)
    rw [h] at t
    exact t
  · exact Nat.mod_eq_of_lt
theorem cr_shr (t : Int64) (x : UInt64) (n : Nat) (hx : x.toNat % 64 = n) : (t.toUInt64 >>> x).toInt64 = 0 ↔ t.toBitVec.toNat < 2 ^ n := by
  rw [← Int64.toBitVec_inj, ← BitVec.toNat_inj]
  show (t.toUInt64 >>> x).toNat = 0 ↔ t.toUInt64.toNat < 2 ^ n
  rw [UInt64.toNat_shiftRight, hx, Nat.shiftRight_eq_div_pow]
  constructor
  · intro h
    have d : t.toUInt64.toNat / 2 ^ n < 1 := by
      rw [h]
      decide
    have e := (Nat.div_lt_iff_lt_mul (Nat.two_pow_pos n)).mp d
    rw [Nat.one_mul] at e
    exact e
  · exact Nat.div_eq_of_lt
theorem cr_amt (s : Int64) : ∃ n, n < 64 ∧ s &&& 63 = lN n ∧ (s.toUInt64 &&& Int64.toUInt64 63).toNat % 64 = n := by
  have e : (s.toUInt64 &&& Int64.toUInt64 63).toNat = s.toUInt64.toNat % 2 ^ 6 := by
    rw [UInt64.toNat_and, show (Int64.toUInt64 63).toNat = 2 ^ 6 - 1 from by decide, Nat.and_two_pow_sub_one_eq_mod]
  refine ⟨s.toUInt64.toNat % 2 ^ 6, by omega, ?_, by omega⟩
  rw [← Int64.toBitVec_inj, ← BitVec.toNat_inj]
  show (s.toUInt64 &&& Int64.toUInt64 63).toNat = (BitVec.ofNat 64 (s.toUInt64.toNat % 2 ^ 6)).toNat
  rw [e, BitVec.toNat_ofNat]
  omega

/-! plain facts on numbers and arrays, to paste: each family by itself; over the kit's rows on nI and upd -/
/-! ===== order of ints, in all its forms, and through longs ===== -/
theorem fa_lt (a b : Int32) : a < b ↔ a.toInt < b.toInt := Int32.lt_iff_toInt_lt
theorem fa_le (a b : Int32) : a ≤ b ↔ a.toInt ≤ b.toInt := Int32.le_iff_toInt_le
theorem fa_eq (a b : Int32) : a = b ↔ a.toInt = b.toInt := Int32.toInt_inj.symm
theorem fa_lt64 (a b : Int64) : a < b ↔ a.toInt < b.toInt := Int64.lt_iff_toInt_lt
theorem fa_le64 (a b : Int64) : a ≤ b ↔ a.toInt ≤ b.toInt := Int64.le_iff_toInt_le
theorem fa_eq64 (a b : Int64) : a = b ↔ a.toInt = b.toInt := Int64.toInt_inj.symm
/-- a comparison of two ints taken as longs -/
theorem fa_wide_lt (a b : Int32) : a.toInt64 < b.toInt64 ↔ a < b := by rw [fa_lt64, fa_lt, Int32.toInt_toInt64, Int32.toInt_toInt64]
theorem fa_wide_le (a b : Int32) : a.toInt64 ≤ b.toInt64 ↔ a ≤ b := by rw [fa_le64, fa_le, Int32.toInt_toInt64, Int32.toInt_toInt64]
theorem fa_wide_eq (a b : Int32) : a.toInt64 = b.toInt64 ↔ a = b := by rw [fa_eq64, fa_eq, Int32.toInt_toInt64, Int32.toInt_toInt64]
/-- one strict comparison gives all the others -/
theorem fa_of_lt {a b : Int32} (h : a < b) : a ≤ b ∧ ¬ b ≤ a ∧ ¬ b < a ∧ a ≠ b ∧ b ≠ a := by
  rw [fa_lt] at h
  refine ⟨?_, ?_, ?_, ?_, ?_⟩
  · rw [fa_le]; omega
  · rw [fa_le]; omega
  · rw [fa_lt]; omega
  · intro e; rw [fa_eq] at e; omega
  · intro e; rw [fa_eq] at e; omega
theorem fa_of_nlt {a b : Int32} (h : ¬ a < b) : b ≤ a := by
  rw [fa_lt] at h
  rw [fa_le]
  omega
theorem fa_of_nle {a b : Int32} (h : ¬ a ≤ b) : b < a := by
  rw [fa_le] at h
  rw [fa_lt]
  omega
theorem fa_le_ne {a b : Int32} (h : a ≤ b) (h2 : a ≠ b) : a < b := by
  rw [fa_le] at h
  rw [fa_lt]
  have h3 : a.toInt ≠ b.toInt := fun e => h2 ((fa_eq a b).mpr e)
  omega
theorem fa_three (a b : Int32) : a < b ∨ a = b ∨ b < a := by
  rw [fa_lt, fa_lt, fa_eq]
  omega
theorem fa_trans {a b c : Int32} (h : a < b) (h2 : b ≤ c) : a < c := by
  rw [fa_lt] at *
  rw [fa_le] at h2
  omega
/-! ===== small literals as numbers ===== -/
theorem fa_lit (n : Nat) : (OfNat.ofNat n : Int32) = nI n := rfl
theorem fa_litL (n : Nat) : (OfNat.ofNat n : Int64) = lN n := rfl
/-! ===== bits of a number: 'or', masks, one bit ===== -/
theorem fa_and (a b : Nat) : nI a &&& nI b = nI (a &&& b) := by
  apply Int32.toBitVec_inj.1
  show BitVec.ofNat 32 a &&& BitVec.ofNat 32 b = BitVec.ofNat 32 (a &&& b)
  apply BitVec.eq_of_getLsbD_eq
  intro i hi
  simp [hi]
theorem fa_or (a b : Nat) : nI a ||| nI b = nI (a ||| b) := by
  apply Int32.toBitVec_inj.1
  show BitVec.ofNat 32 a ||| BitVec.ofNat 32 b = BitVec.ofNat 32 (a ||| b)
  apply BitVec.eq_of_getLsbD_eq
  intro i hi
  simp [hi]
/-- a remainder by a power of two, as a mask -/
theorem fa_mask (n k : Nat) : nI n &&& nI (2 ^ k - 1) = nI (n % 2 ^ k) := by rw [fa_and, Nat.and_two_pow_sub_one_eq_mod]
/-- 'or' of a high part and a low one that don't meet is their sum -/
theorem fa_or_sum {a k : Nat} (b : Nat) (h : a < 2 ^ k) : nI (2 ^ k * b) ||| nI a = nI (2 ^ k * b + a) := by rw [fa_or, Nat.two_pow_add_eq_or_of_lt h]
/-- one bit, by 'and' with a power of two -/
theorem fa_bit {n j : Nat} (hj : j < 31) : nI n &&& nI (2 ^ j) = 0 ↔ n.testBit j = false := by
  have h2 : (2 : Nat) ^ j < 2 ^ 31 := Nat.pow_lt_pow_right (by decide) hj
  have hle : n &&& 2 ^ j ≤ 2 ^ j := Nat.and_le_right
  have e : n &&& 2 ^ j = 0 ↔ n.testBit j = false := by
    constructor
    · intro h
      have h1 : (n &&& 2 ^ j).testBit j = false := by rw [h]; simp
      rw [Nat.testBit_and] at h1
      first | simpa using h1 | simpa [Nat.testBit_two_pow_self] using h1 | simpa [Nat.testBit_two_pow] using h1
    · intro h
      apply Nat.eq_of_testBit_eq
      intro i
      rw [Nat.testBit_and]
      by_cases hi : j = i
      · subst hi; simp [h]
      · first | (simp [Nat.testBit_two_pow, hi]; done) | (simp [Nat.testBit_two_pow_of_ne hi]; done)
  rw [fa_and]
  constructor
  · intro h
    apply e.mp
    rcases Nat.eq_zero_or_pos (n &&& 2 ^ j) with z | z
    · exact z
    · exact absurd h (nI_ne0 z (Nat.lt_of_le_of_lt hle h2))
  · intro h
    rw [e.mpr h]; exact nI_0
/-- a remainder by a power of two of a number that isn't negative, as Java divides -/
theorem fa_rem {a k : Nat} (ha : a < 2 ^ 31) (hk : k < 31) : nI a - nI a / nI (2 ^ k) * nI (2 ^ k) = nI (a % 2 ^ k) := pk_rem ha (Nat.two_pow_pos k) (Nat.pow_lt_pow_right (by decide) hk)
/-! ===== cuts to a byte, a short ===== -/
theorem fa_byte_xor (x y : Int32) : (x ^^^ y).toInt8 = x.toInt8 ^^^ y.toInt8 := by
  apply Int8.toBitVec_inj.1
  apply BitVec.eq_of_getLsbD_eq
  intro i hi
  first | (simp [hi]; done) | (simp [hi, BitVec.getLsbD_setWidth, BitVec.getLsbD_signExtend]; done)
theorem fa_short_xor (x y : Int32) : (x ^^^ y).toInt16 = x.toInt16 ^^^ y.toInt16 := by
  apply Int16.toBitVec_inj.1
  apply BitVec.eq_of_getLsbD_eq
  intro i hi
  first | (simp [hi]; done) | (simp [hi, BitVec.getLsbD_setWidth, BitVec.getLsbD_signExtend]; done)
/-- the cut to a byte sees the low byte alone -/
theorem fa_byte_low (x : Int32) : (x &&& 255).toInt8 = x.toInt8 := by
  apply Int8.toBitVec_inj.1
  apply BitVec.eq_of_getLsbD_eq
  intro i hi
  have h2 : (255 : Int32).toBitVec.getLsbD i = true := by
    have : ∀ j : Fin 8, (255 : Int32).toBitVec.getLsbD j.val = true := by decide +kernel
    exact this ⟨i, hi⟩
  have h4 : (x &&& 255).toBitVec.getLsbD i = x.toBitVec.getLsbD i := by
    show (x.toBitVec &&& (255 : Int32).toBitVec).getLsbD i = _
    rw [BitVec.getLsbD_and, h2, Bool.and_true]
  have h3 : i < 32 := by omega
  first
    | (show (((x &&& 255).toBitVec).signExtend 8).getLsbD i = (x.toBitVec.signExtend 8).getLsbD i; rw [BitVec.getLsbD_signExtend, BitVec.getLsbD_signExtend, if_pos h3, if_pos h3, h4])
    | (show (((x &&& 255).toBitVec).setWidth 8).getLsbD i = (x.toBitVec.setWidth 8).getLsbD i; rw [BitVec.getLsbD_setWidth, BitVec.getLsbD_setWidth, h4])
    | (simp [hi, h3, h4]; done)
theorem fa_short_low (x : Int32) : (x &&& 65535).toInt16 = x.toInt16 := by
  apply Int16.toBitVec_inj.1
  apply BitVec.eq_of_getLsbD_eq
  intro i hi
  have h2 : (65535 : Int32).toBitVec.getLsbD i = true := by
    have : ∀ j : Fin 16, (65535 : Int32).toBitVec.getLsbD j.val = true := by decide +kernel
    exact this ⟨i, hi⟩
  have h4 : (x &&& 65535).toBitVec.getLsbD i = x.toBitVec.getLsbD i := by
    show (x.toBitVec &&& (65535 : Int32).toBitVec).getLsbD i = _
    rw [BitVec.getLsbD_and, h2, Bool.and_true]
  have h3 : i < 32 := by omega
  first
    | (show (((x &&& 65535).toBitVec).signExtend 16).getLsbD i = (x.toBitVec.signExtend 16).getLsbD i; rw [BitVec.getLsbD_signExtend, BitVec.getLsbD_signExtend, if_pos h3, if_pos h3, h4])
    | (show (((x &&& 65535).toBitVec).setWidth 16).getLsbD i = (x.toBitVec.setWidth 16).getLsbD i; rw [BitVec.getLsbD_setWidth, BitVec.getLsbD_setWidth, h4])
    | (simp [hi, h3, h4]; done)
/-- a small number is its own byte, its own short -/
theorem fa_byte_small {n : Nat} (h : n < 128) : (nI n).toInt8.toInt32 = nI n := by
  have : ∀ j : Fin 128, (nI j.val).toInt8.toInt32 = nI j.val := by decide +kernel
  exact this ⟨n, h⟩
/-! ===== absolute difference ===== -/
theorem fa_absdiff {a b : Nat} (ha : a < 2 ^ 31) (hb : b < 2 ^ 31) : (if nI a < nI b then nI b - nI a else nI a - nI b) = nI (if a < b then b - a else a - b) := by
  by_cases h : a < b
  · rw [if_pos (nI_lt h hb), if_pos h]
    exact pk_sub (Nat.le_of_lt h)
  · rw [if_neg (nI_nlt (Nat.le_of_not_lt h) ha), if_neg h]
    exact pk_sub (Nat.le_of_not_lt h)
/-! ===== an array behind i stores, a conditional store, a row copied ===== -/
/-- f where k < i, what stood there else -/
def fa_fill {α : Type} (f g : Nat → α) (i : Nat) : Nat → α := fun k => if k < i then f k else g k
theorem fa_fill_0 {α : Type} (f g : Nat → α) : fa_fill f g 0 = g := funext fun k => if_neg (Nat.not_lt_zero k)
theorem fa_fill_in {α : Type} {f g : Nat → α} {i k : Nat} (h : k < i) : fa_fill f g i k = f k := if_pos h
theorem fa_fill_out {α : Type} {f g : Nat → α} {i k : Nat} (h : i ≤ k) : fa_fill f g i k = g k := if_neg (Nat.not_lt.mpr h)
theorem fa_fill_succ (f g : Nat → Int32) (i : Nat) : upd (fa_fill f g i) i (f i) = fa_fill f g (i + 1) := by
  funext k
  by_cases e : k = i
  · subst e
    rw [pk_us]
    exact (if_pos (Nat.lt_succ_self k)).symm
  · rw [pk_un e]
    by_cases h : k < i
    · rw [fa_fill_in h, fa_fill_in (Nat.lt_succ_of_lt h)]
    · rw [fa_fill_out (Nat.le_of_not_lt h), fa_fill_out (by omega)]
/-- a store that changes nothing -/
theorem fa_upd_same {f : Nat → Int32} {i : Nat} {x : Int32} (h : f i = x) : upd f i x = f := by
  funext k
  by_cases e : k = i
  · subst e
    rw [pk_us, h]
  · rw [pk_un e]
/-- a store under a condition, told as one -/
theorem fa_upd_if (c : Prop) [Decidable c] (f : Nat → Int32) (i : Nat) (x : Int32) : (if c then upd f i x else f) = upd f i (if c then x else f i) := by
  by_cases h : c
  · rw [if_pos h, if_pos h]
  · rw [if_neg h, if_neg h, fa_upd_same rfl]
/-- two stores at one place, at two -/
theorem fa_upd_twice (f : Nat → Int32) (i : Nat) (x y : Int32) : upd (upd f i x) i y = upd f i y := by
  funext k
  by_cases e : k = i
  · subst e
    rw [pk_us, pk_us]
  · rw [pk_un e, pk_un e, pk_un e]
theorem fa_upd_swap (f : Nat → Int32) {i j : Nat} (h : i ≠ j) (x y : Int32) : upd (upd f i x) j y = upd (upd f j y) i x := by
  funext k
  by_cases e : k = i
  · subst e
    rw [pk_un h, pk_us, pk_us]
  · by_cases e2 : k = j
    · subst e2
      rw [pk_us, pk_un e, pk_us]
    · rw [pk_un e2, pk_un e, pk_un e, pk_un e2]
/-! ===== the first index with a property; a count ===== -/
/-- the first k < n with p k, n if there is none -/
def fa_first (p : Nat → Bool) : Nat → Nat
  | 0 => 0
  | n + 1 => if fa_first p n < n then fa_first p n else if p n then n else n + 1
theorem fa_first_le (p : Nat → Bool) : ∀ n, fa_first p n ≤ n
  | 0 => Nat.le_refl 0
  | n + 1 => by
    have ih := fa_first_le p n
    unfold fa_first
    split
    · omega
    · split
      · omega
      · omega
theorem fa_first_no (p : Nat → Bool) : ∀ n k, k < fa_first p n → p k = false
  | 0, k, h => absurd h (Nat.not_lt_zero k)
  | n + 1, k, h => by
    have ih := fa_first_no p n
    have hl := fa_first_le p n
    unfold fa_first at h
    split at h
    · exact ih k h
    · rename_i h1
      split at h
      · exact ih k (by omega)
      · rename_i h2
        by_cases e : k = n
        · subst e
          exact Bool.eq_false_iff.mpr h2
        · exact ih k (by omega)
theorem fa_first_yes (p : Nat → Bool) : ∀ n, fa_first p n < n → p (fa_first p n) = true
  | 0, h => absurd h (Nat.not_lt_zero _)
  | n + 1, h => by
    have ih := fa_first_yes p n
    have hl := fa_first_le p n
    unfold fa_first at h ⊢
    split at h
    · rename_i h1
      rw [if_pos h1]
      exact ih h1
    · rename_i h1
      rw [if_neg h1]
      split at h
      · rename_i h2
        rw [if_pos h2]
        exact h2
      · omega
/-- how many k < n have p k -/
def fa_cnt (p : Nat → Bool) : Nat → Nat
  | 0 => 0
  | n + 1 => fa_cnt p n + if p n then 1 else 0
theorem fa_cnt_le (p : Nat → Bool) : ∀ n, fa_cnt p n ≤ n
  | 0 => Nat.le_refl 0
  | n + 1 => by
    have ih := fa_cnt_le p n
    unfold fa_cnt
    split
    · omega
    · omega
theorem fa_cnt_yes {p : Nat → Bool} {n : Nat} (h : p n = true) : fa_cnt p (n + 1) = fa_cnt p n + 1 := by rw [fa_cnt, if_pos h]
theorem fa_cnt_no {p : Nat → Bool} {n : Nat} (h : p n = false) : fa_cnt p (n + 1) = fa_cnt p n := by rw [fa_cnt, if_neg (by rw [h]; decide)]; rfl
theorem fa_cnt_cong {p q : Nat → Bool} : ∀ {n : Nat}, (∀ k, k < n → p k = q k) → fa_cnt p n = fa_cnt q n
  | 0, _ => rfl
  | n + 1, h => by rw [fa_cnt, fa_cnt, fa_cnt_cong (fun k hk => h k (Nat.lt_succ_of_lt hk)), h n (Nat.lt_succ_self n)]
/-! ===== an answer carried into a post; a branch on a boolean answer ===== -/
theorem fa_post {α : Type} {P : α → Prop} {x y : α} (h : x = y) (hp : P y) : P x := h ▸ hp
theorem fa_post2 {α β : Type} {P : α → β → Prop} {x y : α} {u v : β} (h : x = y) (h2 : u = v) (hp : P y v) : P x u := h ▸ h2 ▸ hp
theorem fa_bool {r : Int32} {b : Bool} (h : r = if b then 1 else 0) : (r = 0 ↔ b = false) ∧ (¬ r = 0 ↔ b = true) := by
  subst h
  cases b
  · exact ⟨⟨fun _ => rfl, fun _ => rfl⟩, ⟨fun h => absurd rfl h, fun h => absurd h (by decide)⟩⟩
  · exact ⟨⟨fun h => absurd h (by decide), fun h => absurd h (by decide)⟩, ⟨fun _ => rfl, fun _ => by decide⟩⟩
/-- a boolean's narrowing changes nothing -/
theorem fa_bool_and {r : Int32} (h : r = 0 ∨ r = 1) : r &&& 1 = r := by
  rcases h with rfl | rfl
  · decide
  · decide
theorem fa_bool_prop {c : Prop} [Decidable c] {r : Int32} (h : r = if c then 1 else 0) : (r = 0 ↔ ¬ c) ∧ (¬ r = 0 ↔ c) := by
  subst h
  by_cases hc : c
  · rw [if_pos hc]
    exact ⟨⟨fun h => absurd h (by decide), fun h => absurd hc h⟩, ⟨fun _ => hc, fun _ => by decide⟩⟩
  · rw [if_neg hc]
    exact ⟨⟨fun _ => hc, fun _ => rfl⟩, ⟨fun h => absurd rfl h, fun h => absurd h hc⟩⟩
/-! plain facts to paste, each family by itself; over the kit's nI, lN and upd -/
/-! ===== drawers: more things than places ===== -/
theorem fb_holes : ∀ (m n : Nat) (f : Nat → Nat), (∀ i, i < n → f i < m) → (∀ i j, i < j → j < n → f i ≠ f j) → n ≤ m := by
  intro m
  induction m with
  | zero =>
    intro n f h1 _
    rcases Nat.eq_zero_or_pos n with h | h
    · omega
    · exact absurd (h1 0 h) (Nat.not_lt_zero _)
  | succ m ih =>
    intro n f h1 h2
    by_cases hx : ∃ i, i < n ∧ f i = m
    · obtain ⟨a, ha, hfa⟩ := hx
      have hg := ih (n - 1) (fun i => if i < a then f i else f (i + 1)) (by
        intro i hi
        by_cases q : i < a
        · simp only [if_pos q]
          have b1 := h1 i (by omega)
          have b2 := h2 i a q ha
          omega
        · simp only [if_neg q]
          have b1 := h1 (i + 1) (by omega)
          have b2 := h2 a (i + 1) (by omega) (by omega)
          omega) (by
        intro i j hij hj
        by_cases q : i < a
        · by_cases r : j < a
          · simp only [if_pos q, if_pos r]
            exact h2 i j hij (by omega)
          · simp only [if_pos q, if_neg r]
            exact h2 i (j + 1) (by omega) (by omega)
        · have r : ¬ j < a := by omega
          simp only [if_neg q, if_neg r]
          exact h2 (i + 1) (j + 1) (by omega) (by omega))
      omega
    · have hg := ih n f (fun i hi => by
        have b1 := h1 i hi
        have b2 : f i ≠ m := fun e => hx ⟨i, hi, e⟩
        omega) h2
      omega
/-- two of them in one place -/
theorem fb_twice {m n : Nat} {f : Nat → Nat} (h : ∀ i, i < n → f i < m) (hm : m < n) : ∃ i j, i < j ∧ j < n ∧ f i = f j := by
  refine Classical.byContradiction fun hx => ?_
  have := fb_holes m n f h (fun i j hij hj e => hx ⟨i, j, hij, hj, e⟩)
  omega
/-- as many as places, none twice: each place is taken -/
theorem fb_onto {n : Nat} {f : Nat → Nat} (h : ∀ i, i < n → f i < n) (h2 : ∀ i j, i < j → j < n → f i ≠ f j) {y : Nat} (hy : y < n) : ∃ i, i < n ∧ f i = y := by
  refine Classical.byContradiction fun hx => ?_
  have hne : ∀ i, i < n → f i ≠ y := fun i hi e => hx ⟨i, hi, e⟩
  have := fb_holes (n - 1) n (fun i => if f i < y then f i else f i - 1) (by
    intro i hi
    have b1 := h i hi
    have b2 := hne i hi
    by_cases q : f i < y
    · simp only [if_pos q]; omega
    · simp only [if_neg q]; omega) (by
    intro i j hij hj
    have b1 := hne i (by omega)
    have b2 := hne j hj
    have b3 := h2 i j hij hj
    by_cases q : f i < y
    · by_cases r : f j < y
      · simp only [if_pos q, if_pos r]; exact b3
      · simp only [if_pos q, if_neg r]; omega
    · by_cases r : f j < y
      · simp only [if_neg q, if_pos r]; omega
      · simp only [if_neg q, if_neg r]; omega)
  omega
/-! ===== how many places have a property ===== -/
def fb_ct (p : Nat → Bool) : Nat → Nat
  | 0 => 0
  | n + 1 => fb_ct p n + (if p n then 1 else 0)
theorem fb_ct_succ (p : Nat → Bool) (n : Nat) : fb_ct p (n + 1) = fb_ct p n + (if p n then 1 else 0) := rfl
theorem fb_ct_le (p : Nat → Bool) : ∀ n, fb_ct p n ≤ n
  | 0 => Nat.le_refl _
  | n + 1 => by
    have h := fb_ct_le p n
    rw [fb_ct_succ]
    split <;> omega
theorem fb_ct_step (p : Nat → Bool) (m : Nat) : ∀ n, fb_ct p m ≤ fb_ct p (m + n)
  | 0 => Nat.le_refl _
  | n + 1 => by
    have h := fb_ct_step p m n
    show fb_ct p m ≤ fb_ct p (m + n + 1)
    rw [fb_ct_succ]
    omega
theorem fb_ct_mono (p : Nat → Bool) {m n : Nat} (h : m ≤ n) : fb_ct p m ≤ fb_ct p n := by
  have := fb_ct_step p m (n - m)
  rwa [Nat.add_sub_cancel' h] at this
theorem fb_ct_cong {p q : Nat → Bool} : ∀ {n : Nat}, (∀ k, k < n → p k = q k) → fb_ct p n = fb_ct q n
  | 0, _ => rfl
  | n + 1, h => by
    rw [fb_ct_succ, fb_ct_succ, fb_ct_cong (fun k hk => h k (by omega)), h n (by omega)]
/-- one place changed -/
theorem fb_ct_out (p : Nat → Bool) (b : Bool) {i n : Nat} (h : n ≤ i) : fb_ct (fun k => if k = i then b else p k) n = fb_ct p n :=
  fb_ct_cong fun k hk => if_neg (by omega)
theorem fb_ct_upd (p : Nat → Bool) (b : Bool) {i : Nat} : ∀ {n : Nat}, i < n → fb_ct (fun k => if k = i then b else p k) n + (if p i then 1 else 0) = fb_ct p n + (if b then 1 else 0)
  | 0, h => absurd h (Nat.not_lt_zero i)
  | n + 1, h => by
    rw [fb_ct_succ, fb_ct_succ]
    rcases Nat.lt_or_ge i n with q | q
    · have := fb_ct_upd p b q
      have e : (if n = i then b else p n) = p n := if_neg (by omega)
      rw [e]
      omega
    · have e : i = n := by omega
      subst e
      rw [fb_ct_out p b (Nat.le_refl _)]
      simp only [if_true]
      omega
theorem fb_ct_sub {p q : Nat → Bool} : ∀ {n : Nat}, (∀ k, k < n → p k = true → q k = true) → fb_ct p n ≤ fb_ct q n
  | 0, _ => Nat.le_refl _
  | n + 1, h => by
    have h1 := fb_ct_sub (n := n) (p := p) (q := q) (fun k hk => h k (by omega))
    have h2 := h n (by omega)
    rw [fb_ct_succ, fb_ct_succ]
    cases hp : p n <;> cases hq : q n <;> simp_all <;> omega
theorem fb_ct_or {p q : Nat → Bool} : ∀ {n : Nat}, (∀ k, k < n → ¬ (p k = true ∧ q k = true)) → fb_ct (fun k => p k || q k) n = fb_ct p n + fb_ct q n
  | 0, _ => rfl
  | n + 1, h => by
    have h1 := fb_ct_or (n := n) (p := p) (q := q) (fun k hk => h k (by omega))
    have h2 := h n (by omega)
    rw [fb_ct_succ, fb_ct_succ, fb_ct_succ, h1]
    cases hp : p n <;> cases hq : q n <;> simp_all <;> omega
theorem fb_ct_not (p : Nat → Bool) : ∀ n, fb_ct p n + fb_ct (fun k => !p k) n = n
  | 0 => rfl
  | n + 1 => by
    have h := fb_ct_not p n
    rw [fb_ct_succ, fb_ct_succ]
    cases p n <;> simp <;> omega
theorem fb_ct_split (p : Nat → Bool) (m : Nat) : ∀ n, fb_ct p (m + n) = fb_ct p m + fb_ct (fun k => p (m + k)) n
  | 0 => rfl
  | n + 1 => by
    have h := fb_ct_split p m n
    show fb_ct p (m + n + 1) = _
    rw [fb_ct_succ, fb_ct_succ, h, Nat.add_assoc]
theorem fb_ct_zero {p : Nat → Bool} : ∀ {n : Nat}, fb_ct p n = 0 ↔ ∀ k, k < n → p k = false
  | 0 => ⟨fun _ k hk => absurd hk (Nat.not_lt_zero k), fun _ => rfl⟩
  | n + 1 => by
    have h := fb_ct_zero (p := p) (n := n)
    rw [fb_ct_succ]
    constructor
    · intro e k hk
      have e1 : fb_ct p n = 0 := by omega
      rcases Nat.lt_or_ge k n with q | q
      · exact h.mp e1 k q
      · have ek : k = n := by omega
        subst ek
        cases hp : p k
        · rfl
        · simp [hp] at e
    · intro a
      rw [h.mpr (fun k hk => a k (by omega)), a n (by omega)]
      rfl
theorem fb_ct_pos {p : Nat → Bool} {n : Nat} : 0 < fb_ct p n ↔ ∃ k, k < n ∧ p k = true := by
  constructor
  · intro h
    refine Classical.byContradiction fun hx => ?_
    have := fb_ct_zero.mpr (fun k hk => by
      cases hp : p k
      · rfl
      · exact absurd ⟨k, hk, hp⟩ hx : ∀ k, k < n → p k = false)
    omega
  · rintro ⟨k, hk, hp⟩
    rcases Nat.eq_zero_or_pos (fb_ct p n) with e | e
    · have := fb_ct_zero.mp e k hk
      rw [this] at hp
      cases hp
    · exact e
theorem fb_ct_all {p : Nat → Bool} {n : Nat} : fb_ct p n = n ↔ ∀ k, k < n → p k = true := by
  have h := fb_ct_not p n
  constructor
  · intro e k hk
    have z : fb_ct (fun k => !p k) n = 0 := by omega
    have := fb_ct_zero.mp z k hk
    cases hp : p k
    · simp [hp] at this
    · rfl
  · intro a
    have z : fb_ct (fun k => !p k) n = 0 := fb_ct_zero.mpr (fun k hk => by simp [a k hk])
    omega
/-- the k-th place with the property -/
theorem fb_ct_kth {p : Nat → Bool} {k : Nat} : ∀ {n : Nat}, k < fb_ct p n → ∃ i, i < n ∧ p i = true ∧ fb_ct p i = k
  | 0, h => absurd h (Nat.not_lt_zero k)
  | n + 1, h => by
    rcases Nat.lt_or_ge k (fb_ct p n) with q | q
    · obtain ⟨i, h1, h2⟩ := fb_ct_kth q
      exact ⟨i, by omega, h2⟩
    · rw [fb_ct_succ] at h
      cases hp : p n
      · simp [hp] at h; omega
      · simp [hp] at h
        exact ⟨n, by omega, hp, by omega⟩
theorem fb_ct_kth_one {p : Nat → Bool} {i j : Nat} (hi : p i = true) (hj : p j = true) (e : fb_ct p i = fb_ct p j) : i = j := by
  have key : ∀ a b : Nat, a < b → p a = true → fb_ct p a < fb_ct p b := by
    intro a b hab ha
    have h := fb_ct_mono p (show a + 1 ≤ b from hab)
    rw [fb_ct_succ, ha] at h
    simp at h
    omega
  rcases Nat.lt_trichotomy i j with q | q | q
  · have := key i j q hi; omega
  · exact q
  · have := key j i q hj; omega
/-! ===== sums over a range: one place changed, parts, bounds ===== -/
def fb_sm (f : Nat → Nat) : Nat → Nat
  | 0 => 0
  | n + 1 => fb_sm f n + f n
theorem fb_sm_succ (f : Nat → Nat) (n : Nat) : fb_sm f (n + 1) = fb_sm f n + f n := rfl
theorem fb_sm_cong {f g : Nat → Nat} : ∀ {n : Nat}, (∀ k, k < n → f k = g k) → fb_sm f n = fb_sm g n
  | 0, _ => rfl
  | n + 1, h => by rw [fb_sm_succ, fb_sm_succ, fb_sm_cong (fun k hk => h k (by omega)), h n (by omega)]
theorem fb_sm_out (f : Nat → Nat) (v : Nat) {i n : Nat} (h : n ≤ i) : fb_sm (fun k => if k = i then v else f k) n = fb_sm f n :=
  fb_sm_cong fun k hk => if_neg (by omega)
theorem fb_sm_upd (f : Nat → Nat) (v : Nat) {i : Nat} : ∀ {n : Nat}, i < n → fb_sm (fun k => if k = i then v else f k) n + f i = fb_sm f n + v
  | 0, h => absurd h (Nat.not_lt_zero i)
  | n + 1, h => by
    rw [fb_sm_succ, fb_sm_succ]
    rcases Nat.lt_or_ge i n with q | q
    · have := fb_sm_upd f v q
      have e : (if n = i then v else f n) = f n := if_neg (by omega)
      rw [e]
      omega
    · have e : i = n := by omega
      subst e
      rw [fb_sm_out f v (Nat.le_refl _)]
      simp only [if_true]
      omega
theorem fb_sm_add (f g : Nat → Nat) : ∀ n, fb_sm (fun k => f k + g k) n = fb_sm f n + fb_sm g n
  | 0 => rfl
  | n + 1 => by
    have h := fb_sm_add f g n
    rw [fb_sm_succ, fb_sm_succ, fb_sm_succ, h]
    omega
theorem fb_sm_le {f g : Nat → Nat} : ∀ {n : Nat}, (∀ k, k < n → f k ≤ g k) → fb_sm f n ≤ fb_sm g n
  | 0, _ => Nat.le_refl _
  | n + 1, h => by
    have h1 := fb_sm_le (n := n) (f := f) (g := g) (fun k hk => h k (by omega))
    have h2 := h n (by omega)
    rw [fb_sm_succ, fb_sm_succ]
    omega
theorem fb_sm_const (c : Nat) : ∀ n, fb_sm (fun _ => c) n = n * c
  | 0 => by rw [Nat.zero_mul]; rfl
  | n + 1 => by rw [fb_sm_succ, fb_sm_const c n, Nat.succ_mul]
theorem fb_sm_bound {f : Nat → Nat} {c n : Nat} (h : ∀ k, k < n → f k ≤ c) : fb_sm f n ≤ n * c := by
  rw [← fb_sm_const c n]
  exact fb_sm_le h
theorem fb_sm_mono (f : Nat → Nat) (m : Nat) : ∀ n, fb_sm f m ≤ fb_sm f (m + n)
  | 0 => Nat.le_refl _
  | n + 1 => by
    have h := fb_sm_mono f m n
    show fb_sm f m ≤ fb_sm f (m + n + 1)
    rw [fb_sm_succ]
    omega
theorem fb_sm_part (f : Nat → Nat) {i n : Nat} (h : i < n) : fb_sm f i + f i ≤ fb_sm f n := by
  have := fb_sm_mono f (i + 1) (n - (i + 1))
  rw [fb_sm_succ, show i + 1 + (n - (i + 1)) = n by omega] at this
  exact this
theorem fb_sm_split (f : Nat → Nat) (m : Nat) : ∀ n, fb_sm f (m + n) = fb_sm f m + fb_sm (fun k => f (m + k)) n
  | 0 => rfl
  | n + 1 => by
    have h := fb_sm_split f m n
    show fb_sm f (m + n + 1) = _
    rw [fb_sm_succ, fb_sm_succ, h, Nat.add_assoc]
theorem fb_sm_zero {f : Nat → Nat} {n : Nat} (h : fb_sm f n = 0) : ∀ k, k < n → f k = 0 := fun k hk => by
  have := fb_sm_part f hk
  omega
/-- the same over whole numbers -/
def fb_si (f : Nat → Int) : Nat → Int
  | 0 => 0
  | n + 1 => fb_si f n + f n
theorem fb_si_succ (f : Nat → Int) (n : Nat) : fb_si f (n + 1) = fb_si f n + f n := rfl
theorem fb_si_cong {f g : Nat → Int} : ∀ {n : Nat}, (∀ k, k < n → f k = g k) → fb_si f n = fb_si g n
  | 0, _ => rfl
  | n + 1, h => by rw [fb_si_succ, fb_si_succ, fb_si_cong (fun k hk => h k (by omega)), h n (by omega)]
theorem fb_si_out (f : Nat → Int) (v : Int) {i n : Nat} (h : n ≤ i) : fb_si (fun k => if k = i then v else f k) n = fb_si f n :=
  fb_si_cong fun k hk => if_neg (by omega)
theorem fb_si_upd (f : Nat → Int) (v : Int) {i : Nat} : ∀ {n : Nat}, i < n → fb_si (fun k => if k = i then v else f k) n = fb_si f n - f i + v
  | 0, h => absurd h (Nat.not_lt_zero i)
  | n + 1, h => by
    rw [fb_si_succ, fb_si_succ]
    rcases Nat.lt_or_ge i n with q | q
    · have := fb_si_upd f v q
      have e : (if n = i then v else f n) = f n := if_neg (by omega)
      rw [e]
      omega
    · have e : i = n := by omega
      subst e
      rw [fb_si_out f v (Nat.le_refl _)]
      simp only [if_true]
      omega
theorem fb_si_add (f g : Nat → Int) : ∀ n, fb_si (fun k => f k + g k) n = fb_si f n + fb_si g n
  | 0 => rfl
  | n + 1 => by
    have h := fb_si_add f g n
    rw [fb_si_succ, fb_si_succ, fb_si_succ, h]
    omega
theorem fb_si_sub (f g : Nat → Int) : ∀ n, fb_si (fun k => f k - g k) n = fb_si f n - fb_si g n
  | 0 => rfl
  | n + 1 => by
    have h := fb_si_sub f g n
    rw [fb_si_succ, fb_si_succ, fb_si_succ, h]
    omega
theorem fb_si_mul (c : Int) (f : Nat → Int) : ∀ n, fb_si (fun k => c * f k) n = c * fb_si f n
  | 0 => (Int.mul_zero c).symm
  | n + 1 => by
    have h := fb_si_mul c f n
    rw [fb_si_succ, fb_si_succ, h, Int.mul_add]
theorem fb_si_split (f : Nat → Int) (m : Nat) : ∀ n, fb_si f (m + n) = fb_si f m + fb_si (fun k => f (m + k)) n
  | 0 => (Int.add_zero _).symm
  | n + 1 => by
    have h := fb_si_split f m n
    show fb_si f (m + n + 1) = _
    rw [fb_si_succ, fb_si_succ, h, Int.add_assoc]
theorem fb_si_nat (f : Nat → Nat) : ∀ n, fb_si (fun k => (f k : Int)) n = (fb_sm f n : Int)
  | 0 => rfl
  | n + 1 => by
    have h := fb_si_nat f n
    rw [fb_si_succ, fb_sm_succ, h]
    omega
theorem fb_si_bound {f : Nat → Int} {c : Int} (hc : 0 ≤ c) : ∀ {n : Nat}, (∀ k, k < n → -c ≤ f k ∧ f k ≤ c) → -(n * c) ≤ fb_si f n ∧ fb_si f n ≤ n * c
  | 0, _ => by simp [fb_si]
  | n + 1, h => by
    have h1 := fb_si_bound (n := n) (f := f) hc (fun k hk => h k (by omega))
    have h2 := h n (by omega)
    have e : ((n + 1 : Nat) : Int) * c = n * c + c := by rw [Int.natCast_add, Int.add_mul]; simp
    rw [fb_si_succ, e]
    omega
/-! ===== bits of a long that isn't negative ===== -/
theorem fb_andL (a b : Nat) : lN a &&& lN b = lN (a &&& b) := by
  apply Int64.toBitVec_inj.1
  show BitVec.ofNat 64 a &&& BitVec.ofNat 64 b = BitVec.ofNat 64 (a &&& b)
  apply BitVec.eq_of_getLsbD_eq
  intro i hi
  simp [hi]
theorem fb_orL (a b : Nat) : lN a ||| lN b = lN (a ||| b) := by
  apply Int64.toBitVec_inj.1
  show BitVec.ofNat 64 a ||| BitVec.ofNat 64 b = BitVec.ofNat 64 (a ||| b)
  apply BitVec.eq_of_getLsbD_eq
  intro i hi
  simp [hi]
theorem fb_xorL (a b : Nat) : lN a ^^^ lN b = lN (a ^^^ b) := by
  apply Int64.toBitVec_inj.1
  show BitVec.ofNat 64 a ^^^ BitVec.ofNat 64 b = BitVec.ofNat 64 (a ^^^ b)
  apply BitVec.eq_of_getLsbD_eq
  intro i hi
  simp [hi]
theorem fb_xorI (a b : Nat) : nI a ^^^ nI b = nI (a ^^^ b) := by
  apply Int32.toBitVec_inj.1
  show BitVec.ofNat 32 a ^^^ BitVec.ofNat 32 b = BitVec.ofNat 32 (a ^^^ b)
  apply BitVec.eq_of_getLsbD_eq
  intro i hi
  simp [hi]
theorem fb_maskL (n k : Nat) : lN n &&& lN (2 ^ k - 1) = lN (n % 2 ^ k) := by rw [fb_andL, Nat.and_two_pow_sub_one_eq_mod]
theorem fb_or_sumL {a k : Nat} (b : Nat) (h : a < 2 ^ k) : lN (2 ^ k * b) ||| lN a = lN (2 ^ k * b + a) := by rw [fb_orL, Nat.two_pow_add_eq_or_of_lt h]
theorem fb_lN_inj {a b : Nat} (ha : a < 2 ^ 63) (hb : b < 2 ^ 63) : lN a = lN b ↔ a = b := by
  constructor
  · intro h
    have h1 : (BitVec.ofNat 64 a).toNat = (BitVec.ofNat 64 b).toNat := congrArg (fun x : Int64 => x.toBitVec.toNat) h
    rw [BitVec.toNat_ofNat, BitVec.toNat_ofNat, Nat.mod_eq_of_lt (by omega), Nat.mod_eq_of_lt (by omega)] at h1
    exact h1
  · rintro rfl; rfl
theorem fb_bit_nat (n j : Nat) : n &&& 2 ^ j = 0 ↔ n.testBit j = false := by
  constructor
  · intro h
    have h1 : (n &&& 2 ^ j).testBit j = false := by rw [h]; simp
    rw [Nat.testBit_and] at h1
    simpa using h1
  · intro h
    apply Nat.eq_of_testBit_eq
    intro i
    rw [Nat.testBit_and]
    by_cases hi : j = i
    · subst hi; simp [h]
    · first | (simp [Nat.testBit_two_pow, hi]; done) | (simp [Nat.testBit_two_pow_of_ne hi]; done)
/-- one bit of a long -/
theorem fb_bitL {n j : Nat} (hj : j < 63) : lN n &&& lN (2 ^ j) = 0 ↔ n.testBit j = false := by
  have h2 : (2 : Nat) ^ j < 2 ^ 63 := Nat.pow_lt_pow_right (by decide) hj
  have hle : n &&& 2 ^ j ≤ 2 ^ j := Nat.and_le_right
  rw [fb_andL, ← fb_bit_nat, show (0 : Int64) = lN 0 from rfl]
  exact fb_lN_inj (by omega) (by decide)
/-- a bit set, a bit taken off -/
theorem fb_bit_set (n j i : Nat) : (n ||| 2 ^ j).testBit i = (n.testBit i || decide (i = j)) := by
  rw [Nat.testBit_or]
  by_cases h : j = i
  · subst h; simp
  · have h2 : ¬ i = j := fun e => h e.symm
    first | (simp [Nat.testBit_two_pow, h, h2]; done) | (simp [Nat.testBit_two_pow_of_ne h, h2]; done)
theorem fb_bit_flip (n j i : Nat) : (n ^^^ 2 ^ j).testBit i = (n.testBit i ^^ decide (i = j)) := by
  rw [Nat.testBit_xor]
  by_cases h : j = i
  · subst h; simp
  · have h2 : ¬ i = j := fun e => h e.symm
    first | (simp [Nat.testBit_two_pow, h, h2]; done) | (simp [Nat.testBit_two_pow_of_ne h, h2]; done)
/-! ===== a stretch of an array written over by a function ===== -/
def fb_put {α : Type} (f g : Nat → α) (a n : Nat) : Nat → α := fun k => if a ≤ k ∧ k < a + n then g (k - a) else f k
theorem fb_put_0 {α : Type} (f g : Nat → α) (a : Nat) : fb_put f g a 0 = f := funext fun k => if_neg (by omega)
theorem fb_put_in {α : Type} {f g : Nat → α} {a n k : Nat} (h1 : a ≤ k) (h2 : k < a + n) : fb_put f g a n k = g (k - a) := if_pos ⟨h1, h2⟩
theorem fb_put_out {α : Type} {f g : Nat → α} {a n k : Nat} (h : k < a ∨ a + n ≤ k) : fb_put f g a n k = f k := if_neg (by omega)
theorem fb_put_succ (f g : Nat → Int32) (a n : Nat) : upd (fb_put f g a n) (a + n) (g n) = fb_put f g a (n + 1) := by
  funext k
  by_cases h : k = a + n
  · subst h
    simp [upd, fb_put]
  · by_cases h1 : a ≤ k ∧ k < a + n
    · have h2 : a ≤ k ∧ k < a + (n + 1) := by omega
      simp only [upd, fb_put, if_neg h, if_pos h1, if_pos h2]
    · have h2 : ¬ (a ≤ k ∧ k < a + (n + 1)) := by omega
      simp only [upd, fb_put, if_neg h, if_neg h1, if_neg h2]
/-- .. from the far end down -/
theorem fb_put_down (f g : Nat → Int32) {a n m : Nat} (h : m < n) : upd (fb_put f (fun k => g (k + (m + 1))) (a + (m + 1)) (n - (m + 1))) (a + m) (g m) = fb_put f (fun k => g (k + m)) (a + m) (n - m) := by
  funext k
  by_cases h0 : k = a + m
  · subst h0
    simp only [upd, if_true]
    rw [fb_put_in (by omega) (by omega)]
    exact congrArg g (by omega)
  · simp only [upd, if_neg h0]
    by_cases h1 : a + (m + 1) ≤ k ∧ k < a + (m + 1) + (n - (m + 1))
    · rw [fb_put_in h1.1 h1.2, fb_put_in (by omega) (by omega)]
      exact congrArg g (by omega)
    · rw [fb_put_out (by omega), fb_put_out (by omega)]
theorem fb_put_cong {α : Type} {f f2 g g2 : Nat → α} {a n : Nat} (hf : ∀ k, (k < a ∨ a + n ≤ k) → f k = f2 k) (hg : ∀ k, k < n → g k = g2 k) : fb_put f g a n = fb_put f2 g2 a n := by
  funext k
  by_cases h : a ≤ k ∧ k < a + n
  · rw [fb_put_in h.1 h.2, fb_put_in h.1 h.2, hg _ (by omega)]
  · rw [fb_put_out (by omega), fb_put_out (by omega), hf _ (by omega)]
/-! ===== the least, the first, the best so far; that there is one alone ===== -/
theorem fb_first {p : Nat → Prop} [DecidablePred p] : ∀ {n : Nat}, (∃ i, i < n ∧ p i) → ∃ i, i < n ∧ p i ∧ ∀ j, j < i → ¬ p j
  | 0, h => by obtain ⟨i, hi, -⟩ := h; exact absurd hi (Nat.not_lt_zero i)
  | n + 1, h => by
    by_cases q : ∃ i, i < n ∧ p i
    · obtain ⟨i, h1, h2⟩ := fb_first q
      exact ⟨i, by omega, h2⟩
    · obtain ⟨i, h1, h2⟩ := h
      have e : i = n := by
        rcases Nat.lt_or_ge i n with r | r
        · exact absurd ⟨i, r, h2⟩ q
        · omega
      subst e
      exact ⟨i, by omega, h2, fun j hj hp => q ⟨j, hj, hp⟩⟩
theorem fb_first_one {p : Nat → Prop} {i j : Nat} (hi : p i) (hi2 : ∀ k, k < i → ¬ p k) (hj : p j) (hj2 : ∀ k, k < j → ¬ p k) : i = j := by
  rcases Nat.lt_trichotomy i j with q | q | q
  · exact absurd hi (hj2 i q)
  · exact q
  · exact absurd hj (hi2 j q)
theorem fb_last {p : Nat → Prop} [DecidablePred p] : ∀ {n : Nat}, (∃ i, i < n ∧ p i) → ∃ i, i < n ∧ p i ∧ ∀ j, i < j → j < n → ¬ p j
  | 0, h => by obtain ⟨i, hi, -⟩ := h; exact absurd hi (Nat.not_lt_zero i)
  | n + 1, h => by
    by_cases q : p n
    · exact ⟨n, by omega, q, fun j h1 h2 => by omega⟩
    · obtain ⟨i, h1, h2⟩ := h
      have hi : i < n := by
        rcases Nat.lt_or_ge i n with r | r
        · exact r
        · have e : i = n := by omega
          subst e
          exact absurd h2 q
      obtain ⟨i2, a1, a2, a3⟩ := fb_last (n := n) ⟨i, hi, h2⟩
      refine ⟨i2, by omega, a2, fun j b1 b2 => ?_⟩
      rcases Nat.lt_or_ge j n with r | r
      · exact a3 j b1 r
      · have e : j = n := by omega
        subst e
        exact q
/-- the first greatest -/
theorem fb_best (f : Nat → Int) : ∀ {n : Nat}, 0 < n → ∃ i, i < n ∧ (∀ j, j < n → f j ≤ f i) ∧ ∀ j, j < i → f j < f i
  | 0, h => absurd h (Nat.lt_irrefl 0)
  | 1, _ => ⟨0, by omega, fun j hj => by have e : j = 0 := by omega
                                         subst e; exact Int.le_refl _, fun j hj => absurd hj (Nat.not_lt_zero j)⟩
  | n + 2, _ => by
    obtain ⟨i, h1, h2, h3⟩ := fb_best f (n := n + 1) (by omega)
    by_cases q : f i < f (n + 1)
    · refine ⟨n + 1, by omega, fun j hj => ?_, fun j hj => ?_⟩
      · rcases Nat.lt_or_ge j (n + 1) with r | r
        · have := h2 j r; omega
        · have e : j = n + 1 := by omega
          subst e; exact Int.le_refl _
      · have := h2 j hj; omega
    · refine ⟨i, by omega, fun j hj => ?_, h3⟩
      rcases Nat.lt_or_ge j (n + 1) with r | r
      · exact h2 j r
      · have e : j = n + 1 := by omega
        subst e; omega
theorem fb_best_one {f : Nat → Int} {n i j : Nat} (hi : i < n) (hi2 : ∀ k, k < n → f k ≤ f i) (hi3 : ∀ k, k < i → f k < f i) (hj : j < n) (hj2 : ∀ k, k < n → f k ≤ f j) (hj3 : ∀ k, k < j → f k < f j) : i = j := by
  rcases Nat.lt_trichotomy i j with q | q | q
  · have a := hj3 i q
    have b := hi2 j hj
    omega
  · exact q
  · have a := hi3 j q
    have b := hj2 i hi
    omega
/-- the first least -/
theorem fb_low (f : Nat → Int) {n : Nat} (h : 0 < n) : ∃ i, i < n ∧ (∀ j, j < n → f i ≤ f j) ∧ ∀ j, j < i → f i < f j := by
  obtain ⟨i, h1, h2, h3⟩ := fb_best (fun k => -f k) h
  exact ⟨i, h1, fun j hj => by have := h2 j hj; omega, fun j hj => by have := h3 j hj; omega⟩
/-! ===== signed ints as whole numbers, within bounds ===== -/
theorem fb_rng (x : Int32) : -2147483648 ≤ x.toInt ∧ x.toInt < 2147483648 := by
  have h1 := Int32.le_toInt x
  have h2 := Int32.toInt_lt x
  omega
theorem fb_bmod {z : Int} (h1 : -2147483648 ≤ z) (h2 : z < 2147483648) : z.bmod (2 ^ 32) = z := by
  rw [Int.bmod_eq_of_le (by omega) (by omega)]
theorem fb_addI {x y : Int32} (h1 : -2147483648 ≤ x.toInt + y.toInt) (h2 : x.toInt + y.toInt < 2147483648) : (x + y).toInt = x.toInt + y.toInt := by
  rw [Int32.toInt_add, fb_bmod h1 h2]
theorem fb_subI {x y : Int32} (h1 : -2147483648 ≤ x.toInt - y.toInt) (h2 : x.toInt - y.toInt < 2147483648) : (x - y).toInt = x.toInt - y.toInt := by
  rw [Int32.toInt_sub, fb_bmod h1 h2]
theorem fb_mulI {x y : Int32} (h1 : -2147483648 ≤ x.toInt * y.toInt) (h2 : x.toInt * y.toInt < 2147483648) : (x * y).toInt = x.toInt * y.toInt := by
  rw [Int32.toInt_mul, fb_bmod h1 h2]
theorem fb_negI {x : Int32} (h : x.toInt ≠ -2147483648) : (-x).toInt = -x.toInt := by
  have := fb_rng x
  rw [Int32.toInt_neg, fb_bmod (by omega) (by omega)]
theorem fb_ofI {z : Int} (h1 : -2147483648 ≤ z) (h2 : z < 2147483648) : (Int32.ofInt z).toInt = z := by
  rw [Int32.toInt_ofInt, fb_bmod h1 h2]
theorem fb_asI (x : Int32) : Int32.ofInt x.toInt = x := Int32.ofInt_toInt x
theorem fb_rngL (x : Int64) : -9223372036854775808 ≤ x.toInt ∧ x.toInt < 9223372036854775808 := by
  have h1 := Int64.le_toInt x
  have h2 := Int64.toInt_lt x
  omega
theorem fb_bmodL {z : Int} (h1 : -9223372036854775808 ≤ z) (h2 : z < 9223372036854775808) : z.bmod (2 ^ 64) = z := by
  rw [Int.bmod_eq_of_le (by omega) (by omega)]
theorem fb_addL {x y : Int64} (h1 : -9223372036854775808 ≤ x.toInt + y.toInt) (h2 : x.toInt + y.toInt < 9223372036854775808) : (x + y).toInt = x.toInt + y.toInt := by
  rw [Int64.toInt_add, fb_bmodL h1 h2]
theorem fb_subL {x y : Int64} (h1 : -9223372036854775808 ≤ x.toInt - y.toInt) (h2 : x.toInt - y.toInt < 9223372036854775808) : (x - y).toInt = x.toInt - y.toInt := by
  rw [Int64.toInt_sub, fb_bmodL h1 h2]
theorem fb_mulL {x y : Int64} (h1 : -9223372036854775808 ≤ x.toInt * y.toInt) (h2 : x.toInt * y.toInt < 9223372036854775808) : (x * y).toInt = x.toInt * y.toInt := by
  rw [Int64.toInt_mul, fb_bmodL h1 h2]
/-! ===== cuts of what is narrow already ===== -/
theorem fb_byte {x : Int32} (h1 : -128 ≤ x.toInt) (h2 : x.toInt < 128) : x.toInt8.toInt32 = x := by
  apply Int32.toInt_inj.1
  rw [Int8.toInt_toInt32, Int32.toInt_toInt8, Int.bmod_eq_of_le (by omega) (by omega)]
theorem fb_short {x : Int32} (h1 : -32768 ≤ x.toInt) (h2 : x.toInt < 32768) : x.toInt16.toInt32 = x := by
  apply Int32.toInt_inj.1
  rw [Int16.toInt_toInt32, Int32.toInt_toInt16, Int.bmod_eq_of_le (by omega) (by omega)]
theorem fb_byte_rng (x : Int32) : -128 ≤ x.toInt8.toInt32.toInt ∧ x.toInt8.toInt32.toInt < 128 := by
  rw [Int8.toInt_toInt32]
  have h1 := Int8.le_toInt x.toInt8
  have h2 := Int8.toInt_lt x.toInt8
  omega
theorem fb_short_rng (x : Int32) : -32768 ≤ x.toInt16.toInt32.toInt ∧ x.toInt16.toInt32.toInt < 32768 := by
  rw [Int16.toInt_toInt32]
  have h1 := Int16.le_toInt x.toInt16
  have h2 := Int16.toInt_lt x.toInt16
  omega
theorem fb_byte_twice (x : Int32) : x.toInt8.toInt32.toInt8.toInt32 = x.toInt8.toInt32 := fb_byte (fb_byte_rng x).1 (fb_byte_rng x).2
theorem fb_short_twice (x : Int32) : x.toInt16.toInt32.toInt16.toInt32 = x.toInt16.toInt32 := fb_short (fb_short_rng x).1 (fb_short_rng x).2
theorem fb_char {n : Nat} (h : n < 65536) : (nI n).toUInt32.toUInt16.toUInt32.toInt32 = nI n := by
  apply Int32.toBitVec_inj.1
  apply BitVec.eq_of_toNat_eq
  have e1 : (nI n).toBitVec.toNat = n := by
    show (BitVec.ofNat 32 n).toNat = n
    rw [BitVec.toNat_ofNat, Nat.mod_eq_of_lt (by omega)]
  have e2 : ((nI n).toUInt32.toUInt16.toUInt32).toNat = n := by
    rw [UInt16.toNat_toUInt32, UInt32.toNat_toUInt16]
    show (nI n).toBitVec.toNat % 2 ^ 16 = n
    rw [e1, Nat.mod_eq_of_lt (by omega)]
  rw [e1]
  exact e2
end
section
/-! ===== numbers, rows and calls in the functions of the methods ===== -/
theorem nI_negone {n : Nat} (h : n < 2 ^ 31) : (nI n = (-1)) ↔ False := by
  refine ⟨fun e => ?_, False.elim⟩
  have h1 := congrArg Int32.toInt e
  rw [nI_toInt h] at h1
  have h2 : ((-1 : Int32)).toInt = -1 := by decide
  rw [h2] at h1
  omega
theorem negone_nI {n : Nat} (h : n < 2 ^ 31) : ((-1) = nI n) ↔ False := by
  rw [eq_comm]; exact nI_negone h
theorem negone_lt0 : ((-1 : Int32) < nI 0) ↔ True := by decide
theorem neg_lt0 {x : Int32} (h : x.toInt < 0) : (x < nI 0) ↔ True := by
  simp only [iff_true]; exact Int32.lt_iff_toInt_lt.mpr (by rw [nI_toInt (by omega)]; exact h)
theorem negone_le (n : Nat) (h : n < 2 ^ 31) : (nI n ≤ (-1 : Int32)) ↔ False := by
  refine ⟨fun e => ?_, False.elim⟩
  have h1 := Int32.le_iff_toInt_le.mp e
  rw [nI_toInt h] at h1
  have h2 : ((-1 : Int32)).toInt = -1 := by decide
  rw [h2] at h1
  omega
theorem in_n {i n : Nat} (h : i < n) (hn : i < 2 ^ 31) : ¬ (nI i < 0 ∨ n ≤ (nI i).toNatClampNeg) := by
  intro c
  rcases c with c | c
  · exact nI_pos hn c
  · rw [nI_clamp hn] at c; omega
theorem rdA_n {α β : Type} {f : Nat → α} {n i : Nat} (k : α → Option β) (h : i < n) (hn : i < 2 ^ 31) : rdA f n (nI i) k = k (f i) := by
  unfold rdA
  rw [if_neg (in_n h hn), nI_clamp hn]
theorem wrA_n {β : Type} {T : Nat → Nat → Int32} {c n i : Nat} {x : Int32} (k : (Nat → Nat → Int32) → Option β) (h : i < n) (hn : i < 2 ^ 31) : wrA T c n (nI i) x k = k (st2 T c i x) := by
  unfold wrA
  rw [if_neg (in_n h hn), nI_clamp hn]
theorem wrJ_n {β : Type} {T : Nat → Nat → Int64} {c n i : Nat} {x : Int64} (k : (Nat → Nat → Int64) → Option β) (h : i < n) (hn : i < 2 ^ 31) : wrJ T c n (nI i) x k = k (stJ T c i x) := by
  unfold wrJ
  rw [if_neg (in_n h hn), nI_clamp hn]
theorem wr1_n {β : Type} {f : Nat → Int32} {n i : Nat} {x : Int32} (k : (Nat → Int32) → Option β) (h : i < n) (hn : i < 2 ^ 31) : wr1 f n (nI i) x k = k (upd f i x) := by
  unfold wr1
  rw [if_neg (in_n h hn), nI_clamp hn]
theorem sdm (a d : Nat) : a - a / d * d = a % d := by have := Nat.div_add_mod a d; rw [Nat.mul_comm] at this; omega
theorem bnd_s {α β : Type} (x : α) (k : α → Option β) : bnd x k = k x := rfl
theorem nz_n {β : Type} {n : Nat} (k : Option β) (h : 0 < n) (hn : n < 2 ^ 31) : nz (nI n) k = k := by unfold nz; rw [if_neg (nI_ne0 h hn)]
theorem zb0 {β : Type} (k : Option β) : zb (nI 0) k = k := rfl
theorem zb1 {β : Type} (k : Option β) : zb (nI 1) k = k := rfl
theorem cal1_s {α γ : Type} (a : α) (k : α → Option γ) : cal1 (some a) k = k a := rfl
theorem cal2_s {α β γ : Type} (a : α) (b : β) (k : α → β → Option γ) : cal2 (some (a, b)) k = k a b := rfl
theorem cal3_s {α β δ γ : Type} (a : α) (b : β) (d : δ) (k : α → β → δ → Option γ) : cal3 (some (a, b, d)) k = k a b d := rfl
theorem cal4_s {α β δ ε γ : Type} (a : α) (b : β) (d : δ) (f : ε) (k : α → β → δ → ε → Option γ) : cal4 (some (a, b, d, f)) k = k a b d f := rfl
theorem cal5_s {α β δ ε ζ γ : Type} (a : α) (b : β) (d : δ) (f : ε) (g : ζ) (k : α → β → δ → ε → ζ → Option γ) : cal5 (some (a, b, d, f, g)) k = k a b d f g := rfl
theorem cal6_s {α β δ ε ζ η γ : Type} (a : α) (b : β) (d : δ) (f : ε) (g : ζ) (i : η) (k : α → β → δ → ε → ζ → η → Option γ) : cal6 (some (a, b, d, f, g, i)) k = k a b d f g i := rfl
theorem st2_s (T : Nat → Nat → Int32) (k i : Nat) (x : Int32) (a j : Nat) : st2 T k i x a j = if a = k ∧ j = i then x else T a j := by
  unfold st2
  by_cases h : a = k
  · simp only [h, if_true, true_and, upd]
  · simp only [h, if_false, false_and]
theorem stJ_s (T : Nat → Nat → Int64) (k i : Nat) (x : Int64) (a j : Nat) : stJ T k i x a j = if a = k ∧ j = i then x else T a j := by
  unfold stJ
  by_cases h : a = k
  · simp only [h, if_true, true_and, vp_updL]
  · simp only [h, if_false, false_and]
theorem setc_s {α : Type} (T : Nat → α) (k : Nat) (f : α) (a : Nat) : setc T k f a = if a = k then f else T a := rfl
theorem upd_s (f : Nat → Int32) (k : Nat) (x : Int32) (j : Nat) : upd f k x j = if j = k then x else f j := rfl
/-- a truth value as the machine has it -/
def bi (b : Bool) : Int32 := if b then nI 1 else nI 0
theorem bi_t : bi true = nI 1 := rfl
theorem bi_f : bi false = nI 0 := rfl
theorem bi_eq0 (b : Bool) : (bi b = nI 0) ↔ b = false := by cases b <;> decide
theorem bi_eq1 (b : Bool) : (bi b = nI 1) ↔ b = true := by cases b <;> decide
theorem zb_bi {β : Type} (b : Bool) (k : Option β) : zb (bi b) k = k := by cases b <;> rfl
theorem some_bi {c : Prop} [Decidable c] : (if c then some (nI 1) else some (nI 0)) = some (bi (decide c)) := by
  by_cases h : c <;> simp [h, bi]
theorem some_bi' {c : Prop} [Decidable c] : (if c then some (nI 0) else some (nI 1)) = some (bi (decide (¬ c))) := by
  by_cases h : c <;> simp [h, bi]
end
section
/-! ===== positions, rules, moves: what both sides are held against ===== -/
/-- what lies at each place (the top first), how many cards of a column lie hidden, how many of each suit are up, how often the stock was turned -/
abbrev Pos : Type := (Nat → List Nat) × (Nat → Nat) × (Nat → Nat) × Nat
/-- rules: suits, ranks, columns, cells, build, empty, stock, again, hidden -/
def RulesOk (R : Nat → Nat) : Prop := 1 ≤ R 0 ∧ R 0 ≤ 4 ∧ 1 ≤ R 1 ∧ R 1 ≤ 6 ∧ 2 ≤ R 0 * R 1 ∧ R 0 * R 1 ≤ 16 ∧ 1 ≤ R 2 ∧ R 2 ≤ 5 ∧ R 3 ≤ 2 ∧ R 4 ≤ 2 ∧ R 5 ≤ 2 ∧ R 6 ≤ 8 ∧ R 6 < R 0 * R 1 ∧ R 7 ≤ 2 ∧ R 8 ≤ 1
def RR (r : Nat → Int32) (R : Nat → Nat) : Prop := (∀ k, k < 9 → r k = nI (R k)) ∧ RulesOk R
def fitB (R : Nat → Nat) (c o : Nat) : Bool := decide (c % R 1 + 1 = o % R 1) && (if R 4 = 0 then decide (c / R 1 = o / R 1) else if R 4 = 1 then decide (¬ c / R 1 % 2 = o / R 1 % 2) else true)
def emptyB (R : Nat → Nat) (c : Nat) : Bool := decide (R 5 = 0) || (decide (R 5 = 1) && decide (c % R 1 + 1 = R 1))
def forCol (R : Nat → Nat) (l : List Nat) (c : Nat) : Bool := match l with
  | [] => emptyB R c
  | o :: _ => fitB R c o
/-- the n last cards, none hidden, each of which fits on the one ahead of it -/
def isRun (R : Nat → Nat) (l : List Nat) (h n : Nat) : Bool := decide (h + n ≤ l.length) && (List.range (n - 1)).all (fun j => fitB R (l.getD j 0) (l.getD (j + 1) 0))
def cntB (p : Nat → Bool) : Nat → Nat
  | 0 => 0
  | n + 1 => cntB p n + if p n then 1 else 0
def most (R : Nat → Nat) (P : Pos) (t : Nat) : Nat := (1 + cntB (fun k => (P.1 (5 + k)).isEmpty) (R 3)) * 2 ^ cntB (fun c => decide (c ≠ t) && (P.1 c).isEmpty) (R 2)
def legal (R : Nat → Nat) (P : Pos) (f t n : Nat) : Bool :=
  if f = 9 then decide (t = 7) && (!(P.1 9).isEmpty || (!(P.1 7).isEmpty && decide (P.2.2.2 < R 7)))
  else match P.1 f with
  | [] => false
  | c :: l =>
    if t = 8 then decide (c % R 1 = P.2.2.1 (c / R 1))
    else if t = 5 ∨ t = 6 then decide (f < 5 ∨ f = 7) && (decide (t - 5 < R 3) && (P.1 t).isEmpty)
    else if t < 5 then decide (t < R 2) && (decide (f ≠ t) && (if f < 5 then isRun R (c :: l) (P.2.1 f) n && (decide (n ≤ most R P t) && forCol R (P.1 t) ((c :: l).getD (n - 1) 0)) else forCol R (P.1 t) c))
    else false
/-- a place of the foundations, stock and waste, column, cell: the floor's number in the class -/
def floorN (p : Nat) : Nat := if p < 5 then 16 else if p < 7 then 17 else if p = 7 then 18 else if p = 8 then 20 else 19
def topI (l : List Nat) : Int32 := match l with
  | [] => -1
  | c :: _ => nI c
def optI (o : Option Nat) : Int32 := match o with
  | none => -1
  | some c => nI c
/-- what the first card of l that is c lies on: the next one, or the floor -/
def onIn (l : List Nat) (fl c : Nat) : Option Nat := match l with
  | [] => none
  | x :: r => if x = c then some (match r with | [] => fl | d :: _ => d) else onIn r fl c
/-- what a card lies on: a card, a floor, or 20 where it lies at no place -/
def onN (P : Pos) (c : Nat) : Nat := ((List.range 10).findSome? (fun p => onIn (P.1 p) (floorN p) c)).getD 20
def hidB (P : Pos) (c : Nat) : Bool := (List.range 5).any (fun p => ((P.1 p).drop ((P.1 p).length - P.2.1 p)).contains c)
/-- cards apart, places as they are, hidden ones at the bottom of columns -/
def PosOk (P : Pos) : Prop := (∀ p c, c ∈ P.1 p → c < 16) ∧ (∀ p, (P.1 p).Nodup) ∧ (∀ p q c, c ∈ P.1 p → c ∈ P.1 q → p = q) ∧ (∀ p, 10 ≤ p ∨ p = 8 → P.1 p = []) ∧ (∀ p, P.2.1 p = 0 ∨ P.2.1 p < (P.1 p).length) ∧ ∀ p, 5 ≤ p → P.2.1 p = 0
/-- the class's table, for a position -/
def TRep (T : Nat → Nat → Int32) (P : Pos) : Prop := (∀ p, p < 10 → T 2 p = topI (P.1 p)) ∧ (∀ c, c < 16 → T 1 c = nI (onN P c)) ∧ (∃ m, m < 65536 ∧ T 0 5 = nI m ∧ ∀ c, c < 16 → m.testBit c = hidB P c) ∧ T 0 6 = nI P.2.2.2 ∧ P.2.2.2 ≤ 2
theorem onIn_none {l : List Nat} {fl c : Nat} (h : c ∉ l) : onIn l fl c = none := by
  induction l with
  | nil => rfl
  | cons x r ih =>
    simp only [List.mem_cons, not_or] at h
    unfold onIn
    rw [if_neg (fun e => h.1 e.symm), ih h.2]
theorem onIn_some {l : List Nat} {fl c : Nat} (hn : l.Nodup) (k : Nat) (hk : l[k]? = some c) : onIn l fl c = some (match l[k + 1]? with | some d => d | none => fl) := by
  induction l generalizing k with
  | nil => simp at hk
  | cons x r ih =>
    rw [List.nodup_cons] at hn
    unfold onIn
    cases k with
    | zero =>
      simp only [List.getElem?_cons_zero, Option.some.injEq] at hk
      subst hk
      cases r <;> simp
    | succ k =>
      simp only [List.getElem?_cons_succ] at hk
      have hm : c ∈ r := List.mem_of_getElem? hk
      rw [if_neg (fun e : x = c => hn.1 (e ▸ hm)), ih hn.2 k hk]
      simp only [List.getElem?_cons_succ]
theorem onN_in {P : Pos} (h : PosOk P) {p c : Nat} (hp : p < 10) (k : Nat) (hk : (P.1 p)[k]? = some c) : onN P c = (match (P.1 p)[k + 1]? with | some d => d | none => floorN p) := by
  have hm : c ∈ P.1 p := List.mem_of_getElem? hk
  have h1 := onIn_some (fl := floorN p) (h.2.1 p) k hk
  unfold onN
  have h2 : ∀ q, q < p → onIn (P.1 q) (floorN q) c = none := fun q hq => onIn_none (fun hc => by have := h.2.2.1 q p c hc hm; omega)
  have h3 : (List.range 10).findSome? (fun p => onIn (P.1 p) (floorN p) c) = some (match (P.1 p)[k + 1]? with | some d => d | none => floorN p) := by
    rw [List.findSome?_eq_some_iff]
    refine ⟨List.range p, p, (List.range 10).drop (p + 1), ?_, h1, ?_⟩
    · apply List.ext_getElem?
      intro i
      rcases Nat.lt_trichotomy i p with q | q | q
      · rw [List.getElem?_append_left (by simpa using q)]; simp [q, show i < 10 by omega]
      · subst q; rw [List.getElem?_append_right (by simp)]; simp [hp]
      · rw [List.getElem?_append_right (by simp; omega)]
        obtain ⟨j, rfl⟩ : ∃ j, i = p + 1 + j := ⟨i - (p + 1), by omega⟩
        simp only [List.length_range, show p + 1 + j - p = j + 1 by omega, List.getElem?_cons_succ, List.getElem?_drop]
    · intro q hq; exact h2 q (by simpa using hq)
  rw [h3]; rfl
theorem onN_out {P : Pos} {c : Nat} (h : ∀ p, p < 10 → c ∉ P.1 p) : onN P c = 20 := by
  unfold onN
  have h3 : (List.range 10).findSome? (fun p => onIn (P.1 p) (floorN p) c) = none := by
    rw [List.findSome?_eq_none_iff]
    intro p hp
    exact onIn_none (h p (by simpa using hp))
  rw [h3]; rfl
theorem floorN_ge (p : Nat) : 16 ≤ floorN p ∧ floorN p ≤ 20 := by
  unfold floorN
  repeat' split
  all_goals omega
theorem floorN_ne {p : Nat} (h : p ≠ 8) : floorN p ≠ 20 := by
  unfold floorN
  repeat' split
  all_goals omega
theorem PosOk.place {P : Pos} (h : PosOk P) {p c : Nat} (hc : c ∈ P.1 p) : p < 10 ∧ p ≠ 8 := by
  refine ⟨?_, ?_⟩
  · rcases Nat.lt_or_ge p 10 with q | q
    · exact q
    · rw [h.2.2.2.1 p (Or.inl q)] at hc; cases hc
  · intro e; rw [h.2.2.2.1 p (Or.inr e)] at hc; cases hc
theorem onN_20 {P : Pos} (h : PosOk P) {c : Nat} : onN P c = 20 ↔ ∀ p, c ∉ P.1 p := by
  constructor
  · intro e p hc
    obtain ⟨hp, h8⟩ := h.place hc
    obtain ⟨k, hk, e2⟩ := List.getElem_of_mem hc
    have hk2 : (P.1 p)[k]? = some c := by rw [List.getElem?_eq_getElem hk, e2]
    rw [onN_in h hp k hk2] at e
    cases hd : (P.1 p)[k + 1]? with
    | none => rw [hd] at e; exact floorN_ne h8 e
    | some d => rw [hd] at e; have := h.1 p d (List.mem_of_getElem? hd); simp only at e; omega
  · intro hc; exact onN_out (fun p _ => hc p)
theorem onN_le {P : Pos} (h : PosOk P) (c : Nat) : onN P c ≤ 20 := by
  by_cases hc : ∀ p, c ∉ P.1 p
  · rw [(onN_20 h).mpr hc]; exact Nat.le_refl _
  · simp only [Classical.not_forall, Classical.not_not] at hc
    obtain ⟨p, hc⟩ := hc
    obtain ⟨hp, -⟩ := h.place hc
    obtain ⟨k, hk, e2⟩ := List.getElem_of_mem hc
    rw [onN_in h hp k (by rw [List.getElem?_eq_getElem hk, e2])]
    cases hd : (P.1 p)[k + 1]? with
    | none => exact (floorN_ge p).2
    | some d => have := h.1 p d (List.mem_of_getElem? hd); simp only; omega
theorem PosOk.len {P : Pos} (h : PosOk P) (p : Nat) : (P.1 p).length ≤ 16 := by
  have h1 := (h.2.1 p).length_le_of_subset (l₂ := List.range 16) (fun c hc => by simpa using h.1 p c hc)
  simpa using h1
end
section
/-! ===== the class's rules and table, read ===== -/
theorem mod_lt1 {R : Nat → Nat} (h : RulesOk R) (c : Nat) : c % R 1 < R 1 := Nat.mod_lt _ (by have := h.2.2.1; omega)
theorem s_cards {r : Nat → Int32} {R : Nat → Nat} (h : RR r R) : F_X1_cards r = some (nI (R 0 * R 1)) := by
  unfold F_X1_cards
  rw [h.1 0 (by omega), h.1 1 (by omega), pk_mul]
theorem s_inColumns {r : Nat → Int32} {R : Nat → Nat} (h : RR r R) : F_X1_inColumns r = some (nI (R 0 * R 1 - R 6)) := by
  have ho := h.2
  unfold RulesOk at ho
  unfold F_X1_inColumns
  rw [s_cards h, cal1_s, h.1 6 (by omega), pk_sub (by omega)]
theorem s_rankOf {r : Nat → Int32} {R : Nat → Nat} (h : RR r R) {c : Nat} (hc : c < 16) : F_X1_rankOf r (nI c) = some (nI (c % R 1 + 1)) := by
  have ho := h.2
  unfold RulesOk at ho
  unfold F_X1_rankOf
  rw [h.1 1 (by omega), if_neg (nI_ge (by omega) (by omega)), nz_n _ (by omega) (by omega), pk_rem (by omega) (by omega) (by omega), nI_add]
theorem s_suitOf {r : Nat → Int32} {R : Nat → Nat} (h : RR r R) {c : Nat} (hc : c < 16) : F_X1_suitOf r (nI c) = some (nI (c / R 1)) := by
  have ho := h.2
  unfold RulesOk at ho
  unfold F_X1_suitOf
  rw [h.1 1 (by omega), if_neg (nI_ge (by omega) (by omega)), nz_n _ (by omega) (by omega), pk_div (by omega) (by omega) (by omega)]
theorem s_isFitting {r : Nat → Int32} {R : Nat → Nat} (h : RR r R) {c o : Nat} (hc : c < 16) (hd : o < 16) : F_X1_isFitting r (nI c) (nI o) = some (bi (fitB R c o)) := by
  have ho := h.2
  unfold RulesOk at ho
  have h1 := mod_lt1 h.2 c
  have h2 := mod_lt1 h.2 o
  have h3 : c / R 1 ≤ c := Nat.div_le_self _ _
  have h4 : o / R 1 ≤ o := Nat.div_le_self _ _
  unfold F_X1_isFitting fitB
  rw [s_rankOf h hc, s_rankOf h hd, s_suitOf h hc, s_suitOf h hd, h.1 4 (by omega)]
  simp only [cal1_s]
  by_cases e : c % R 1 + 1 = o % R 1
  · simp (disch := omega) only [nI_ltI, nI_leI, nI_eq, nI_clamp, nI_add, pk_mul, pk_sub, pk_div, pk_rem, sdm, rdA_n, wrA_n, wrJ_n, wr1_n, bnd_s, nz_n, zb0, zb1, zb_bi, cal1_s, cal2_s, cal3_s, cal4_s, cal5_s, cal6_s, nI_negone, negone_nI, negone_lt0, negone_le, bi_eq0, bi_eq1, if_true, if_false, eq_self, Nat.lt_irrefl, Nat.le_refl, e]
    have : o % R 1 + 1 - 1 = o % R 1 := by omega
    simp (disch := omega) only [nI_ltI, nI_leI, nI_eq, nI_clamp, nI_add, pk_mul, pk_sub, pk_div, pk_rem, sdm, rdA_n, wrA_n, wrJ_n, wr1_n, bnd_s, nz_n, zb0, zb1, zb_bi, cal1_s, cal2_s, cal3_s, cal4_s, cal5_s, cal6_s, nI_negone, negone_nI, negone_lt0, negone_le, bi_eq0, bi_eq1, if_true, if_false, eq_self, Nat.lt_irrefl, Nat.le_refl, this]
    rcases (show R 4 = 0 ∨ R 4 = 1 ∨ R 4 = 2 by omega) with q | q | q
    · simp (disch := omega) only [nI_ltI, nI_leI, nI_eq, nI_clamp, nI_add, pk_mul, pk_sub, pk_div, pk_rem, sdm, rdA_n, wrA_n, wrJ_n, wr1_n, bnd_s, nz_n, zb0, zb1, zb_bi, cal1_s, cal2_s, cal3_s, cal4_s, cal5_s, cal6_s, nI_negone, negone_nI, negone_lt0, negone_le, bi_eq0, bi_eq1, if_true, if_false, eq_self, Nat.lt_irrefl, Nat.le_refl, q]
      by_cases e2 : c / R 1 = o / R 1 <;> simp [e2, bi]
    · simp (disch := omega) only [nI_ltI, nI_leI, nI_eq, nI_clamp, nI_add, pk_mul, pk_sub, pk_div, pk_rem, sdm, rdA_n, wrA_n, wrJ_n, wr1_n, bnd_s, nz_n, zb0, zb1, zb_bi, cal1_s, cal2_s, cal3_s, cal4_s, cal5_s, cal6_s, nI_negone, negone_nI, negone_lt0, negone_le, bi_eq0, bi_eq1, if_true, if_false, eq_self, Nat.lt_irrefl, Nat.le_refl, q]
      simp only [show ¬ (1 : Nat) = 0 by omega, if_false, if_true]
      by_cases e2 : c / R 1 % 2 = o / R 1 % 2 <;> simp [e2, bi, zb]
    · simp (disch := omega) only [nI_ltI, nI_leI, nI_eq, nI_clamp, nI_add, pk_mul, pk_sub, pk_div, pk_rem, sdm, rdA_n, wrA_n, wrJ_n, wr1_n, bnd_s, nz_n, zb0, zb1, zb_bi, cal1_s, cal2_s, cal3_s, cal4_s, cal5_s, cal6_s, nI_negone, negone_nI, negone_lt0, negone_le, bi_eq0, bi_eq1, if_true, if_false, eq_self, Nat.lt_irrefl, Nat.le_refl, q]
      simp [bi]
  · have : ¬ nI (c % R 1 + 1) = nI (o % R 1 + 1) - nI 1 := by
      rw [pk_sub (by omega), nI_eq (by omega) (by omega)]; omega
    rw [if_neg this, zb0]
    simp [e, bi]
theorem s_isForEmpty {r : Nat → Int32} {R : Nat → Nat} (h : RR r R) {c : Nat} (hc : c < 16) : F_X1_isForEmptyColumns r (nI c) = some (bi (emptyB R c)) := by
  have ho := h.2
  unfold RulesOk at ho
  have h1 := mod_lt1 h.2 c
  unfold F_X1_isForEmptyColumns emptyB
  rw [s_rankOf h hc, h.1 5 (by omega), h.1 1 (by omega)]
  rcases (show R 5 = 0 ∨ R 5 = 1 ∨ R 5 = 2 by omega) with q | q | q
  · simp (disch := omega) only [nI_ltI, nI_leI, nI_eq, nI_clamp, nI_add, pk_mul, pk_sub, pk_div, pk_rem, sdm, rdA_n, wrA_n, wrJ_n, wr1_n, bnd_s, nz_n, zb0, zb1, zb_bi, cal1_s, cal2_s, cal3_s, cal4_s, cal5_s, cal6_s, nI_negone, negone_nI, negone_lt0, negone_le, bi_eq0, bi_eq1, if_true, if_false, eq_self, Nat.lt_irrefl, Nat.le_refl, q]; simp [bi]
  · simp (disch := omega) only [nI_ltI, nI_leI, nI_eq, nI_clamp, nI_add, pk_mul, pk_sub, pk_div, pk_rem, sdm, rdA_n, wrA_n, wrJ_n, wr1_n, bnd_s, nz_n, zb0, zb1, zb_bi, cal1_s, cal2_s, cal3_s, cal4_s, cal5_s, cal6_s, nI_negone, negone_nI, negone_lt0, negone_le, bi_eq0, bi_eq1, if_true, if_false, eq_self, Nat.lt_irrefl, Nat.le_refl, q]
    by_cases e : c % R 1 + 1 = R 1 <;> simp [e, bi]
  · simp (disch := omega) only [nI_ltI, nI_leI, nI_eq, nI_clamp, nI_add, pk_mul, pk_sub, pk_div, pk_rem, sdm, rdA_n, wrA_n, wrJ_n, wr1_n, bnd_s, nz_n, zb0, zb1, zb_bi, cal1_s, cal2_s, cal3_s, cal4_s, cal5_s, cal6_s, nI_negone, negone_nI, negone_lt0, negone_le, bi_eq0, bi_eq1, if_true, if_false, eq_self, Nat.lt_irrefl, Nat.le_refl, q]; simp [bi]
theorem s_at {f : Nat → Int32} {n i : Nat} (hn : n < 2 ^ 31) (hi : i < n) : F_X5_at f n (nI i) = some (f i) := by
  unfold F_X5_at
  simp (disch := omega) only [nI_ltI, nI_leI, nI_eq, nI_clamp, nI_add, pk_mul, pk_sub, pk_div, pk_rem, sdm, rdA_n, wrA_n, wrJ_n, wr1_n, bnd_s, nz_n, zb0, zb1, zb_bi, cal1_s, cal2_s, cal3_s, cal4_s, cal5_s, cal6_s, nI_negone, negone_nI, negone_lt0, negone_le, bi_eq0, bi_eq1, if_true, if_false, eq_self, Nat.lt_irrefl, Nat.le_refl, show ¬ i < 0 by omega, show ¬ n ≤ i by omega]
theorem s_put {f : Nat → Int32} {n i : Nat} {x : Int32} (hn : n < 2 ^ 31) (hi : i < n) : F_X5_put n f (nI i) x = some (upd f i x) := by
  unfold F_X5_put
  simp (disch := omega) only [nI_ltI, nI_leI, nI_eq, nI_clamp, nI_add, pk_mul, pk_sub, pk_div, pk_rem, sdm, rdA_n, wrA_n, wrJ_n, wr1_n, bnd_s, nz_n, zb0, zb1, zb_bi, cal1_s, cal2_s, cal3_s, cal4_s, cal5_s, cal6_s, nI_negone, negone_nI, negone_lt0, negone_le, bi_eq0, bi_eq1, if_true, if_false, eq_self, Nat.lt_irrefl, Nat.le_refl, show ¬ i < 0 by omega, show ¬ n ≤ i by omega]
theorem s_isColumn {p : Nat} (h : p < 100) : F_X5_isColumn (nI p) = some (bi (decide (p < 5))) := by
  unfold F_X5_isColumn
  by_cases q : p < 5
  · simp (disch := omega) only [nI_ltI, nI_leI, nI_eq, nI_clamp, nI_add, pk_mul, pk_sub, pk_div, pk_rem, sdm, rdA_n, wrA_n, wrJ_n, wr1_n, bnd_s, nz_n, zb0, zb1, zb_bi, cal1_s, cal2_s, cal3_s, cal4_s, cal5_s, cal6_s, nI_negone, negone_nI, negone_lt0, negone_le, bi_eq0, bi_eq1, if_true, if_false, eq_self, Nat.lt_irrefl, Nat.le_refl, show ¬ p < 0 by omega, show ¬ 5 ≤ p by omega]; simp [q, bi]
  · simp (disch := omega) only [nI_ltI, nI_leI, nI_eq, nI_clamp, nI_add, pk_mul, pk_sub, pk_div, pk_rem, sdm, rdA_n, wrA_n, wrJ_n, wr1_n, bnd_s, nz_n, zb0, zb1, zb_bi, cal1_s, cal2_s, cal3_s, cal4_s, cal5_s, cal6_s, nI_negone, negone_nI, negone_lt0, negone_le, bi_eq0, bi_eq1, if_true, if_false, eq_self, Nat.lt_irrefl, Nat.le_refl, show ¬ p < 0 by omega, show 5 ≤ p by omega]; simp [q, bi]
theorem s_isCell {p : Nat} (h : p < 100) : F_X5_isCell (nI p) = some (bi (decide (p = 5 ∨ p = 6))) := by
  unfold F_X5_isCell
  by_cases q : p < 5
  · simp (disch := omega) only [nI_ltI, nI_leI, nI_eq, nI_clamp, nI_add, pk_mul, pk_sub, pk_div, pk_rem, sdm, rdA_n, wrA_n, wrJ_n, wr1_n, bnd_s, nz_n, zb0, zb1, zb_bi, cal1_s, cal2_s, cal3_s, cal4_s, cal5_s, cal6_s, nI_negone, negone_nI, negone_lt0, negone_le, bi_eq0, bi_eq1, if_true, if_false, eq_self, Nat.lt_irrefl, Nat.le_refl, q]; simp [bi]; omega
  · by_cases q2 : 7 ≤ p
    · simp (disch := omega) only [nI_ltI, nI_leI, nI_eq, nI_clamp, nI_add, pk_mul, pk_sub, pk_div, pk_rem, sdm, rdA_n, wrA_n, wrJ_n, wr1_n, bnd_s, nz_n, zb0, zb1, zb_bi, cal1_s, cal2_s, cal3_s, cal4_s, cal5_s, cal6_s, nI_negone, negone_nI, negone_lt0, negone_le, bi_eq0, bi_eq1, if_true, if_false, eq_self, Nat.lt_irrefl, Nat.le_refl, q, q2]; simp [bi]; omega
    · simp (disch := omega) only [nI_ltI, nI_leI, nI_eq, nI_clamp, nI_add, pk_mul, pk_sub, pk_div, pk_rem, sdm, rdA_n, wrA_n, wrJ_n, wr1_n, bnd_s, nz_n, zb0, zb1, zb_bi, cal1_s, cal2_s, cal3_s, cal4_s, cal5_s, cal6_s, nI_negone, negone_nI, negone_lt0, negone_le, bi_eq0, bi_eq1, if_true, if_false, eq_self, Nat.lt_irrefl, Nat.le_refl, q, q2]; simp [bi]; omega
theorem s_isCard {c : Nat} (h : c < 100) : F_X5_isCard (nI c) = some (bi (decide (c < 16))) := by
  unfold F_X5_isCard
  by_cases q : c < 16
  · simp (disch := omega) only [nI_ltI, nI_leI, nI_eq, nI_clamp, nI_add, pk_mul, pk_sub, pk_div, pk_rem, sdm, rdA_n, wrA_n, wrJ_n, wr1_n, bnd_s, nz_n, zb0, zb1, zb_bi, cal1_s, cal2_s, cal3_s, cal4_s, cal5_s, cal6_s, nI_negone, negone_nI, negone_lt0, negone_le, bi_eq0, bi_eq1, if_true, if_false, eq_self, Nat.lt_irrefl, Nat.le_refl, show ¬ c < 0 by omega, show ¬ 16 ≤ c by omega]; simp [q, bi]
  · simp (disch := omega) only [nI_ltI, nI_leI, nI_eq, nI_clamp, nI_add, pk_mul, pk_sub, pk_div, pk_rem, sdm, rdA_n, wrA_n, wrJ_n, wr1_n, bnd_s, nz_n, zb0, zb1, zb_bi, cal1_s, cal2_s, cal3_s, cal4_s, cal5_s, cal6_s, nI_negone, negone_nI, negone_lt0, negone_le, bi_eq0, bi_eq1, if_true, if_false, eq_self, Nat.lt_irrefl, Nat.le_refl, show ¬ c < 0 by omega, show 16 ≤ c by omega]; simp [q, bi]
theorem s_isCard_none : F_X5_isCard (-1) = some (bi false) := by
  unfold F_X5_isCard; simp (disch := omega) only [nI_ltI, nI_leI, nI_eq, nI_clamp, nI_add, pk_mul, pk_sub, pk_div, pk_rem, sdm, rdA_n, wrA_n, wrJ_n, wr1_n, bnd_s, nz_n, zb0, zb1, zb_bi, cal1_s, cal2_s, cal3_s, cal4_s, cal5_s, cal6_s, nI_negone, negone_nI, negone_lt0, negone_le, bi_eq0, bi_eq1, if_true, if_false, eq_self, Nat.lt_irrefl, Nat.le_refl, bi_f]
theorem s_topOf {T : Nat → Nat → Int32} {P : Pos} (h : TRep T P) {p : Nat} (hp : p < 10) : F_X4_topOf T (nI p) = some (topI (P.1 p)) := by
  unfold F_X4_topOf
  simp (disch := omega) only [nI_ltI, nI_leI, nI_eq, nI_clamp, nI_add, pk_mul, pk_sub, pk_div, pk_rem, sdm, rdA_n, wrA_n, wrJ_n, wr1_n, bnd_s, nz_n, zb0, zb1, zb_bi, cal1_s, cal2_s, cal3_s, cal4_s, cal5_s, cal6_s, nI_negone, negone_nI, negone_lt0, negone_le, bi_eq0, bi_eq1, if_true, if_false, eq_self, Nat.lt_irrefl, Nat.le_refl, show ¬ p < 0 by omega, show ¬ 10 ≤ p by omega, h.1 p hp]
theorem s_under_none {T : Nat → Nat → Int32} : F_X4_under T (-1) = some (-1) := by
  unfold F_X4_under F_X4_under_b20; simp (disch := omega) only [nI_ltI, nI_leI, nI_eq, nI_clamp, nI_add, pk_mul, pk_sub, pk_div, pk_rem, sdm, rdA_n, wrA_n, wrJ_n, wr1_n, bnd_s, nz_n, zb0, zb1, zb_bi, cal1_s, cal2_s, cal3_s, cal4_s, cal5_s, cal6_s, nI_negone, negone_nI, negone_lt0, negone_le, bi_eq0, bi_eq1, if_true, if_false, eq_self, Nat.lt_irrefl, Nat.le_refl]
theorem s_under {T : Nat → Nat → Int32} {P : Pos} (h : TRep T P) (ho : PosOk P) {p c k : Nat} (hk : (P.1 p)[k]? = some c) : F_X4_under T (nI c) = some (optI ((P.1 p)[k + 1]?)) := by
  have hc := ho.1 p c (List.mem_of_getElem? hk)
  have hp := (ho.place (List.mem_of_getElem? hk)).1
  unfold F_X4_under F_X4_under_b20
  simp (disch := omega) only [nI_ltI, nI_leI, nI_eq, nI_clamp, nI_add, pk_mul, pk_sub, pk_div, pk_rem, sdm, rdA_n, wrA_n, wrJ_n, wr1_n, bnd_s, nz_n, zb0, zb1, zb_bi, cal1_s, cal2_s, cal3_s, cal4_s, cal5_s, cal6_s, nI_negone, negone_nI, negone_lt0, negone_le, bi_eq0, bi_eq1, if_true, if_false, eq_self, Nat.lt_irrefl, Nat.le_refl, show ¬ c < 0 by omega, show ¬ 16 ≤ c by omega, h.2.1 c hc, onN_in ho hp k hk]
  cases hd : (P.1 p)[k + 1]? with
  | none =>
    have h1 := floorN_ge p
    simp (disch := omega) only [nI_ltI, nI_leI, nI_eq, nI_clamp, nI_add, pk_mul, pk_sub, pk_div, pk_rem, sdm, rdA_n, wrA_n, wrJ_n, wr1_n, bnd_s, nz_n, zb0, zb1, zb_bi, cal1_s, cal2_s, cal3_s, cal4_s, cal5_s, cal6_s, nI_negone, negone_nI, negone_lt0, negone_le, bi_eq0, bi_eq1, if_true, if_false, eq_self, Nat.lt_irrefl, Nat.le_refl, show 16 ≤ floorN p from h1.1, optI]
  | some d =>
    have := ho.1 p d (List.mem_of_getElem? hd)
    simp (disch := omega) only [nI_ltI, nI_leI, nI_eq, nI_clamp, nI_add, pk_mul, pk_sub, pk_div, pk_rem, sdm, rdA_n, wrA_n, wrJ_n, wr1_n, bnd_s, nz_n, zb0, zb1, zb_bi, cal1_s, cal2_s, cal3_s, cal4_s, cal5_s, cal6_s, nI_negone, negone_nI, negone_lt0, negone_le, bi_eq0, bi_eq1, if_true, if_false, eq_self, Nat.lt_irrefl, Nat.le_refl, show ¬ 16 ≤ d by omega, optI]
theorem topI_opt (l : List Nat) : topI l = optI l[0]? := by cases l <;> rfl
theorem s_isUp {T : Nat → Nat → Int32} {P : Pos} (h : TRep T P) (ho : PosOk P) {c : Nat} (hc : c < 16) : F_X4_isUp T (nI c) = some (bi (decide (onN P c = 20))) := by
  have h1 := onN_le ho c
  unfold F_X4_isUp
  rw [s_at (by omega) hc, cal1_s, h.2.1 c hc]
  by_cases e : onN P c = 20
  · simp (disch := omega) only [nI_ltI, nI_leI, nI_eq, nI_clamp, nI_add, pk_mul, pk_sub, pk_div, pk_rem, sdm, rdA_n, wrA_n, wrJ_n, wr1_n, bnd_s, nz_n, zb0, zb1, zb_bi, cal1_s, cal2_s, cal3_s, cal4_s, cal5_s, cal6_s, nI_negone, negone_nI, negone_lt0, negone_le, bi_eq0, bi_eq1, if_true, if_false, eq_self, Nat.lt_irrefl, Nat.le_refl, e]; simp [bi]
  · simp (disch := omega) only [nI_ltI, nI_leI, nI_eq, nI_clamp, nI_add, pk_mul, pk_sub, pk_div, pk_rem, sdm, rdA_n, wrA_n, wrJ_n, wr1_n, bnd_s, nz_n, zb0, zb1, zb_bi, cal1_s, cal2_s, cal3_s, cal4_s, cal5_s, cal6_s, nI_negone, negone_nI, negone_lt0, negone_le, bi_eq0, bi_eq1, if_true, if_false, eq_self, Nat.lt_irrefl, Nat.le_refl, e]; simp [bi]
end
section
/-! ===== the class's table: chains of cards ===== -/
theorem FU_gt {j : Nat} (h : j < 5000) : j < FU := h
theorem optI_none : optI none = -1 := rfl
theorem optI_some (c : Nat) : optI (some c) = nI c := rfl
theorem s_fromTop_L {T : Nat → Nat → Int32} {P : Pos} (h : TRep T P) (ho : PosOk P) {p deep : Nat} (hd : deep ≤ 16) : ∀ (j g n : Nat), g + j = deep → j < n → F_X4_fromTop_L17 T n (optI (P.1 p)[g]?) (nI deep) (nI g) = some (optI (P.1 p)[deep]?) := by
  intro j
  induction j with
  | zero =>
    intro g n hg hn
    obtain ⟨n, rfl⟩ : ∃ m, n = m + 1 := ⟨n - 1, by omega⟩
    have e : g = deep := by omega
    subst e
    show F_X4_fromTop_s17 T (F_X4_fromTop_L17 T n) _ _ _ = _
    unfold F_X4_fromTop_s17
    simp (disch := omega) only [nI_ltI, nI_leI, nI_eq, nI_clamp, nI_add, pk_mul, pk_sub, pk_div, pk_rem, sdm, rdA_n, wrA_n, wrJ_n, wr1_n, bnd_s, nz_n, zb0, zb1, zb_bi, cal1_s, cal2_s, cal3_s, cal4_s, cal5_s, cal6_s, nI_negone, negone_nI, negone_lt0, negone_le, bi_eq0, bi_eq1, if_true, if_false, eq_self, Nat.lt_irrefl, Nat.le_refl]
  | succ j ih =>
    intro g n hg hn
    obtain ⟨n, rfl⟩ : ∃ m, n = m + 1 := ⟨n - 1, by omega⟩
    show F_X4_fromTop_s17 T (F_X4_fromTop_L17 T n) _ _ _ = _
    unfold F_X4_fromTop_s17
    rw [if_neg (nI_ge (by omega) (by omega))]
    cases hc : (P.1 p)[g]? with
    | none =>
      have e : (P.1 p)[deep]? = none := by rw [List.getElem?_eq_none_iff] at hc ⊢; omega
      rw [e, optI_none, if_pos rfl]
    | some c =>
      have hc16 := ho.1 p c (List.mem_of_getElem? hc)
      rw [optI_some, if_neg (by rw [nI_negone (by omega)]; exact id), s_under h ho hc, cal1_s, nI_add]
      exact ih (g + 1) n (by omega) (by omega)
theorem s_fromTop {T : Nat → Nat → Int32} {P : Pos} (h : TRep T P) (ho : PosOk P) {p d : Nat} (hp : p < 10) (hd : d < 2 ^ 31) : F_X4_fromTop T (nI p) (nI d) = some (optI (P.1 p)[d]?) := by
  have hl := ho.len p
  unfold F_X4_fromTop
  rw [s_topOf h hp, cal1_s, topI_opt]
  by_cases q : 16 < d
  · rw [if_pos (nI_lt q (by omega)), s_fromTop_L h ho (Nat.le_refl 16) 16 0 FU (by omega) (FU_gt (by omega))]
    rw [List.getElem?_eq_none (by omega), List.getElem?_eq_none (by omega)]
  · rw [if_neg (nI_nlt (by omega) (by omega)), s_fromTop_L h ho (by omega : d ≤ 16) d 0 FU (by omega) (FU_gt (by omega))]
theorem s_heightOf_L {T : Nat → Nat → Int32} {P : Pos} (h : TRep T P) (ho : PosOk P) {p : Nat} : ∀ (j k n : Nat), k + j = (P.1 p).length → j < n → F_X4_heightOf_L8 T n (nI k) (optI (P.1 p)[k]?) = some (nI (P.1 p).length) := by
  have hl := ho.len p
  intro j
  induction j with
  | zero =>
    intro k n hk hn
    obtain ⟨n, rfl⟩ : ∃ m, n = m + 1 := ⟨n - 1, by omega⟩
    show F_X4_heightOf_s8 T (F_X4_heightOf_L8 T n) _ _ = _
    unfold F_X4_heightOf_s8
    rw [List.getElem?_eq_none (by omega), optI_none, if_pos rfl, show k = (P.1 p).length by omega]
  | succ j ih =>
    intro k n hk hn
    obtain ⟨n, rfl⟩ : ∃ m, n = m + 1 := ⟨n - 1, by omega⟩
    show F_X4_heightOf_s8 T (F_X4_heightOf_L8 T n) _ _ = _
    unfold F_X4_heightOf_s8
    have hlt : k < (P.1 p).length := by omega
    have hc : (P.1 p)[k]? = some (P.1 p)[k] := List.getElem?_eq_getElem hlt
    have hc16 := ho.1 p _ (List.mem_of_getElem? hc)
    rw [hc, optI_some, if_neg (by rw [nI_negone (by omega)]; exact id), if_neg (nI_ge (by omega) (by omega)), s_under h ho hc, cal1_s, nI_add]
    exact ih (k + 1) n (by omega) (by omega)
theorem s_heightOf {T : Nat → Nat → Int32} {P : Pos} (h : TRep T P) (ho : PosOk P) {p : Nat} (hp : p < 10) : F_X4_heightOf T (nI p) = some (nI (P.1 p).length) := by
  have hl := ho.len p
  unfold F_X4_heightOf
  rw [s_topOf h hp, cal1_s, topI_opt, s_heightOf_L h ho (P.1 p).length 0 FU (by omega) (FU_gt (by omega))]
theorem bit_at {m c : Nat} (hm : m < 65536) (hc : c < 16) : (nI m >>> (nI c &&& 31)) &&& nI 1 = nI (if m.testBit c then 1 else 0) := by
  have h1 : nI m >>> (nI c &&& 31) = nI (m / 2 ^ c) := pk_shrN (by omega) _ c (by
    have : ∀ c, c < 32 → ((nI c &&& 31).toBitVec.smod 32).toNat = c := by decide
    exact this c (by omega))
  have h2 : m / 2 ^ c ≤ m := Nat.div_le_self _ _
  have h3 : (nI 1 : Int32).toBitVec.toNat = 2 ^ 1 - 1 := by decide
  rw [h1, pk_andN (by omega) 1 h3]
  congr 1
  rw [Nat.testBit_eq_decide_div_mod_eq]
  rcases Nat.mod_two_eq_zero_or_one (m / 2 ^ c) with q | q <;> simp [q]
theorem s_liesHidden {T : Nat → Nat → Int32} {P : Pos} (h : TRep T P) {c : Nat} (hc : c < 16) : F_X4_liesHidden T (nI c) = some (bi (hidB P c)) := by
  obtain ⟨m, hm, e, hb⟩ := h.2.2.1
  unfold F_X4_liesHidden
  rw [s_isCard (by omega), cal1_s, e, bit_at hm hc, hb c hc]
  rw [if_neg (by rw [bi_eq0]; simp [hc])]
  cases hidB P c <;> simp [bi, zb1, zb0] <;> decide
theorem s_liesHidden_none {T : Nat → Nat → Int32} : F_X4_liesHidden T (-1) = some (bi false) := by
  unfold F_X4_liesHidden
  rw [s_isCard_none, cal1_s, if_pos (by rfl), zb0, bi_f]
/-- how many of the last cards, none hidden (h hidden ones at the other end), lie so that each fits on the one ahead of it -/
def runLen (R : Nat → Nat) (h : Nat) : List Nat → Nat
  | [] => 0
  | [_] => 1
  | c :: d :: r => if h < (d :: r).length ∧ fitB R c d = true then 1 + runLen R h (d :: r) else 1
theorem runLen_le (R : Nat → Nat) (h : Nat) : ∀ l, runLen R h l ≤ l.length
  | [] => Nat.le_refl _
  | [_] => Nat.le_refl _
  | c :: d :: r => by
    have := runLen_le R h (d :: r)
    unfold runLen
    split <;> simp only [List.length_cons] at * <;> omega
theorem fitB_rank {R : Nat → Nat} {c o : Nat} (h : fitB R c o = true) : c % R 1 + 1 = o % R 1 := by
  unfold fitB at h
  simp only [Bool.and_eq_true, decide_eq_true_eq] at h
  exact h.1
theorem runLen_rank {R : Nat → Nat} (hR : RulesOk R) (h : Nat) : ∀ (l : List Nat) (c : Nat), runLen R h (c :: l) + c % R 1 ≤ R 1
  | [], c => by have := mod_lt1 hR c; unfold runLen; omega
  | d :: r, c => by
    have h1 := runLen_rank hR h r d
    have h2 := mod_lt1 hR c
    unfold runLen
    split
    · rename_i q; have := fitB_rank q.2; omega
    · omega
theorem runLen_pos {R : Nat → Nat} (h : Nat) : ∀ (l : List Nat), l ≠ [] → 1 ≤ runLen R h l
  | [], q => absurd rfl q
  | [_], _ => Nat.le_refl _
  | c :: d :: r, _ => by unfold runLen; split <;> omega
theorem isRun_runLen {R : Nat → Nat} {h : Nat} : ∀ (l : List Nat) (n : Nat), 1 ≤ n → h < l.length → (isRun R l h n = decide (n ≤ runLen R h l))
  | [], n, _, hh => by simp at hh
  | [c], n, hn, hh => by
    have h0 : h = 0 := by simpa using hh
    subst h0
    unfold isRun runLen
    rcases (show n = 1 ∨ 2 ≤ n by omega) with q | q
    · subst q; simp
    · have h1 : ¬ 0 + n ≤ [c].length := by simp; omega
      have h2 : ¬ n ≤ 1 := by omega
      simp only [h1, h2, decide_false, Bool.false_and]
  | c :: d :: r, n, hn, hh => by
    rcases (show n = 1 ∨ ∃ m, n = m + 2 by exact (Nat.lt_or_ge 1 n).elim (fun q => Or.inr ⟨n - 2, by omega⟩) (fun q => Or.inl (by omega))) with q | ⟨m, q⟩
    · subst q
      have h1 := runLen_pos (R := R) h (c :: d :: r) (by simp)
      unfold isRun
      simp only [List.length_cons] at hh ⊢
      simp [h1]; omega
    · subst q
      by_cases hv : h < (d :: r).length
      · have ih := isRun_runLen (R := R) (d :: r) (m + 1) (by omega) hv
        unfold isRun at ih ⊢
        unfold runLen
        have e1 : (List.range (m + 2 - 1)).all (fun j => fitB R ((c :: d :: r).getD j 0) ((c :: d :: r).getD (j + 1) 0)) = (fitB R c d && (List.range (m + 1 - 1)).all (fun j => fitB R ((d :: r).getD j 0) ((d :: r).getD (j + 1) 0))) := by
          rw [show m + 2 - 1 = m + 1 by omega, List.range_succ_eq_map, List.all_cons, List.all_map]
          rfl
        rw [e1]
        by_cases hf : fitB R c d = true
        · rw [if_pos ⟨hv, hf⟩, hf, Bool.true_and]
          have e2 : decide (h + (m + 2) ≤ (c :: d :: r).length) = decide (h + (m + 1) ≤ (d :: r).length) := by
            simp only [List.length_cons]; congr 1; simp only [eq_iff_iff]; omega
          rw [e2, ih]
          congr 1; simp only [eq_iff_iff]; omega
        · rw [if_neg (fun q => hf q.2)]
          simp only [Bool.not_eq_true] at hf
          rw [hf]; simp
      · unfold isRun runLen
        rw [if_neg (fun q => hv q.1)]
        have h1 : ¬ h + (m + 2) ≤ (c :: d :: r).length := by simp only [List.length_cons] at hv ⊢; omega
        have h2 : ¬ m + 2 ≤ 1 := by omega
        simp only [h1, h2, decide_false, Bool.false_and]
end
section
/-! ===== the class's table: what is a move ===== -/
theorem hidB_at {P : Pos} (ho : PosOk P) {p k c : Nat} (hp : p < 5) (hk : (P.1 p)[k]? = some c) : hidB P c = decide ((P.1 p).length - k ≤ P.2.1 p) := by
  have hm : c ∈ P.1 p := List.mem_of_getElem? hk
  have hlt : k < (P.1 p).length := (List.getElem?_eq_some_iff.mp hk).1
  unfold hidB
  rw [Bool.eq_iff_iff, List.any_eq_true]
  simp only [decide_eq_true_eq]
  constructor
  · rintro ⟨q, -, hq⟩
    have hq2 : c ∈ (P.1 q).drop ((P.1 q).length - P.2.1 q) := by simpa using hq
    have e : q = p := ho.2.2.1 q p c (List.mem_of_mem_drop hq2) hm
    subst e
    obtain ⟨i, hi, e2⟩ := List.getElem_of_mem hq2
    rw [List.getElem_drop] at e2
    have hi2 : (P.1 q).length - P.2.1 q + i < (P.1 q).length := by simp only [List.length_drop] at hi; omega
    have e3 : (P.1 q)[(P.1 q).length - P.2.1 q + i]? = some c := by rw [List.getElem?_eq_getElem hi2, e2]
    have := (List.getElem?_inj (List.getElem?_eq_some_iff.mp e3).1 (ho.2.1 q)).mp (e3.trans hk.symm)
    omega
  · intro h
    refine ⟨p, by simpa using hp, ?_⟩
    have e3 : ((P.1 p).drop ((P.1 p).length - P.2.1 p))[k - ((P.1 p).length - P.2.1 p)]? = some c := by
      rw [List.getElem?_drop, show (P.1 p).length - P.2.1 p + (k - ((P.1 p).length - P.2.1 p)) = k by omega, hk]
    simpa using List.mem_of_getElem? e3
theorem hidB_off {P : Pos} (ho : PosOk P) {p c : Nat} (hp : 5 ≤ p) (hm : c ∈ P.1 p) : hidB P c = false := by
  unfold hidB
  rw [List.any_eq_false]
  intro q hq
  have hq5 : q < 5 := by simpa using hq
  intro h
  have hq2 : c ∈ (P.1 q).drop ((P.1 q).length - P.2.1 q) := by simpa using h
  have := ho.2.2.1 q p c (List.mem_of_mem_drop hq2) hm
  omega
theorem s_runOf_L {T : Nat → Nat → Int32} {r : Nat → Int32} {R : Nat → Nat} {P : Pos} (h : TRep T P) (ho : PosOk P) (hr : RR r R) {p : Nat} (hp : p < 5) : ∀ (j k n c : Nat), k + 1 + j = (P.1 p).length → j < n → (P.1 p)[k]? = some c → F_X4_runOf_L24 T r n (nI c) (nI (k + 1)) (optI (P.1 p)[k + 1]?) = some (nI (k + runLen R (P.2.1 p) ((P.1 p).drop k))) := by
  have hl := ho.len p
  intro j
  induction j with
  | zero =>
    intro k n c hk hn hc
    obtain ⟨n, rfl⟩ : ∃ m, n = m + 1 := ⟨n - 1, by omega⟩
    show F_X4_runOf_s24 T r (F_X4_runOf_L24 T r n) _ _ _ = _
    unfold F_X4_runOf_s24
    have hlt : k < (P.1 p).length := by omega
    rw [List.getElem?_eq_none (by omega), optI_none, if_pos rfl]
    have e : (P.1 p).drop k = [c] := by
      rw [List.drop_eq_getElem_cons hlt, List.drop_eq_nil_of_le (by omega)]
      rw [List.getElem?_eq_getElem hlt] at hc
      rw [Option.some.inj hc]
    rw [e]; rfl
  | succ j ih =>
    intro k n c hk hn hc
    obtain ⟨n, rfl⟩ : ∃ m, n = m + 1 := ⟨n - 1, by omega⟩
    show F_X4_runOf_s24 T r (F_X4_runOf_L24 T r n) _ _ _ = _
    unfold F_X4_runOf_s24
    have hlt : k < (P.1 p).length := by omega
    have hlt1 : k + 1 < (P.1 p).length := by omega
    have hd : (P.1 p)[k + 1]? = some (P.1 p)[k + 1] := List.getElem?_eq_getElem hlt1
    have hd16 := ho.1 p _ (List.mem_of_getElem? hd)
    have hc16 := ho.1 p _ (List.mem_of_getElem? hc)
    generalize (P.1 p)[k + 1] = d at hd hd16
    have e1 : (P.1 p).drop (k + 1) = d :: (P.1 p).drop (k + 2) := by
      rw [List.drop_eq_getElem_cons hlt1]
      rw [List.getElem?_eq_getElem hlt1] at hd
      rw [Option.some.inj hd]
    have e : (P.1 p).drop k = c :: d :: (P.1 p).drop (k + 2) := by
      rw [List.drop_eq_getElem_cons hlt, e1]
      rw [List.getElem?_eq_getElem hlt] at hc
      rw [Option.some.inj hc]
    rw [hd, optI_some, if_neg (by rw [nI_negone (by omega)]; exact id), if_neg (nI_ge (by omega) (by omega)), s_liesHidden h hd16, cal1_s, hidB_at ho hp hd, s_isFitting hr hc16 hd16, cal1_s, s_under h ho hd, cal1_s, nI_add]
    have ih' := ih (k + 1) n d (by omega) (by omega) hd
    rw [ih']
    have hle : (d :: (P.1 p).drop (k + 2)).length = (P.1 p).length - (k + 1) := by rw [← e1, List.length_drop]
    have er : runLen R (P.2.1 p) (c :: d :: (P.1 p).drop (k + 2)) = if P.2.1 p < (d :: (P.1 p).drop (k + 2)).length ∧ fitB R c d = true then 1 + runLen R (P.2.1 p) (d :: (P.1 p).drop (k + 2)) else 1 := rfl
    rw [e, er, e1, hle]
    by_cases hv : (P.1 p).length - (k + 1) ≤ P.2.1 p
    · rw [if_neg (by rw [bi_eq0]; simp [hv]), if_neg (fun q => by omega)]
    · rw [if_pos (by rw [bi_eq0]; simp [hv])]
      by_cases hf : fitB R c d = true
      · rw [if_neg (by rw [bi_eq0]; simp [hf]), if_pos ⟨by omega, hf⟩]
        congr 2; omega
      · rw [if_pos (by rw [bi_eq0]; simpa using hf), if_neg (fun q => hf q.2)]
theorem s_runOf {T : Nat → Nat → Int32} {r : Nat → Int32} {R : Nat → Nat} {P : Pos} (h : TRep T P) (ho : PosOk P) (hr : RR r R) {p : Nat} (hp : p < 5) : F_X4_runOf T r (nI p) = some (nI (runLen R (P.2.1 p) (P.1 p))) := by
  have hl := ho.len p
  unfold F_X4_runOf F_X4_runOf_b16
  rw [s_topOf h (by omega), cal1_s]
  cases hc : P.1 p with
  | nil =>
    rw [show topI [] = (-1 : Int32) from rfl, if_pos rfl, s_under_none, cal1_s]
    show F_X4_runOf_s24 T r (F_X4_runOf_L24 T r 4999) _ _ _ = _
    unfold F_X4_runOf_s24
    rw [if_pos rfl]; rfl
  | cons c l =>
    have h0 : (P.1 p)[0]? = some c := by rw [hc]; rfl
    have hc16 := ho.1 p _ (List.mem_of_getElem? h0)
    rw [show topI (c :: l) = nI c from rfl, if_neg (by rw [nI_negone (by omega)]; exact id), s_under h ho h0, cal1_s]
    have e := s_runOf_L h ho hr hp ((P.1 p).length - 1) 0 FU c (by rw [hc]; simp; omega) (FU_gt (by omega)) h0
    rw [show nI (0 + 1) = nI 1 from rfl] at e
    rw [e, hc]
    congr 2
    simp
theorem cntB_le (p : Nat → Bool) : ∀ n, cntB p n ≤ n
  | 0 => Nat.le_refl _
  | n + 1 => by have := cntB_le p n; unfold cntB; split <;> omega
theorem topI_neg1 (l : List Nat) (h : ∀ c ∈ l, c < 16) : (topI l = -1) ↔ l.isEmpty = true := by
  cases l with
  | nil => simp [topI]
  | cons c l => have := h c (by simp); simp only [topI, List.isEmpty_cons, nI_negone (show c < 2 ^ 31 by omega)]; simp
theorem s_mostTo_L42 {T : Nat → Nat → Int32} {r : Nat → Int32} {R : Nat → Nat} {P : Pos} (h : TRep T P) (ho : PosOk P) (hr : RR r R) {t : Nat} (ht : t < 5) : ∀ (j k n m : Nat), k + j = R 2 → j < n → m ≤ 3 * 2 ^ k → F_X4_mostTo_L42 T r n (nI t) (nI (m * 2 ^ cntB (fun c => decide (c ≠ t) && (P.1 c).isEmpty) k)) (nI k) = some (nI (m * 2 ^ cntB (fun c => decide (c ≠ t) && (P.1 c).isEmpty) (R 2))) := by
  have hR := hr.2
  unfold RulesOk at hR
  intro j
  induction j with
  | zero =>
    intro k n m hk hn hm
    obtain ⟨n, rfl⟩ : ∃ m, n = m + 1 := ⟨n - 1, by omega⟩
    show F_X4_mostTo_s42 T r (F_X4_mostTo_L42 T r n) _ _ _ = _
    unfold F_X4_mostTo_s42
    rw [hr.1 2 (by omega), if_pos (nI_le (by omega) (by omega)), show k = R 2 by omega]
  | succ j ih =>
    intro k n m hk hn hm
    obtain ⟨n, rfl⟩ : ∃ m, n = m + 1 := ⟨n - 1, by omega⟩
    show F_X4_mostTo_s42 T r (F_X4_mostTo_L42 T r n) _ _ _ = _
    unfold F_X4_mostTo_s42 F_X4_mostTo_b73
    have ih' := ih (k + 1) n m (by omega) (by omega) (by rw [Nat.pow_succ]; omega)
    rw [hr.1 2 (by omega), if_neg (nI_ge (by omega) (by omega)), s_topOf h (by omega), cal1_s, nI_add, pk_mul, pk_mul]
    have e : cntB (fun c => decide (c ≠ t) && (P.1 c).isEmpty) (k + 1) = cntB (fun c => decide (c ≠ t) && (P.1 c).isEmpty) k + if (decide (k ≠ t) && (P.1 k).isEmpty) = true then 1 else 0 := rfl
    rw [e] at ih'
    by_cases q : k = t
    · rw [if_pos (by rw [q]), Nat.mul_one]
      simpa [q] using ih'
    · rw [if_neg (by rw [nI_eq (by omega) (by omega)]; exact q)]
      by_cases q2 : (P.1 k).isEmpty = true
      · rw [if_pos ((topI_neg1 _ (ho.1 k)).mpr q2)]
        simp only [q, q2, ne_eq, not_false_eq_true, decide_true, Bool.and_self, if_true] at ih'
        rw [Nat.mul_assoc, ← Nat.pow_succ]
        exact ih'
      · rw [if_neg (fun z => q2 ((topI_neg1 _ (ho.1 k)).mp z)), Nat.mul_one]
        simp only [q2, Bool.and_false, Bool.false_eq_true, if_false, Nat.add_zero] at ih'
        exact ih'
theorem s_mostTo_L4 {T : Nat → Nat → Int32} {r : Nat → Int32} {R : Nat → Nat} {P : Pos} (h : TRep T P) (ho : PosOk P) (hr : RR r R) {t : Nat} (ht : t < 5) : ∀ (j k n : Nat), k + j = R 3 → j < n → F_X4_mostTo_L4 T r n (nI t) (nI (1 + cntB (fun k => (P.1 (5 + k)).isEmpty) k)) (nI (5 + k)) = some (nI (most R P t)) := by
  have hR := hr.2
  unfold RulesOk at hR
  intro j
  induction j with
  | zero =>
    intro k n hk hn
    obtain ⟨n, rfl⟩ : ∃ m, n = m + 1 := ⟨n - 1, by omega⟩
    show F_X4_mostTo_s4 T r (F_X4_mostTo_L4 T r n) _ _ _ = _
    unfold F_X4_mostTo_s4
    have hk2 : k = R 3 := by omega
    subst hk2
    rw [hr.1 3 (by omega), nI_add, if_pos (nI_le (by omega) (by omega))]
    have h1 := cntB_le (fun k => (P.1 (5 + k)).isEmpty) (R 3)
    have := s_mostTo_L42 h ho hr ht (R 2) 0 FU (1 + cntB (fun k => (P.1 (5 + k)).isEmpty) (R 3)) (by omega) (FU_gt (by omega)) (by omega)
    simpa [cntB, most] using this
  | succ j ih =>
    intro k n hk hn
    obtain ⟨n, rfl⟩ : ∃ m, n = m + 1 := ⟨n - 1, by omega⟩
    show F_X4_mostTo_s4 T r (F_X4_mostTo_L4 T r n) _ _ _ = _
    unfold F_X4_mostTo_s4 F_X4_mostTo_b32
    have ih' := ih (k + 1) n (by omega) (by omega)
    rw [hr.1 3 (by omega), nI_add, if_neg (nI_ge (by omega) (by omega)), s_topOf h (by omega), cal1_s, nI_add, nI_add, nI_add]
    have e : cntB (fun k => (P.1 (5 + k)).isEmpty) (k + 1) = cntB (fun k => (P.1 (5 + k)).isEmpty) k + if (P.1 (5 + k)).isEmpty = true then 1 else 0 := rfl
    rw [e] at ih'
    by_cases q2 : (P.1 (5 + k)).isEmpty = true
    · rw [if_pos ((topI_neg1 _ (ho.1 _)).mpr q2)]
      simp only [q2, if_true] at ih'
      exact ih'
    · rw [if_neg (fun z => q2 ((topI_neg1 _ (ho.1 _)).mp z))]
      simp only [q2, Bool.false_eq_true, if_false, Nat.add_zero] at ih'
      exact ih'
theorem s_mostTo {T : Nat → Nat → Int32} {r : Nat → Int32} {R : Nat → Nat} {P : Pos} (h : TRep T P) (ho : PosOk P) (hr : RR r R) {t : Nat} (ht : t < 5) : F_X4_mostTo T r (nI t) = some (nI (most R P t)) := by
  have hR := hr.2
  unfold RulesOk at hR
  exact s_mostTo_L4 h ho hr ht (R 3) 0 FU (by omega) (FU_gt (by omega))
theorem most_le {R : Nat → Nat} (hR : RulesOk R) (P : Pos) (t : Nat) : most R P t ≤ 96 := by
  unfold RulesOk at hR
  unfold most
  have h1 := cntB_le (fun k => (P.1 (5 + k)).isEmpty) (R 3)
  have h2 := cntB_le (fun c => decide (c ≠ t) && (P.1 c).isEmpty) (R 2)
  have h3 : 2 ^ cntB (fun c => decide (c ≠ t) && (P.1 c).isEmpty) (R 2) ≤ 2 ^ 5 := Nat.pow_le_pow_right (by omega) (by omega)
  exact Nat.le_trans (Nat.mul_le_mul (by omega : _ ≤ 3) h3) (by omega)
end
section
/-! ===== the class's table: isMove is legal ===== -/
/-- what is asked of a position, with the rules: columns and cells that there are, a card that is up lies nowhere -/
def WF (R : Nat → Nat) (P : Pos) : Prop :=
  PosOk P ∧ (∀ p, p < 5 → R 2 ≤ p → P.1 p = []) ∧ (∀ k, k < 2 → (P.1 (5 + k)).length ≤ 1 ∧ (R 3 ≤ k → P.1 (5 + k) = [])) ∧
  (∀ p c, c ∈ P.1 p → c < R 0 * R 1 ∧ P.2.2.1 (c / R 1) ≤ c % R 1) ∧
  (∀ c, c < R 0 * R 1 → P.2.2.1 (c / R 1) ≤ c % R 1 → ∃ p, c ∈ P.1 p) ∧
  (∀ s, P.2.2.1 s ≤ R 1) ∧ (∀ s, R 0 ≤ s → P.2.2.1 s = 0) ∧
  (P.1 7).length + (P.1 9).length ≤ R 6 ∧ P.2.2.2 ≤ R 7
theorem WF.on20 {R : Nat → Nat} {P : Pos} (w : WF R P) {c : Nat} (hc : c < R 0 * R 1) : onN P c = 20 ↔ c % R 1 < P.2.2.1 (c / R 1) := by
  rw [onN_20 w.1]
  constructor
  · intro h
    rcases Nat.lt_or_ge (c % R 1) (P.2.2.1 (c / R 1)) with q | q
    · exact q
    · obtain ⟨p, hp⟩ := w.2.2.2.2.1 c hc q
      exact absurd hp (h p)
  · intro h p hp
    have := (w.2.2.2.1 p c hp).2
    omega
theorem s_isNextUp {T : Nat → Nat → Int32} {r : Nat → Int32} {R : Nat → Nat} {P : Pos} (h : TRep T P) (w : WF R P) (hr : RR r R) {p c : Nat} (hc : c ∈ P.1 p) : F_X4_isNextUp T r (nI c) = some (bi (decide (c % R 1 = P.2.2.1 (c / R 1)))) := by
  have hR := hr.2
  have hR2 := hr.2
  unfold RulesOk at hR
  have hc16 := w.1.1 p c hc
  have hcn := w.2.2.2.1 p c hc
  have hm := mod_lt1 hR2 c
  unfold F_X4_isNextUp
  rw [s_rankOf hr hc16, cal1_s]
  by_cases q : c % R 1 = 0
  · rw [if_pos (by rw [q]), zb1]
    have : P.2.2.1 (c / R 1) = 0 := by omega
    rw [q, this]; rfl
  · have hc1 : c ≠ 0 := fun e => q (by rw [e]; exact Nat.zero_mod _)
    rw [if_neg (by rw [nI_eq (by omega) (by omega)]; omega), pk_sub (by omega), s_isUp h w.1 (by omega), cal1_s]
    have hd : c = R 1 * (c / R 1) + c % R 1 := (Nat.div_add_mod c (R 1)).symm
    have hz : (c % R 1 - 1) / R 1 = 0 := Nat.div_eq_of_lt (by omega)
    have e1 : (c - 1) / R 1 = c / R 1 := by
      rw [show c - 1 = R 1 * (c / R 1) + (c % R 1 - 1) by omega, Nat.mul_add_div (by omega), hz, Nat.add_zero]
    have e2 : (c - 1) % R 1 = c % R 1 - 1 := by
      rw [show c - 1 = R 1 * (c / R 1) + (c % R 1 - 1) by omega, Nat.mul_add_mod, Nat.mod_eq_of_lt (by omega)]
    have e3 := w.on20 (show c - 1 < R 0 * R 1 by omega)
    rw [e1, e2] at e3
    by_cases z : onN P (c - 1) = 20
    · have := e3.mp z
      have e4 : c % R 1 = P.2.2.1 (c / R 1) := by omega
      simp only [z, e4, decide_true, bi_t]
      rfl
    · have : ¬ (c % R 1 - 1 < P.2.2.1 (c / R 1)) := fun y => z (e3.mpr y)
      have e4 : ¬ c % R 1 = P.2.2.1 (c / R 1) := by omega
      simp only [z, e4, decide_false, bi_f]
      rfl
theorem s_isForColumn {T : Nat → Nat → Int32} {r : Nat → Int32} {R : Nat → Nat} {P : Pos} (h : TRep T P) (ho : PosOk P) (hr : RR r R) {t c : Nat} (ht : t < 5) (hc : c < 16) : F_X4_isForColumn T r (nI c) (nI t) = some (bi (forCol R (P.1 t) c)) := by
  unfold F_X4_isForColumn
  rw [s_topOf h (by omega), cal1_s]
  cases e : P.1 t with
  | nil =>
    rw [show topI [] = (-1 : Int32) from rfl, if_pos rfl, s_isForEmpty hr hc, cal1_s, zb_bi]; rfl
  | cons o l =>
    have ho16 : o < 16 := ho.1 t o (by rw [e]; simp)
    rw [show topI (o :: l) = nI o from rfl, if_neg (by rw [nI_negone (by omega)]; exact id), s_isFitting hr hc ho16, cal1_s, zb_bi]; rfl
theorem s_isStockMove {T : Nat → Nat → Int32} {r : Nat → Int32} {R : Nat → Nat} {P : Pos} (h : TRep T P) (ho : PosOk P) (hr : RR r R) : F_X4_isStockMove T r = some (bi (!(P.1 9).isEmpty || (!(P.1 7).isEmpty && decide (P.2.2.2 < R 7)))) := by
  have hR := hr.2
  unfold RulesOk at hR
  have ht := h.2.2.2.2
  unfold F_X4_isStockMove
  rw [s_topOf h (by omega), cal1_s, s_topOf h (by omega), cal1_s, hr.1 7 (by omega), h.2.2.2.1]
  cases e : P.1 9 with
  | nil =>
    rw [show topI [] = (-1 : Int32) from rfl, if_pos rfl]
    cases e2 : P.1 7 with
    | nil => rw [show topI [] = (-1 : Int32) from rfl, if_pos rfl]; rfl
    | cons c l =>
      have := ho.1 7 c (by rw [e2]; simp)
      rw [show topI (c :: l) = nI c from rfl, if_neg (by rw [nI_negone (by omega)]; exact id)]
      by_cases q : R 7 ≤ P.2.2.2
      · rw [if_pos (nI_le q (by omega)), zb0]
        simp [show ¬ P.2.2.2 < R 7 by omega, bi]
      · rw [if_neg (nI_ge (by omega) (by omega)), zb1]
        simp [show P.2.2.2 < R 7 by omega, bi]
  | cons c l =>
    have := ho.1 9 c (by rw [e]; simp)
    rw [show topI (c :: l) = nI c from rfl, if_neg (by rw [nI_negone (by omega)]; exact id), zb1]
    rfl
theorem bi_if (b : Bool) {α : Type} (x y : α) : (if bi b = nI 0 then x else y) = if b = true then y else x := by cases b <;> rfl
theorem s_isMove {T : Nat → Nat → Int32} {r : Nat → Int32} {R : Nat → Nat} {P : Pos} (h : TRep T P) (w : WF R P) (hr : RR r R) {f t n : Nat} (hf : f < 10) (ht : t < 9) (hn : 1 ≤ n) (hn16 : n ≤ 16) (h1 : n = 1 ∨ (f < 5 ∧ t < 5)) : F_X4_isMove T r (nI f) (nI t) (nI n) = some (bi (legal R P f t n)) := by
  have hR := hr.2
  have hR2 := hr.2
  unfold RulesOk at hR
  have ho := w.1
  unfold F_X4_isMove F_X4_isMove_b145 legal
  by_cases f9 : f = 9
  · subst f9
    rw [if_pos rfl, if_pos rfl]
    by_cases t7 : t = 7
    · subst t7
      rw [if_pos rfl, s_isStockMove h ho hr, cal1_s, bi_if]
      cases (!(P.1 9).isEmpty || (!(P.1 7).isEmpty && decide (P.2.2.2 < R 7))) <;> rfl
    · rw [if_neg (by rw [nI_eq (by omega) (by omega)]; exact t7), zb0]
      simp [t7, bi]
  · rw [if_neg (by rw [nI_eq (by omega) (by omega)]; exact f9), if_neg f9, s_topOf h hf, cal1_s]
    cases e : P.1 f with
    | nil => rw [show topI [] = (-1 : Int32) from rfl, if_pos rfl]; rfl
    | cons c l =>
      have hcm : c ∈ P.1 f := by rw [e]; simp
      have hc16 := ho.1 f c hcm
      rw [show topI (c :: l) = nI c from rfl, if_neg (by rw [nI_negone (by omega)]; exact id)]
      dsimp only
      by_cases ft : f = t
      · subst ft
        rw [if_pos rfl, zb0]
        have f8 : f ≠ 8 := (ho.place hcm).2
        simp only [f8, if_false]
        by_cases f56 : f = 5 ∨ f = 6
        · simp only [f56, if_true]
          have : ¬ (f < 5 ∨ f = 7) := by omega
          simp [this, bi]
        · simp only [f56, if_false]
          by_cases f5 : f < 5 <;> simp [f5, bi]
      · rw [if_neg (by rw [nI_eq (by omega) (by omega)]; exact ft)]
        by_cases t8 : t = 8
        · subst t8
          rw [if_pos rfl, if_pos rfl, s_isNextUp h w hr hcm, cal1_s, zb_bi]
        · rw [if_neg (by rw [nI_eq (by omega) (by omega)]; exact t8), if_neg t8, s_isCell (by omega), cal1_s, bi_if]
          by_cases t56 : t = 5 ∨ t = 6
          · simp only [t56, decide_true, if_true]
            rw [s_isCell (by omega), cal1_s, bi_if]
            by_cases f56 : f = 5 ∨ f = 6
            · have : ¬ (f < 5 ∨ f = 7) := by omega
              simp only [f56, this, decide_true, decide_false, if_true, zb0, Bool.false_and, bi_f]
            · have f8 : f ≠ 8 := (ho.place hcm).2
              have : f < 5 ∨ f = 7 := by omega
              simp only [f56, this, decide_true, decide_false, Bool.true_and, Bool.false_eq_true, if_false]
              rw [hr.1 3 (by omega), pk_sub (by omega)]
              by_cases q : R 3 ≤ t - 5
              · rw [if_pos (nI_le q (by omega)), zb0]
                simp [show ¬ t - 5 < R 3 by omega, bi]
              · rw [if_neg (nI_ge (by omega) (by omega)), s_topOf h (by omega), cal1_s]
                simp only [topI_neg1 _ (ho.1 t), show t - 5 < R 3 by omega, decide_true, Bool.true_and]
                cases (P.1 t).isEmpty <;> rfl
          · simp only [t56, decide_false, Bool.false_eq_true, if_false]
            rw [s_isColumn (by omega), cal1_s, bi_if]
            by_cases t5 : t < 5
            · simp only [t5, decide_true, if_true]
              rw [hr.1 2 (by omega)]
              by_cases tR : t < R 2
              · rw [if_pos (nI_lt tR (by omega))]
                simp only [tR, ft, ne_eq, not_false_eq_true, decide_true, Bool.true_and]
                have hfr : ∀ k, k ≤ 16 → F_X4_fromTop T (nI f) (nI k) = some (optI (P.1 f)[k]?) := fun k hk => s_fromTop h ho hf (by omega)
                by_cases f5 : f < 5
                · simp only [f5, if_true]
                  have hhid : P.2.1 f < (c :: l).length := by
                    have := ho.2.2.2.2.1 f
                    rw [e] at this
                    rcases this with q | q
                    · rw [q]; simp
                    · exact q
                  rw [isRun_runLen (c :: l) n hn hhid]
                  have hml := most_le hR2 P t
                  have hrl := runLen_le R (P.2.1 f) (c :: l)
                  have hlen := ho.len f
                  rw [e] at hlen
                  by_cases n1 : n = 1
                  · subst n1
                    rw [if_pos (by exact Int32.le_refl _), pk_sub (by omega), hfr 0 (by omega), cal1_s, e]
                    rw [show ((c :: l)[1 - 1]?) = some c from rfl, optI_some, s_isForColumn h ho hr t5 hc16, cal1_s, zb_bi]
                    have e1 := runLen_pos (R := R) (P.2.1 f) (c :: l) (by simp)
                    have e2 : 1 ≤ most R P t := by
                      unfold most
                      exact Nat.mul_pos (by omega) (Nat.pow_pos (by omega))
                    simp [e1, e2]
                  · rw [if_neg (nI_ge (by omega) (by omega)), s_runOf h ho hr f5, cal1_s, e]
                    by_cases q : n ≤ runLen R (P.2.1 f) (c :: l)
                    · rw [if_neg (nI_nlt q (by omega)), s_mostTo h ho hr t5, cal1_s]
                      simp only [q, decide_true, Bool.true_and]
                      by_cases q2 : n ≤ most R P t
                      · rw [if_pos (nI_le q2 (by omega)), pk_sub (by omega), hfr (n - 1) (by omega), cal1_s]
                        have hlt : n - 1 < (P.1 f).length := by rw [e]; omega
                        have hg : (P.1 f)[n - 1]? = some ((c :: l).getD (n - 1) 0) := by
                          rw [e] at hlt ⊢
                          rw [List.getElem?_eq_getElem hlt, List.getD_eq_getElem?_getD, List.getElem?_eq_getElem hlt]; rfl
                        have h16 := ho.1 f _ (List.mem_of_getElem? hg)
                        rw [hg, optI_some, s_isForColumn h ho hr t5 h16, cal1_s, zb_bi]
                        simp [q2]
                      · rw [if_neg (nI_ge (by omega) (by omega)), zb0]
                        simp [q2, bi]
                    · rw [if_pos (nI_lt (by omega) (by omega)), zb0]
                      simp [q, bi]
                · simp only [f5, if_false]
                  have n1 : n = 1 := by omega
                  subst n1
                  rw [if_pos (by exact Int32.le_refl _), pk_sub (by omega), hfr 0 (by omega), cal1_s, e]
                  rw [show ((c :: l)[1 - 1]?) = some c from rfl, optI_some, s_isForColumn h ho hr t5 hc16, cal1_s, zb_bi]
              · rw [if_neg (nI_nlt (by omega) (by omega)), zb0]
                simp [tR, bi]
            · simp only [t5, decide_false, Bool.false_eq_true, if_false, zb0, bi_f]
end
section
/-! ===== the class's table: the list of moves ===== -/
def canB (f t n : Nat) : Bool := decide (f ≠ 8) && (decide (n = 1) || (decide (f < 5) && decide (t < 5)))
def codeN (f t n : Nat) : Nat := 1000 * f + 100 * t + n
def mvFT (R : Nat → Nat) (P : Pos) (f t : Nat) : List Nat := ((List.range' 1 16).filter (fun n => canB f t n && legal R P f t n)).map (codeN f t)
def mvF (R : Nat → Nat) (P : Pos) (f : Nat) : List Nat := (List.range 9).flatMap (mvFT R P f)
/-- the moves there are, by their order, as they are told -/
def mvs (R : Nat → Nat) (P : Pos) : List Nat := (List.range 10).flatMap (mvF R P)
/-- the table with a list of moves on it -/
def LRep (T : Nat → Nat → Int32) (P : Pos) (acc : List Nat) : Prop := TRep T P ∧ T 0 4 = nI acc.length ∧ ∀ i c, acc[i]? = some c → T 3 i = nI c
theorem TRep.cong {T T' : Nat → Nat → Int32} {P : Pos} (h : TRep T P) (h1 : ∀ c, c < 16 → T' 1 c = T 1 c) (h2 : ∀ p, p < 10 → T' 2 p = T 2 p) (h5 : T' 0 5 = T 0 5) (h6 : T' 0 6 = T 0 6) : TRep T' P :=
  ⟨fun p hp => (h2 p hp).trans (h.1 p hp), fun c hc => (h1 c hc).trans (h.2.1 c hc), by rw [h5]; exact h.2.2.1, h6.trans h.2.2.2.1, h.2.2.2.2⟩
theorem LRep.push {T : Nat → Nat → Int32} {P : Pos} {acc : List Nat} (h : LRep T P acc) (c : Nat) : LRep (st2 (st2 T 3 acc.length (nI c)) 0 4 (nI (acc.length + 1))) P (acc ++ [c]) := by
  refine ⟨h.1.cong ?_ ?_ ?_ ?_, ?_, ?_⟩
  · intro c hc; simp [st2_s]
  · intro c hc; simp [st2_s]
  · simp [st2_s]
  · simp [st2_s]
  · simp [st2_s]
  · intro i d hd
    simp only [st2_s]
    rcases Nat.lt_trichotomy i acc.length with q | q | q
    · rw [List.getElem?_append_left q] at hd
      rw [if_neg (by omega), if_neg (by omega)]; exact h.2.2 i d hd
    · subst q
      rw [List.getElem?_append_right (Nat.le_refl _)] at hd
      simp at hd; subst hd
      simp
    · rw [List.getElem?_append_right (by omega), List.getElem?_eq_none (by simp; omega)] at hd; cases hd
theorem s_codeOf {f t n : Nat} : F_X5_codeOf (nI f) (nI t) (nI n) = some (nI (codeN f t n)) := by
  unfold F_X5_codeOf codeN; rw [pk_mul, pk_mul, nI_add, nI_add]
theorem setc_upd (T : Nat → Nat → Int32) (k i : Nat) (x : Int32) : setc T k (upd (T k) i x) = st2 T k i x := by
  funext a; unfold setc st2
  by_cases h : a = k
  · subst h; simp
  · simp [h]
theorem s_list_L73 {r : Nat → Int32} {R : Nat → Nat} {P : Pos} (w : WF R P) (hr : RR r R) {f t lim : Nat} (hf : f < 10) (ht : t < 9) (hl : lim ≤ 16) (hc : lim = 1 ∨ (f < 5 ∧ t < 5)) (K7 : (Nat → Nat → Int32) → Int32 → Option (Nat → Nat → Int32)) (K50 : (Nat → Nat → Int32) → Int32 → Int32 → Int32 → Option (Nat → Nat → Int32)) (v2 : Int32) :
    ∀ (j m n : Nat) (T : Nat → Nat → Int32) (acc : List Nat), 1 ≤ m → m + j = lim + 1 → j < n → LRep T P acc → (acc ++ ((List.range' m j).filter (fun n => legal R P f t n)).map (codeN f t)).length ≤ 156 →
    ∃ T', LRep T' P (acc ++ ((List.range' m j).filter (fun n => legal R P f t n)).map (codeN f t)) ∧ F_X4_listMoves_L73 r K7 K50 n T (nI f) v2 (nI t) (nI lim) (nI m) = K50 T' (nI f) v2 (nI (t + 1)) := by
  intro j
  induction j with
  | zero =>
    intro m n T acc h1 hm hn hT hlen
    obtain ⟨n, rfl⟩ : ∃ m, n = m + 1 := ⟨n - 1, by omega⟩
    refine ⟨T, by simpa using hT, ?_⟩
    show F_X4_listMoves_s73 r K7 K50 (F_X4_listMoves_L73 r K7 K50 n) _ _ _ _ _ _ = _
    unfold F_X4_listMoves_s73
    rw [if_pos (nI_lt (by omega) (by omega)), nI_add]
  | succ j ih =>
    intro m n T acc h1 hm hn hT hlen
    obtain ⟨n, rfl⟩ : ∃ m, n = m + 1 := ⟨n - 1, by omega⟩
    have e : (List.range' m (j + 1)) = m :: List.range' (m + 1) j := rfl
    rw [e] at hlen
    have ha : acc.length ≤ 156 := by simp only [List.length_append] at hlen; omega
    show ∃ T', LRep T' P _ ∧ F_X4_listMoves_s73 r K7 K50 (F_X4_listMoves_L73 r K7 K50 n) _ _ _ _ _ _ = _
    unfold F_X4_listMoves_s73
    rw [if_neg (nI_nlt (by omega) (by omega)), hT.2.1, if_neg (nI_ge (by omega) (by omega)), s_isMove hT.1 w hr hf ht h1 (by omega) (by omega), cal1_s, bi_if, nI_add, e]
    by_cases q : legal R P f t m = true
    · rw [List.filter_cons_of_pos (by simpa using q), List.map_cons] at hlen ⊢
      rw [if_pos q, s_codeOf, cal1_s, s_put (by omega) (by omega), cal1_s, bnd_s, bnd_s, setc_upd]
      rw [show acc ++ codeN f t m :: List.map (codeN f t) ((List.range' (m + 1) j).filter (fun n => legal R P f t n)) = (acc ++ [codeN f t m]) ++ List.map (codeN f t) ((List.range' (m + 1) j).filter (fun n => legal R P f t n)) by simp] at hlen ⊢
      have e2 : st2 T 3 acc.length (nI (codeN f t m)) 0 4 = nI acc.length := by rw [st2_s, if_neg (by omega)]; exact hT.2.1
      rw [e2, nI_add]
      exact ih (m + 1) n _ _ (by omega) (by omega) (by omega) (hT.push _) hlen
    · rw [List.filter_cons_of_neg (by simpa using q)] at hlen ⊢
      rw [if_neg q]
      exact ih (m + 1) n T acc (by omega) (by omega) (by omega) hT hlen
theorem range'_filter (p : Nat → Bool) {lim : Nat} (h : lim ≤ 16) : (List.range' 1 16).filter (fun n => decide (n ≤ lim) && p n) = (List.range' 1 lim).filter p := by
  have e : List.range' 1 16 = List.range' 1 lim ++ List.range' (1 + lim) (16 - lim) := by
    rw [List.range'_append_1]; congr 1; omega
  rw [e, List.filter_append]
  have e1 : (List.range' (1 + lim) (16 - lim)).filter (fun n => decide (n ≤ lim) && p n) = [] := by
    rw [List.filter_eq_nil_iff]
    intro a ha
    rw [List.mem_range'_1] at ha
    simp only [Bool.and_eq_true, decide_eq_true_eq, not_and]
    intro q; omega
  rw [e1, List.append_nil]
  apply List.filter_congr
  intro a ha
  rw [List.mem_range'_1] at ha
  simp [show a ≤ lim by omega]
theorem hid_lt {P : Pos} (ho : PosOk P) {f : Nat} (h : P.1 f ≠ []) : P.2.1 f < (P.1 f).length := by
  have h1 : 0 < (P.1 f).length := List.length_pos_iff.mpr h
  rcases ho.2.2.2.2.1 f with q | q <;> omega
theorem legal_run {R : Nat → Nat} {P : Pos} (ho : PosOk P) {f t n : Nat} (hf : f < 5) (ht : t < 5) (hn : 1 ≤ n) (h : legal R P f t n = true) : n ≤ runLen R (P.2.1 f) (P.1 f) := by
  unfold legal at h
  rw [if_neg (by omega)] at h
  cases e : P.1 f with
  | nil => rw [e] at h; cases h
  | cons c l =>
    rw [e] at h
    simp only [show ¬ t = 8 by omega, show ¬ (t = 5 ∨ t = 6) by omega, ht, hf, if_true, if_false, Bool.and_eq_true] at h
    have h1 := h.2.2.1
    have hh := hid_lt ho (show P.1 f ≠ [] by rw [e]; simp)
    rw [e] at hh
    rw [isRun_runLen _ n hn hh] at h1
    simpa using h1
theorem mvFT_lim {R : Nat → Nat} {P : Pos} (hR : RulesOk R) (ho : PosOk P) {f t : Nat} (h8 : f ≠ 8) (hn : f = 9 ∨ P.1 f ≠ []) : mvFT R P f t = ((List.range' 1 (if f < 5 ∧ t < 5 then runLen R (P.2.1 f) (P.1 f) else 1)).filter (fun n => legal R P f t n)).map (codeN f t) := by
  unfold mvFT
  have hl := ho.len f
  have hrl := runLen_le R (P.2.1 f) (P.1 f)
  rw [← range'_filter (fun n => legal R P f t n) (lim := if f < 5 ∧ t < 5 then runLen R (P.2.1 f) (P.1 f) else 1) (by split <;> omega)]
  congr 1
  apply List.filter_congr
  intro n hn1
  rw [List.mem_range'_1] at hn1
  by_cases q : legal R P f t n = true
  · rw [q, Bool.and_true, Bool.and_true]
    unfold canB
    by_cases c : f < 5 ∧ t < 5
    · have := legal_run ho c.1 c.2 hn1.1 q
      simp [h8, c.1, c.2, this]
    · rw [if_neg c]
      have : (decide (f < 5) && decide (t < 5)) = false := by
        rw [Bool.and_eq_false_iff]; simp only [decide_eq_false_iff_not]
        by_cases z : f < 5
        · exact Or.inr (fun y => c ⟨z, y⟩)
        · exact Or.inl z
      rw [this]
      simp only [ne_eq, h8, not_false_eq_true, decide_true, Bool.true_and, Bool.or_false]
      congr 1; simp only [eq_iff_iff]; omega
  · simp only [Bool.not_eq_true] at q
    rw [q, Bool.and_false, Bool.and_false]
theorem mvFT_nil {R : Nat → Nat} {P : Pos} {f t : Nat} (h9 : f ≠ 9) (hn : P.1 f = []) : mvFT R P f t = [] := by
  unfold mvFT
  rw [List.map_eq_nil_iff, List.filter_eq_nil_iff]
  intro n _
  unfold legal
  rw [if_neg h9, hn]; simp
theorem legal_t7 {R : Nat → Nat} {P : Pos} {f n : Nat} (h9 : f ≠ 9) : legal R P f 7 n = false := by
  unfold legal
  rw [if_neg h9]
  cases P.1 f <;> simp
/-- how many moves there are at most from a place to another one -/
def mvB (f t : Nat) : Nat := if f = 8 then 0 else if f = 9 then (if t = 7 then 1 else 0) else if t = 7 then 0 else if f = t then 0 else if f < 5 ∧ t < 5 then 6 else if (f = 5 ∨ f = 6) ∧ (t = 5 ∨ t = 6) then 0 else 1
theorem legal_same {R : Nat → Nat} {P : Pos} (ho : PosOk P) {f n : Nat} : legal R P f f n = true → f = 9 := by
  intro h
  unfold legal at h
  by_cases h9 : f = 9
  · exact h9
  · rw [if_neg h9] at h
    cases e : P.1 f with
    | nil => rw [e] at h; cases h
    | cons c l =>
      rw [e] at h
      have f8 : f ≠ 8 := (ho.place (show c ∈ P.1 f by rw [e]; simp)).2
      simp only [f8, if_false] at h
      by_cases f56 : f = 5 ∨ f = 6
      · simp only [f56, if_true] at h
        have : ¬ (f < 5 ∨ f = 7) := by omega
        simp [this] at h
      · simp only [f56, if_false] at h
        by_cases f5 : f < 5 <;> simp [f5] at h
theorem mvFT_le {R : Nat → Nat} {P : Pos} (hR : RulesOk R) (ho : PosOk P) (f t : Nat) : (mvFT R P f t).length ≤ mvB f t := by
  by_cases h8 : f = 8
  · subst h8; unfold mvFT canB; simp [mvB]
  by_cases hn : f = 9 ∨ P.1 f ≠ []
  · rw [mvFT_lim hR ho h8 hn, List.length_map]
    have h1 := List.length_filter_le (fun n => legal R P f t n) (List.range' 1 (if f < 5 ∧ t < 5 then runLen R (P.2.1 f) (P.1 f) else 1))
    rw [List.length_range'] at h1
    have none : (∀ n, legal R P f t n = false) → ((List.range' 1 (if f < 5 ∧ t < 5 then runLen R (P.2.1 f) (P.1 f) else 1)).filter (fun n => legal R P f t n)).length ≤ mvB f t := by
      intro q
      rw [List.filter_eq_nil_iff.mpr (fun a _ => by rw [q a]; simp)]; exact Nat.zero_le _
    by_cases h9 : f = 9
    · subst h9
      by_cases h7 : t = 7
      · subst h7; simpa [mvB] using h1
      · exact none (fun n => by unfold legal; simp [h7])
    · by_cases h7 : t = 7
      · subst h7; exact none (fun n => legal_t7 h9)
      · by_cases hft : f = t
        · subst hft
          exact none (fun n => by
            cases q : legal R P f f n with
            | false => rfl
            | true => exact absurd (legal_same ho q) h9)
        · by_cases c : f < 5 ∧ t < 5
          · rw [if_pos c] at h1 ⊢
            have h2 : runLen R (P.2.1 f) (P.1 f) ≤ 6 := by
              unfold RulesOk at hR
              cases e : P.1 f with
              | nil => simp [runLen]
              | cons x l => have := runLen_rank (by unfold RulesOk; exact hR) (P.2.1 f) l x; omega
            simp only [mvB, h8, h9, h7, hft, c, and_self, if_true, if_false]
            omega
          · rw [if_neg c] at h1 ⊢
            by_cases c2 : (f = 5 ∨ f = 6) ∧ (t = 5 ∨ t = 6)
            · refine Nat.le_trans (Nat.le_of_eq ?_) (Nat.zero_le _)
              rw [List.length_eq_zero_iff, List.filter_eq_nil_iff]
              intro n _
              unfold legal
              rw [if_neg h9]
              have h10 : ¬ (f < 5 ∨ f = 7) := by omega
              have h11 : t ≠ 8 := by omega
              cases P.1 f <;> simp [h11, c2.2, h10]
            · simp only [mvB, h8, h9, h7, hft, c, c2, if_false]
              exact h1
  · simp only [not_or, Classical.not_not] at hn
    rw [mvFT_nil hn.1 hn.2]; exact Nat.zero_le _
def sumL (l : List Nat) : Nat := l.foldr (· + ·) 0
theorem flatMap_le {α : Type} (g : α → List Nat) (b : α → Nat) (h : ∀ a, (g a).length ≤ b a) : ∀ l : List α, (l.flatMap g).length ≤ sumL (l.map b)
  | [] => Nat.le_refl _
  | a :: l => by
    have := flatMap_le g b h l
    have h1 := h a
    simp only [List.flatMap_cons, List.length_append, List.map_cons, sumL, List.foldr_cons] at this ⊢
    omega
theorem mvF_le {R : Nat → Nat} {P : Pos} (hR : RulesOk R) (ho : PosOk P) (f : Nat) : (mvF R P f).length ≤ sumL ((List.range 9).map (mvB f)) := flatMap_le _ _ (fun t => mvFT_le hR ho f t) _
theorem mvs_le {R : Nat → Nat} {P : Pos} (hR : RulesOk R) (ho : PosOk P) : (mvs R P).length ≤ 156 := by
  have h := flatMap_le (mvF R P) (fun f => sumL ((List.range 9).map (mvB f))) (fun f => mvF_le hR ho f) (List.range 10)
  exact Nat.le_trans h (by decide)
end
section
/-! ===== the class's table: what a move does ===== -/
/-- n cards go from f to t (t = 8: they are up); a hidden card that comes to be the last one is turned -/
def carryP (P : Pos) (f t n : Nat) : Pos :=
  (fun p => if p = f then (P.1 f).drop n else if p = t ∧ t ≠ 8 then (P.1 f).take n ++ P.1 t else P.1 p,
   fun p => if p = f then (if 0 < (P.1 f).length - n ∧ (P.1 f).length - n ≤ P.2.1 f then (P.1 f).length - n - 1 else P.2.1 f) else P.2.1 p,
   P.2.2.1, P.2.2.2)
theorem carryP_ok {P : Pos} (ho : PosOk P) {f t n : Nat} (hft : f ≠ t) (ht : t < 10) (hn : n ≤ (P.1 f).length) (hh : P.2.1 f + n ≤ (P.1 f).length) : PosOk (carryP P f t n) := by
  have mem : ∀ p c, c ∈ (carryP P f t n).1 p → (p = f ∧ c ∈ (P.1 f).drop n) ∨ (p = t ∧ t ≠ 8 ∧ c ∈ (P.1 f).take n) ∨ (p ≠ f ∧ c ∈ P.1 p) := by
    intro p c hc
    simp only [carryP] at hc
    by_cases q : p = f
    · rw [if_pos q] at hc; exact Or.inl ⟨q, hc⟩
    · rw [if_neg q] at hc
      by_cases q2 : p = t ∧ t ≠ 8
      · rw [if_pos q2, List.mem_append] at hc
        rcases hc with hc | hc
        · exact Or.inr (Or.inl ⟨q2.1, q2.2, hc⟩)
        · exact Or.inr (Or.inr ⟨q, by rw [q2.1]; exact hc⟩)
      · rw [if_neg q2] at hc; exact Or.inr (Or.inr ⟨q, hc⟩)
  have hdis : ∀ c, c ∈ (P.1 f).take n → c ∈ (P.1 f).drop n → False := by
    intro c h1 h2
    have hnd := ho.2.1 f
    rw [← List.take_append_drop n (P.1 f), List.nodup_append] at hnd
    exact hnd.2.2 c h1 c h2 rfl
  refine ⟨?_, ?_, ?_, ?_, ?_, ?_⟩
  · intro p c hc
    rcases mem p c hc with ⟨-, q⟩ | ⟨-, -, q⟩ | ⟨-, q⟩
    · exact ho.1 f c (List.mem_of_mem_drop q)
    · exact ho.1 f c (List.mem_of_mem_take q)
    · exact ho.1 p c q
  · intro p
    simp only [carryP]
    by_cases q : p = f
    · rw [if_pos q]; exact (ho.2.1 f).sublist (List.drop_sublist _ _)
    · rw [if_neg q]
      by_cases q2 : p = t ∧ t ≠ 8
      · rw [if_pos q2, List.nodup_append]
        refine ⟨(ho.2.1 f).sublist (List.take_sublist _ _), ho.2.1 t, ?_⟩
        intro a ha b hb e
        subst e
        exact hft (ho.2.2.1 f t a (List.mem_of_mem_take ha) hb)
      · rw [if_neg q2]; exact ho.2.1 p
  · intro p q c hp hq
    rcases mem p c hp with ⟨p1, p2⟩ | ⟨p1, -, p2⟩ | ⟨p1, p2⟩ <;> rcases mem q c hq with ⟨q1, q2⟩ | ⟨q1, -, q2⟩ | ⟨q1, q2⟩
    · omega
    · exact absurd (hdis c q2 p2) id
    · exact absurd (ho.2.2.1 q f c q2 (List.mem_of_mem_drop p2)) q1
    · exact absurd (hdis c p2 q2) id
    · omega
    · exact absurd (ho.2.2.1 q f c q2 (List.mem_of_mem_take p2)) q1
    · exact absurd (ho.2.2.1 p f c p2 (List.mem_of_mem_drop q2)) p1
    · exact absurd (ho.2.2.1 p f c p2 (List.mem_of_mem_take q2)) p1
    · exact ho.2.2.1 p q c p2 q2
  · intro p hp
    simp only [carryP]
    by_cases q : p = f
    · rw [if_pos q, ho.2.2.2.1 f (by rw [← q]; exact hp)]; simp
    · rw [if_neg q, if_neg (by rintro ⟨q1, q2⟩; rcases hp with h | h <;> omega)]
      exact ho.2.2.2.1 p hp
  · intro p
    simp only [carryP]
    by_cases q : p = f
    · rw [if_pos q, if_pos q, List.length_drop]
      split <;> omega
    · rw [if_neg q, if_neg q]
      by_cases q2 : p = t ∧ t ≠ 8
      · rw [if_pos q2, List.length_append]
        have := ho.2.2.2.2.1 p
        rw [q2.1] at this ⊢; omega
      · rw [if_neg q2]; exact ho.2.2.2.2.1 p
  · intro p hp
    simp only [carryP]
    have h1 := ho.2.2.2.2.2 p hp
    by_cases q : p = f
    · subst q; rw [if_pos rfl, h1, if_neg (by omega)]
    · rw [if_neg q]; exact h1
theorem s_floorOf {p : Nat} (h : p < 10) : F_X4_floorOf (nI p) = some (nI (floorN p)) := by
  unfold F_X4_floorOf floorN
  by_cases h7 : p = 7
  · subst h7; rfl
  by_cases h8 : p = 8
  · subst h8; rfl
  by_cases h9 : p = 9
  · subst h9; rfl
  by_cases h5 : p < 5
  · simp (disch := omega) only [nI_ltI, nI_leI, nI_eq, nI_clamp, nI_add, pk_mul, pk_sub, pk_div, pk_rem, sdm, rdA_n, wrA_n, wrJ_n, wr1_n, bnd_s, nz_n, zb0, zb1, zb_bi, cal1_s, cal2_s, cal3_s, cal4_s, cal5_s, cal6_s, nI_negone, negone_nI, negone_lt0, negone_le, bi_eq0, bi_eq1, if_true, if_false, eq_self, Nat.lt_irrefl, Nat.le_refl, h7, h8, h9, show ¬ 5 ≤ p by omega, h5]
  · simp (disch := omega) only [nI_ltI, nI_leI, nI_eq, nI_clamp, nI_add, pk_mul, pk_sub, pk_div, pk_rem, sdm, rdA_n, wrA_n, wrJ_n, wr1_n, bnd_s, nz_n, zb0, zb1, zb_bi, cal1_s, cal2_s, cal3_s, cal4_s, cal5_s, cal6_s, nI_negone, negone_nI, negone_lt0, negone_le, bi_eq0, bi_eq1, if_true, if_false, eq_self, Nat.lt_irrefl, Nat.le_refl, h7, h8, h9, show 5 ≤ p by omega, h5, show p < 7 by omega]
/-- of a card, what it lies on, behind a move -/
theorem onN_carry {P : Pos} (ho : PosOk P) {f t n : Nat} (hf : f < 10) (ht : t < 10) (hft : f ≠ t) (hn1 : 1 ≤ n) (hn : n ≤ (P.1 f).length) (hh : P.2.1 f + n ≤ (P.1 f).length) (h8 : t = 8 → n = 1) {b : Nat} (hb : (P.1 f)[n - 1]? = some b) (c : Nat) :
    onN (carryP P f t n) c = if c = b then ((P.1 t).headD (floorN t)) else onN P c := by
  have ho' := carryP_ok ho hft ht hn hh
  have ef : (carryP P f t n).1 f = (P.1 f).drop n := by simp [carryP]
  have et : t ≠ 8 → (carryP P f t n).1 t = (P.1 f).take n ++ P.1 t := by
    intro q; simp only [carryP]; rw [if_neg (fun e => hft e.symm), if_pos ⟨trivial, q⟩]
  have eo : ∀ p, p ≠ f → p ≠ t → (carryP P f t n).1 p = P.1 p := by
    intro p q1 q2; simp only [carryP]; rw [if_neg q1, if_neg (fun e => q2 e.1)]
  have bm : b ∈ P.1 f := List.mem_of_getElem? hb
  have lt_of : ∀ {l : List Nat} {k x : Nat}, l[k]? = some x → k < l.length := fun e => (List.getElem?_eq_some_iff.mp e).1
  by_cases cb : c = b
  · subst cb
    rw [if_pos rfl]
    by_cases q : t = 8
    · subst q
      have hn1' := h8 rfl
      subst hn1'
      rw [ho.2.2.2.1 8 (Or.inr rfl)]
      apply onN_out
      intro p hp hc
      by_cases pf : p = f
      · subst pf
        rw [ef] at hc
        obtain ⟨k, hk, e2⟩ := List.getElem_of_mem hc
        have e3 : (P.1 p)[1 + k]? = some c := by rw [← List.getElem?_drop, List.getElem?_eq_getElem hk, e2]
        have := (List.getElem?_inj (lt_of e3) (ho.2.1 p)).mp (e3.trans hb.symm)
        omega
      · by_cases p8 : p = 8
        · subst p8
          simp only [carryP] at hc
          rw [if_neg pf, if_neg (fun e => e.2 rfl), ho.2.2.2.1 8 (Or.inr rfl)] at hc
          cases hc
        · rw [eo p pf p8] at hc
          exact pf (ho.2.2.1 p f c hc bm)
    · have e3 : ((carryP P f t n).1 t)[n - 1]? = some c := by
        rw [et q, List.getElem?_append_left (by rw [List.length_take]; omega), List.getElem?_take_of_lt (by omega)]; exact hb
      rw [onN_in ho' ht (n - 1) e3, et q, show n - 1 + 1 = n by omega, List.getElem?_append_right (by rw [List.length_take]; omega), List.length_take, show n - min n (P.1 f).length = 0 by omega]
      cases P.1 t <;> rfl
  · rw [if_neg cb]
    by_cases hc : ∃ p, c ∈ P.1 p
    · obtain ⟨p, hcp⟩ := hc
      obtain ⟨hp, p8⟩ := ho.place hcp
      obtain ⟨k, hk, e2⟩ := List.getElem_of_mem hcp
      have hk2 : (P.1 p)[k]? = some c := by rw [List.getElem?_eq_getElem hk, e2]
      by_cases pf : p = f
      · subst pf
        have hkn : k ≠ n - 1 := by
          intro e; subst e; rw [hk2] at hb; exact cb (Option.some.inj hb)
        by_cases kn : k < n - 1
        · have t8 : t ≠ 8 := fun e => by have := h8 e; omega
          have e3 : ((carryP P p t n).1 t)[k]? = some c := by
            rw [et t8, List.getElem?_append_left (by rw [List.length_take]; omega), List.getElem?_take_of_lt (by omega)]; exact hk2
          rw [onN_in ho' ht k e3, onN_in ho hp k hk2, et t8, List.getElem?_append_left (by rw [List.length_take]; omega), List.getElem?_take_of_lt (by omega)]
          have hlt : k + 1 < (P.1 p).length := by omega
          rw [List.getElem?_eq_getElem hlt]
        · have e3 : ((carryP P p t n).1 p)[k - n]? = some c := by
            rw [ef, List.getElem?_drop, show n + (k - n) = k by omega]; exact hk2
          rw [onN_in ho' hp (k - n) e3, onN_in ho hp k hk2, ef, List.getElem?_drop, show n + (k - n + 1) = k + 1 by omega]
      · by_cases pt : p = t
        · subst pt
          have e3 : ((carryP P f p n).1 p)[n + k]? = some c := by
            rw [et p8, List.getElem?_append_right (by rw [List.length_take]; omega), List.length_take, show n + k - min n (P.1 f).length = k by omega]; exact hk2
          rw [onN_in ho' hp (n + k) e3, onN_in ho hp k hk2, et p8, List.getElem?_append_right (by rw [List.length_take]; omega), List.length_take, show n + k + 1 - min n (P.1 f).length = k + 1 by omega]
        · have e3 : ((carryP P f t n).1 p)[k]? = some c := by rw [eo p pf pt]; exact hk2
          rw [onN_in ho' hp k e3, onN_in ho hp k hk2, eo p pf pt]
    · have hc : ∀ p, c ∉ P.1 p := fun p h => hc ⟨p, h⟩
      rw [(onN_20 ho).mpr hc]
      apply onN_out
      intro p hp hcp
      by_cases pf : p = f
      · subst pf; rw [ef] at hcp; exact hc p (List.mem_of_mem_drop hcp)
      · by_cases pt : p = t
        · by_cases q : t = 8
          · subst pt; subst q
            simp only [carryP] at hcp
            rw [if_neg pf, if_neg (fun e => e.2 rfl)] at hcp
            exact hc 8 hcp
          · rw [pt, et q, List.mem_append] at hcp
            rcases hcp with h | h
            · exact hc f (List.mem_of_mem_take h)
            · exact hc t h
        · rw [eo p pf pt] at hcp; exact hc p hcp
end
section
/-! ===== the class's table: carry, turnOver, play ===== -/
theorem clr_bit {m c : Nat} (hm : m < 65536) (hc : c < 16) : ∃ m', m' < 65536 ∧ nI m &&& ((nI 1 <<< (nI c &&& 31)) ^^^ (-1)) = nI m' ∧ ∀ i, i < 16 → m'.testBit i = (m.testBit i && decide (i ≠ c)) := by
  have h1 : nI 1 <<< (nI c &&& 31) = nI (2 ^ c) := by
    have := pk_shlN (n := 1) (nI c &&& 31) c (by
      have : ∀ c, c < 32 → ((nI c &&& 31).toBitVec.smod 32).toNat = c := by decide
      exact this c (by omega)) (by
        have : 2 ^ c ≤ 2 ^ 15 := Nat.pow_le_pow_right (by omega) (by omega)
        omega)
    rw [Nat.one_mul] at this; exact this
  have h2 : (-1 : Int32) = nI 4294967295 := by decide
  rw [h1, h2, fb_xorI, fa_and]
  refine ⟨m &&& (2 ^ c ^^^ 4294967295), ?_, rfl, ?_⟩
  · exact Nat.lt_of_le_of_lt Nat.and_le_left hm
  · intro i hi
    rw [Nat.testBit_and, Nat.testBit_xor, Nat.testBit_two_pow]
    have h3 : Nat.testBit 4294967295 i = true := by
      have : ∀ i, i < 16 → Nat.testBit 4294967295 i = true := by decide
      exact this i hi
    rw [h3]
    by_cases q : c = i
    · subst q; simp
    · simp [q, show i ≠ c from fun e => q e.symm]
theorem set_bit {m c : Nat} (hm : m < 65536) (hc : c < 16) : ∃ m', m' < 65536 ∧ nI m ||| (nI 1 <<< (nI c &&& 31)) = nI m' ∧ ∀ i, i < 16 → m'.testBit i = (m.testBit i || decide (i = c)) := by
  have h1 : nI 1 <<< (nI c &&& 31) = nI (2 ^ c) := by
    have := pk_shlN (n := 1) (nI c &&& 31) c (by
      have : ∀ c, c < 32 → ((nI c &&& 31).toBitVec.smod 32).toNat = c := by decide
      exact this c (by omega)) (by
        have : 2 ^ c ≤ 2 ^ 15 := Nat.pow_le_pow_right (by omega) (by omega)
        omega)
    rw [Nat.one_mul] at this; exact this
  rw [h1, fa_or]
  have h3 : 2 ^ c < 2 ^ 16 := Nat.pow_lt_pow_right (by omega) hc
  refine ⟨m ||| 2 ^ c, Nat.or_lt_two_pow (n := 16) hm h3, rfl, ?_⟩
  intro i hi
  rw [Nat.testBit_or, Nat.testBit_two_pow]
  congr 1
  simp [eq_comm]
/-- hidden cards, behind a move: as before, but for the card that comes to be the last one -/
theorem hidB_carry {P : Pos} (ho : PosOk P) {f t n : Nat} (hf : f < 10) (ht : t < 10) (hft : f ≠ t) (hn : n ≤ (P.1 f).length) (hh : P.2.1 f + n ≤ (P.1 f).length) (c : Nat) :
    hidB (carryP P f t n) c = (hidB P c && decide ((P.1 f)[n]? ≠ some c)) := by
  have ho' := carryP_ok ho hft ht hn hh
  have ef : (carryP P f t n).1 f = (P.1 f).drop n := by simp [carryP]
  have et : t ≠ 8 → (carryP P f t n).1 t = (P.1 f).take n ++ P.1 t := by
    intro q; unfold carryP; dsimp only; rw [if_neg (fun e => hft e.symm), if_pos ⟨rfl, q⟩]
  have hf2 : (carryP P f t n).2.1 f = if 0 < (P.1 f).length - n ∧ (P.1 f).length - n ≤ P.2.1 f then (P.1 f).length - n - 1 else P.2.1 f := by
    unfold carryP; dsimp only; rw [if_pos rfl]
  have ho2 : ∀ q, q ≠ f → (carryP P f t n).2.1 q = P.2.1 q := by
    intro q h; unfold carryP; dsimp only; rw [if_neg h]
  by_cases hc : ∃ p, p < 5 ∧ c ∈ P.1 p
  · obtain ⟨p, hp, hcp⟩ := hc
    obtain ⟨k, hk, e2⟩ := List.getElem_of_mem hcp
    have hk2 : (P.1 p)[k]? = some c := by rw [List.getElem?_eq_getElem hk, e2]
    rw [hidB_at ho hp hk2]
    by_cases pf : p = f
    · subst pf
      by_cases kn : k < n
      · have h1 : ¬ (P.1 p).length - k ≤ P.2.1 p := by omega
        rw [decide_eq_false h1, Bool.false_and]
        have hct : c ∈ (P.1 p).take n := List.mem_of_getElem? (show ((P.1 p).take n)[k]? = some c by rw [List.getElem?_take_of_lt kn]; exact hk2)
        by_cases t8 : t = 8
        · unfold hidB
          rw [List.any_eq_false]
          intro q hq h
          have hq2 : c ∈ ((carryP P p t n).1 q).drop (((carryP P p t n).1 q).length - (carryP P p t n).2.1 q) := by simpa using h
          have hq3 := List.mem_of_mem_drop hq2
          by_cases qp : q = p
          · subst qp
            rw [ef] at hq3
            have hnd := ho.2.1 q
            rw [← List.take_append_drop n (P.1 q), List.nodup_append] at hnd
            exact hnd.2.2 c hct c hq3 rfl
          · simp only [carryP] at hq3
            rw [if_neg qp, if_neg (fun e => e.2 t8)] at hq3
            exact qp (ho.2.2.1 q p c hq3 hcp)
        · have e3 : ((carryP P p t n).1 t)[k]? = some c := by
            rw [et t8, List.getElem?_append_left (by rw [List.length_take]; omega), List.getElem?_take_of_lt kn]; exact hk2
          by_cases t5 : t < 5
          · rw [hidB_at ho' t5 e3]
            have := ho.2.2.2.2.1 t
            simp only [et t8, ho2 t (fun e => hft e.symm), List.length_append, List.length_take]
            apply decide_eq_false; omega
          · exact hidB_off ho' (by omega) (List.mem_of_getElem? e3)
      · have e3 : ((carryP P p t n).1 p)[k - n]? = some c := by
          rw [ef, List.getElem?_drop, show n + (k - n) = k by omega]; exact hk2
        rw [hidB_at ho' hp e3]
        simp only [ef, hf2, List.length_drop]
        have inj : (P.1 p)[n]? = some c ↔ k = n := by
          constructor
          · intro e; exact ((List.getElem?_inj hk (ho.2.1 p)).mp (hk2.trans e.symm))
          · intro e; subst e; exact hk2
        by_cases q : k = n
        · subst q
          simp only [hk2, ne_eq, not_true, decide_false, Bool.and_false]
          apply decide_eq_false
          split <;> omega
        · have : (P.1 p)[n]? ≠ some c := fun e => q (inj.mp e)
          simp only [this, ne_eq, not_false_eq_true, decide_true, Bool.and_true]
          congr 1
          simp only [eq_iff_iff]
          split <;> omega
    · have : (P.1 f)[n]? ≠ some c := fun e => pf (ho.2.2.1 p f c hcp (List.mem_of_getElem? e))
      simp only [this, ne_eq, not_false_eq_true, decide_true, Bool.and_true]
      by_cases pt : p = t
      · subst pt
        have p8 : p ≠ 8 := by omega
        have e3 : ((carryP P f p n).1 p)[n + k]? = some c := by
          rw [et p8, List.getElem?_append_right (by rw [List.length_take]; omega), List.length_take, show n + k - min n (P.1 f).length = k by omega]; exact hk2
        rw [hidB_at ho' hp e3]
        simp only [et p8, ho2 p pf, List.length_append, List.length_take]
        congr 1; simp only [eq_iff_iff]; omega
      · have e4 : (carryP P f t n).1 p = P.1 p := by
          simp only [carryP]; rw [if_neg pf, if_neg (fun e => pt e.1)]
        have e3 : ((carryP P f t n).1 p)[k]? = some c := by rw [e4]; exact hk2
        rw [hidB_at ho' hp e3]
        simp only [e4, ho2 p pf]
  · have hc : ∀ p, p < 5 → c ∉ P.1 p := fun p hp h => hc ⟨p, hp, h⟩
    have h1 : hidB P c = false := by
      unfold hidB
      rw [List.any_eq_false]
      intro q hq h
      have hq2 : c ∈ (P.1 q).drop ((P.1 q).length - P.2.1 q) := by simpa using h
      exact hc q (by simpa using hq) (List.mem_of_mem_drop hq2)
    rw [h1, Bool.false_and]
    unfold hidB
    rw [List.any_eq_false]
    intro q hq h
    have hq5 : q < 5 := by simpa using hq
    have hq2 : c ∈ ((carryP P f t n).1 q).drop (((carryP P f t n).1 q).length - (carryP P f t n).2.1 q) := by simpa using h
    have hq3 := List.mem_of_mem_drop hq2
    by_cases qf : q = f
    · subst qf; rw [ef] at hq3; exact hc q hq5 (List.mem_of_mem_drop hq3)
    · by_cases qt : q = t ∧ t ≠ 8
      · have e5 : (carryP P f t n).1 q = (P.1 f).take n ++ P.1 t := by simp only [carryP]; rw [if_neg qf, if_pos qt]
        have e6 : (carryP P f t n).2.1 q = P.2.1 q := by simp only [carryP]; rw [if_neg qf]
        rw [e5, e6, List.length_append, List.length_take] at hq2
        have h7 := ho.2.2.2.2.1 t
        rw [qt.1] at hq2
        rw [List.drop_append, List.length_take] at hq2
        have h8 : ((P.1 f).take n).drop (min n (P.1 f).length + (P.1 t).length - P.2.1 t) = [] := List.drop_eq_nil_of_le (by rw [List.length_take]; omega)
        rw [h8, List.nil_append] at hq2
        rw [← qt.1] at hq2
        exact hc q hq5 (List.mem_of_mem_drop hq2)
      · have e5 : (carryP P f t n).1 q = P.1 q := by simp only [carryP]; rw [if_neg qf, if_neg qt]
        rw [e5] at hq3; exact hc q hq5 hq3
end
section
/-! ===== the class's table: carry ===== -/
theorem s_topOf_raw {T : Nat → Nat → Int32} {p : Nat} (hp : p < 10) : F_X4_topOf T (nI p) = some (T 2 p) := by
  unfold F_X4_topOf
  simp (disch := omega) only [nI_ltI, nI_leI, nI_eq, nI_clamp, nI_add, pk_mul, pk_sub, pk_div, pk_rem, sdm, rdA_n, wrA_n, wrJ_n, wr1_n, bnd_s, nz_n, zb0, zb1, zb_bi, cal1_s, cal2_s, cal3_s, cal4_s, cal5_s, cal6_s, nI_negone, negone_nI, negone_lt0, negone_le, bi_eq0, bi_eq1, if_true, if_false, eq_self, Nat.lt_irrefl, Nat.le_refl, show ¬ p < 0 by omega, show ¬ 10 ≤ p by omega]
theorem s_layOn {T : Nat → Nat → Int32} {b a t : Nat} (hb : b < 16) (ht : t < 10) {x : Int32} (hx : x = if T 2 t = -1 then nI (floorN t) else T 2 t) : F_X4_layOn T (nI b) (nI a) (nI t) = some (if t = 8 then st2 T 1 b x else st2 (st2 T 1 b x) 2 t (nI a)) := by
  unfold F_X4_layOn F_X4_layOn_b27
  rw [s_topOf_raw ht, cal1_s, s_floorOf ht]
  by_cases q : T 2 t = -1
  · rw [if_pos q] at hx ⊢
    subst hx
    rw [cal1_s, s_put (by omega) hb, cal1_s, bnd_s, setc_upd]
    by_cases t8 : t = 8
    · subst t8; rw [if_pos rfl, if_pos rfl]
    · rw [if_neg (by rw [nI_eq (by omega) (by omega)]; exact t8), if_neg t8, s_put (by omega) ht, cal1_s, bnd_s, setc_upd]
  · rw [if_neg q] at hx ⊢
    subst hx
    rw [s_put (by omega) hb, cal1_s, bnd_s, setc_upd]
    by_cases t8 : t = 8
    · subst t8; rw [if_pos rfl, if_pos rfl]
    · rw [if_neg (by rw [nI_eq (by omega) (by omega)]; exact t8), if_neg t8, s_put (by omega) ht, cal1_s, bnd_s, setc_upd]
theorem topI_cases {l : List Nat} (h : ∀ c ∈ l, c < 16) (fl : Nat) : (if topI l = -1 then nI fl else topI l) = nI (l.headD fl) := by
  cases l with
  | nil => rfl
  | cons d r =>
    have := h d (by simp)
    rw [if_neg (by show ¬ nI d = -1; rw [nI_negone (by omega)]; exact id)]; rfl
theorem s_carry {T : Nat → Nat → Int32} {P : Pos} (h : TRep T P) (ho : PosOk P) {f t n : Nat} (hf : f < 10) (ht : t < 10) (hft : f ≠ t) (hn1 : 1 ≤ n) (hn : n ≤ (P.1 f).length) (hh : P.2.1 f + n ≤ (P.1 f).length) (h8 : t = 8 → n = 1) :
    ∃ T', F_X4_carry T (nI f) (nI t) (nI n) = some T' ∧ TRep T' (carryP P f t n) := by
  have hl := ho.len f
  have hb : (P.1 f)[n - 1]? = some (P.1 f)[n - 1] := List.getElem?_eq_getElem (by omega)
  generalize (P.1 f)[n - 1] = b at hb
  have hb16 := ho.1 f b (List.mem_of_getElem? hb)
  have ha : (P.1 f)[0]? = some (P.1 f)[0] := List.getElem?_eq_getElem (by omega)
  generalize (P.1 f)[0] = a at ha
  have ha16 := ho.1 f a (List.mem_of_getElem? ha)
  have hd16 : ∀ d, (P.1 f)[n]? = some d → d < 16 := fun d e => ho.1 f d (List.mem_of_getElem? e)
  obtain ⟨m, hm, em, hb5⟩ := h.2.2.1
  unfold F_X4_carry F_X4_carry_b58
  rw [pk_sub hn1, s_fromTop h ho hf (by omega), cal1_s, hb, optI_some, s_topOf h hf, cal1_s, topI_opt, ha, optI_some, s_under h ho hb, cal1_s, show n - 1 + 1 = n by omega, s_put (by omega) hf, cal1_s, bnd_s, setc_upd]
  have step : ∀ (T1 : Nat → Nat → Int32) (m' : Nat), m' < 65536 → T1 0 5 = nI m' → (∀ c, c < 16 → m'.testBit c = (m.testBit c && decide ((P.1 f)[n]? ≠ some c))) → T1 0 6 = T 0 6 → (∀ i, T1 1 i = T 1 i) → (∀ i, T1 2 i = if i = f then optI (P.1 f)[n]? else T 2 i) →
      ∃ T', (cal1 (F_X4_layOn T1 (nI b) (nI a) (nI t)) fun T_0u1 => some T_0u1) = some T' ∧ TRep T' (carryP P f t n) := by
    intro T1 m' hm' e5 hb5' e6 e1 e2
    have e2t : T1 2 t = topI (P.1 t) := by rw [e2, if_neg (fun e => hft e.symm)]; exact h.1 t ht
    have hx : nI ((P.1 t).headD (floorN t)) = if T1 2 t = -1 then nI (floorN t) else T1 2 t := by rw [e2t, topI_cases (ho.1 t)]
    rw [s_layOn hb16 ht hx, cal1_s]
    refine ⟨_, rfl, ?_, ?_, ?_, ?_, h.2.2.2.2⟩
    · intro p hp
      by_cases pf : p = f
      · subst pf
        have e : (if t = 8 then st2 T1 1 b (nI ((P.1 t).headD (floorN t))) else st2 (st2 T1 1 b (nI ((P.1 t).headD (floorN t)))) 2 t (nI a)) 2 p = T1 2 p := by
          split <;> simp [st2_s, hft]
        rw [e, e2, if_pos rfl]
        have e4 : (carryP P p t n).1 p = (P.1 p).drop n := by simp [carryP]
        rw [e4, topI_opt, List.getElem?_drop]; rfl
      · by_cases pt : p = t ∧ t ≠ 8
        · obtain ⟨p1, p2⟩ := pt
          subst p1
          rw [if_neg p2]
          have e4 : (carryP P f p n).1 p = (P.1 f).take n ++ P.1 p := by unfold carryP; dsimp only; rw [if_neg pf, if_pos ⟨rfl, p2⟩]
          rw [e4, topI_opt, List.getElem?_append_left (by rw [List.length_take]; omega), List.getElem?_take_of_lt (by omega), ha]
          simp [st2_s, optI_some]
        · have e4 : (carryP P f t n).1 p = P.1 p := by unfold carryP; dsimp only; rw [if_neg pf, if_neg pt]
          have e : (if t = 8 then st2 T1 1 b (nI ((P.1 t).headD (floorN t))) else st2 (st2 T1 1 b (nI ((P.1 t).headD (floorN t)))) 2 t (nI a)) 2 p = T1 2 p := by
            by_cases t8 : t = 8
            · rw [if_pos t8]; simp [st2_s]
            · rw [if_neg t8]
              have : p ≠ t := fun e => pt ⟨e, t8⟩
              simp [st2_s, this]
          rw [e, e2, if_neg pf, e4]; exact h.1 p hp
    · intro c hc
      rw [onN_carry ho hf ht hft hn1 hn hh h8 hb c]
      have e : (if t = 8 then st2 T1 1 b (nI ((P.1 t).headD (floorN t))) else st2 (st2 T1 1 b (nI ((P.1 t).headD (floorN t)))) 2 t (nI a)) 1 c = if c = b then nI ((P.1 t).headD (floorN t)) else T1 1 c := by
        split <;> simp [st2_s]
      rw [e]
      by_cases q : c = b
      · rw [if_pos q, if_pos q]
      · rw [if_neg q, if_neg q, e1]; exact h.2.1 c hc
    · refine ⟨m', hm', ?_, ?_⟩
      · rw [← e5]; split <;> simp [st2_s]
      · intro c hc
        rw [hidB_carry ho hf ht hft hn hh c, hb5' c hc, hb5 c hc]
    · show _ = nI P.2.2.2
      rw [← h.2.2.2.1, ← e6]; split <;> simp [st2_s]
  cases hd : (P.1 f)[n]? with
  | none =>
    rw [optI_none, s_isCard_none, cal1_s, if_pos (by rfl)]
    refine step _ m hm (by simp only [st2_s]; simpa using em) (fun c _ => by rw [hd]; simp) (by simp [st2_s]) (by simp [st2_s]) (by intro i; rw [hd]; simp [st2_s, optI_none])
  | some d =>
    have hd' := hd16 d hd
    rw [optI_some, s_isCard (by omega), cal1_s, if_neg (by rw [bi_eq0]; simp [hd']), bnd_s]
    have e5 : st2 T 2 f (nI d) 0 5 = nI m := by rw [st2_s, if_neg (by omega)]; exact em
    rw [e5]
    obtain ⟨m', h1, h2, h3⟩ := clr_bit hm hd'
    rw [h2]
    refine step _ m' h1 (by simp [st2_s]) (fun c hc => by rw [h3 c hc, hd]; congr 1; simp [eq_comm]) (by simp [st2_s]) (by simp [st2_s]) (by intro i; rw [hd]; simp [st2_s, optI_some])
end
section
/-! ===== the class's table: turnOver, play; a move keeps what is asked of a position ===== -/
def turnP (P : Pos) : Pos := (fun p => if p = 9 then (P.1 7).reverse ++ P.1 9 else if p = 7 then [] else P.1 p, P.2.1, P.2.2.1, P.2.2.2 + 1)
def playP (R : Nat → Nat) (P : Pos) (f t n : Nat) : Pos :=
  if f = 9 then (if (P.1 9).isEmpty = true then turnP P else carryP P 9 7 1)
  else ((carryP P f t n).1, (carryP P f t n).2.1, (if t = 8 then fun s => if s = (P.1 f).headD 0 / R 1 then P.2.2.1 s + 1 else P.2.2.1 s else P.2.2.1), P.2.2.2)
theorem carry_hid5 {P : Pos} (ho : PosOk P) {f t n : Nat} (hf : 5 ≤ f) : (carryP P f t n).2.1 = P.2.1 := by
  funext p
  unfold carryP; dsimp only
  by_cases q : p = f
  · subst q; rw [if_pos rfl, ho.2.2.2.2.2 p hf, if_neg (by omega)]
  · rw [if_neg q]
theorem s_turnOver_L {k : Nat} : ∀ (T : Nat → Nat → Int32) (P : Pos) (g n : Nat), TRep T P → PosOk P → (P.1 7).length = k → k + g ≤ 16 → k < n → P.2.2.2 < 2 → ∃ T', F_X4_turnOver_L2 n T (nI g) = some T' ∧ TRep T' (turnP P) := by
  induction k with
  | zero =>
    intro T P g n h ho hk hg hn ht
    obtain ⟨n, rfl⟩ : ∃ m, n = m + 1 := ⟨n - 1, by omega⟩
    have e7 : P.1 7 = [] := List.length_eq_zero_iff.mp hk
    have fin : ∃ T', F_X4_turnOver_b33 T = some T' ∧ TRep T' (turnP P) := by
      unfold F_X4_turnOver_b33
      rw [bnd_s, h.2.2.2.1, nI_add]
      refine ⟨_, rfl, ?_⟩
      have e1 : (turnP P).1 = P.1 := by
        funext p; unfold turnP; dsimp only
        by_cases q : p = 9
        · subst q; rw [if_pos rfl, e7]; rfl
        · rw [if_neg q]
          by_cases q2 : p = 7
          · subst q2; rw [if_pos rfl, e7]
          · rw [if_neg q2]
      refine ⟨fun p hp => ?_, fun c hc => ?_, ?_, ?_, ?_⟩
      · rw [e1]; simpa [st2_s] using h.1 p hp
      · have : onN (turnP P) c = onN P c := by unfold onN; rw [e1]
        rw [this]; simpa [st2_s] using h.2.1 c hc
      · obtain ⟨m, h1, h2, h3⟩ := h.2.2.1
        refine ⟨m, h1, by simpa [st2_s] using h2, fun c hc => ?_⟩
        rw [h3 c hc]; unfold hidB; rw [e1]; rfl
      · simp [st2_s, turnP]
      · show P.2.2.2 + 1 ≤ 2; omega
    show ∃ T', F_X4_turnOver_s2 (F_X4_turnOver_L2 n) T (nI g) = some T' ∧ _
    unfold F_X4_turnOver_s2
    by_cases q : 16 ≤ g
    · rw [if_pos (nI_le q (by omega))]; exact fin
    · rw [if_neg (nI_ge (by omega) (by omega)), s_topOf h (by omega), cal1_s, e7, show topI [] = (-1 : Int32) from rfl, if_pos rfl]; exact fin
  | succ k ih =>
    intro T P g n h ho hk hg hn ht
    obtain ⟨n, rfl⟩ : ∃ m, n = m + 1 := ⟨n - 1, by omega⟩
    show ∃ T', F_X4_turnOver_s2 (F_X4_turnOver_L2 n) T (nI g) = some T' ∧ _
    unfold F_X4_turnOver_s2
    have hne : P.1 7 ≠ [] := fun e => by rw [e] at hk; simp at hk
    have h70 : P.2.1 7 = 0 := ho.2.2.2.2.2 7 (by omega)
    rw [if_neg (nI_ge (by omega) (by omega)), s_topOf h (by omega), cal1_s, if_neg (fun e => by rw [topI_neg1 _ (ho.1 7)] at e; exact hne (List.isEmpty_iff.mp e))]
    obtain ⟨T1, e1, h1⟩ := s_carry h ho (f := 7) (t := 9) (n := 1) (by omega) (by omega) (by omega) (by omega) (by omega) (by omega) (by omega)
    rw [e1, cal1_s, nI_add]
    have ho1 := carryP_ok ho (f := 7) (t := 9) (n := 1) (by omega) (by omega) (by omega) (by omega)
    have e7 : (carryP P 7 9 1).1 7 = (P.1 7).drop 1 := by simp [carryP]
    have e9 : (carryP P 7 9 1).1 9 = (P.1 7).take 1 ++ P.1 9 := by simp [carryP]
    obtain ⟨T', e2, h2⟩ := ih T1 (carryP P 7 9 1) (g + 1) n h1 ho1 (by rw [e7, List.length_drop]; omega) (by omega) (by omega) ht
    refine ⟨T', e2, ?_⟩
    have e3 : turnP (carryP P 7 9 1) = turnP P := by
      unfold turnP
      rw [carry_hid5 ho (by omega), e7, e9]
      refine Prod.ext ?_ rfl
      funext p
      dsimp only
      by_cases q : p = 9
      · rw [if_pos q, if_pos q]
        cases hc : P.1 7 with
        | nil => exact absurd hc hne
        | cons c w => simp
      · rw [if_neg q, if_neg q]
        by_cases q2 : p = 7
        · rw [if_pos q2, if_pos q2]
        · rw [if_neg q2, if_neg q2]
          unfold carryP; dsimp only
          rw [if_neg q2, if_neg (fun e => q e.1)]
    rw [← e3]; exact h2
theorem s_turnOver {T : Nat → Nat → Int32} {P : Pos} (h : TRep T P) (ho : PosOk P) (ht : P.2.2.2 < 2) : ∃ T', F_X4_turnOver T = some T' ∧ TRep T' (turnP P) := by
  have := ho.len 7
  exact s_turnOver_L T P 0 FU h ho rfl (by omega) (FU_gt (by omega)) ht
theorem legal_facts {R : Nat → Nat} {P : Pos} (ho : PosOk P) {f t n : Nat} (hn : 1 ≤ n) (h1 : n = 1 ∨ (f < 5 ∧ t < 5)) (h9 : f ≠ 9) (h : legal R P f t n = true) :
    f < 10 ∧ f ≠ 8 ∧ f ≠ t ∧ (t < 7 ∨ t = 8) ∧ n ≤ (P.1 f).length ∧ P.2.1 f + n ≤ (P.1 f).length ∧ P.1 f ≠ [] := by
  have hft : f ≠ t := fun e => by subst e; exact h9 (legal_same ho h)
  have h' := h
  unfold legal at h
  rw [if_neg h9] at h
  cases e : P.1 f with
  | nil => rw [e] at h; cases h
  | cons c l =>
    rw [e] at h
    dsimp only at h
    have hp := ho.place (show c ∈ P.1 f by rw [e]; simp)
    have hh := hid_lt ho (show P.1 f ≠ [] by rw [e]; simp)
    rw [e] at hh
    refine ⟨hp.1, hp.2, hft, ?_, ?_, ?_, by simp⟩
    · by_cases t8 : t = 8
      · exact Or.inr t8
      · rw [if_neg t8] at h
        by_cases t56 : t = 5 ∨ t = 6
        · omega
        · rw [if_neg t56] at h
          by_cases t5 : t < 5
          · omega
          · rw [if_neg t5] at h; cases h
    · rcases h1 with q | q
      · subst q; simp
      · have := legal_run ho q.1 q.2 hn h'
        have h3 := runLen_le R (P.2.1 f) (P.1 f)
        rw [e] at this h3; omega
    · rcases h1 with q | q
      · subst q; omega
      · have h2 : isRun R (c :: l) (P.2.1 f) n = true := by
          rw [if_neg (by omega), if_neg (by omega), if_pos q.2] at h
          simp only [Bool.and_eq_true, q.1, if_true] at h
          exact h.2.2.1
        unfold isRun at h2
        simp only [Bool.and_eq_true, decide_eq_true_eq] at h2
        exact h2.1
theorem s_play {T : Nat → Nat → Int32} {R : Nat → Nat} {P : Pos} (h : TRep T P) (w : WF R P) (hR : RulesOk R) {f t n : Nat} (hf : f < 10) (ht : t < 9) (hn : 1 ≤ n) (hn16 : n ≤ 16) (h1 : n = 1 ∨ (f < 5 ∧ t < 5)) (hl : legal R P f t n = true) :
    ∃ T', F_X4_play T (nI (codeN f t n)) = some T' ∧ TRep T' (playP R P f t n) := by
  have ho := w.1
  have c1 : codeN f t n / 1000 = f := by unfold codeN; omega
  have c2 : codeN f t n / 100 = 10 * f + t := by unfold codeN; omega
  have c3 : codeN f t n % 100 = n := by unfold codeN; omega
  have cb : codeN f t n < 10000 := by unfold codeN; omega
  unfold F_X4_play
  rw [nz_n _ (by omega) (by omega), nz_n _ (by omega) (by omega), nz_n _ (by omega) (by omega), nz_n _ (by omega) (by omega)]
  rw [pk_div (by omega) (by omega) (by omega), pk_div (by omega) (by omega) (by omega), c1, c2, pk_rem (by omega) (by omega) (by omega), show (10 * f + t) % 10 = t by omega]
  by_cases f9 : f = 9
  · subst f9
    rw [if_pos rfl, s_topOf h (by omega), cal1_s]
    have hl2 := hl
    unfold legal at hl2
    rw [if_pos rfl] at hl2
    simp only [Bool.and_eq_true, decide_eq_true_eq, Bool.or_eq_true] at hl2
    unfold playP
    rw [if_pos rfl]
    by_cases q : (P.1 9).isEmpty = true
    · rw [if_pos ((topI_neg1 _ (ho.1 9)).mpr q), if_pos q]
      have htu : P.2.2.2 < 2 := by
        rcases hl2.2 with z | z
        · rw [q] at z; cases z
        · have := hR.2.2.2.2.2.2.2.2.2.2.2.2.2.1; omega
      obtain ⟨T', e, h'⟩ := s_turnOver h ho htu
      exact ⟨T', by rw [e, cal1_s], h'⟩
    · rw [if_neg (fun z => q ((topI_neg1 _ (ho.1 9)).mp z)), if_neg q]
      have hlen : 1 ≤ (P.1 9).length := by
        cases e : P.1 9 with
        | nil => rw [e] at q; exact absurd rfl q
        | cons => simp
      obtain ⟨T', e, h'⟩ := s_carry h ho (f := 9) (t := 7) (n := 1) (by omega) (by omega) (by omega) (by omega) hlen (by rw [ho.2.2.2.2.2 9 (by omega)]; omega) (by omega)
      exact ⟨T', by rw [e, cal1_s], h'⟩
  · rw [if_neg (by rw [nI_eq (by omega) (by omega)]; exact f9)]
    have e0 : nI (codeN f t n) - nI (10 * f + t) * nI 100 = nI n := by
      rw [pk_mul, pk_sub (by unfold codeN; omega)]; congr 1; unfold codeN; omega
    rw [e0]
    obtain ⟨-, hf8, hft, ht2, hlen, hh, -⟩ := legal_facts ho hn h1 f9 hl
    obtain ⟨T', e, h'⟩ := s_carry h ho hf (by omega) hft hn hlen hh (fun z => by omega)
    refine ⟨T', by rw [e, cal1_s], ?_⟩
    unfold playP
    rw [if_neg f9]
    exact h'
end
section
/-! ===== what is asked of a position holds behind a move ===== -/
theorem turnP_ok {P : Pos} (ho : PosOk P) : PosOk (turnP P) := by
  have mem : ∀ p c, c ∈ (turnP P).1 p → (p = 9 ∧ (c ∈ P.1 7 ∨ c ∈ P.1 9)) ∨ (p ≠ 9 ∧ p ≠ 7 ∧ c ∈ P.1 p) := by
    intro p c hc
    unfold turnP at hc; dsimp only at hc
    by_cases q : p = 9
    · rw [if_pos q, List.mem_append, List.mem_reverse] at hc; exact Or.inl ⟨q, hc⟩
    · rw [if_neg q] at hc
      by_cases q2 : p = 7
      · rw [if_pos q2] at hc; cases hc
      · rw [if_neg q2] at hc; exact Or.inr ⟨q, q2, hc⟩
  refine ⟨?_, ?_, ?_, ?_, ?_, ?_⟩
  · intro p c hc
    rcases mem p c hc with ⟨-, q | q⟩ | ⟨-, -, q⟩ <;> exact ho.1 _ c q
  · intro p
    unfold turnP; dsimp only
    by_cases q : p = 9
    · rw [if_pos q, List.nodup_append]
      refine ⟨(List.reverse_perm (P.1 7)).symm.nodup (ho.2.1 7), ho.2.1 9, ?_⟩
      intro a ha b hb e
      subst e
      have := ho.2.2.1 7 9 a (List.mem_reverse.mp ha) hb
      omega
    · rw [if_neg q]
      by_cases q2 : p = 7
      · rw [if_pos q2]; exact List.nodup_nil
      · rw [if_neg q2]; exact ho.2.1 p
  · intro p q c hp hq
    rcases mem p c hp with ⟨p1, p2⟩ | ⟨p1, p2, p3⟩ <;> rcases mem q c hq with ⟨q1, q2⟩ | ⟨q1, q2, q3⟩
    · omega
    · rcases p2 with z | z
      · exact absurd (ho.2.2.1 q 7 c q3 z) q2
      · exact absurd (ho.2.2.1 q 9 c q3 z) q1
    · rcases q2 with z | z
      · exact absurd (ho.2.2.1 p 7 c p3 z) p2
      · exact absurd (ho.2.2.1 p 9 c p3 z) p1
    · exact ho.2.2.1 p q c p3 q3
  · intro p hp
    unfold turnP; dsimp only
    rw [if_neg (by omega)]
    by_cases q2 : p = 7
    · rw [if_pos q2]
    · rw [if_neg q2]; exact ho.2.2.2.1 p hp
  · intro p
    unfold turnP; dsimp only
    have h1 := ho.2.2.2.2.1 p
    have h2 := ho.2.2.2.2.2 p
    rcases h1 with z | z
    · exact Or.inl z
    · by_cases q : p = 9
      · exact Or.inl (h2 (by omega))
      · by_cases q2 : p = 7
        · exact Or.inl (h2 (by omega))
        · right; rw [if_neg q, if_neg q2]; exact z
  · exact ho.2.2.2.2.2
theorem div_unique {d a b : Nat} (h1 : a / d = b / d) (h2 : a % d = b % d) : a = b := by
  have h3 := Nat.div_add_mod a d
  have h4 := Nat.div_add_mod b d
  rw [h1, h2] at h3
  omega
theorem div_lt_R {R : Nat → Nat} {c : Nat} (hc : c < R 0 * R 1) : c / R 1 < R 0 := Nat.div_lt_of_lt_mul (by rw [Nat.mul_comm]; exact hc)
theorem wf_play {R : Nat → Nat} {P : Pos} (w : WF R P) (hR : RulesOk R) {f t n : Nat} (hn : 1 ≤ n) (h1 : n = 1 ∨ (f < 5 ∧ t < 5)) (hl : legal R P f t n = true) : WF R (playP R P f t n) := by
  have ho := w.1
  by_cases f9 : f = 9
  · subst f9
    have hl2 := hl
    unfold legal at hl2
    rw [if_pos rfl] at hl2
    simp only [Bool.and_eq_true, decide_eq_true_eq, Bool.or_eq_true] at hl2
    unfold playP
    rw [if_pos rfl]
    by_cases q : (P.1 9).isEmpty = true
    · rw [if_pos q]
      have e9 := List.isEmpty_iff.mp q
      have htu : P.2.2.2 < R 7 := by
        rcases hl2.2 with z | z
        · rw [q] at z; cases z
        · exact z.2
      have e : ∀ p, p ≠ 9 → p ≠ 7 → (turnP P).1 p = P.1 p := by
        intro p h9 h7; unfold turnP; dsimp only; rw [if_neg h9, if_neg h7]
      have e9' : (turnP P).1 9 = (P.1 7).reverse := by unfold turnP; dsimp only; rw [if_pos rfl, e9, List.append_nil]
      have e7' : (turnP P).1 7 = [] := rfl
      refine ⟨turnP_ok ho, ?_, ?_, ?_, ?_, w.2.2.2.2.2.1, w.2.2.2.2.2.2.1, ?_, ?_⟩
      · intro p hp hp2; rw [e p (by omega) (by omega)]; exact w.2.1 p hp hp2
      · intro k hk; rw [e _ (by omega) (by omega)]; exact w.2.2.1 k hk
      · intro p c hc
        by_cases p9 : p = 9
        · subst p9; rw [e9', List.mem_reverse] at hc; exact w.2.2.2.1 7 c hc
        · by_cases p7 : p = 7
          · subst p7; rw [e7'] at hc; cases hc
          · rw [e p p9 p7] at hc; exact w.2.2.2.1 p c hc
      · intro c hc hc2
        obtain ⟨p, hp⟩ := w.2.2.2.2.1 c hc hc2
        by_cases p9 : p = 9
        · subst p9; rw [e9] at hp; cases hp
        · by_cases p7 : p = 7
          · subst p7; exact ⟨9, by rw [e9', List.mem_reverse]; exact hp⟩
          · exact ⟨p, by rw [e p p9 p7]; exact hp⟩
      · rw [e9', e7', List.length_reverse]
        have := w.2.2.2.2.2.2.2.1
        simp only [List.length_nil]; omega
      · show P.2.2.2 + 1 ≤ R 7; omega
    · rw [if_neg q]
      have hlen : 1 ≤ (P.1 9).length := by
        cases e : P.1 9 with
        | nil => rw [e] at q; exact absurd rfl q
        | cons => simp
      have e : ∀ p, p ≠ 9 → p ≠ 7 → (carryP P 9 7 1).1 p = P.1 p := by
        intro p h9 h7; unfold carryP; dsimp only; rw [if_neg h9, if_neg (fun z => h7 z.1)]
      have e9' : (carryP P 9 7 1).1 9 = (P.1 9).drop 1 := by simp [carryP]
      have e7' : (carryP P 9 7 1).1 7 = (P.1 9).take 1 ++ P.1 7 := by simp [carryP]
      refine ⟨carryP_ok ho (by omega) (by omega) hlen (by rw [ho.2.2.2.2.2 9 (by omega)]; omega), ?_, ?_, ?_, ?_, w.2.2.2.2.2.1, w.2.2.2.2.2.2.1, ?_, w.2.2.2.2.2.2.2.2⟩
      · intro p hp hp2; rw [e p (by omega) (by omega)]; exact w.2.1 p hp hp2
      · intro k hk; rw [e _ (by omega) (by omega)]; exact w.2.2.1 k hk
      · intro p c hc
        by_cases p9 : p = 9
        · subst p9; rw [e9'] at hc; exact w.2.2.2.1 9 c (List.mem_of_mem_drop hc)
        · by_cases p7 : p = 7
          · subst p7; rw [e7', List.mem_append] at hc
            rcases hc with z | z
            · exact w.2.2.2.1 9 c (List.mem_of_mem_take z)
            · exact w.2.2.2.1 7 c z
          · rw [e p p9 p7] at hc; exact w.2.2.2.1 p c hc
      · intro c hc hc2
        obtain ⟨p, hp⟩ := w.2.2.2.2.1 c hc hc2
        by_cases p9 : p = 9
        · subst p9
          rw [← List.take_append_drop 1 (P.1 9), List.mem_append] at hp
          rcases hp with z | z
          · exact ⟨7, by rw [e7', List.mem_append]; exact Or.inl z⟩
          · exact ⟨9, by rw [e9']; exact z⟩
        · by_cases p7 : p = 7
          · subst p7; exact ⟨7, by rw [e7', List.mem_append]; exact Or.inr hp⟩
          · exact ⟨p, by rw [e p p9 p7]; exact hp⟩
      · rw [e9', e7', List.length_append, List.length_take, List.length_drop]
        have := w.2.2.2.2.2.2.2.1
        omega
  · obtain ⟨hf, hf8, hft, ht2, hlen, hh, hne⟩ := legal_facts ho hn h1 f9 hl
    have ht8 : t = 8 → n = 1 := fun z => by omega
    unfold playP
    rw [if_neg f9]
    have ef : (carryP P f t n).1 f = (P.1 f).drop n := by simp [carryP]
    have et : t ≠ 8 → (carryP P f t n).1 t = (P.1 f).take n ++ P.1 t := by
      intro q; unfold carryP; dsimp only; rw [if_neg (fun e => hft e.symm), if_pos ⟨rfl, q⟩]
    have eo : ∀ p, p ≠ f → (p ≠ t ∨ t = 8) → (carryP P f t n).1 p = P.1 p := by
      intro p q1 q2; unfold carryP; dsimp only; rw [if_neg q1, if_neg (fun e => by omega)]
    have hok := carryP_ok ho hft (by omega) hlen hh
    cases ec : P.1 f with
    | nil => exact absurd ec hne
    | cons c0 l =>
    have hc0 : c0 ∈ P.1 f := by rw [ec]; simp
    have hw0 := w.2.2.2.1 f c0 hc0
    have hl2 := hl
    unfold legal at hl2
    rw [if_neg f9, ec] at hl2
    dsimp only at hl2
    have hup : t = 8 → c0 % R 1 = P.2.2.1 (c0 / R 1) := by
      intro z; rw [if_pos z] at hl2; simpa using hl2
    have hm := mod_lt1 hR c0
    refine ⟨hok, ?_, ?_, ?_, ?_, ?_, ?_, ?_, w.2.2.2.2.2.2.2.2⟩
    · intro p hp hp2
      by_cases pf : p = f
      · subst pf; exact absurd (w.2.1 p hp hp2) hne
      · by_cases pt : p = t
        · subst pt
          rw [if_neg (by omega), if_neg (by omega), if_pos hp] at hl2
          simp only [Bool.and_eq_true, decide_eq_true_eq] at hl2
          omega
        · show (carryP P f t n).1 p = []
          rw [eo p pf (Or.inl pt)]; exact w.2.1 p hp hp2
    · intro k hk
      have hwk := w.2.2.1 k hk
      show ((carryP P f t n).1 (5 + k)).length ≤ 1 ∧ (R 3 ≤ k → (carryP P f t n).1 (5 + k) = [])
      by_cases pf : 5 + k = f
      · rw [pf, ef, List.length_drop]
        rw [pf] at hwk
        exact ⟨by omega, fun z => absurd (hwk.2 z) hne⟩
      · by_cases pt : 5 + k = t
        · have n1 : n = 1 := by omega
          rw [if_neg (by omega), if_pos (by omega)] at hl2
          simp only [Bool.and_eq_true, decide_eq_true_eq] at hl2
          rw [pt, et (by omega), List.length_append, List.length_take, List.isEmpty_iff.mp hl2.2.2]
          refine ⟨by simp only [List.length_nil]; omega, fun z => by omega⟩
        · rw [eo _ pf (Or.inl pt)]; exact hwk
    · intro p c hc
      replace hc : c ∈ (carryP P f t n).1 p := hc
      have hold : ∃ q, c ∈ P.1 q ∧ (t = 8 → c ≠ c0) := by
        by_cases pf : p = f
        · subst pf
          rw [ef] at hc
          refine ⟨p, List.mem_of_mem_drop hc, fun z e => ?_⟩
          have n1 := ht8 z
          subst n1; subst e
          rw [ec] at hc
          have := ho.2.1 p
          rw [ec, List.nodup_cons] at this
          exact this.1 (by simpa using hc)
        · by_cases pt : p = t ∧ t ≠ 8
          · rw [pt.1, et pt.2, List.mem_append] at hc
            rcases hc with z | z
            · exact ⟨f, List.mem_of_mem_take z, fun y => absurd y pt.2⟩
            · exact ⟨t, z, fun y => absurd y pt.2⟩
          · rw [eo p pf (by omega)] at hc
            exact ⟨p, hc, fun z e => pf (ho.2.2.1 p f c hc (e ▸ hc0))⟩
      obtain ⟨q, hq, hne2⟩ := hold
      have hwq := w.2.2.2.1 q c hq
      refine ⟨hwq.1, ?_⟩
      show (if t = 8 then fun s => if s = (c0 :: l).headD 0 / R 1 then P.2.2.1 s + 1 else P.2.2.1 s else P.2.2.1) (c / R 1) ≤ c % R 1
      by_cases t8 : t = 8
      · rw [if_pos t8]
        show (if c / R 1 = c0 / R 1 then P.2.2.1 (c / R 1) + 1 else P.2.2.1 (c / R 1)) ≤ c % R 1
        by_cases e : c / R 1 = c0 / R 1
        · rw [if_pos e]
          have h2 := hup t8
          rw [← e] at h2
          have : c % R 1 ≠ c0 % R 1 := fun z => hne2 t8 (div_unique e z)
          omega
        · rw [if_neg e]; exact hwq.2
      · rw [if_neg t8]; exact hwq.2
    · intro c hc hc2
      have hc2 : (if t = 8 then fun s => if s = (c0 :: l).headD 0 / R 1 then P.2.2.1 s + 1 else P.2.2.1 s else P.2.2.1) (c / R 1) ≤ c % R 1 := hc2
      have hle : P.2.2.1 (c / R 1) ≤ c % R 1 := by
        by_cases t8 : t = 8
        · rw [if_pos t8] at hc2
          have hc2 : (if c / R 1 = c0 / R 1 then P.2.2.1 (c / R 1) + 1 else P.2.2.1 (c / R 1)) ≤ c % R 1 := hc2
          split at hc2 <;> omega
        · rw [if_neg t8] at hc2; exact hc2
      obtain ⟨p, hp⟩ := w.2.2.2.2.1 c hc hle
      show ∃ p, c ∈ (carryP P f t n).1 p
      by_cases pf : p = f
      · subst pf
        have hp2 := hp
        rw [← List.take_append_drop n (P.1 p), List.mem_append] at hp
        rcases hp with z | z
        · by_cases t8 : t = 8
          · have n1 := ht8 t8
            subst n1
            rw [ec] at z
            have e : c = c0 := by simpa using z
            subst e
            rw [if_pos t8] at hc2
            have hc2 : (if c / R 1 = c / R 1 then P.2.2.1 (c / R 1) + 1 else P.2.2.1 (c / R 1)) ≤ c % R 1 := hc2
            rw [if_pos rfl, hup t8] at hc2
            omega
          · exact ⟨t, by rw [et t8, List.mem_append]; exact Or.inl z⟩
        · exact ⟨p, by rw [ef]; exact z⟩
      · by_cases pt : p = t ∧ t ≠ 8
        · exact ⟨t, by rw [et pt.2, List.mem_append]; exact Or.inr (pt.1 ▸ hp)⟩
        · exact ⟨p, by rw [eo p pf (by omega)]; exact hp⟩
    · intro s
      show (if t = 8 then fun s => if s = (c0 :: l).headD 0 / R 1 then P.2.2.1 s + 1 else P.2.2.1 s else P.2.2.1) s ≤ R 1
      by_cases t8 : t = 8
      · rw [if_pos t8]
        show (if s = c0 / R 1 then P.2.2.1 s + 1 else P.2.2.1 s) ≤ R 1
        by_cases e : s = c0 / R 1
        · rw [if_pos e, e, ← hup t8]; omega
        · rw [if_neg e]; exact w.2.2.2.2.2.1 s
      · rw [if_neg t8]; exact w.2.2.2.2.2.1 s
    · intro s hs
      show (if t = 8 then fun s => if s = (c0 :: l).headD 0 / R 1 then P.2.2.1 s + 1 else P.2.2.1 s else P.2.2.1) s = 0
      by_cases t8 : t = 8
      · rw [if_pos t8]
        show (if s = c0 / R 1 then P.2.2.1 s + 1 else P.2.2.1 s) = 0
        have := div_lt_R hw0.1
        rw [if_neg (by omega)]; exact w.2.2.2.2.2.2.1 s hs
      · rw [if_neg t8]; exact w.2.2.2.2.2.2.1 s hs
    · show ((carryP P f t n).1 7).length + ((carryP P f t n).1 9).length ≤ R 6
      have h79 := w.2.2.2.2.2.2.2.1
      rw [eo 9 (fun e => f9 e.symm) (by omega)]
      by_cases f7 : f = 7
      · subst f7; rw [ef, List.length_drop]; omega
      · rw [eo 7 (fun e => f7 e.symm) (by omega)]; exact h79
end
section
/-! ===== the class's table: the whole list of moves; cards up ===== -/
theorem s_list_L50 {r : Nat → Int32} {R : Nat → Nat} {P : Pos} (w : WF R P) (hr : RR r R) {f : Nat} (hf : f < 10) (h8 : f ≠ 8) (hne : f = 9 ∨ P.1 f ≠ []) (K7 : (Nat → Nat → Int32) → Int32 → Option (Nat → Nat → Int32)) :
    ∀ (j g n : Nat) (T : Nat → Nat → Int32) (acc : List Nat), g + j = 9 → j < n → LRep T P acc → (acc ++ (List.range' g j).flatMap (mvFT R P f)).length ≤ 156 →
    ∃ T', LRep T' P (acc ++ (List.range' g j).flatMap (mvFT R P f)) ∧ F_X4_listMoves_L50 r K7 n T (nI f) (nI (if f < 5 then runLen R (P.2.1 f) (P.1 f) else 1)) (nI g) = K7 T' (nI (f + 1)) := by
  have ho := w.1
  have hl := ho.len f
  have hrl := runLen_le R (P.2.1 f) (P.1 f)
  intro j
  induction j with
  | zero =>
    intro g n T acc hg hn hT hlen
    obtain ⟨n, rfl⟩ : ∃ m, n = m + 1 := ⟨n - 1, by omega⟩
    refine ⟨T, by simpa using hT, ?_⟩
    show F_X4_listMoves_s50 r K7 (F_X4_listMoves_L50 r K7 n) _ _ _ _ = _
    unfold F_X4_listMoves_s50
    rw [if_pos (nI_lt (by omega) (by omega)), nI_add]
  | succ j ih =>
    intro g n T acc hg hn hT hlen
    obtain ⟨n, rfl⟩ : ∃ m, n = m + 1 := ⟨n - 1, by omega⟩
    have e : (List.range' g (j + 1)).flatMap (mvFT R P f) = mvFT R P f g ++ (List.range' (g + 1) j).flatMap (mvFT R P f) := rfl
    rw [e] at hlen ⊢
    rw [← List.append_assoc] at hlen ⊢
    have e2 := mvFT_lim (t := g) hr.2 ho h8 hne
    have hlen1 : (acc ++ mvFT R P f g).length ≤ 156 := by simp only [List.length_append] at hlen ⊢; omega
    have go : ∀ lim, lim = (if f < 5 ∧ g < 5 then runLen R (P.2.1 f) (P.1 f) else 1) → ∃ T', LRep T' P (acc ++ mvFT R P f g ++ (List.range' (g + 1) j).flatMap (mvFT R P f)) ∧ F_X4_listMoves_L73 r K7 (F_X4_listMoves_L50 r K7 n) FU T (nI f) (nI (if f < 5 then runLen R (P.2.1 f) (P.1 f) else 1)) (nI g) (nI lim) (nI 1) = K7 T' (nI (f + 1)) := by
      intro lim hlim
      rw [← hlim] at e2
      rw [e2] at hlen hlen1 ⊢
      obtain ⟨T1, h1, h2⟩ := s_list_L73 w hr hf (show g < 9 by omega) (lim := lim) (by rw [hlim]; split <;> omega) (by
        by_cases q : f < 5 ∧ g < 5
        · exact Or.inr q
        · rw [if_neg q] at hlim; exact Or.inl hlim) K7 (F_X4_listMoves_L50 r K7 n) (nI (if f < 5 then runLen R (P.2.1 f) (P.1 f) else 1)) lim 1 FU T acc (by omega) (by omega) (FU_gt (by rw [hlim]; split <;> omega)) hT hlen1
      rw [h2]
      exact ih (g + 1) n T1 _ (by omega) (by omega) h1 hlen
    show ∃ T', LRep T' P _ ∧ F_X4_listMoves_s50 r K7 (F_X4_listMoves_L50 r K7 n) _ _ _ _ = _
    unfold F_X4_listMoves_s50
    rw [if_neg (nI_nlt (by omega) (by omega)), s_isColumn (by omega), cal1_s, bi_if]
    by_cases g5 : g < 5
    · rw [if_pos (by simpa using g5)]
      exact go _ (by by_cases f5 : f < 5 <;> simp [f5, g5])
    · rw [if_neg (by simpa using g5)]
      exact go 1 (by simp [g5])
theorem mvF_nil {R : Nat → Nat} {P : Pos} {f : Nat} (h9 : f ≠ 9) (hn : P.1 f = []) : mvF R P f = [] := by
  unfold mvF
  rw [List.flatMap_eq_nil_iff]
  intro t _
  exact mvFT_nil h9 hn
theorem s_list_L7 {r : Nat → Int32} {R : Nat → Nat} {P : Pos} (w : WF R P) (hr : RR r R) :
    ∀ (j g n : Nat) (T : Nat → Nat → Int32) (acc : List Nat), g + j = 10 → j < n → LRep T P acc → (acc ++ (List.range' g j).flatMap (mvF R P)).length ≤ 156 →
    ∃ T', F_X4_listMoves_L7 r n T (nI g) = some T' ∧ LRep T' P (acc ++ (List.range' g j).flatMap (mvF R P)) := by
  have ho := w.1
  intro j
  induction j with
  | zero =>
    intro g n T acc hg hn hT hlen
    obtain ⟨n, rfl⟩ : ∃ m, n = m + 1 := ⟨n - 1, by omega⟩
    refine ⟨T, ?_, by simpa using hT⟩
    show F_X4_listMoves_s7 r (F_X4_listMoves_L7 r n) _ _ = _
    unfold F_X4_listMoves_s7
    rw [if_pos (nI_le (by omega) (by omega))]
  | succ j ih =>
    intro g n T acc hg hn hT hlen
    obtain ⟨n, rfl⟩ : ∃ m, n = m + 1 := ⟨n - 1, by omega⟩
    have e : (List.range' g (j + 1)).flatMap (mvF R P) = mvF R P g ++ (List.range' (g + 1) j).flatMap (mvF R P) := rfl
    rw [e] at hlen ⊢
    rw [← List.append_assoc] at hlen ⊢
    have hlen1 : (acc ++ mvF R P g).length ≤ 156 := by simp only [List.length_append] at hlen ⊢; omega
    have go : g ≠ 8 → (g = 9 ∨ P.1 g ≠ []) → ∃ T', F_X4_listMoves_b31 r (F_X4_listMoves_L7 r n) T (nI g) = some T' ∧ LRep T' P (acc ++ mvF R P g ++ (List.range' (g + 1) j).flatMap (mvF R P)) := by
      intro g8 hne
      unfold F_X4_listMoves_b31
      rw [s_isColumn (by omega), cal1_s, bi_if]
      have em : mvF R P g = (List.range' 0 9).flatMap (mvFT R P g) := by unfold mvF; rw [List.range_eq_range']
      rw [em] at hlen1 hlen ⊢
      obtain ⟨T1, h1, h2⟩ := s_list_L50 w hr (show g < 10 by omega) g8 hne (F_X4_listMoves_L7 r n) 9 0 FU T acc (by omega) (FU_gt (by omega)) hT hlen1
      by_cases g5 : g < 5
      · rw [if_pos (by simpa using g5), s_runOf hT.1 ho hr g5, cal1_s]
        rw [if_pos g5] at h2
        rw [h2]
        exact ih (g + 1) n T1 _ (by omega) (by omega) h1 hlen
      · rw [if_neg (by simpa using g5)]
        rw [if_neg g5] at h2
        rw [h2]
        exact ih (g + 1) n T1 _ (by omega) (by omega) h1 hlen
    show ∃ T', F_X4_listMoves_s7 r (F_X4_listMoves_L7 r n) _ _ = some T' ∧ _
    unfold F_X4_listMoves_s7
    rw [if_neg (nI_ge (by omega) (by omega)), s_topOf hT.1 (by omega), cal1_s]
    by_cases q : (P.1 g).isEmpty = true
    · rw [if_pos ((topI_neg1 _ (ho.1 g)).mpr q)]
      by_cases g9 : g = 9
      · rw [if_pos (by rw [g9])]; exact go (by omega) (Or.inl g9)
      · rw [if_neg (by rw [nI_eq (by omega) (by omega)]; exact g9), nI_add]
        have em := mvF_nil (R := R) g9 (List.isEmpty_iff.mp q)
        rw [em, List.append_nil] at hlen ⊢
        exact ih (g + 1) n T acc (by omega) (by omega) hT hlen
    · rw [if_neg (fun z => q ((topI_neg1 _ (ho.1 g)).mp z))]
      have hne : P.1 g ≠ [] := fun z => q (List.isEmpty_iff.mpr z)
      exact go (fun e8 => hne (ho.2.2.2.1 g (Or.inr e8))) (Or.inr hne)
theorem s_listMoves {T : Nat → Nat → Int32} {r : Nat → Int32} {R : Nat → Nat} {P : Pos} (h : TRep T P) (w : WF R P) (hr : RR r R) : ∃ T', F_X4_listMoves r T = some T' ∧ LRep T' P (mvs R P) := by
  unfold F_X4_listMoves
  rw [bnd_s]
  have h0 : LRep (st2 T 0 4 (nI 0)) P [] := by
    refine ⟨h.cong (by simp [st2_s]) (by simp [st2_s]) (by simp [st2_s]) (by simp [st2_s]), by simp [st2_s], ?_⟩
    intro i c hc; simp at hc
  have e : mvs R P = (List.range' 0 10).flatMap (mvF R P) := by unfold mvs; rw [List.range_eq_range']
  have hle := mvs_le hr.2 w.1
  rw [e] at hle ⊢
  have := s_list_L7 w hr 10 0 FU _ [] (by omega) (FU_gt (by omega)) h0 (by simpa using hle)
  simpa using this
theorem s_listedAt {T : Nat → Nat → Int32} {P : Pos} {acc : List Nat} (h : LRep T P acc) (hl : acc.length ≤ 156) {i : Nat} (hi : i < 2 ^ 31) : F_X4_listedAt T (nI i) = some (optI acc[i]?) := by
  unfold F_X4_listedAt
  rw [h.2.1]
  by_cases q : acc.length ≤ i
  · rw [if_pos (nI_le q hi), List.getElem?_eq_none q, optI_none]
  · rw [if_neg (nI_ge (by omega) (by omega)), s_at (by omega) (by omega), cal1_s]
    have e := List.getElem?_eq_getElem (show i < acc.length by omega)
    rw [h.2.2 i _ e, e, optI_some]
theorem s_cardsUp_L {T : Nat → Nat → Int32} {r : Nat → Int32} {R : Nat → Nat} {P : Pos} (h : TRep T P) (ho : PosOk P) (hr : RR r R) : ∀ (j k n : Nat), k + j = R 0 * R 1 → j < n → F_X4_cardsUp_L4 T r n (nI (cntB (fun c => decide (onN P c = 20)) k)) (nI k) = some (nI (cntB (fun c => decide (onN P c = 20)) (R 0 * R 1))) := by
  have hR := hr.2
  unfold RulesOk at hR
  intro j
  induction j with
  | zero =>
    intro k n hk hn
    obtain ⟨n, rfl⟩ : ∃ m, n = m + 1 := ⟨n - 1, by omega⟩
    show F_X4_cardsUp_s4 T r (F_X4_cardsUp_L4 T r n) _ _ = _
    unfold F_X4_cardsUp_s4
    rw [s_cards hr, cal1_s, if_pos (nI_le (by omega) (by omega)), show k = R 0 * R 1 by omega]
  | succ j ih =>
    intro k n hk hn
    obtain ⟨n, rfl⟩ : ∃ m, n = m + 1 := ⟨n - 1, by omega⟩
    show F_X4_cardsUp_s4 T r (F_X4_cardsUp_L4 T r n) _ _ = _
    unfold F_X4_cardsUp_s4
    have ih' := ih (k + 1) n (by omega) (by omega)
    have e : cntB (fun c => decide (onN P c = 20)) (k + 1) = cntB (fun c => decide (onN P c = 20)) k + if decide (onN P k = 20) = true then 1 else 0 := rfl
    rw [e] at ih'
    rw [s_cards hr, cal1_s, if_neg (nI_ge (by omega) (by omega)), s_isUp h ho (by omega), cal1_s, bi_if, nI_add, nI_add]
    by_cases q : onN P k = 20
    · simp only [q, decide_true, if_true] at ih' ⊢; exact ih'
    · simp only [q, decide_false, Bool.false_eq_true, if_false, Nat.add_zero] at ih' ⊢; exact ih'
def sumH (h : Nat → Nat) : Nat → Nat
  | 0 => 0
  | n + 1 => sumH h n + h n
theorem cntB_add (p : Nat → Bool) (a : Nat) : ∀ b, cntB p (a + b) = cntB p a + cntB (fun j => p (a + j)) b
  | 0 => rfl
  | b + 1 => by
    have := cntB_add p a b
    show cntB p (a + b) + (if p (a + b) = true then 1 else 0) = cntB p a + (cntB (fun j => p (a + j)) b + (if p (a + b) = true then 1 else 0))
    omega
theorem cntB_lt (h : Nat) : ∀ n, h ≤ n → cntB (fun j => decide (j < h)) n = h := by
  have small : ∀ m, m ≤ h → cntB (fun j => decide (j < h)) m = m := by
    intro m
    induction m with
    | zero => intro _; rfl
    | succ m ih =>
      intro hm
      show cntB (fun j => decide (j < h)) m + (if decide (m < h) = true then 1 else 0) = m + 1
      rw [ih (by omega), if_pos (by simp; omega)]
  intro n hn
  induction n with
  | zero => rw [show h = 0 by omega]; rfl
  | succ n ih =>
    rcases Nat.lt_or_ge n h with q | q
    · have : h = n + 1 := by omega
      rw [← this]; exact small h (Nat.le_refl _)
    · show cntB (fun j => decide (j < h)) n + (if decide (n < h) = true then 1 else 0) = h
      rw [ih q, if_neg (by simp; omega)]; rfl
theorem cntB_congr {p q : Nat → Bool} : ∀ {n : Nat}, (∀ k, k < n → p k = q k) → cntB p n = cntB q n
  | 0, _ => rfl
  | n + 1, h => by
    show cntB p n + _ = cntB q n + _
    rw [cntB_congr (fun k hk => h k (by omega)), h n (by omega)]
theorem cntUp {R : Nat → Nat} {P : Pos} (w : WF R P) (hR : RulesOk R) : cntB (fun c => decide (onN P c = 20)) (R 0 * R 1) = sumH P.2.2.1 (R 0) := by
  have hR1 := hR.2.2.1
  have go : ∀ s, s ≤ R 0 → cntB (fun c => decide (onN P c = 20)) (s * R 1) = sumH P.2.2.1 s := by
    intro s
    induction s with
    | zero => intro _; rw [Nat.zero_mul]; rfl
    | succ s ih =>
      intro hs
      rw [Nat.succ_mul, cntB_add, ih (by omega)]
      show _ = sumH P.2.2.1 s + P.2.2.1 s
      congr 1
      rw [← cntB_lt (P.2.2.1 s) (R 1) (w.2.2.2.2.2.1 s)]
      apply cntB_congr
      intro k hk
      have h1 : s * R 1 + k < R 0 * R 1 := by
        have := Nat.mul_le_mul_right (R 1) (show s + 1 ≤ R 0 by omega)
        rw [Nat.succ_mul] at this; omega
      have e1 : (s * R 1 + k) / R 1 = s := by
        rw [Nat.mul_comm, Nat.mul_add_div (by omega), Nat.div_eq_of_lt hk, Nat.add_zero]
      have e2 : (s * R 1 + k) % R 1 = k := by
        rw [Nat.mul_comm, Nat.mul_add_mod, Nat.mod_eq_of_lt hk]
      have := w.on20 h1
      rw [e1, e2] at this
      simp only [this]
  exact go (R 0) (Nat.le_refl _)
/-- how many cards are up -/
def upN (P : Pos) : Nat := P.2.2.1 0 + P.2.2.1 1 + P.2.2.1 2 + P.2.2.1 3
theorem sumH_up {R : Nat → Nat} {P : Pos} (w : WF R P) (hR : RulesOk R) : sumH P.2.2.1 (R 0) = upN P := by
  have h0 := w.2.2.2.2.2.2.1
  unfold RulesOk at hR
  unfold upN
  rcases (show R 0 = 1 ∨ R 0 = 2 ∨ R 0 = 3 ∨ R 0 = 4 by omega) with q | q | q | q
  · rw [q, h0 1 (by omega), h0 2 (by omega), h0 3 (by omega)]; simp [sumH]
  · rw [q, h0 2 (by omega), h0 3 (by omega)]; simp [sumH]
  · rw [q, h0 3 (by omega)]; simp [sumH]
  · rw [q]; simp [sumH]
theorem upN_le {R : Nat → Nat} {P : Pos} (w : WF R P) (hR : RulesOk R) : upN P ≤ R 0 * R 1 := by
  rw [← sumH_up w hR, ← cntUp w hR]; exact cntB_le _ _
theorem s_cardsUp {T : Nat → Nat → Int32} {r : Nat → Int32} {R : Nat → Nat} {P : Pos} (h : TRep T P) (w : WF R P) (hr : RR r R) : F_X4_cardsUp T r = some (nI (upN P)) := by
  have hR := hr.2
  unfold RulesOk at hR
  unfold F_X4_cardsUp
  rw [← sumH_up w hr.2, ← cntUp w hr.2]
  exact s_cardsUp_L h w.1 hr (R 0 * R 1) 0 FU (by omega) (FU_gt (by omega))
def wonB (R : Nat → Nat) (P : Pos) : Bool := decide (upN P = R 0 * R 1)
theorem s_isWon {T : Nat → Nat → Int32} {r : Nat → Int32} {R : Nat → Nat} {P : Pos} (h : TRep T P) (w : WF R P) (hr : RR r R) : F_X4_isWon T r = some (bi (wonB R P)) := by
  have hR := hr.2
  have hle := upN_le w hr.2
  unfold RulesOk at hR
  unfold F_X4_isWon wonB
  rw [s_cardsUp h w hr, cal1_s, s_cards hr, cal1_s]
  by_cases q : upN P = R 0 * R 1
  · rw [if_pos (by rw [q]), zb1]; simp [q, bi]
  · rw [if_neg (by rw [nI_eq (by omega) (by omega)]; exact q), zb0]; simp [q, bi]
end
section
/-! ===== the class's shelf: positions packed ===== -/
def pkN (z : Nat → Nat) (h a : Nat) : Nat → Nat
  | 0 => h
  | n + 1 => pkN z h a n * 32 + z (a + n)
theorem pkN_lt {z : Nat → Nat} {h a m : Nat} (hz : ∀ i, z i < 32) (hh : h < m) : ∀ n, pkN z h a n < m * 32 ^ n
  | 0 => by simpa [pkN] using hh
  | n + 1 => by
    have h1 := pkN_lt (a := a) hz hh n
    have h2 := hz (a + n)
    show pkN z h a n * 32 + z (a + n) < m * 32 ^ (n + 1)
    rw [Nat.pow_succ, ← Nat.mul_assoc]
    omega
theorem pkN_inj {z z' : Nat → Nat} {h h' a : Nat} (hz : ∀ i, z i < 32) (hz' : ∀ i, z' i < 32) : ∀ n, pkN z h a n = pkN z' h' a n → h = h' ∧ ∀ i, i < n → z (a + i) = z' (a + i)
  | 0, e => ⟨e, fun i hi => absurd hi (Nat.not_lt_zero i)⟩
  | n + 1, e => by
    have h1 := hz (a + n)
    have h2 := hz' (a + n)
    have e1 : pkN z h a n * 32 + z (a + n) = pkN z' h' a n * 32 + z' (a + n) := e
    have e2 : z (a + n) = z' (a + n) := by omega
    obtain ⟨i1, i2⟩ := pkN_inj (h := h) (h' := h') (a := a) hz hz' n (by omega)
    refine ⟨i1, fun i hi => ?_⟩
    rcases Nat.lt_or_ge i n with q | q
    · exact i2 i q
    · rw [show i = n by omega]; exact e2
theorem pkN_congr {z z' : Nat → Nat} {h a : Nat} : ∀ {n : Nat}, (∀ i, i < n → z (a + i) = z' (a + i)) → pkN z h a n = pkN z' h a n
  | 0, _ => rfl
  | n + 1, e => by
    show pkN z h a n * 32 + z (a + n) = pkN z' h a n * 32 + z' (a + n)
    rw [pkN_congr (fun i hi => e i (by omega)), e n (by omega)]
theorem pack_step {v x : Nat} (hv : v * 32 + x < 2 ^ 62) (hx : x < 32) : (lN v <<< ((nI 5).toInt64 &&& 63)) ||| (nI x).toInt64 = lN (v * 32 + x) := by
  rw [wb_shl v (show 5 < 64 by omega), nI_l (by omega)]
  have := fb_or_sumL (k := 5) v (show x < 2 ^ 5 by omega)
  rw [Nat.mul_comm] at this
  exact this
theorem s_packed_L {T : Nat → Nat → Int32} {z : Nat → Nat} {h a e : Nat} (hz : ∀ i, z i < 32) (hT : ∀ i, i < 16 → T 1 i = nI (z i)) (he : e ≤ 16) (hh : h < 2 ^ 20) (hae : a + 8 = e) : ∀ (j k n : Nat), k + j = 8 → j < n → F_X4_packed_L11 T n (nI e) (lN (pkN z h a k)) (nI (a + k)) = some (lN (pkN z h a 8)) := by
  intro j
  induction j with
  | zero =>
    intro k n hk hn
    obtain ⟨n, rfl⟩ : ∃ m, n = m + 1 := ⟨n - 1, by omega⟩
    show F_X4_packed_s11 T (F_X4_packed_L11 T n) _ _ _ = _
    unfold F_X4_packed_s11
    rw [if_pos (nI_le (by omega) (by omega)), show k = 8 by omega]
  | succ j ih =>
    intro k n hk hn
    obtain ⟨n, rfl⟩ : ∃ m, n = m + 1 := ⟨n - 1, by omega⟩
    show F_X4_packed_s11 T (F_X4_packed_L11 T n) _ _ _ = _
    unfold F_X4_packed_s11
    have h1 := pkN_lt (a := a) hz hh k
    have h2 : 32 ^ k ≤ 32 ^ 7 := Nat.pow_le_pow_right (by omega) (by omega)
    have h3 := hz (a + k)
    have h4 : pkN z h a k < 2 ^ 20 * 32 ^ 7 := Nat.lt_of_lt_of_le h1 (Nat.mul_le_mul_left _ h2)
    rw [if_neg (nI_ge (by omega) (by omega)), if_neg (nI_ge (by omega) (by omega)), rdA_n _ (by omega) (by omega), hT _ (by omega), pack_step (by omega) h3, nI_add]
    exact ih (k + 1) n (by omega) (by omega)
theorem s_packed {T : Nat → Nat → Int32} {z : Nat → Nat} {h a e : Nat} (hz : ∀ i, z i < 32) (hT : ∀ i, i < 16 → T 1 i = nI (z i)) (he : e ≤ 16) (hh : h < 2 ^ 20) (hae : a + 8 = e) : F_X4_packed T (nI h) (nI a) (nI e) = some (lN (pkN z h a 8)) := by
  unfold F_X4_packed
  rw [nI_l (by omega), if_neg (nI_nlt (by omega) (by omega))]
  exact s_packed_L hz hT he hh hae 8 0 FU (by omega) (FU_gt (by omega))
def topN (l : List Nat) : Nat := match l with
  | [] => 0
  | c :: _ => c + 1
theorem topN_I {l : List Nat} (h : ∀ c ∈ l, c < 16) : topI l + nI 1 = nI (topN l) ∧ topN l < 32 ∧ nI (topN l) - nI 1 = topI l := by
  cases l with
  | nil => exact ⟨by decide, by decide, by decide⟩
  | cons c r =>
    have := h c (by simp)
    exact ⟨nI_add c 1, by show c + 1 < 32; omega, by show nI (c + 1) - nI 1 = nI c; rw [pk_sub (by omega)]; rfl⟩
theorem s_packedTops_L {T : Nat → Nat → Int32} {z : Nat → Nat} (hz : ∀ i, z i < 32) (hT : ∀ i, i < 10 → T 2 i + nI 1 = nI (z i)) : ∀ (j k n : Nat), k + j = 10 → j < n → F_X4_packedTops_L4 T n (lN (pkN z 0 0 k)) (nI k) = some (lN (pkN z 0 0 10)) := by
  intro j
  induction j with
  | zero =>
    intro k n hk hn
    obtain ⟨n, rfl⟩ : ∃ m, n = m + 1 := ⟨n - 1, by omega⟩
    show F_X4_packedTops_s4 T (F_X4_packedTops_L4 T n) _ _ = _
    unfold F_X4_packedTops_s4
    rw [if_pos (nI_le (by omega) (by omega)), show k = 10 by omega]
  | succ j ih =>
    intro k n hk hn
    obtain ⟨n, rfl⟩ : ∃ m, n = m + 1 := ⟨n - 1, by omega⟩
    show F_X4_packedTops_s4 T (F_X4_packedTops_L4 T n) _ _ = _
    unfold F_X4_packedTops_s4
    have h1 := pkN_lt (a := 0) hz (show 0 < 1 by omega) k
    have h2 : 32 ^ k ≤ 32 ^ 9 := Nat.pow_le_pow_right (by omega) (by omega)
    have h3 := hz k
    have h5 : pkN z 0 0 (k + 1) = pkN z 0 0 k * 32 + z k := by show _ * 32 + z (0 + k) = _; rw [Nat.zero_add]
    rw [if_neg (nI_ge (by omega) (by omega)), rdA_n _ (by omega) (by omega), hT _ (by omega), pack_step (by omega) h3, nI_add, ← h5]
    exact ih (k + 1) n (by omega) (by omega)
theorem s_packedTops {T : Nat → Nat → Int32} {z : Nat → Nat} (hz : ∀ i, z i < 32) (hT : ∀ i, i < 10 → T 2 i + nI 1 = nI (z i)) : F_X4_packedTops T = some (lN (pkN z 0 0 10)) := by
  unfold F_X4_packedTops
  exact s_packedTops_L hz hT 10 0 FU (by omega) (FU_gt (by omega))
/-- what a table holds of a position, as a row of three numbers -/
def mkN (b : Nat → Bool) : Nat → Nat
  | 0 => 0
  | n + 1 => mkN b n ||| if b n then 2 ^ n else 0
theorem mkN_lt (b : Nat → Bool) : ∀ n, mkN b n < 2 ^ n
  | 0 => by show 0 < 1; omega
  | n + 1 => by
    have h := mkN_lt b n
    show mkN b n ||| _ < 2 ^ (n + 1)
    refine Nat.or_lt_two_pow (Nat.lt_of_lt_of_le h (Nat.pow_le_pow_right (by omega) (by omega))) ?_
    split
    · exact Nat.pow_lt_pow_right (by omega) (by omega)
    · exact Nat.pow_pos (by omega)
theorem mkN_bit (b : Nat → Bool) (c : Nat) : ∀ n, (mkN b n).testBit c = (decide (c < n) && b c)
  | 0 => by simp [mkN]
  | n + 1 => by
    show (mkN b n ||| _).testBit c = _
    rw [Nat.testBit_or, mkN_bit b c n]
    by_cases q : b n = true
    · rw [if_pos q, Nat.testBit_two_pow]
      by_cases e : n = c
      · subst e; simp [q]
      · have : (c < n + 1) ↔ (c < n) := by omega
        simp [e, this]
    · rw [if_neg q, Nat.zero_testBit, Bool.or_false]
      by_cases e : n = c
      · subst e; simp only [Bool.not_eq_true] at q; simp [q]
      · have : (c < n + 1) ↔ (c < n) := by omega
        simp [this]
def mkP (P : Pos) : Nat := mkN (hidB P) 16
theorem mkP_of {P : Pos} {m : Nat} (hm : m < 65536) (h : ∀ c, c < 16 → m.testBit c = hidB P c) : m = mkP P := by
  apply Nat.eq_of_testBit_eq
  intro i
  unfold mkP
  rw [mkN_bit]
  by_cases q : i < 16
  · rw [h i q]; simp [q]
  · rw [Nat.testBit_lt_two_pow (Nat.lt_of_lt_of_le hm (show 65536 ≤ 2 ^ i from Nat.pow_le_pow_right (n := 2) (by omega) (show 16 ≤ i by omega)))]
    simp [q]
theorem TRep.mk {T : Nat → Nat → Int32} {P : Pos} (h : TRep T P) : T 0 5 = nI (mkP P) := by
  obtain ⟨m, h1, h2, h3⟩ := h.2.2.1
  rw [h2, mkP_of h1 h3]
theorem mkP_lt (P : Pos) : mkP P < 65536 := mkN_lt _ 16
def loN (P : Pos) : Nat := pkN (onN P) (mkP P) 0 8
def hiN (P : Pos) : Nat := pkN (onN P) P.2.2.2 8 8
def plN (P : Pos) : Nat := pkN (fun p => topN (P.1 p)) 0 0 10
theorem onN_lt32 {P : Pos} (ho : PosOk P) (c : Nat) : onN P c < 32 := by have := onN_le ho c; omega
/-- row i of a shelf holds the position -/
def SRow (S : Nat → Nat → Int64) (i : Nat) (P : Pos) : Prop := S 0 i = lN (loN P) ∧ S 1 i = lN (hiN P) ∧ S 2 i = lN (plN P)
theorem s_isRow {S : Nat → Nat → Int64} {n i : Nat} (hn : n < 2 ^ 31) (hi : i < n) : F_X3_isRow S n (nI i) = some (bi true) := by
  unfold F_X3_isRow
  rw [if_neg (nI_nlt (by omega) (by omega)), if_neg (nI_ge hi hn), if_neg (nI_ge hi hn), if_neg (nI_ge hi hn)]; rfl
theorem s_keep {T : Nat → Nat → Int32} {S : Nat → Nat → Int64} {P : Pos} (h : TRep T P) (ho : PosOk P) {n i : Nat} (hn : n < 2 ^ 31) (hi : i < n) : ∃ S', F_X3_keep T n S (nI i) = some S' ∧ SRow S' i P ∧ ∀ k j, j ≠ i → S' k j = S k j := by
  have htu := h.2.2.2.2
  have hm := mkP_lt P
  have htops : ∀ p, p < 10 → T 2 p + nI 1 = nI (topN (P.1 p)) := fun p hp => by rw [h.1 p hp]; exact (topN_I (ho.1 p)).1
  unfold F_X3_keep
  rw [s_isRow hn hi, cal1_s, if_neg (by rw [bi_eq0]; simp), h.mk, s_packed (fun i => onN_lt32 ho i) h.2.1 (by omega) (by omega) (by omega), cal1_s, wrJ_n _ hi (by omega), h.2.2.2.1, s_packed (fun i => onN_lt32 ho i) h.2.1 (by omega) (by omega) (by omega), cal1_s, wrJ_n _ hi (by omega), s_packedTops (fun p => (topN_I (ho.1 p)).2.1) htops, cal1_s, wrJ_n _ hi (by omega)]
  refine ⟨_, rfl, ⟨?_, ?_, ?_⟩, ?_⟩
  · simp [stJ_s, loN]
  · simp [stJ_s, hiN]
  · simp [stJ_s, plN]
  · intro k j hj; simp [stJ_s, hj]
end
section
/-! ===== the class's shelf: fetch, areSame, bucketOf ===== -/
theorem dec_lt {a : Nat} (h : a < 2 ^ 31) : nI a + (-1) < nI a := by
  cases a with
  | zero => decide
  | succ a => rw [pk_m1]; exact nI_lt (by omega) h
theorem unpack_mask (v z : Nat) (hz : z < 32) : (lN (v * 32 + z) &&& lN 31).toInt32 = nI z := by
  have := fb_maskL (v * 32 + z) 5
  rw [show (2 : Nat) ^ 5 - 1 = 31 by decide, show (v * 32 + z) % 2 ^ 5 = z by omega] at this
  rw [this, lN_i]
theorem unpack_shift {v z : Nat} (hz : z < 32) (h : v * 32 + z < 2 ^ 62) : lN (v * 32 + z) >>> ((nI 5).toInt64 &&& 63) = lN v := by
  have := pf_shr (a := v * 32 + z) (d := 5) (D := (nI 5).toInt64 &&& 63) (by decide) h
  rw [show (v * 32 + z) / 2 ^ 5 = v by omega] at this
  exact this
theorem s_unpacked_L {z : Nat → Nat} {h a : Nat} (hz : ∀ i, z i < 32) (ha : a + 8 ≤ 16) (hh : h < 2 ^ 20) : ∀ (k n : Nat) (T : Nat → Nat → Int32), k < 8 → k + 1 < n → ∃ T', F_X4_unpacked_L17 n T (nI a) (lN (pkN z h a (k + 1))) (nI (a + k)) = some (nI h, T') ∧ (∀ i, a ≤ i → i ≤ a + k → T' 1 i = nI (z i)) ∧ (∀ c i, c ≠ 1 ∨ i < a ∨ a + k < i → T' c i = T c i) := by
  intro k
  induction k with
  | zero =>
    intro n T hk hn
    obtain ⟨n, rfl⟩ : ∃ m, n = m + 2 := ⟨n - 2, by omega⟩
    have e : pkN z h a (0 + 1) = h * 32 + z a := rfl
    have h3 := hz a
    rw [e]
    simp only [Nat.add_zero]
    show ∃ T', F_X4_unpacked_s17 (F_X4_unpacked_L17 (n + 1)) T _ _ _ = _ ∧ _
    unfold F_X4_unpacked_s17
    rw [if_neg (nI_nlt (by omega) (by omega)), if_neg (nI_nlt (by omega) (by omega)), wrA_n _ (by omega) (by omega), unpack_mask _ _ h3, unpack_shift h3 (by omega)]
    show ∃ T', F_X4_unpacked_s17 (F_X4_unpacked_L17 n) _ _ _ _ = _ ∧ _
    unfold F_X4_unpacked_s17
    rw [if_pos (dec_lt (by omega)), lN_i]
    refine ⟨_, rfl, ?_, ?_⟩
    · intro i h1 h2; rw [show i = a by omega]; simp [st2_s]
    · intro c i hc; rw [st2_s, if_neg (by omega)]
  | succ k ih =>
    intro n T hk hn
    obtain ⟨n, rfl⟩ : ∃ m, n = m + 1 := ⟨n - 1, by omega⟩
    have e : pkN z h a (k + 1 + 1) = pkN z h a (k + 1) * 32 + z (a + (k + 1)) := rfl
    have h3 := hz (a + (k + 1))
    have h1 := pkN_lt (a := a) hz hh (k + 1)
    have h2 : 32 ^ (k + 1) ≤ 32 ^ 7 := Nat.pow_le_pow_right (by omega) (by omega)
    have h4 : pkN z h a (k + 1) < 2 ^ 20 * 32 ^ 7 := Nat.lt_of_lt_of_le h1 (Nat.mul_le_mul_left _ h2)
    rw [e]
    show ∃ T', F_X4_unpacked_s17 (F_X4_unpacked_L17 n) T _ _ _ = _ ∧ _
    unfold F_X4_unpacked_s17
    rw [if_neg (nI_nlt (by omega) (by omega)), if_neg (nI_nlt (by omega) (by omega)), wrA_n _ (by omega) (by omega), unpack_mask _ _ h3, unpack_shift h3 (by omega), show a + (k + 1) = a + k + 1 by omega, pk_m1]
    obtain ⟨T', e1, e2, e3⟩ := ih n (st2 T 1 (a + k + 1) (nI (z (a + k + 1)))) (by omega) (by omega)
    refine ⟨T', e1, ?_, ?_⟩
    · intro i h1 h2
      rcases Nat.lt_or_ge i (a + k + 1) with q | q
      · exact e2 i h1 (by omega)
      · rw [show i = a + k + 1 by omega, e3 _ _ (by omega)]; simp [st2_s]
    · intro c i hc; rw [e3 c i (by omega), st2_s, if_neg (by omega)]
theorem s_unpacked {z : Nat → Nat} {h a e : Nat} (hz : ∀ i, z i < 32) (he : e ≤ 16) (hae : a + 8 = e) (hh : h < 2 ^ 20) (T : Nat → Nat → Int32) : ∃ T', F_X4_unpacked T (lN (pkN z h a 8)) (nI a) (nI e) = some (nI h, T') ∧ (∀ i, a ≤ i → i < e → T' 1 i = nI (z i)) ∧ (∀ c i, c ≠ 1 ∨ i < a ∨ e ≤ i → T' c i = T c i) := by
  obtain ⟨T', e1, e2, e3⟩ := s_unpacked_L hz (by omega : a + 8 ≤ 16) hh 7 FU T (by omega) (FU_gt (by omega))
  refine ⟨T', ?_, fun i h1 h2 => e2 i h1 (by omega), fun c i hc => e3 c i (by omega)⟩
  unfold F_X4_unpacked
  rw [if_neg (nI_nlt (by omega) (by omega)), pk_sub (by omega), show e - 1 = a + 7 by omega]
  exact e1
theorem s_unpackTops_L {z : Nat → Nat} (hz : ∀ i, z i < 32) : ∀ (k n : Nat) (T : Nat → Nat → Int32), k < 10 → k + 1 < n → ∃ T', F_X4_unpackTops_L11 n T (lN (pkN z 0 0 (k + 1))) (nI k) = some T' ∧ (∀ i, i ≤ k → T' 2 i = nI (z i) - nI 1) ∧ (∀ c i, c ≠ 2 ∨ k < i → T' c i = T c i) := by
  intro k
  induction k with
  | zero =>
    intro n T hk hn
    obtain ⟨n, rfl⟩ : ∃ m, n = m + 2 := ⟨n - 2, by omega⟩
    have e : pkN z 0 0 (0 + 1) = 0 * 32 + z 0 := rfl
    have h3 := hz 0
    rw [e]
    show ∃ T', F_X4_unpackTops_s11 (F_X4_unpackTops_L11 (n + 1)) T _ _ = _ ∧ _
    unfold F_X4_unpackTops_s11
    rw [if_neg (nI_nlt (by omega) (by omega)), wrA_n _ (by omega) (by omega), unpack_mask _ _ h3, unpack_shift h3 (by omega)]
    show ∃ T', F_X4_unpackTops_s11 (F_X4_unpackTops_L11 n) _ _ _ = _ ∧ _
    unfold F_X4_unpackTops_s11
    rw [if_pos (dec_lt (by omega))]
    refine ⟨_, rfl, ?_, ?_⟩
    · intro i h1; rw [show i = 0 by omega]; simp [st2_s]
    · intro c i hc; rw [st2_s, if_neg (by omega)]
  | succ k ih =>
    intro n T hk hn
    obtain ⟨n, rfl⟩ : ∃ m, n = m + 1 := ⟨n - 1, by omega⟩
    have e : pkN z 0 0 (k + 1 + 1) = pkN z 0 0 (k + 1) * 32 + z (k + 1) := by show _ * 32 + z (0 + (k + 1)) = _; rw [Nat.zero_add]
    have h3 := hz (k + 1)
    have h1 := pkN_lt (a := 0) hz (show 0 < 1 by omega) (k + 1)
    have h2 : 32 ^ (k + 1) ≤ 32 ^ 9 := Nat.pow_le_pow_right (by omega) (by omega)
    rw [e]
    show ∃ T', F_X4_unpackTops_s11 (F_X4_unpackTops_L11 n) T _ _ = _ ∧ _
    unfold F_X4_unpackTops_s11
    rw [if_neg (nI_nlt (by omega) (by omega)), wrA_n _ (by omega) (by omega), unpack_mask _ _ h3, unpack_shift h3 (by omega), pk_m1]
    obtain ⟨T', e1, e2, e3⟩ := ih n (st2 T 2 (k + 1) (nI (z (k + 1)) - nI 1)) (by omega) (by omega)
    refine ⟨T', e1, ?_, ?_⟩
    · intro i h1
      rcases Nat.lt_or_ge i (k + 1) with q | q
      · exact e2 i (by omega)
      · rw [show i = k + 1 by omega, e3 _ _ (by omega)]; simp [st2_s]
    · intro c i hc; rw [e3 c i (by omega), st2_s, if_neg (by omega)]
theorem s_fetch {T : Nat → Nat → Int32} {S : Nat → Nat → Int64} {P : Pos} (ho : PosOk P) (htu : P.2.2.2 ≤ 2) {n i : Nat} (hn : n < 2 ^ 31) (hi : i < n) (h : SRow S i P) : ∃ T', F_X3_fetch S n T (nI i) = some T' ∧ TRep T' P := by
  have hm := mkP_lt P
  have hz : ∀ c, onN P c < 32 := fun c => onN_lt32 ho c
  obtain ⟨h0, h1, h2⟩ := h
  unfold F_X3_fetch
  obtain ⟨T1, a1, a2, a3⟩ := s_unpacked (a := 0) (e := 8) hz (by omega) (by omega) (show mkP P < 2 ^ 20 by omega) T
  rw [s_isRow hn hi, cal1_s, if_neg (by rw [bi_eq0]; simp), rdA_n _ hi (by omega), h0]
  unfold loN
  rw [a1, cal2_s, bnd_s, rdA_n _ hi (by omega), h1]
  unfold hiN
  obtain ⟨T2, b1, b2, b3⟩ := s_unpacked (a := 8) (e := 16) hz (by omega) (by omega) (show P.2.2.2 < 2 ^ 20 by omega) (st2 T1 0 5 (nI (mkP P)))
  rw [b1, cal2_s, bnd_s, rdA_n _ hi (by omega), h2]
  unfold plN
  obtain ⟨T3, c1, c2, c3⟩ := s_unpackTops_L (z := fun p => topN (P.1 p)) (fun p => (topN_I (ho.1 p)).2.1) 9 FU (st2 T2 0 6 (nI P.2.2.2)) (by omega) (FU_gt (by omega))
  have e : F_X4_unpackTops (st2 T2 0 6 (nI P.2.2.2)) (lN (pkN (fun p => topN (P.1 p)) 0 0 10)) = some T3 := by
    unfold F_X4_unpackTops
    rw [pk_sub (by omega)]; exact c1
  rw [e, cal1_s]
  refine ⟨T3, rfl, ?_, ?_, ?_, ?_, htu⟩
  · intro p hp; rw [c2 p (by omega)]; exact (topN_I (ho.1 p)).2.2
  · intro c hc
    rw [c3 1 c (by omega), st2_s, if_neg (by omega)]
    rcases Nat.lt_or_ge c 8 with q | q
    · rw [b3 1 c (by omega), st2_s, if_neg (by omega)]; exact a2 c (by omega) q
    · exact b2 c q hc
  · refine ⟨mkP P, hm, ?_, fun c hc => by unfold mkP; rw [mkN_bit]; simp [hc]⟩
    rw [c3 0 5 (by omega), st2_s, if_neg (by omega), b3 0 5 (by omega)]; simp [st2_s]
  · rw [c3 0 6 (by omega)]; simp [st2_s]
/-- the same, by exchanging columns, and cells, as the class tells it -/
def keyC (P Q : Pos) : Prop := loN P = loN Q ∧ hiN P = hiN Q
theorem keyC_iff {P Q : Pos} (hP : PosOk P) (hQ : PosOk Q) : keyC P Q ↔ (∀ c, c < 16 → onN P c = onN Q c) ∧ (∀ c, c < 16 → hidB P c = hidB Q c) ∧ P.2.2.2 = Q.2.2.2 := by
  constructor
  · rintro ⟨h1, h2⟩
    obtain ⟨a1, a2⟩ := pkN_inj (fun c => onN_lt32 hP c) (fun c => onN_lt32 hQ c) 8 h1
    obtain ⟨b1, b2⟩ := pkN_inj (fun c => onN_lt32 hP c) (fun c => onN_lt32 hQ c) 8 h2
    refine ⟨fun c hc => ?_, fun c hc => ?_, b1⟩
    · rcases Nat.lt_or_ge c 8 with q | q
      · have := a2 c q; rwa [Nat.zero_add] at this
      · have := b2 (c - 8) (by omega); rwa [show 8 + (c - 8) = c by omega] at this
    · have h3 := congrArg (fun m => Nat.testBit m c) a1
      unfold mkP at h3
      simpa [mkN_bit, hc] using h3
  · rintro ⟨h1, h2, h3⟩
    have e : mkP P = mkP Q := by
      apply Nat.eq_of_testBit_eq
      intro i
      unfold mkP
      rw [mkN_bit, mkN_bit]
      by_cases q : i < 16
      · rw [h2 i q]
      · simp [q]
    unfold keyC loN hiN
    rw [e, h3]
    exact ⟨pkN_congr (fun i hi => h1 _ (by omega)), pkN_congr (fun i hi => h1 _ (by omega))⟩
end
section
/-! ===== a search, told; the class's searcher ===== -/
def playC (R : Nat → Nat) (P : Pos) (m : Nat) : Pos := playP R P (m / 1000) (m / 100 % 10) (m % 100)
theorem playC_code {R : Nat → Nat} {P : Pos} {f t n : Nat} (hf : f < 10) (ht : t < 9) (hn : n ≤ 16) : playC R P (codeN f t n) = playP R P f t n := by
  unfold playC
  rw [show codeN f t n / 1000 = f by unfold codeN; omega, show codeN f t n / 100 % 10 = t by unfold codeN; omega, show codeN f t n % 100 = n by unfold codeN; omega]
theorem mem_mvs {R : Nat → Nat} {P : Pos} {m : Nat} (h : m ∈ mvs R P) : ∃ f t n, m = codeN f t n ∧ f < 10 ∧ t < 9 ∧ 1 ≤ n ∧ n ≤ 16 ∧ (n = 1 ∨ (f < 5 ∧ t < 5)) ∧ f ≠ 8 ∧ legal R P f t n = true := by
  unfold mvs at h
  rw [List.mem_flatMap] at h
  obtain ⟨f, hf, h⟩ := h
  unfold mvF at h
  rw [List.mem_flatMap] at h
  obtain ⟨t, ht, h⟩ := h
  unfold mvFT at h
  rw [List.mem_map] at h
  obtain ⟨n, hn, e⟩ := h
  rw [List.mem_filter, List.mem_range'_1] at hn
  rw [List.mem_range] at hf ht
  have h2 := hn.2
  unfold canB at h2
  simp only [Bool.and_eq_true, Bool.or_eq_true, decide_eq_true_eq, ne_eq] at h2
  exact ⟨f, t, n, e.symm, hf, ht, hn.1.1, by omega, h2.1.2, h2.1.1, h2.2⟩
theorem wf_playC {R : Nat → Nat} {P : Pos} (w : WF R P) (hR : RulesOk R) {m : Nat} (h : m ∈ mvs R P) : WF R (playC R P m) := by
  obtain ⟨f, t, n, rfl, hf, ht, hn, hn16, h1, -, hl⟩ := mem_mvs h
  rw [playC_code hf ht hn16]
  exact wf_play w hR hn h1 hl
theorem s_playC {T : Nat → Nat → Int32} {R : Nat → Nat} {P : Pos} (h : TRep T P) (w : WF R P) (hR : RulesOk R) {m : Nat} (hm : m ∈ mvs R P) : ∃ T', F_X4_play T (nI m) = some T' ∧ TRep T' (playC R P m) := by
  obtain ⟨f, t, n, rfl, hf, ht, hn, hn16, h1, -, hl⟩ := mem_mvs hm
  rw [playC_code hf ht hn16]
  exact s_play h w hR hf ht hn hn16 h1 hl
def sameB (P Q : Pos) : Bool := decide (loN P = loN Q ∧ hiN P = hiN Q)
def knownB (KP : List Pos) (Q : Pos) : Bool := KP.any (fun P => sameB P Q)
/-- what comes of P by the moves ms: the positions known behind it; 1 if one is won, 2 if there would be too many -/
def expA (R : Nat → Nat) (b : Nat) (P : Pos) : List Nat → List Pos → List Pos × Nat
  | [], KP => (KP, 0)
  | m :: r, KP => if knownB KP (playC R P m) = true then expA R b P r KP
      else if KP.length < b then (if wonB R (playC R P m) = true then (KP ++ [playC R P m], 1) else expA R b P r (KP ++ [playC R P m]))
      else (KP, 2)
/-- a search that goes on at row k: what it tells, and the positions known -/
def bfsA (R : Nat → Nat) (b : Nat) : Nat → Nat → List Pos → (Nat → Nat) → Int32 × List Pos
  | 0, _, KP, _ => (-1, KP)
  | n + 1, k, KP, ST =>
    match KP[k]? with
    | none => (-1, KP)
    | some P =>
      if (expA R b P (mvs R P) KP).2 = 1 then (nI (ST k + 1), (expA R b P (mvs R P) KP).1)
      else if (expA R b P (mvs R P) KP).2 = 2 then (-2, (expA R b P (mvs R P) KP).1)
      else bfsA R b n (k + 1) (expA R b P (mvs R P) KP).1 (fun i => if i < KP.length then ST i else ST k + 1)
/-- a search from P -/
def searchA (R : Nat → Nat) (b : Nat) (P : Pos) : Int32 × List Pos := if wonB R P = true then (nI 0, [P]) else bfsA R b 1000 0 [P] (fun _ => 0)
theorem s_copyFrom {T1 T0 : Nat → Nat → Int32} {P : Pos} (h : TRep T1 P) : ∃ T', F_X4_copyFrom T1 T0 = some T' ∧ TRep T' P ∧ (∀ i, T' 3 i = T0 3 i) ∧ T' 0 4 = T0 0 4 := by
  unfold F_X4_copyFrom
  refine ⟨_, rfl, h.cong ?_ ?_ ?_ ?_, ?_, ?_⟩
  · intro c hc; simp [st2_s, setc_s]; rw [pk_cpy_in (by omega) (by omega)]; simp
  · intro c hc; simp [st2_s, setc_s]; rw [pk_cpy_in (by omega) (by omega)]; simp
  · simp [st2_s]
  · simp [st2_s]
  · intro i; simp [st2_s, setc_s]
  · simp [st2_s, setc_s]
/-- the bucket of a position -/
def bkI (P : Pos) : Int32 := ((((lN (loN P) * lN 31) + lN (hiN P)) * (-7046029254386353131) : Int64).toUInt64 >>> ((nI 40).toInt64.toUInt64 &&& Int64.toUInt64 63)).toInt64.toInt32 &&& nI 255
theorem bkI_ex (P : Pos) : ∃ j : Nat, j < 256 ∧ bkI P = nI j := by
  have := pk_andE (((((lN (loN P) * lN 31) + lN (hiN P)) * (-7046029254386353131) : Int64).toUInt64 >>> ((nI 40).toInt64.toUInt64 &&& Int64.toUInt64 63)).toInt64.toInt32) (m := nI 255) 8 (by decide)
  exact this
noncomputable def bkN (P : Pos) : Nat := Classical.choose (bkI_ex P)
theorem bkN_lt (P : Pos) : bkN P < 256 := (Classical.choose_spec (bkI_ex P)).1
theorem bkN_I (P : Pos) : bkI P = nI (bkN P) := (Classical.choose_spec (bkI_ex P)).2
theorem bkN_same {P C : Pos} (hs : sameB P C = true) : bkN P = bkN C := by
  unfold sameB at hs
  simp only [decide_eq_true_eq] at hs
  have e : bkI P = bkI C := by unfold bkI; rw [hs.1, hs.2]
  have h1 := bkN_lt P
  have h2 := bkN_lt C
  rw [bkN_I, bkN_I, nI_eq (by omega) (by omega)] at e
  exact e
theorem s_bucketOf {S : Nat → Nat → Int64} {P : Pos} {i : Nat} (hi : i < 401) (h : SRow S i P) : F_X3_bucketOf S 401 (nI i) = some (nI (bkN P)) := by
  unfold F_X3_bucketOf
  rw [s_isRow (by omega) hi, cal1_s, if_neg (by rw [bi_eq0]; simp), rdA_n _ hi (by omega), rdA_n _ hi (by omega), h.1, h.2.1, ← bkN_I]; rfl
theorem s_areSame {S : Nat → Nat → Int64} {P Q : Pos} (hP : loN P < 2 ^ 63 ∧ hiN P < 2 ^ 63) (hQ : loN Q < 2 ^ 63 ∧ hiN Q < 2 ^ 63) {i j : Nat} (hi : i < 401) (hj : j < 401) (h1 : SRow S i P) (h2 : SRow S j Q) : F_X3_areSame S 401 (nI i) (nI j) = some (bi (sameB P Q)) := by
  have e0 : ∀ x y : Int64, (lg_cmp x y = nI 0) ↔ x = y := fun x y => lg_cmp_eq x y
  unfold F_X3_areSame sameB
  rw [s_isRow (by omega) hi, cal1_s, if_neg (by rw [bi_eq0]; simp), s_isRow (by omega) hj, cal1_s, if_neg (by rw [bi_eq0]; simp), rdA_n _ hi (by omega), rdA_n _ hj (by omega), rdA_n _ hi (by omega), rdA_n _ hj (by omega), h1.1, h1.2.1, h2.1, h2.2.1]
  simp only [e0, fb_lN_inj hP.1 hQ.1, fb_lN_inj hP.2 hQ.2]
  by_cases q1 : loN P = loN Q
  · by_cases q2 : hiN P = hiN Q
    · simp [q1, q2, bi, zb1]
    · simp [q1, q2, bi, zb0]
  · simp [q1, bi, zb0]
theorem loN_lt {P : Pos} (ho : PosOk P) : loN P < 2 ^ 63 := by
  have h := pkN_lt (a := 0) (fun c => onN_lt32 ho c) (mkP_lt P) 8
  exact Nat.lt_of_lt_of_le h (by decide)
theorem hiN_lt {P : Pos} (ho : PosOk P) (ht : P.2.2.2 ≤ 2) : hiN P < 2 ^ 63 := by
  have h := pkN_lt (a := 8) (fun c => onN_lt32 ho c) (show P.2.2.2 < 3 by omega) 8
  exact Nat.lt_of_lt_of_le h (by decide)
theorem WF.tu2 {R : Nat → Nat} {P : Pos} (w : WF R P) (hR : RulesOk R) : P.2.2.2 ≤ 2 := by
  have h1 := w.2.2.2.2.2.2.2.2
  unfold RulesOk at hR; omega
/-- the last row ahead of n in the bucket v -/
def lastIn (f : Nat → Nat) (v : Nat) : Nat → Option Nat
  | 0 => none
  | n + 1 => if f n = v then some n else lastIn f v n
theorem lastIn_succ (f : Nat → Nat) (v n : Nat) : lastIn f v (n + 1) = if f n = v then some n else lastIn f v n := rfl
theorem lastIn_congr {f g : Nat → Nat} {v : Nat} : ∀ {n : Nat}, (∀ i, i < n → f i = g i) → lastIn f v n = lastIn g v n
  | 0, _ => rfl
  | n + 1, h => by
    unfold lastIn
    rw [h n (by omega), lastIn_congr (fun i hi => h i (by omega))]
theorem lastIn_some {f : Nat → Nat} {v : Nat} : ∀ {n i : Nat}, lastIn f v n = some i → i < n ∧ f i = v ∧ ∀ j, i < j → j < n → f j ≠ v
  | 0, i, h => by cases h
  | n + 1, i, h => by
    unfold lastIn at h
    by_cases q : f n = v
    · rw [if_pos q] at h
      have := Option.some.inj h
      subst this
      exact ⟨by omega, q, fun j h1 h2 => by omega⟩
    · rw [if_neg q] at h
      obtain ⟨h1, h2, h3⟩ := lastIn_some h
      refine ⟨by omega, h2, fun j hj hj2 => ?_⟩
      rcases Nat.lt_or_ge j n with z | z
      · exact h3 j hj z
      · rw [show j = n by omega]; exact q
theorem lastIn_none {f : Nat → Nat} {v : Nat} : ∀ {n : Nat}, lastIn f v n = none → ∀ j, j < n → f j ≠ v
  | 0, _, j, hj => absurd hj (Nat.not_lt_zero j)
  | n + 1, h, j, hj => by
    unfold lastIn at h
    by_cases q : f n = v
    · rw [if_pos q] at h; cases h
    · rw [if_neg q] at h
      rcases Nat.lt_or_ge j n with z | z
      · exact lastIn_none h j z
      · rw [show j = n by omega]; exact q
/-- the searcher's rows hold what is known -/
def SInv (R : Nat → Nat) (Q : Nat → Nat → Int32) (S : Nat → Nat → Int64) (KP : List Pos) (ST : Nat → Nat) : Prop :=
  Q 0 1 = nI KP.length ∧ (∀ i, i < KP.length → Q 1 i = nI (ST i)) ∧ (∀ i P, KP[i]? = some P → SRow S i P ∧ WF R P) ∧
  (∀ v, v < 256 → Q 2 v = optI (lastIn (fun i => (KP[i]?.map bkN).getD 0) v KP.length)) ∧
  (∀ i, i < KP.length → Q 3 i = optI (lastIn (fun i => (KP[i]?.map bkN).getD 0) ((KP[i]?.map bkN).getD 0) i))
theorem s_known_L {R : Nat → Nat} {Q : Nat → Nat → Int32} {S : Nat → Nat → Int64} {KP : List Pos} {ST : Nat → Nat} (hR : RulesOk R) (h : SInv R Q S KP ST) (hlen : KP.length ≤ 400) {C : Pos} (wC : WF R C) (hC : SRow S KP.length C) :
    ∀ (m g n : Nat), m ≤ KP.length → g + m ≤ 400 → m < n → F_X2_isKnownAlready_L21 Q S n (optI (lastIn (fun i => (KP[i]?.map bkN).getD 0) (bkN C) m)) (nI g) = some (bi ((KP.take m).any (fun P => sameB P C))) := by
  have hsame : ∀ P : Pos, sameB P C = true → bkN P = bkN C := fun P hs => bkN_same hs
  intro m
  induction m using Nat.strongRecOn with
  | _ m ih =>
    intro g n hm hg hn
    obtain ⟨n, rfl⟩ : ∃ m, n = m + 1 := ⟨n - 1, by omega⟩
    have any_none : ∀ a b, a ≤ b → b ≤ KP.length → (∀ j, a ≤ j → j < b → (KP[j]?.map bkN).getD 0 ≠ bkN C) → (KP.take b).any (fun P => sameB P C) = (KP.take a).any (fun P => sameB P C) := by
      intro a b hab hb hno
      rw [Bool.eq_iff_iff, List.any_eq_true, List.any_eq_true]
      constructor
      · rintro ⟨P, hP, hs⟩
        obtain ⟨j, hj, e⟩ := List.getElem_of_mem hP
        rw [List.length_take] at hj
        rw [List.getElem_take] at e
        have e2 : KP[j]? = some P := by rw [List.getElem?_eq_getElem (by omega), e]
        rcases Nat.lt_or_ge j a with q | q
        · exact ⟨P, List.mem_of_getElem? (i := j) (by rw [List.getElem?_take_of_lt q]; exact e2), hs⟩
        · have := hno j q (by omega)
          rw [e2] at this
          exact absurd (hsame P hs) this
      · rintro ⟨P, hP, hs⟩
        refine ⟨P, ?_, hs⟩
        have : KP.take a = (KP.take b).take a := by rw [List.take_take]; congr 1; omega
        rw [this] at hP
        exact List.mem_of_mem_take hP
    show F_X2_isKnownAlready_s21 Q S (F_X2_isKnownAlready_L21 Q S n) _ _ = _
    unfold F_X2_isKnownAlready_s21
    cases hl : lastIn (fun i => (KP[i]?.map bkN).getD 0) (bkN C) m with
    | none =>
      have := any_none 0 m (by omega) hm (fun j _ hj => lastIn_none hl j hj)
      rw [this, optI_none]
      by_cases q : (nI 400 : Int32) ≤ nI g
      · rw [if_pos q]; rfl
      · rw [if_neg q, if_pos rfl]; rfl
    | some i =>
      obtain ⟨h1, h2, h3⟩ := lastIn_some hl
      have hi : i < KP.length := by omega
      have e : KP[i]? = some KP[i] := List.getElem?_eq_getElem hi
      generalize KP[i] = P at e
      obtain ⟨r1, w1⟩ := h.2.2.1 i P e
      rw [optI_some, if_neg (nI_ge (by omega) (by omega)), if_neg (by rw [nI_negone (by omega)]; exact id), h.1, s_areSame ⟨loN_lt w1.1, hiN_lt w1.1 (w1.tu2 hR)⟩ ⟨loN_lt wC.1, hiN_lt wC.1 (wC.tu2 hR)⟩ (by omega) (by omega) r1 hC, cal1_s, bi_if]
      have a1 := any_none (i + 1) m (by omega) hm (fun j hj hj2 => h3 j (by omega) hj2)
      have a2 : (KP.take (i + 1)).any (fun P => sameB P C) = ((KP.take i).any (fun P => sameB P C) || sameB P C) := by
        rw [List.take_add_one, e, List.any_append]; simp
      rw [a1, a2]
      by_cases q : sameB P C = true
      · rw [if_pos q, q, Bool.or_true]; rfl
      · rw [if_neg q]
        simp only [Bool.not_eq_true] at q
        rw [q, Bool.or_false, s_at (by omega) (by omega), cal1_s, h.2.2.2.2 i hi, nI_add]
        have h2' : (KP[i]?.map bkN).getD 0 = bkN C := h2
        rw [h2']
        exact ih i h1 (g + 1) n (by omega) (by omega) (by omega)
theorem s_isKnown {R : Nat → Nat} {Q : Nat → Nat → Int32} {S : Nat → Nat → Int64} {KP : List Pos} {ST : Nat → Nat} (hR : RulesOk R) (h : SInv R Q S KP ST) (hlen : KP.length ≤ 400) {C : Pos} (wC : WF R C) (hC : SRow S KP.length C) : F_X2_isKnownAlready Q S = some (bi (knownB KP C)) := by
  have hb := bkN_lt C
  unfold F_X2_isKnownAlready
  rw [h.1, s_bucketOf (by omega) hC, cal1_s, s_at (by omega) hb, cal1_s, h.2.2.2.1 _ hb, s_known_L hR h hlen wC hC KP.length 0 FU (Nat.le_refl _) (by omega) (FU_gt (by omega))]
  rw [List.take_length]; rfl
theorem s_makeKnown {R : Nat → Nat} {Q : Nat → Nat → Int32} {S : Nat → Nat → Int64} {KP : List Pos} {ST : Nat → Nat} (h : SInv R Q S KP ST) (hlen : KP.length < 401) {C : Pos} (wC : WF R C) (hC : SRow S KP.length C) (st : Nat) (ST' : Nat → Nat) (h1 : ∀ i, i < KP.length → ST' i = ST i) (h2 : ST' KP.length = st) :
    ∃ Q', F_X2_makeKnown S Q (nI st) = some Q' ∧ SInv R Q' S (KP ++ [C]) ST' := by
  have hb := bkN_lt C
  unfold F_X2_makeKnown
  rw [h.1, s_bucketOf (by omega) hC, cal1_s, s_put (by omega) hlen, cal1_s, bnd_s, setc_upd, s_at (by omega) hb, cal1_s]
  have e01 : st2 Q 1 KP.length (nI st) 0 1 = nI KP.length := by rw [st2_s, if_neg (by omega)]; exact h.1
  have e2 : st2 Q 1 KP.length (nI st) 2 (bkN C) = Q 2 (bkN C) := by rw [st2_s, if_neg (by omega)]
  rw [e01, e2, s_put (by omega) hlen, cal1_s, bnd_s, setc_upd]
  have e01' : st2 (st2 Q 1 KP.length (nI st)) 3 KP.length (Q 2 (bkN C)) 0 1 = nI KP.length := by rw [st2_s, if_neg (by omega)]; exact e01
  rw [e01', s_put (by omega) hb, cal1_s, bnd_s, setc_upd, bnd_s]
  have e01'' : st2 (st2 (st2 Q 1 KP.length (nI st)) 3 KP.length (Q 2 (bkN C))) 2 (bkN C) (nI KP.length) 0 1 = nI KP.length := by rw [st2_s, if_neg (by omega)]; exact e01'
  rw [e01'', nI_add]
  have old : ∀ i, i < KP.length → ((KP ++ [C])[i]?.map bkN).getD 0 = (KP[i]?.map bkN).getD 0 := fun i hi => by rw [List.getElem?_append_left hi]
  have new : ((KP ++ [C])[KP.length]?.map bkN).getD 0 = bkN C := by rw [List.getElem?_append_right (Nat.le_refl _)]; simp
  refine ⟨_, rfl, ?_, ?_, ?_, ?_, ?_⟩
  · simp [st2_s]
  · intro i hi
    rw [List.length_append] at hi
    simp only [List.length_singleton] at hi
    by_cases q : i = KP.length
    · subst q; simp [st2_s, h2]
    · rw [h1 i (by omega), ← h.2.1 i (by omega)]; simp [st2_s, q]
  · intro i P hi
    by_cases q : i < KP.length
    · rw [List.getElem?_append_left q] at hi; exact h.2.2.1 i P hi
    · rw [List.getElem?_append_right (by omega)] at hi
      by_cases q2 : i = KP.length
      · subst q2; simp at hi; subst hi; exact ⟨hC, wC⟩
      · rw [List.getElem?_eq_none (by simp; omega)] at hi; cases hi
  · intro v hv
    rw [List.length_append, List.length_singleton, lastIn_succ]
    simp only [new]
    rw [lastIn_congr old]
    by_cases q : bkN C = v
    · subst q; rw [if_pos rfl]; simp [st2_s, optI_some]
    · rw [if_neg q, ← h.2.2.2.1 v hv]
      have : v ≠ bkN C := fun e => q e.symm
      simp [st2_s, this]
  · intro i hi
    rw [List.length_append] at hi
    simp only [List.length_singleton] at hi
    by_cases q : i = KP.length
    · subst q
      rw [new, lastIn_congr old, ← h.2.2.2.1 _ hb]
      simp [st2_s]
    · rw [old i (by omega), lastIn_congr (fun j hj => old j (by omega)), ← h.2.2.2.2 i (by omega)]
      simp [st2_s, q]
end
section
/-! ===== the class's search is the search told ===== -/
theorem s_fill_L {n : Nat} (hn : n < 2 ^ 31) (v : Int32) : ∀ (j k m : Nat) (f : Nat → Int32), k + j = n → j < m → ∃ f', F_J7_fill_53178_L5 n m f v (nI k) (nI n) = some f' ∧ ∀ i, f' i = if k ≤ i ∧ i < n then v else f i := by
  intro j
  induction j with
  | zero =>
    intro k m f hk hm
    obtain ⟨m, rfl⟩ : ∃ q, m = q + 1 := ⟨m - 1, by omega⟩
    refine ⟨f, ?_, fun i => by rw [if_neg (by omega)]⟩
    show F_J7_fill_53178_s5 n (F_J7_fill_53178_L5 n m) _ _ _ _ = _
    unfold F_J7_fill_53178_s5
    rw [if_pos (nI_le (by omega) (by omega))]
  | succ j ih =>
    intro k m f hk hm
    obtain ⟨m, rfl⟩ : ∃ q, m = q + 1 := ⟨m - 1, by omega⟩
    show ∃ f', F_J7_fill_53178_s5 n (F_J7_fill_53178_L5 n m) _ _ _ _ = _ ∧ _
    unfold F_J7_fill_53178_s5
    rw [if_neg (nI_ge (by omega) (by omega)), wr1_n _ (by omega) (by omega), nI_add]
    obtain ⟨f', e1, e2⟩ := ih (k + 1) m (upd f k v) (by omega) (by omega)
    refine ⟨f', e1, fun i => ?_⟩
    rw [e2, upd_s]
    by_cases q : i = k
    · subst q; rw [if_neg (by omega), if_pos rfl, if_pos (by omega)]
    · by_cases q2 : k + 1 ≤ i ∧ i < n
      · rw [if_pos q2, if_pos (by omega)]
      · rw [if_neg q2, if_neg q, if_neg (by omega)]
theorem s_fill {n : Nat} (hn : n < 4000) (v : Int32) (f : Nat → Int32) : ∃ f', F_J7_fill_53178 n f v = some f' ∧ ∀ i, f' i = if i < n then v else f i := by
  obtain ⟨f', e1, e2⟩ := s_fill_L (show n < 2 ^ 31 by omega) v n 0 FU f (by omega) (FU_gt (by omega))
  exact ⟨f', e1, fun i => by rw [e2]; simp⟩
theorem SInv.cong {R : Nat → Nat} {Q : Nat → Nat → Int32} {S S' : Nat → Nat → Int64} {KP : List Pos} {ST ST' : Nat → Nat} (h : SInv R Q S KP ST) (h1 : ∀ k j, j < KP.length → S' k j = S k j) (h2 : ∀ i, i < KP.length → ST' i = ST i) : SInv R Q S' KP ST' := by
  refine ⟨h.1, fun i hi => by rw [h2 i hi]; exact h.2.1 i hi, ?_, h.2.2.2.1, h.2.2.2.2⟩
  intro i P hP
  have hi := (List.getElem?_eq_some_iff.mp hP).1
  obtain ⟨r, w⟩ := h.2.2.1 i P hP
  exact ⟨⟨(h1 0 i hi).trans r.1, (h1 1 i hi).trans r.2.1, (h1 2 i hi).trans r.2.2⟩, w⟩
theorem expA_len {R : Nat → Nat} {b : Nat} {P : Pos} : ∀ (ms : List Nat) (KP : List Pos), KP.length ≤ b → (expA R b P ms KP).1.length ≤ b ∧ KP.length ≤ (expA R b P ms KP).1.length
  | [], KP, h => ⟨h, Nat.le_refl _⟩
  | m :: r, KP, h => by
    unfold expA
    split
    · exact expA_len r KP h
    · split
      · rename_i q
        have hl : (KP ++ [playC R P m]).length ≤ b := by simp; omega
        split
        · exact ⟨hl, by simp⟩
        · have := expA_len (R := R) (P := P) r (KP ++ [playC R P m]) hl
          exact ⟨this.1, by have := this.2; simp only [List.length_append, List.length_singleton] at this; omega⟩
      · exact ⟨h, Nat.le_refl _⟩
theorem s_exp {r : Nat → Int32} {R : Nat → Nat} {P : Pos} {To : Nat → Nat → Int32} (hr : RR r R) (w : WF R P) (hT : LRep To P (mvs R P)) {b k step : Nat} (hb : b ≤ 400) (ST : Nat → Nat) (K55 : (Nat → Nat → Int32) → (Nat → Nat → Int32) → (Nat → Nat → Int32) → (Nat → Nat → Int64) → Int32 → Int32 → Option (Int32 × (Nat → Nat → Int32) × (Nat → Nat → Int32) × (Nat → Nat → Int32) × (Nat → Nat → Int64))) :
    ∀ (ms : List Nat) (i n : Nat) (Q Tt : Nat → Nat → Int32) (S : Nat → Nat → Int64) (KP : List Pos), (mvs R P).drop i = ms → i ≤ (mvs R P).length → ms.length < n → SInv R Q S KP ST → KP.length ≤ b → (∀ j, KP.length ≤ j → ST j = step) →
    ∃ Q' Tt' S', SInv R Q' S' (expA R b P ms KP).1 ST ∧ F_X2_run_L101 r K55 n Q To Tt S (nI b) (nI k) (nI step) (nI i) =
      (if (expA R b P ms KP).2 = 1 then some (nI step, Q', To, Tt', S') else if (expA R b P ms KP).2 = 2 then some (-2, Q', To, Tt', S') else K55 Q' To Tt' S' (nI b) (nI (k + 1))) := by
  have hml := mvs_le hr.2 w.1
  intro ms
  induction ms with
  | nil =>
    intro i n Q Tt S KP hms hi hn hI hlen hst
    obtain ⟨n, rfl⟩ : ∃ q, n = q + 1 := ⟨n - 1, by simp at hn; omega⟩
    have : (mvs R P).length ≤ i := by rwa [List.drop_eq_nil_iff] at hms
    refine ⟨Q, Tt, S, hI, ?_⟩
    show F_X2_run_s101 r K55 (F_X2_run_L101 r K55 n) _ _ _ _ _ _ _ _ = _
    unfold F_X2_run_s101
    rw [hT.2.1, if_pos (nI_le this (by omega)), nI_add]
    rfl
  | cons m rs ih =>
    intro i n Q Tt S KP hms hi hn hI hlen hst
    obtain ⟨n, rfl⟩ : ∃ q, n = q + 1 := ⟨n - 1, by simp at hn; omega⟩
    have hlt : i < (mvs R P).length := by
      rcases Nat.lt_or_ge i (mvs R P).length with q | q
      · exact q
      · rw [List.drop_eq_nil_of_le q] at hms; cases hms
    have hm : (mvs R P)[i]? = some m := by
      have := List.getElem?_drop (xs := mvs R P) (i := i) (j := 0)
      rw [hms] at this; simpa using this.symm
    have hmem : m ∈ mvs R P := List.mem_of_getElem? hm
    have hrs : (mvs R P).drop (i + 1) = rs := by
      rw [← List.drop_drop, hms]; rfl
    show ∃ Q' Tt' S', _ ∧ F_X2_run_s101 r K55 (F_X2_run_L101 r K55 n) _ _ _ _ _ _ _ _ = _
    unfold F_X2_run_s101
    rw [hT.2.1, if_neg (nI_ge hlt (by omega))]
    obtain ⟨T1, c1, c2, -, -⟩ := s_copyFrom (T0 := Tt) hT.1
    rw [c1, cal1_s, s_listedAt hT (by omega) (by omega), hm, optI_some, cal1_s]
    obtain ⟨T2, d1, d2⟩ := s_playC c2 w hr.2 hmem
    have wC := wf_playC w hr.2 hmem
    rw [d1, cal1_s, hI.1]
    obtain ⟨S1, f1, f2, f3⟩ := s_keep (S := S) (n := 401) (i := KP.length) d2 wC.1 (by omega) (by omega)
    rw [f1, cal1_s]
    have hI1 : SInv R Q S1 KP ST := hI.cong (fun k j hj => f3 k j (by omega)) (fun _ _ => rfl)
    rw [s_isKnown hr.2 hI1 (by omega) wC f2, cal1_s, bi_if, nI_add]
    unfold expA
    by_cases q : knownB KP (playC R P m) = true
    · rw [if_pos q, if_pos q]
      exact ih (i + 1) n Q T2 S1 KP hrs (by omega) (by simp at hn; omega) hI1 hlen hst
    · rw [if_neg q, if_neg q]
      by_cases q2 : KP.length < b
      · rw [if_pos (nI_lt q2 (by omega)), if_pos q2]
        obtain ⟨Q1, g1, g2⟩ := s_makeKnown hI1 (by omega) wC f2 step ST (fun _ _ => rfl) (hst _ (Nat.le_refl _))
        rw [g1, cal1_s, s_isWon d2 wC hr, cal1_s, bi_if]
        by_cases q3 : wonB R (playC R P m) = true
        · rw [if_pos q3, if_pos q3]
          exact ⟨Q1, T2, S1, g2, rfl⟩
        · rw [if_neg q3, if_neg q3]
          exact ih (i + 1) n Q1 T2 S1 (KP ++ [playC R P m]) hrs (by omega) (by simp at hn; omega) g2 (by simp; omega) (fun j hj => hst j (by simp at hj; omega))
      · rw [if_neg (nI_nlt (by omega) (by omega)), if_neg q2]
        exact ⟨Q, T2, S1, hI1, rfl⟩
theorem expA_st {R : Nat → Nat} {b : Nat} {P : Pos} : ∀ (ms : List Nat) (KP : List Pos), (expA R b P ms KP).2 ≤ 2
  | [], KP => Nat.zero_le _
  | m :: r, KP => by
    unfold expA
    repeat' split
    · exact expA_st r KP
    · exact (by omega : (1 : Nat) ≤ 2)
    · exact expA_st r _
    · exact Nat.le_refl _
theorem s_bfs {r : Nat → Int32} {R : Nat → Nat} (hr : RR r R) {b : Nat} (hb : b ≤ 400) :
    ∀ (m k n : Nat) (Q To Tt : Nat → Nat → Int32) (S : Nat → Nat → Int64) (KP : List Pos) (ST : Nat → Nat), b + 1 ≤ k + m → m < n → k ≤ 401 → SInv R Q S KP ST → KP.length ≤ b →
    ∃ Q' To' Tt' S', F_X2_run_L55 r n Q To Tt S (nI b) (nI k) = some ((bfsA R b m k KP ST).1, Q', To', Tt', S') ∧ Q' 0 1 = nI (bfsA R b m k KP ST).2.length ∧ (bfsA R b m k KP ST).2.length ≤ b := by
  intro m
  induction m with
  | zero =>
    intro k n Q To Tt S KP ST hk hn hk1 hI hlen
    obtain ⟨n, rfl⟩ : ∃ q, n = q + 1 := ⟨n - 1, by omega⟩
    refine ⟨Q, To, Tt, S, ?_, hI.1, hlen⟩
    show F_X2_run_s55 r (F_X2_run_L55 r n) _ _ _ _ _ _ = _
    unfold F_X2_run_s55
    rw [hI.1, if_pos (nI_le (by omega) (by omega))]
    rfl
  | succ m ih =>
    intro k n Q To Tt S KP ST hk hn hk1 hI hlen
    obtain ⟨n, rfl⟩ : ∃ q, n = q + 1 := ⟨n - 1, by omega⟩
    show ∃ Q' To' Tt' S', F_X2_run_s55 r (F_X2_run_L55 r n) _ _ _ _ _ _ = _ ∧ _
    unfold F_X2_run_s55 bfsA
    rw [hI.1]
    cases hP : KP[k]? with
    | none =>
      have : KP.length ≤ k := by rwa [List.getElem?_eq_none_iff] at hP
      rw [if_pos (nI_le this (by omega))]
      exact ⟨Q, To, Tt, S, rfl, hI.1, hlen⟩
    | some P =>
      have hlt := (List.getElem?_eq_some_iff.mp hP).1
      obtain ⟨rw1, wP⟩ := hI.2.2.1 k P hP
      rw [if_neg (nI_ge hlt (by omega)), if_neg (nI_ge (by omega) (by omega)), s_at (by omega) (by omega), cal1_s, hI.2.1 k hlt]
      obtain ⟨T1, e1, e2⟩ := s_fetch (T := To) wP.1 (wP.tu2 hr.2) (n := 401) (by omega) (by omega) rw1
      rw [e1, cal1_s]
      obtain ⟨T2, g1, g2⟩ := s_listMoves e2 wP hr
      rw [g1, cal1_s, nI_add]
      have hml := mvs_le hr.2 wP.1
      have hI1 : SInv R Q S KP (fun i => if i < KP.length then ST i else ST k + 1) := hI.cong (fun _ _ _ => rfl) (fun i hi => if_pos hi)
      obtain ⟨Q', Tt', S', h1, h2⟩ := s_exp hr wP g2 (b := b) (k := k) (step := ST k + 1) hb _ (F_X2_run_L55 r n) (mvs R P) 0 FU Q Tt S KP rfl (Nat.zero_le _) (FU_gt (by omega)) hI1 hlen (fun j hj => if_neg (by omega))
      rw [h2]
      have hl2 := expA_len (R := R) (P := P) (mvs R P) KP hlen
      dsimp only
      by_cases q1 : (expA R b P (mvs R P) KP).2 = 1
      · simp only [q1, if_true]
        exact ⟨Q', T2, Tt', S', rfl, h1.1, hl2.1⟩
      · by_cases q2 : (expA R b P (mvs R P) KP).2 = 2
        · rw [if_neg q1, if_neg q1, if_pos q2, if_pos q2]
          exact ⟨Q', T2, Tt', S', rfl, h1.1, hl2.1⟩
        · rw [if_neg q1, if_neg q1, if_neg q2, if_neg q2]
          exact ih (k + 1) n Q' T2 Tt' S' _ _ (by omega) (by omega) (by omega) h1 hl2.1
theorem s_run {r : Nat → Int32} {R : Nat → Nat} {P : Pos} {Tt : Nat → Nat → Int32} (hr : RR r R) (h : TRep Tt P) (w : WF R P) {b : Nat} (hb1 : 1 ≤ b) (hb : b ≤ 400) (Q To : Nat → Nat → Int32) (S : Nat → Nat → Int64) :
    ∃ Q' To' Tt' S', F_X2_run r Q To Tt S (nI b) = some ((searchA R b P).1, Q', To', Tt', S') ∧ Q' 0 1 = nI (searchA R b P).2.length ∧ (searchA R b P).2.length ≤ b := by
  unfold F_X2_run
  obtain ⟨f', a1, a2⟩ := s_fill (n := 256) (by omega) (-1) (Q 2)
  rw [a1, cal1_s, bnd_s, bnd_s]
  obtain ⟨To1, b1, b2, -, -⟩ := s_copyFrom (T0 := To) h
  rw [b1, cal1_s]
  obtain ⟨S1, c1, c2, c3⟩ := s_keep (S := S) (n := 401) (i := 0) h w.1 (by omega) (by omega)
  rw [c1, cal1_s]
  have hI0 : SInv R (st2 (setc Q 2 f') 0 1 (nI 0)) S1 [] (fun _ => 0) := by
    refine ⟨by simp [st2_s], fun i hi => absurd hi (Nat.not_lt_zero i), fun i P hP => by simp at hP, ?_, fun i hi => absurd hi (Nat.not_lt_zero i)⟩
    intro v hv
    simp [st2_s, setc_s, a2, hv, lastIn, optI_none]
  obtain ⟨Q1, d1, d2⟩ := s_makeKnown (ST := fun _ => 0) hI0 (by simp) w c2 0 (fun _ => 0) (fun _ _ => rfl) rfl
  rw [d1, cal1_s, s_isWon h w hr, cal1_s, bi_if]
  unfold searchA
  by_cases q : wonB R P = true
  · rw [if_pos q, if_pos q]
    exact ⟨Q1, To1, Tt, S1, rfl, d2.1, by simp; omega⟩
  · rw [if_neg q, if_neg q]
    exact s_bfs hr hb 1000 0 FU Q1 To1 Tt S1 [P] (fun _ => 0) (by omega) (FU_gt (by omega)) (by omega) d2 (by simp; omega)
end
section
/-! ===== deals: drawing ===== -/
def nextN (mc x : Nat) : Nat := if mc = 0 then (x * 214013 + 2531011) % 2147483648 else (x * 1103515245 + 12345) % 2147483648
/-- the cards in the order in which a machine takes them: l cards lie in a row -/
def drawL (mc : Nat) : Nat → Nat → (Nat → Nat) → List Nat
  | 0, _, _ => []
  | l + 1, x, row => row (nextN mc x / 65536 % 32768 % (l + 1)) :: drawL mc l (nextN mc x) (fun i => if i = nextN mc x / 65536 % 32768 % (l + 1) then row l else row i)
theorem nextN_lt (mc x : Nat) : nextN mc x < 2147483648 := by
  unfold nextN
  split <;> exact Nat.mod_lt _ (by omega)
theorem s_nextOf {mc x : Nat} (hm : mc < 2) : F_X0_nextOf (nI mc) (nI x) = some (nI (nextN mc x)) := by
  have mk : ∀ n, nI n &&& nI 2147483647 = nI (n % 2147483648) := fun n => fa_mask n 31
  unfold F_X0_nextOf F_X0_nextOf_b22 nextN
  by_cases q : mc = 0
  · subst q; rw [if_pos rfl, if_pos rfl, pk_mul, nI_add, mk]
  · rw [if_neg (by rw [nI_eq (by omega) (by omega)]; exact q), if_neg q, pk_mul, nI_add, mk]
theorem drawL_len (mc : Nat) : ∀ (l x : Nat) (row : Nat → Nat), (drawL mc l x row).length = l
  | 0, _, _ => rfl
  | l + 1, x, row => by
    show (drawL mc l _ _).length + 1 = l + 1
    rw [drawL_len mc l]
theorem drawL_mem (mc : Nat) : ∀ (l x : Nat) (row : Nat → Nat) (c : Nat), c ∈ drawL mc l x row ↔ ∃ i, i < l ∧ row i = c
  | 0, _, _, c => by simp [drawL]
  | l + 1, x, row, c => by
    unfold drawL
    rw [List.mem_cons, drawL_mem mc l]
    have hp : nextN mc x / 65536 % 32768 % (l + 1) < l + 1 := Nat.mod_lt _ (by omega)
    generalize nextN mc x / 65536 % 32768 % (l + 1) = p at hp
    constructor
    · rintro (e | ⟨i, hi, e⟩)
      · exact ⟨p, hp, e.symm⟩
      · by_cases q : i = p
        · rw [if_pos q] at e; exact ⟨l, by omega, e⟩
        · rw [if_neg q] at e; exact ⟨i, by omega, e⟩
    · rintro ⟨i, hi, e⟩
      by_cases q : i = p
      · left; rw [← q]; exact e.symm
      · right
        rcases Nat.lt_or_ge i l with z | z
        · exact ⟨i, z, by rw [if_neg q]; exact e⟩
        · have : i = l := by omega
          subst this
          exact ⟨p, by omega, by rw [if_pos rfl]; exact e⟩
theorem drawL_nodup (mc : Nat) : ∀ (l x : Nat) (row : Nat → Nat), (∀ i j, i < l → j < l → row i = row j → i = j) → (drawL mc l x row).Nodup
  | 0, _, _, _ => List.nodup_nil
  | l + 1, x, row, h => by
    unfold drawL
    have hp : nextN mc x / 65536 % 32768 % (l + 1) < l + 1 := Nat.mod_lt _ (by omega)
    generalize nextN mc x / 65536 % 32768 % (l + 1) = p at hp
    rw [List.nodup_cons]
    constructor
    · rw [drawL_mem]
      rintro ⟨i, hi, e⟩
      by_cases q : i = p
      · rw [if_pos q] at e
        have := h l p (by omega) hp e
        omega
      · rw [if_neg q] at e
        exact q (h i p (by omega) hp e)
    · apply drawL_nodup mc l
      intro i j hi hj e
      by_cases q : i = p <;> by_cases q2 : j = p
      · omega
      · rw [if_pos q, if_neg q2] at e
        have := h l j (by omega) (by omega) e
        omega
      · rw [if_neg q, if_pos q2] at e
        have := h i l (by omega) (by omega) e
        omega
      · rw [if_neg q, if_neg q2] at e
        exact h i j (by omega) (by omega) e
theorem s_draw_L39 {mc N : Nat} (hm : mc < 2) (hN : N ≤ 16) : ∀ (l x n : Nat) (D : Nat → Nat → Int32) (row : Nat → Nat), l ≤ N → l < n → (∀ i, i < l → D 0 i = nI (row i)) → ∃ D', F_X0_draw_L39 n D (nI mc) (nI N) (nI x) (nI l) = some D' ∧ (∀ i c, (drawL mc l x row)[i]? = some c → D' 1 (N - l + i) = nI c) ∧ ∀ i, i < N - l → D' 1 i = D 1 i := by
  intro l
  induction l with
  | zero =>
    intro x n D row hl hn hD
    obtain ⟨n, rfl⟩ : ∃ q, n = q + 1 := ⟨n - 1, by omega⟩
    refine ⟨D, ?_, fun i c h => by simp [drawL] at h, fun i _ => rfl⟩
    show F_X0_draw_s39 (F_X0_draw_L39 n) _ _ _ _ _ = _
    unfold F_X0_draw_s39
    rw [if_pos (by exact Int32.le_refl _)]
  | succ l ih =>
    intro x n D row hl hn hD
    obtain ⟨n, rfl⟩ : ∃ q, n = q + 1 := ⟨n - 1, by omega⟩
    show ∃ D', F_X0_draw_s39 (F_X0_draw_L39 n) _ _ _ _ _ = _ ∧ _
    unfold F_X0_draw_s39
    have hx := nextN_lt mc x
    have hp : nextN mc x / 65536 % 32768 % (l + 1) < l + 1 := Nat.mod_lt _ (by omega)
    rw [if_neg (nI_ge (by omega) (by omega)), s_nextOf hm, cal1_s, nz_n _ (by omega) (by omega), nz_n _ (by omega) (by omega), nz_n _ (by omega) (by omega), pk_div (by omega) (by omega) (by omega), pk_rem (by omega) (by omega) (by omega), pk_rem (by omega) (by omega) (by omega)]
    unfold drawL
    generalize nextN mc x / 65536 % 32768 % (l + 1) = p at hp ⊢
    rw [s_at (by omega) (by omega), cal1_s, pk_sub (by omega), s_put (by omega) (by omega), cal1_s, bnd_s, setc_upd, pk_sub (by omega), s_at (by omega) (by omega), cal1_s, s_put (by omega) (by omega), cal1_s, bnd_s, setc_upd, pk_m1, hD p hp]
    obtain ⟨D', e1, e2, e3⟩ := ih (nextN mc x) n _ (fun i => if i = p then row l else row i) (by omega) (by omega) (show ∀ i, i < l → st2 (st2 D 1 (N - (l + 1)) (nI (row p))) 0 p (st2 D 1 (N - (l + 1)) (nI (row p)) 0 (l + 1 - 1)) 0 i = nI (if i = p then row l else row i) from by
      intro i hi
      rw [st2_s]
      by_cases q : i = p
      · rw [if_pos ⟨rfl, q⟩, if_pos q, st2_s, if_neg (by omega), show l + 1 - 1 = l by omega]; exact hD l (by omega)
      · rw [if_neg (by omega), if_neg q, st2_s, if_neg (by omega)]; exact hD i (by omega))
    refine ⟨D', e1, ?_, ?_⟩
    · intro i c h
      cases i with
      | zero =>
        simp only [List.getElem?_cons_zero, Option.some.injEq] at h
        subst h
        rw [e3 _ (by omega), st2_s, if_neg (by omega), st2_s, if_pos ⟨rfl, by omega⟩]
      | succ i =>
        simp only [List.getElem?_cons_succ] at h
        rw [show N - (l + 1) + (i + 1) = N - l + i by omega]
        exact e2 i c h
    · intro i hi
      rw [e3 i (by omega), st2_s, if_neg (by omega), st2_s, if_neg (by omega)]
theorem s_draw_L3 {mc N x : Nat} (hm : mc < 2) (hN : N ≤ 16) : ∀ (j k n : Nat) (D : Nat → Nat → Int32), k + j = 16 → j < n → (∀ i, i < k → D 0 i = nI i) → ∃ D', F_X0_draw_L3 n D (nI mc) (nI x) (nI N) (nI k) = some D' ∧ ∀ i c, (drawL mc N x id)[i]? = some c → D' 1 i = nI c := by
  intro j
  induction j with
  | zero =>
    intro k n D hk hn hD
    obtain ⟨n, rfl⟩ : ∃ q, n = q + 1 := ⟨n - 1, by omega⟩
    show ∃ D', F_X0_draw_s3 (F_X0_draw_L3 n) _ _ _ _ _ = _ ∧ _
    unfold F_X0_draw_s3 F_X0_draw_b28
    rw [if_pos (nI_le (by omega) (by omega)), if_neg (nI_nlt (by omega) (by omega))]
    obtain ⟨D', e1, e2, -⟩ := s_draw_L39 hm hN N x FU D id (Nat.le_refl _) (FU_gt (by omega)) (fun i hi => hD i (by omega))
    refine ⟨D', e1, fun i c h => ?_⟩
    have := e2 i c h
    rwa [show N - N + i = i by omega] at this
  | succ j ih =>
    intro k n D hk hn hD
    obtain ⟨n, rfl⟩ : ∃ q, n = q + 1 := ⟨n - 1, by omega⟩
    show ∃ D', F_X0_draw_s3 (F_X0_draw_L3 n) _ _ _ _ _ = _ ∧ _
    unfold F_X0_draw_s3
    rw [if_neg (nI_ge (by omega) (by omega)), wrA_n _ (by omega) (by omega), nI_add]
    refine ih (k + 1) n _ (by omega) (by omega) (fun i hi => ?_)
    rw [st2_s]
    by_cases q : i = k
    · rw [if_pos ⟨rfl, q⟩, q]
    · rw [if_neg (by omega)]; exact hD i (by omega)
/-- a drawing holds the cards taken -/
def DRep (D : Nat → Nat → Int32) (cs : List Nat) : Prop := ∀ i c, cs[i]? = some c → D 1 i = nI c
def cardsA (R : Nat → Nat) (mc x : Nat) : List Nat := drawL mc (R 0 * R 1) x id
theorem s_draw {mc x : Nat} {R : Nat → Nat} (hm : mc < 2) (hR : RulesOk R) (D : Nat → Nat → Int32) : ∃ D', F_X0_draw D (nI mc) (nI x) (nI (R 0 * R 1)) = some D' ∧ DRep D' (cardsA R mc x) :=
  s_draw_L3 hm (by unfold RulesOk at hR; omega) 16 0 FU D (by omega) (FU_gt (by omega)) (fun i hi => absurd hi (Nat.not_lt_zero i))
theorem cardsA_lt {R : Nat → Nat} {mc x c : Nat} (h : c ∈ cardsA R mc x) : c < R 0 * R 1 := by
  unfold cardsA at h
  rw [drawL_mem] at h
  obtain ⟨i, hi, e⟩ := h
  rw [← e]; exact hi
theorem cardsA_mem {R : Nat → Nat} {mc x c : Nat} (h : c < R 0 * R 1) : c ∈ cardsA R mc x := by
  unfold cardsA
  rw [drawL_mem]
  exact ⟨c, h, rfl⟩
theorem cardsA_nodup (R : Nat → Nat) (mc x : Nat) : (cardsA R mc x).Nodup := drawL_nodup mc _ x id (fun _ _ _ _ e => e)
theorem cardsA_len (R : Nat → Nat) (mc x : Nat) : (cardsA R mc x).length = R 0 * R 1 := drawL_len mc _ x id
theorem s_takenAt {D : Nat → Nat → Int32} {cs : List Nat} (h : DRep D cs) {i c : Nat} (hi : i < 16) (hc : cs[i]? = some c) : F_X0_takenAt D (nI i) = some (nI c) := by
  unfold F_X0_takenAt
  rw [s_at (by omega) hi, cal1_s, h i c hc]
theorem s_isSame_L {D D2 : Nat → Nat → Int32} {cs cs2 : List Nat} {N : Nat} (h : DRep D cs) (h2 : DRep D2 cs2) (hN : N ≤ 16) (l1 : cs.length = N) (l2 : cs2.length = N) (hc : ∀ c, c ∈ cs → c < 16) (hc2 : ∀ c, c ∈ cs2 → c < 16) : ∀ (j k n : Nat), k + j = N → j < n → F_X0_isSameAs_L2 D D2 n (nI N) (nI k) = some (bi (decide (cs.drop k = cs2.drop k))) := by
  intro j
  induction j with
  | zero =>
    intro k n hk hn
    obtain ⟨n, rfl⟩ : ∃ q, n = q + 1 := ⟨n - 1, by omega⟩
    show F_X0_isSameAs_s2 D D2 (F_X0_isSameAs_L2 D D2 n) _ _ = _
    unfold F_X0_isSameAs_s2
    rw [if_pos (nI_le (by omega) (by omega)), zb1, List.drop_eq_nil_of_le (by omega), List.drop_eq_nil_of_le (by omega)]; rfl
  | succ j ih =>
    intro k n hk hn
    obtain ⟨n, rfl⟩ : ∃ q, n = q + 1 := ⟨n - 1, by omega⟩
    show F_X0_isSameAs_s2 D D2 (F_X0_isSameAs_L2 D D2 n) _ _ = _
    unfold F_X0_isSameAs_s2
    have e1 : cs[k]? = some cs[k] := List.getElem?_eq_getElem (by omega)
    have e2 : cs2[k]? = some cs2[k] := List.getElem?_eq_getElem (by omega)
    have b1 := hc _ (List.mem_of_getElem? e1)
    have b2 := hc2 _ (List.mem_of_getElem? e2)
    rw [if_neg (nI_ge (by omega) (by omega)), s_takenAt h (by omega) e1, cal1_s, s_takenAt h2 (by omega) e2, cal1_s, nI_add, ih (k + 1) n (by omega) (by omega), List.drop_eq_getElem_cons (show k < cs.length by omega), List.drop_eq_getElem_cons (show k < cs2.length by omega)]
    generalize cs.drop (k + 1) = t1
    generalize cs2.drop (k + 1) = t2
    generalize cs[k] = a1 at b1 ⊢
    generalize cs2[k] = a2 at b2 ⊢
    by_cases q : a1 = a2
    · subst q; rw [if_pos rfl]; simp
    · rw [if_neg (by rw [nI_eq (by omega) (by omega)]; exact q), zb0]; simp [q, bi]
theorem s_isSameAs {D D2 : Nat → Nat → Int32} {cs cs2 : List Nat} {N : Nat} (h : DRep D cs) (h2 : DRep D2 cs2) (hN : N ≤ 16) (l1 : cs.length = N) (l2 : cs2.length = N) (hc : ∀ c, c ∈ cs → c < 16) (hc2 : ∀ c, c ∈ cs2 → c < 16) : F_X0_isSameAs D D2 (nI N) = some (bi (decide (cs = cs2))) :=
  s_isSame_L h h2 hN l1 l2 hc hc2 N 0 FU (by omega) (FU_gt (by omega))
end
section
/-! ===== deals: laying ===== -/
def putP (R : Nat → Nat) (P : Pos) (c p : Nat) : Pos := (fun q => if q = p then c :: P.1 p else P.1 q, fun q => if q = p ∧ p ≠ 9 ∧ R 8 = 1 then (P.1 p).length else P.2.1 q, P.2.2.1, P.2.2.2)
def placeA (R : Nat → Nat) (k : Nat) : Nat := if k < R 0 * R 1 - R 6 then k % R 2 else 9
def layP (R : Nat → Nat) : List Nat → Nat → Pos → Pos
  | [], _, P => P
  | c :: r, k, P => layP R r (k + 1) (putP R P c (placeA R k))
def emptyP : Pos := (fun _ => [], fun _ => 0, fun _ => 0, 0)
/-- the deal of a number -/
def dealP (R : Nat → Nat) (mc x : Nat) : Pos := layP R (cardsA R mc x) 0 emptyP
theorem placeA_lt {R : Nat → Nat} (hR : RulesOk R) (k : Nat) : placeA R k < 10 ∧ (placeA R k < R 2 ∨ placeA R k = 9) := by
  unfold RulesOk at hR
  unfold placeA
  have : k % R 2 < R 2 := Nat.mod_lt _ (by omega)
  split <;> omega
/-- what holds while a deal is laid: all but the last cards of columns are hidden, or none -/
def LayInv (R : Nat → Nat) (P : Pos) (done : List Nat) : Prop :=
  PosOk P ∧ (∀ p, p < 5 → P.2.1 p = if R 8 = 1 then (P.1 p).length - 1 else 0) ∧ (∀ p c, c ∈ P.1 p → c ∈ done) ∧ (∀ c, c ∈ done → ∃ p, c ∈ P.1 p) ∧ (∀ p, 5 ≤ p → p ≠ 9 → P.1 p = []) ∧ (∀ p, p < 5 → R 2 ≤ p → P.1 p = []) ∧ P.2.2.1 = (fun _ => 0) ∧ P.2.2.2 = 0
theorem putP_inv {R : Nat → Nat} {P : Pos} {done : List Nat} (hR : RulesOk R) (h : LayInv R P done) {c p : Nat} (hc : c < 16) (hn : c ∉ done) (hp : p < 10) (hp2 : p < R 2 ∨ p = 9) : LayInv R (putP R P c p) (done ++ [c]) := by
  obtain ⟨ho, h1, h2, h3, h4, h5, h6, h7⟩ := h
  have hR2 : R 2 ≤ 5 := by unfold RulesOk at hR; omega
  have cn : ∀ q, c ∉ P.1 q := fun q hq => hn (h2 q c hq)
  have ep : (putP R P c p).1 p = c :: P.1 p := by unfold putP; dsimp only; rw [if_pos rfl]
  have eq : ∀ q, q ≠ p → (putP R P c p).1 q = P.1 q := by intro q hq; unfold putP; dsimp only; rw [if_neg hq]
  have mem : ∀ q x, x ∈ (putP R P c p).1 q → (q = p ∧ x = c) ∨ x ∈ P.1 q := by
    intro q x hx
    by_cases z : q = p
    · rw [z, ep, List.mem_cons] at hx
      rcases hx with e | e
      · exact Or.inl ⟨z, e⟩
      · right; rw [z]; exact e
    · rw [eq q z] at hx; exact Or.inr hx
  have hh : ∀ q, q < 5 → (putP R P c p).2.1 q = if R 8 = 1 then ((putP R P c p).1 q).length - 1 else 0 := by
    intro q hq
    show (if q = p ∧ p ≠ 9 ∧ R 8 = 1 then (P.1 p).length else P.2.1 q) = _
    by_cases z : q = p
    · subst z
      rw [ep, h1 q hq]
      by_cases y : R 8 = 1
      · rw [if_pos ⟨rfl, by omega, y⟩, if_pos y]; rfl
      · rw [if_neg (fun e => y e.2.2), if_neg y, if_neg y]
    · rw [if_neg (fun e => z e.1), eq q z, h1 q hq]
  refine ⟨⟨?_, ?_, ?_, ?_, ?_, ?_⟩, hh, ?_, ?_, ?_, ?_, h6, h7⟩
  · intro q x hx
    rcases mem q x hx with ⟨-, e⟩ | e
    · rw [e]; exact hc
    · exact ho.1 q x e
  · intro q
    by_cases z : q = p
    · rw [z, ep, List.nodup_cons]; exact ⟨cn p, ho.2.1 p⟩
    · rw [eq q z]; exact ho.2.1 q
  · intro q s x hq hs
    rcases mem q x hq with ⟨q1, q2⟩ | q1 <;> rcases mem s x hs with ⟨s1, s2⟩ | s1
    · omega
    · rw [q2] at s1; exact absurd s1 (cn s)
    · rw [s2] at q1; exact absurd q1 (cn q)
    · exact ho.2.2.1 q s x q1 s1
  · intro q hq
    rw [eq q (by omega)]; exact ho.2.2.2.1 q hq
  · intro q
    by_cases q5 : q < 5
    · rw [hh q q5]
      split
      · rcases Nat.eq_zero_or_pos ((putP R P c p).1 q).length with z | z
        · left; omega
        · right; omega
      · exact Or.inl rfl
    · left
      show (if q = p ∧ p ≠ 9 ∧ R 8 = 1 then (P.1 p).length else P.2.1 q) = 0
      rw [if_neg (by omega)]; exact ho.2.2.2.2.2 q (by omega)
  · intro q hq
    show (if q = p ∧ p ≠ 9 ∧ R 8 = 1 then (P.1 p).length else P.2.1 q) = 0
    rw [if_neg (by omega)]; exact ho.2.2.2.2.2 q hq
  · intro q x hx
    rw [List.mem_append, List.mem_singleton]
    rcases mem q x hx with ⟨-, e⟩ | e
    · exact Or.inr e
    · exact Or.inl (h2 q x e)
  · intro x hx
    rw [List.mem_append, List.mem_singleton] at hx
    rcases hx with e | e
    · obtain ⟨q, hq⟩ := h3 x e
      refine ⟨q, ?_⟩
      by_cases z : q = p
      · rw [z, ep]; rw [z] at hq; exact List.mem_cons_of_mem _ hq
      · rw [eq q z]; exact hq
    · exact ⟨p, by rw [ep, e]; exact List.mem_cons_self⟩
  · intro q hq hq9; rw [eq q (by omega)]; exact h4 q hq hq9
  · intro q hq hq2; rw [eq q (by omega)]; exact h5 q hq hq2
theorem onN_put {R : Nat → Nat} {P : Pos} {done : List Nat} (hR : RulesOk R) (h : LayInv R P done) {c p : Nat} (hc : c < 16) (hn : c ∉ done) (hp : p < 10) (hp2 : p < R 2 ∨ p = 9) (x : Nat) : onN (putP R P c p) x = if x = c then (P.1 p).headD (floorN p) else onN P x := by
  have ho' := (putP_inv hR h hc hn hp hp2).1
  have ho := h.1
  have cn : ∀ q, c ∉ P.1 q := fun q hq => hn (h.2.2.1 q c hq)
  have ep : (putP R P c p).1 p = c :: P.1 p := by unfold putP; dsimp only; rw [if_pos rfl]
  have eq : ∀ q, q ≠ p → (putP R P c p).1 q = P.1 q := by intro q hq; unfold putP; dsimp only; rw [if_neg hq]
  by_cases e : x = c
  · subst e
    rw [if_pos rfl, onN_in ho' hp 0 (by rw [ep]; rfl), ep]
    cases P.1 p <;> rfl
  · rw [if_neg e]
    by_cases hx : ∃ q, x ∈ P.1 q
    · obtain ⟨q, hq⟩ := hx
      have hq10 := (ho.place hq).1
      obtain ⟨k, hk, e2⟩ := List.getElem_of_mem hq
      have hk2 : (P.1 q)[k]? = some x := by rw [List.getElem?_eq_getElem hk, e2]
      rw [onN_in ho hq10 k hk2]
      by_cases z : q = p
      · subst z
        rw [onN_in ho' hp (k + 1) (by rw [ep]; exact hk2), ep]; rfl
      · rw [onN_in ho' hq10 k (by rw [eq q z]; exact hk2), eq q z]
    · have hx : ∀ q, x ∉ P.1 q := fun q h => hx ⟨q, h⟩
      rw [(onN_20 ho).mpr hx, (onN_20 ho').mpr]
      intro q hq
      by_cases z : q = p
      · rw [z, ep, List.mem_cons] at hq
        rcases hq with y | y
        · exact e y
        · exact hx p y
      · rw [eq q z] at hq; exact hx q hq
theorem hidB_put {R : Nat → Nat} {P : Pos} {done : List Nat} (hR : RulesOk R) (h : LayInv R P done) {c p : Nat} (hc : c < 16) (hn : c ∉ done) (hp : p < 10) (hp2 : p < R 2 ∨ p = 9) (x : Nat) : hidB (putP R P c p) x = (hidB P x || decide (p ≠ 9 ∧ R 8 = 1 ∧ (P.1 p)[0]? = some x)) := by
  have hinv := putP_inv hR h hc hn hp hp2
  have ho' := hinv.1
  have ho := h.1
  have hR2 : R 2 ≤ 5 := by unfold RulesOk at hR; omega
  have cn : ∀ q, c ∉ P.1 q := fun q hq => hn (h.2.2.1 q c hq)
  have ep : (putP R P c p).1 p = c :: P.1 p := by unfold putP; dsimp only; rw [if_pos rfl]
  have eq : ∀ q, q ≠ p → (putP R P c p).1 q = P.1 q := by intro q hq; unfold putP; dsimp only; rw [if_neg hq]
  have off : ∀ Q : Pos, (∀ q, q < 5 → x ∉ Q.1 q) → hidB Q x = false := by
    intro Q hQ
    unfold hidB
    rw [List.any_eq_false]
    intro q hq hh
    have : x ∈ (Q.1 q).drop ((Q.1 q).length - Q.2.1 q) := by simpa using hh
    exact hQ q (by simpa using hq) (List.mem_of_mem_drop this)
  by_cases hx : ∃ q, q < 5 ∧ x ∈ P.1 q
  · obtain ⟨q, q5, hq⟩ := hx
    obtain ⟨k, hk, e2⟩ := List.getElem_of_mem hq
    have hk2 : (P.1 q)[k]? = some x := by rw [List.getElem?_eq_getElem hk, e2]
    rw [hidB_at ho q5 hk2, h.2.1 q q5]
    by_cases z : q = p
    · subst z
      have e3 : ((putP R P c q).1 q)[k + 1]? = some x := by rw [ep]; exact hk2
      rw [hidB_at ho' q5 e3, hinv.2.1 q q5, ep]
      have inj : (P.1 q)[0]? = some x ↔ k = 0 := by
        constructor
        · intro e; exact ((List.getElem?_inj hk (ho.2.1 q)).mp (hk2.trans e.symm))
        · intro e; subst e; exact hk2
      simp only [List.length_cons]
      by_cases y : R 8 = 1
      · simp only [y, if_true, inj, show q ≠ 9 by omega, ne_eq, not_false_eq_true, true_and]
        rw [Bool.eq_iff_iff]
        simp only [decide_eq_true_eq, Bool.or_eq_true]
        omega
      · simp only [y, if_false, false_and, and_false, decide_false, Bool.or_false]
        congr 1; simp only [eq_iff_iff]; omega
    · have e3 : ((putP R P c p).1 q)[k]? = some x := by rw [eq q z]; exact hk2
      rw [hidB_at ho' q5 e3, hinv.2.1 q q5, eq q z]
      have : (P.1 p)[0]? ≠ some x := fun e => z (ho.2.2.1 q p x hq (List.mem_of_getElem? e))
      simp [this]
  · have hx : ∀ q, q < 5 → x ∉ P.1 q := fun q hq h => hx ⟨q, hq, h⟩
    rw [off P hx, Bool.false_or]
    have e1 : decide (p ≠ 9 ∧ R 8 = 1 ∧ (P.1 p)[0]? = some x) = false := by
      apply decide_eq_false
      rintro ⟨p9, -, e⟩
      exact hx p (by omega) (List.mem_of_getElem? e)
    rw [e1]
    by_cases xc : x = c ∧ p < 5
    · obtain ⟨rfl, p5⟩ := xc
      have e3 : ((putP R P x p).1 p)[0]? = some x := by rw [ep]; rfl
      rw [hidB_at ho' p5 e3, hinv.2.1 p p5, ep]
      apply decide_eq_false
      simp only [List.length_cons]
      split <;> omega
    · apply off
      intro q q5 hq
      by_cases z : q = p
      · rw [z, ep, List.mem_cons] at hq
        rcases hq with y | y
        · exact xc ⟨y, by omega⟩
        · exact hx p (by omega) y
      · rw [eq q z] at hq; exact hx q q5 hq
theorem s_lay_step {T : Nat → Nat → Int32} {r : Nat → Int32} {R : Nat → Nat} {P : Pos} {done : List Nat} (hT : TRep T P) (hr : RR r R) (h : LayInv R P done) {c p : Nat} (hc : c < 16) (hn : c ∉ done) (hp : p < 10) (hp2 : p < R 2 ∨ p = 9) {D : Nat → Nat → Int32} {cs : List Nat} (hD : DRep D cs) {k : Nat} (hk : k < 16) (hck : cs[k]? = some c) (K : (Nat → Nat → Int32) → Int32 → Int32 → Option (Nat → Nat → Int32)) (v3 : Int32) :
    ∃ T', TRep T' (putP R P c p) ∧ F_X4_lay_b74 r D K T v3 (nI k) (nI p) = K T' v3 (nI (k + 1)) := by
  have ho := h.1
  have hR2 : R 2 ≤ 5 := by have := hr.2; unfold RulesOk at this; omega
  have hR8 : R 8 ≤ 1 := by have := hr.2; unfold RulesOk at this; omega
  obtain ⟨m, hm, em, hb⟩ := hT.2.2.1
  have step : ∀ (T1 : Nat → Nat → Int32) (m' : Nat), m' < 65536 → T1 0 5 = nI m' → (∀ x, x < 16 → m'.testBit x = (m.testBit x || decide (p ≠ 9 ∧ R 8 = 1 ∧ (P.1 p)[0]? = some x))) → T1 0 6 = T 0 6 → (∀ i, T1 1 i = T 1 i) → (∀ i, T1 2 i = T 2 i) →
      ∃ T', TRep T' (putP R P c p) ∧ F_X4_lay_b119 r D K T1 v3 (nI k) (nI p) = K T' v3 (nI (k + 1)) := by
    intro T1 m' hm' e5 hb5' e6 e1 e2
    unfold F_X4_lay_b119
    rw [s_takenAt hD hk hck, cal1_s, cal1_s, nI_add]
    have e2t : T1 2 p = topI (P.1 p) := by rw [e2]; exact hT.1 p hp
    have hx : nI ((P.1 p).headD (floorN p)) = if T1 2 p = -1 then nI (floorN p) else T1 2 p := by rw [e2t, topI_cases (ho.1 p)]
    rw [s_layOn hc hp hx, cal1_s, if_neg (by omega)]
    refine ⟨_, ⟨?_, ?_, ?_, ?_, ?_⟩, rfl⟩
    · intro q hq
      unfold putP; dsimp only
      by_cases z : q = p
      · rw [if_pos z]; simp [st2_s, z, topI]
      · rw [if_neg z, ← hT.1 q hq, ← e2]; simp [st2_s, z]
    · intro x hx2
      rw [onN_put hr.2 h hc hn hp hp2 x]
      by_cases z : x = c
      · rw [if_pos z]; simp [st2_s, z]
      · rw [if_neg z, ← hT.2.1 x hx2, ← e1]; simp [st2_s, z]
    · refine ⟨m', hm', by simp [st2_s, e5], fun x hx2 => ?_⟩
      rw [hidB_put hr.2 h hc hn hp hp2 x, hb5' x hx2, hb x hx2]
    · show _ = nI P.2.2.2
      rw [← hT.2.2.2.1, ← e6]; simp [st2_s]
    · exact hT.2.2.2.2
  unfold F_X4_lay_b74
  rw [s_topOf hT hp, cal1_s, hr.1 8 (by omega)]
  by_cases q8 : R 8 = 0
  · rw [if_pos (by rw [q8])]
    exact step T m hm em (fun x _ => by simp [q8]) rfl (fun _ => rfl) (fun _ => rfl)
  · rw [if_neg (by rw [nI_eq (by omega) (by omega)]; exact q8)]
    by_cases p9 : p = 9
    · rw [if_pos (by rw [p9])]
      exact step T m hm em (fun x _ => by simp [p9]) rfl (fun _ => rfl) (fun _ => rfl)
    · rw [if_neg (by rw [nI_eq (by omega) (by omega)]; exact p9), topI_opt]
      cases e : (P.1 p)[0]? with
      | none =>
        rw [optI_none, s_isCard_none, cal1_s, if_pos (by rfl)]
        exact step T m hm em (fun x _ => by simp [e]) rfl (fun _ => rfl) (fun _ => rfl)
      | some d =>
        have hd := ho.1 p d (List.mem_of_getElem? e)
        rw [optI_some, s_isCard (by omega), cal1_s, if_neg (by rw [bi_eq0]; simp [hd]), bnd_s, em]
        obtain ⟨m', a1, a2, a3⟩ := set_bit hm hd
        rw [a2]
        have h81 : R 8 = 1 := by omega
        exact step _ m' a1 (by simp [st2_s]) (fun x hx => by rw [a3 x hx, e]; simp [p9, h81, @eq_comm _ x d]) (by simp [st2_s]) (by simp [st2_s]) (by simp [st2_s])
end
section
/-! ===== deals, laid whole; cards told; safe moves ===== -/
theorem s_lay_L {r : Nat → Int32} {R : Nat → Nat} (hr : RR r R) {D : Nat → Nat → Int32} {cs : List Nat} (hD : DRep D cs) (hl : cs.length = R 0 * R 1) (hn : cs.Nodup) (h16 : ∀ c, c ∈ cs → c < 16) : ∀ (j k n : Nat) (T : Nat → Nat → Int32) (P : Pos), k + j = cs.length → j < n → TRep T P → LayInv R P (cs.take k) →
    ∃ T', F_X4_lay_L40 r D n T (nI (R 0 * R 1 - R 6)) (nI k) = some T' ∧ TRep T' (layP R (cs.drop k) k P) ∧ LayInv R (layP R (cs.drop k) k P) cs := by
  have hR := hr.2
  unfold RulesOk at hR
  intro j
  induction j with
  | zero =>
    intro k n T P hk hn2 hT hI
    obtain ⟨n, rfl⟩ : ∃ q, n = q + 1 := ⟨n - 1, by omega⟩
    rw [List.take_of_length_le (by omega)] at hI
    rw [List.drop_eq_nil_of_le (by omega)]
    refine ⟨T, ?_, hT, hI⟩
    show F_X4_lay_s40 r D (F_X4_lay_L40 r D n) _ _ _ = _
    unfold F_X4_lay_s40
    rw [s_cards hr, cal1_s, if_pos (nI_le (by omega) (by omega))]
  | succ j ih =>
    intro k n T P hk hn2 hT hI
    obtain ⟨n, rfl⟩ : ∃ q, n = q + 1 := ⟨n - 1, by omega⟩
    have hlt : k < cs.length := by omega
    have hck : cs[k]? = some cs[k] := List.getElem?_eq_getElem hlt
    have hc16 := h16 _ (List.mem_of_getElem? hck)
    have hpl := placeA_lt hr.2 k
    have hnot : cs[k] ∉ cs.take k := by
      intro hm
      obtain ⟨i, hi, e⟩ := List.getElem_of_mem hm
      rw [List.length_take] at hi
      rw [List.getElem_take] at e
      have := (List.getElem?_inj (show i < cs.length by omega) hn).mp (show cs[i]? = cs[k]? by rw [List.getElem?_eq_getElem (by omega), hck, e])
      omega
    have hI2 := putP_inv hr.2 hI hc16 hnot hpl.1 hpl.2
    have et : cs.take (k + 1) = cs.take k ++ [cs[k]] := by simp
    rw [← et] at hI2
    have hstep := fun K v3 => s_lay_step hT hr hI hc16 hnot hpl.1 hpl.2 hD (show k < 16 by omega) hck K v3
    rw [List.drop_eq_getElem_cons hlt]
    show ∃ T', F_X4_lay_s40 r D (F_X4_lay_L40 r D n) _ _ _ = _ ∧ _
    unfold F_X4_lay_s40
    rw [s_cards hr, cal1_s, if_neg (nI_ge (by omega) (by omega))]
    obtain ⟨T1, a1, a2⟩ := hstep (F_X4_lay_L40 r D n) (nI (R 0 * R 1 - R 6))
    have fin : ∃ T', F_X4_lay_b74 r D (F_X4_lay_L40 r D n) T (nI (R 0 * R 1 - R 6)) (nI k) (nI (placeA R k)) = some T' ∧ TRep T' (layP R (cs[k] :: cs.drop (k + 1)) k P) ∧ LayInv R (layP R (cs[k] :: cs.drop (k + 1)) k P) cs := by
      rw [a2]
      exact ih (k + 1) n T1 _ (by omega) (by omega) a1 hI2
    by_cases q : k < R 0 * R 1 - R 6
    · rw [if_neg (nI_ge q (by omega)), hr.1 2 (by omega), if_neg (nI_ge (by omega) (by omega)), nz_n _ (by omega) (by omega), pk_rem (by omega) (by omega) (by omega)]
      have : placeA R k = k % R 2 := by unfold placeA; rw [if_pos q]
      rw [← this]; exact fin
    · rw [if_pos (nI_le (by omega) (by omega))]
      have : placeA R k = 9 := by unfold placeA; rw [if_neg q]
      rw [← this]; exact fin
theorem emptyP_inv {R : Nat → Nat} : LayInv R emptyP [] := by
  refine ⟨⟨fun p c h => (by cases h), fun p => List.nodup_nil, fun p q c h => (by cases h), fun p _ => rfl, fun p => Or.inl rfl, fun p _ => rfl⟩, fun p _ => ?_, fun p c h => (by cases h), fun c h => (by cases h), fun p _ _ => rfl, fun p _ _ => rfl, rfl, rfl⟩
  show 0 = if R 8 = 1 then 0 - 1 else 0
  split <;> rfl
theorem s_lay {r : Nat → Int32} {R : Nat → Nat} (hr : RR r R) {D : Nat → Nat → Int32} {mc x : Nat} (hD : DRep D (cardsA R mc x)) (T : Nat → Nat → Int32) : ∃ T', F_X4_lay r D T = some T' ∧ TRep T' (dealP R mc x) ∧ LayInv R (dealP R mc x) (cardsA R mc x) := by
  unfold F_X4_lay
  rw [bnd_s, bnd_s]
  obtain ⟨f1, a1, a2⟩ := s_fill (n := 16) (by omega) (nI 20) (st2 (st2 T 0 5 (nI 0)) 0 6 (nI 0) 1)
  rw [a1, cal1_s, bnd_s]
  obtain ⟨f2, b1, b2⟩ := s_fill (n := 10) (by omega) (-1) (setc (st2 (st2 T 0 5 (nI 0)) 0 6 (nI 0)) 1 f1 2)
  rw [b1, cal1_s, bnd_s, s_inColumns hr, cal1_s]
  have hT : TRep (setc (setc (st2 (st2 T 0 5 (nI 0)) 0 6 (nI 0)) 1 f1) 2 f2) emptyP := by
    refine ⟨fun p hp => ?_, fun c hc => ?_, ⟨0, by omega, ?_, fun c _ => ?_⟩, ?_, by show 0 ≤ 2; omega⟩
    · simp [setc_s, b2, hp, emptyP, topI]
    · rw [onN_out (fun p _ h => (by cases h))]; simp [setc_s, a2, hc]
    · simp [setc_s, st2_s]
    · rw [Nat.zero_testBit]; rfl
    · simp [setc_s, st2_s, emptyP]
  have h16 : R 0 * R 1 ≤ 16 := by have := hr.2; unfold RulesOk at this; omega
  have := s_lay_L hr hD (cardsA_len R mc x) (cardsA_nodup R mc x) (fun c hc => by have := cardsA_lt hc; omega) (R 0 * R 1) 0 FU _ emptyP (by rw [cardsA_len]; omega) (FU_gt (by omega)) hT emptyP_inv
  exact this
theorem layP_9 {R : Nat → Nat} (hR : RulesOk R) : ∀ (cs : List Nat) (k : Nat) (P : Pos), ((layP R cs k P).1 9).length ≤ (P.1 9).length + (cs.length - (R 0 * R 1 - R 6 - k))
  | [], k, P => by simp [layP]
  | c :: cs, k, P => by
    have h := layP_9 hR cs (k + 1) (putP R P c (placeA R k))
    show ((layP R cs (k + 1) (putP R P c (placeA R k))).1 9).length ≤ _
    refine Nat.le_trans h ?_
    by_cases q : k < R 0 * R 1 - R 6
    · have e : (putP R P c (placeA R k)).1 9 = P.1 9 := by
        have h2 : placeA R k = k % R 2 := by unfold placeA; rw [if_pos q]
        have h3 : k % R 2 < R 2 := Nat.mod_lt _ (by unfold RulesOk at hR; omega)
        unfold RulesOk at hR
        unfold putP; dsimp only; rw [if_neg (by omega)]
      rw [e]; simp only [List.length_cons]; omega
    · have e : ((putP R P c (placeA R k)).1 9).length = (P.1 9).length + 1 := by
        have h2 : placeA R k = 9 := by unfold placeA; rw [if_neg q]
        rw [h2]; unfold putP; dsimp only; rw [if_pos rfl]; rfl
      rw [e]; simp only [List.length_cons]; omega
theorem wf_deal {R : Nat → Nat} (hR : RulesOk R) {mc x : Nat} (h : LayInv R (dealP R mc x) (cardsA R mc x)) : WF R (dealP R mc x) := by
  obtain ⟨ho, h1, h2, h3, h4, h5, h6, h7⟩ := h
  have h9 := layP_9 hR (cardsA R mc x) 0 emptyP
  rw [cardsA_len] at h9
  have hR' := hR
  unfold RulesOk at hR
  refine ⟨ho, h5, ?_, ?_, ?_, ?_, ?_, ?_, ?_⟩
  · intro k hk
    rw [h4 (5 + k) (by omega) (by omega)]
    exact ⟨Nat.zero_le _, fun _ => rfl⟩
  · intro p c hc
    refine ⟨cardsA_lt (h2 p c hc), ?_⟩
    rw [h6]; exact Nat.zero_le _
  · intro c hc _; exact h3 c (cardsA_mem hc)
  · intro s; rw [h6]; exact Nat.zero_le _
  · intro s _; rw [h6]
  · rw [h4 7 (by omega) (by omega)]
    have : ((dealP R mc x).1 9).length ≤ R 6 := by
      refine Nat.le_trans h9 ?_
      show 0 + _ ≤ _
      omega
    simpa using this
  · rw [h7]; exact Nat.zero_le _
def seenA (P : Pos) (c d : Nat) : Int32 := if d < (P.1 c).length then (if d < P.2.1 c then -2 else optI (P.1 c)[(P.1 c).length - 1 - d]?) else -1
theorem s_seen {T : Nat → Nat → Int32} {P : Pos} (h : TRep T P) (ho : PosOk P) {c d : Nat} (hc : c < 5) (hd : d < 2 ^ 31) : F_X4_seenInColumn T (nI c) (nI d) = some (seenA P c d) := by
  have hl := ho.len c
  unfold F_X4_seenInColumn seenA
  rw [s_heightOf h ho (by omega), cal1_s]
  by_cases q : d < (P.1 c).length
  · rw [if_pos (nI_lt q (by omega)), if_pos q, pk_sub (by omega), pk_sub (by omega), s_fromTop h ho (by omega) (by omega), cal1_s]
    have e : (P.1 c)[(P.1 c).length - 1 - d]? = some (P.1 c)[(P.1 c).length - 1 - d] := List.getElem?_eq_getElem (by omega)
    generalize (P.1 c)[(P.1 c).length - 1 - d] = x at e
    have hx := ho.1 c x (List.mem_of_getElem? e)
    rw [e, optI_some, s_liesHidden h hx, cal1_s, hidB_at ho hc e, bi_if]
    by_cases q2 : d < P.2.1 c
    · rw [if_pos q2, if_pos (by simp only [decide_eq_true_eq]; omega)]
    · rw [if_neg q2, if_neg (by simp only [decide_eq_true_eq]; omega)]
  · rw [if_neg (nI_nlt (by omega) (by omega)), if_neg q]
theorem s_highest_L {T : Nat → Nat → Int32} {r : Nat → Int32} {R : Nat → Nat} {P : Pos} (h : TRep T P) (w : WF R P) (hr : RR r R) {s : Nat} (hs : s < R 0) : ∀ (k n : Nat), k ≤ R 1 → P.2.2.1 s ≤ k → k < n → F_X4_highestUp_L21 T r n (nI s) (nI k) = some (if 0 < P.2.2.1 s then nI (s * R 1 + P.2.2.1 s - 1) else -1) := by
  have hR := hr.2
  unfold RulesOk at hR
  intro k
  induction k with
  | zero =>
    intro n hk hh hn
    obtain ⟨n, rfl⟩ : ∃ q, n = q + 1 := ⟨n - 1, by omega⟩
    show F_X4_highestUp_s21 T r (F_X4_highestUp_L21 T r n) _ _ = _
    unfold F_X4_highestUp_s21
    rw [if_pos (by exact Int32.le_refl _), if_neg (by omega)]
  | succ k ih =>
    intro n hk hh hn
    obtain ⟨n, rfl⟩ : ∃ q, n = q + 1 := ⟨n - 1, by omega⟩
    show F_X4_highestUp_s21 T r (F_X4_highestUp_L21 T r n) _ _ = _
    unfold F_X4_highestUp_s21
    have hb : s * R 1 + k < R 0 * R 1 := by
      have := Nat.mul_le_mul_right (R 1) (show s + 1 ≤ R 0 by omega)
      rw [Nat.succ_mul] at this; omega
    have e1 : (s * R 1 + k) / R 1 = s := by
      rw [Nat.mul_comm, Nat.mul_add_div (by omega), Nat.div_eq_of_lt (by omega), Nat.add_zero]
    have e2 : (s * R 1 + k) % R 1 = k := by
      rw [Nat.mul_comm, Nat.mul_add_mod, Nat.mod_eq_of_lt (by omega)]
    have e3 := w.on20 hb
    rw [e1, e2] at e3
    rw [if_neg (nI_ge (by omega) (by omega)), hr.1 1 (by omega), pk_mul, nI_add, pk_sub (by omega), show s * R 1 + (k + 1) - 1 = s * R 1 + k by omega, s_isUp h w.1 (by omega), cal1_s, bi_if, pk_m1]
    by_cases q : P.2.2.1 s = k + 1
    · rw [if_pos (by simp only [decide_eq_true_eq]; exact e3.mpr (by omega)), if_pos (by omega)]
      congr 2; omega
    · rw [if_neg (by simp only [decide_eq_true_eq]; intro z; have := e3.mp z; omega)]
      exact ih n (by omega) (by omega) (by omega)
def highA (R : Nat → Nat) (P : Pos) (d : Nat) : Int32 := if d < R 0 ∧ 0 < P.2.2.1 d then nI (d * R 1 + P.2.2.1 d - 1) else -1
theorem s_highest {T : Nat → Nat → Int32} {r : Nat → Int32} {R : Nat → Nat} {P : Pos} (h : TRep T P) (w : WF R P) (hr : RR r R) {d : Nat} (hd : d < 2 ^ 31) : F_X4_highestUp T r (nI d) = some (highA R P d) := by
  have hR := hr.2
  unfold RulesOk at hR
  unfold F_X4_highestUp highA
  rw [hr.1 0 (by omega), hr.1 1 (by omega)]
  by_cases q : d < R 0
  · rw [if_pos (nI_lt q (by omega)), s_highest_L h w hr q (R 1) FU (Nat.le_refl _) (w.2.2.2.2.2.1 d) (FU_gt (by omega))]
    simp [q]
  · rw [if_neg (nI_nlt (by omega) (by omega)), if_neg (fun z => q z.1)]
def safeB (R : Nat → Nat) (P : Pos) (c : Nat) : Bool := (List.range (R 0 * R 1)).all (fun o => decide (o % R 1 < P.2.2.1 (o / R 1)) || !fitB R o c)
theorem s_isSafe_L {T : Nat → Nat → Int32} {r : Nat → Int32} {R : Nat → Nat} {P : Pos} (h : TRep T P) (w : WF R P) (hr : RR r R) {c : Nat} (hc : c < 16) : ∀ (j k n : Nat), k + j = R 0 * R 1 → j < n → F_X4_isSafeUp_L2 T r n (nI c) (nI k) = some (bi ((List.range' k j).all (fun o => decide (o % R 1 < P.2.2.1 (o / R 1)) || !fitB R o c))) := by
  have hR := hr.2
  unfold RulesOk at hR
  intro j
  induction j with
  | zero =>
    intro k n hk hn
    obtain ⟨n, rfl⟩ : ∃ q, n = q + 1 := ⟨n - 1, by omega⟩
    show F_X4_isSafeUp_s2 T r (F_X4_isSafeUp_L2 T r n) _ _ = _
    unfold F_X4_isSafeUp_s2
    rw [s_cards hr, cal1_s, if_pos (nI_le (by omega) (by omega))]; rfl
  | succ j ih =>
    intro k n hk hn
    obtain ⟨n, rfl⟩ : ∃ q, n = q + 1 := ⟨n - 1, by omega⟩
    show F_X4_isSafeUp_s2 T r (F_X4_isSafeUp_L2 T r n) _ _ = _
    unfold F_X4_isSafeUp_s2
    have e : (List.range' k (j + 1)).all (fun o => decide (o % R 1 < P.2.2.1 (o / R 1)) || !fitB R o c) = ((decide (k % R 1 < P.2.2.1 (k / R 1)) || !fitB R k c) && (List.range' (k + 1) j).all (fun o => decide (o % R 1 < P.2.2.1 (o / R 1)) || !fitB R o c)) := rfl
    rw [s_cards hr, cal1_s, if_neg (nI_ge (by omega) (by omega)), s_isUp h w.1 (by omega), cal1_s, bi_if, s_isFitting hr (by omega) hc, cal1_s, bi_if, nI_add, ih (k + 1) n (by omega) (by omega), e]
    have h20 := w.on20 (show k < R 0 * R 1 by omega)
    by_cases q : onN P k = 20
    · rw [if_pos (by simpa using q)]; simp [h20.mp q]
    · have : ¬ k % R 1 < P.2.2.1 (k / R 1) := fun z => q (h20.mpr z)
      rw [if_neg (by simpa using q)]
      by_cases q2 : fitB R k c = true
      · rw [if_pos q2]; simp [this, q2, zb0, bi]
      · rw [if_neg q2]; simp only [Bool.not_eq_true] at q2; simp [q2]
theorem s_isSafe {T : Nat → Nat → Int32} {r : Nat → Int32} {R : Nat → Nat} {P : Pos} (h : TRep T P) (w : WF R P) (hr : RR r R) {c : Nat} (hc : c < 16) : F_X4_isSafeUp T r (nI c) = some (bi (safeB R P c)) := by
  have hR := hr.2
  unfold RulesOk at hR
  unfold safeB
  rw [List.range_eq_range']
  exact s_isSafe_L h w hr hc (R 0 * R 1) 0 FU (by omega) (FU_gt (by omega))
def safeAt (R : Nat → Nat) (P : Pos) (f : Nat) : Bool := legal R P f 8 1 && safeB R P ((P.1 f).headD 0)
theorem s_firstSafe_L {T : Nat → Nat → Int32} {r : Nat → Int32} {R : Nat → Nat} {P : Pos} (h : TRep T P) (w : WF R P) (hr : RR r R) : ∀ (j k n : Nat), k + j = 8 → j < n → F_X4_firstSafePlace_L2 T r n (nI k) = some (optI ((List.range' k j).find? (safeAt R P))) := by
  intro j
  induction j with
  | zero =>
    intro k n hk hn
    obtain ⟨n, rfl⟩ : ∃ q, n = q + 1 := ⟨n - 1, by omega⟩
    show F_X4_firstSafePlace_s2 T r (F_X4_firstSafePlace_L2 T r n) _ = _
    unfold F_X4_firstSafePlace_s2
    rw [if_pos (nI_lt (by omega) (by omega))]; rfl
  | succ j ih =>
    intro k n hk hn
    obtain ⟨n, rfl⟩ : ∃ q, n = q + 1 := ⟨n - 1, by omega⟩
    show F_X4_firstSafePlace_s2 T r (F_X4_firstSafePlace_L2 T r n) _ = _
    unfold F_X4_firstSafePlace_s2
    have e : List.range' k (j + 1) = k :: List.range' (k + 1) j := rfl
    rw [if_neg (nI_nlt (by omega) (by omega)), s_isMove h w hr (show k < 10 by omega) (show 8 < 9 by omega) (Nat.le_refl 1) (by omega) (Or.inl rfl), cal1_s, bi_if, nI_add, ih (k + 1) n (by omega) (by omega), e, List.find?_cons]
    unfold safeAt
    by_cases q : legal R P k 8 1 = true
    · rw [if_pos q, q, Bool.true_and, s_topOf h (by omega), cal1_s]
      have hne : P.1 k ≠ [] := by
        intro z
        unfold legal at q
        rw [if_neg (by omega), z] at q
        cases q
      cases ec : P.1 k with
      | nil => exact absurd ec hne
      | cons c l =>
        have hc := w.1.1 k c (by rw [ec]; simp)
        rw [show topI (c :: l) = nI c from rfl, s_isSafe h w hr hc, cal1_s, bi_if]
        show (if safeB R P c = true then _ else _) = _
        cases e2 : safeB R P c <;> simp [e2, optI_some]
    · rw [if_neg q]
      simp only [Bool.not_eq_true] at q
      rw [q]; rfl
theorem s_firstSafe {T : Nat → Nat → Int32} {r : Nat → Int32} {R : Nat → Nat} {P : Pos} (h : TRep T P) (w : WF R P) (hr : RR r R) : F_X4_firstSafePlace T r = some (optI ((List.range 8).find? (safeAt R P))) := by
  rw [List.range_eq_range']
  exact s_firstSafe_L h w hr 8 0 FU (by omega) (FU_gt (by omega))
end
section
/-! ===== the second reading: a position as it keeps it ===== -/
/-- a column packed, the card at the bottom lowest -/
def pkT : List Nat → Nat
  | [] => 0
  | c :: l => pkT l + 16 ^ l.length * c
theorem pkT_lt {l : List Nat} (h : ∀ c, c ∈ l → c < 16) : pkT l < 16 ^ l.length := by
  induction l with
  | nil => decide
  | cons c l ih =>
    have h1 := ih (fun d hd => h d (List.mem_cons_of_mem _ hd))
    have h2 := h c (by simp)
    show pkT l + 16 ^ l.length * c < 16 ^ (l.length + 1)
    have h3 : 16 ^ l.length * c ≤ 16 ^ l.length * 15 := Nat.mul_le_mul_left _ (by omega)
    rw [Nat.pow_succ]
    omega
theorem pkT_lt64 {l : List Nat} (h : ∀ c, c ∈ l → c < 16) (hl : l.length ≤ 16) : pkT l < 2 ^ 64 := by
  have h1 := pkT_lt h
  have h2 : 16 ^ l.length ≤ 16 ^ 16 := Nat.pow_le_pow_right (by omega) hl
  have h3 : (16 : Nat) ^ 16 = 2 ^ 64 := by decide
  omega
theorem pkT_at {l : List Nat} (h : ∀ c, c ∈ l → c < 16) : ∀ {i : Nat}, i < l.length → pkT l / 16 ^ i % 16 = l.getD (l.length - 1 - i) 0 := by
  induction l with
  | nil => intro i hi; exact absurd hi (Nat.not_lt_zero i)
  | cons c l ih =>
    intro i hi
    have h1 := pkT_lt (fun d hd => h d (List.mem_cons_of_mem _ hd) : ∀ d, d ∈ l → d < 16)
    have h2 := h c (by simp)
    show (pkT l + 16 ^ l.length * c) / 16 ^ i % 16 = (c :: l).getD (l.length + 1 - 1 - i) 0
    rcases Nat.lt_or_ge i l.length with q | q
    · have e1 : 16 ^ l.length * c = 16 ^ i * (16 * (16 ^ (l.length - i - 1) * c)) := by
        rw [← Nat.mul_assoc 16, ← Nat.mul_assoc, ← Nat.pow_succ', ← Nat.pow_add]
        congr 2; omega
      rw [e1, Nat.add_mul_div_left _ _ (Nat.two_pow_pos 0 |> fun _ => Nat.pow_pos (by omega)), Nat.add_mul_mod_self_left, ih (fun d hd => h d (List.mem_cons_of_mem _ hd)) q]
      rw [show l.length + 1 - 1 - i = (l.length - 1 - i) + 1 by omega]; rfl
    · have hi2 : i < l.length + 1 := hi
      have e : i = l.length := by omega
      subst e
      rw [Nat.add_mul_div_left _ _ (Nat.pow_pos (by omega)), Nat.div_eq_of_lt h1, Nat.zero_add, Nat.mod_eq_of_lt h2]
      rw [show l.length + 1 - 1 - l.length = 0 by omega]; rfl
theorem pow16 (k : Nat) : 2 ^ (4 * k) = 16 ^ k := by rw [Nat.pow_mul]
/-- the numbers of the second reading, for a position -/
def MRep (I : Nat → Nat → Int32) (L : Nat → Nat → Int64) (P : Pos) : Prop :=
  (∀ p, p < 5 → L 0 p = lN (pkT (P.1 p)) ∧ I 3 p = nI (P.1 p).length ∧ I 4 p = nI (P.2.1 p)) ∧
  (∀ k, k < 2 → I 5 k = topI (P.1 (5 + k))) ∧ (∀ s, s < 4 → I 6 s = nI (P.2.2.1 s)) ∧
  (I 0 21 = nI (P.1 7).length ∧ ∀ i, i < (P.1 7).length → I 7 i = nI ((P.1 7).getD ((P.1 7).length - 1 - i) 0)) ∧
  (I 0 23 = nI (P.1 9).length ∧ ∀ i, i < (P.1 9).length → I 8 i = nI ((P.1 9).getD ((P.1 9).length - 1 - i) 0)) ∧
  I 0 24 = nI P.2.2.2
theorem shr_card {m i : Nat} (hm : m < 2 ^ 64) (hi : i < 16) : (((lN m).toUInt64 >>> ((nI 4 * nI i).toInt64.toUInt64 &&& Int64.toUInt64 63)).toInt64 &&& lN 15).toInt32 = nI (m / 16 ^ i % 16) := by
  rw [pk_mul, wb_shr hm (by omega), pow16, wb_mask (k := 4) (Nat.lt_of_le_of_lt (Nat.div_le_self _ _) hm) (by omega), lN_i]
theorem m_cardAt {I : Nat → Nat → Int32} {L : Nat → Nat → Int64} {P : Pos} (h : MRep I L P) (ho : PosOk P) {p i : Nat} (hp : p < 5) (hi : i < (P.1 p).length) : F_X6_cardAt I L (nI p) (nI i) = some (nI ((P.1 p).getD ((P.1 p).length - 1 - i) 0)) := by
  have hl := ho.len p
  unfold F_X6_cardAt
  rw [rdA_n _ hp (by omega), (h.1 p hp).1, shr_card (pkT_lt64 (ho.1 p) hl) (by omega), pkT_at (ho.1 p) hi]
theorem getD_lt {P : Pos} (ho : PosOk P) {p k : Nat} (hk : k < (P.1 p).length) : (P.1 p).getD k 0 < 16 ∧ (P.1 p).getD k 0 ∈ P.1 p := by
  rw [List.getD_eq_getElem?_getD, List.getElem?_eq_getElem hk]
  exact ⟨ho.1 p _ (List.getElem_mem hk), List.getElem_mem hk⟩
theorem m_suitOf {I : Nat → Nat → Int32} {L : Nat → Nat → Int64} {R : Nat → Nat} (hr : RR (I 1) R) {c : Nat} (hc : c < 16) : F_X6_suitOf I L (nI c) = some (nI (c / R 1)) := by
  have hR := hr.2
  unfold RulesOk at hR
  unfold F_X6_suitOf
  rw [rdA_n _ (by omega) (by omega), hr.1 1 (by omega), nz_n _ (by omega) (by omega), pk_div (by omega) (by omega) (by omega)]
theorem m_rankOf {I : Nat → Nat → Int32} {L : Nat → Nat → Int64} {R : Nat → Nat} (hr : RR (I 1) R) {c : Nat} (hc : c < 16) : F_X6_rankOf I L (nI c) = some (nI (c % R 1 + 1)) := by
  have hR := hr.2
  unfold RulesOk at hR
  unfold F_X6_rankOf
  rw [rdA_n _ (by omega) (by omega), hr.1 1 (by omega), nz_n _ (by omega) (by omega), pk_rem (by omega) (by omega) (by omega), nI_add]
theorem m_fits {I : Nat → Nat → Int32} {L : Nat → Nat → Int64} {R : Nat → Nat} (hr : RR (I 1) R) {c o : Nat} (hc : c < 16) (hd : o < 16) : F_X6_fits I L (nI c) (nI o) = some (bi (fitB R c o)) := by
  have hR := hr.2
  have hR2 := hr.2
  unfold RulesOk at hR
  have h1 := mod_lt1 hR2 c
  have h2 := mod_lt1 hR2 o
  have q1 : c / R 1 ≤ c := Nat.div_le_self _ _
  have q2 : o / R 1 ≤ o := Nat.div_le_self _ _
  have hb : ∀ b : Bool, F_X6_fits_b61 I L (nI c) (nI o) (bi b) = some (bi (b && decide (c % R 1 + 1 = o % R 1))) := by
    intro b
    unfold F_X6_fits_b61
    cases b with
    | false => rw [if_pos (show bi false = nI 0 from rfl), zb0]; rfl
    | true =>
      rw [if_neg (by rw [bi_eq0]; decide), m_rankOf hr hc, cal1_s, m_rankOf hr hd, cal1_s, pk_sub (by omega), zb1, zb0, some_bi]
      have e : (nI (c % R 1 + 1) = nI (o % R 1 + 1 - 1)) ↔ c % R 1 + 1 = o % R 1 := by rw [nI_eq (by omega) (by omega)]; omega
      simp only [e, Bool.true_and]
  unfold F_X6_fits
  rw [m_suitOf hr hc, cal1_s, m_suitOf hr hd, cal1_s, rdA_n _ (by omega) (by omega), hr.1 4 (by omega)]
  unfold fitB
  by_cases b0 : R 4 = 0
  · rw [if_pos (by rw [b0]), if_pos b0]
    by_cases e : c / R 1 = o / R 1
    · rw [if_pos (by rw [e])]; rw [show (nI 1 : Int32) = bi true from rfl, hb]; simp [e]
    · rw [if_neg (by rw [nI_eq (by omega) (by omega)]; exact e)]; rw [show (nI 0 : Int32) = bi false from rfl, hb]; simp [e]
  · rw [if_neg (by rw [nI_eq (by omega) (by omega)]; exact b0), if_neg b0, rdA_n _ (by omega) (by omega), hr.1 4 (by omega)]
    by_cases b2 : R 4 = 2
    · rw [if_pos (by rw [b2]), show (nI 1 : Int32) = bi true from rfl, hb]
      simp [b2]
    · have b1 : R 4 = 1 := by omega
      rw [if_neg (by rw [nI_eq (by omega) (by omega)]; exact b2), nz_n _ (by omega) (by omega), nz_n _ (by omega) (by omega), if_pos b1, pk_rem (by omega) (by omega) (by omega), pk_rem (by omega) (by omega) (by omega)]
      have z1 := Nat.mod_lt (c / R 1) (show 0 < 2 by omega)
      have z2 := Nat.mod_lt (o / R 1) (show 0 < 2 by omega)
      by_cases e : c / R 1 % 2 = o / R 1 % 2
      · rw [if_pos (by rw [e]), show (nI 0 : Int32) = bi false from rfl, hb]; simp [e]
      · rw [if_neg (by rw [nI_eq (by omega) (by omega)]; exact e), show (nI 1 : Int32) = bi true from rfl, hb]; simp [e]
end
section
/-! ===== the second reading: the last card, what comes to a column ===== -/
theorem m_lastOf {I : Nat → Nat → Int32} {L : Nat → Nat → Int64} {R : Nat → Nat} {P : Pos} (h : MRep I L P) (w : WF R P) {p : Nat} (hp : p < 9) (hR6 : R 6 ≤ 8) : F_X6_lastOf I L (nI p) = some (topI (P.1 p)) := by
  have hl := w.1.len p
  have h79 := w.2.2.2.2.2.2.2.1
  unfold F_X6_lastOf
  rcases Nat.lt_or_ge p 5 with q | q
  · rw [if_neg (nI_ge (by omega) (by omega)), rdA_n _ q (by omega), (h.1 p q).2.1]
    cases e : P.1 p with
    | nil => rw [if_pos (nI_le (by simp) (by omega))]; rfl
    | cons c l =>
      have hc := m_cardAt h w.1 q (i := l.length) (by rw [e]; simp)
      rw [e] at hc
      simp only [List.length_cons, Nat.add_sub_cancel, Nat.sub_self, List.getD_cons_zero] at hc
      rw [e] at hl; simp only [List.length_cons] at hl
      rw [if_neg (nI_ge (by simp) (by simp only [List.length_cons]; omega)), rdA_n _ q (by omega), (h.1 p q).2.1, e, pk_sub (by simp), List.length_cons, Nat.add_sub_cancel, hc, cal1_s]
      rfl
  · rw [if_pos (nI_le q (by omega))]
    by_cases q7 : p = 7
    · subst q7
      rw [if_pos (nI_le (by omega) (by omega)), if_pos rfl, h.2.2.2.1.1]
      cases e : P.1 7 with
      | nil => rw [if_pos (nI_le (by simp) (by omega))]; rfl
      | cons c l =>
        have h2 := h.2.2.2.1.2 l.length (by rw [e]; simp)
        rw [e] at h2 hl h79
        simp only [List.length_cons, Nat.add_sub_cancel, Nat.sub_self, List.getD_cons_zero] at h2 hl h79
        rw [if_neg (nI_ge (by simp) (by simp only [List.length_cons]; omega)), pk_sub (by simp), List.length_cons, Nat.add_sub_cancel, rdA_n _ (by omega) (by omega), h2]
        rfl
    · by_cases q8 : p = 8
      · subst q8
        rw [if_pos (nI_le (by omega) (by omega)), if_neg (by decide), w.1.2.2.2.1 8 (Or.inr rfl)]; rfl
      rw [if_neg (nI_ge (by omega) (by omega)), pk_sub q, rdA_n _ (by omega) (by omega), h.2.1 _ (by omega), show 5 + (p - 5) = p by omega]
theorem m_comesTo {I : Nat → Nat → Int32} {L : Nat → Nat → Int64} {R : Nat → Nat} {P : Pos} (h : MRep I L P) (w : WF R P) (hr : RR (I 1) R) {t c : Nat} (ht : t < 5) (hc : c < 16) : F_X6_comesTo I L (nI c) (nI t) = some (bi (decide (t < R 2) && forCol R (P.1 t) c)) := by
  have hR := hr.2
  have hR2 := hr.2
  unfold RulesOk at hR
  have hl := w.1.len t
  have hm := mod_lt1 hR2 c
  unfold F_X6_comesTo
  rw [rdA_n _ (by omega) (by omega), hr.1 2 (by omega)]
  by_cases q : t < R 2
  · rw [if_pos (nI_lt q (by omega)), rdA_n _ ht (by omega), (h.1 t ht).2.1]
    cases e : P.1 t with
    | nil =>
      rw [if_pos (nI_le (by simp) (by omega)), rdA_n _ (by omega) (by omega), hr.1 5 (by omega)]
      simp only [q, decide_true, Bool.true_and]
      show _ = some (bi (emptyB R c))
      unfold emptyB
      by_cases e0 : R 5 = 0
      · rw [if_pos (by rw [e0]), zb1]; simp [e0, bi]
      · rw [if_neg (by rw [nI_eq (by omega) (by omega)]; exact e0), rdA_n _ (by omega) (by omega), hr.1 5 (by omega)]
        by_cases e1 : R 5 = 1
        · rw [if_pos (by rw [e1]), m_rankOf hr hc, cal1_s, rdA_n _ (by omega) (by omega), hr.1 1 (by omega), zb1, zb0, some_bi]
          have e3 : (nI (c % R 1 + 1) = nI (R 1)) ↔ c % R 1 + 1 = R 1 := nI_eq (by omega) (by omega)
          simp [e3, e1]
        · rw [if_neg (by rw [nI_eq (by omega) (by omega)]; exact e1), zb0]; simp [e0, e1, bi]
    | cons o l =>
      have ho16 : o < 16 := w.1.1 t o (by rw [e]; simp)
      have hc2 := m_cardAt h w.1 ht (i := l.length) (by rw [e]; simp)
      rw [e] at hc2 hl
      simp only [List.length_cons, Nat.add_sub_cancel, Nat.sub_self, List.getD_cons_zero] at hc2 hl
      rw [if_neg (nI_ge (by simp) (by simp only [List.length_cons]; omega)), rdA_n _ ht (by omega), (h.1 t ht).2.1, e, pk_sub (by simp), List.length_cons, Nat.add_sub_cancel, hc2, cal1_s, m_fits hr hc ho16, cal1_s, zb_bi]
      simp [q, forCol]
  · rw [if_neg (nI_nlt (by omega) (by omega)), zb0]
    simp [q, bi]
end
section
/-! ===== the second reading: rows of cards ===== -/
theorem topI_m1 (l : List Nat) (h : ∀ c, c ∈ l → c < 16) : (topI l = (-1)) ↔ l.isEmpty = true := by
  cases l with
  | nil => simp [topI]
  | cons c r =>
    have := h c (by simp)
    show (nI c = (-1)) ↔ _
    rw [nI_negone (by omega)]; simp
def rowEnd (R : Nat → Nat) (P : Pos) (f t n : Nat) (b : Bool) : Bool := b && (decide (n ≤ most R P t) && (decide (t < R 2) && forCol R (P.1 t) ((P.1 f).getD (n - 1) 0)))
theorem m_row_end {I : Nat → Nat → Int32} {L : Nat → Nat → Int64} {R : Nat → Nat} {P : Pos} (h : MRep I L P) (w : WF R P) (hr : RR (I 1) R) {f t n : Nat} (hf : f < 5) (ht : t < 5) (hn : 1 ≤ n) (hn16 : n ≤ 16) {b : Bool} (hb : b = true → n ≤ (P.1 f).length) (v4 : Int32) (hv : b = true → v4 = nI ((P.1 f).length - n)) :
    F_X6_isRow_b173 I L (nI f) (nI t) (nI n) v4 (bi b) (nI (most R P t)) = some (bi (rowEnd R P f t n b)) := by
  have hR := hr.2
  unfold RulesOk at hR
  have hmost : most R P t ≤ 96 := by
    unfold most
    have h1 := cntB_le (fun k => (P.1 (5 + k)).isEmpty) (R 3)
    have h2 := cntB_le (fun c => decide (c ≠ t) && (P.1 c).isEmpty) (R 2)
    have h3 : 2 ^ cntB (fun c => decide (c ≠ t) && (P.1 c).isEmpty) (R 2) ≤ 2 ^ 5 := Nat.pow_le_pow_right (by omega) (by omega)
    exact Nat.le_trans (Nat.mul_le_mul (show _ ≤ 3 by omega) h3) (by decide)
  unfold F_X6_isRow_b173 rowEnd
  cases b with
  | false => rw [if_pos (show bi false = nI 0 from rfl), zb0]; rfl
  | true =>
    have hv := hv rfl
    have hb := hb rfl
    have hl := w.1.len f
    rw [if_neg (by rw [bi_eq0]; decide), hv]
    by_cases q : n ≤ most R P t
    · have hx := m_cardAt h w.1 hf (i := (P.1 f).length - n) (by omega)
      rw [show (P.1 f).length - 1 - ((P.1 f).length - n) = n - 1 by omega] at hx
      rw [if_neg (nI_nlt (by omega) (by omega)), hx, cal1_s, m_comesTo h w hr ht (getD_lt w.1 (by omega)).1, cal1_s, zb0, zb1]
      simp only [q, decide_true, Bool.true_and]
      cases (decide (t < R 2) && forCol R (P.1 t) ((P.1 f).getD (n - 1) 0)) <;> rfl
    · rw [if_pos (nI_lt (by omega) (by omega)), zb0]
      simp only [q, decide_false, Bool.true_and, Bool.false_and]; rfl
theorem m_row_130 {I : Nat → Nat → Int32} {L : Nat → Nat → Int64} {R : Nat → Nat} {P : Pos} (h : MRep I L P) (w : WF R P) (hr : RR (I 1) R) {f t n : Nat} (hf : f < 5) (ht : t < 5) (hn : 1 ≤ n) (hn16 : n ≤ 16) {b : Bool} (hb : b = true → n ≤ (P.1 f).length) (v4 : Int32) (hv : b = true → v4 = nI ((P.1 f).length - n)) :
    ∀ (j k m : Nat), k + j = R 2 → j < m → F_X6_isRow_L130 I L m (nI f) (nI t) (nI n) v4 (bi b) (nI ((1 + cntB (fun k => (P.1 (5 + k)).isEmpty) (R 3)) * 2 ^ cntB (fun c => decide (c ≠ t) && (P.1 c).isEmpty) k)) (nI k) = some (bi (rowEnd R P f t n b)) := by
  have hR := hr.2
  unfold RulesOk at hR
  intro j
  induction j with
  | zero =>
    intro k m hk hm
    obtain ⟨m, rfl⟩ : ∃ q, m = q + 1 := ⟨m - 1, by omega⟩
    show F_X6_isRow_s130 I L (F_X6_isRow_L130 I L m) _ _ _ _ _ _ _ = _
    unfold F_X6_isRow_s130
    rw [rdA_n _ (by omega) (by omega), hr.1 2 (by omega), if_pos (nI_le (by omega) (by omega)), show k = R 2 by omega]
    exact m_row_end h w hr hf ht hn hn16 hb v4 hv
  | succ j ih =>
    intro k m hk hm
    obtain ⟨m, rfl⟩ : ∃ q, m = q + 1 := ⟨m - 1, by omega⟩
    have hl := w.1.len k
    show F_X6_isRow_s130 I L (F_X6_isRow_L130 I L m) _ _ _ _ _ _ _ = _
    unfold F_X6_isRow_s130
    have fin : ∀ x, x = (if (decide (k ≠ t) && (P.1 k).isEmpty) = true then 2 else 1) → F_X6_isRow_b164 I L (F_X6_isRow_L130 I L m) (nI f) (nI t) (nI n) v4 (bi b) (nI k) (nI ((1 + cntB (fun k => (P.1 (5 + k)).isEmpty) (R 3)) * 2 ^ cntB (fun c => decide (c ≠ t) && (P.1 c).isEmpty) k)) (nI x) = some (bi (rowEnd R P f t n b)) := by
      intro x hx
      unfold F_X6_isRow_b164
      rw [nI_add, pk_mul]
      have e : (1 + cntB (fun k => (P.1 (5 + k)).isEmpty) (R 3)) * 2 ^ cntB (fun c => decide (c ≠ t) && (P.1 c).isEmpty) k * x = (1 + cntB (fun k => (P.1 (5 + k)).isEmpty) (R 3)) * 2 ^ cntB (fun c => decide (c ≠ t) && (P.1 c).isEmpty) (k + 1) := by
        rw [Nat.mul_assoc]
        congr 1
        show _ = 2 ^ (cntB (fun c => decide (c ≠ t) && (P.1 c).isEmpty) k + if (decide (k ≠ t) && (P.1 k).isEmpty) = true then 1 else 0)
        rw [hx]
        split
        · rw [Nat.pow_succ]
        · rw [Nat.mul_one, Nat.add_zero]
      rw [e]
      exact ih (k + 1) m (by omega) (by omega)
    rw [rdA_n _ (by omega) (by omega), hr.1 2 (by omega), if_neg (nI_ge (by omega) (by omega)), rdA_n _ (by omega) (by omega), (h.1 k (by omega)).2.1]
    cases e : P.1 k with
    | nil =>
      rw [if_pos (show nI ([] : List Nat).length = nI 0 from rfl)]
      by_cases q : k = t
      · rw [if_pos (by rw [q])]; exact fin 1 (by simp [q])
      · rw [if_neg (by rw [nI_eq (by omega) (by omega)]; exact q)]; exact fin 2 (by simp [q, e])
    | cons c l =>
      rw [e] at hl
      simp only [List.length_cons] at hl ⊢
      rw [if_neg (by rw [nI_eq (by omega) (by omega)]; omega)]; exact fin 1 (by simp [e])
theorem m_row_89 {I : Nat → Nat → Int32} {L : Nat → Nat → Int64} {R : Nat → Nat} {P : Pos} (h : MRep I L P) (w : WF R P) (hr : RR (I 1) R) {f t n : Nat} (hf : f < 5) (ht : t < 5) (hn : 1 ≤ n) (hn16 : n ≤ 16) {b : Bool} (hb : b = true → n ≤ (P.1 f).length) (v4 : Int32) (hv : b = true → v4 = nI ((P.1 f).length - n)) :
    ∀ (j k m : Nat), k + j = R 3 → j < m → F_X6_isRow_L89 I L m (nI f) (nI t) (nI n) v4 (bi b) (nI (1 + cntB (fun k => (P.1 (5 + k)).isEmpty) k)) (nI k) = some (bi (rowEnd R P f t n b)) := by
  have hR := hr.2
  unfold RulesOk at hR
  intro j
  induction j with
  | zero =>
    intro k m hk hm
    obtain ⟨m, rfl⟩ : ∃ q, m = q + 1 := ⟨m - 1, by omega⟩
    show F_X6_isRow_s89 I L (F_X6_isRow_L89 I L m) _ _ _ _ _ _ _ = _
    unfold F_X6_isRow_s89
    rw [rdA_n _ (by omega) (by omega), hr.1 3 (by omega), if_pos (nI_le (by omega) (by omega)), show k = R 3 by omega]
    have := m_row_130 h w hr hf ht hn hn16 hb v4 hv (R 2) 0 FU (by omega) (FU_gt (by omega))
    rw [show cntB (fun c => decide (c ≠ t) && (P.1 c).isEmpty) 0 = 0 from rfl, Nat.pow_zero, Nat.mul_one] at this
    exact this
  | succ j ih =>
    intro k m hk hm
    obtain ⟨m, rfl⟩ : ∃ q, m = q + 1 := ⟨m - 1, by omega⟩
    show F_X6_isRow_s89 I L (F_X6_isRow_L89 I L m) _ _ _ _ _ _ _ = _
    unfold F_X6_isRow_s89
    have e := topI_m1 (P.1 (5 + k)) (w.1.1 _)
    rw [rdA_n _ (by omega) (by omega), hr.1 3 (by omega), if_neg (nI_ge (by omega) (by omega)), rdA_n _ (by omega) (by omega), h.2.1 k (by omega)]
    have hs : cntB (fun k => (P.1 (5 + k)).isEmpty) (k + 1) = cntB (fun k => (P.1 (5 + k)).isEmpty) k + if (P.1 (5 + k)).isEmpty = true then 1 else 0 := rfl
    have := ih (k + 1) m (by omega) (by omega)
    rw [hs, ← Nat.add_assoc] at this
    by_cases q : (P.1 (5 + k)).isEmpty = true
    · rw [if_pos (e.mpr q)]
      rw [if_pos q] at this
      unfold F_X6_isRow_b118
      rw [nI_add, nI_add]; exact this
    · rw [if_neg (fun y => q (e.mp y))]
      rw [if_neg q] at this
      unfold F_X6_isRow_b118
      rw [nI_add, nI_add]; exact this
theorem m_row_37 {I : Nat → Nat → Int32} {L : Nat → Nat → Int64} {R : Nat → Nat} {P : Pos} (h : MRep I L P) (w : WF R P) (hr : RR (I 1) R) {f t n : Nat} (hf : f < 5) (ht : t < 5) (hn : 1 ≤ n) (hn16 : n ≤ 16) (hb : n ≤ (P.1 f).length) :
    ∀ (j m : Nat) (b : Bool), j < n → j < m → F_X6_isRow_L37 I L m (nI f) (nI t) (nI n) (nI ((P.1 f).length - n)) (bi b) (nI ((P.1 f).length - 1 - j)) = some (bi (rowEnd R P f t n (b && (List.range j).all (fun i => fitB R ((P.1 f).getD i 0) ((P.1 f).getD (i + 1) 0))))) := by
  have hl := w.1.len f
  have e83 : ∀ b, F_X6_isRow_b83 I L (nI f) (nI t) (nI n) (nI ((P.1 f).length - n)) (bi b) = some (bi (rowEnd R P f t n b)) := fun b => by
    unfold F_X6_isRow_b83
    exact m_row_89 h w hr hf ht hn hn16 (fun _ => hb) _ (fun _ => rfl) (R 3) 0 FU (by omega) (FU_gt (by have := hr.2; unfold RulesOk at this; omega))
  intro j
  induction j with
  | zero =>
    intro m b hj hm
    obtain ⟨m, rfl⟩ : ∃ q, m = q + 1 := ⟨m - 1, by omega⟩
    show F_X6_isRow_s37 I L (F_X6_isRow_L37 I L m) _ _ _ _ _ _ = _
    unfold F_X6_isRow_s37
    rw [rdA_n _ hf (by omega), (h.1 f hf).2.1, nI_add, if_pos (nI_le (by omega) (by omega)), e83]
    simp
  | succ j ih =>
    intro m b hj hm
    obtain ⟨m, rfl⟩ : ∃ q, m = q + 1 := ⟨m - 1, by omega⟩
    show F_X6_isRow_s37 I L (F_X6_isRow_L37 I L m) _ _ _ _ _ _ = _
    unfold F_X6_isRow_s37
    rw [rdA_n _ hf (by omega), (h.1 f hf).2.1, nI_add, if_neg (nI_ge (by omega) (by omega))]
    cases b with
    | false => rw [if_pos (show bi false = nI 0 from rfl), e83]; rfl
    | true =>
      have c1 := m_cardAt h w.1 hf (i := (P.1 f).length - 1 - (j + 1) + 1) (by omega)
      have c2 := m_cardAt h w.1 hf (i := (P.1 f).length - 1 - (j + 1)) (by omega)
      rw [show (P.1 f).length - 1 - ((P.1 f).length - 1 - (j + 1) + 1) = j by omega] at c1
      rw [show (P.1 f).length - 1 - ((P.1 f).length - 1 - (j + 1)) = j + 1 by omega] at c2
      rw [if_neg (by rw [bi_eq0]; decide), c1, cal1_s, c2, cal1_s, m_fits hr (getD_lt w.1 (by omega)).1 (getD_lt w.1 (by omega)).1, cal1_s, show (P.1 f).length - 1 - (j + 1) + 1 = (P.1 f).length - 1 - j by omega, ih m _ (by omega) (by omega), List.range_succ, List.all_append]
      simp only [List.all_cons, List.all_nil, Bool.and_true, Bool.true_and]
      rw [Bool.and_comm]
theorem m_isRow {I : Nat → Nat → Int32} {L : Nat → Nat → Int64} {R : Nat → Nat} {P : Pos} (h : MRep I L P) (w : WF R P) (hr : RR (I 1) R) {f t n : Nat} (hf : f < 5) (ht : t < 5) (hn : 1 ≤ n) (hn16 : n ≤ 16) :
    F_X6_isRow I L (nI f) (nI t) (nI n) = some (bi (rowEnd R P f t n (isRun R (P.1 f) (P.2.1 f) n))) := by
  have hl := w.1.len f
  have hh := w.1.2.2.2.2.1 f
  unfold F_X6_isRow
  rw [rdA_n _ hf (by omega), rdA_n _ hf (by omega), (h.1 f hf).2.1, (h.1 f hf).2.2]
  by_cases q : n ≤ (P.1 f).length
  · rw [pk_sub q]
    have fin := fun b => m_row_37 h w hr hf ht hn hn16 q (n - 1) FU b (by omega) (FU_gt (by omega))
    rw [show (P.1 f).length - 1 - (n - 1) = (P.1 f).length - n by omega] at fin
    by_cases q2 : P.2.1 f + n ≤ (P.1 f).length
    · rw [if_neg (nI_nlt (by omega) (by omega)), if_neg (nI_nlt (by omega) (by omega)), show (nI 1 : Int32) = bi true from rfl, fin]
      unfold isRun; simp [q2]
    · rw [if_pos (nI_lt (by omega) (by omega)), show (nI 0 : Int32) = bi false from rfl, fin]
      unfold isRun; simp [q2]
  · have hneg : nI (P.1 f).length - nI n < nI 0 := by
      rw [neg_lt0]
      · trivial
      · rw [fb_subI (by rw [nI_toInt (by omega), nI_toInt (by omega)]; omega) (by rw [nI_toInt (by omega), nI_toInt (by omega)]; omega), nI_toInt (by omega), nI_toInt (by omega)]
        omega
    have e : isRun R (P.1 f) (P.2.1 f) n = false := by unfold isRun; rw [decide_eq_false (by omega)]; rfl
    have fin : F_X6_isRow_L37 I L FU (nI f) (nI t) (nI n) (nI (P.1 f).length - nI n) (nI 0) (nI (P.1 f).length - nI n) = some (bi (rowEnd R P f t n (isRun R (P.1 f) (P.2.1 f) n))) := by
      have e83 : F_X6_isRow_b83 I L (nI f) (nI t) (nI n) (nI (P.1 f).length - nI n) (nI 0) = some (bi (rowEnd R P f t n false)) := by
        unfold F_X6_isRow_b83
        exact m_row_89 (b := false) h w hr hf ht hn hn16 (fun y => by cases y) _ (fun y => by cases y) (R 3) 0 FU (by omega) (FU_gt (by have := hr.2; unfold RulesOk at this; omega))
      show F_X6_isRow_s37 I L (F_X6_isRow_L37 I L 4999) _ _ _ _ _ _ = _
      unfold F_X6_isRow_s37
      rw [rdA_n _ hf (by omega), e83, if_pos (show (nI 0 : Int32) = nI 0 from rfl), e]
      split <;> rfl
    rw [if_pos hneg, fin]
    split <;> rfl
end
section
/-! ===== the second reading: isMove is legal ===== -/
theorem m_isMove {I : Nat → Nat → Int32} {L : Nat → Nat → Int64} {R : Nat → Nat} {P : Pos} (h : MRep I L P) (w : WF R P) (hr : RR (I 1) R) {f t n : Nat} (hf : f < 10) (ht : t < 9) (hn : 1 ≤ n) (hn16 : n ≤ 16) (h1 : n = 1 ∨ (f < 5 ∧ t < 5)) : F_X6_isMove I L (nI f) (nI t) (nI n) = some (bi (legal R P f t n)) := by
  have hR := hr.2
  unfold RulesOk at hR
  have h79 := w.2.2.2.2.2.2.2
  unfold F_X6_isMove
  by_cases f9 : f = 9
  · subst f9
    have n1 : n = 1 := by omega
    subst n1
    have hl7 := w.1.len 7
    rw [if_pos rfl]
    unfold legal
    rw [if_pos rfl]
    by_cases t7 : t = 7
    · subst t7
      rw [if_pos rfl, if_pos rfl, h.2.2.2.2.1.1, h.2.2.2.1.1, zb1, zb0]
      cases e9 : P.1 9 with
      | cons c l =>
        have := w.1.len 9
        rw [e9] at this
        rw [if_pos (nI_lt (by simp) (by omega))]; rfl
      | nil =>
        rw [if_neg (nI_nlt (by simp) (by omega))]
        cases e7 : P.1 7 with
        | nil => rw [if_pos (nI_le (by simp) (by omega))]; rfl
        | cons c l =>
          rw [e7] at hl7
          rw [if_neg (nI_ge (by simp) (by omega)), rdA_n _ (by omega) (by omega), hr.1 7 (by omega), h.2.2.2.2.2]
          by_cases q : P.2.2.2 < R 7
          · rw [if_neg (nI_ge (by omega) (by omega))]; simp [q, bi]
          · rw [if_pos (nI_le (by omega) (by omega))]; simp [q, bi]
    · rw [if_neg (by rw [nI_eq (by omega) (by omega)]; exact t7), zb0, decide_eq_false t7]; rfl
  · rw [if_neg (by rw [nI_eq (by omega) (by omega)]; exact f9)]
    by_cases q : f < 5 ∧ t < 5
    · obtain ⟨q1, q2⟩ := q
      rw [if_neg (nI_ge q1 (by omega)), if_neg (nI_ge q2 (by omega)), zb0, zb1]
      by_cases e : f = t
      · rw [if_pos (by rw [e])]
        subst e
        unfold legal
        rw [if_neg (by omega)]
        cases P.1 f with
        | nil => rfl
        | cons c l => dsimp only; rw [if_neg (by omega), if_neg (by omega), if_pos q1]; simp [bi]
      · rw [if_neg (by rw [nI_eq (by omega) (by omega)]; exact e), m_isRow h w hr q1 q2 hn hn16, cal1_s]
        have ef : rowEnd R P f t n (isRun R (P.1 f) (P.2.1 f) n) = legal R P f t n := by
          unfold legal rowEnd
          rw [if_neg (by omega)]
          cases e2 : P.1 f with
          | nil =>
            have : isRun R [] (P.2.1 f) n = false := by unfold isRun; rw [decide_eq_false (by simp; omega)]; rfl
            rw [this]; rfl
          | cons c l =>
            dsimp only
            rw [if_neg (by omega), if_neg (by omega), if_pos q2, if_pos q1, decide_eq_true e, Bool.true_and]
            cases isRun R (c :: l) (P.2.1 f) n <;> cases decide (n ≤ most R P t) <;> cases decide (t < R 2) <;> rfl
        rw [ef]
        cases legal R P f t n <;> rfl
    · have n1 : n = 1 := by omega
      subst n1
      have fin : F_X6_isMove_b82 I L (nI f) (nI t) (nI 1) = some (bi (legal R P f t 1)) := by
        unfold F_X6_isMove_b82
        rw [m_lastOf h w (by omega) (by omega), cal1_s, if_pos rfl]
        unfold legal
        rw [if_neg f9]
        cases e : P.1 f with
        | nil => rw [if_pos (show topI [] = (-1 : Int32) from rfl), zb0]; rfl
        | cons c l =>
          have hm : c ∈ P.1 f := by rw [e]; simp
          have hc16 := w.1.1 f c hm
          have hcn := w.2.2.2.1 f c hm
          have hmod := mod_lt1 hr.2 c
          have hup := w.2.2.2.2.2.1 (c / R 1)
          rw [show topI (c :: l) = nI c from rfl, if_neg (by rw [nI_negone (by omega)]; exact id)]
          dsimp only
          by_cases t8 : t = 8
          · subst t8
            have hs : c / R 1 < R 0 := (Nat.div_lt_iff_lt_mul (by omega)).mpr hcn.1
            rw [if_pos rfl, if_pos rfl, m_rankOf hr hc16, cal1_s, m_suitOf hr hc16, cal1_s, rdA_n _ (by omega) (by omega), h.2.2.1 _ (by omega), nI_add, zb0, zb1, some_bi]
            have e2 : (nI (c % R 1 + 1) = nI (P.2.2.1 (c / R 1) + 1)) ↔ c % R 1 = P.2.2.1 (c / R 1) := by rw [nI_eq (by omega) (by omega)]; omega
            simp only [e2]
          · rw [if_neg (by rw [nI_eq (by omega) (by omega)]; exact t8), if_neg t8]
            unfold F_X6_in
            have e157 : t = 5 ∨ t = 6 → F_X6_isMove_b157 I L (nI t) = some (bi (decide (t - 5 < R 3) && (P.1 t).isEmpty)) := by
              intro ht2
              unfold F_X6_isMove_b157
              rw [rdA_n _ (by omega) (by omega), hr.1 3 (by omega), pk_sub (by omega), zb0, zb1]
              by_cases z : t - 5 < R 3
              · have ez := topI_m1 (P.1 t) (w.1.1 t)
                rw [if_neg (nI_ge z (by omega)), rdA_n _ (by omega) (by omega), h.2.1 _ (by omega), show 5 + (t - 5) = t by omega, some_bi]
                simp only [ez, z, decide_true, Bool.true_and, Bool.decide_eq_true]
              · rw [if_pos (nI_le (by omega) (by omega))]; simp [z, bi]
            by_cases t56 : t = 5 ∨ t = 6
            · rw [if_neg (nI_nlt (by omega) (by omega)), if_neg (nI_nlt (by omega) (by omega)), zb1, cal1_s, if_neg (by decide), if_pos t56]
              rw [e157 t56]
              by_cases f5 : f < 5
              · rw [if_pos (nI_lt f5 (by omega))]; simp [f5]
              · rw [if_neg (nI_nlt (by omega) (by omega))]
                by_cases f7 : f = 7
                · rw [if_pos (by rw [f7])]; simp [f7]
                · rw [if_neg (by rw [nI_eq (by omega) (by omega)]; exact f7), zb0]; simp [f5, f7, bi]
            · rw [if_neg t56]
              have ein : (if nI t < nI 5 then zb (nI 0) (some (nI 0)) else if nI 6 < nI t then zb (nI 0) (some (nI 0)) else zb (nI 1) (some (nI 1))) = some (nI 0) := by
                by_cases t5 : t < 5
                · rw [if_pos (nI_lt t5 (by omega))]; rfl
                · rw [if_neg (nI_nlt (by omega) (by omega)), if_pos (nI_lt (by omega) (by omega))]; rfl
              rw [ein, cal1_s, if_pos rfl]
              by_cases t5 : t < 5
              · have f5 : 5 ≤ f := by omega
                rw [if_neg (nI_ge t5 (by omega)), m_comesTo h w hr t5 hc16, cal1_s, if_pos t5, if_neg (show ¬ f < 5 by omega), zb0, zb1, decide_eq_true (show f ≠ t by omega), Bool.true_and]
                cases (decide (t < R 2) && forCol R (P.1 t) c) <;> rfl
              · rw [if_pos (nI_le (by omega) (by omega)), if_neg t5, zb0]; rfl
      rw [fin]
      rcases Nat.lt_or_ge f 5 with q5 | q5
      · rw [if_neg (nI_ge q5 (by omega)), if_pos (nI_le (by omega) (by omega))]
      · rw [if_pos (nI_le q5 (by omega))]
end
section
/-! ===== the second reading: push, pop, take ===== -/
theorem clr4 {a c k : Nat} (ha : a < 2 ^ (4 * k)) (hc : c < 16) (hk : k < 16) : (2 ^ (4 * k) * c + a) &&& ((2 ^ (4 * k) * 15 + 0) ^^^ (2 ^ 64 - 1)) = a := by
  apply Nat.eq_of_testBit_eq
  intro i
  rw [Nat.testBit_and, Nat.testBit_xor, Nat.testBit_two_pow_mul_add _ ha, Nat.testBit_two_pow_mul_add _ (Nat.two_pow_pos _), Nat.testBit_two_pow_sub_one]
  rcases Nat.lt_or_ge i (4 * k) with q | q
  · rw [if_pos q, if_pos q, decide_eq_true (show i < 64 by omega)]; simp
  · rw [if_neg (by omega), if_neg (by omega)]
    have h1 : a.testBit i = false := Nat.testBit_lt_two_pow (Nat.lt_of_lt_of_le ha (Nat.pow_le_pow_right (by omega) q))
    rw [h1]
    rcases Nat.lt_or_ge (i - 4 * k) 4 with z | z
    · rw [decide_eq_true (show i < 64 by omega)]
      have : (15 : Nat).testBit (i - 4 * k) = true := by
        have : ∀ j : Fin 4, (15 : Nat).testBit j.val = true := by decide
        exact this ⟨_, z⟩
      rw [this]; simp
    · have : c.testBit (i - 4 * k) = false := Nat.testBit_lt_two_pow (Nat.lt_of_lt_of_le (show c < 2 ^ 4 by omega) (Nat.pow_le_pow_right (by omega) z))
      rw [this]; rfl
theorem clr4L {a c k : Nat} (ha : a < 16 ^ k) (hc : c < 16) (hk : k < 16) : lN (a + 16 ^ k * c) &&& ((lN 15 <<< ((nI 4 * nI k).toInt64 &&& 63)) ^^^ (-1)) = lN a := by
  have h := clr4 (a := a) (c := c) (k := k) (by rw [pow16]; exact ha) hc hk
  rw [Nat.add_zero] at h
  rw [pk_mul, wb_shl 15 (by omega), show (-1 : Int64) = lN (2 ^ 64 - 1) by decide, fb_xorL, fb_andL, Nat.mul_comm 15, ← pow16, Nat.add_comm a, h]
theorem m_push {I : Nat → Nat → Int32} {L : Nat → Nat → Int64} {p c : Nat} {l : List Nat} (hp : p < 5) (hL : L 0 p = lN (pkT l)) (hI : I 3 p = nI l.length) (hl : l.length < 16) (h16 : ∀ d, d ∈ l → d < 16) (hc : c < 16) :
    F_X6_push I L (nI p) (nI c) = some (st2 I 3 p (nI (l.length + 1)), stJ L 0 p (lN (pkT (c :: l)))) := by
  unfold F_X6_push
  have e : lN (pkT l) ||| ((nI c).toInt64 <<< ((nI 4 * nI l.length).toInt64 &&& 63)) = lN (pkT (c :: l)) := by
    have h1 := pkT_lt h16
    rw [nI_l (by omega), pk_mul, wb_shl c (by omega), fb_orL, Nat.or_comm, Nat.mul_comm, ← Nat.two_pow_add_eq_or_of_lt (by rw [pow16]; exact h1), pow16, Nat.add_comm]; rfl
  rw [rdA_n _ hp (by omega), hL, rdA_n _ hp (by omega), hI, e, wrJ_n _ hp (by omega), rdA_n _ hp (by omega), hI, nI_add, wrA_n _ hp (by omega)]
theorem m_cardAt' {I : Nat → Nat → Int32} {L : Nat → Nat → Int64} {p i : Nat} {l : List Nat} (hp : p < 5) (hL : L 0 p = lN (pkT l)) (hl : l.length ≤ 16) (h16 : ∀ d, d ∈ l → d < 16) (hi : i < l.length) : F_X6_cardAt I L (nI p) (nI i) = some (nI (l.getD (l.length - 1 - i) 0)) := by
  unfold F_X6_cardAt
  rw [rdA_n _ hp (by omega), hL, shr_card (pkT_lt64 h16 hl) (by omega), pkT_at h16 hi]
theorem m_pop {I : Nat → Nat → Int32} {L : Nat → Nat → Int64} {p c h : Nat} {l : List Nat} (hp : p < 5) (hL : L 0 p = lN (pkT (c :: l))) (hI : I 3 p = nI (l.length + 1)) (hH : I 4 p = nI h) (hh : h < 16) (hl : l.length < 16) (h16 : ∀ d, d ∈ c :: l → d < 16) :
    ∃ I', F_X6_pop I L (nI p) = some (nI c, I', stJ L 0 p (lN (pkT l))) ∧ I' 3 p = nI l.length ∧ I' 4 p = nI (if 0 < l.length ∧ l.length ≤ h then l.length - 1 else h) ∧ ∀ a j, (a = 3 ∨ a = 4) ∧ j = p ∨ I' a j = I a j := by
  have hd : ∀ d, d ∈ l → d < 16 := fun d hd => h16 d (List.mem_cons_of_mem _ hd)
  have e3 : st2 I 3 p (nI l.length) 3 p = nI l.length := by simp [st2_s]
  have e4 : st2 I 3 p (nI l.length) 4 p = nI h := by simp [st2_s, hH]
  have ec : F_X6_cardAt (st2 I 3 p (nI l.length)) L (nI p) (nI l.length) = some (nI c) := by
    rw [m_cardAt' hp hL (by simp; omega) h16 (by simp)]; simp
  unfold F_X6_pop F_X6_pop_b87 F_X6_pop_b93
  rw [rdA_n _ hp (by omega), hI, pk_sub (by omega), Nat.add_sub_cancel, wrA_n _ hp (by omega), rdA_n _ hp (by omega), e3, ec, cal1_s, rdA_n _ hp (by omega), hL, rdA_n _ hp (by omega), e3, show pkT (c :: l) = pkT l + 16 ^ l.length * c from rfl, clr4L (pkT_lt hd) (h16 c (by simp)) hl, wrJ_n _ hp (by omega), rdA_n _ hp (by omega), e3]
  have fin : ∀ z, ∃ I', some (nI c, st2 (st2 I 3 p (nI l.length)) 4 p (nI z), stJ L 0 p (lN (pkT l))) = some (nI c, I', stJ L 0 p (lN (pkT l))) ∧ I' 3 p = nI l.length ∧ I' 4 p = nI z ∧ ∀ a j, (a = 3 ∨ a = 4) ∧ j = p ∨ I' a j = I a j := by
    intro z
    refine ⟨_, rfl, ?_, ?_, ?_⟩
    · simp [st2_s]
    · simp [st2_s]
    · intro a j
      by_cases q : (a = 3 ∨ a = 4) ∧ j = p
      · exact Or.inl q
      · right
        simp only [st2_s]
        rw [if_neg (fun y => q ⟨Or.inr y.1, y.2⟩), if_neg (fun y => q ⟨Or.inl y.1, y.2⟩)]
  by_cases z : l.length = 0
  · rw [if_pos (nI_le (by omega) (by omega)), rdA_n _ hp (by omega), e4, wrA_n _ hp (by omega), if_neg (by omega)]
    exact fin h
  · rw [if_neg (nI_ge (by omega) (by omega)), rdA_n _ hp (by omega), rdA_n _ hp (by omega), e4, e3]
    by_cases z2 : h < l.length
    · rw [if_pos (nI_lt z2 (by omega)), rdA_n _ hp (by omega), e4, wrA_n _ hp (by omega), if_neg (by omega)]
      exact fin h
    · rw [if_neg (nI_nlt (by omega) (by omega)), rdA_n _ hp (by omega), e3, pk_sub (by omega), wrA_n _ hp (by omega), if_pos (by omega)]
      exact fin _
/-- what a move of the second reading leaves alone -/
def FrI (I I' : Nat → Nat → Int32) : Prop := (∀ a, 10 ≤ a ∨ a = 1 ∨ a = 2 → I' a = I a) ∧ ∀ j, j ≠ 21 → j ≠ 23 → j ≠ 24 → I' 0 j = I 0 j
def FrL (L L' : Nat → Nat → Int64) : Prop := ∀ k, k ≠ 0 → L' k = L k
theorem FrI.refl (I : Nat → Nat → Int32) : FrI I I := ⟨fun _ _ => rfl, fun _ _ _ _ => rfl⟩
theorem FrI.trans {I I' I'' : Nat → Nat → Int32} (h : FrI I I') (h2 : FrI I' I'') : FrI I I'' := ⟨fun a ha => (h2.1 a ha).trans (h.1 a ha), fun j a b c => (h2.2 j a b c).trans (h.2 j a b c)⟩
theorem FrL.refl (L : Nat → Nat → Int64) : FrL L L := fun _ _ => rfl
theorem FrL.trans {I I' I'' : Nat → Nat → Int64} (h : FrL I I') (h2 : FrL I' I'') : FrL I I'' := fun a ha => (h2 a ha).trans (h a ha)
theorem FrL.stJ {L : Nat → Nat → Int64} {p : Nat} {x : Int64} : FrL L (stJ L 0 p x) := fun k hk => by funext j; rw [stJ_s, if_neg (fun y => hk y.1)]
theorem FrI.st {I : Nat → Nat → Int32} {a p : Nat} {x : Int32} (ha : 3 ≤ a) (ha2 : a < 10) : FrI I (st2 I a p x) := ⟨fun b hb => by funext j; rw [st2_s, if_neg (by omega)], fun j _ _ _ => by rw [st2_s, if_neg (by omega)]⟩
theorem FrI.st0 {I : Nat → Nat → Int32} {p : Nat} {x : Int32} (ha : p = 21 ∨ p = 23 ∨ p = 24) : FrI I (st2 I 0 p x) := ⟨fun b hb => by funext j; rw [st2_s, if_neg (by omega)], fun j _ _ _ => by rw [st2_s, if_neg (by omega)]⟩
/-- k cards taken from a place -/
def takeP (P : Pos) (f k : Nat) : Pos := (fun p => if p = f then (P.1 f).drop k else P.1 p, fun p => if p = f then (if 0 < (P.1 f).length - k ∧ (P.1 f).length - k ≤ P.2.1 f then (P.1 f).length - k - 1 else P.2.1 f) else P.2.1 p, P.2.2.1, P.2.2.2)
theorem m_take {I : Nat → Nat → Int32} {L : Nat → Nat → Int64} {P : Pos} (ho : PosOk P) {f k : Nat} (hf : f < 8) (hk : k < (P.1 f).length) (hh : P.2.1 f + (k + 1) ≤ (P.1 f).length) (hc5 : f = 5 ∨ f = 6 → (P.1 f).length ≤ 1) (h7 : f = 7 → (P.1 7).length ≤ 8) (h : MRep I L (takeP P f k)) :
    ∃ I' L', F_X6_take I L (nI f) = some (nI ((P.1 f).getD k 0), I', L') ∧ MRep I' L' (takeP P f (k + 1)) ∧ FrI I I' ∧ FrL L L' ∧ I' 9 = I 9 := by
  have hl := ho.len f
  have hd : (P.1 f).drop k = (P.1 f).getD k 0 :: (P.1 f).drop (k + 1) := by
    rw [List.drop_eq_getElem_cons hk, List.getD_eq_getElem?_getD, List.getElem?_eq_getElem hk]; rfl
  have hlen : ((P.1 f).drop (k + 1)).length = (P.1 f).length - (k + 1) := by simp
  have hlenk : ((P.1 f).drop k).length = (P.1 f).length - k := by simp
  unfold F_X6_take
  rcases Nat.lt_or_ge f 5 with q | q
  · rw [if_neg (nI_ge q (by omega))]
    obtain ⟨b1, b2, b3⟩ := h.1 f q
    have ef : (takeP P f k).1 f = (P.1 f).drop k := by simp [takeP]
    have eh : (takeP P f k).2.1 f = P.2.1 f := by show (if f = f then _ else _) = _; rw [if_pos rfl, if_neg (by omega)]
    rw [ef] at b1 b2
    rw [eh] at b3
    rw [hd] at b1 b2
    obtain ⟨I', e1, e2, e3, e4⟩ := m_pop (h := P.2.1 f) q b1 (by rw [b2]; rfl) b3 (by omega) (by rw [hlen]; omega) (fun d hd2 => ho.1 f d (by rw [← hd] at hd2; exact List.mem_of_mem_drop hd2))
    rw [e1, cal3_s]
    refine ⟨I', _, rfl, ?_, ?_, FrL.stJ, ?_⟩
    · have g : ∀ a j, ¬ ((a = 3 ∨ a = 4) ∧ j = f) → I' a j = I a j := fun a j hn => (e4 a j).resolve_left hn
      have gp : ∀ p, p ≠ f → (takeP P f (k + 1)).1 p = (takeP P f k).1 p := fun p hp => by show (if p = f then _ else _) = (if p = f then _ else _); rw [if_neg hp, if_neg hp]
      have gh : ∀ p, p ≠ f → (takeP P f (k + 1)).2.1 p = (takeP P f k).2.1 p := fun p hp => by show (if p = f then _ else _) = (if p = f then _ else _); rw [if_neg hp, if_neg hp]
      refine ⟨fun p hp => ?_, fun j hj => ?_, fun s hs => ?_, ⟨?_, fun i hi => ?_⟩, ⟨?_, fun i hi => ?_⟩, ?_⟩
      · by_cases z : p = f
        · subst z
          have ef2 : (takeP P p (k + 1)).1 p = (P.1 p).drop (k + 1) := by simp [takeP]
          rw [ef2, e2, e3, stJ_s, if_pos ⟨rfl, rfl⟩]
          refine ⟨rfl, rfl, ?_⟩
          show _ = nI (if p = p then _ else _)
          rw [if_pos rfl, hlen]
        · rw [stJ_s, if_neg (fun y => z y.2), g 3 p (by omega), g 4 p (by omega), gp p z, gh p z]; exact h.1 p hp
      · rw [g 5 j (by omega), gp _ (by omega)]; exact h.2.1 j hj
      · rw [g 6 s (by omega)]; exact h.2.2.1 s hs
      · rw [g 0 21 (by omega), gp _ (by omega)]; exact h.2.2.2.1.1
      · rw [gp 7 (by omega)] at hi ⊢; rw [g 7 i (by omega)]; exact h.2.2.2.1.2 i hi
      · rw [g 0 23 (by omega), gp _ (by omega)]; exact h.2.2.2.2.1.1
      · rw [gp 9 (by omega)] at hi ⊢; rw [g 8 i (by omega)]; exact h.2.2.2.2.1.2 i hi
      · rw [g 0 24 (by omega)]; exact h.2.2.2.2.2
    · exact ⟨fun a ha => by funext j; exact (e4 a j).resolve_left (by omega), fun j _ _ _ => (e4 0 j).resolve_left (by omega)⟩
    · funext j; exact (e4 9 j).resolve_left (by omega)
  · rw [if_pos (nI_le q (by omega))]
    have gp : ∀ p, p ≠ f → (takeP P f (k + 1)).1 p = (takeP P f k).1 p := fun p hp => by show (if p = f then _ else _) = (if p = f then _ else _); rw [if_neg hp, if_neg hp]
    have gh : ∀ p, p ≠ f → (takeP P f (k + 1)).2.1 p = (takeP P f k).2.1 p := fun p hp => by show (if p = f then _ else _) = (if p = f then _ else _); rw [if_neg hp, if_neg hp]
    have ef : (takeP P f k).1 f = (P.1 f).drop k := by simp [takeP]
    have ef2 : (takeP P f (k + 1)).1 f = (P.1 f).drop (k + 1) := by simp [takeP]
    by_cases f7 : f = 7
    · subst f7
      have h7 := h7 rfl
      obtain ⟨b1, b2⟩ := h.2.2.2.1
      rw [ef, hlenk] at b1 b2
      have bk := b2 ((P.1 7).length - (k + 1)) (by omega)
      rw [show (P.1 7).length - k - 1 - ((P.1 7).length - (k + 1)) = 0 by omega, hd, List.getD_cons_zero] at bk
      have e21 : st2 I 0 21 (nI ((P.1 7).length - (k + 1))) 0 21 = nI ((P.1 7).length - (k + 1)) := by simp [st2_s]
      have e7 : st2 I 0 21 (nI ((P.1 7).length - (k + 1))) 7 ((P.1 7).length - (k + 1)) = nI ((P.1 7).getD k 0) := by rw [st2_s, if_neg (by omega), bk]
      rw [if_pos (nI_le (by omega) (by omega)), bnd_s, b1, pk_sub (by omega), show (P.1 7).length - k - 1 = (P.1 7).length - (k + 1) by omega, e21, rdA_n _ (by omega) (by omega), e7]
      refine ⟨_, _, rfl, ?_, FrI.st0 (Or.inl rfl), FrL.refl L, by funext j; rw [st2_s, if_neg (by omega)]⟩
      refine ⟨fun p hp => ?_, fun j hj => ?_, fun s hs => ?_, ⟨?_, fun i hi => ?_⟩, ⟨?_, fun i hi => ?_⟩, ?_⟩
      · rw [st2_s, st2_s, if_neg (by omega), if_neg (by omega), gp p (by omega), gh p (by omega)]; exact h.1 p hp
      · rw [st2_s, if_neg (by omega), gp _ (by omega)]; exact h.2.1 j hj
      · rw [st2_s, if_neg (by omega)]; exact h.2.2.1 s hs
      · rw [e21, ef2, hlen]
      · rw [ef2, hlen] at hi
        rw [ef2, hlen, st2_s, if_neg (by omega), b2 i (by omega), hd]
        rw [show (P.1 7).length - k - 1 - i = ((P.1 7).length - (k + 1) - 1 - i) + 1 by omega]; rfl
      · rw [st2_s, if_neg (by omega), gp _ (by omega)]; exact h.2.2.2.2.1.1
      · rw [gp 9 (by omega)] at hi ⊢; rw [st2_s, if_neg (by omega)]; exact h.2.2.2.2.1.2 i hi
      · rw [st2_s, if_neg (by omega)]; exact h.2.2.2.2.2
    · have hc5 := hc5 (by omega)
      have hk0 : k = 0 := by omega
      subst hk0
      have b := h.2.1 (f - 5) (by omega)
      rw [show 5 + (f - 5) = f by omega, ef, hd] at b
      rw [if_neg (nI_ge (by omega) (by omega)), pk_sub q, rdA_n _ (by omega) (by omega), b, wrA_n _ (by omega) (by omega)]
      refine ⟨_, _, rfl, ?_, FrI.st (by omega) (by omega), FrL.refl L, by funext j; rw [st2_s, if_neg (by omega)]⟩
      refine ⟨fun p hp => ?_, fun j hj => ?_, fun s hs => ?_, ⟨?_, fun i hi => ?_⟩, ⟨?_, fun i hi => ?_⟩, ?_⟩
      · rw [st2_s, st2_s, if_neg (by omega), if_neg (by omega), gp p (by omega), gh p (by omega)]; exact h.1 p hp
      · by_cases z : j = f - 5
        · rw [st2_s, if_pos ⟨rfl, z⟩, z, show 5 + (f - 5) = f by omega, ef2, List.drop_eq_nil_of_le (by omega)]; rfl
        · rw [st2_s, if_neg (by omega), gp _ (by omega)]; exact h.2.1 j hj
      · rw [st2_s, if_neg (by omega)]; exact h.2.2.1 s hs
      · rw [st2_s, if_neg (by omega), gp _ (by omega)]; exact h.2.2.2.1.1
      · rw [gp 7 (by omega)] at hi ⊢; rw [st2_s, if_neg (by omega)]; exact h.2.2.2.1.2 i hi
      · rw [st2_s, if_neg (by omega), gp _ (by omega)]; exact h.2.2.2.2.1.1
      · rw [gp 9 (by omega)] at hi ⊢; rw [st2_s, if_neg (by omega)]; exact h.2.2.2.2.1.2 i hi
      · rw [st2_s, if_neg (by omega)]; exact h.2.2.2.2.2
end
section
/-! ===== the second reading: play ===== -/
/-- n cards taken from f, all but the first j of them laid on t -/
def stP (R : Nat → Nat) (P : Pos) (f t n j : Nat) : Pos := (fun p => if p = f then (P.1 f).drop n else if p = t ∧ t ≠ 8 then ((P.1 f).take n).drop j ++ P.1 t else P.1 p, (takeP P f n).2.1, (if t = 8 ∧ j = 0 then (fun s => if s = (P.1 f).headD 0 / R 1 then P.2.2.1 s + 1 else P.2.2.1 s) else P.2.2.1), P.2.2.2)
theorem stP_0 {R : Nat → Nat} {P : Pos} {f t n : Nat} (h9 : f ≠ 9) : playP R P f t n = stP R P f t n 0 := by
  unfold playP stP carryP takeP
  rw [if_neg h9, List.drop_zero]
  by_cases t8 : t = 8
  · simp [t8]
  · simp [t8]
theorem stP_n {R : Nat → Nat} {P : Pos} {f t n : Nat} (hn : 1 ≤ n) : stP R P f t n n = takeP P f n := by
  unfold stP takeP
  refine Prod.ext ?_ (Prod.ext rfl (Prod.ext ?_ rfl))
  · funext p
    dsimp only
    by_cases q : p = f
    · rw [if_pos q, if_pos q]
    · rw [if_neg q, if_neg q]
      by_cases q2 : p = t ∧ t ≠ 8
      · rw [if_pos q2, List.drop_eq_nil_of_le (by simp; omega), q2.1]; rfl
      · rw [if_neg q2]
  · dsimp only; rw [if_neg (by omega)]
theorem m_give {I : Nat → Nat → Int32} {L : Nat → Nat → Int64} {R : Nat → Nat} {P : Pos} (hr : RR (I 1) R) (ho : PosOk P) {f t n j : Nat} (ht : t < 9) (hft : f ≠ t) (ht7 : t ≠ 7) (hn : n ≤ (P.1 f).length) (hj : j < n) (hlen : t < 5 → n + (P.1 t).length ≤ 16) (h1 : n = 1 ∨ t < 5) (hup : t = 8 → (P.1 f).headD 0 / R 1 < 4 ∧ P.2.2.1 ((P.1 f).headD 0 / R 1) < 6) (hcell : t = 5 ∨ t = 6 → P.1 t = [])
    (hrow : I 9 j = nI ((P.1 f).getD j 0)) (h : MRep I L (stP R P f t n (j + 1))) (K : (Nat → Nat → Int32) → (Nat → Nat → Int64) → Int32 → Int32 → Option ((Nat → Nat → Int32) × (Nat → Nat → Int64))) :
    ∃ I' L', F_X6_play_s43 K I L (nI t) (nI j) = K I' L' (nI t) (nI j + (-1)) ∧ MRep I' L' (stP R P f t n j) ∧ FrI I I' ∧ FrL L L' ∧ I' 9 = I 9 := by
  have hl := ho.len f
  have hft' : ¬ t = f := fun y => hft y.symm
  have hjl : j < (P.1 f).length := by omega
  obtain ⟨hc16, hcm⟩ := getD_lt ho hjl
  have gp : ∀ p, ¬ (p = t ∧ t ≠ 8) → (stP R P f t n j).1 p = (stP R P f t n (j + 1)).1 p := fun p hp => by
    show (if p = f then _ else if _ then _ else _) = (if p = f then _ else if _ then _ else _)
    rw [if_neg hp, if_neg hp]
  have et : t ≠ 8 → (stP R P f t n j).1 t = (P.1 f).getD j 0 :: (stP R P f t n (j + 1)).1 t := by
    intro h8
    show (if t = f then _ else if _ then _ else _) = _ :: (if t = f then _ else if _ then _ else _)
    rw [if_neg hft', if_neg hft', if_pos (⟨rfl, h8⟩ : t = t ∧ t ≠ 8), if_pos (⟨rfl, h8⟩ : t = t ∧ t ≠ 8)]
    have : ((P.1 f).take n).drop j = (P.1 f).getD j 0 :: ((P.1 f).take n).drop (j + 1) := by
      rw [List.drop_eq_getElem_cons (by rw [List.length_take]; omega), List.getElem_take, List.getD_eq_getElem?_getD, List.getElem?_eq_getElem hjl]; rfl
    rw [this]; rfl
  have el : t ≠ 8 → ((stP R P f t n (j + 1)).1 t).length = n - (j + 1) + (P.1 t).length := by
    intro h8
    show (if t = f then _ else if _ then _ else _ : List Nat).length = _
    rw [if_neg hft', if_pos (⟨rfl, h8⟩ : t = t ∧ t ≠ 8), List.length_append, List.length_drop, List.length_take, Nat.min_eq_left hn]
  have e16 : ∀ d, d ∈ (stP R P f t n (j + 1)).1 t → d < 16 := by
    intro d hd
    have hd2 : d ∈ (if t = f then (P.1 f).drop n else if t = t ∧ t ≠ 8 then ((P.1 f).take n).drop (j + 1) ++ P.1 t else P.1 t) := hd
    rw [if_neg hft'] at hd2
    split at hd2
    · rw [List.mem_append] at hd2
      rcases hd2 with y | y
      · exact ho.1 f d (List.mem_of_mem_take (List.mem_of_mem_drop y))
      · exact ho.1 t d y
    · exact ho.1 t d hd2
  unfold F_X6_play_s43
  rw [if_neg (nI_nlt (by omega) (by omega)), rdA_n _ (by omega) (by omega), hrow]
  rcases Nat.lt_or_ge t 5 with q | q
  · obtain ⟨b1, b2, b3⟩ := h.1 t q
    rw [if_neg (nI_ge q (by omega)), m_push q b1 b2 (by rw [el (by omega)]; have := hlen q; omega) e16 hc16, cal2_s]
    have eup : (stP R P f t n j).2.2.1 = (stP R P f t n (j + 1)).2.2.1 := by
      show (if _ then _ else _) = (if _ then _ else _)
      rw [if_neg (by omega), if_neg (by omega)]
    refine ⟨_, _, rfl, ?_, FrI.st (by omega) (by omega), FrL.stJ, by funext i; rw [st2_s, if_neg (by omega)]⟩
    refine ⟨fun p hp => ?_, fun k hk => ?_, fun s hs => ?_, ⟨?_, fun i hi => ?_⟩, ⟨?_, fun i hi => ?_⟩, ?_⟩
    · by_cases z : p = t
      · subst z
        rw [stJ_s, if_pos ⟨rfl, rfl⟩, st2_s, if_pos ⟨rfl, rfl⟩, st2_s, if_neg (by omega), et (by omega)]
        exact ⟨rfl, rfl, b3⟩
      · rw [stJ_s, if_neg (fun y => z y.2), st2_s, if_neg (fun y => z y.2), st2_s, if_neg (by omega), gp p (fun y => z y.1)]; exact h.1 p hp
    · rw [st2_s, if_neg (by omega), gp _ (by omega)]; exact h.2.1 k hk
    · rw [st2_s, if_neg (by omega), eup]; exact h.2.2.1 s hs
    · rw [st2_s, if_neg (by omega), gp _ (by omega)]; exact h.2.2.2.1.1
    · rw [gp 7 (by omega)] at hi ⊢; rw [st2_s, if_neg (by omega)]; exact h.2.2.2.1.2 i hi
    · rw [st2_s, if_neg (by omega), gp _ (by omega)]; exact h.2.2.2.2.1.1
    · rw [gp 9 (by omega)] at hi ⊢; rw [st2_s, if_neg (by omega)]; exact h.2.2.2.2.1.2 i hi
    · rw [st2_s, if_neg (by omega)]; exact h.2.2.2.2.2
  · have n1 : n = 1 := by omega
    subst n1
    have j0 : j = 0 := by omega
    subst j0
    rw [if_pos (nI_le q (by omega))]
    by_cases t8 : t = 8
    · subst t8
      have ehd : (P.1 f).getD 0 0 = (P.1 f).headD 0 := by cases P.1 f <;> rfl
      rw [ehd] at hc16 ⊢
      obtain ⟨u1, u2⟩ := hup rfl
      have eu : (stP R P f 8 1 (0 + 1)).2.2.1 = P.2.2.1 := by unfold stP; simp
      rw [if_pos rfl, m_suitOf hr hc16, cal1_s, rdA_n _ u1 (by omega), h.2.2.1 _ u1, eu, nI_add, wrA_n _ u1 (by omega)]
      refine ⟨_, _, rfl, ?_, FrI.st (by omega) (by omega), FrL.refl L, by funext i; rw [st2_s, if_neg (by omega)]⟩
      refine ⟨fun p hp => ?_, fun k hk => ?_, fun s hs => ?_, ⟨?_, fun i hi => ?_⟩, ⟨?_, fun i hi => ?_⟩, ?_⟩
      · rw [st2_s, if_neg (by omega), st2_s, if_neg (by omega), gp p (by omega)]; exact h.1 p hp
      · rw [st2_s, if_neg (by omega), gp _ (by omega)]; exact h.2.1 k hk
      · have h3 := h.2.2.1 s hs
        rw [eu] at h3
        show _ = nI ((if 8 = 8 ∧ 0 = 0 then (fun s => if s = (P.1 f).headD 0 / R 1 then P.2.2.1 s + 1 else P.2.2.1 s) else P.2.2.1) s)
        rw [if_pos ⟨rfl, rfl⟩, st2_s]
        by_cases z : s = (P.1 f).headD 0 / R 1
        · rw [if_pos ⟨rfl, z⟩]; rw [if_pos z, z]
        · rw [if_neg (fun y => z y.2)]; rw [if_neg z]; exact h3
      · rw [st2_s, if_neg (by omega), gp _ (by omega)]; exact h.2.2.2.1.1
      · rw [gp 7 (by omega)] at hi ⊢; rw [st2_s, if_neg (by omega)]; exact h.2.2.2.1.2 i hi
      · rw [st2_s, if_neg (by omega), gp _ (by omega)]; exact h.2.2.2.2.1.1
      · rw [gp 9 (by omega)] at hi ⊢; rw [st2_s, if_neg (by omega)]; exact h.2.2.2.2.1.2 i hi
      · rw [st2_s, if_neg (by omega)]; exact h.2.2.2.2.2
    · have eup : (stP R P f t 1 0).2.2.1 = (stP R P f t 1 (0 + 1)).2.2.1 := by
        show (if _ then _ else _) = (if _ then _ else _)
        rw [if_neg (by omega), if_neg (by omega)]
      rw [if_neg (by rw [nI_eq (by omega) (by omega)]; exact t8), pk_sub q, wrA_n _ (by omega) (by omega)]
      refine ⟨_, _, rfl, ?_, FrI.st (by omega) (by omega), FrL.refl L, by funext i; rw [st2_s, if_neg (by omega)]⟩
      refine ⟨fun p hp => ?_, fun k hk => ?_, fun s hs => ?_, ⟨?_, fun i hi => ?_⟩, ⟨?_, fun i hi => ?_⟩, ?_⟩
      · rw [st2_s, if_neg (by omega), st2_s, if_neg (by omega), gp p (by omega)]; exact h.1 p hp
      · by_cases z : k = t - 5
        · rw [st2_s, if_pos ⟨rfl, z⟩, z, show 5 + (t - 5) = t by omega, et t8]; rfl
        · rw [st2_s, if_neg (fun y => z y.2), gp _ (by omega)]; exact h.2.1 k hk
      · rw [st2_s, if_neg (by omega), eup]; exact h.2.2.1 s hs
      · rw [st2_s, if_neg (by omega), gp _ (by omega)]; exact h.2.2.2.1.1
      · rw [gp 7 (by omega)] at hi ⊢; rw [st2_s, if_neg (by omega)]; exact h.2.2.2.1.2 i hi
      · rw [st2_s, if_neg (by omega), gp _ (by omega)]; exact h.2.2.2.2.1.1
      · rw [gp 9 (by omega)] at hi ⊢; rw [st2_s, if_neg (by omega)]; exact h.2.2.2.2.1.2 i hi
      · rw [st2_s, if_neg (by omega)]; exact h.2.2.2.2.2
end
section
/-! ===== the second reading: play, whole ===== -/
theorem MRep.st9 {I : Nat → Nat → Int32} {L : Nat → Nat → Int64} {P : Pos} (h : MRep I L P) (k : Nat) (x : Int32) : MRep (st2 I 9 k x) L P := by
  have g : ∀ a j, a ≠ 9 → st2 I 9 k x a j = I a j := fun a j ha => by rw [st2_s, if_neg (fun y => ha y.1)]
  refine ⟨fun p hp => ?_, fun j hj => ?_, fun s hs => ?_, ⟨?_, fun i hi => ?_⟩, ⟨?_, fun i hi => ?_⟩, ?_⟩
  · rw [g 3 p (by omega), g 4 p (by omega)]; exact h.1 p hp
  · rw [g 5 j (by omega)]; exact h.2.1 j hj
  · rw [g 6 s (by omega)]; exact h.2.2.1 s hs
  · rw [g 0 21 (by omega)]; exact h.2.2.2.1.1
  · rw [g 7 i (by omega)]; exact h.2.2.2.1.2 i hi
  · rw [g 0 23 (by omega)]; exact h.2.2.2.2.1.1
  · rw [g 8 i (by omega)]; exact h.2.2.2.2.1.2 i hi
  · rw [g 0 24 (by omega)]; exact h.2.2.2.2.2
theorem m_play_43 {R : Nat → Nat} {P : Pos} (ho : PosOk P) {f t n : Nat} (ht : t < 9) (hft : f ≠ t) (ht7 : t ≠ 7) (hn : n ≤ (P.1 f).length) (hlen : t < 5 → n + (P.1 t).length ≤ 16) (h1 : n = 1 ∨ t < 5) (hup : t = 8 → (P.1 f).headD 0 / R 1 < 4 ∧ P.2.2.1 ((P.1 f).headD 0 / R 1) < 6) (hcell : t = 5 ∨ t = 6 → P.1 t = []) :
    ∀ (j m : Nat) (I : Nat → Nat → Int32) (L : Nat → Nat → Int64), j ≤ n → j < m → RR (I 1) R → (∀ i, i < j → I 9 i = nI ((P.1 f).getD i 0)) → MRep I L (stP R P f t n j) →
    ∃ I' L', F_X6_play_L43 m I L (nI t) (nI j + (-1)) = some (I', L') ∧ MRep I' L' (stP R P f t n 0) ∧ FrI I I' ∧ FrL L L' := by
  intro j
  induction j with
  | zero =>
    intro m I L hj hm hr hrow h
    obtain ⟨m, rfl⟩ : ∃ q, m = q + 1 := ⟨m - 1, by omega⟩
    refine ⟨I, L, ?_, h, FrI.refl I, FrL.refl L⟩
    show F_X6_play_s43 (F_X6_play_L43 m) _ _ _ _ = _
    unfold F_X6_play_s43
    rw [if_pos (show nI 0 + (-1) < nI 0 by decide)]
  | succ j ih =>
    intro m I L hj hm hr hrow h
    obtain ⟨m, rfl⟩ : ∃ q, m = q + 1 := ⟨m - 1, by omega⟩
    rw [pk_m1]
    obtain ⟨I', L', e1, e2, e3, e4, e5⟩ := m_give hr ho ht hft ht7 hn (show j < n by omega) hlen h1 hup hcell (hrow j (by omega)) h (F_X6_play_L43 m)
    obtain ⟨I2, L2, g1, g2, g3, g4⟩ := ih m I' L' (by omega) (by omega) (by rw [e3.1 1 (by omega)]; exact hr) (fun i hi => by rw [e5]; exact hrow i (by omega)) e2
    exact ⟨I2, L2, e1.trans g1, g2, e3.trans g3, e4.trans g4⟩
theorem m_play_14 {P : Pos} (ho : PosOk P) {f t n : Nat} (hf : f < 8) (hn16 : n ≤ 16) (hn : n ≤ (P.1 f).length) (hh : P.2.1 f + n ≤ (P.1 f).length) (hc5 : f = 5 ∨ f = 6 → (P.1 f).length ≤ 1) (h7 : f = 7 → (P.1 7).length ≤ 8) :
    ∀ (j k m : Nat) (I : Nat → Nat → Int32) (L : Nat → Nat → Int64), k + j = n → j < m → (∀ i, i < k → I 9 i = nI ((P.1 f).getD i 0)) → MRep I L (takeP P f k) →
    ∃ I' L', F_X6_play_L14 m I L (nI f) (nI t) (nI n) (nI k) = F_X6_play_b38 I' L' (nI t) (nI n) ∧ MRep I' L' (takeP P f n) ∧ FrI I I' ∧ FrL L L' ∧ ∀ i, i < n → I' 9 i = nI ((P.1 f).getD i 0) := by
  intro j
  induction j with
  | zero =>
    intro k m I L hj hm hrow h
    obtain ⟨m, rfl⟩ : ∃ q, m = q + 1 := ⟨m - 1, by omega⟩
    have : k = n := by omega
    subst this
    refine ⟨I, L, ?_, h, FrI.refl I, FrL.refl L, hrow⟩
    show F_X6_play_s14 (F_X6_play_L14 m) _ _ _ _ _ _ = _
    unfold F_X6_play_s14
    rw [if_pos (nI_le (by omega) (by omega))]
  | succ j ih =>
    intro k m I L hj hm hrow h
    obtain ⟨m, rfl⟩ : ∃ q, m = q + 1 := ⟨m - 1, by omega⟩
    obtain ⟨I', L', e1, e2, e3, e4, e5⟩ := m_take ho hf (show k < (P.1 f).length by omega) (by omega) hc5 h7 h
    show ∃ I2 L2, F_X6_play_s14 (F_X6_play_L14 m) _ _ _ _ _ _ = _ ∧ _
    unfold F_X6_play_s14
    rw [if_neg (nI_ge (by omega) (by omega)), e1, cal3_s, wrA_n _ (by omega) (by omega), nI_add]
    obtain ⟨I2, L2, g1, g2, g3, g4, g5⟩ := ih (k + 1) m (st2 I' 9 k (nI ((P.1 f).getD k 0))) L' (by omega) (by omega) (fun i hi => by
      rw [st2_s]
      by_cases z : i = k
      · rw [if_pos ⟨rfl, z⟩, z]
      · rw [if_neg (fun y => z y.2), e5]; exact hrow i (by omega)) (e2.st9 _ _)
    exact ⟨I2, L2, g1, g2, (e3.trans (FrI.st (by omega) (by omega))).trans g3, e4.trans g4, g5⟩
theorem m_turn_50 {P : Pos} {L : Nat → Nat → Int64} (h8 : (P.1 7).length ≤ 8) (he : P.1 9 = []) :
    ∀ (j k m : Nat) (I : Nat → Nat → Int32), k + j = (P.1 7).length → j < m → (∀ i, i < k → I 8 i = nI ((P.1 7).getD i 0)) → MRep I L P →
    ∃ I', F_X6_turnStock_L50 L m I (nI k) = F_X6_turnStock_b83 L I' ∧ MRep I' L P ∧ FrI I I' ∧ ∀ i, i < (P.1 7).length → I' 8 i = nI ((P.1 7).getD i 0) := by
  intro j
  induction j with
  | zero =>
    intro k m I hj hm hrow h
    obtain ⟨m, rfl⟩ : ∃ q, m = q + 1 := ⟨m - 1, by omega⟩
    refine ⟨I, ?_, h, FrI.refl I, fun i hi => hrow i (by omega)⟩
    show F_X6_turnStock_s50 L (F_X6_turnStock_L50 L m) _ _ = _
    unfold F_X6_turnStock_s50
    rw [h.2.2.2.1.1, if_pos (nI_le (by omega) (by omega))]
  | succ j ih =>
    intro k m I hj hm hrow h
    obtain ⟨m, rfl⟩ : ∃ q, m = q + 1 := ⟨m - 1, by omega⟩
    show ∃ I2, F_X6_turnStock_s50 L (F_X6_turnStock_L50 L m) _ _ = _ ∧ _
    unfold F_X6_turnStock_s50
    have hx := h.2.2.2.1.2 ((P.1 7).length - 1 - k) (by omega)
    rw [show (P.1 7).length - 1 - ((P.1 7).length - 1 - k) = k by omega] at hx
    rw [h.2.2.2.1.1, if_neg (nI_ge (by omega) (by omega)), pk_sub (by omega), pk_sub (by omega), rdA_n _ (by omega) (by omega), hx, wrA_n _ (by omega) (by omega), nI_add]
    have g : ∀ a j, a ≠ 8 → st2 I 8 k (nI ((P.1 7).getD k 0)) a j = I a j := fun a j ha => by rw [st2_s, if_neg (fun y => ha y.1)]
    obtain ⟨I2, g1, g2, g3, g4⟩ := ih (k + 1) m (st2 I 8 k (nI ((P.1 7).getD k 0))) (by omega) (by omega) (fun i hi => by
      rw [st2_s]
      by_cases z : i = k
      · rw [if_pos ⟨rfl, z⟩, z]
      · rw [if_neg (fun y => z y.2)]; exact hrow i (by omega)) (by
        refine ⟨fun p hp => ?_, fun j hj => ?_, fun s hs => ?_, ⟨?_, fun i hi => ?_⟩, ⟨?_, fun i hi => ?_⟩, ?_⟩
        · rw [g 3 p (by omega), g 4 p (by omega)]; exact h.1 p hp
        · rw [g 5 j (by omega)]; exact h.2.1 j hj
        · rw [g 6 s (by omega)]; exact h.2.2.1 s hs
        · rw [g 0 21 (by omega)]; exact h.2.2.2.1.1
        · rw [g 7 i (by omega)]; exact h.2.2.2.1.2 i hi
        · rw [g 0 23 (by omega)]; exact h.2.2.2.2.1.1
        · rw [he] at hi; exact absurd hi (Nat.not_lt_zero i)
        · rw [g 0 24 (by omega)]; exact h.2.2.2.2.2)
    exact ⟨I2, g1, g2, (FrI.st (by omega) (by omega)).trans g3, g4⟩
theorem m_turn {I : Nat → Nat → Int32} {L : Nat → Nat → Int64} {R : Nat → Nat} {P : Pos} (h : MRep I L P) (w : WF R P) (hR : RulesOk R) : ∃ I', F_X6_turnStock L I = some I' ∧ MRep I' L (playP R P 9 7 1) ∧ FrI I I' := by
  unfold RulesOk at hR
  have h79 := w.2.2.2.2.2.2.2.1
  unfold F_X6_turnStock playP
  rw [if_pos rfl, h.2.2.2.2.1.1]
  cases e9 : P.1 9 with
  | nil =>
    rw [if_pos (nI_le (by simp) (by omega)), if_pos (show ([] : List Nat).isEmpty = true from rfl)]
    obtain ⟨I1, g1, g2, g3, g4⟩ := m_turn_50 (L := L) (show (P.1 7).length ≤ 8 by omega) e9 (P.1 7).length 0 FU I (by omega) (FU_gt (by omega)) (fun i hi => absurd hi (Nat.not_lt_zero i)) h
    rw [g1]
    unfold F_X6_turnStock_b83
    rw [bnd_s, bnd_s, bnd_s]
    refine ⟨_, rfl, ?_, ((g3.trans (FrI.st0 (Or.inr (Or.inl rfl)))).trans (FrI.st0 (Or.inl rfl))).trans (FrI.st0 (Or.inr (Or.inr rfl)))⟩
    have g : ∀ a j x y z, a ≠ 0 → st2 (st2 (st2 I1 0 23 x) 0 21 y) 0 24 z a j = I1 a j := fun a j x y z ha => by simp only [st2_s]; rw [if_neg (fun y => ha y.1), if_neg (fun y => ha y.1), if_neg (fun y => ha y.1)]
    have gp : ∀ p, p ≠ 9 → p ≠ 7 → (turnP P).1 p = P.1 p := fun p h1 h2 => by show (if p = 9 then _ else if p = 7 then _ else _) = _; rw [if_neg h1, if_neg h2]
    have e7 : (turnP P).1 7 = [] := rfl
    have e9' : (turnP P).1 9 = (P.1 7).reverse := by show (P.1 7).reverse ++ P.1 9 = _; rw [e9, List.append_nil]
    refine ⟨fun p hp => ?_, fun j hj => ?_, fun s hs => ?_, ⟨?_, fun i hi => ?_⟩, ⟨?_, fun i hi => ?_⟩, ?_⟩
    · rw [g 3 p _ _ _ (by omega), g 4 p _ _ _ (by omega), gp p (by omega) (by omega)]; exact g2.1 p hp
    · rw [g 5 j _ _ _ (by omega), gp _ (by omega) (by omega)]; exact g2.2.1 j hj
    · rw [g 6 s _ _ _ (by omega)]; exact g2.2.2.1 s hs
    · rw [e7]; simp [st2_s]
    · rw [e7] at hi; exact absurd hi (Nat.not_lt_zero i)
    · rw [e9']; simp [st2_s, g2.2.2.2.1.1]
    · rw [e9'] at hi ⊢
      simp only [List.length_reverse] at hi ⊢
      rw [g 8 i _ _ _ (by omega), g4 i hi]
      congr 1
      rw [List.getD_eq_getElem?_getD, List.getD_eq_getElem?_getD, List.getElem?_reverse (by omega), show (P.1 7).length - 1 - ((P.1 7).length - 1 - i) = i by omega]
    · have : st2 (st2 (st2 I1 0 23 (I1 0 21)) 0 21 (nI 0)) 0 24 (st2 (st2 I1 0 23 (I1 0 21)) 0 21 (nI 0) 0 24 + nI 1) 0 24 = I1 0 24 + nI 1 := by simp [st2_s]
      rw [this, g2.2.2.2.2.2, nI_add]; rfl
  | cons c l =>
    rw [e9] at h79
    simp only [List.length_cons] at h79
    rw [if_neg (nI_ge (by simp) (by simp only [List.length_cons]; omega)), if_neg (show ¬ (c :: l).isEmpty = true from fun y => by cases y)]
    have hs := h.2.2.2.2.1.2 l.length (by rw [e9]; simp)
    rw [e9] at hs
    simp only [List.length_cons, Nat.add_sub_cancel, Nat.sub_self, List.getD_cons_zero] at hs
    have e23 : st2 I 0 23 (nI l.length) 0 23 = nI l.length := by simp [st2_s]
    have e21 : st2 I 0 23 (nI l.length) 0 21 = nI (P.1 7).length := by rw [st2_s, if_neg (by omega), h.2.2.2.1.1]
    have e8 : st2 I 0 23 (nI l.length) 8 l.length = nI c := by rw [st2_s, if_neg (by omega), hs]
    rw [bnd_s, List.length_cons, pk_sub (by omega), Nat.add_sub_cancel, e23, rdA_n _ (by omega) (by omega), e8, e21, wrA_n _ (by omega) (by omega), bnd_s]
    have e21b : st2 (st2 I 0 23 (nI l.length)) 7 (P.1 7).length (nI c) 0 21 = nI (P.1 7).length := by rw [st2_s, if_neg (by omega), e21]
    rw [e21b, nI_add]
    refine ⟨_, rfl, ?_, ((FrI.st0 (Or.inr (Or.inl rfl))).trans (FrI.st (by omega) (by omega))).trans (FrI.st0 (Or.inl rfl))⟩
    have gp : ∀ p, p ≠ 9 → p ≠ 7 → (carryP P 9 7 1).1 p = P.1 p := fun p h1 h2 => by show (if p = 9 then _ else if p = 7 ∧ 7 ≠ 8 then _ else _) = _; rw [if_neg h1, if_neg (fun y => h2 y.1)]
    have e7 : (carryP P 9 7 1).1 7 = c :: P.1 7 := by show (P.1 9).take 1 ++ P.1 7 = _; rw [e9]; rfl
    have e9' : (carryP P 9 7 1).1 9 = l := by show (P.1 9).drop 1 = _; rw [e9]; rfl
    have gh : (carryP P 9 7 1).2.1 = P.2.1 := carry_hid5 w.1 (by omega)
    refine ⟨fun p hp => ?_, fun j hj => ?_, fun s hs => ?_, ⟨?_, fun i hi => ?_⟩, ⟨?_, fun i hi => ?_⟩, ?_⟩
    · rw [gp p (by omega) (by omega), gh, st2_s, if_neg (by omega), st2_s, if_neg (by omega), st2_s, if_neg (by omega), st2_s, if_neg (by omega), st2_s, if_neg (by omega), st2_s, if_neg (by omega)]; exact h.1 p hp
    · rw [gp _ (by omega) (by omega), st2_s, if_neg (by omega), st2_s, if_neg (by omega), st2_s, if_neg (by omega)]; exact h.2.1 j hj
    · rw [st2_s, if_neg (by omega), st2_s, if_neg (by omega), st2_s, if_neg (by omega)]; exact h.2.2.1 s hs
    · rw [e7]; simp [st2_s]
    · rw [e7] at hi ⊢
      simp only [List.length_cons] at hi ⊢
      rw [st2_s, if_neg (by omega), st2_s]
      by_cases z : i = (P.1 7).length
      · rw [if_pos ⟨rfl, z⟩, z, Nat.add_sub_cancel, Nat.sub_self]; rfl
      · rw [if_neg (fun y => z y.2), st2_s, if_neg (by omega), h.2.2.2.1.2 i (by omega), show (P.1 7).length + 1 - 1 - i = ((P.1 7).length - 1 - i) + 1 by omega]; rfl
    · rw [e9']; simp [st2_s]
    · rw [e9'] at hi ⊢
      have h5 := h.2.2.2.2.1.2 i (by rw [e9]; simp; omega)
      rw [e9] at h5
      simp only [List.length_cons] at h5
      rw [st2_s, if_neg (by omega), st2_s, if_neg (by omega), st2_s, if_neg (by omega), h5, show l.length + 1 - 1 - i = (l.length - 1 - i) + 1 by omega]; rfl
    · simp [st2_s, h.2.2.2.2.2, carryP]
theorem takeP_0 {P : Pos} (ho : PosOk P) (f : Nat) : takeP P f 0 = P := by
  unfold takeP
  refine Prod.ext ?_ (Prod.ext ?_ rfl)
  · funext p; dsimp only
    by_cases q : p = f
    · rw [if_pos q, List.drop_zero, q]
    · rw [if_neg q]
  · funext p; dsimp only
    by_cases q : p = f
    · have := ho.2.2.2.2.1 f
      rw [if_pos q, if_neg (by omega), q]
    · rw [if_neg q]
theorem m_play {I : Nat → Nat → Int32} {L : Nat → Nat → Int64} {R : Nat → Nat} {P : Pos} (h : MRep I L P) (w : WF R P) (hr : RR (I 1) R) {f t n : Nat} (ht : t < 9) (hn : 1 ≤ n) (hn16 : n ≤ 16) (h1 : n = 1 ∨ (f < 5 ∧ t < 5)) (hl : legal R P f t n = true) :
    ∃ I' L', F_X6_play I L (nI f) (nI t) (nI n) = some (I', L') ∧ MRep I' L' (playP R P f t n) ∧ FrI I I' ∧ FrL L L' := by
  have hR := hr.2
  have hR2 := hr.2
  unfold RulesOk at hR
  have h79 := w.2.2.2.2.2.2.2.1
  unfold F_X6_play
  by_cases f9 : f = 9
  · subst f9
    have n1 : n = 1 := by omega
    subst n1
    have t7 : t = 7 := by
      unfold legal at hl
      rw [if_pos rfl] at hl
      simp only [Bool.and_eq_true, decide_eq_true_eq] at hl
      exact hl.1
    subst t7
    obtain ⟨I', e1, e2, e3⟩ := m_turn h w hR2
    rw [if_pos rfl, e1, cal1_s]
    exact ⟨I', L, rfl, e2, e3, FrL.refl L⟩
  · obtain ⟨a1, a2, a3, a4, a5, a6, a7⟩ := legal_facts w.1 hn h1 f9 hl
    have hok := (carryP_ok w.1 a3 (show t < 10 by omega) a5 a6).len t
    obtain ⟨c, l, e⟩ : ∃ c l, P.1 f = c :: l := by
      cases e : P.1 f with
      | nil => exact absurd e a7
      | cons c l => exact ⟨c, l, rfl⟩
    have hcm : c ∈ P.1 f := by rw [e]; simp
    have hcn := w.2.2.2.1 f c hcm
    have hmod := mod_lt1 hR2 c
    have hs : c / R 1 < R 0 := (Nat.div_lt_iff_lt_mul (by omega)).mpr hcn.1
    have hf : f < 5 ∨ f = 5 ∨ f = 6 ∨ f = 7 := by omega
    rw [if_neg (by rw [nI_eq (by omega) (by omega)]; exact f9)]
    obtain ⟨I1, L1, b1, b2, b3, b4, b5⟩ := m_play_14 (t := t) w.1 (show f < 8 by omega) hn16 a5 a6 (fun y => by
      rcases y with y | y
      · rw [y]; exact (w.2.2.1 0 (by omega)).1
      · rw [y]; exact (w.2.2.1 1 (by omega)).1) (fun _ => by omega) n 0 FU I L (by omega) (FU_gt (by omega)) (fun i hi => absurd hi (Nat.not_lt_zero i)) (by rw [takeP_0 w.1]; exact h)
    rw [b1]
    unfold F_X6_play_b38
    rw [pk_sub hn]
    have hm1 : nI (n - 1) = nI n + (-1) := by
      obtain ⟨q, rfl⟩ : ∃ q, n = q + 1 := ⟨n - 1, by omega⟩
      rw [pk_m1]; rfl
    rw [hm1, stP_0 f9]
    rw [← stP_n (R := R) (t := t) hn] at b2
    obtain ⟨I2, L2, c1, c2, c3, c4⟩ := m_play_43 w.1 ht a3 (show t ≠ 7 by omega) a5 (fun ht5 => by
      have e3 : (carryP P f t n).1 t = (P.1 f).take n ++ P.1 t := by
        show (if t = f then _ else if t = t ∧ t ≠ 8 then _ else _) = _
        rw [if_neg (fun y => a3 y.symm), if_pos ⟨rfl, by omega⟩]
      rw [e3, List.length_append, List.length_take, Nat.min_eq_left a5] at hok
      exact hok) (by omega) (fun _ => by rw [e]; show c / R 1 < 4 ∧ P.2.2.1 (c / R 1) < 6; omega) (fun ht5 => by
      unfold legal at hl
      rw [if_neg f9, e] at hl
      dsimp only at hl
      rw [if_neg (by omega), if_pos ht5] at hl
      simp only [Bool.and_eq_true] at hl
      simpa using hl.2.2) n FU I1 L1 (Nat.le_refl n) (FU_gt (by omega)) (by rw [b3.1 1 (by omega)]; exact hr) b5 b2
    exact ⟨I2, L2, c1, c2, b3.trans c3, b4.trans c4⟩
end
section
/-! ===== the second reading: cards up, won, safe, the moves there are ===== -/
theorem m_atHome {I : Nat → Nat → Int32} {L : Nat → Nat → Int64} {P : Pos} (h : MRep I L P) : F_X6_atHome I L = some (nI (upN P)) := by
  unfold F_X6_atHome upN
  rw [rdA_n _ (by omega) (by omega), rdA_n _ (by omega) (by omega), rdA_n _ (by omega) (by omega), rdA_n _ (by omega) (by omega), h.2.2.1 0 (by omega), h.2.2.1 1 (by omega), h.2.2.1 2 (by omega), h.2.2.1 3 (by omega), nI_add, nI_add, nI_add]
theorem m_isWon {I : Nat → Nat → Int32} {L : Nat → Nat → Int64} {R : Nat → Nat} {P : Pos} (h : MRep I L P) (w : WF R P) (hr : RR (I 1) R) : F_X6_isWon I L = some (bi (wonB R P)) := by
  have hR := hr.2
  unfold RulesOk at hR
  have hu := upN_le w hr.2
  unfold F_X6_isWon wonB
  have e : (nI (upN P) = nI (R 0 * R 1)) ↔ upN P = R 0 * R 1 := nI_eq (by omega) (by omega)
  rw [m_atHome h, cal1_s, rdA_n _ (by omega) (by omega), rdA_n _ (by omega) (by omega), hr.1 0 (by omega), hr.1 1 (by omega), pk_mul, zb0, zb1, some_bi]
  simp only [e]
theorem m_isSafe_L {I : Nat → Nat → Int32} {L : Nat → Nat → Int64} {R : Nat → Nat} {P : Pos} (h : MRep I L P) (w : WF R P) (hr : RR (I 1) R) {c : Nat} (hc : c < 16) : ∀ (j k n : Nat) (b : Bool), k + j = R 0 * R 1 → j < n → F_X6_isSafe_L4 I L n (nI c) (bi b) (nI k) = some (bi (b && (List.range' k j).all (fun o => decide (o % R 1 < P.2.2.1 (o / R 1)) || !fitB R o c))) := by
  have hR := hr.2
  unfold RulesOk at hR
  intro j
  induction j with
  | zero =>
    intro k n b hk hn
    obtain ⟨n, rfl⟩ : ∃ q, n = q + 1 := ⟨n - 1, by omega⟩
    show F_X6_isSafe_s4 I L (F_X6_isSafe_L4 I L n) _ _ _ = _
    unfold F_X6_isSafe_s4
    rw [rdA_n _ (by omega) (by omega), rdA_n _ (by omega) (by omega), hr.1 0 (by omega), hr.1 1 (by omega), pk_mul, if_pos (nI_le (by omega) (by omega)), zb_bi]; simp
  | succ j ih =>
    intro k n b hk hn
    obtain ⟨n, rfl⟩ : ∃ q, n = q + 1 := ⟨n - 1, by omega⟩
    show F_X6_isSafe_s4 I L (F_X6_isSafe_L4 I L n) _ _ _ = _
    unfold F_X6_isSafe_s4
    have e : (List.range' k (j + 1)).all (fun o => decide (o % R 1 < P.2.2.1 (o / R 1)) || !fitB R o c) = ((decide (k % R 1 < P.2.2.1 (k / R 1)) || !fitB R k c) && (List.range' (k + 1) j).all (fun o => decide (o % R 1 < P.2.2.1 (o / R 1)) || !fitB R o c)) := rfl
    have i0 := ih (k + 1) n false (by omega) (by omega)
    have i1 := ih (k + 1) n true (by omega) (by omega)
    have hmod := mod_lt1 hr.2 k
    have hs : k / R 1 < R 0 := (Nat.div_lt_iff_lt_mul (by omega)).mpr (by omega)
    have hup := w.2.2.2.2.2.1 (k / R 1)
    rw [rdA_n _ (by omega) (by omega), rdA_n _ (by omega) (by omega), hr.1 0 (by omega), hr.1 1 (by omega), pk_mul, if_neg (nI_ge (by omega) (by omega)), nI_add, e]
    cases b with
    | false => rw [if_pos (show bi false = nI 0 from rfl)]; exact i0
    | true =>
      rw [if_neg (by rw [bi_eq0]; decide), m_rankOf hr (by omega), cal1_s, m_suitOf hr (by omega), cal1_s, rdA_n _ (by omega) (by omega), h.2.2.1 _ (by omega), m_fits hr (by omega) hc, cal1_s, bi_if]
      rw [show (nI 1 : Int32) = bi true from rfl, show (nI 0 : Int32) = bi false from rfl, i0, i1]
      by_cases q : k % R 1 < P.2.2.1 (k / R 1)
      · rw [if_pos (nI_le (by omega) (by omega))]; simp [q]
      · rw [if_neg (nI_ge (by omega) (by omega))]
        by_cases q2 : fitB R k c = true
        · rw [if_pos q2]; simp [q, q2]
        · rw [if_neg q2]; simp only [Bool.not_eq_true] at q2; simp [q2]
theorem m_isSafe {I : Nat → Nat → Int32} {L : Nat → Nat → Int64} {R : Nat → Nat} {P : Pos} (h : MRep I L P) (w : WF R P) (hr : RR (I 1) R) {c : Nat} (hc : c < 16) : F_X6_isSafe I L (nI c) = some (bi (safeB R P c)) := by
  have hR := hr.2
  unfold RulesOk at hR
  unfold safeB
  rw [List.range_eq_range']
  have := m_isSafe_L h w hr hc (R 0 * R 1) 0 FU true (by omega) (FU_gt (by omega))
  rw [Bool.true_and] at this
  exact this
/-- the k-th of all moves that can be written, in their order -/
def allB (R : Nat → Nat) (P : Pos) (k : Nat) : Bool := canB (k / 144) (k / 16 % 9) (k % 16 + 1) && legal R P (k / 144) (k / 16 % 9) (k % 16 + 1)
def allC (k : Nat) : Nat := codeN (k / 144) (k / 16 % 9) (k % 16 + 1)
theorem all_triples : (List.range 10).flatMap (fun f => (List.range 9).flatMap (fun t => (List.range' 1 16).map (fun n => (f, t, n)))) = (List.range 1440).map (fun k => (k / 144, k / 16 % 9, k % 16 + 1)) := by decide +kernel
theorem mvs_all (R : Nat → Nat) (P : Pos) : mvs R P = ((List.range 1440).filter (allB R P)).map allC := by
  have h1 : ∀ f t, mvFT R P f t = (((List.range' 1 16).map (fun n => (f, t, n))).filter (fun z => canB z.1 z.2.1 z.2.2 && legal R P z.1 z.2.1 z.2.2)).map (fun z => codeN z.1 z.2.1 z.2.2) := by
    intro f t
    unfold mvFT
    rw [List.filter_map, List.map_map]; rfl
  have h2 : mvs R P = (((List.range 10).flatMap (fun f => (List.range 9).flatMap (fun t => (List.range' 1 16).map (fun n => (f, t, n))))).filter (fun z => canB z.1 z.2.1 z.2.2 && legal R P z.1 z.2.1 z.2.2)).map (fun z => codeN z.1 z.2.1 z.2.2) := by
    have h3 : ∀ f, mvFT R P f = fun t => (((List.range' 1 16).map (fun n => (f, t, n))).filter (fun z => canB z.1 z.2.1 z.2.2 && legal R P z.1 z.2.1 z.2.2)).map (fun z => codeN z.1 z.2.1 z.2.2) := fun f => funext (h1 f)
    unfold mvs mvF
    simp only [h3, List.filter_flatMap, List.map_flatMap]
  rw [h2, all_triples, List.filter_map, List.map_map]; rfl
def findR : List Nat → Int32 → Nat → Int32
  | [], _, i => -1 - nI i
  | c :: l, v, i => if nI i = v then nI c else findR l v (i + 1)
theorem m_find_L {I : Nat → Nat → Int32} {L : Nat → Nat → Int64} {R : Nat → Nat} {P : Pos} (h : MRep I L P) (w : WF R P) (hr : RR (I 1) R) (v : Int32) : ∀ (j k i n : Nat), k + j = 1440 → j < n → F_X6_find_L4 I L n v (nI i) (nI k) = some (findR (((List.range' k j).filter (allB R P)).map allC) v i) := by
  intro j
  induction j with
  | zero =>
    intro k i n hk hn
    obtain ⟨n, rfl⟩ : ∃ q, n = q + 1 := ⟨n - 1, by omega⟩
    show F_X6_find_s4 I L (F_X6_find_L4 I L n) _ _ _ = _
    unfold F_X6_find_s4
    rw [if_pos (nI_le (by omega) (by omega))]; rfl
  | succ j ih =>
    intro k i n hk hn
    obtain ⟨n, rfl⟩ : ∃ q, n = q + 1 := ⟨n - 1, by omega⟩
    show F_X6_find_s4 I L (F_X6_find_L4 I L n) _ _ _ = _
    unfold F_X6_find_s4
    have e : List.range' k (j + 1) = k :: List.range' (k + 1) j := rfl
    have i0 := ih (k + 1) i n (by omega) (by omega)
    have i1 := ih (k + 1) (i + 1) n (by omega) (by omega)
    have hf : k / 144 < 10 := by omega
    have ht : k / 16 % 9 < 9 := by omega
    have hn16 : k % 16 + 1 ≤ 16 := by omega
    rw [if_neg (nI_ge (by omega) (by omega)), nz_n _ (by omega) (by omega), nz_n _ (by omega) (by omega), nz_n _ (by omega) (by omega), nz_n _ (by omega) (by omega), show nI k - nI k / nI 16 * nI 16 = nI (k % 16) from pk_rem (by omega) (by omega) (by omega), pk_div (by omega) (by omega) (by omega), pk_div (by omega) (by omega) (by omega), pk_rem (by omega) (by omega) (by omega), nI_add]
    have skip : canB (k / 144) (k / 16 % 9) (k % 16 + 1) = false → F_X6_find_b65 I L (F_X6_find_L4 I L n) v (nI i) (nI k) (nI (k / 144)) (nI (k / 16 % 9)) (nI (k % 16 + 1)) (nI 0) = some (findR (((List.range' k (j + 1)).filter (allB R P)).map allC) v i) := by
      intro hc
      unfold F_X6_find_b65
      have ha : ¬ allB R P k = true := by unfold allB; rw [hc, Bool.false_and]; exact Bool.false_ne_true
      rw [if_pos rfl, nI_add, i0, e, List.filter_cons_of_neg ha]
    have go : canB (k / 144) (k / 16 % 9) (k % 16 + 1) = true → F_X6_find_b65 I L (F_X6_find_L4 I L n) v (nI i) (nI k) (nI (k / 144)) (nI (k / 16 % 9)) (nI (k % 16 + 1)) (nI 1) = some (findR (((List.range' k (j + 1)).filter (allB R P)).map allC) v i) := by
      intro hc
      unfold F_X6_find_b65
      have hc' := hc
      unfold canB at hc'
      simp only [Bool.and_eq_true, Bool.or_eq_true, decide_eq_true_eq] at hc'
      rw [if_neg (by decide), m_isMove h w hr hf ht (by omega) hn16 (by omega), cal1_s, bi_if, nI_add, nI_add, i0, i1, e]
      by_cases q : legal R P (k / 144) (k / 16 % 9) (k % 16 + 1) = true
      · have ha : allB R P k = true := by unfold allB; rw [hc, q]; rfl
        rw [if_pos q, List.filter_cons_of_pos ha, List.map_cons]
        show _ = some (if nI i = v then nI (allC k) else findR _ v (i + 1))
        by_cases z : nI i = v
        · rw [if_pos z, if_pos z]
          unfold F_X6_find_b90
          rw [pk_mul, pk_mul, nI_add, nI_add]; rfl
        · rw [if_neg z, if_neg z]
      · have ha : ¬ allB R P k = true := by unfold allB; rw [hc]; simpa using q
        rw [if_neg q, List.filter_cons_of_neg ha]
    unfold canB at skip go
    by_cases f8 : k / 144 = 8
    · rw [if_pos (by rw [f8])]; exact skip (by simp [f8])
    · rw [if_neg (by rw [nI_eq (by omega) (by omega)]; exact f8)]
      by_cases n1 : k % 16 + 1 = 1
      · rw [if_pos (by rw [n1])]; exact go (by simp [f8, n1])
      · rw [if_neg (by rw [nI_eq (by omega) (by omega)]; exact n1)]
        by_cases f5 : k / 144 < 5
        · rw [if_neg (nI_ge f5 (by omega))]
          by_cases t5 : k / 16 % 9 < 5
          · rw [if_neg (nI_ge t5 (by omega))]; exact go (by simp [f8, f5, t5])
          · rw [if_pos (nI_le (by omega) (by omega))]; exact skip (by rw [decide_eq_false n1, decide_eq_false t5]; simp)
        · rw [if_pos (nI_le (by omega) (by omega))]; exact skip (by rw [decide_eq_false n1, decide_eq_false f5]; simp)
theorem findR_m1 : ∀ (l : List Nat) (i : Nat), i + l.length < 2 ^ 31 → findR l (-1) i = -1 - nI (i + l.length)
  | [], i, _ => rfl
  | c :: l, i, h => by
    simp only [List.length_cons] at h ⊢
    show (if nI i = -1 then _ else _) = _
    rw [if_neg (by rw [nI_negone (by omega)]; exact id), findR_m1 l (i + 1) (by omega), show i + (l.length + 1) = i + 1 + l.length by omega]
theorem findR_at : ∀ (l : List Nat) (i m : Nat), i + l.length < 2 ^ 31 → i ≤ m → m < 2 ^ 31 → findR l (nI m) i = match l[m - i]? with | some c => nI c | none => -1 - nI (i + l.length)
  | [], i, m, _, _, _ => rfl
  | c :: l, i, m, h, h1, h2 => by
    simp only [List.length_cons] at h ⊢
    show (if nI i = nI m then _ else _) = _
    by_cases q : i = m
    · subst q
      rw [if_pos rfl, Nat.sub_self]; rfl
    · rw [if_neg (by rw [nI_eq (by omega) (by omega)]; exact q), findR_at l (i + 1) m (by omega) (by omega) h2, show m - i = (m - (i + 1)) + 1 by omega, List.getElem?_cons_succ, show i + (l.length + 1) = i + 1 + l.length by omega]
theorem mvs_len (R : Nat → Nat) (P : Pos) : (mvs R P).length ≤ 1440 := by
  rw [mvs_all, List.length_map]
  exact Nat.le_trans (List.length_filter_le _ _) (by rw [List.length_range]; exact Nat.le_refl _)
theorem m_find {I : Nat → Nat → Int32} {L : Nat → Nat → Int64} {R : Nat → Nat} {P : Pos} (h : MRep I L P) (w : WF R P) (hr : RR (I 1) R) (v : Int32) : F_X6_find I L v = some (findR (mvs R P) v 0) := by
  have := m_find_L h w hr v 1440 0 0 FU (by omega) (FU_gt (by omega))
  rw [mvs_all, List.range_eq_range']
  exact this
theorem m1_sub {n : Nat} (h : n < 2 ^ 31) : (-1 : Int32) - ((-1) - nI n) = nI n := by
  have e1 : (-1 : Int32).toInt = -1 := by decide
  have h1 : ((-1 : Int32) - nI n).toInt = -1 - (n : Int) := by
    rw [fb_subI (by rw [nI_toInt h, e1]; omega) (by rw [nI_toInt h, e1]; omega), nI_toInt h, e1]
  apply Int32.toInt_inj.mp
  rw [fb_subI (by rw [h1, e1]; omega) (by rw [h1, e1]; omega), h1, e1, nI_toInt h]
  omega
theorem m1_neg {n : Nat} (h : n < 2 ^ 31) : ¬ nI 0 ≤ (-1 : Int32) - nI n := by
  intro h2
  rw [Int32.le_iff_toInt_le] at h2
  rw [fb_subI (by rw [nI_toInt (by omega)]; show _ ≤ (-1 : Int) - _; omega) (by rw [nI_toInt (by omega)]; show (-1 : Int) - _ < _; omega), nI_toInt (by omega), nI_toInt (by omega)] at h2
  have h3 : ((0 : Nat) : Int) ≤ (-1 : Int) - (n : Int) := h2
  omega
end
section
/-! ===== the second reading: laying a deal ===== -/
theorem m_next {mc x : Nat} (hm : mc < 2) (hx : x < 2147483648) : F_X6_next (nI mc) (lN x) = some (lN (nextN mc x)) := by
  unfold F_X6_next F_X6_next_b25 nextN nzL
  rw [if_neg (show ¬ lN 2147483648 = 0 by decide)]
  by_cases q : mc = 0
  · subst q; rw [if_pos rfl, if_pos rfl, lN_mul, lN_add, pk_lRem (by omega) (by omega) (by omega)]
  · rw [if_neg (by rw [nI_eq (by omega) (by omega)]; exact q), if_neg q, if_neg (show ¬ lN 2147483648 = 0 by decide), lN_mul, lN_add, pk_lRem (by omega) (by omega) (by omega)]
/-- with no card hidden yet -/
def noH (P : Pos) : Pos := (P.1, fun _ => 0, P.2.2.1, P.2.2.2)
theorem m_clear36 : ∀ (j k n : Nat) (I : Nat → Nat → Int32) (L : Nat → Nat → Int64), k + j = 4 → j < n → (∀ p, p < 5 → L 0 p = lN 0 ∧ I 3 p = nI 0 ∧ I 4 p = nI 0) → (∀ s, s < k → I 6 s = nI 0) →
    ∃ I' L', F_X6_clear_L36 n I L (nI k) = some (I', L') ∧ MRep I' L' (noH emptyP) ∧ FrI I I' ∧ FrL L L' := by
  intro j
  induction j with
  | zero =>
    intro k n I L hk hn h1 h2
    obtain ⟨n, rfl⟩ : ∃ q, n = q + 1 := ⟨n - 1, by omega⟩
    show ∃ I' L', F_X6_clear_s36 (F_X6_clear_L36 n) I L _ = _ ∧ _
    unfold F_X6_clear_s36 F_X6_clear_b54
    rw [if_pos (nI_le (by omega) (by omega)), wrA_n _ (by omega) (by omega), wrA_n _ (by omega) (by omega), bnd_s, bnd_s, bnd_s]
    refine ⟨_, _, rfl, ?_, ((((FrI.st (by omega) (by omega)).trans (FrI.st (by omega) (by omega))).trans (FrI.st0 (Or.inl rfl))).trans (FrI.st0 (Or.inr (Or.inl rfl)))).trans (FrI.st0 (Or.inr (Or.inr rfl))), FrL.refl L⟩
    refine ⟨fun p hp => ?_, fun j hj => ?_, fun s hs => ?_, ⟨?_, fun i hi => absurd hi (Nat.not_lt_zero i)⟩, ⟨?_, fun i hi => absurd hi (Nat.not_lt_zero i)⟩, ?_⟩
    · obtain ⟨a, b, c⟩ := h1 p hp
      refine ⟨a, ?_, ?_⟩
      · simp only [st2_s]; simp [b, noH, emptyP]
      · simp only [st2_s]; simp [c, noH]
    · have : j = 0 ∨ j = 1 := by omega
      rcases this with z | z <;> subst z <;> simp [st2_s, noH, emptyP, topI]
    · have := h2 s (by omega)
      simp only [st2_s]; simp [this, noH, emptyP]
    · simp only [st2_s]; simp [noH, emptyP]
    · simp only [st2_s]; simp [noH, emptyP]
    · simp only [st2_s]; simp [noH, emptyP]
  | succ j ih =>
    intro k n I L hk hn h1 h2
    obtain ⟨n, rfl⟩ : ∃ q, n = q + 1 := ⟨n - 1, by omega⟩
    show ∃ I' L', F_X6_clear_s36 (F_X6_clear_L36 n) I L _ = _ ∧ _
    unfold F_X6_clear_s36
    rw [if_neg (nI_ge (by omega) (by omega)), wrA_n _ (by omega) (by omega), nI_add]
    obtain ⟨I', L', e1, e2, e3, e4⟩ := ih (k + 1) n (st2 I 6 k (nI 0)) L (by omega) (by omega) (fun p hp => by
      obtain ⟨a, b, c⟩ := h1 p hp
      exact ⟨a, by rw [st2_s, if_neg (by omega)]; exact b, by rw [st2_s, if_neg (by omega)]; exact c⟩) (fun s hs => by
      rw [st2_s]
      by_cases z : s = k
      · rw [if_pos ⟨rfl, z⟩]
      · rw [if_neg (fun y => z y.2)]; exact h2 s (by omega))
    exact ⟨I', L', e1, e2, (FrI.st (by omega) (by omega)).trans e3, e4⟩
theorem m_clear2 : ∀ (j k n : Nat) (I : Nat → Nat → Int32) (L : Nat → Nat → Int64), k + j = 5 → j < n → (∀ p, p < k → L 0 p = lN 0 ∧ I 3 p = nI 0 ∧ I 4 p = nI 0) →
    ∃ I' L', F_X6_clear_L2 n I L (nI k) = some (I', L') ∧ MRep I' L' (noH emptyP) ∧ FrI I I' ∧ FrL L L' := by
  intro j
  induction j with
  | zero =>
    intro k n I L hk hn h1
    obtain ⟨n, rfl⟩ : ∃ q, n = q + 1 := ⟨n - 1, by omega⟩
    show ∃ I' L', F_X6_clear_s2 (F_X6_clear_L2 n) I L _ = _ ∧ _
    unfold F_X6_clear_s2
    rw [if_pos (nI_le (by omega) (by omega))]
    exact m_clear36 4 0 FU I L (by omega) (FU_gt (by omega)) (fun p hp => h1 p (by omega)) (fun s hs => absurd hs (Nat.not_lt_zero s))
  | succ j ih =>
    intro k n I L hk hn h1
    obtain ⟨n, rfl⟩ : ∃ q, n = q + 1 := ⟨n - 1, by omega⟩
    show ∃ I' L', F_X6_clear_s2 (F_X6_clear_L2 n) I L _ = _ ∧ _
    unfold F_X6_clear_s2
    rw [if_neg (nI_ge (by omega) (by omega)), wrJ_n _ (by omega) (by omega), wrA_n _ (by omega) (by omega), wrA_n _ (by omega) (by omega), nI_add]
    obtain ⟨I', L', e1, e2, e3, e4⟩ := ih (k + 1) n (st2 (st2 I 3 k (nI 0)) 4 k (nI 0)) (stJ L 0 k (lN 0)) (by omega) (by omega) (fun p hp => by
      rw [stJ_s, st2_s, st2_s, st2_s, st2_s]
      by_cases z : p = k
      · rw [if_pos ⟨rfl, z⟩, if_neg (by omega), if_pos ⟨rfl, z⟩, if_pos ⟨rfl, z⟩]; exact ⟨rfl, rfl, rfl⟩
      · rw [if_neg (fun y => z y.2), if_neg (by omega), if_neg (fun y => z y.2), if_neg (fun y => z y.2), if_neg (by omega)]; exact h1 p (by omega))
    exact ⟨I', L', e1, e2, ((FrI.st (by omega) (by omega)).trans (FrI.st (by omega) (by omega))).trans e3, FrL.stJ.trans e4⟩
theorem m_clear (I : Nat → Nat → Int32) (L : Nat → Nat → Int64) : ∃ I' L', F_X6_clear I L = some (I', L') ∧ MRep I' L' (noH emptyP) ∧ FrI I I' ∧ FrL L L' :=
  m_clear2 5 0 FU I L (by omega) (FU_gt (by omega)) (fun p hp => absurd hp (Nat.not_lt_zero p))
/-- a card laid on a column or on the stock -/
theorem MRep.put {I I' : Nat → Nat → Int32} {L L' : Nat → Nat → Int64} {R : Nat → Nat} {P : Pos} (h : MRep I L (noH P)) {c p : Nat} (hp : p < 5)
    (e1 : L' 0 p = lN (pkT (c :: P.1 p))) (e2 : I' 3 p = nI ((P.1 p).length + 1)) (e3 : ∀ q, q ≠ p → L' 0 q = L 0 q) (e4 : ∀ a j, ¬ (a = 3 ∧ j = p) → a ≠ 9 → I' a j = I a j) : MRep I' L' (noH (putP R P c p)) := by
  have gp : ∀ q, q ≠ p → (noH (putP R P c p)).1 q = P.1 q := fun q hq => by show (if q = p then _ else _) = _; rw [if_neg hq]
  have ep : (noH (putP R P c p)).1 p = c :: P.1 p := by show (if p = p then _ else _) = _; rw [if_pos rfl]
  refine ⟨fun q hq => ?_, fun j hj => ?_, fun s hs => ?_, ⟨?_, fun i hi => ?_⟩, ⟨?_, fun i hi => ?_⟩, ?_⟩
  · by_cases z : q = p
    · subst z
      rw [ep, e1, e2, e4 4 q (by omega) (by omega)]
      exact ⟨rfl, rfl, (h.1 q hq).2.2⟩
    · rw [gp q z, e3 q z, e4 3 q (by omega) (by omega), e4 4 q (by omega) (by omega)]; exact h.1 q hq
  · rw [e4 5 j (by omega) (by omega), gp _ (by omega)]; exact h.2.1 j hj
  · rw [e4 6 s (by omega) (by omega)]; exact h.2.2.1 s hs
  · rw [e4 0 21 (by omega) (by omega), gp _ (by omega)]; exact h.2.2.2.1.1
  · rw [gp 7 (by omega)] at hi ⊢; rw [e4 7 i (by omega) (by omega)]; exact h.2.2.2.1.2 i hi
  · rw [e4 0 23 (by omega) (by omega), gp _ (by omega)]; exact h.2.2.2.2.1.1
  · rw [gp 9 (by omega)] at hi ⊢; rw [e4 8 i (by omega) (by omega)]; exact h.2.2.2.2.1.2 i hi
  · rw [e4 0 24 (by omega) (by omega)]; exact h.2.2.2.2.2
theorem MRep.put9 {I I' : Nat → Nat → Int32} {L : Nat → Nat → Int64} {R : Nat → Nat} {P : Pos} (h : MRep I L (noH P)) {c : Nat}
    (e1 : I' 8 (P.1 9).length = nI c) (e2 : I' 0 23 = nI ((P.1 9).length + 1)) (e4 : ∀ a j, ¬ (a = 8 ∧ j = (P.1 9).length) → ¬ (a = 0 ∧ j = 23) → a ≠ 9 → I' a j = I a j) : MRep I' L (noH (putP R P c 9)) := by
  have gp : ∀ q, q ≠ 9 → (noH (putP R P c 9)).1 q = P.1 q := fun q hq => by show (if q = 9 then _ else _) = _; rw [if_neg hq]
  have ep : (noH (putP R P c 9)).1 9 = c :: P.1 9 := rfl
  refine ⟨fun q hq => ?_, fun j hj => ?_, fun s hs => ?_, ⟨?_, fun i hi => ?_⟩, ⟨?_, fun i hi => ?_⟩, ?_⟩
  · rw [gp q (by omega), e4 3 q (by omega) (by omega) (by omega), e4 4 q (by omega) (by omega) (by omega)]; exact h.1 q hq
  · rw [e4 5 j (by omega) (by omega) (by omega), gp _ (by omega)]; exact h.2.1 j hj
  · rw [e4 6 s (by omega) (by omega) (by omega)]; exact h.2.2.1 s hs
  · rw [e4 0 21 (by omega) (by omega) (by omega), gp _ (by omega)]; exact h.2.2.2.1.1
  · rw [gp 7 (by omega)] at hi ⊢; rw [e4 7 i (by omega) (by omega) (by omega)]; exact h.2.2.2.1.2 i hi
  · rw [ep, e2]; rfl
  · rw [ep] at hi ⊢
    simp only [List.length_cons] at hi ⊢
    by_cases z : i = (P.1 9).length
    · rw [z, e1, Nat.add_sub_cancel, Nat.sub_self]; rfl
    · rw [e4 8 i (fun y => z y.2) (by omega) (by omega), show (P.1 9).length + 1 - 1 - i = ((P.1 9).length - 1 - i) + 1 by omega]
      exact h.2.2.2.2.1.2 i (show i < (P.1 9).length by omega)
  · rw [e4 0 24 (by omega) (by omega) (by omega)]; exact h.2.2.2.2.2
end
section
/-! ===== the second reading: a deal, laid whole ===== -/
theorem m_lay_60 {R : Nat → Nat} {mc : Nat} (hm : mc < 2) (hR : RulesOk R) : ∀ (l k x n : Nat) (row : Nat → Nat) (P : Pos) (I : Nat → Nat → Int32) (L : Nat → Nat → Int64), k + l = R 0 * R 1 → l < n → x < 2147483648 → RR (I 1) R → MRep I L (noH P) → (∀ p, (P.1 p).length ≤ k) → (P.1 9).length = k - (R 0 * R 1 - R 6) → (∀ p c, c ∈ P.1 p → c < 16) → (∀ i, i < l → I 9 i = nI (row i) ∧ row i < 16) →
    ∃ I' L', F_X6_lay_L60 n I L (nI mc) (nI l) (lN x) (nI (R 0 * R 1 - R 6)) (nI k) = F_X6_lay_L181 FU I' L' (nI 0) ∧ MRep I' L' (noH (layP R (drawL mc l x row) k P)) ∧ FrI I I' ∧ FrL L L' := by
  have hR2 := hR
  unfold RulesOk at hR2
  intro l
  induction l with
  | zero =>
    intro k x n row P I L hk hn hx hr h h1 h2 h3 h4
    obtain ⟨n, rfl⟩ : ∃ q, n = q + 1 := ⟨n - 1, by omega⟩
    refine ⟨I, L, ?_, h, FrI.refl I, FrL.refl L⟩
    show F_X6_lay_s60 (F_X6_lay_L60 n) _ _ _ _ _ _ _ = _
    unfold F_X6_lay_s60
    rw [rdA_n _ (by omega) (by omega), hr.1 6 (by omega), nI_add, if_pos (nI_le (by omega) (by omega))]
  | succ l ih =>
    intro k x n row P I L hk hn hx hr h h1 h2 h3 h4
    obtain ⟨n, rfl⟩ : ∃ q, n = q + 1 := ⟨n - 1, by omega⟩
    show ∃ I' L', F_X6_lay_s60 (F_X6_lay_L60 n) _ _ _ _ _ _ _ = _ ∧ _
    unfold F_X6_lay_s60 nzL
    have hy := nextN_lt mc x
    have hp : nextN mc x / 65536 % 32768 % (l + 1) < l + 1 := Nat.mod_lt _ (by omega)
    have hq : nextN mc x / 65536 % 32768 < 32768 := Nat.mod_lt _ (by omega)
    have hnz : ¬ lN (l + 1) = 0 := fun e => by
      have := (lN_eq (a := l + 1) (b := 0) (by omega) (by omega)).mp e
      omega
    rw [rdA_n _ (by omega) (by omega), hr.1 6 (by omega), nI_add, if_neg (nI_ge (by omega) (by omega)), m_next hm hx, cal1_s, if_neg (show ¬ lN 65536 = 0 by decide), if_neg (show ¬ lN 32768 = 0 by decide), nI_l (by omega), if_neg hnz, pk_lDiv (by omega) (by omega) (by omega), pk_lRem (by omega) (by omega) (by omega), pk_lRem (by omega) (by omega) (by omega), lN_i, pk_sub (by omega), Nat.add_sub_cancel, pk_m1]
    unfold drawL layP
    generalize nextN mc x = y at hy hp ⊢
    generalize y / 65536 % 32768 % (l + 1) = p at hp ⊢
    rw [rdA_n _ (by omega) (by omega), rdA_n _ (by omega) (by omega), (h4 p hp).1, (h4 l (by omega)).1, wrA_n _ (by omega) (by omega)]
    have hc16 := (h4 p hp).2
    have hrow : ∀ i, i < l → (if i = p then row l else row i) < 16 := fun i hi => by
      split
      · exact (h4 l (by omega)).2
      · exact (h4 i (by omega)).2
    have hrow2 : ∀ i, i < l → st2 I 9 p (nI (row l)) 9 i = nI (if i = p then row l else row i) := fun i hi => by
      rw [st2_s]
      by_cases z : i = p
      · rw [if_pos ⟨rfl, z⟩, if_pos z]
      · rw [if_neg (fun y => z y.2), if_neg z]; exact (h4 i (by omega)).1
    have hlen : ∀ q r, ((putP R P (row p) q).1 r).length ≤ k + 1 := fun q r => by
      show (if r = q then row p :: P.1 q else P.1 r).length ≤ _
      have := h1 q
      have := h1 r
      split
      · rw [List.length_cons]; omega
      · omega
    have hmem : ∀ q r c, c ∈ (putP R P (row p) q).1 r → c < 16 := fun q r c hc => by
      have hc2 : c ∈ (if r = q then row p :: P.1 q else P.1 r) := hc
      split at hc2
      · rw [List.mem_cons] at hc2
        rcases hc2 with z | z
        · rw [z]; exact hc16
        · exact h3 q c z
      · exact h3 r c hc2
    by_cases q : k < R 0 * R 1 - R 6
    · have epl : placeA R k = k % R 2 := by unfold placeA; rw [if_pos q]
      have hkm : k % R 2 < R 2 := Nat.mod_lt _ (by omega)
      have e12 : st2 I 9 p (nI (row l)) 1 2 = nI (R 2) := by rw [st2_s, if_neg (by omega), hr.1 2 (by omega)]
      obtain ⟨b1, b2, b3⟩ := h.1 (k % R 2) (by omega)
      have hl1 := h1 (k % R 2)
      rw [if_neg (nI_ge q (by omega)), rdA_n _ (by omega) (by omega), e12, nz_n _ (by omega) (by omega), pk_rem (by omega) (by omega) (by omega), m_push (l := P.1 (k % R 2)) (by omega) b1 (by rw [st2_s, if_neg (by omega)]; exact b2) (by omega) (h3 _) hc16, cal2_s, nI_add, epl]
      obtain ⟨I', L', e1, e2, e3, e4⟩ := ih (k + 1) y n (fun i => if i = p then row l else row i) (putP R P (row p) (k % R 2)) (st2 (st2 I 9 p (nI (row l))) 3 (k % R 2) (nI ((P.1 (k % R 2)).length + 1))) (stJ L 0 (k % R 2) (lN (pkT (row p :: P.1 (k % R 2))))) (by omega) (by omega) hy (by rw [((FrI.st (by omega) (by omega)).trans (FrI.st (by omega) (by omega)) : FrI I _).1 1 (by omega)]; exact hr)
        (h.put (by omega) (by rw [stJ_s, if_pos ⟨rfl, rfl⟩]) (by rw [st2_s, if_pos ⟨rfl, rfl⟩]) (fun q hq => by rw [stJ_s, if_neg (fun y => hq y.2)]) (fun a j ha hb => by rw [st2_s, if_neg ha, st2_s, if_neg (fun y => hb y.1)]))
        (hlen _) (by show (if 9 = k % R 2 then _ else P.1 9 : List Nat).length = _; rw [if_neg (by omega), h2]; omega) (hmem _) (fun i hi => ⟨by rw [st2_s, if_neg (by omega)]; exact hrow2 i hi, hrow i hi⟩)
      exact ⟨I', L', e1, e2, ((FrI.st (by omega) (by omega)).trans (FrI.st (by omega) (by omega))).trans e3, FrL.stJ.trans e4⟩
    · have epl : placeA R k = 9 := by unfold placeA; rw [if_neg q]
      have e23 : st2 I 9 p (nI (row l)) 0 23 = nI (P.1 9).length := by rw [st2_s, if_neg (by omega)]; exact h.2.2.2.2.1.1
      have e23b : st2 (st2 I 9 p (nI (row l))) 8 (P.1 9).length (nI (row p)) 0 23 = nI (P.1 9).length := by rw [st2_s, if_neg (by omega), e23]
      rw [if_pos (nI_le (by omega) (by omega)), e23, wrA_n _ (by omega) (by omega), bnd_s, e23b, nI_add, nI_add, epl]
      obtain ⟨I', L', e1, e2, e3, e4⟩ := ih (k + 1) y n (fun i => if i = p then row l else row i) (putP R P (row p) 9) (st2 (st2 (st2 I 9 p (nI (row l))) 8 (P.1 9).length (nI (row p))) 0 23 (nI ((P.1 9).length + 1))) L (by omega) (by omega) hy (by rw [(((FrI.st (by omega) (by omega)).trans (FrI.st (by omega) (by omega))).trans (FrI.st0 (Or.inr (Or.inl rfl))) : FrI I _).1 1 (by omega)]; exact hr)
        (h.put9 (by rw [st2_s, if_neg (by omega), st2_s, if_pos ⟨rfl, rfl⟩]) (by rw [st2_s, if_pos ⟨rfl, rfl⟩]) (fun a j ha hb hc => by rw [st2_s, if_neg hb, st2_s, if_neg ha, st2_s, if_neg (fun y => hc y.1)]))
        (hlen _) (by show (if 9 = 9 then row p :: P.1 9 else P.1 9 : List Nat).length = _; rw [if_pos rfl, List.length_cons, h2]; omega) (hmem _) (fun i hi => ⟨by rw [st2_s, if_neg (by omega), st2_s, if_neg (by omega)]; exact hrow2 i hi, hrow i hi⟩)
      exact ⟨I', L', e1, e2, (((FrI.st (by omega) (by omega)).trans (FrI.st (by omega) (by omega))).trans (FrI.st0 (Or.inr (Or.inl rfl)))).trans e3, e4⟩
theorem m_lay_181 {R : Nat → Nat} {P : Pos} (hR : RulesOk R) (hlen : ∀ p, (P.1 p).length ≤ 16) : ∀ (j k n : Nat) (I : Nat → Nat → Int32) (L : Nat → Nat → Int64), k + j = R 2 → j < n → RR (I 1) R → MRep I L (P.1, fun p => if p < k ∧ R 8 = 1 then (P.1 p).length - 1 else 0, P.2.2.1, P.2.2.2) →
    ∃ I', F_X6_lay_L181 n I L (nI k) = some (I', L) ∧ MRep I' L (P.1, fun p => if p < R 2 ∧ R 8 = 1 then (P.1 p).length - 1 else 0, P.2.2.1, P.2.2.2) ∧ FrI I I' := by
  have hR2 := hR
  unfold RulesOk at hR2
  intro j
  induction j with
  | zero =>
    intro k n I L hk hn hr h
    obtain ⟨n, rfl⟩ : ∃ q, n = q + 1 := ⟨n - 1, by omega⟩
    have : k = R 2 := by omega
    subst this
    refine ⟨I, ?_, h, FrI.refl I⟩
    show F_X6_lay_s181 (F_X6_lay_L181 n) _ _ _ = _
    unfold F_X6_lay_s181
    rw [rdA_n _ (by omega) (by omega), hr.1 2 (by omega), if_pos (nI_le (by omega) (by omega))]
  | succ j ih =>
    intro k n I L hk hn hr h
    obtain ⟨n, rfl⟩ : ∃ q, n = q + 1 := ⟨n - 1, by omega⟩
    show ∃ I', F_X6_lay_s181 (F_X6_lay_L181 n) _ _ _ = _ ∧ _
    have hl := hlen k
    have b2 := (h.1 k (by omega)).2.1
    dsimp only at b2
    have fin : ∀ x, x = (if R 8 = 1 then (P.1 k).length - 1 else 0) → ∃ I', F_X6_lay_b232 (F_X6_lay_L181 n) I L (nI k) (nI k) (nI x) = some (I', L) ∧ MRep I' L (P.1, fun p => if p < R 2 ∧ R 8 = 1 then (P.1 p).length - 1 else 0, P.2.2.1, P.2.2.2) ∧ FrI I I' := by
      intro x hx
      unfold F_X6_lay_b232
      rw [wrA_n _ (by omega) (by omega), nI_add]
      obtain ⟨I', e1, e2, e3⟩ := ih (k + 1) n (st2 I 4 k (nI x)) L (by omega) (by omega) (by rw [(FrI.st (by omega) (by omega) : FrI I _).1 1 (by omega)]; exact hr) (by
        have g : ∀ a j, ¬ (a = 4 ∧ j = k) → st2 I 4 k (nI x) a j = I a j := fun a j ha => by rw [st2_s, if_neg ha]
        refine ⟨fun p hp => ?_, fun j hj => ?_, fun s hs => ?_, ⟨?_, fun i hi => ?_⟩, ⟨?_, fun i hi => ?_⟩, ?_⟩
        · obtain ⟨c1, c2, c3⟩ := h.1 p hp
          refine ⟨c1, by rw [g 3 p (by omega)]; exact c2, ?_⟩
          dsimp only at c3 ⊢
          by_cases z : p = k
          · subst z
            rw [st2_s, if_pos ⟨rfl, rfl⟩, hx]
            by_cases y : R 8 = 1
            · rw [if_pos y, if_pos ⟨by omega, y⟩]
            · rw [if_neg y, if_neg (fun w => y w.2)]
          · rw [g 4 p (by omega), c3]
            by_cases y : p < k ∧ R 8 = 1
            · rw [if_pos y, if_pos ⟨by omega, y.2⟩]
            · rw [if_neg y, if_neg (by omega)]
        · rw [g 5 j (by omega)]; exact h.2.1 j hj
        · rw [g 6 s (by omega)]; exact h.2.2.1 s hs
        · rw [g 0 21 (by omega)]; exact h.2.2.2.1.1
        · rw [g 7 i (by omega)]; exact h.2.2.2.1.2 i hi
        · rw [g 0 23 (by omega)]; exact h.2.2.2.2.1.1
        · rw [g 8 i (by omega)]; exact h.2.2.2.2.1.2 i hi
        · rw [g 0 24 (by omega)]; exact h.2.2.2.2.2)
      exact ⟨I', e1, e2, (FrI.st (by omega) (by omega)).trans e3⟩
    unfold F_X6_lay_s181
    rw [rdA_n _ (by omega) (by omega), hr.1 2 (by omega), if_neg (nI_ge (by omega) (by omega)), rdA_n _ (by omega) (by omega), hr.1 8 (by omega), rdA_n _ (by omega) (by omega), b2, rdA_n _ (by omega) (by omega), b2]
    by_cases y : R 8 = 1
    · rw [if_pos (by rw [y])]
      by_cases z : (P.1 k).length = 0
      · rw [if_pos (nI_le (by omega) (by omega))]; exact fin 0 (by rw [if_pos y]; omega)
      · rw [if_neg (nI_ge (by omega) (by omega)), pk_sub (by omega)]; exact fin _ (by rw [if_pos y])
    · rw [if_neg (by rw [nI_eq (by omega) (by omega)]; exact y)]; exact fin 0 (by rw [if_neg y])
theorem m_lay_21 {R : Nat → Nat} {mc x : Nat} (hm : mc < 2) (hx : x < 2147483648) (hR : RulesOk R) (hd : LayInv R (dealP R mc x) (cardsA R mc x)) : ∀ (j k n : Nat) (I : Nat → Nat → Int32) (L : Nat → Nat → Int64), k + j = R 0 * R 1 → j < n → RR (I 1) R → MRep I L (noH emptyP) → (∀ i, i < k → I 9 i = nI i) →
    ∃ I' L', F_X6_lay_L21 n I L (nI mc) (nI x) (nI (R 0 * R 1)) (nI k) = some (I', L') ∧ MRep I' L' (dealP R mc x) ∧ FrI I I' ∧ FrL L L' := by
  have hR2 := hR
  unfold RulesOk at hR2
  intro j
  induction j with
  | zero =>
    intro k n I L hk hn hr h hrow
    obtain ⟨n, rfl⟩ : ∃ q, n = q + 1 := ⟨n - 1, by omega⟩
    show ∃ I' L', F_X6_lay_s21 (F_X6_lay_L21 n) _ _ _ _ _ _ = _ ∧ _
    unfold F_X6_lay_s21 F_X6_lay_b42
    rw [if_pos (nI_le (by omega) (by omega)), rdA_n _ (by omega) (by omega), hr.1 6 (by omega), nI_l (by omega), pk_sub (by omega)]
    obtain ⟨I1, L1, e1, e2, e3, e4⟩ := m_lay_60 hm hR (R 0 * R 1) 0 x FU id emptyP I L (by omega) (FU_gt (by omega)) hx hr h (fun p => Nat.le_refl 0) (by show 0 = _; omega) (fun p c hc => by cases hc) (fun i hi => ⟨hrow i (by omega), by show i < 16; omega⟩)
    have e2' : MRep I1 L1 (noH (dealP R mc x)) := e2
    obtain ⟨I2, g1, g2, g3⟩ := m_lay_181 (P := dealP R mc x) hR (hd.1.len) (R 2) 0 FU I1 L1 (by omega) (FU_gt (by omega)) (by rw [e3.1 1 (by omega)]; exact hr) (by
      have ee : ((dealP R mc x).1, (fun p => if p < 0 ∧ R 8 = 1 then ((dealP R mc x).1 p).length - 1 else 0), (dealP R mc x).2.2.1, (dealP R mc x).2.2.2) = noH (dealP R mc x) := by
        unfold noH
        refine Prod.ext rfl (Prod.ext ?_ rfl)
        funext p; dsimp only; rw [if_neg (by omega)]
      rw [ee]; exact e2')
    refine ⟨I2, L1, e1.trans g1, ?_, e3.trans g3, e4⟩
    refine ⟨fun p hp => ?_, g2.2⟩
    obtain ⟨c1, c2, c3⟩ := g2.1 p hp
    refine ⟨c1, c2, ?_⟩
    rw [c3, hd.2.1 p hp]
    dsimp only
    by_cases y : R 8 = 1
    · rw [if_pos y]
      by_cases z : p < R 2
      · rw [if_pos ⟨z, y⟩]
      · rw [if_neg (fun w => z w.1), hd.2.2.2.2.2.1 p hp (by omega)]; rfl
    · rw [if_neg y, if_neg (fun w => y w.2)]
  | succ j ih =>
    intro k n I L hk hn hr h hrow
    obtain ⟨n, rfl⟩ : ∃ q, n = q + 1 := ⟨n - 1, by omega⟩
    show ∃ I' L', F_X6_lay_s21 (F_X6_lay_L21 n) _ _ _ _ _ _ = _ ∧ _
    unfold F_X6_lay_s21
    rw [if_neg (nI_ge (by omega) (by omega)), wrA_n _ (by omega) (by omega), nI_add]
    obtain ⟨I', L', e1, e2, e3, e4⟩ := ih (k + 1) n (st2 I 9 k (nI k)) L (by omega) (by omega) (by rw [(FrI.st (by omega) (by omega) : FrI I _).1 1 (by omega)]; exact hr) (h.st9 _ _) (fun i hi => by
      rw [st2_s]
      by_cases z : i = k
      · rw [if_pos ⟨rfl, z⟩, z]
      · rw [if_neg (fun y => z y.2)]; exact hrow i (by omega))
    exact ⟨I', L', e1, e2, (FrI.st (by omega) (by omega)).trans e3, e4⟩
theorem m_lay {I : Nat → Nat → Int32} {L : Nat → Nat → Int64} {R : Nat → Nat} {mc x : Nat} (hm : mc < 2) (hx : x < 2147483648) (hr : RR (I 1) R) (hd : LayInv R (dealP R mc x) (cardsA R mc x)) : ∃ I' L', F_X6_lay I L (nI mc) (nI x) = some (I', L') ∧ MRep I' L' (dealP R mc x) ∧ FrI I I' ∧ FrL L L' := by
  have hR := hr.2
  unfold RulesOk at hR
  unfold F_X6_lay
  obtain ⟨I1, L1, e1, e2, e3, e4⟩ := m_clear I L
  have hr1 : RR (I1 1) R := by rw [e3.1 1 (by omega)]; exact hr
  rw [e1, cal2_s, rdA_n _ (by omega) (by omega), rdA_n _ (by omega) (by omega), hr1.1 0 (by omega), hr1.1 1 (by omega), pk_mul]
  obtain ⟨I2, L2, g1, g2, g3, g4⟩ := m_lay_21 hm hx hr.2 hd (R 0 * R 1) 0 FU I1 L1 (by omega) (FU_gt (by omega)) hr1 e2 (fun i hi => absurd hi (Nat.not_lt_zero i))
  exact ⟨I2, L2, g1, g2, e3.trans g3, e4.trans g4⟩
end
section
/-! ===== the second reading: a position stored ===== -/
theorem deal_inv {R : Nat → Nat} (hR : RulesOk R) {mc x : Nat} (hm : mc < 2) : LayInv R (dealP R mc x) (cardsA R mc x) := by
  obtain ⟨D, -, hD⟩ := s_draw (mc := mc) (x := x) hm hR (fun _ _ => 0)
  obtain ⟨T, -, -, h⟩ := s_lay (r := fun k => nI (R k)) ⟨fun _ _ => rfl, hR⟩ hD (fun _ _ => 0)
  exact h
def sumB (b : Nat) (d : Nat → Nat) : Nat → Nat
  | 0 => 0
  | k + 1 => sumB b d k + d k * 2 ^ (b * k)
theorem sumB_lt {b : Nat} {d : Nat → Nat} : ∀ {k : Nat}, (∀ i, i < k → d i < 2 ^ b) → sumB b d k < 2 ^ (b * k)
  | 0, _ => by simp [sumB]
  | k + 1, h => by
    have h1 := sumB_lt (d := d) (k := k) (fun i hi => h i (by omega))
    have h2 := h k (by omega)
    have h3 : (d k + 1) * 2 ^ (b * k) ≤ 2 ^ b * 2 ^ (b * k) := Nat.mul_le_mul_right _ (by omega)
    rw [← Nat.pow_add, Nat.add_mul, show b + b * k = b * (k + 1) by rw [Nat.mul_add, Nat.mul_one, Nat.add_comm]] at h3
    show sumB b d k + d k * 2 ^ (b * k) < _
    omega
theorem sumB_at {b : Nat} {d : Nat → Nat} : ∀ {k i : Nat}, (∀ i, i < k → d i < 2 ^ b) → i < k → sumB b d k / 2 ^ (b * i) % 2 ^ b = d i
  | k + 1, i, h, hi => by
    have h1 := sumB_lt (d := d) (k := k) (fun i hi => h i (by omega))
    show (sumB b d k + d k * 2 ^ (b * k)) / 2 ^ (b * i) % 2 ^ b = d i
    rcases Nat.lt_or_ge i k with q | q
    · have e : d k * 2 ^ (b * k) = 2 ^ (b * i) * (2 ^ b * (d k * 2 ^ (b * (k - i - 1)))) := by
        rw [← Nat.mul_assoc, ← Nat.pow_add, Nat.mul_comm, Nat.mul_comm (d k), ← Nat.mul_assoc, ← Nat.pow_add]
        congr 2
        obtain ⟨m, rfl⟩ : ∃ m, k = i + 1 + m := ⟨k - i - 1, by omega⟩
        rw [show i + 1 + m - i - 1 = m by omega, Nat.mul_add, Nat.mul_add, Nat.mul_one]
      rw [e, Nat.add_mul_div_left _ _ (Nat.two_pow_pos _), Nat.add_mul_mod_self_left]
      exact sumB_at (fun i hi => h i (by omega)) q
    · have e : i = k := by omega
      subst e
      rw [Nat.mul_comm (d i), Nat.add_mul_div_left _ _ (Nat.two_pow_pos _), Nat.div_eq_of_lt h1, Nat.zero_add, Nat.mod_eq_of_lt (h i hi)]
theorem sumB_or {b : Nat} {d : Nat → Nat} {k : Nat} (h : ∀ i, i < k → d i < 2 ^ b) : sumB b d k ||| d k * 2 ^ (b * k) = sumB b d (k + 1) := by
  rw [Nat.or_comm, Nat.mul_comm, ← Nat.two_pow_add_eq_or_of_lt (sumB_lt h)]
  show _ = sumB b d k + d k * 2 ^ (b * k)
  rw [Nat.add_comm, Nat.mul_comm]
theorem or_add {a b n : Nat} (h : a < 2 ^ n) : a ||| b * 2 ^ n = a + b * 2 ^ n := by
  rw [Nat.or_comm, Nat.mul_comm, ← Nat.two_pow_add_eq_or_of_lt h, Nat.add_comm]
theorem or_mul (a b n : Nat) : a * 2 ^ n ||| b * 2 ^ n = (a ||| b) * 2 ^ n := by
  rw [← Nat.shiftLeft_eq, ← Nat.shiftLeft_eq, ← Nat.shiftLeft_eq, Nat.shiftLeft_or_distrib]
theorem sumB_congr {b : Nat} {d e : Nat → Nat} : ∀ {k : Nat}, (∀ i, i < k → d i = e i) → sumB b d k = sumB b e k
  | 0, _ => rfl
  | k + 1, h => by
    show sumB b d k + d k * _ = sumB b e k + e k * _
    rw [sumB_congr (fun i hi => h i (by omega)), h k (by omega)]
/-- the eight numbers of a position -/
def botN (l : List Nat) (i : Nat) : Nat := if i < l.length then l.getD (l.length - 1 - i) 0 else 0
def hgt (P : Pos) (p : Nat) : Nat := (P.1 p).length + P.2.1 p * 32
def w6 (P : Pos) (s : Nat) : Nat := topN (P.1 5) + topN (P.1 6) * 2 ^ 5 + P.2.2.2 * 2 ^ 10 + (P.1 7).length * 2 ^ 12 + (P.1 9).length * 2 ^ 16 + sumB 3 P.2.2.1 s * 2 ^ 20
def w7 (P : Pos) (k : Nat) : Nat := sumB 4 (botN (P.1 7)) k + sumB 4 (botN (P.1 9)) k * 2 ^ 32
def keyL (P : Pos) (k : Nat) : Nat := if k < 5 then pkT (P.1 k) else if k = 5 then sumB 10 (hgt P) 5 else if k = 6 then w6 P 4 else w7 P 8
/-- what the words need of a position -/
def KOk (P : Pos) : Prop := PosOk P ∧ (∀ k, k < 2 → (P.1 (5 + k)).length ≤ 1) ∧ (∀ s, P.2.2.1 s < 8) ∧ (P.1 7).length + (P.1 9).length ≤ 8 ∧ P.2.2.2 < 4
theorem WF.kok {R : Nat → Nat} {P : Pos} (w : WF R P) (hR : RulesOk R) : KOk P := by
  unfold RulesOk at hR
  have h1 := w.2.2.2.2.2.2.2
  exact ⟨w.1, fun k hk => (w.2.2.1 k hk).1, fun s => by have := w.2.2.2.2.2.1 s; omega, by omega, by omega⟩
theorem hgt_lt {P : Pos} (h : KOk P) (p : Nat) : hgt P p < 2 ^ 10 := by
  have h1 := h.1.len p
  have h2 := h.1.2.2.2.2.1 p
  unfold hgt; omega
theorem botN_lt {P : Pos} (h : KOk P) (p i : Nat) : botN (P.1 p) i < 2 ^ 4 := by
  unfold botN
  split
  · exact (getD_lt h.1 (by omega)).1
  · exact Nat.two_pow_pos 4
theorem topN_lt {P : Pos} (h : KOk P) (p : Nat) : topN (P.1 p) < 32 := by
  have := h.1.1 p
  unfold topN
  cases e : P.1 p with
  | nil => decide
  | cons c l => have := this c (by rw [e]; simp); dsimp only; omega
theorem topI_64 {l : List Nat} (h : ∀ c, c ∈ l → c < 16) : (topI l).toInt64 + lN 1 = lN (topN l) := by
  cases l with
  | nil => decide
  | cons c r =>
    have := h c (by simp)
    show (nI c).toInt64 + lN 1 = lN (c + 1)
    rw [nI_l (by omega), lN_add]
theorem or_shuf (A B C D : Nat) : ((A ||| B) ||| C) ||| D = (A ||| C) ||| (B ||| D) := by
  rw [Nat.or_assoc A B C, Nat.or_comm B C, ← Nat.or_assoc A C B, Nat.or_assoc (A ||| C) B D]
theorem w7_step {P : Pos} (h : KOk P) {k : Nat} (hk : k < 8) : (w7 P k ||| botN (P.1 7) k * 2 ^ (4 * k)) ||| botN (P.1 9) k * 2 ^ (32 + 4 * k) = w7 P (k + 1) := by
  have a1 := sumB_lt (b := 4) (d := botN (P.1 7)) (k := k) (fun i _ => botN_lt h 7 i)
  have a2 := sumB_lt (b := 4) (d := botN (P.1 7)) (k := k + 1) (fun i _ => botN_lt h 7 i)
  have p1 : 2 ^ (4 * k) ≤ 2 ^ 32 := Nat.pow_le_pow_right (by omega) (by omega)
  have p2 : 2 ^ (4 * (k + 1)) ≤ 2 ^ 32 := Nat.pow_le_pow_right (by omega) (by omega)
  unfold w7
  rw [← or_add (Nat.lt_of_lt_of_le a1 p1), ← or_add (Nat.lt_of_lt_of_le a2 p2), ← sumB_or (d := botN (P.1 7)) (fun i _ => botN_lt h 7 i), ← sumB_or (d := botN (P.1 9)) (fun i _ => botN_lt h 9 i), Nat.add_comm 32, Nat.pow_add, ← Nat.mul_assoc, ← or_mul]
  rw [or_shuf]
theorem w6_0 {P : Pos} (h : KOk P) : topN (P.1 5) ||| topN (P.1 6) * 2 ^ 5 ||| P.2.2.2 * 2 ^ 10 ||| (P.1 7).length * 2 ^ 12 ||| (P.1 9).length * 2 ^ 16 = w6 P 0 ∧ w6 P 0 < 2 ^ 20 := by
  have t5 := topN_lt h 5
  have t6 := topN_lt h 6
  have h1 := h.2.2.2.1
  have h2 := h.2.2.2.2
  unfold w6
  have e1 : topN (P.1 5) ||| topN (P.1 6) * 2 ^ 5 = _ := or_add (by omega)
  have e2 : (topN (P.1 5) + topN (P.1 6) * 2 ^ 5) ||| P.2.2.2 * 2 ^ 10 = _ := or_add (by omega)
  have e3 : (topN (P.1 5) + topN (P.1 6) * 2 ^ 5 + P.2.2.2 * 2 ^ 10) ||| (P.1 7).length * 2 ^ 12 = _ := or_add (by omega)
  have e4 : (topN (P.1 5) + topN (P.1 6) * 2 ^ 5 + P.2.2.2 * 2 ^ 10 + (P.1 7).length * 2 ^ 12) ||| (P.1 9).length * 2 ^ 16 = _ := or_add (by omega)
  rw [show sumB 3 P.2.2.1 0 = 0 from rfl, Nat.zero_mul, Nat.add_zero, e1, e2, e3, e4]
  refine ⟨rfl, by omega⟩
theorem w6_eq (P : Pos) (s : Nat) : w6 P s = w6 P 0 + sumB 3 P.2.2.1 s * 2 ^ 20 := by
  unfold w6; rw [show sumB 3 P.2.2.1 0 = 0 from rfl, Nat.zero_mul, Nat.add_zero]
theorem w6_step {P : Pos} (h : KOk P) (s : Nat) : w6 P s ||| P.2.2.1 s * 2 ^ (20 + 3 * s) = w6 P (s + 1) := by
  have h0 := (w6_0 h).2
  have e : ∀ s, w6 P s = w6 P 0 + sumB 3 P.2.2.1 s * 2 ^ 20 := fun s => by
    unfold w6; rw [show sumB 3 P.2.2.1 0 = 0 from rfl, Nat.zero_mul, Nat.add_zero]
  rw [e s, e (s + 1), ← or_add h0, ← or_add h0, ← sumB_or (b := 3) (fun i _ => h.2.2.1 i), ← or_mul, Nat.or_assoc, Nat.add_comm 20, Nat.pow_add, Nat.mul_assoc]
theorem keyL_lt {P : Pos} (h : KOk P) (k : Nat) : keyL P k < 2 ^ 64 := by
  unfold keyL
  split
  · exact pkT_lt64 (h.1.1 k) (h.1.len k)
  · split
    · have h1 : sumB 10 (hgt P) 5 < 1125899906842624 := sumB_lt (b := 10) (d := hgt P) (k := 5) (fun i _ => hgt_lt h i)
      generalize sumB 10 (hgt P) 5 = a at h1 ⊢
      omega
    · split
      · have h0 := (w6_0 h).2
        have h1 : sumB 3 P.2.2.1 4 < 4096 := sumB_lt (b := 3) (d := P.2.2.1) (k := 4) (fun i _ => h.2.2.1 i)
        rw [w6_eq]
        generalize w6 P 0 = a at h0 ⊢
        generalize sumB 3 P.2.2.1 4 = b at h1 ⊢
        omega
      · have a1 : sumB 4 (botN (P.1 7)) 8 < 4294967296 := sumB_lt (b := 4) (d := botN (P.1 7)) (k := 8) (fun i _ => botN_lt h 7 i)
        have a2 : sumB 4 (botN (P.1 9)) 8 < 4294967296 := sumB_lt (b := 4) (d := botN (P.1 9)) (k := 8) (fun i _ => botN_lt h 9 i)
        unfold w7
        generalize sumB 4 (botN (P.1 7)) 8 = a at a1 ⊢
        generalize sumB 4 (botN (P.1 9)) 8 = b at a2 ⊢
        omega
end
section
/-! ===== the second reading: store ===== -/
/-- the first k numbers stand there, and all else as it was -/
def SI (P : Pos) (L L1 : Nat → Nat → Int64) (cc o k : Nat) : Prop := (∀ i, i < k → L1 cc (o + i) = lN (keyL P i)) ∧ ∀ a j, ¬ (a = cc ∧ o ≤ j ∧ j < o + 8) → L1 a j = L a j
theorem SI.wr {P : Pos} {L L1 : Nat → Nat → Int64} {cc o k : Nat} (h : SI P L L1 cc o k) (hk : k < 8) : SI P L (stJ L1 cc (o + k) (lN (keyL P k))) cc o (k + 1) := by
  refine ⟨fun i hi => ?_, fun a j ha => ?_⟩
  · rw [stJ_s]
    by_cases z : i = k
    · rw [if_pos ⟨rfl, by omega⟩, z]
    · rw [if_neg (by omega)]; exact h.1 i (by omega)
  · rw [stJ_s, if_neg (by omega)]; exact h.2 a j ha
theorem keyL_c {P : Pos} {k : Nat} (h : k < 5) : keyL P k = pkT (P.1 k) := by unfold keyL; rw [if_pos h]
theorem keyL_5 (P : Pos) : keyL P 5 = sumB 10 (hgt P) 5 := by unfold keyL; rw [if_neg (by omega), if_pos rfl]
theorem keyL_6 (P : Pos) : keyL P 6 = w6 P 4 := by unfold keyL; rw [if_neg (by omega), if_neg (by omega), if_pos rfl]
theorem keyL_7 (P : Pos) : keyL P 7 = w7 P 8 := by unfold keyL; rw [if_neg (by omega), if_neg (by omega), if_neg (by omega)]
theorem w7_0 (P : Pos) : w7 P 0 = 0 := by unfold w7; simp [sumB]
theorem m_st163 {I : Nat → Nat → Int32} {L : Nat → Nat → Int64} {P : Pos} (h : MRep I L P) (hk : KOk P) {cc nn o : Nat} (ho : o + 8 ≤ nn) (hnn : nn < 2 ^ 30) {L1 : Nat → Nat → Int64} (hs : SI P L L1 cc o 7) :
    ∀ (j k n : Nat), k + j = 8 → j < n → ∃ L2, F_X6_store_L163 I cc nn n L1 (nI o) (lN (w7 P k)) (nI k) = some L2 ∧ SI P L L2 cc o 8 := by
  have h8 := hk.2.2.2.1
  intro j
  induction j with
  | zero =>
    intro k n hk2 hn
    obtain ⟨n, rfl⟩ : ∃ q, n = q + 1 := ⟨n - 1, by omega⟩
    show ∃ L2, F_X6_store_s163 I cc nn (F_X6_store_L163 I cc nn n) _ _ _ _ = _ ∧ _
    unfold F_X6_store_s163 F_X6_store_b241
    have : k = 8 := by omega
    subst this
    rw [if_pos (nI_le (by omega) (by omega)), nI_add, wrJ_n _ (by omega) (by omega), ← keyL_7]
    exact ⟨_, rfl, hs.wr (k := 7) (by omega)⟩
  | succ j ih =>
    intro k n hk2 hn
    obtain ⟨n, rfl⟩ : ∃ q, n = q + 1 := ⟨n - 1, by omega⟩
    show ∃ L2, F_X6_store_s163 I cc nn (F_X6_store_L163 I cc nn n) _ _ _ _ = _ ∧ _
    unfold F_X6_store_s163
    have e9 : ∀ v, F_X6_store_b198 I cc nn (F_X6_store_L163 I cc nn n) L1 (nI o) (nI k) v (lN (botN (P.1 7) k * 2 ^ (4 * k))) = F_X6_store_L163 I cc nn n L1 (nI o) ((v ||| lN (botN (P.1 7) k * 2 ^ (4 * k))) ||| lN (botN (P.1 9) k * 2 ^ (32 + 4 * k))) (nI (k + 1)) := by
      intro v
      unfold F_X6_store_b198 F_X6_store_b232
      rw [h.2.2.2.2.1.1, nI_add]
      by_cases q : k < (P.1 9).length
      · have hb : botN (P.1 9) k = (P.1 9).getD ((P.1 9).length - 1 - k) 0 := by unfold botN; rw [if_pos q]
        have hlt := (getD_lt hk.1 (p := 9) (k := (P.1 9).length - 1 - k) (by omega)).1
        rw [if_neg (nI_ge q (by omega)), rdA_n _ (by omega) (by omega), h.2.2.2.2.1.2 k q, nI_l (by omega), pk_mul, nI_add, wb_shl _ (by omega), ← hb]
      · have hb : botN (P.1 9) k = 0 := by unfold botN; rw [if_neg q]
        rw [if_pos (nI_le (by omega) (by omega)), hb, Nat.zero_mul]
    have e7 : (if nI (P.1 7).length ≤ nI k then F_X6_store_b198 I cc nn (F_X6_store_L163 I cc nn n) L1 (nI o) (nI k) (lN (w7 P k)) (lN 0) else rdA (I 7) 8 (nI k) fun x8 => F_X6_store_b198 I cc nn (F_X6_store_L163 I cc nn n) L1 (nI o) (nI k) (lN (w7 P k)) ((x8.toInt64) <<< (((nI 4 * nI k) : Int32).toInt64 &&& 63))) = F_X6_store_b198 I cc nn (F_X6_store_L163 I cc nn n) L1 (nI o) (nI k) (lN (w7 P k)) (lN (botN (P.1 7) k * 2 ^ (4 * k))) := by
      by_cases q : k < (P.1 7).length
      · have hb : botN (P.1 7) k = (P.1 7).getD ((P.1 7).length - 1 - k) 0 := by unfold botN; rw [if_pos q]
        have hlt := (getD_lt hk.1 (p := 7) (k := (P.1 7).length - 1 - k) (by omega)).1
        rw [if_neg (nI_ge q (by omega)), rdA_n _ (by omega) (by omega), h.2.2.2.1.2 k q, nI_l (by omega), pk_mul, wb_shl _ (by omega), ← hb]
      · have hb : botN (P.1 7) k = 0 := by unfold botN; rw [if_neg q]
        rw [if_pos (nI_le (by omega) (by omega)), hb, Nat.zero_mul]
    rw [if_neg (nI_ge (by omega) (by omega)), h.2.2.2.1.1, e7, e9, fb_orL, fb_orL, w7_step hk (by omega)]
    exact ih (k + 1) n (by omega) (by omega)
theorem m_st116 {I : Nat → Nat → Int32} {L : Nat → Nat → Int64} {P : Pos} (h : MRep I L P) (hk : KOk P) {cc nn o : Nat} (ho : o + 8 ≤ nn) (hnn : nn < 2 ^ 30) {L1 : Nat → Nat → Int64} (hs : SI P L L1 cc o 6) :
    ∀ (j k n : Nat), k + j = 4 → j < n → ∃ L2, F_X6_store_L116 I cc nn n L1 (nI o) (lN (w6 P k)) (nI k) = some L2 ∧ SI P L L2 cc o 8 := by
  intro j
  induction j with
  | zero =>
    intro k n hk2 hn
    obtain ⟨n, rfl⟩ : ∃ q, n = q + 1 := ⟨n - 1, by omega⟩
    show ∃ L2, F_X6_store_s116 I cc nn (F_X6_store_L116 I cc nn n) _ _ _ _ = _ ∧ _
    unfold F_X6_store_s116 F_X6_store_b149
    have : k = 4 := by omega
    subst this
    rw [if_pos (nI_le (by omega) (by omega)), nI_add, wrJ_n _ (by omega) (by omega), ← keyL_6, show lN 0 = lN (w7 P 0) by rw [w7_0]]
    exact m_st163 h hk ho hnn (hs.wr (k := 6) (by omega)) 8 0 FU (by omega) (FU_gt (by omega))
  | succ j ih =>
    intro k n hk2 hn
    obtain ⟨n, rfl⟩ : ∃ q, n = q + 1 := ⟨n - 1, by omega⟩
    show ∃ L2, F_X6_store_s116 I cc nn (F_X6_store_L116 I cc nn n) _ _ _ _ = _ ∧ _
    unfold F_X6_store_s116
    have hu := hk.2.2.1 k
    rw [if_neg (nI_ge (by omega) (by omega)), rdA_n _ (by omega) (by omega), h.2.2.1 k (by omega), nI_l (by omega), pk_mul, nI_add, wb_shl _ (by omega), fb_orL, w6_step hk, nI_add]
    exact ih (k + 1) n (by omega) (by omega)
theorem m_st5 {I : Nat → Nat → Int32} {L : Nat → Nat → Int64} {P : Pos} (h : MRep I L P) (hk : KOk P) {cc nn o : Nat} (hc : cc ≠ 0) (ho : o + 8 ≤ nn) (hnn : nn < 2 ^ 30) :
    ∀ (j k n : Nat) (L1 : Nat → Nat → Int64), k + j = 5 → j < n → SI P L L1 cc o k → ∃ L2, F_X6_store_L5 I cc nn n L1 (nI o) (lN (sumB 10 (hgt P) k)) (nI k) = some L2 ∧ SI P L L2 cc o 8 := by
  intro j
  induction j with
  | zero =>
    intro k n L1 hk2 hn hs
    obtain ⟨n, rfl⟩ : ∃ q, n = q + 1 := ⟨n - 1, by omega⟩
    show ∃ L2, F_X6_store_s5 I cc nn (F_X6_store_L5 I cc nn n) _ _ _ _ = _ ∧ _
    unfold F_X6_store_s5 F_X6_store_b57
    have : k = 5 := by omega
    subst this
    have h8 := hk.2.2.2
    have t1 : (nI P.2.2.2).toInt64 = lN P.2.2.2 := nI_l (by omega)
    have t2 : (nI (P.1 7).length).toInt64 = lN (P.1 7).length := nI_l (by omega)
    have t3 : (nI (P.1 9).length).toInt64 = lN (P.1 9).length := nI_l (by omega)
    rw [if_pos (nI_le (by omega) (by omega)), nI_add, wrJ_n _ (by omega) (by omega), rdA_n _ (by omega) (by omega), rdA_n _ (by omega) (by omega), h.2.1 0 (by omega), h.2.1 1 (by omega), topI_64 (hk.1.1 _), topI_64 (hk.1.1 _), h.2.2.2.2.2, h.2.2.2.1.1, h.2.2.2.2.1.1, t1, t2, t3, wb_shl _ (show 5 < 64 by omega), wb_shl _ (show 10 < 64 by omega), wb_shl _ (show 12 < 64 by omega), wb_shl _ (show 16 < 64 by omega), fb_orL, fb_orL, fb_orL, fb_orL, (w6_0 hk).1, ← keyL_5]
    exact m_st116 h hk ho hnn (hs.wr (k := 5) (by omega)) 4 0 FU (by omega) (FU_gt (by omega))
  | succ j ih =>
    intro k n L1 hk2 hn hs
    obtain ⟨n, rfl⟩ : ∃ q, n = q + 1 := ⟨n - 1, by omega⟩
    show ∃ L2, F_X6_store_s5 I cc nn (F_X6_store_L5 I cc nn n) _ _ _ _ = _ ∧ _
    unfold F_X6_store_s5
    have hl := hk.1.len k
    have hh := hk.1.2.2.2.2.1 k
    obtain ⟨b1, b2, b3⟩ := h.1 k (by omega)
    have e0 : L1 0 k = lN (pkT (P.1 k)) := by rw [hs.2 0 k (fun y => hc y.1.symm), b1]
    have ek : lN (pkT (P.1 k)) = lN (keyL P k) := by unfold keyL; rw [if_pos (by omega)]
    have eh : (nI (P.1 k).length ||| (nI (P.2.1 k) <<< (nI 5 &&& 31))).toInt64 = lN (hgt P k) := by
      rw [pk_shlN _ 5 (by decide) (by omega), fa_or, or_add (by omega), nI_l (by omega)]; rfl
    rw [if_neg (nI_ge (by omega) (by omega)), rdA_n _ (by omega) (by omega), e0, nI_add, wrJ_n _ (by omega) (by omega), rdA_n _ (by omega) (by omega), rdA_n _ (by omega) (by omega), b2, b3, eh, pk_mul, wb_shl _ (by omega), fb_orL, sumB_or (fun i _ => hgt_lt hk i), nI_add, ek]
    exact ih (k + 1) n _ (by omega) (by omega) (hs.wr (by omega))
theorem m_store {I : Nat → Nat → Int32} {L : Nat → Nat → Int64} {P : Pos} (h : MRep I L P) (hk : KOk P) {cc nn o : Nat} (hc : cc ≠ 0) (ho : o + 8 ≤ nn) (hnn : nn < 2 ^ 30) : ∃ L2, F_X6_store I cc nn L (nI o) = some L2 ∧ SI P L L2 cc o 8 :=
  m_st5 h hk hc ho hnn 5 0 FU L (by omega) (FU_gt (by omega)) ⟨fun i hi => absurd hi (Nat.not_lt_zero i), fun _ _ _ => rfl⟩
end
section
/-! ===== the second reading: load ===== -/
theorem w7_lo {P : Pos} (h : KOk P) {i : Nat} (hi : i < 8) : w7 P 8 / 2 ^ (4 * i) % 16 = botN (P.1 7) i := by
  unfold w7
  have e : sumB 4 (botN (P.1 9)) 8 * 2 ^ 32 = 2 ^ (4 * i) * (2 ^ 4 * (sumB 4 (botN (P.1 9)) 8 * 2 ^ (28 - 4 * i))) := by
    rw [← Nat.mul_assoc, ← Nat.pow_add, Nat.mul_comm, Nat.mul_comm (sumB 4 (botN (P.1 9)) 8), ← Nat.mul_assoc, ← Nat.pow_add]
    congr 2
    omega
  rw [e, Nat.add_mul_div_left _ _ (Nat.two_pow_pos _)]
  have := Nat.add_mul_mod_self_left (sumB 4 (botN (P.1 7)) 8 / 2 ^ (4 * i)) (2 ^ 4) (sumB 4 (botN (P.1 9)) 8 * 2 ^ (28 - 4 * i))
  rw [show (16 : Nat) = 2 ^ 4 by decide]
  rw [this]
  exact sumB_at (fun i _ => botN_lt h 7 i) hi
theorem w7_hi {P : Pos} (h : KOk P) {i : Nat} (hi : i < 8) : w7 P 8 / 2 ^ (32 + 4 * i) % 16 = botN (P.1 9) i := by
  have a1 : sumB 4 (botN (P.1 7)) 8 < 2 ^ 32 := sumB_lt (b := 4) (d := botN (P.1 7)) (k := 8) (fun i _ => botN_lt h 7 i)
  unfold w7
  rw [Nat.pow_add, ← Nat.div_div_eq_div_mul, Nat.mul_comm (sumB 4 (botN (P.1 9)) 8), Nat.add_mul_div_left _ _ (Nat.two_pow_pos _), Nat.div_eq_of_lt a1, Nat.zero_add]
  exact sumB_at (fun i _ => botN_lt h 9 i) hi
theorem w6_hi {P : Pos} (h : KOk P) {s : Nat} (hs : s < 4) : w6 P 4 / 2 ^ (20 + 3 * s) % 8 = P.2.2.1 s := by
  have a1 := (w6_0 h).2
  rw [w6_eq, Nat.pow_add, ← Nat.div_div_eq_div_mul, Nat.mul_comm (sumB 3 P.2.2.1 4), Nat.add_mul_div_left _ _ (Nat.two_pow_pos _), Nat.div_eq_of_lt a1, Nat.zero_add]
  exact sumB_at (b := 3) (fun i _ => h.2.2.1 i) hs
theorem w6_lo {P : Pos} (h : KOk P) : w6 P 4 % 32 = topN (P.1 5) ∧ w6 P 4 / 2 ^ 5 % 32 = topN (P.1 6) ∧ w6 P 4 / 2 ^ 10 % 4 = P.2.2.2 ∧ w6 P 4 / 2 ^ 12 % 16 = (P.1 7).length ∧ w6 P 4 / 2 ^ 16 % 16 = (P.1 9).length := by
  have t5 := topN_lt h 5
  have t6 := topN_lt h 6
  have h1 := h.2.2.2.1
  have h2 := h.2.2.2.2
  unfold w6
  generalize sumB 3 P.2.2.1 4 = S
  generalize topN (P.1 5) = a at t5 ⊢
  generalize topN (P.1 6) = b at t6 ⊢
  generalize P.2.2.2 = c at h2 ⊢
  generalize (P.1 7).length = d at h1 ⊢
  generalize (P.1 9).length = e at h1 ⊢
  simp only [show (2 : Nat) ^ 5 = 32 by decide, show (2 : Nat) ^ 10 = 1024 by decide, show (2 : Nat) ^ 12 = 4096 by decide, show (2 : Nat) ^ 16 = 65536 by decide, show (2 : Nat) ^ 20 = 1048576 by decide]
  refine ⟨?_, ?_, ?_, ?_, ?_⟩ <;> omega
theorem hgt_split {P : Pos} (h : KOk P) (p : Nat) : hgt P p % 2 ^ 5 = (P.1 p).length ∧ hgt P p / 2 ^ 5 = P.2.1 p := by
  have h1 := h.1.len p
  unfold hgt
  rw [show (2 : Nat) ^ 5 = 32 by decide]
  omega
theorem botN_at {P : Pos} {p i : Nat} (h : i < (P.1 p).length) : botN (P.1 p) i = (P.1 p).getD ((P.1 p).length - 1 - i) 0 := by unfold botN; rw [if_pos h]
def MC (I : Nat → Nat → Int32) (L : Nat → Nat → Int64) (P : Pos) (k : Nat) : Prop := ∀ p, p < k → L 0 p = lN (pkT (P.1 p)) ∧ I 3 p = nI (P.1 p).length ∧ I 4 p = nI (P.2.1 p)
def MD (I : Nat → Nat → Int32) (P : Pos) : Prop := (∀ k, k < 2 → I 5 k = topI (P.1 (5 + k))) ∧ I 0 21 = nI (P.1 7).length ∧ I 0 23 = nI (P.1 9).length ∧ I 0 24 = nI P.2.2.2
theorem m_ld177 {L : Nat → Nat → Int64} {P : Pos} (hk : KOk P) {cc nn o : Nat} (ho : o + 8 ≤ nn) (hnn : nn < 2 ^ 30) (hL : L cc (o + 7) = lN (keyL P 7)) :
    ∀ (j k n : Nat) (I : Nat → Nat → Int32), k + j = 8 → j < n → MC I L P 5 → MD I P → (∀ s, s < 4 → I 6 s = nI (P.2.2.1 s)) → (∀ i, i < k → I 7 i = nI (botN (P.1 7) i) ∧ I 8 i = nI (botN (P.1 9) i)) →
    ∃ I', F_X6_load_L177 cc nn n I L (nI o) (nI k) = some (I', L) ∧ MRep I' L P ∧ FrI I I' := by
  have h8 := hk.2.2.2.1
  have hlt := keyL_lt hk 7
  intro j
  induction j with
  | zero =>
    intro k n I hk2 hn h1 h2 h3 h4
    obtain ⟨n, rfl⟩ : ∃ q, n = q + 1 := ⟨n - 1, by omega⟩
    refine ⟨I, ?_, ⟨h1, h2.1, h3, ⟨h2.2.1, fun i hi => ?_⟩, ⟨h2.2.2.1, fun i hi => ?_⟩, h2.2.2.2⟩, FrI.refl I⟩
    · show F_X6_load_s177 cc nn (F_X6_load_L177 cc nn n) _ _ _ _ = _
      unfold F_X6_load_s177
      rw [if_pos (nI_le (by omega) (by omega))]
    · rw [(h4 i (by omega)).1, botN_at hi]
    · rw [(h4 i (by omega)).2, botN_at hi]
  | succ j ih =>
    intro k n I hk2 hn h1 h2 h3 h4
    obtain ⟨n, rfl⟩ : ∃ q, n = q + 1 := ⟨n - 1, by omega⟩
    show ∃ I', F_X6_load_s177 cc nn (F_X6_load_L177 cc nn n) _ _ _ _ = _ ∧ _
    unfold F_X6_load_s177
    have d1 : keyL P 7 / 2 ^ (4 * k) < 2 ^ 64 := Nat.lt_of_le_of_lt (Nat.div_le_self _ _) hlt
    have d2 : keyL P 7 / 2 ^ (32 + 4 * k) < 2 ^ 64 := Nat.lt_of_le_of_lt (Nat.div_le_self _ _) hlt
    have e1 : keyL P 7 / 2 ^ (4 * k) % 2 ^ 4 = botN (P.1 7) k := by rw [keyL_7]; exact w7_lo hk (by omega)
    have e2 : keyL P 7 / 2 ^ (32 + 4 * k) % 2 ^ 4 = botN (P.1 9) k := by rw [keyL_7]; exact w7_hi hk (by omega)
    rw [if_neg (nI_ge (by omega) (by omega)), nI_add, rdA_n _ (by omega) (by omega), hL, pk_mul, wb_shr hlt (by omega), wb_mask (k := 4) d1 (by omega), lN_i, e1, wrA_n _ (by omega) (by omega), rdA_n _ (by omega) (by omega), hL, nI_add, wb_shr hlt (by omega), wb_mask (k := 4) d2 (by omega), lN_i, e2, wrA_n _ (by omega) (by omega), nI_add]
    have g : ∀ a j, ¬ ((a = 7 ∨ a = 8) ∧ j = k) → st2 (st2 I 7 k (nI (botN (P.1 7) k))) 8 k (nI (botN (P.1 9) k)) a j = I a j := fun a j ha => by
      rw [st2_s, if_neg (fun y => ha ⟨Or.inr y.1, y.2⟩), st2_s, if_neg (fun y => ha ⟨Or.inl y.1, y.2⟩)]
    obtain ⟨I', r1, r2, r3⟩ := ih (k + 1) n (st2 (st2 I 7 k (nI (botN (P.1 7) k))) 8 k (nI (botN (P.1 9) k))) (by omega) (by omega) (fun p hp => by rw [g 3 p (by omega), g 4 p (by omega)]; exact h1 p hp) ⟨fun j hj => by rw [g 5 j (by omega)]; exact h2.1 j hj, by rw [g 0 21 (by omega)]; exact h2.2.1, by rw [g 0 23 (by omega)]; exact h2.2.2.1, by rw [g 0 24 (by omega)]; exact h2.2.2.2⟩ (fun s hs => by rw [g 6 s (by omega)]; exact h3 s hs) (fun i hi => by
      by_cases z : i = k
      · rw [z, st2_s, if_neg (by omega), st2_s, if_pos ⟨rfl, rfl⟩, st2_s, if_pos ⟨rfl, rfl⟩]; exact ⟨rfl, rfl⟩
      · rw [g 7 i (by omega), g 8 i (by omega)]; exact h4 i (by omega))
    exact ⟨I', r1, r2, ((FrI.st (by omega) (by omega)).trans (FrI.st (by omega) (by omega))).trans r3⟩
theorem m_ld141 {L : Nat → Nat → Int64} {P : Pos} (hk : KOk P) {cc nn o : Nat} (ho : o + 8 ≤ nn) (hnn : nn < 2 ^ 30) (hL : L cc (o + 7) = lN (keyL P 7)) :
    ∀ (j k n : Nat) (I : Nat → Nat → Int32), k + j = 4 → j < n → MC I L P 5 → MD I P → (∀ s, s < k → I 6 s = nI (P.2.2.1 s)) →
    ∃ I', F_X6_load_L141 cc nn n I L (nI o) (lN (keyL P 6)) (nI k) = some (I', L) ∧ MRep I' L P ∧ FrI I I' := by
  have hlt := keyL_lt hk 6
  intro j
  induction j with
  | zero =>
    intro k n I hk2 hn h1 h2 h3
    obtain ⟨n, rfl⟩ : ∃ q, n = q + 1 := ⟨n - 1, by omega⟩
    show ∃ I', F_X6_load_s141 cc nn (F_X6_load_L141 cc nn n) _ _ _ _ _ = _ ∧ _
    unfold F_X6_load_s141
    rw [if_pos (nI_le (by omega) (by omega))]
    exact m_ld177 hk ho hnn hL 8 0 FU I (by omega) (FU_gt (by omega)) h1 h2 (fun s hs => h3 s (by omega)) (fun i hi => absurd hi (Nat.not_lt_zero i))
  | succ j ih =>
    intro k n I hk2 hn h1 h2 h3
    obtain ⟨n, rfl⟩ : ∃ q, n = q + 1 := ⟨n - 1, by omega⟩
    show ∃ I', F_X6_load_s141 cc nn (F_X6_load_L141 cc nn n) _ _ _ _ _ = _ ∧ _
    unfold F_X6_load_s141
    have d1 : keyL P 6 / 2 ^ (20 + 3 * k) < 2 ^ 64 := Nat.lt_of_le_of_lt (Nat.div_le_self _ _) hlt
    have e1 : keyL P 6 / 2 ^ (20 + 3 * k) % 2 ^ 3 = P.2.2.1 k := by rw [keyL_6]; exact w6_hi hk (by omega)
    rw [if_neg (nI_ge (by omega) (by omega)), pk_mul, nI_add, wb_shr hlt (by omega), wb_mask (k := 3) d1 (by omega), lN_i, e1, wrA_n _ (by omega) (by omega), nI_add]
    have g : ∀ a j, ¬ (a = 6 ∧ j = k) → st2 I 6 k (nI (P.2.2.1 k)) a j = I a j := fun a j ha => by rw [st2_s, if_neg ha]
    obtain ⟨I', r1, r2, r3⟩ := ih (k + 1) n (st2 I 6 k (nI (P.2.2.1 k))) (by omega) (by omega) (fun p hp => by rw [g 3 p (by omega), g 4 p (by omega)]; exact h1 p hp) ⟨fun j hj => by rw [g 5 j (by omega)]; exact h2.1 j hj, by rw [g 0 21 (by omega)]; exact h2.2.1, by rw [g 0 23 (by omega)]; exact h2.2.2.1, by rw [g 0 24 (by omega)]; exact h2.2.2.2⟩ (fun s hs => by
      by_cases z : s = k
      · rw [z, st2_s, if_pos ⟨rfl, rfl⟩]
      · rw [g 6 s (by omega)]; exact h3 s (by omega))
    exact ⟨I', r1, r2, (FrI.st (by omega) (by omega)).trans r3⟩
theorem m_ld62 {L : Nat → Nat → Int64} {P : Pos} (hk : KOk P) {cc nn o : Nat} (ho : o + 8 ≤ nn) (hnn : nn < 2 ^ 30) (hL6 : L cc (o + 6) = lN (keyL P 6)) (hL : L cc (o + 7) = lN (keyL P 7)) (I : Nat → Nat → Int32) (h1 : MC I L P 5) :
    ∃ I', F_X6_load_b62 cc nn I L (nI o) = some (I', L) ∧ MRep I' L P ∧ FrI I I' := by
  have hlt := keyL_lt hk 6
  obtain ⟨a1, a2, a3, a4, a5⟩ := w6_lo hk
  have d : ∀ k, keyL P 6 / 2 ^ k < 2 ^ 64 := fun k => Nat.lt_of_le_of_lt (Nat.div_le_self _ _) hlt
  have m5 : lN (keyL P 6) &&& lN 31 = lN (topN (P.1 5)) := by rw [wb_mask (k := 5) hlt (by omega), keyL_6]; exact congrArg lN a1
  have m6 : ((lN (keyL P 6)).toUInt64 >>> ((nI 5).toInt64.toUInt64 &&& Int64.toUInt64 63)).toInt64 &&& lN 31 = lN (topN (P.1 6)) := by rw [wb_shr hlt (by omega), wb_mask (k := 5) (d 5) (by omega), keyL_6]; exact congrArg lN a2
  have m10 : ((lN (keyL P 6)).toUInt64 >>> ((nI 10).toInt64.toUInt64 &&& Int64.toUInt64 63)).toInt64 &&& lN 3 = lN P.2.2.2 := by rw [wb_shr hlt (by omega), wb_mask (k := 2) (d 10) (by omega), keyL_6]; exact congrArg lN a3
  have m12 : ((lN (keyL P 6)).toUInt64 >>> ((nI 12).toInt64.toUInt64 &&& Int64.toUInt64 63)).toInt64 &&& lN 15 = lN (P.1 7).length := by rw [wb_shr hlt (by omega), wb_mask (k := 4) (d 12) (by omega), keyL_6]; exact congrArg lN a4
  have m16 : ((lN (keyL P 6)).toUInt64 >>> ((nI 16).toInt64.toUInt64 &&& Int64.toUInt64 63)).toInt64 &&& lN 15 = lN (P.1 9).length := by rw [wb_shr hlt (by omega), wb_mask (k := 4) (d 16) (by omega), keyL_6]; exact congrArg lN a5
  have t5 := (topN_I (hk.1.1 5)).2.2
  have t6 := (topN_I (hk.1.1 6)).2.2
  unfold F_X6_load_b62
  rw [nI_add, rdA_n _ (by omega) (by omega), hL6, m5, lN_i, t5, wrA_n _ (by omega) (by omega), m6, lN_i, t6, wrA_n _ (by omega) (by omega), m10, lN_i, bnd_s, m12, lN_i, bnd_s, m16, lN_i, bnd_s]
  generalize hJ : st2 (st2 (st2 (st2 (st2 I 5 0 (topI (P.1 5))) 5 1 (topI (P.1 6))) 0 24 (nI P.2.2.2)) 0 21 (nI (P.1 7).length)) 0 23 (nI (P.1 9).length) = J
  have hF : FrI I J := by
    rw [← hJ]
    exact ((((FrI.st (by omega) (by omega)).trans (FrI.st (by omega) (by omega))).trans (FrI.st0 (Or.inr (Or.inr rfl)))).trans (FrI.st0 (Or.inl rfl))).trans (FrI.st0 (Or.inr (Or.inl rfl)))
  have g : ∀ a j, a ≠ 5 → a ≠ 0 → J a j = I a j := fun a j h5 h0 => by
    rw [← hJ]; simp only [st2_s]
    rw [if_neg (fun y => h0 y.1), if_neg (fun y => h0 y.1), if_neg (fun y => h0 y.1), if_neg (fun y => h5 y.1), if_neg (fun y => h5 y.1)]
  obtain ⟨I', r1, r2, r3⟩ := m_ld141 hk ho hnn hL 4 0 FU J (by omega) (FU_gt (by omega)) (fun p hp => by rw [g 3 p (by omega) (by omega), g 4 p (by omega) (by omega)]; exact h1 p hp) (by
    rw [← hJ]
    refine ⟨fun k hk => ?_, by simp [st2_s], by simp [st2_s], by simp [st2_s]⟩
    have : k = 0 ∨ k = 1 := by omega
    rcases this with z | z <;> subst z <;> simp [st2_s]) (fun s hs => absurd hs (Nat.not_lt_zero s))
  exact ⟨I', r1, r2, hF.trans r3⟩
theorem m_ld2 {L : Nat → Nat → Int64} {P : Pos} (hk : KOk P) {cc nn o : Nat} (hc : cc ≠ 0) (ho : o + 8 ≤ nn) (hnn : nn < 2 ^ 30) (hL : ∀ i, i < 8 → L cc (o + i) = lN (keyL P i)) :
    ∀ (j k n : Nat) (I : Nat → Nat → Int32) (L1 : Nat → Nat → Int64), k + j = 5 → j < n → FrL L L1 → MC I L1 P k →
    ∃ I' L', F_X6_load_L2 cc nn n I L1 (nI o) (nI k) = some (I', L') ∧ MRep I' L' P ∧ FrI I I' ∧ FrL L L' := by
  intro j
  induction j with
  | zero =>
    intro k n I L1 hk2 hn hf h1
    obtain ⟨n, rfl⟩ : ∃ q, n = q + 1 := ⟨n - 1, by omega⟩
    show ∃ I' L', F_X6_load_s2 cc nn (F_X6_load_L2 cc nn n) _ _ _ _ = _ ∧ _
    unfold F_X6_load_s2
    have : k = 5 := by omega
    subst this
    rw [if_pos (nI_le (by omega) (by omega))]
    obtain ⟨I', r1, r2, r3⟩ := m_ld62 hk ho hnn (by rw [hf cc hc]; exact hL 6 (by omega)) (by rw [hf cc hc]; exact hL 7 (by omega)) I h1
    exact ⟨I', L1, r1, r2, r3, hf⟩
  | succ j ih =>
    intro k n I L1 hk2 hn hf h1
    obtain ⟨n, rfl⟩ : ∃ q, n = q + 1 := ⟨n - 1, by omega⟩
    show ∃ I' L', F_X6_load_s2 cc nn (F_X6_load_L2 cc nn n) _ _ _ _ = _ ∧ _
    unfold F_X6_load_s2
    have hlt := keyL_lt hk 5
    have d1 : keyL P 5 / 2 ^ (10 * k) < 2 ^ 64 := Nat.lt_of_le_of_lt (Nat.div_le_self _ _) hlt
    have e1 : keyL P 5 / 2 ^ (10 * k) % 2 ^ 10 = hgt P k := by rw [keyL_5]; exact sumB_at (fun i _ => hgt_lt hk i) (by omega)
    have c1 : L1 cc (o + k) = lN (keyL P k) := by rw [hf cc hc]; exact hL k (by omega)
    have c5 : stJ L1 0 k (lN (keyL P k)) cc (o + 5) = lN (keyL P 5) := by rw [stJ_s, if_neg (fun y => hc y.1), hf cc hc]; exact hL 5 (by omega)
    have hh := hgt_lt hk k
    obtain ⟨s1, s2⟩ := hgt_split hk k
    rw [if_neg (nI_ge (by omega) (by omega)), nI_add, rdA_n _ (by omega) (by omega), c1, wrJ_n _ (by omega) (by omega), nI_add, rdA_n _ (by omega) (by omega), c5, pk_mul, wb_shr hlt (by omega), wb_mask (k := 10) d1 (by omega), lN_i, e1, show nI (hgt P k) &&& nI 31 = nI (hgt P k % 2 ^ 5) from fa_mask _ 5, s1, wrA_n _ (by omega) (by omega), pk_shrN (by omega) _ 5 (by decide), s2, wrA_n _ (by omega) (by omega), nI_add]
    obtain ⟨I', L', r1, r2, r3, r4⟩ := ih (k + 1) n (st2 (st2 I 3 k (nI (P.1 k).length)) 4 k (nI (P.2.1 k))) (stJ L1 0 k (lN (keyL P k))) (by omega) (by omega) (hf.trans FrL.stJ) (fun p hp => by
      rw [stJ_s, st2_s, st2_s, st2_s, st2_s]
      by_cases z : p = k
      · rw [if_pos ⟨rfl, z⟩, if_neg (by omega), if_pos ⟨rfl, z⟩, if_pos ⟨rfl, z⟩, z, keyL_c (by omega)]; exact ⟨rfl, rfl, rfl⟩
      · rw [if_neg (fun y => z y.2), if_neg (by omega), if_neg (fun y => z y.2), if_neg (fun y => z y.2), if_neg (by omega)]; exact h1 p (by omega))
    exact ⟨I', L', r1, r2, ((FrI.st (by omega) (by omega)).trans (FrI.st (by omega) (by omega))).trans r3, r4⟩
theorem m_load {I : Nat → Nat → Int32} {L : Nat → Nat → Int64} {P : Pos} (hk : KOk P) {cc nn o : Nat} (hc : cc ≠ 0) (ho : o + 8 ≤ nn) (hnn : nn < 2 ^ 30) (hL : ∀ i, i < 8 → L cc (o + i) = lN (keyL P i)) :
    ∃ I' L', F_X6_load cc nn I L (nI o) = some (I', L') ∧ MRep I' L' P ∧ FrI I I' ∧ FrL L L' :=
  m_ld2 hk hc ho hnn hL 5 0 FU I L (by omega) (FU_gt (by omega)) (FrL.refl L) (fun p hp => absurd hp (Nat.not_lt_zero p))
end
section
/-! ===== the second reading: which column stands ahead ===== -/
def sgI (P : Pos) (p : Nat) : Int := (lN (pkT (P.1 p))).toInt
def ahead (P : Pos) (q p : Nat) : Bool := decide (sgI P q < sgI P p ∨ (sgI P q = sgI P p ∧ (hgt P q < hgt P p ∨ (hgt P q = hgt P p ∧ q < p))))
theorem ahead_irr (P : Pos) (p : Nat) : ahead P p p = false := by unfold ahead; simp
theorem ahead_trans {P : Pos} {a b c : Nat} (h1 : ahead P a b = true) (h2 : ahead P b c = true) : ahead P a c = true := by
  unfold ahead at *
  simp only [decide_eq_true_eq] at *
  omega
theorem ahead_total {P : Pos} {a b : Nat} (h : a ≠ b) : ahead P a b = true ∨ ahead P b a = true := by
  unfold ahead
  simp only [decide_eq_true_eq]
  omega
def rk (P : Pos) (N p : Nat) : Nat := cntB (fun q => ahead P q p) N
theorem cntB_mono {p q : Nat → Bool} : ∀ {n : Nat}, (∀ k, k < n → p k = true → q k = true) → cntB p n ≤ cntB q n
  | 0, _ => Nat.le_refl _
  | n + 1, h => by
    have h1 := cntB_mono (p := p) (q := q) (n := n) (fun k hk => h k (by omega))
    have h2 := h n (by omega)
    show cntB p n + (if p n = true then 1 else 0) ≤ cntB q n + (if q n = true then 1 else 0)
    by_cases z : p n = true
    · rw [if_pos z, if_pos (h2 z)]; omega
    · rw [if_neg z]; omega
theorem cntB_slt {p q : Nat → Bool} : ∀ {n k : Nat}, (∀ k, k < n → p k = true → q k = true) → k < n → p k = false → q k = true → cntB p n < cntB q n
  | n + 1, k, h, hk, e1, e2 => by
    show cntB p n + (if p n = true then 1 else 0) < cntB q n + (if q n = true then 1 else 0)
    by_cases y : k = n
    · subst y
      have h1 := cntB_mono (p := p) (q := q) (n := k) (fun k hk => h k (by omega))
      rw [if_neg (by rw [e1]; decide), if_pos e2]; omega
    · have h1 := cntB_slt (p := p) (q := q) (n := n) (k := k) (fun k hk => h k (by omega)) (by omega) e1 e2
      have h2 := h n (by omega)
      by_cases z : p n = true
      · rw [if_pos z, if_pos (h2 z)]; omega
      · rw [if_neg z]; omega
theorem rk_lt {P : Pos} {N p : Nat} (hp : p < N) : rk P N p < N := by
  have h : cntB (fun q => ahead P q p) N < cntB (fun _ => true) N := cntB_slt (k := p) (fun _ _ _ => rfl) hp (ahead_irr P p) rfl
  exact Nat.lt_of_lt_of_le h (cntB_le _ _)
theorem rk_ahead {P : Pos} {N a b : Nat} (ha : a < N) (h : ahead P a b = true) : rk P N a < rk P N b :=
  cntB_slt (k := a) (fun _ _ h2 => ahead_trans h2 h) ha (ahead_irr P a) h
theorem rk_inj {P : Pos} {N a b : Nat} (ha : a < N) (hb : b < N) (h : rk P N a = rk P N b) : a = b := by
  rcases Nat.decEq a b with z | z
  · rcases ahead_total (P := P) z with y | y
    · have := rk_ahead ha y; omega
    · have := rk_ahead hb y; omega
  · exact z
theorem m_isAhead {I : Nat → Nat → Int32} {L : Nat → Nat → Int64} {P : Pos} (h : MRep I L P) (hk : KOk P) {q p : Nat} (hq : q < 5) (hp : p < 5) : F_X6_isAhead I L (nI q) (nI p) = some (bi (ahead P q p)) := by
  have eh : ∀ p, (nI (P.1 p).length).toInt64 ||| ((nI (P.2.1 p)).toInt64 <<< ((nI 5).toInt64 &&& 63)) = lN (hgt P p) := fun p => by
    have hl := hk.1.len p
    have hh := hk.1.2.2.2.2.1 p
    have t1 : (nI (P.1 p).length).toInt64 = lN (P.1 p).length := nI_l (by omega)
    have t2 : (nI (P.2.1 p)).toInt64 = lN (P.2.1 p) := nI_l (by omega)
    rw [t1, t2, wb_shl _ (show 5 < 64 by omega), fb_orL, or_add (by omega)]; rfl
  obtain ⟨a1, a2, a3⟩ := h.1 q hq
  obtain ⟨b1, b2, b3⟩ := h.1 p hp
  have l1 := hgt_lt hk q
  have l2 := hgt_lt hk p
  unfold F_X6_isAhead
  rw [rdA_n _ hq (by omega), rdA_n _ hq (by omega), rdA_n _ hp (by omega), rdA_n _ hp (by omega), rdA_n _ hq (by omega), rdA_n _ hp (by omega), rdA_n _ hq (by omega), rdA_n _ hp (by omega), a1, a2, a3, b1, b2, b3, eh, eh]
  simp only [show (nI 0 : Int32) = 0 from rfl, lg_cmp_eq, lg_cmp_lt]
  have c1 : (lN (pkT (P.1 q)) < lN (pkT (P.1 p))) ↔ sgI P q < sgI P p := fa_lt64 _ _
  have c2 : (lN (pkT (P.1 q)) = lN (pkT (P.1 p))) ↔ sgI P q = sgI P p := fa_eq64 _ _
  have c3 : (lN (hgt P q) < lN (hgt P p)) ↔ hgt P q < hgt P p := lN_lt (by omega) (by omega)
  have c4 : (lN (hgt P q) = lN (hgt P p)) ↔ hgt P q = hgt P p := lN_eq (by omega) (by omega)
  simp only [c1, c2, c3, c4]
  unfold ahead
  by_cases z1 : sgI P q < sgI P p
  · rw [if_pos z1, decide_eq_true (Or.inl z1)]; rfl
  · rw [if_neg z1]
    by_cases z2 : sgI P q = sgI P p
    · rw [if_pos z2]
      by_cases z3 : hgt P q < hgt P p
      · rw [if_pos z3, decide_eq_true (Or.inr ⟨z2, Or.inl z3⟩)]; rfl
      · rw [if_neg z3]
        by_cases z4 : hgt P q = hgt P p
        · rw [if_pos z4]
          by_cases z5 : q < p
          · rw [if_neg (nI_ge z5 (by omega)), decide_eq_true (Or.inr ⟨z2, Or.inr ⟨z4, z5⟩⟩)]; rfl
          · rw [if_pos (nI_le (by omega) (by omega)), decide_eq_false (by omega)]; rfl
        · rw [if_neg z4, decide_eq_false (by omega)]; rfl
    · rw [if_neg z2, decide_eq_false (by omega)]; rfl
theorem sumB_set {b : Nat} {h r : Nat} (hh : h < 2 ^ b) : ∀ {k : Nat} {d : Nat → Nat}, (∀ i, d i < 2 ^ b) → d r = 0 → r < k → sumB b d k ||| h * 2 ^ (b * r) = sumB b (fun i => if i = r then h else d i) k
  | k + 1, d, hd, h0, hr => by
    have hd2 : ∀ i, (fun i => if i = r then h else d i) i < 2 ^ b := fun i => by
      dsimp only; split
      · exact hh
      · exact hd i
    rw [← sumB_or (fun i _ => hd i), ← sumB_or (d := fun i => if i = r then h else d i) (fun i _ => hd2 i)]
    by_cases z : r = k
    · subst z
      have e : sumB b (fun i => if i = r then h else d i) r = sumB b d r := sumB_congr (fun i hi => by rw [if_neg (by omega)])
      rw [e, h0, Nat.zero_mul, Nat.or_zero]
      rw [if_pos rfl]
    · rw [Nat.or_assoc, Nat.or_comm (d k * _), ← Nat.or_assoc, sumB_set hh hd h0 (show r < k by omega)]
      rw [if_neg (show ¬ k = r by omega)]
end
section
/-! ===== the second reading: the sorted numbers of a position ===== -/
def ws (P : Pos) (N : Nat) : Nat → Nat → Nat
  | 0 => fun _ => 0
  | k + 1 => fun i => if i = rk P N k then hgt P k else ws P N k i
theorem ws_at {P : Pos} {N : Nat} : ∀ {k p : Nat}, k ≤ N → p < k → ws P N k (rk P N p) = hgt P p
  | k + 1, p, hk, hp => by
    show (if rk P N p = rk P N k then hgt P k else ws P N k (rk P N p)) = _
    by_cases z : p = k
    · subst z; rw [if_pos rfl]
    · rw [if_neg (fun y => z (rk_inj (by omega) (by omega) y)), ws_at (by omega) (by omega)]
theorem ws_out {P : Pos} {N : Nat} : ∀ {k i : Nat}, k ≤ N → (∀ p, p < k → rk P N p ≠ i) → ws P N k i = 0
  | 0, _, _, _ => rfl
  | k + 1, i, hk, h => by
    show (if i = rk P N k then hgt P k else ws P N k i) = _
    rw [if_neg (fun y => h k (by omega) y.symm), ws_out (by omega) (fun p hp => h p (by omega))]
theorem ws_lt {P : Pos} (hk : KOk P) {N : Nat} : ∀ k i, ws P N k i < 2 ^ 10
  | 0, _ => Nat.two_pow_pos 10
  | k + 1, i => by
    show (if i = rk P N k then hgt P k else ws P N k i) < _
    split
    · exact hgt_lt hk k
    · exact ws_lt hk k i
def w6s (P : Pos) : Nat := (if topN (P.1 6) ≤ topN (P.1 5) then topN (P.1 6) else topN (P.1 5)) + (if topN (P.1 6) ≤ topN (P.1 5) then topN (P.1 5) else topN (P.1 6)) * 2 ^ 5 + w6 P 4 / 2 ^ 10 * 2 ^ 10
/-- f are the eight sorted numbers of P -/
def SK (P : Pos) (N : Nat) (f : Nat → Int64) : Prop := (∀ p, p < N → f (rk P N p) = lN (pkT (P.1 p))) ∧ (∀ i, N ≤ i → i < 5 → f i = lN 0) ∧ f 5 = lN (sumB 10 (ws P N N) 5) ∧ f 6 = lN (w6s P) ∧ f 7 = lN (w7 P 8)
theorem topI_le {l m : List Nat} (h : ∀ c, c ∈ l → c < 16) (h2 : ∀ c, c ∈ m → c < 16) : (topI l ≤ topI m) ↔ topN l ≤ topN m := by
  cases l with
  | nil =>
    cases m with
    | nil => exact ⟨fun _ => Nat.le_refl _, fun _ => Int32.le_refl _⟩
    | cons d r =>
      have := h2 d (by simp)
      refine ⟨fun _ => Nat.zero_le _, fun _ => ?_⟩
      show (-1 : Int32) ≤ nI d
      rw [Int32.le_iff_toInt_le, nI_toInt (by omega)]
      have : (-1 : Int32).toInt = -1 := by decide
      omega
  | cons c r =>
    have h3 := h c (by simp)
    cases m with
    | nil =>
      show nI c ≤ (-1) ↔ c + 1 ≤ 0
      rw [negone_le c (by omega)]
      exact ⟨fun y => y.elim, fun y => by omega⟩
    | cons d r2 =>
      have h4 := h2 d (by simp)
      show nI c ≤ nI d ↔ c + 1 ≤ d + 1
      rw [nI_leI (by omega) (by omega)]; omega
theorem m_sort218 {I : Nat → Nat → Int32} {L1 : Nat → Nat → Int64} {P : Pos} (h2 : ∀ k, k < 2 → I 5 k = topI (P.1 (5 + k))) (hk : KOk P) {cc nn o N : Nat} (ho : o + 8 ≤ nn) (hnn : nn < 2 ^ 30)
    (c6 : L1 cc (o + 6) = lN (keyL P 6)) : F_X6_sort_b146 I cc nn L1 (nI o) (lN (sumB 10 (ws P N N) 5)) = some (stJ (stJ L1 cc (o + 5) (lN (sumB 10 (ws P N N) 5))) cc (o + 6) (lN (w6s P))) := by
  have hlt := keyL_lt hk 6
  have t5 := topN_lt hk 5
  have t6 := topN_lt hk 6
  have b184 : ∀ a, a < 32 → ∀ x : Int64, x + lN 1 = lN a → (a = if topN (P.1 6) ≤ topN (P.1 5) then topN (P.1 6) else topN (P.1 5)) →
      F_X6_sort_b184 I cc nn (stJ L1 cc (o + 5) (lN (sumB 10 (ws P N N) 5))) (nI o) x = some (stJ (stJ L1 cc (o + 5) (lN (sumB 10 (ws P N N) 5))) cc (o + 6) (lN (w6s P))) := by
    intro a ha x hx hax
    have b218 : ∀ b, b < 32 → ∀ y : Int64, y + lN 1 = lN b → (b = if topN (P.1 6) ≤ topN (P.1 5) then topN (P.1 5) else topN (P.1 6)) →
        F_X6_sort_b218 I cc nn (stJ L1 cc (o + 5) (lN (sumB 10 (ws P N N) 5))) (nI o) x y = some (stJ (stJ L1 cc (o + 5) (lN (sumB 10 (ws P N N) 5))) cc (o + 6) (lN (w6s P))) := by
      intro b hb y hy hby
      have e6 : stJ L1 cc (o + 5) (lN (sumB 10 (ws P N N) 5)) cc (o + 6) = lN (keyL P 6) := by rw [stJ_s, if_neg (by omega), c6]
      have ew : (keyL P 6 / 2 ^ 10 * 2 ^ 10 ||| a) ||| b * 2 ^ 5 = w6s P := by
        rw [Nat.or_assoc, or_add (show a < 2 ^ 5 by omega), Nat.or_comm, or_add (show a + b * 2 ^ 5 < 2 ^ 10 by omega), hax, hby, keyL_6]; rfl
      unfold F_X6_sort_b218
      rw [nI_add, rdA_n _ (by omega) (by omega), e6, wb_shr hlt (by omega), wb_shl _ (show 10 < 64 by omega), hx, hy, wb_shl _ (show 5 < 64 by omega), fb_orL, fb_orL, ew, wrJ_n _ (by omega) (by omega)]
    unfold F_X6_sort_b184
    rw [rdA_n _ (by omega) (by omega), rdA_n _ (by omega) (by omega), h2 0 (by omega), h2 1 (by omega), rdA_n _ (by omega) (by omega), rdA_n _ (by omega) (by omega), h2 0 (by omega), h2 1 (by omega)]
    by_cases z : topN (P.1 6) ≤ topN (P.1 5)
    · rw [if_pos ((topI_le (hk.1.1 _) (hk.1.1 _)).mpr z)]
      exact b218 _ t5 _ (topI_64 (hk.1.1 _)) (by rw [if_pos z])
    · rw [if_neg (fun y => z ((topI_le (hk.1.1 _) (hk.1.1 _)).mp y))]
      exact b218 _ t6 _ (topI_64 (hk.1.1 _)) (by rw [if_neg z])
  unfold F_X6_sort_b146
  rw [nI_add, wrJ_n _ (by omega) (by omega), rdA_n _ (by omega) (by omega), rdA_n _ (by omega) (by omega), h2 0 (by omega), h2 1 (by omega), rdA_n _ (by omega) (by omega), rdA_n _ (by omega) (by omega), h2 0 (by omega), h2 1 (by omega)]
  by_cases z : topN (P.1 6) ≤ topN (P.1 5)
  · rw [if_pos ((topI_le (hk.1.1 _) (hk.1.1 _)).mpr z)]
    exact b184 _ t6 _ (topI_64 (hk.1.1 _)) (by rw [if_pos z])
  · rw [if_neg (fun y => z ((topI_le (hk.1.1 _) (hk.1.1 _)).mp y))]
    exact b184 _ t5 _ (topI_64 (hk.1.1 _)) (by rw [if_neg z])
/-- all but the scratch row 5 and the eight places as it was -/
def SF (L L1 : Nat → Nat → Int64) (cc o : Nat) : Prop := ∀ a j, a ≠ 5 → ¬ (a = cc ∧ o ≤ j ∧ j < o + 8) → L1 a j = L a j
theorem m_sort116 {I : Nat → Nat → Int32} {L : Nat → Nat → Int64} {R : Nat → Nat} {P : Pos} (hr : RR (I 1) R) (h : MRep I L P) (hk : KOk P) (hcol : ∀ p, p < 5 → R 2 ≤ p → P.1 p = []) {cc nn o : Nat} (hc5 : cc ≠ 5) (ho : o + 8 ≤ nn) (hnn : nn < 2 ^ 30) :
    ∀ (j k n : Nat) (L1 : Nat → Nat → Int64), k + j = R 2 → j < n → SF L L1 cc o → (∀ p, p < R 2 → L1 5 (rk P (R 2) p) = lN (pkT (P.1 p))) → (∀ i, k ≤ i → i < 8 → L1 cc (o + i) = lN (keyL P i)) → (∀ i, i < k → L1 cc (o + i) = L1 5 i) →
    ∃ L2, F_X6_sort_L116 I cc nn n L1 (nI o) (lN (sumB 10 (ws P (R 2) (R 2)) 5)) (nI k) = some L2 ∧ SF L L2 cc o ∧ SK P (R 2) (fun i => L2 cc (o + i)) := by
  have hR := hr.2
  unfold RulesOk at hR
  intro j
  induction j with
  | zero =>
    intro k n L1 hk2 hn hf h5 hc hd
    obtain ⟨n, rfl⟩ : ∃ q, n = q + 1 := ⟨n - 1, by omega⟩
    have : k = R 2 := by omega
    subst this
    show ∃ L2, F_X6_sort_s116 I cc nn (F_X6_sort_L116 I cc nn n) _ _ _ _ = _ ∧ _
    unfold F_X6_sort_s116
    rw [rdA_n _ (by omega) (by omega), hr.1 2 (by omega), if_pos (nI_le (by omega) (by omega)), m_sort218 h.2.1 hk ho hnn (hc 6 (by omega) (by omega))]
    refine ⟨_, rfl, ?_, ?_⟩
    · intro a j ha hb
      rw [stJ_s, if_neg (by omega), stJ_s, if_neg (by omega)]; exact hf a j ha hb
    · refine ⟨fun p hp => ?_, fun i h1 h2 => ?_, ?_, ?_, ?_⟩
      · have := rk_lt (P := P) hp
        dsimp only
        rw [stJ_s, if_neg (by omega), stJ_s, if_neg (by omega), hd _ this, h5 p hp]
      · dsimp only; rw [stJ_s, if_neg (by omega), stJ_s, if_neg (by omega), hc i h1 (by omega), keyL_c h2, hcol i h2 h1]; rfl
      · dsimp only; rw [stJ_s, if_neg (by omega), stJ_s, if_pos ⟨rfl, rfl⟩]
      · dsimp only; rw [stJ_s, if_pos ⟨rfl, rfl⟩]
      · dsimp only; rw [stJ_s, if_neg (by omega), stJ_s, if_neg (by omega), hc 7 (by omega) (by omega), keyL_7]
  | succ j ih =>
    intro k n L1 hk2 hn hf h5 hc hd
    obtain ⟨n, rfl⟩ : ∃ q, n = q + 1 := ⟨n - 1, by omega⟩
    show ∃ L2, F_X6_sort_s116 I cc nn (F_X6_sort_L116 I cc nn n) _ _ _ _ = _ ∧ _
    unfold F_X6_sort_s116
    rw [rdA_n _ (by omega) (by omega), hr.1 2 (by omega), if_neg (nI_ge (by omega) (by omega)), rdA_n _ (by omega) (by omega), nI_add, wrJ_n _ (by omega) (by omega), nI_add]
    have e5 : ∀ i, stJ L1 cc (o + k) (L1 5 k) 5 i = L1 5 i := fun i => by rw [stJ_s, if_neg (fun y => hc5 y.1.symm)]
    refine ih (k + 1) n (stJ L1 cc (o + k) (L1 5 k)) (by omega) (by omega) ?_ ?_ ?_ ?_
    · intro a j ha hb
      rw [stJ_s, if_neg (by omega)]; exact hf a j ha hb
    · intro p hp; rw [e5]; exact h5 p hp
    · intro i h1 h2; rw [stJ_s, if_neg (by omega)]; exact hc i (by omega) h2
    · intro i hi
      rw [e5, stJ_s]
      by_cases z : i = k
      · rw [if_pos ⟨rfl, by omega⟩, z]
      · rw [if_neg (by omega)]; exact hd i (by omega)
end
section
/-! ===== the second reading: sort, whole ===== -/
theorem MRep.atL {I : Nat → Nat → Int32} {L L1 : Nat → Nat → Int64} {P : Pos} (h : MRep I L P) (e : L1 0 = L 0) : MRep I L1 P :=
  ⟨fun p hp => by rw [e]; exact h.1 p hp, h.2⟩
theorem m_sort28 {I : Nat → Nat → Int32} {L1 : Nat → Nat → Int64} {R : Nat → Nat} {P : Pos} (hr : RR (I 1) R) (h : MRep I L1 P) (hk : KOk P) {cc nn : Nat} {p : Nat} (hp : p < 5) (v2 : Int32) (v3 : Int64) (K11 : (Nat → Nat → Int64) → Int32 → Int64 → Int32 → Option ((Nat → Nat → Int64))) :
    ∀ (j k n : Nat), k + j = R 2 → j < n → F_X6_sort_L28 I cc nn K11 n L1 v2 v3 (nI p) (nI (cntB (fun q => ahead P q p) k)) (nI k) = F_X6_sort_b66 I cc nn K11 L1 v2 v3 (nI p) (nI (rk P (R 2) p)) := by
  have hR := hr.2
  unfold RulesOk at hR
  intro j
  induction j with
  | zero =>
    intro k n hk2 hn
    obtain ⟨n, rfl⟩ : ∃ q, n = q + 1 := ⟨n - 1, by omega⟩
    have : k = R 2 := by omega
    subst this
    show F_X6_sort_s28 I cc nn K11 (F_X6_sort_L28 I cc nn K11 n) _ _ _ _ _ _ = _
    unfold F_X6_sort_s28
    rw [rdA_n _ (by omega) (by omega), hr.1 2 (by omega), if_pos (nI_le (by omega) (by omega))]; rfl
  | succ j ih =>
    intro k n hk2 hn
    obtain ⟨n, rfl⟩ : ∃ q, n = q + 1 := ⟨n - 1, by omega⟩
    show F_X6_sort_s28 I cc nn K11 (F_X6_sort_L28 I cc nn K11 n) _ _ _ _ _ _ = _
    unfold F_X6_sort_s28 F_X6_sort_b57
    have e : cntB (fun q => ahead P q p) (k + 1) = cntB (fun q => ahead P q p) k + if ahead P k p = true then 1 else 0 := rfl
    have i0 := ih (k + 1) n (by omega) (by omega)
    rw [e] at i0
    rw [rdA_n _ (by omega) (by omega), hr.1 2 (by omega), if_neg (nI_ge (by omega) (by omega)), m_isAhead h hk (by omega) hp, cal1_s, bi_if, nI_add, nI_add, nI_add]
    by_cases z : ahead P k p = true
    · rw [if_pos z]; rw [if_pos z] at i0; exact i0
    · rw [if_neg z]; rw [if_neg z] at i0; exact i0
theorem m_sort11 {I : Nat → Nat → Int32} {L : Nat → Nat → Int64} {R : Nat → Nat} {P : Pos} (hr : RR (I 1) R) (h : MRep I L P) (hk : KOk P) (hcol : ∀ p, p < 5 → R 2 ≤ p → P.1 p = []) {cc nn o : Nat} (hc5 : cc ≠ 5) (hc0 : cc ≠ 0) (ho : o + 8 ≤ nn) (hnn : nn < 2 ^ 30) :
    ∀ (j k n : Nat) (L1 : Nat → Nat → Int64), k + j = R 2 → j < n → SF L L1 cc o → (∀ p, p < k → L1 5 (rk P (R 2) p) = lN (pkT (P.1 p))) → (∀ i, i < 8 → L1 cc (o + i) = lN (keyL P i)) →
    ∃ L2, F_X6_sort_L11 I cc nn n L1 (nI o) (lN (sumB 10 (ws P (R 2) k) 5)) (nI k) = some L2 ∧ SF L L2 cc o ∧ SK P (R 2) (fun i => L2 cc (o + i)) := by
  have hR := hr.2
  unfold RulesOk at hR
  intro j
  induction j with
  | zero =>
    intro k n L1 hk2 hn hf h5 hc
    obtain ⟨n, rfl⟩ : ∃ q, n = q + 1 := ⟨n - 1, by omega⟩
    have : k = R 2 := by omega
    subst this
    show ∃ L2, F_X6_sort_s11 I cc nn (F_X6_sort_L11 I cc nn n) _ _ _ _ = _ ∧ _
    unfold F_X6_sort_s11
    rw [rdA_n _ (by omega) (by omega), hr.1 2 (by omega), if_pos (nI_le (by omega) (by omega))]
    exact m_sort116 hr h hk hcol hc5 ho hnn (R 2) 0 FU L1 (by omega) (FU_gt (by omega)) hf h5 (fun i _ hi => hc i hi) (fun i hi => absurd hi (Nat.not_lt_zero i))
  | succ j ih =>
    intro k n L1 hk2 hn hf h5 hc
    obtain ⟨n, rfl⟩ : ∃ q, n = q + 1 := ⟨n - 1, by omega⟩
    show ∃ L2, F_X6_sort_s11 I cc nn (F_X6_sort_L11 I cc nn n) _ _ _ _ = _ ∧ _
    unfold F_X6_sort_s11
    have e0 : L1 0 = L 0 := by funext j; exact hf 0 j (by omega) (fun y => hc0 y.1.symm)
    have hm := h.atL e0
    obtain ⟨b1, b2, b3⟩ := hm.1 k (by omega)
    have hl := hk.1.len k
    have hh := hk.1.2.2.2.2.1 k
    have hrk := rk_lt (P := P) (show k < R 2 by omega)
    have eh : (nI (P.1 k).length ||| (nI (P.2.1 k) <<< (nI 5 &&& 31))).toInt64 = lN (hgt P k) := by
      rw [pk_shlN _ 5 (by decide) (by omega), fa_or, or_add (by omega), nI_l (by omega)]; rfl
    rw [rdA_n _ (by omega) (by omega), hr.1 2 (by omega), if_neg (nI_ge (by omega) (by omega)), show (nI 0 : Int32) = nI (cntB (fun q => ahead P q k) 0) from rfl]
    have e28 := m_sort28 (cc := cc) (nn := nn) hr hm hk (show k < 5 by omega) (nI o) (lN (sumB 10 (ws P (R 2) k) 5)) (F_X6_sort_L11 I cc nn n) (R 2) 0 FU (by omega) (FU_gt (by omega))
    have e28' : F_X6_sort_L28 I cc nn (F_X6_sort_L11 I cc nn n) FU L1 (nI o) (lN (sumB 10 (ws P (R 2) k) 5)) (nI k) (nI (cntB (fun q => ahead P q k) 0)) (nI (cntB (fun q => ahead P q k) 0)) = _ := e28
    rw [e28']
    unfold F_X6_sort_b66
    rw [rdA_n _ (by omega) (by omega), b1, wrJ_n _ (by omega) (by omega), rdA_n _ (by omega) (by omega), rdA_n _ (by omega) (by omega), b2, b3, eh, pk_mul, wb_shl _ (by omega), fb_orL, sumB_set (hgt_lt hk k) (fun i => ws_lt hk k i) (ws_out (by omega) (fun p hp y => by have := rk_inj (by omega) (by omega) y; omega)) (by omega), nI_add]
    refine ih (k + 1) n (stJ L1 5 (rk P (R 2) k) (lN (pkT (P.1 k)))) (by omega) (by omega) ?_ ?_ ?_
    · intro a j ha hb
      rw [stJ_s, if_neg (fun y => ha y.1)]; exact hf a j ha hb
    · intro p hp
      rw [stJ_s]
      by_cases z : p = k
      · rw [z, if_pos ⟨rfl, rfl⟩]
      · rw [if_neg (fun y => z (rk_inj (by omega) (by omega) y.2))]; exact h5 p (by omega)
    · intro i hi
      rw [stJ_s, if_neg (fun y => hc5 y.1)]; exact hc i hi
theorem m_sort {I : Nat → Nat → Int32} {L : Nat → Nat → Int64} {R : Nat → Nat} {P : Pos} (hr : RR (I 1) R) (h : MRep I L P) (w : WF R P) {cc nn o : Nat} (hc5 : cc ≠ 5) (hc0 : cc ≠ 0) (ho : o + 8 ≤ nn) (hnn : nn < 2 ^ 30) :
    ∃ L2, F_X6_sort I cc nn L (nI o) = some L2 ∧ SF L L2 cc o ∧ SK P (R 2) (fun i => L2 cc (o + i)) := by
  have hk := w.kok hr.2
  unfold F_X6_sort
  obtain ⟨L1, e1, e2⟩ := m_store h hk hc0 ho hnn
  rw [e1, cal1_s]
  have hR := hr.2
  unfold RulesOk at hR
  have e0 : sumB 10 (ws P (R 2) 0) 5 = 0 := by simp [sumB, ws]
  have e3 := m_sort11 hr h hk w.2.1 hc5 hc0 ho hnn (R 2) 0 FU L1 (by omega) (FU_gt (by omega)) (fun a j _ hb => e2.2 a j hb) (fun p hp => absurd hp (Nat.not_lt_zero p)) e2.1
  rw [e0] at e3
  exact e3
end
section
/-! ===== the second reading: sorted numbers alike, columns alike ===== -/
def ckey (P : Pos) (p : Nat) : Nat × Nat := (pkT (P.1 p), hgt P p)
def invR (P : Pos) (N i : Nat) : Nat := ((List.range N).find? (fun p => decide (rk P N p = i))).getD 0
theorem invR_ok {P : Pos} {N i : Nat} (hi : i < N) : invR P N i < N ∧ rk P N (invR P N i) = i := by
  obtain ⟨p, hp, e⟩ := fb_onto (n := N) (f := rk P N) (fun i hi => rk_lt hi) (fun i j hij hj y => by have := rk_inj (by omega) hj y; omega) hi
  unfold invR
  cases h : (List.range N).find? (fun p => decide (rk P N p = i)) with
  | none =>
    rw [List.find?_eq_none] at h
    have := h p (by simpa using hp)
    simp [e] at this
  | some q =>
    have h1 := List.mem_of_find?_eq_some h
    have h2 := List.find?_some h
    exact ⟨by simpa using h1, by simpa using h2⟩
theorem invR_rk {P : Pos} {N p : Nat} (hp : p < N) : invR P N (rk P N p) = p := by
  have h := invR_ok (P := P) (rk_lt (P := P) hp)
  exact rk_inj h.1 hp h.2
def APl (P : Pos) (N : Nat) : List (Nat × Nat) := (List.range N).map (ckey P)
def SPl (P : Pos) (N : Nat) : List (Nat × Nat) := (List.range N).map (fun i => ckey P (invR P N i))
theorem SPl_perm (P : Pos) (N : Nat) : (SPl P N).Perm (APl P N) := by
  have e : SPl P N = ((List.range N).map (invR P N)).map (ckey P) := by unfold SPl; rw [List.map_map]; rfl
  rw [e]
  unfold APl
  refine List.Perm.map _ ?_
  rw [List.perm_ext_iff_of_nodup ?_ List.nodup_range]
  · intro a
    simp only [List.mem_map, List.mem_range]
    constructor
    · rintro ⟨i, hi, rfl⟩; exact (invR_ok hi).1
    · intro ha; exact ⟨rk P N a, rk_lt ha, invR_rk ha⟩
  · unfold List.Nodup
    rw [List.pairwise_map]
    refine List.Pairwise.imp_of_mem ?_ (List.pairwise_lt_range (n := N))
    intro a b ha hb hab y
    have h1 := (invR_ok (P := P) (N := N) (i := a) (by simpa using ha)).2
    have h2 := (invR_ok (P := P) (N := N) (i := b) (by simpa using hb)).2
    rw [y, h2] at h1; omega
def leK (x y : Nat × Nat) : Prop := (lN x.1).toInt < (lN y.1).toInt ∨ ((lN x.1).toInt = (lN y.1).toInt ∧ x.2 ≤ y.2)
theorem SPl_sorted (P : Pos) (N : Nat) : (SPl P N).Pairwise leK := by
  unfold SPl
  rw [List.pairwise_map]
  refine List.Pairwise.imp_of_mem ?_ (List.pairwise_lt_range (n := N))
  intro a b ha hb hab
  have h1 := invR_ok (P := P) (N := N) (i := a) (by simpa using ha)
  have h2 := invR_ok (P := P) (N := N) (i := b) (by simpa using hb)
  have hne : invR P N a ≠ invR P N b := fun y => by rw [y, h2.2] at h1; omega
  rcases ahead_total (P := P) hne with y | y
  · unfold ahead at y
    simp only [decide_eq_true_eq] at y
    unfold leK ckey
    unfold sgI at y
    dsimp only
    omega
  · have := rk_ahead h2.1 y
    omega
theorem lN_inj64 {a b : Nat} (ha : a < 2 ^ 64) (hb : b < 2 ^ 64) (h : lN a = lN b) : a = b := by
  rw [← wb_tn ha, ← wb_tn hb, h]
theorem sorted_eq {P Q : Pos} (hP : KOk P) (hQ : KOk Q) {N : Nat} (h : (APl P N).Perm (APl Q N)) : SPl P N = SPl Q N := by
  refine List.Perm.eq_of_pairwise (le := leK) ?_ (SPl_sorted P N) (SPl_sorted Q N) (((SPl_perm P N).trans h).trans (SPl_perm Q N).symm)
  intro a b ha hb h1 h2
  unfold SPl at ha hb
  rw [List.mem_map] at ha hb
  obtain ⟨i, -, rfl⟩ := ha
  obtain ⟨j, -, rfl⟩ := hb
  have l1 := pkT_lt64 (hP.1.1 (invR P N i)) (hP.1.len _)
  have l2 := pkT_lt64 (hQ.1.1 (invR Q N j)) (hQ.1.len _)
  unfold leK ckey at *
  dsimp only at *
  have e1 : (lN (pkT (P.1 (invR P N i)))).toInt = (lN (pkT (Q.1 (invR Q N j)))).toInt := by omega
  have e2 := lN_inj64 l1 l2 (Int64.toInt_inj.mp e1)
  rw [e2]
  congr 1
  omega
theorem SK_perm {P Q : Pos} (hP : KOk P) (hQ : KOk Q) {N : Nat} (hN : N ≤ 5) {f g : Nat → Int64} (hf : SK P N f) (hg : SK Q N g) : ((∀ i, i < 6 → f i = g i) ↔ (APl P N).Perm (APl Q N)) := by
  have fi : ∀ i, i < N → f i = lN (pkT (P.1 (invR P N i))) := fun i hi => by
    have h := invR_ok (P := P) hi
    have := hf.1 _ h.1
    rwa [h.2] at this
  have gi : ∀ i, i < N → g i = lN (pkT (Q.1 (invR Q N i))) := fun i hi => by
    have h := invR_ok (P := Q) hi
    have := hg.1 _ h.1
    rwa [h.2] at this
  have wP : ∀ i, i < N → ws P N N i = hgt P (invR P N i) := fun i hi => by
    have h := invR_ok (P := P) hi
    have := ws_at (P := P) (Nat.le_refl N) h.1
    rwa [h.2] at this
  have wQ : ∀ i, i < N → ws Q N N i = hgt Q (invR Q N i) := fun i hi => by
    have h := invR_ok (P := Q) hi
    have := ws_at (P := Q) (Nat.le_refl N) h.1
    rwa [h.2] at this
  have b5 : ∀ P : Pos, KOk P → sumB 10 (ws P N N) 5 < 2 ^ 64 := fun P h => Nat.lt_of_lt_of_le (sumB_lt (b := 10) (k := 5) (fun i _ => ws_lt h N i)) (Nat.pow_le_pow_right (by omega) (by omega))
  constructor
  · intro h
    have e5 := lN_inj64 (b5 P hP) (b5 Q hQ) (by rw [← hf.2.2.1, ← hg.2.2.1]; exact h 5 (by omega))
    have ew : ∀ i, i < 5 → ws P N N i = ws Q N N i := fun i hi => by
      rw [← sumB_at (k := 5) (fun i _ => ws_lt hP N i) hi, ← sumB_at (k := 5) (fun i _ => ws_lt hQ N i) hi, e5]
    have es : SPl P N = SPl Q N := by
      unfold SPl
      apply List.map_congr_left
      intro i hi
      have hi2 : i < N := by simpa using hi
      have e1 := lN_inj64 (pkT_lt64 (hP.1.1 (invR P N i)) (hP.1.len _)) (pkT_lt64 (hQ.1.1 (invR Q N i)) (hQ.1.len _)) (by rw [← fi i hi2, ← gi i hi2]; exact h i (by omega))
      have e2 := ew i (by omega)
      rw [wP i hi2, wQ i hi2] at e2
      unfold ckey
      rw [e1, e2]
    exact ((SPl_perm P N).symm.trans (es ▸ List.Perm.refl _)).trans (SPl_perm Q N)
  · intro h i hi
    have es := sorted_eq hP hQ h
    have ek : ∀ i, i < N → ckey P (invR P N i) = ckey Q (invR Q N i) := fun i hi => by
      have h1 := congrArg (fun l => l[i]?) es
      unfold SPl at h1
      simp only [List.getElem?_map, List.getElem?_range hi, Option.map_some, Option.some.injEq] at h1
      exact h1
    by_cases z : i < N
    · rw [fi i z, gi i z]
      have := congrArg Prod.fst (ek i z)
      exact congrArg lN this
    · by_cases z5 : i < 5
      · rw [hf.2.1 i (by omega) z5, hg.2.1 i (by omega) z5]
      · have : i = 5 := by omega
        subst this
        rw [hf.2.2.1, hg.2.2.1]
        congr 1
        apply sumB_congr
        intro i hi
        by_cases z : i < N
        · rw [wP i z, wQ i z]; exact congrArg Prod.snd (ek i z)
        · rw [ws_out (Nat.le_refl N) (fun p hp y => by have := rk_lt (P := P) hp; omega), ws_out (Nat.le_refl N) (fun p hp y => by have := rk_lt (P := Q) hp; omega)]
end
section
/-! ===== alike by the cards below: alike by places ===== -/
theorem pkT_inj {l m : List Nat} (hl : ∀ c, c ∈ l → c < 16) (hm : ∀ c, c ∈ m → c < 16) (hn : l.length = m.length) (h : pkT l = pkT m) : l = m := by
  apply List.ext_getElem hn
  intro i h1 h2
  have a := pkT_at hl (i := l.length - 1 - i) (by omega)
  have b := pkT_at hm (i := l.length - 1 - i) (by omega)
  rw [show l.length - 1 - (l.length - 1 - i) = i by omega] at a
  rw [show m.length - 1 - (l.length - 1 - i) = i by omega] at b
  rw [List.getD_eq_getElem?_getD, List.getElem?_eq_getElem h1] at a
  rw [List.getD_eq_getElem?_getD, List.getElem?_eq_getElem h2] at b
  rw [h, b] at a
  exact a.symm
def Mt (P Q : Pos) : Prop := (∀ p, p < 5 → P.1 p ≠ [] → ∃ q, q < 5 ∧ Q.1 q = P.1 p ∧ Q.2.1 q = P.2.1 p) ∧ (∀ c, (c ∈ P.1 5 ∨ c ∈ P.1 6) → (c ∈ Q.1 5 ∨ c ∈ Q.1 6)) ∧ Q.1 7 = P.1 7 ∧ Q.1 9 = P.1 9
theorem cell_one {P : Pos} (h : KOk P) {p c : Nat} (hp : p = 5 ∨ p = 6) (hc : c ∈ P.1 p) : P.1 p = [c] := by
  have hl : (P.1 p).length ≤ 1 := by
    rcases hp with z | z
    · rw [z]; exact h.2.1 0 (by omega)
    · rw [z]; exact h.2.1 1 (by omega)
  cases e : P.1 p with
  | nil => rw [e] at hc; cases hc
  | cons d r =>
    rw [e] at hl hc
    simp only [List.length_cons] at hl
    have : r = [] := List.length_eq_zero_iff.mp (by omega)
    subst this
    rw [List.mem_singleton] at hc
    rw [hc]
theorem Mt_on {P Q : Pos} (hP : KOk P) (hQ : KOk Q) (h : Mt P Q) {p c : Nat} (hc : c ∈ P.1 p) : onN Q c = onN P c ∧ hidB Q c = hidB P c := by
  obtain ⟨hp, h8⟩ := hP.1.place hc
  obtain ⟨k, hk, e⟩ := List.getElem_of_mem hc
  have hk2 : (P.1 p)[k]? = some c := by rw [List.getElem?_eq_getElem hk, e]
  by_cases p5 : p < 5
  · obtain ⟨q, hq, e1, e2⟩ := h.1 p p5 (fun y => by rw [y] at hc; cases hc)
    have hk3 : (Q.1 q)[k]? = some c := by rw [e1]; exact hk2
    refine ⟨?_, ?_⟩
    · rw [onN_in hP.1 hp k hk2, onN_in hQ.1 (by omega) k hk3, e1]
      have f1 : floorN p = 16 := by unfold floorN; rw [if_pos p5]
      have f2 : floorN q = 16 := by unfold floorN; rw [if_pos hq]
      rw [f1, f2]
    · rw [hidB_at hP.1 p5 hk2, hidB_at hQ.1 hq hk3, e1, e2]
  · by_cases p56 : p = 5 ∨ p = 6
    · obtain ⟨q, hq, hcq⟩ : ∃ q, (q = 5 ∨ q = 6) ∧ c ∈ Q.1 q := by
        have : c ∈ P.1 5 ∨ c ∈ P.1 6 := by
          rcases p56 with z | z
          · rw [z] at hc; exact Or.inl hc
          · rw [z] at hc; exact Or.inr hc
        rcases h.2.1 c this with y | y
        · exact ⟨5, Or.inl rfl, y⟩
        · exact ⟨6, Or.inr rfl, y⟩
      have o1 := cell_one hP p56 hc
      have o2 := cell_one hQ hq hcq
      refine ⟨?_, by rw [hidB_off hP.1 (by omega) hc, hidB_off hQ.1 (by omega) hcq]⟩
      rw [onN_in hP.1 hp 0 (by rw [o1]; rfl), onN_in hQ.1 (p := q) (by omega) 0 (by rw [o2]; rfl), o1, o2]
      have f1 : floorN p = 17 := by unfold floorN; rw [if_neg (by omega), if_pos (by omega)]
      have f2 : floorN q = 17 := by unfold floorN; rw [if_neg (by omega), if_pos (by omega)]
      rw [f1, f2]
    · have p79 : p = 7 ∨ p = 9 := by omega
      have e1 : Q.1 p = P.1 p := by
        rcases p79 with z | z
        · rw [z]; exact h.2.2.1
        · rw [z]; exact h.2.2.2
      have hk3 : (Q.1 p)[k]? = some c := by rw [e1]; exact hk2
      have hcq : c ∈ Q.1 p := by rw [e1]; exact hc
      exact ⟨by rw [onN_in hP.1 hp k hk2, onN_in hQ.1 hp k hk3, e1], by rw [hidB_off hP.1 (by omega) hc, hidB_off hQ.1 (by omega) hcq]⟩
theorem hidB_out {P : Pos} {c : Nat} (h : ∀ p, c ∉ P.1 p) : hidB P c = false := by
  unfold hidB
  rw [List.any_eq_false]
  intro q hq hc
  have hq2 : c ∈ (P.1 q).drop ((P.1 q).length - P.2.1 q) := by simpa using hc
  exact h q (List.mem_of_mem_drop hq2)
theorem Mt_all {P Q : Pos} (hP : KOk P) (hQ : KOk Q) (h : Mt P Q) (h' : Mt Q P) (c : Nat) : onN P c = onN Q c ∧ hidB P c = hidB Q c := by
  by_cases q : ∃ p, c ∈ P.1 p
  · obtain ⟨p, hp⟩ := q
    have := Mt_on hP hQ h hp
    exact ⟨this.1.symm, this.2.symm⟩
  · by_cases q2 : ∃ p, c ∈ Q.1 p
    · obtain ⟨p, hp⟩ := q2
      exact Mt_on hQ hP h' hp
    · have a : ∀ p, c ∉ P.1 p := fun p hp => q ⟨p, hp⟩
      have b : ∀ p, c ∉ Q.1 p := fun p hp => q2 ⟨p, hp⟩
      exact ⟨by rw [(onN_20 hP.1).mpr a, (onN_20 hQ.1).mpr b], by rw [hidB_out a, hidB_out b]⟩
/-- what lies in P from a card down lies in Q so too -/
theorem on_chain {P Q : Pos} (hP : PosOk P) (hQ : PosOk Q) (h : ∀ c, c < 16 → onN P c = onN Q c) {p : Nat} (hp : p < 10) (h8 : p ≠ 8) : ∀ (s v : List Nat), s ≠ [] → P.1 p = v ++ s → ∃ q u, q < 10 ∧ floorN q = floorN p ∧ Q.1 q = u ++ s
  | [], _, h1, _ => absurd rfl h1
  | [b], v, _, e => by
    have hk : (P.1 p)[v.length]? = some b := by rw [e]; simp
    have hk1 : (P.1 p)[v.length + 1]? = none := by rw [e]; simp
    have hb16 := hP.1 p b (List.mem_of_getElem? hk)
    have o1 := onN_in hP hp _ hk
    rw [hk1] at o1
    have o2 : onN Q b = floorN p := by rw [← h b hb16]; exact o1
    have hn : ¬ ∀ q, b ∉ Q.1 q := fun y => by
      rw [(onN_20 hQ).mpr y] at o2; exact floorN_ne h8 o2.symm
    simp only [Classical.not_forall, Classical.not_not] at hn
    obtain ⟨q, hq⟩ := hn
    obtain ⟨hq10, -⟩ := hQ.place hq
    obtain ⟨k, hkq, e2⟩ := List.getElem_of_mem hq
    have hk2 : (Q.1 q)[k]? = some b := by rw [List.getElem?_eq_getElem hkq, e2]
    have o3 := onN_in hQ hq10 k hk2
    cases hd : (Q.1 q)[k + 1]? with
    | some d =>
      rw [hd, o2] at o3
      have := hQ.1 q d (List.mem_of_getElem? hd)
      have := (floorN_ge p).1
      dsimp only at o3; omega
    | none =>
      rw [hd, o2] at o3
      rw [List.getElem?_eq_none_iff] at hd
      refine ⟨q, (Q.1 q).take k, hq10, o3.symm, ?_⟩
      have e3 : (Q.1 q).drop k = [b] := by
        rw [List.drop_eq_getElem_cons hkq, e2, List.drop_eq_nil_of_le hd]
      rw [← e3, List.take_append_drop]
  | c :: d :: t, v, _, e => by
    obtain ⟨q, u, hq, hf, eq⟩ := on_chain hP hQ h hp h8 (d :: t) (v ++ [c]) (by simp) (by rw [e]; simp)
    have hk : (P.1 p)[v.length]? = some c := by rw [e]; simp
    have hk1 : (P.1 p)[v.length + 1]? = some d := by rw [e, List.getElem?_append_right (by omega)]; simp
    have hc16 := hP.1 p c (List.mem_of_getElem? hk)
    have hd16 := hP.1 p d (List.mem_of_getElem? hk1)
    have o1 := onN_in hP hp _ hk
    rw [hk1] at o1
    have o2 : onN Q c = d := by rw [← h c hc16]; exact o1
    have hn : ¬ ∀ q, c ∉ Q.1 q := fun y => by
      rw [(onN_20 hQ).mpr y] at o2; omega
    simp only [Classical.not_forall, Classical.not_not] at hn
    obtain ⟨q2, hq2⟩ := hn
    obtain ⟨hq10, -⟩ := hQ.place hq2
    obtain ⟨k, hkq, e2⟩ := List.getElem_of_mem hq2
    have hk2 : (Q.1 q2)[k]? = some c := by rw [List.getElem?_eq_getElem hkq, e2]
    have o3 := onN_in hQ hq10 k hk2
    cases hd : (Q.1 q2)[k + 1]? with
    | none =>
      rw [hd, o2] at o3
      have := (floorN_ge q2).1
      dsimp only at o3; omega
    | some d2 =>
      rw [hd, o2] at o3
      dsimp only at o3
      subst o3
      have hdq : (Q.1 q)[u.length]? = some d := by rw [eq]; simp
      have eqq : q2 = q := hQ.2.2.1 q2 q d (List.mem_of_getElem? hd) (List.mem_of_getElem? hdq)
      subst eqq
      have ei := (List.getElem?_inj (List.getElem?_eq_some_iff.mp hd).1 (hQ.2.1 q2)).mp (hd.trans hdq.symm)
      refine ⟨q2, (Q.1 q2).take k, hq, hf, ?_⟩
      have e3 : (Q.1 q2).drop k = c :: d :: t := by
        rw [List.drop_eq_getElem_cons hkq, e2, ei]
        congr 1
        rw [eq]; simp
      rw [← e3, List.take_append_drop]
theorem on_list {P Q : Pos} (hP : PosOk P) (hQ : PosOk Q) (h : ∀ c, c < 16 → onN P c = onN Q c) {p : Nat} (hp : p < 10) (h8 : p ≠ 8) (hne : P.1 p ≠ []) : ∃ q, q < 10 ∧ floorN q = floorN p ∧ Q.1 q = P.1 p := by
  obtain ⟨q, u, hq, hf, e⟩ := on_chain hP hQ h hp h8 (P.1 p) [] hne rfl
  have hneq : Q.1 q ≠ [] := by rw [e]; intro y; rw [List.append_eq_nil_iff] at y; exact hne y.2
  have q8 : q ≠ 8 := fun y => hneq (hQ.2.2.2.1 q (Or.inr y))
  obtain ⟨p2, u2, hp2, hf2, e2⟩ := on_chain hQ hP (fun c hc => (h c hc).symm) hq q8 (Q.1 q) [] hneq rfl
  obtain ⟨c, l, ec⟩ : ∃ c l, P.1 p = c :: l := by
    cases ec : P.1 p with
    | nil => exact absurd ec hne
    | cons c l => exact ⟨c, l, rfl⟩
  have hc : c ∈ P.1 p := by rw [ec]; simp
  have hc2 : c ∈ P.1 p2 := by rw [e2, e]; simp [hc]
  have := hP.2.2.1 p2 p c hc2 hc
  subst this
  have hl := congrArg List.length e2
  rw [e] at hl
  simp only [List.length_append] at hl
  have hu : u = [] := List.length_eq_zero_iff.mp (by omega)
  refine ⟨q, hq, hf, ?_⟩
  rw [e, hu]; rfl
end
section
/-! ===== alike by the cards below: alike by sorted numbers ===== -/
theorem floor_kind {p q : Nat} (hp : p < 10) (hq : q < 10) (h : floorN q = floorN p) : (p < 5 ↔ q < 5) ∧ ((p = 5 ∨ p = 6) ↔ (q = 5 ∨ q = 6)) ∧ (p = 7 ↔ q = 7) ∧ (p = 8 ↔ q = 8) := by
  unfold floorN at h
  refine ⟨?_, ?_, ?_, ?_⟩ <;> (repeat' split at h) <;> omega
theorem on_Mt {P Q : Pos} (hP : PosOk P) (hQ : PosOk Q) (h : ∀ c, c < 16 → onN P c = onN Q c) (h2 : ∀ c, c < 16 → hidB P c = hidB Q c) : Mt P Q := by
  have one : ∀ p, p = 7 ∨ p = 9 → P.1 p ≠ [] → Q.1 p = P.1 p := by
    intro p hp hne
    obtain ⟨q, hq, hf, e⟩ := on_list hP hQ h (show p < 10 by omega) (by omega) hne
    have := floor_kind (show p < 10 by omega) hq hf
    have : q = p := by omega
    subst this; exact e
  have one' : ∀ p, p = 7 ∨ p = 9 → Q.1 p ≠ [] → P.1 p = Q.1 p := by
    intro p hp hne
    obtain ⟨q, hq, hf, e⟩ := on_list hQ hP (fun c hc => (h c hc).symm) (show p < 10 by omega) (by omega) hne
    have := floor_kind (show p < 10 by omega) hq hf
    have : q = p := by omega
    subst this; exact e
  have both : ∀ p, p = 7 ∨ p = 9 → Q.1 p = P.1 p := by
    intro p hp
    by_cases z : P.1 p = []
    · by_cases y : Q.1 p = []
      · rw [z, y]
      · exact (one' p hp y).symm
    · exact one p hp z
  refine ⟨?_, ?_, both 7 (Or.inl rfl), both 9 (Or.inr rfl)⟩
  · intro p hp hne
    obtain ⟨q, hq, hf, e⟩ := on_list hP hQ h (show p < 10 by omega) (by omega) hne
    have hq5 := (floor_kind (show p < 10 by omega) hq hf).1.mp hp
    refine ⟨q, hq5, e, ?_⟩
    have l1 := hid_lt hP hne
    have l2 := hid_lt hQ (f := q) (by rw [e]; exact hne)
    rw [e] at l2
    have key : ∀ k, k < (P.1 p).length → ((P.1 p).length - k ≤ P.2.1 p ↔ (P.1 p).length - k ≤ Q.2.1 q) := by
      intro k hk
      have hk1 : (P.1 p)[k]? = some (P.1 p)[k] := List.getElem?_eq_getElem hk
      have hk2 : (Q.1 q)[k]? = some (P.1 p)[k] := by rw [e]; exact hk1
      have a := hidB_at hP hp hk1
      have b := hidB_at hQ hq5 hk2
      rw [h2 _ (hP.1 p _ (List.getElem_mem hk)), b, e] at a
      exact (decide_eq_decide.mp a).symm
    rcases Nat.lt_trichotomy (P.2.1 p) (Q.2.1 q) with z | z | z
    · have := key ((P.1 p).length - Q.2.1 q) (by omega)
      omega
    · exact z.symm
    · have := key ((P.1 p).length - P.2.1 p) (by omega)
      omega
  · intro c hc
    have go : ∀ p, p = 5 ∨ p = 6 → c ∈ P.1 p → c ∈ Q.1 5 ∨ c ∈ Q.1 6 := by
      intro p hp hcp
      obtain ⟨q, hq, hf, e⟩ := on_list hP hQ h (show p < 10 by omega) (by omega) (fun y => by rw [y] at hcp; cases hcp)
      have h5 := (floor_kind (show p < 10 by omega) hq hf).2.1.mp hp
      rw [← e] at hcp
      rcases h5 with z | z
      · rw [z] at hcp; exact Or.inl hcp
      · rw [z] at hcp; exact Or.inr hcp
    rcases hc with y | y
    · exact go 5 (Or.inl rfl) y
    · exact go 6 (Or.inr rfl) y
def nek (x : Nat × Nat) : Bool := !decide (x = (0, 0))
theorem ckey_0 {P : Pos} (hP : KOk P) (p : Nat) : ckey P p = (0, 0) ↔ P.1 p = [] := by
  constructor
  · intro h
    have := congrArg Prod.snd h
    unfold ckey hgt at this
    dsimp only at this
    exact List.length_eq_zero_iff.mp (by omega)
  · intro h
    have := hP.1.2.2.2.2.1 p
    rw [h] at this
    unfold ckey hgt
    rw [h]
    simp only [List.length_nil, Nat.not_lt_zero, or_false] at this
    rw [this]; rfl
theorem ckey_inj {P Q : Pos} (hP : KOk P) (hQ : KOk Q) {p q : Nat} (h : ckey P p = ckey Q q) : P.1 p = Q.1 q ∧ P.2.1 p = Q.2.1 q := by
  have h1 := congrArg Prod.fst h
  have h2 := congrArg Prod.snd h
  unfold ckey hgt at h1 h2
  dsimp only at h1 h2
  have l1 := hP.1.len p
  have l2 := hQ.1.len q
  exact ⟨pkT_inj (hP.1.1 p) (hQ.1.1 q) (by omega) h1, by omega⟩
theorem nek_nodup {P : Pos} (hP : KOk P) (N : Nat) : ((APl P N).filter nek).Nodup := by
  unfold APl
  rw [List.filter_map]
  unfold List.Nodup
  rw [List.pairwise_map]
  refine List.Pairwise.imp_of_mem ?_ ((List.pairwise_lt_range (n := N)).filter _)
  intro a b ha hb hab y
  have h1 := (List.mem_filter.mp ha).2
  obtain ⟨e, -⟩ := ckey_inj hP hP y
  have hne : P.1 a ≠ [] := fun z => by
    rw [← ckey_0 hP a] at z
    simp [nek, z] at h1
  obtain ⟨c, l, ec⟩ : ∃ c l, P.1 a = c :: l := by
    cases ec : P.1 a with
    | nil => exact absurd ec hne
    | cons c l => exact ⟨c, l, rfl⟩
  have := hP.1.2.2.1 a b c (by rw [ec]; simp) (by rw [← e, ec]; simp)
  omega
theorem Mt_sub {P Q : Pos} (hP : KOk P) (hQ : KOk Q) (h : Mt P Q) {N : Nat} (hN : N ≤ 5) (hcol : ∀ p, p < 5 → N ≤ p → Q.1 p = []) {x : Nat × Nat} (hx : x ∈ (APl P N).filter nek) : x ∈ (APl Q N).filter nek := by
  rw [List.mem_filter] at hx ⊢
  obtain ⟨hx, hn⟩ := hx
  refine ⟨?_, hn⟩
  unfold APl at hx ⊢
  rw [List.mem_map] at hx ⊢
  obtain ⟨p, hp, rfl⟩ := hx
  have hp2 : p < N := by simpa using hp
  have hne : P.1 p ≠ [] := fun z => by
    rw [← ckey_0 hP p] at z
    simp [nek, z] at hn
  obtain ⟨q, hq, e1, e2⟩ := h.1 p (by omega) hne
  refine ⟨q, ?_, by unfold ckey hgt; rw [e1, e2]⟩
  have : q < N := by
    rcases Nat.lt_or_ge q N with z | z
    · exact z
    · have := hcol q hq z
      rw [e1] at this
      exact absurd this hne
  simpa using this
theorem Mt_perm {P Q : Pos} (hP : KOk P) (hQ : KOk Q) (h : Mt P Q) (h' : Mt Q P) {N : Nat} (hN : N ≤ 5) (hcolP : ∀ p, p < 5 → N ≤ p → P.1 p = []) (hcolQ : ∀ p, p < 5 → N ≤ p → Q.1 p = []) : (APl P N).Perm (APl Q N) := by
  have h1 : ((APl P N).filter nek).Perm ((APl Q N).filter nek) := by
    rw [List.perm_ext_iff_of_nodup (nek_nodup hP N) (nek_nodup hQ N)]
    exact fun x => ⟨fun hx => Mt_sub hP hQ h hN hcolQ hx, fun hx => Mt_sub hQ hP h' hN hcolP hx⟩
  have rep : ∀ l : List (Nat × Nat), l.filter (fun x => !nek x) = List.replicate (l.filter (fun x => !nek x)).length (0, 0) := by
    intro l
    apply List.eq_replicate_of_mem
    intro b hb
    have := (List.mem_filter.mp hb).2
    simpa [nek] using this
  have lP := (List.filter_append_perm nek (APl P N)).length_eq
  have lQ := (List.filter_append_perm nek (APl Q N)).length_eq
  have l1 := h1.length_eq
  simp only [List.length_append] at lP lQ
  have eP : (APl P N).length = N := by unfold APl; simp
  have eQ : (APl Q N).length = N := by unfold APl; simp
  have h2 : (APl P N).filter (fun x => !nek x) = (APl Q N).filter (fun x => !nek x) := by
    rw [rep (APl P N), rep (APl Q N), show ((APl P N).filter (fun x => !nek x)).length = ((APl Q N).filter (fun x => !nek x)).length by omega]
  refine ((List.filter_append_perm nek (APl P N)).symm.trans ?_).trans (List.filter_append_perm nek (APl Q N))
  rw [h2]
  exact h1.append_right _
end
section
/-! ===== alike by the cards below is alike by sorted numbers ===== -/
theorem cell_top {P : Pos} (h : KOk P) {p : Nat} (hp : p = 5 ∨ p = 6) (c : Nat) : c ∈ P.1 p ↔ topN (P.1 p) = c + 1 := by
  constructor
  · intro hc; rw [cell_one h hp hc]; rfl
  · intro e
    cases e2 : P.1 p with
    | nil => rw [e2] at e; cases e
    | cons d r =>
      rw [e2] at e
      have : d + 1 = c + 1 := e
      have : d = c := by omega
      subst this; simp
theorem bot_inj {l m : List Nat} (hl : l.length ≤ 8) (hn : l.length = m.length) (h : ∀ i, i < 8 → botN l i = botN m i) : l = m := by
  apply List.ext_getElem hn
  intro i h1 h2
  have a := h (l.length - 1 - i) (by omega)
  unfold botN at a
  rw [if_pos (by omega), if_pos (by omega), show l.length - 1 - (l.length - 1 - i) = i by omega, show m.length - 1 - (l.length - 1 - i) = i by omega, List.getD_eq_getElem?_getD, List.getD_eq_getElem?_getD, List.getElem?_eq_getElem h1, List.getElem?_eq_getElem h2] at a
  exact a
theorem w6_top (P : Pos) (h : KOk P) : w6 P 4 / 2 ^ 10 = P.2.2.2 + (P.1 7).length * 4 + (P.1 9).length * 64 + sumB 3 P.2.2.1 4 * 1024 := by
  have t5 := topN_lt h 5
  have t6 := topN_lt h 6
  unfold w6
  generalize sumB 3 P.2.2.1 4 = S
  generalize topN (P.1 5) = a at t5 ⊢
  generalize topN (P.1 6) = b at t6 ⊢
  simp only [show (2 : Nat) ^ 5 = 32 by decide, show (2 : Nat) ^ 10 = 1024 by decide, show (2 : Nat) ^ 12 = 4096 by decide, show (2 : Nat) ^ 16 = 65536 by decide, show (2 : Nat) ^ 20 = 1048576 by decide]
  omega
def mnN (P : Pos) : Nat := if topN (P.1 6) ≤ topN (P.1 5) then topN (P.1 6) else topN (P.1 5)
def mxN (P : Pos) : Nat := if topN (P.1 6) ≤ topN (P.1 5) then topN (P.1 5) else topN (P.1 6)
theorem w6s_eq (P : Pos) : w6s P = mnN P + mxN P * 32 + w6 P 4 / 2 ^ 10 * 1024 := rfl
theorem mn_lt {P : Pos} (h : KOk P) : mnN P < 32 ∧ mxN P < 32 := by
  have t5 := topN_lt h 5
  have t6 := topN_lt h 6
  unfold mnN mxN
  split <;> omega
theorem w6s_lt {P : Pos} (h : KOk P) : w6s P < 2 ^ 64 := by
  have h1 := mn_lt h
  have h2 := h.2.2.2
  have h3 : sumB 3 P.2.2.1 4 < 4096 := sumB_lt (b := 3) (d := P.2.2.1) (k := 4) (fun i _ => h.2.2.1 i)
  rw [w6s_eq, w6_top P h]
  omega
theorem w7_lt {P : Pos} (h : KOk P) : w7 P 8 < 2 ^ 64 := by rw [← keyL_7]; exact keyL_lt h 7
theorem w6s_iff {P Q : Pos} (hP : KOk P) (hQ : KOk Q) : w6s P = w6s Q ↔ (mnN P = mnN Q ∧ mxN P = mxN Q ∧ P.2.2.2 = Q.2.2.2 ∧ (P.1 7).length = (Q.1 7).length ∧ (P.1 9).length = (Q.1 9).length ∧ sumB 3 P.2.2.1 4 = sumB 3 Q.2.2.1 4) := by
  have h1 := mn_lt hP
  have h2 := mn_lt hQ
  have h3 := hP.2.2.2
  have h4 := hQ.2.2.2
  rw [w6s_eq, w6s_eq, w6_top P hP, w6_top Q hQ]
  generalize sumB 3 P.2.2.1 4 = S
  generalize sumB 3 Q.2.2.1 4 = S'
  generalize mnN P = a at h1 ⊢
  generalize mxN P = b at h1 ⊢
  generalize mnN Q = a' at h2 ⊢
  generalize mxN Q = b' at h2 ⊢
  generalize P.2.2.2 = t at h3 ⊢
  generalize Q.2.2.2 = t' at h4 ⊢
  generalize (P.1 7).length = d at h3 ⊢
  generalize (Q.1 7).length = d' at h4 ⊢
  generalize (P.1 9).length = e at h3 ⊢
  generalize (Q.1 9).length = e' at h4 ⊢
  constructor
  · intro h
    have g1 : a = a' := by omega
    subst g1
    have g2 : b = b' := by omega
    subst g2
    have g3 : t + d * 4 + e * 64 + S * 1024 = t' + d' * 4 + e' * 64 + S' * 1024 := by omega
    have g4 : t = t' := by omega
    subst g4
    have g5 : d = d' := by omega
    subst g5
    have g6 : e = e' := by omega
    subst g6
    exact ⟨rfl, rfl, rfl, rfl, rfl, by omega⟩
  · rintro ⟨rfl, rfl, rfl, rfl, rfl, rfl⟩; rfl
theorem cells_sub {P Q : Pos} (hP : KOk P) (hQ : KOk Q) (h1 : mnN P = mnN Q) (h2 : mxN P = mxN Q) (c : Nat) (hc : c ∈ P.1 5 ∨ c ∈ P.1 6) : c ∈ Q.1 5 ∨ c ∈ Q.1 6 := by
  rw [cell_top hP (Or.inl rfl), cell_top hP (Or.inr rfl)] at hc
  rw [cell_top hQ (Or.inl rfl), cell_top hQ (Or.inr rfl)]
  unfold mnN at h1
  unfold mxN at h2
  by_cases z1 : topN (P.1 6) ≤ topN (P.1 5) <;> by_cases z2 : topN (Q.1 6) ≤ topN (Q.1 5) <;> simp only [z1, z2, if_true, if_false] at h1 h2 <;> omega
theorem cells_mn {P Q : Pos} (hP : KOk P) (hQ : KOk Q) (h : ∀ c, (c ∈ P.1 5 ∨ c ∈ P.1 6) ↔ (c ∈ Q.1 5 ∨ c ∈ Q.1 6)) : mnN P = mnN Q ∧ mxN P = mxN Q := by
  have d : ∀ P : Pos, KOk P → topN (P.1 5) = topN (P.1 6) → topN (P.1 5) = 0 := by
    intro P hP e
    rcases Nat.eq_zero_or_pos (topN (P.1 5)) with z | z
    · exact z
    · have a := (cell_top hP (p := 5) (Or.inl rfl) (topN (P.1 5) - 1)).mpr (by omega)
      have b := (cell_top hP (p := 6) (Or.inr rfl) (topN (P.1 5) - 1)).mpr (by omega)
      have := hP.1.2.2.1 5 6 _ a b
      omega
  have dP := d P hP
  have dQ := d Q hQ
  have t : ∀ c, (topN (P.1 5) = c + 1 ∨ topN (P.1 6) = c + 1) ↔ (topN (Q.1 5) = c + 1 ∨ topN (Q.1 6) = c + 1) := fun c => by
    rw [← cell_top hP (Or.inl rfl), ← cell_top hP (Or.inr rfl), ← cell_top hQ (Or.inl rfl), ← cell_top hQ (Or.inr rfl)]; exact h c
  have t1 := t (topN (P.1 5) - 1)
  have t2 := t (topN (P.1 6) - 1)
  have t3 := t (topN (Q.1 5) - 1)
  have t4 := t (topN (Q.1 6) - 1)
  unfold mnN mxN
  generalize topN (P.1 5) = a at *
  generalize topN (P.1 6) = b at *
  generalize topN (Q.1 5) = e at *
  generalize topN (Q.1 6) = f at *
  by_cases z1 : b ≤ a <;> by_cases z2 : f ≤ e <;> simp only [z1, z2, if_true, if_false] <;> omega
theorem up_same {R : Nat → Nat} (hR : RulesOk R) {P Q : Pos} (wP : WF R P) (wQ : WF R Q) (h : ∀ c, c < 16 → onN P c = onN Q c) (s : Nat) : P.2.2.1 s = Q.2.2.1 s := by
  have hR2 := hR
  unfold RulesOk at hR2
  have half : ∀ {P Q : Pos}, WF R P → WF R Q → (∀ c, c < 16 → onN P c = onN Q c) → ¬ P.2.2.1 s < Q.2.2.1 s := by
    intro P Q wP wQ h hlt
    have u1 := wQ.2.2.2.2.2.1 s
    have hs : s < R 0 := by
      rcases Nat.lt_or_ge s (R 0) with z | z
      · exact z
      · have := wQ.2.2.2.2.2.2.1 s z; omega
    have hd : (s * R 1 + P.2.2.1 s) / R 1 = s := by
      rw [Nat.mul_comm, Nat.mul_add_div (by omega), Nat.div_eq_of_lt (by omega), Nat.add_zero]
    have hm : (s * R 1 + P.2.2.1 s) % R 1 = P.2.2.1 s := by
      rw [Nat.mul_comm, Nat.mul_add_mod, Nat.mod_eq_of_lt (by omega)]
    have hc : s * R 1 + P.2.2.1 s < R 0 * R 1 := by
      have : (s + 1) * R 1 ≤ R 0 * R 1 := Nat.mul_le_mul_right _ hs
      rw [Nat.add_mul] at this
      omega
    have a := wP.on20 hc
    have b := wQ.on20 hc
    rw [hd, hm] at a b
    rw [h _ (by omega)] at a
    have := a.mp (b.mpr hlt)
    omega
  have h1 := half wP wQ h
  have h2 := half wQ wP (fun c hc => (h c hc).symm)
  omega
theorem SK_same {R : Nat → Nat} (hR : RulesOk R) {P Q : Pos} (wP : WF R P) (wQ : WF R Q) {f g : Nat → Int64} (hf : SK P (R 2) f) (hg : SK Q (R 2) g) : (∀ i, i < 8 → f i = g i) ↔ sameB P Q = true := by
  have hR2 := hR
  unfold RulesOk at hR2
  have hP := wP.kok hR
  have hQ := wQ.kok hR
  have hp := SK_perm hP hQ (show R 2 ≤ 5 by omega) hf hg
  have hk : sameB P Q = true ↔ keyC P Q := by unfold sameB keyC; exact decide_eq_true_iff
  rw [hk, keyC_iff wP.1 wQ.1]
  constructor
  · intro h
    have perm := hp.mp (fun i hi => h i (by omega))
    have e6 := (w6s_iff hP hQ).mp (lN_inj64 (w6s_lt hP) (w6s_lt hQ) (by rw [← hf.2.2.2.1, ← hg.2.2.2.1]; exact h 6 (by omega)))
    have e7 : w7 P 8 = w7 Q 8 := lN_inj64 (w7_lt hP) (w7_lt hQ) (by rw [← hf.2.2.2.2, ← hg.2.2.2.2]; exact h 7 (by omega))
    have l8 := hP.2.2.2.1
    have s7 : P.1 7 = Q.1 7 := bot_inj (by omega) e6.2.2.2.1 (fun i hi => by rw [← w7_lo hP hi, ← w7_lo hQ hi, e7])
    have s9 : P.1 9 = Q.1 9 := bot_inj (by omega) e6.2.2.2.2.1 (fun i hi => by rw [← w7_hi hP hi, ← w7_hi hQ hi, e7])
    have cols : ∀ {P Q : Pos}, KOk P → KOk Q → WF R P → (APl P (R 2)).Perm (APl Q (R 2)) → ∀ p, p < 5 → P.1 p ≠ [] → ∃ q, q < 5 ∧ Q.1 q = P.1 p ∧ Q.2.1 q = P.2.1 p := by
      intro P Q hP hQ wP perm p hp hne
      have hpN : p < R 2 := by
        rcases Nat.lt_or_ge p (R 2) with z | z
        · exact z
        · exact absurd (wP.2.1 p hp z) hne
      have hm : ckey P p ∈ APl P (R 2) := by unfold APl; rw [List.mem_map]; exact ⟨p, by simpa using hpN, rfl⟩
      have hm2 := perm.mem_iff.mp hm
      unfold APl at hm2
      rw [List.mem_map] at hm2
      obtain ⟨q, hq, e⟩ := hm2
      have hq2 : q < R 2 := by simpa using hq
      have := ckey_inj hQ hP e
      exact ⟨q, by omega, this.1, this.2⟩
    have m1 : Mt P Q := ⟨cols hP hQ wP perm, cells_sub hP hQ e6.1 e6.2.1, s7.symm, s9.symm⟩
    have m2 : Mt Q P := ⟨cols hQ hP wQ perm.symm, cells_sub hQ hP e6.1.symm e6.2.1.symm, s7, s9⟩
    exact ⟨fun c _ => (Mt_all hP hQ m1 m2 c).1, fun c _ => (Mt_all hP hQ m1 m2 c).2, e6.2.2.1⟩
  · rintro ⟨h1, h2, h3⟩
    have m1 := on_Mt wP.1 wQ.1 h1 h2
    have m2 := on_Mt wQ.1 wP.1 (fun c hc => (h1 c hc).symm) (fun c hc => (h2 c hc).symm)
    have perm := Mt_perm hP hQ m1 m2 (show R 2 ≤ 5 by omega) wP.2.1 wQ.2.1
    have c1 := hp.mpr perm
    have mm := cells_mn hP hQ (fun c => ⟨m1.2.1 c, m2.2.1 c⟩)
    have es : sumB 3 P.2.2.1 4 = sumB 3 Q.2.2.1 4 := sumB_congr (fun i _ => up_same hR wP wQ h1 i)
    have e6 : w6s P = w6s Q := (w6s_iff hP hQ).mpr ⟨mm.1, mm.2, h3, by rw [m1.2.2.1], by rw [m1.2.2.2], es⟩
    have e7 : w7 P 8 = w7 Q 8 := by unfold w7; rw [m1.2.2.1, m1.2.2.2]
    intro i hi
    rcases Nat.lt_or_ge i 6 with z | z
    · exact c1 i z
    · have : i = 6 ∨ i = 7 := by omega
      rcases this with y | y
      · rw [y, hf.2.2.2.1, hg.2.2.2.1, e6]
      · rw [y, hf.2.2.2.2, hg.2.2.2.2, e7]
end
section
/-! ===== the second reading: positions known ===== -/
def MK (R : Nat → Nat) (I : Nat → Nat → Int32) (L : Nat → Nat → Int64) (KP : List Pos) : Prop := I 0 29 = nI KP.length ∧ ∀ i P, KP[i]? = some P → (∀ j, j < 8 → L 3 (8 * i + j) = lN (keyL P j)) ∧ SK P (R 2) (fun j => L 4 (8 * i + j)) ∧ WF R P
theorem m_known29 {I : Nat → Nat → Int32} {L : Nat → Nat → Int64} {K i : Nat} (h29 : I 0 29 = nI K) (hK : K ≤ 401) (hi : i < K) (K17 : (Nat → Nat → Int64) → Int32 → Option (Int32 × (Nat → Nat → Int64))) :
    ∀ (j k n : Nat) (b : Bool), k + j = 8 → j < n → F_X6_isKnown_L29 I K17 n L (nI i) (bi b) (nI k) = F_X6_isKnown_b80 I K17 L (nI i) (bi (b && (List.range' k j).all (fun j => decide (L 4 (8 * i + j) = L 4 (8 * K + j))))) := by
  have e0 : ∀ x y : Int64, (lg_cmp x y = nI 0) ↔ x = y := fun x y => lg_cmp_eq x y
  intro j
  induction j with
  | zero =>
    intro k n b hk hn
    obtain ⟨n, rfl⟩ : ∃ q, n = q + 1 := ⟨n - 1, by omega⟩
    show F_X6_isKnown_s29 I K17 (F_X6_isKnown_L29 I K17 n) _ _ _ _ = _
    unfold F_X6_isKnown_s29
    rw [if_pos (nI_le (by omega) (by omega))]
    simp
  | succ j ih =>
    intro k n b hk hn
    obtain ⟨n, rfl⟩ : ∃ q, n = q + 1 := ⟨n - 1, by omega⟩
    show F_X6_isKnown_s29 I K17 (F_X6_isKnown_L29 I K17 n) _ _ _ _ = _
    unfold F_X6_isKnown_s29
    have e : (List.range' k (j + 1)).all (fun j => decide (L 4 (8 * i + j) = L 4 (8 * K + j))) = (decide (L 4 (8 * i + k) = L 4 (8 * K + k)) && (List.range' (k + 1) j).all (fun j => decide (L 4 (8 * i + j) = L 4 (8 * K + j)))) := rfl
    rw [if_neg (nI_ge (by omega) (by omega)), e]
    cases b with
    | false => rw [if_pos (show bi false = nI 0 from rfl)]; rfl
    | true =>
      have i0 := ih (k + 1) n false (by omega) (by omega)
      have i1 := ih (k + 1) n true (by omega) (by omega)
      rw [if_neg (by rw [bi_eq0]; decide), pk_mul, nI_add, rdA_n _ (by omega) (by omega), h29, pk_mul, nI_add, rdA_n _ (by omega) (by omega), nI_add]
      by_cases q : L 4 (8 * i + k) = L 4 (8 * K + k)
      · rw [if_pos ((e0 _ _).mpr q), decide_eq_true q, Bool.true_and]; exact i1
      · rw [if_neg (fun y => q ((e0 _ _).mp y)), decide_eq_false q, Bool.false_and]; exact i0
theorem m_known17 {R : Nat → Nat} (hR : RulesOk R) {I : Nat → Nat → Int32} {L : Nat → Nat → Int64} {KP : List Pos} {C : Pos} (wC : WF R C) (h : MK R I L KP) (hK : KP.length ≤ 401) (hC : SK C (R 2) (fun j => L 4 (8 * KP.length + j))) :
    ∀ (j k n : Nat), k + j = KP.length → j < n → F_X6_isKnown_L17 I n L (nI k) = some (bi ((KP.drop k).any (fun P => sameB P C)), L) := by
  intro j
  induction j with
  | zero =>
    intro k n hk hn
    obtain ⟨n, rfl⟩ : ∃ q, n = q + 1 := ⟨n - 1, by omega⟩
    show F_X6_isKnown_s17 I (F_X6_isKnown_L17 I n) _ _ = _
    unfold F_X6_isKnown_s17
    rw [h.1, if_pos (nI_le (by omega) (by omega)), zb0, List.drop_eq_nil_of_le (by omega)]; rfl
  | succ j ih =>
    intro k n hk hn
    obtain ⟨n, rfl⟩ : ∃ q, n = q + 1 := ⟨n - 1, by omega⟩
    have hlt : k < KP.length := by omega
    have hk2 : KP[k]? = some KP[k] := List.getElem?_eq_getElem hlt
    obtain ⟨-, hs, w⟩ := h.2 k _ hk2
    have hsame := SK_same hR w wC hs hC
    show F_X6_isKnown_s17 I (F_X6_isKnown_L17 I n) _ _ = _
    unfold F_X6_isKnown_s17
    rw [h.1, if_neg (nI_ge (by omega) (by omega)), show (nI 1 : Int32) = bi true from rfl, show (nI 0 : Int32) = nI 0 from rfl, m_known29 h.1 hK hlt (F_X6_isKnown_L17 I n) 8 0 FU true (by omega) (FU_gt (by omega))]
    have e : ((List.range' 0 8).all (fun j => decide (L 4 (8 * k + j) = L 4 (8 * KP.length + j)))) = sameB KP[k] C := by
      rw [Bool.eq_iff_iff, ← hsame, List.all_eq_true]
      constructor
      · intro y i hi
        have := y i (by rw [List.mem_range'_1]; omega)
        simpa using this
      · intro y i hi
        rw [List.mem_range'_1] at hi
        simpa using y i (by omega)
    rw [Bool.true_and, e, List.drop_eq_getElem_cons hlt, List.any_cons]
    unfold F_X6_isKnown_b80
    rw [bi_if]
    cases z : sameB KP[k] C with
    | true => rw [if_pos rfl, zb1]; rfl
    | false => rw [if_neg (by decide), nI_add, ih (k + 1) n (by omega) (by omega), Bool.false_or]
theorem SK.cong {P : Pos} {N : Nat} (hN : N ≤ 5) {f g : Nat → Int64} (h : SK P N f) (e : ∀ j, j < 8 → g j = f j) : SK P N g :=
  ⟨fun p hp => by have := rk_lt (P := P) hp; rw [e _ (by omega)]; exact h.1 p hp, fun i h1 h2 => by rw [e _ (by omega)]; exact h.2.1 i h1 h2, by rw [e _ (by omega)]; exact h.2.2.1, by rw [e _ (by omega)]; exact h.2.2.2.1, by rw [e _ (by omega)]; exact h.2.2.2.2⟩
theorem MK.sf {R : Nat → Nat} (hR : RulesOk R) {I : Nat → Nat → Int32} {L L2 : Nat → Nat → Int64} {KP : List Pos} (h : MK R I L KP) (hs : SF L L2 4 (8 * KP.length)) : MK R I L2 KP := by
  unfold RulesOk at hR
  refine ⟨h.1, fun i P hi => ?_⟩
  obtain ⟨a, b, c⟩ := h.2 i P hi
  have hlt : i < KP.length := (List.getElem?_eq_some_iff.mp hi).1
  exact ⟨fun j hj => by rw [hs 3 _ (by omega) (by omega)]; exact a j hj, b.cong (by omega) (fun j hj => hs 4 _ (by omega) (by omega)), c⟩
theorem m_isKnown {R : Nat → Nat} {I : Nat → Nat → Int32} {L : Nat → Nat → Int64} {KP : List Pos} {C : Pos} (hr : RR (I 1) R) (hC : MRep I L C) (wC : WF R C) (h : MK R I L KP) (hK : KP.length ≤ 401) :
    ∃ L2, F_X6_isKnown I L = some (bi (knownB KP C), L2) ∧ SF L L2 4 (8 * KP.length) ∧ SK C (R 2) (fun j => L2 4 (8 * KP.length + j)) := by
  unfold F_X6_isKnown
  rw [h.1, pk_mul]
  obtain ⟨L2, e1, e2, e3⟩ := m_sort (cc := 4) (nn := 3216) (o := 8 * KP.length) hr hC wC (by omega) (by omega) (by omega) (by omega)
  rw [e1, cal1_s]
  refine ⟨L2, ?_, e2, e3⟩
  have := m_known17 hr.2 wC (h.sf hr.2 e2) hK e3 KP.length 0 FU (by omega) (FU_gt (by omega))
  rw [List.drop_zero] at this
  exact this
theorem MK.push {R : Nat → Nat} (hR : RulesOk R) {I I2 : Nat → Nat → Int32} {L L2 : Nat → Nat → Int64} {KP : List Pos} {C : Pos} (h : MK R I L KP) (wC : WF R C) (hs : SI C L L2 3 (8 * KP.length) 8) (h4 : SK C (R 2) (fun j => L 4 (8 * KP.length + j))) (h29 : I2 0 29 = nI (KP.length + 1)) : MK R I2 L2 (KP ++ [C]) := by
  unfold RulesOk at hR
  refine ⟨by rw [h29]; simp, fun i P hi => ?_⟩
  rcases Nat.lt_or_ge i KP.length with z | z
  · rw [List.getElem?_append_left z] at hi
    obtain ⟨a, b, c⟩ := h.2 i P hi
    exact ⟨fun j hj => by rw [hs.2 3 _ (by omega)]; exact a j hj, b.cong (by omega) (fun j hj => hs.2 4 _ (by omega)), c⟩
  · rw [List.getElem?_append_right z] at hi
    have : i - KP.length = 0 := by
      have := (List.getElem?_eq_some_iff.mp hi).1
      simp only [List.length_cons, List.length_nil] at this; omega
    rw [this] at hi
    simp only [List.getElem?_cons_zero, Option.some.injEq] at hi
    subst hi
    have e : i = KP.length := by omega
    subst e
    exact ⟨hs.1, h4.cong (by omega) (fun j hj => hs.2 4 _ (by omega)), wC⟩
end
section
/-! ===== the second reading: a position learnt ===== -/
def FrM (I I' : Nat → Nat → Int32) : Prop := (∀ a, 10 ≤ a ∨ a = 1 ∨ a = 2 → I' a = I a) ∧ ∀ j, j ≠ 21 → j ≠ 23 → j ≠ 24 → j ≠ 29 → I' 0 j = I 0 j
def FrLM (L L' : Nat → Nat → Int64) : Prop := L' 1 = L 1 ∧ L' 2 = L 2
theorem FrI.m {I I' : Nat → Nat → Int32} (h : FrI I I') : FrM I I' := ⟨h.1, fun j a b c _ => h.2 j a b c⟩
theorem FrL.m {L L' : Nat → Nat → Int64} (h : FrL L L') : FrLM L L' := ⟨h 1 (by omega), h 2 (by omega)⟩
theorem FrM.trans {I I' I'' : Nat → Nat → Int32} (h : FrM I I') (h2 : FrM I' I'') : FrM I I'' := ⟨fun a ha => (h2.1 a ha).trans (h.1 a ha), fun j a b c d => (h2.2 j a b c d).trans (h.2 j a b c d)⟩
theorem FrLM.trans {L L' L'' : Nat → Nat → Int64} (h : FrLM L L') (h2 : FrLM L' L'') : FrLM L L'' := ⟨h2.1.trans h.1, h2.2.trans h.2⟩
theorem FrM.refl (I : Nat → Nat → Int32) : FrM I I := ⟨fun _ _ => rfl, fun _ _ _ _ _ => rfl⟩
theorem FrLM.refl (L : Nat → Nat → Int64) : FrLM L L := ⟨rfl, rfl⟩
theorem SF.m {L L' : Nat → Nat → Int64} {cc o : Nat} (h : SF L L' cc o) (h1 : cc ≠ 1) (h2 : cc ≠ 2) : FrLM L L' := ⟨funext fun j => h 1 j (by omega) (fun y => h1 y.1.symm), funext fun j => h 2 j (by omega) (fun y => h2 y.1.symm)⟩
theorem SI.m {P : Pos} {L L' : Nat → Nat → Int64} {cc o : Nat} (h : SI P L L' cc o 8) (h1 : cc ≠ 1) (h2 : cc ≠ 2) : FrLM L L' := ⟨funext fun j => h.2 1 j (fun y => h1 y.1.symm), funext fun j => h.2 2 j (fun y => h2 y.1.symm)⟩
theorem MK.fr {R : Nat → Nat} {I I' : Nat → Nat → Int32} {L L' : Nat → Nat → Int64} {KP : List Pos} (h : MK R I L KP) (hI : FrI I I') (hL : FrL L L') : MK R I' L' KP :=
  ⟨by rw [hI.2 29 (by omega) (by omega) (by omega)]; exact h.1, fun i P hi => by
    rw [hL 3 (by omega), hL 4 (by omega)]; exact h.2 i P hi⟩
theorem m_learn76 {R : Nat → Nat} (hR : RulesOk R) {I : Nat → Nat → Int32} {L : Nat → Nat → Int64} {KP : List Pos} {P : Pos} {k : Nat} (h : MK R I L KP) (hk : KP[k]? = some P) (hK : KP.length ≤ 401) (v6 : Int32) :
    ∃ I' L', F_X6_learn_b76 I L (nI k) v6 = some (v6, I', L') ∧ MRep I' L' P ∧ MK R I' L' KP ∧ FrI I I' ∧ FrL L L' := by
  obtain ⟨a, -, w⟩ := h.2 k P hk
  have hlt : k < KP.length := (List.getElem?_eq_some_iff.mp hk).1
  unfold F_X6_learn_b76
  rw [pk_mul]
  obtain ⟨I', L', e1, e2, e3, e4⟩ := m_load (I := I) (cc := 3) (nn := 3216) (o := 8 * k) (w.kok hR) (by omega) (by omega) (by omega) a
  rw [e1, cal2_s]
  exact ⟨I', L', rfl, e2, h.fr e3 e4, e3, e4⟩
/-- what comes of one move: 0 go on, 1 won, 2 too many; and the positions known -/
def learnA (R : Nat → Nat) (b : Nat) (C : Pos) (KP : List Pos) : Nat × List Pos :=
  if knownB KP C = true then (0, KP) else if KP.length < b then (if wonB R C = true then 1 else 0, KP ++ [C]) else (2, KP)
theorem m_learn {R : Nat → Nat} {I : Nat → Nat → Int32} {L : Nat → Nat → Int64} {KP : List Pos} {P : Pos} {k f t n b : Nat} (hr : RR (I 1) R) (hP : MRep I L P) (wP : WF R P) (h : MK R I L KP) (hk : KP[k]? = some P) (hb : KP.length ≤ b) (hb4 : b ≤ 400)
    (ht : t < 9) (hn : 1 ≤ n) (hn16 : n ≤ 16) (h1 : n = 1 ∨ (f < 5 ∧ t < 5)) (hl : legal R P f t n = true) :
    ∃ I' L', F_X6_learn I L (nI k) (nI f) (nI t) (nI n) (nI b) = some (nI (learnA R b (playP R P f t n) KP).1, I', L') ∧ MRep I' L' P ∧ MK R I' L' (learnA R b (playP R P f t n) KP).2 ∧ FrM I I' ∧ FrLM L L' := by
  have wC := wf_play wP hr.2 hn h1 hl
  obtain ⟨I1, L1, a1, a2, a3, a4⟩ := m_play hP wP hr ht hn hn16 h1 hl
  have hr1 : RR (I1 1) R := by rw [a3.1 1 (by omega)]; exact hr
  have hK1 := h.fr a3 a4
  obtain ⟨L2, b1, b2, b3⟩ := m_isKnown hr1 a2 wC hK1 (by omega)
  have hK2 := hK1.sf hr.2 b2
  have hC2 : MRep I1 L2 (playP R P f t n) := a2.atL (funext fun j => b2 0 j (by omega) (by omega))
  have fm := a4.m.trans (b2.m (by omega) (by omega))
  unfold F_X6_learn learnA
  rw [a1, cal2_s, b1, cal2_s, bi_if]
  generalize playP R P f t n = C at *
  cases z : knownB KP C with
  | true =>
    rw [if_pos (show true = true from rfl), if_pos (show true = true from rfl)]
    obtain ⟨I', L', e1, e2, e3, e4, e5⟩ := m_learn76 hr.2 hK2 hk (by omega) (nI 0)
    exact ⟨I', L', e1, e2, e3, a3.m.trans e4.m, fm.trans e5.m⟩
  | false =>
    rw [if_neg (show ¬ false = true by decide), if_neg (show ¬ false = true by decide), hK1.1]
    by_cases q : KP.length < b
    · have b43 : ∀ v, v < 2 → ∃ I' L', F_X6_learn_b43 I1 L2 (nI k) (nI v) = some (nI v, I', L') ∧ MRep I' L' P ∧ MK R I' L' (KP ++ [C]) ∧ FrM I I' ∧ FrLM L L' := by
        intro v hv
        unfold F_X6_learn_b43
        obtain ⟨L3, c1, c2⟩ := m_store (cc := 3) (nn := 3216) (o := 8 * KP.length) hC2 (wC.kok hr.2) (by omega) (by omega) (by omega)
        rw [if_neg (nI_ge hv (by omega)), hK1.1, pk_mul, c1, cal1_s, bnd_s, nI_add]
        have hK3 : MK R (st2 I1 0 29 (nI (KP.length + 1))) L3 (KP ++ [C]) := hK2.push hr.2 wC c2 b3 (by simp [st2_s])
        obtain ⟨I', L', e1, e2, e3, e4, e5⟩ := m_learn76 (k := k) (P := P) hr.2 hK3 (by rw [List.getElem?_append_left (List.getElem?_eq_some_iff.mp hk).1]; exact hk) (by simp; omega) (nI v)
        have f29 : FrM I1 (st2 I1 0 29 (nI (KP.length + 1))) := ⟨fun a ha => funext fun j => by rw [st2_s, if_neg (by omega)], fun j _ _ _ h29 => by rw [st2_s, if_neg (fun y => h29 y.2)]⟩
        exact ⟨I', L', e1, e2, e3, (a3.m.trans f29).trans e4.m, (fm.trans (c2.m (by omega) (by omega))).trans e5.m⟩
      rw [if_neg (by rw [nI_eq (by omega) (by omega)]; omega), m_isWon hC2 wC hr1, cal1_s, bi_if, if_pos q]
      cases z2 : wonB R C with
      | true => rw [if_pos (show true = true from rfl), if_pos (show true = true from rfl)]; exact b43 1 (by omega)
      | false => rw [if_neg (show ¬ false = true by decide), if_neg (show ¬ false = true by decide)]; exact b43 0 (by omega)
    · rw [if_pos (by rw [show KP.length = b by omega]), if_neg q]
      unfold F_X6_learn_b43
      rw [if_pos (nI_le (by omega) (by omega))]
      obtain ⟨I', L', e1, e2, e3, e4, e5⟩ := m_learn76 hr.2 hK2 hk (by omega) (nI 2)
      exact ⟨I', L', e1, e2, e3, a3.m.trans e4.m, fm.trans e5.m⟩
end
section
/-! ===== the second reading: a position gone on from ===== -/
theorem expA_cons {R : Nat → Nat} {b : Nat} {P : Pos} {m : Nat} {r : List Nat} {KP : List Pos} : expA R b P (m :: r) KP = if (learnA R b (playC R P m) KP).1 = 0 then expA R b P r (learnA R b (playC R P m) KP).2 else ((learnA R b (playC R P m) KP).2, (learnA R b (playC R P m) KP).1) := by
  show (if knownB KP (playC R P m) = true then _ else _) = _
  unfold learnA
  by_cases q : knownB KP (playC R P m) = true
  · rw [if_pos q, if_pos q]; rfl
  · rw [if_neg q, if_neg q]
    by_cases q2 : KP.length < b
    · rw [if_pos q2, if_pos q2]
      by_cases q3 : wonB R (playC R P m) = true
      · rw [if_pos q3, if_pos q3]; rfl
      · rw [if_neg q3, if_neg q3]; rfl
    · rw [if_neg q2, if_neg q2]; rfl
theorem learnA_pre {R : Nat → Nat} {b : Nat} {C : Pos} {KP : List Pos} (hb : KP.length ≤ b) : (∃ X, (learnA R b C KP).2 = KP ++ X) ∧ (learnA R b C KP).2.length ≤ b ∧ (learnA R b C KP).1 ≤ 2 := by
  unfold learnA
  split
  · exact ⟨⟨[], by simp⟩, hb, Nat.zero_le _⟩
  · split
    · refine ⟨⟨[C], rfl⟩, ?_, ?_⟩
      · simp only [List.length_append, List.length_cons, List.length_nil]; omega
      · dsimp only; split <;> decide
    · exact ⟨⟨[], by simp⟩, hb, Nat.le_refl _⟩
theorem m_goOn_L {R : Nat → Nat} {P : Pos} {k b : Nat} (wP : WF R P) (hb4 : b ≤ 400) : ∀ (j c n : Nat) (I : Nat → Nat → Int32) (L : Nat → Nat → Int64) (KP : List Pos), c + j = 1440 → j < n → RR (I 1) R → MRep I L P → MK R I L KP → KP[k]? = some P → KP.length ≤ b →
    ∃ I' L', F_X6_goOn_L14 n I L (nI k) (nI b) (nI c) = some (nI (expA R b P (((List.range' c j).filter (allB R P)).map allC) KP).2, I', L') ∧ MRep I' L' P ∧ MK R I' L' (expA R b P (((List.range' c j).filter (allB R P)).map allC) KP).1 ∧ FrM I I' ∧ FrLM L L' ∧ (∃ X, (expA R b P (((List.range' c j).filter (allB R P)).map allC) KP).1 = KP ++ X) ∧ (expA R b P (((List.range' c j).filter (allB R P)).map allC) KP).1.length ≤ b := by
  intro j
  induction j with
  | zero =>
    intro c n I L KP hc hn hr hP h hk hb
    obtain ⟨n, rfl⟩ : ∃ q, n = q + 1 := ⟨n - 1, by omega⟩
    refine ⟨I, L, ?_, hP, h, FrM.refl I, FrLM.refl L, ⟨[], by simp [expA]⟩, hb⟩
    show F_X6_goOn_s14 (F_X6_goOn_L14 n) _ _ _ _ _ = _
    unfold F_X6_goOn_s14
    rw [if_pos (nI_le (by omega) (by omega))]; rfl
  | succ j ih =>
    intro c n I L KP hc hn hr hP h hk hb
    obtain ⟨n, rfl⟩ : ∃ q, n = q + 1 := ⟨n - 1, by omega⟩
    show ∃ I' L', F_X6_goOn_s14 (F_X6_goOn_L14 n) _ _ _ _ _ = _ ∧ _
    unfold F_X6_goOn_s14
    have e : List.range' c (j + 1) = c :: List.range' (c + 1) j := rfl
    have hf : c / 144 < 10 := by omega
    have ht : c / 16 % 9 < 9 := by omega
    have hn16 : c % 16 + 1 ≤ 16 := by omega
    rw [if_neg (nI_ge (by omega) (by omega)), nz_n _ (by omega) (by omega), nz_n _ (by omega) (by omega), nz_n _ (by omega) (by omega), nz_n _ (by omega) (by omega), show nI c - nI c / nI 16 * nI 16 = nI (c % 16) from pk_rem (by omega) (by omega) (by omega), pk_div (by omega) (by omega) (by omega), pk_div (by omega) (by omega) (by omega), pk_rem (by omega) (by omega) (by omega), nI_add]
    have skip : canB (c / 144) (c / 16 % 9) (c % 16 + 1) = false → ∃ I' L', F_X6_goOn_b75 (F_X6_goOn_L14 n) I L (nI k) (nI b) (nI c) (nI (c / 144)) (nI (c / 16 % 9)) (nI (c % 16 + 1)) (nI 0) = some (nI (expA R b P (((List.range' c (j + 1)).filter (allB R P)).map allC) KP).2, I', L') ∧ MRep I' L' P ∧ MK R I' L' (expA R b P (((List.range' c (j + 1)).filter (allB R P)).map allC) KP).1 ∧ FrM I I' ∧ FrLM L L' ∧ (∃ X, (expA R b P (((List.range' c (j + 1)).filter (allB R P)).map allC) KP).1 = KP ++ X) ∧ (expA R b P (((List.range' c (j + 1)).filter (allB R P)).map allC) KP).1.length ≤ b := by
      intro hcan
      unfold F_X6_goOn_b75
      have ha : ¬ allB R P c = true := by unfold allB; rw [hcan, Bool.false_and]; exact Bool.false_ne_true
      rw [if_pos rfl, nI_add, e, List.filter_cons_of_neg ha]
      exact ih (c + 1) n I L KP (by omega) (by omega) hr hP h hk hb
    have go : canB (c / 144) (c / 16 % 9) (c % 16 + 1) = true → ∃ I' L', F_X6_goOn_b75 (F_X6_goOn_L14 n) I L (nI k) (nI b) (nI c) (nI (c / 144)) (nI (c / 16 % 9)) (nI (c % 16 + 1)) (nI 1) = some (nI (expA R b P (((List.range' c (j + 1)).filter (allB R P)).map allC) KP).2, I', L') ∧ MRep I' L' P ∧ MK R I' L' (expA R b P (((List.range' c (j + 1)).filter (allB R P)).map allC) KP).1 ∧ FrM I I' ∧ FrLM L L' ∧ (∃ X, (expA R b P (((List.range' c (j + 1)).filter (allB R P)).map allC) KP).1 = KP ++ X) ∧ (expA R b P (((List.range' c (j + 1)).filter (allB R P)).map allC) KP).1.length ≤ b := by
      intro hcan
      unfold F_X6_goOn_b75
      have hc' := hcan
      unfold canB at hc'
      simp only [Bool.and_eq_true, Bool.or_eq_true, decide_eq_true_eq] at hc'
      rw [if_neg (show ¬ nI 1 = nI 0 by decide), m_isMove hP wP hr hf ht (by omega) hn16 (by omega), cal1_s, bi_if, nI_add, e]
      by_cases q : legal R P (c / 144) (c / 16 % 9) (c % 16 + 1) = true
      · have ha : allB R P c = true := by unfold allB; rw [hcan, q]; rfl
        rw [if_pos q, List.filter_cons_of_pos ha, List.map_cons, expA_cons]
        have ep : playC R P (allC c) = playP R P (c / 144) (c / 16 % 9) (c % 16 + 1) := playC_code hf ht hn16
        rw [ep]
        obtain ⟨I1, L1, a1, a2, a3, a4, a5⟩ := m_learn hr hP wP h hk hb hb4 ht (show 1 ≤ c % 16 + 1 by omega) hn16 (by omega) q
        obtain ⟨⟨X, hX⟩, hl2, hl1⟩ := learnA_pre (R := R) (C := playP R P (c / 144) (c / 16 % 9) (c % 16 + 1)) hb
        rw [a1, cal3_s]
        generalize learnA R b (playP R P (c / 144) (c / 16 % 9) (c % 16 + 1)) KP = Z at a3 hX hl2 hl1 ⊢
        by_cases z : Z.1 = 0
        · rw [if_pos (show nI Z.1 ≤ nI 0 from nI_le (by omega) (by omega)), if_pos z]
          have hk1 : Z.2[k]? = some P := by rw [hX, List.getElem?_append_left (List.getElem?_eq_some_iff.mp hk).1]; exact hk
          obtain ⟨I2, L2, b1, b2, b3, b4, b5, ⟨Y, hY⟩, b7⟩ := ih (c + 1) n I1 L1 Z.2 (by omega) (by omega) (by rw [a4.1 1 (by omega)]; exact hr) a2 a3 hk1 hl2
          exact ⟨I2, L2, b1, b2, b3, a4.trans b4, a5.trans b5, ⟨X ++ Y, by rw [hY, hX, List.append_assoc]⟩, b7⟩
        · rw [if_neg (show ¬ nI Z.1 ≤ nI 0 from nI_ge (by omega) (by omega)), if_neg z]
          exact ⟨I1, L1, rfl, a2, a3, a4, a5, ⟨X, hX⟩, hl2⟩
      · have ha : ¬ allB R P c = true := by unfold allB; rw [hcan]; simpa using q
        rw [if_neg q, List.filter_cons_of_neg ha]
        exact ih (c + 1) n I L KP (by omega) (by omega) hr hP h hk hb
    unfold canB at skip go
    by_cases f8 : c / 144 = 8
    · rw [if_pos (by rw [f8])]; exact skip (by simp [f8])
    · rw [if_neg (by rw [nI_eq (by omega) (by omega)]; exact f8)]
      by_cases n1 : c % 16 + 1 = 1
      · rw [if_pos (by rw [n1])]; exact go (by simp [f8, n1])
      · rw [if_neg (by rw [nI_eq (by omega) (by omega)]; exact n1)]
        by_cases f5 : c / 144 < 5
        · rw [if_neg (nI_ge f5 (by omega))]
          by_cases t5 : c / 16 % 9 < 5
          · rw [if_neg (nI_ge t5 (by omega))]; exact go (by simp [f8, f5, t5])
          · rw [if_pos (nI_le (by omega) (by omega))]; exact skip (by rw [decide_eq_false n1, decide_eq_false t5]; simp)
        · rw [if_pos (nI_le (by omega) (by omega))]; exact skip (by rw [decide_eq_false n1, decide_eq_false f5]; simp)
theorem m_goOn {R : Nat → Nat} {I : Nat → Nat → Int32} {L : Nat → Nat → Int64} {KP : List Pos} {P : Pos} {k b : Nat} (hr : RR (I 1) R) (h : MK R I L KP) (hk : KP[k]? = some P) (hb : KP.length ≤ b) (hb4 : b ≤ 400) :
    ∃ I' L', F_X6_goOn I L (nI k) (nI b) = some (nI (expA R b P (mvs R P) KP).2, I', L') ∧ MRep I' L' P ∧ MK R I' L' (expA R b P (mvs R P) KP).1 ∧ FrM I I' ∧ FrLM L L' ∧ (∃ X, (expA R b P (mvs R P) KP).1 = KP ++ X) ∧ (expA R b P (mvs R P) KP).1.length ≤ b := by
  obtain ⟨a, -, w⟩ := h.2 k P hk
  have hlt : k < KP.length := (List.getElem?_eq_some_iff.mp hk).1
  unfold F_X6_goOn
  rw [pk_mul]
  obtain ⟨I1, L1, e1, e2, e3, e4⟩ := m_load (I := I) (cc := 3) (nn := 3216) (o := 8 * k) (w.kok hr.2) (by omega) (by omega) (by omega) a
  rw [e1, cal2_s, mvs_all, List.range_eq_range']
  obtain ⟨I2, L2, b1, b2, b3, b4, b5, b6, b7⟩ := m_goOn_L w hb4 1440 0 FU I1 L1 KP (by omega) (FU_gt (by omega)) (by rw [e3.1 1 (by omega)]; exact hr) e2 (h.fr e3 e4) hk hb
  exact ⟨I2, L2, b1, b2, b3, e3.m.trans b4, e4.m.trans b5, b6, b7⟩
end
section
/-! ===== the second reading: look is the search ===== -/
theorem expA_le2 {R : Nat → Nat} {b : Nat} {P : Pos} : ∀ (ms : List Nat) (KP : List Pos), (expA R b P ms KP).2 ≤ 2
  | [], _ => Nat.zero_le _
  | m :: r, KP => by
    rw [expA_cons]
    split
    · exact expA_le2 r _
    · dsimp only
      unfold learnA
      split
      · exact Nat.zero_le _
      · split
        · dsimp only; split <;> decide
        · exact Nat.le_refl _
theorem m_look118 {R : Nat → Nat} {I : Nat → Nat → Int32} {L : Nat → Nat → Int64} {KP : List Pos} {P0 : Pos} (hr : RR (I 1) R) (h : MK R I L KP) (h0 : KP[0]? = some P0) (v2 : Int32) :
    ∃ I' L', F_X6_look_b118 I L v2 = some (v2, I', L') ∧ MRep I' L' P0 ∧ FrM I I' ∧ FrLM L L' ∧ I' 0 29 = nI KP.length := by
  obtain ⟨a, -, w⟩ := h.2 0 P0 h0
  obtain ⟨I', L', e1, e2, e3, e4⟩ := m_load (I := I) (cc := 3) (nn := 3216) (o := 0) (w.kok hr.2) (by omega) (by omega) (by omega) (fun i hi => by have := a i hi; rwa [Nat.mul_zero] at this)
  unfold F_X6_look_b118
  rw [e1, cal2_s]
  exact ⟨I', L', rfl, e2, e3.m, e4.m, by rw [e3.2 29 (by omega) (by omega) (by omega)]; exact h.1⟩
/-- what look comes to: what it tells, the position back in its place, and how many were known -/
def LookR (I : Nat → Nat → Int32) (L : Nat → Nat → Int64) (P0 : Pos) (x : Option (Int32 × (Nat → Nat → Int32) × (Nat → Nat → Int64))) (z : Int32 × List Pos) : Prop :=
  ∃ I' L', x = some (z.1, I', L') ∧ MRep I' L' P0 ∧ FrM I I' ∧ FrLM L L' ∧ I' 0 29 = nI z.2.length
theorem LookR.back {I I1 : Nat → Nat → Int32} {L L1 : Nat → Nat → Int64} {P0 : Pos} {x : Option (Int32 × (Nat → Nat → Int32) × (Nat → Nat → Int64))} {z : Int32 × List Pos} (h : LookR I1 L1 P0 x z) (hI : FrM I I1) (hL : FrLM L L1) : LookR I L P0 x z := by
  obtain ⟨I', L', a, b, c, d, e⟩ := h
  exact ⟨I', L', a, b, hI.trans c, hL.trans d, e⟩
theorem m_look63 {R : Nat → Nat} {b lv e n41 : Nat} {P0 : Pos} (hb4 : b ≤ 400) (hlv : 1 ≤ lv) (hlv2 : lv ≤ 1000)
    (hA : ∀ (n : Nat) (I : Nat → Nat → Int32) (L : Nat → Nat → Int64) (KP : List Pos) (ST : Nat → Nat), 401 - e < n → RR (I 1) R → MK R I L KP → KP[0]? = some P0 → KP.length ≤ b → e ≤ KP.length → (∀ i, e ≤ i → i < KP.length → ST i = lv) → LookR I L P0 (F_X6_look_L41 (n41 + 1) I L (nI b) (-1) (nI e) (nI (lv + 1))) (bfsA R b n e KP ST)) :
    ∀ (j k n m : Nat) (I : Nat → Nat → Int32) (L : Nat → Nat → Int64) (KP : List Pos) (ST : Nat → Nat), k + j = e → 401 - k < n → j + 1 < m → RR (I 1) R → MK R I L KP → KP[0]? = some P0 → KP.length ≤ b → e ≤ KP.length → (∀ i, k ≤ i → i < e → ST i = lv - 1) → (∀ i, e ≤ i → i < KP.length → ST i = lv) →
    LookR I L P0 (F_X6_look_L63 (F_X6_look_L41 (n41 + 1)) m I L (nI b) (nI k) (nI lv) (nI e) (nI 0)) (bfsA R b n k KP ST) := by
  intro j
  induction j with
  | zero =>
    intro k n m I L KP ST hk hn hm hr h h0 hb he h1 h2
    obtain ⟨m, rfl⟩ : ∃ q, m = q + 1 := ⟨m - 1, by omega⟩
    have : k = e := by omega
    subst this
    show LookR I L P0 (F_X6_look_s63 _ _ _ _ _ _ _ _ _) _
    unfold F_X6_look_s63 F_X6_look_b88
    rw [if_pos (nI_le (by omega) (by omega)), if_neg (show ¬ nI 0 = nI 1 by decide), if_neg (show ¬ nI 0 = nI 2 by decide), nI_add]
    exact hA n I L KP ST hn hr h h0 hb he h2
  | succ j ih =>
    intro k n m I L KP ST hk hn hm hr h h0 hb he h1 h2
    obtain ⟨m, rfl⟩ : ∃ q, m = q + 2 := ⟨m - 2, by omega⟩
    obtain ⟨n, rfl⟩ : ∃ q, n = q + 1 := ⟨n - 1, by omega⟩
    have hlt : k < KP.length := by omega
    have hkk : KP[k]? = some KP[k] := List.getElem?_eq_getElem hlt
    obtain ⟨I1, L1, a1, a2, a3, a4, a5, ⟨X, hX⟩, a7⟩ := m_goOn hr h hkk hb hb4
    have h01 : (expA R b KP[k] (mvs R KP[k]) KP).1[0]? = some P0 := by rw [hX, List.getElem?_append_left (by omega)]; exact h0
    have hr1 : RR (I1 1) R := by rw [a4.1 1 (by omega)]; exact hr
    have hstk : ST k = lv - 1 := h1 k (by omega) (by omega)
    have hlen : KP.length ≤ (expA R b KP[k] (mvs R KP[k]) KP).1.length := by rw [hX, List.length_append]; omega
    have ebf : bfsA R b (n + 1) k KP ST = (if (expA R b KP[k] (mvs R KP[k]) KP).2 = 1 then (nI (ST k + 1), (expA R b KP[k] (mvs R KP[k]) KP).1)
      else if (expA R b KP[k] (mvs R KP[k]) KP).2 = 2 then (-2, (expA R b KP[k] (mvs R KP[k]) KP).1)
      else bfsA R b n (k + 1) (expA R b KP[k] (mvs R KP[k]) KP).1 (fun i => if i < KP.length then ST i else ST k + 1)) := by
      show (match KP[k]? with | none => _ | some P => _) = _
      rw [hkk]
    have hle2 := expA_le2 (R := R) (b := b) (P := KP[k]) (mvs R KP[k]) KP
    rw [ebf]
    show LookR I L P0 (F_X6_look_s63 _ (F_X6_look_L63 _ (m + 1)) _ _ _ _ _ _ _) _
    unfold F_X6_look_s63
    rw [if_neg (nI_ge (by omega) (by omega)), if_pos rfl, a1, cal3_s, nI_add]
    generalize expA R b KP[k] (mvs R KP[k]) KP = Z at *
    refine LookR.back ?_ a4 a5
    have stop : ∀ r v, (r = 1 ∨ r = 2) → v = (if r = 1 then nI lv else (-2)) → LookR I1 L1 P0 (F_X6_look_L63 (F_X6_look_L41 (n41 + 1)) (m + 1) I1 L1 (nI b) (nI (k + 1)) (nI lv) (nI e) (nI r)) (v, Z.1) := by
      intro r v hr12 hv
      have e88 : F_X6_look_L63 (F_X6_look_L41 (n41 + 1)) (m + 1) I1 L1 (nI b) (nI (k + 1)) (nI lv) (nI e) (nI r) = F_X6_look_b88 (F_X6_look_L41 (n41 + 1)) I1 L1 (nI b) (nI (k + 1)) (nI lv) (nI r) := by
        show F_X6_look_s63 _ (F_X6_look_L63 _ m) _ _ _ _ _ _ _ = _
        unfold F_X6_look_s63
        rw [if_neg (show ¬ nI r = nI 0 by rw [nI_eq (by omega) (by omega)]; omega)]
        split <;> rfl
      have e41 : F_X6_look_b88 (F_X6_look_L41 (n41 + 1)) I1 L1 (nI b) (nI (k + 1)) (nI lv) (nI r) = F_X6_look_b118 I1 L1 v := by
        unfold F_X6_look_b88
        rcases hr12 with y | y
        · subst y
          rw [if_pos rfl] at hv
          subst hv
          rw [if_pos rfl]
          show F_X6_look_s41 _ _ _ _ _ _ _ = _
          unfold F_X6_look_s41
          rw [if_neg (show ¬ nI lv = -1 by rw [nI_negone (by omega)]; exact id)]
        · subst y
          rw [if_neg (by decide)] at hv
          subst hv
          rw [if_neg (show ¬ nI 2 = nI 1 by decide), if_pos rfl]
          show F_X6_look_s41 _ _ _ _ _ _ _ = _
          unfold F_X6_look_s41
          rw [if_neg (show ¬ (-2 : Int32) = -1 by decide)]
      rw [e88, e41]
      exact m_look118 hr1 a3 h01 v
    by_cases z1 : Z.2 = 1
    · rw [if_pos z1, z1, hstk, show lv - 1 + 1 = lv by omega]
      exact stop 1 _ (Or.inl rfl) (by rw [if_pos rfl])
    · by_cases z2 : Z.2 = 2
      · rw [if_neg z1, if_pos z2, z2]
        exact stop 2 _ (Or.inr rfl) (by rw [if_neg (by decide)])
      · have z0 : Z.2 = 0 := by omega
        rw [if_neg z1, if_neg z2, z0]
        refine ih (k + 1) n (m + 1) I1 L1 Z.1 _ (by omega) (by omega) (by omega) hr1 a3 h01 a7 (by omega) (fun i hi1 hi2 => ?_) (fun i hi1 hi2 => ?_)
        · rw [if_pos (by omega)]; exact h1 i (by omega) hi2
        · by_cases y : i < KP.length
          · rw [if_pos y]; exact h2 i hi1 y
          · rw [if_neg y, hstk]; omega
end
section
/-! ===== the second reading: look, whole ===== -/
theorem m_look41 {R : Nat → Nat} {b : Nat} {P0 : Pos} (hb4 : b ≤ 400) : ∀ (d k lv n n41 : Nat) (I : Nat → Nat → Int32) (L : Nat → Nat → Int64) (KP : List Pos) (ST : Nat → Nat), k + d = 401 → 401 - k < n → 401 - k < n41 → 1 ≤ lv → lv ≤ k + 1 → RR (I 1) R → MK R I L KP → KP[0]? = some P0 → KP.length ≤ b → k ≤ KP.length → (∀ i, k ≤ i → i < KP.length → ST i = lv - 1) →
    LookR I L P0 (F_X6_look_L41 n41 I L (nI b) (-1) (nI k) (nI lv)) (bfsA R b n k KP ST) := by
  intro d
  induction d using Nat.strongRecOn with
  | _ d ihd =>
    intro k lv n n41 I L KP ST hd hn hn41 hlv hlvk hr h h0 hb hk hst
    obtain ⟨n41, rfl⟩ : ∃ q, n41 = q + 1 := ⟨n41 - 1, by omega⟩
    show LookR I L P0 (F_X6_look_s41 (F_X6_look_L41 n41) _ _ _ _ _ _) _
    unfold F_X6_look_s41
    rw [if_pos rfl, h.1]
    by_cases q : KP.length ≤ k
    · rw [if_pos (nI_le q (by omega))]
      obtain ⟨n, rfl⟩ : ∃ q, n = q + 1 := ⟨n - 1, by omega⟩
      have e : bfsA R b (n + 1) k KP ST = (-1, KP) := by
        show (match KP[k]? with | none => _ | some P => _) = _
        rw [List.getElem?_eq_none q]
      rw [e]
      exact m_look118 hr h h0 (-1)
    · rw [if_neg (nI_ge (by omega) (by omega))]
      obtain ⟨n41, rfl⟩ : ∃ q, n41 = q + 1 := ⟨n41 - 1, by omega⟩
      refine m_look63 (e := KP.length) hb4 hlv (by omega) ?_ (KP.length - k) k n FU I L KP ST (by omega) hn (FU_gt (by omega)) hr h h0 hb (Nat.le_refl _) (fun i h1 h2 => hst i h1 h2) (fun i h1 h2 => absurd h2 (by omega))
      intro n' I' L' KP' ST' a1 a2 a3 a4 a5 a6 a7
      refine ihd (401 - KP.length) (by omega) KP.length (lv + 1) n' (n41 + 1) I' L' KP' ST' (by omega) a1 (by omega) (by omega) (by omega) a2 a3 a4 a5 a6 (fun i h1 h2 => ?_)
      rw [a7 i h1 h2]; omega
theorem m_look {R : Nat → Nat} {I : Nat → Nat → Int32} {L : Nat → Nat → Int64} {P : Pos} {b : Nat} (hr : RR (I 1) R) (h : MRep I L P) (w : WF R P) (hb1 : 1 ≤ b) (hb4 : b ≤ 400) :
    LookR I L P (F_X6_look I L (nI b)) (searchA R b P) := by
  have hR := hr.2
  unfold F_X6_look
  rw [bnd_s]
  have f29 : FrM I (st2 I 0 29 (nI 1)) := ⟨fun a ha => funext fun j => by rw [st2_s, if_neg (by omega)], fun j _ _ _ h29 => by rw [st2_s, if_neg (fun y => h29 y.2)]⟩
  have h1 : MRep (st2 I 0 29 (nI 1)) L P := by
    have g : ∀ a j, ¬ (a = 0 ∧ j = 29) → st2 I 0 29 (nI 1) a j = I a j := fun a j ha => by rw [st2_s, if_neg ha]
    refine ⟨fun p hp => ?_, fun j hj => ?_, fun s hs => ?_, ⟨?_, fun i hi => ?_⟩, ⟨?_, fun i hi => ?_⟩, ?_⟩
    · rw [g 3 p (by omega), g 4 p (by omega)]; exact h.1 p hp
    · rw [g 5 j (by omega)]; exact h.2.1 j hj
    · rw [g 6 s (by omega)]; exact h.2.2.1 s hs
    · rw [g 0 21 (by omega)]; exact h.2.2.2.1.1
    · rw [g 7 i (by omega)]; exact h.2.2.2.1.2 i hi
    · rw [g 0 23 (by omega)]; exact h.2.2.2.2.1.1
    · rw [g 8 i (by omega)]; exact h.2.2.2.2.1.2 i hi
    · rw [g 0 24 (by omega)]; exact h.2.2.2.2.2
  have hr1 : RR (st2 I 0 29 (nI 1) 1) R := by rw [f29.1 1 (by omega)]; exact hr
  obtain ⟨L1, a1, a2⟩ := m_store (cc := 3) (nn := 3216) (o := 0) h1 (w.kok hR) (by omega) (by omega) (by omega)
  have h2 : MRep (st2 I 0 29 (nI 1)) L1 P := h1.atL (funext fun j => a2.2 0 j (by omega))
  obtain ⟨L2, b1, b2, b3⟩ := m_sort (cc := 4) (nn := 3216) (o := 0) hr1 h2 w (by omega) (by omega) (by omega) (by omega)
  have h3 : MRep (st2 I 0 29 (nI 1)) L2 P := h2.atL (funext fun j => b2 0 j (by omega) (by omega))
  rw [a1, cal1_s, b1, cal1_s, m_isWon h3 w hr1, cal1_s, bi_if]
  have hK : MK R (st2 I 0 29 (nI 1)) L2 [P] := by
    refine ⟨by simp [st2_s], fun i Q hi => ?_⟩
    have hlt := (List.getElem?_eq_some_iff.mp hi).1
    simp only [List.length_cons, List.length_nil] at hlt
    have : i = 0 := by omega
    subst this
    simp only [List.getElem?_cons_zero, Option.some.injEq] at hi
    subst hi
    refine ⟨fun j hj => ?_, b3, w⟩
    rw [b2 3 _ (by omega) (by omega)]
    exact a2.1 j hj
  refine LookR.back ?_ f29 ((a2.m (by omega) (by omega)).trans (b2.m (by omega) (by omega)))
  unfold searchA F_X6_look_b35
  by_cases q : wonB R P = true
  · rw [if_pos q, if_pos q]
    show LookR _ _ _ (F_X6_look_s41 _ _ _ _ _ _ _) _
    unfold F_X6_look_s41
    rw [if_neg (show ¬ nI 0 = (-1 : Int32) by decide)]
    exact m_look118 hr1 hK rfl (nI 0)
  · rw [if_neg q, if_neg q]
    exact m_look41 hb4 401 0 1 1000 FU _ L2 [P] (fun _ => 0) (by omega) (by omega) (FU_gt (by omega)) (by omega) (by omega) hr1 hK rfl (by simp; omega) (by omega) (fun i _ _ => rfl)
end
section
/-! ===== the second reading: what moves, moveAt, search and known tell ===== -/
theorem mvs_small {R : Nat → Nat} {P : Pos} {m : Nat} (h : m ∈ mvs R P) : m < 10000 := by
  obtain ⟨f, t, n, rfl, hf, ht, -, hn, -, -, -⟩ := mem_mvs h
  unfold codeN; omega
theorem find_len (R : Nat → Nat) (P : Pos) : (-1 : Int32) - findR (mvs R P) (-1) 0 = nI (mvs R P).length := by
  have h := mvs_len R P
  rw [findR_m1 _ _ (by omega), Nat.zero_add, m1_sub (by omega)]
theorem find_at (R : Nat → Nat) (P : Pos) {m : Nat} (hm : m < 2 ^ 31) : (if nI 0 ≤ findR (mvs R P) (nI m) 0 then findR (mvs R P) (nI m) 0 else -1) = optI (mvs R P)[m]? := by
  have h := mvs_len R P
  rw [findR_at _ _ _ (by omega) (Nat.zero_le _) hm, Nat.sub_zero, Nat.zero_add]
  cases e : (mvs R P)[m]? with
  | none =>
    dsimp only
    rw [if_neg (m1_neg (by omega))]; rfl
  | some c =>
    have hc := mvs_small (List.mem_of_getElem? e)
    dsimp only
    rw [if_pos (nI_le (Nat.zero_le _) (by omega))]; rfl
theorem MRep.st0 {I : Nat → Nat → Int32} {L : Nat → Nat → Int64} {P : Pos} (h : MRep I L P) {k : Nat} (hk : k ≠ 21 ∧ k ≠ 23 ∧ k ≠ 24) (x : Int32) : MRep (st2 I 0 k x) L P := by
  have g : ∀ a j, ¬ (a = 0 ∧ j = k) → st2 I 0 k x a j = I a j := fun a j ha => by rw [st2_s, if_neg ha]
  refine ⟨fun p hp => ?_, fun j hj => ?_, fun s hs => ?_, ⟨?_, fun i hi => ?_⟩, ⟨?_, fun i hi => ?_⟩, ?_⟩
  · rw [g 3 p (by omega), g 4 p (by omega)]; exact h.1 p hp
  · rw [g 5 j (by omega)]; exact h.2.1 j hj
  · rw [g 6 s (by omega)]; exact h.2.2.1 s hs
  · rw [g 0 21 (by omega)]; exact h.2.2.2.1.1
  · rw [g 7 i (by omega)]; exact h.2.2.2.1.2 i hi
  · rw [g 0 23 (by omega)]; exact h.2.2.2.2.1.1
  · rw [g 8 i (by omega)]; exact h.2.2.2.2.1.2 i hi
  · rw [g 0 24 (by omega)]; exact h.2.2.2.2.2
theorem st0_rr {I : Nat → Nat → Int32} {R : Nat → Nat} (hr : RR (I 1) R) (k : Nat) (x : Int32) : RR (st2 I 0 k x 1) R := by
  rw [show st2 I 0 k x 1 = I 1 from funext fun j => by rw [st2_s, if_neg (by omega)]]; exact hr
theorem m_moves {I : Nat → Nat → Int32} {L : Nat → Nat → Int64} {R : Nat → Nat} {P : Pos} (h : MRep I L P) (w : WF R P) (hr : RR (I 1) R) : F_X6_moves L I = some (nI (mvs R P).length, st2 I 0 0 (nI 0)) := by
  unfold F_X6_moves
  rw [bnd_s, m_find (h.st0 (by omega) _) w (st0_rr hr _ _), cal1_s, find_len]
theorem m_in (v a b : Int32) : F_X6_in v a b = some (bi (decide (a ≤ v) && decide (v ≤ b))) := by
  unfold F_X6_in
  by_cases q : v < a
  · have : ¬ a ≤ v := fun y => by rw [Int32.le_iff_toInt_le] at y; rw [Int32.lt_iff_toInt_lt] at q; omega
    rw [if_pos q, zb0, decide_eq_false this]; rfl
  · have h1 : a ≤ v := by rw [Int32.le_iff_toInt_le]; rw [Int32.lt_iff_toInt_lt] at q; omega
    rw [if_neg q, decide_eq_true h1]
    by_cases q2 : b < v
    · have : ¬ v ≤ b := fun y => by rw [Int32.le_iff_toInt_le] at y; rw [Int32.lt_iff_toInt_lt] at q2; omega
      rw [if_pos q2, zb0, decide_eq_false this]; rfl
    · have h2 : v ≤ b := by rw [Int32.le_iff_toInt_le]; rw [Int32.lt_iff_toInt_lt] at q2; omega
      rw [if_neg q2, zb1, decide_eq_true h2]; rfl
theorem m_goesWell (L : Nat → Nat → Int64) (I : Nat → Nat → Int32) (s : Int32) : F_X6_goesWell L I s = some (bi (decide (s = nI 0)), st2 I 0 0 s) := by
  unfold F_X6_goesWell
  rw [bnd_s, zb0, zb1]
  by_cases q : s = nI 0
  · rw [if_pos q, decide_eq_true q]; rfl
  · rw [if_neg q, decide_eq_false q]; rfl
/-- the number thrown is told, and nothing else done -/
theorem m_moveAt {I : Nat → Nat → Int32} {L : Nat → Nat → Int64} {R : Nat → Nat} {P : Pos} (h : MRep I L P) (w : WF R P) (hr : RR (I 1) R) {m : Nat} (hm : m < 2 ^ 31) : F_X6_moveAt L I (nI m) = some (optI (mvs R P)[m]?, st2 I 0 0 (nI 0)) := by
  unfold F_X6_moveAt F_X6_moveAt_b10
  rw [if_neg (nI_nlt (Nat.zero_le _) (by omega)), m_goesWell, cal2_s, decide_eq_true rfl, if_neg (show ¬ bi true = nI 0 by decide), m_find (h.st0 (by omega) _) w (st0_rr hr _ _), cal1_s, ← find_at R P hm]
  split <;> rfl
theorem m_moveAt_neg {I : Nat → Nat → Int32} {L : Nat → Nat → Int64} {v : Int32} (hv : v < nI 0) : F_X6_moveAt L I v = some (nI 0, st2 I 0 0 (nI 1)) := by
  unfold F_X6_moveAt F_X6_moveAt_b10
  rw [if_pos hv, m_goesWell, cal2_s, decide_eq_false (show ¬ nI 1 = nI 0 by decide), if_pos (show bi false = nI 0 from rfl)]
theorem inside_n {v : Int32} {a b : Nat} (ha : a < 2 ^ 31) (hb : b < 2 ^ 31) (h : (decide (nI a ≤ v) && decide (v ≤ nI b)) = true) : ∃ n, v = nI n ∧ a ≤ n ∧ n ≤ b := by
  simp only [Bool.and_eq_true, decide_eq_true_eq, Int32.le_iff_toInt_le, nI_toInt ha, nI_toInt hb] at h
  have e : nI v.toInt.toNat = v := by
    apply Int32.toInt_inj.mp
    rw [nI_toInt (by omega)]; omega
  exact ⟨v.toInt.toNat, e.symm, by omega, by omega⟩
theorem m_search {I : Nat → Nat → Int32} {L : Nat → Nat → Int64} {R : Nat → Nat} {P : Pos} (h : MRep I L P) (w : WF R P) (hr : RR (I 1) R) {b : Nat} (hb1 : 1 ≤ b) (hb4 : b ≤ 400) : ∃ I' L', F_X6_search I L (nI b) = some ((searchA R b P).1, I', L') ∧ MRep I' L' P ∧ FrM (st2 I 0 0 (nI 0)) I' ∧ FrLM L L' := by
  obtain ⟨I', L', a, b2, c, d, -⟩ := m_look (st0_rr hr 0 (nI 0)) (h.st0 (k := 0) (by omega) (nI 0)) w hb1 hb4
  unfold F_X6_search F_X6_search_b17
  rw [m_in, cal1_s, decide_eq_true (show nI 1 ≤ nI b from nI_le hb1 (by omega)), decide_eq_true (show nI b ≤ nI 400 from nI_le hb4 (by omega)), if_neg (show ¬ bi (true && true) = nI 0 by decide), m_goesWell, cal2_s, decide_eq_true rfl, if_neg (show ¬ bi true = nI 0 by decide), a, cal3_s]
  exact ⟨I', L', rfl, b2, c, d⟩
theorem m_known {I : Nat → Nat → Int32} {L : Nat → Nat → Int64} {R : Nat → Nat} {P : Pos} (h : MRep I L P) (w : WF R P) (hr : RR (I 1) R) {b : Nat} (hb1 : 1 ≤ b) (hb4 : b ≤ 400) : ∃ I' L', F_X6_known I L (nI b) = some (nI (searchA R b P).2.length, I', L') ∧ MRep I' L' P ∧ FrM (st2 I 0 0 (nI 0)) I' ∧ FrLM L L' := by
  obtain ⟨I', L', a, b2, c, d, e⟩ := m_look (st0_rr hr 0 (nI 0)) (h.st0 (k := 0) (by omega) (nI 0)) w hb1 hb4
  unfold F_X6_known F_X6_known_b17
  rw [m_in, cal1_s, decide_eq_true (show nI 1 ≤ nI b from nI_le hb1 (by omega)), decide_eq_true (show nI b ≤ nI 400 from nI_le hb4 (by omega)), if_neg (show ¬ bi (true && true) = nI 0 by decide), m_goesWell, cal2_s, decide_eq_true rfl, if_neg (show ¬ bi true = nI 0 by decide), a, cal3_s, e]
  exact ⟨I', L', rfl, b2, c, d⟩
end
section
/-! ===== the second reading: what card tells ===== -/
def cardA (R : Nat → Nat) (P : Pos) (p d : Nat) : Int32 := if p < 5 then seenA P p d else if p = 8 then highA R P d else optI (P.1 p)[d]?
theorem m_card156 {I : Nat → Nat → Int32} {L : Nat → Nat → Int64} {P : Pos} (h : MRep I L P) (hk : KOk P) {p d : Nat} (hp : p = 7 ∨ p = 9) (hd : d < 2 ^ 31) : F_X6_card_b156 L I (nI p) (nI d) (nI (P.1 p).length) = some (optI (P.1 p)[d]?, I) := by
  have h8 := hk.2.2.2.1
  have hlen : (P.1 p).length ≤ 8 := by rcases hp with z | z <;> subst z <;> omega
  unfold F_X6_card_b156
  by_cases q : d < (P.1 p).length
  · have e : optI (P.1 p)[d]? = nI ((P.1 p).getD d 0) := by
      rw [List.getD_eq_getElem?_getD, List.getElem?_eq_getElem q]; rfl
    rw [if_pos (nI_lt q (by omega)), pk_sub (by omega), pk_sub (by omega), e]
    rcases hp with z | z
    · subst z
      have := h.2.2.2.1.2 ((P.1 7).length - 1 - d) (by omega)
      rw [show (P.1 7).length - 1 - ((P.1 7).length - 1 - d) = d by omega] at this
      rw [if_pos rfl, rdA_n _ (by omega) (by omega), this]
    · subst z
      have := h.2.2.2.2.1.2 ((P.1 9).length - 1 - d) (by omega)
      rw [show (P.1 9).length - 1 - ((P.1 9).length - 1 - d) = d by omega] at this
      rw [if_neg (show ¬ nI 9 = nI 7 by decide), rdA_n _ (by omega) (by omega), this]
  · rw [if_neg (nI_nlt (by omega) (by omega)), List.getElem?_eq_none (by omega)]; rfl
theorem m_card {I : Nat → Nat → Int32} {L : Nat → Nat → Int64} {R : Nat → Nat} {P : Pos} (h : MRep I L P) (w : WF R P) (hr : RR (I 1) R) {p d : Nat} (hp : p < 10) (hd : d < 2 ^ 31) : F_X6_card L I (nI p) (nI d) = some (cardA R P p d, st2 I 0 0 (nI 0)) := by
  have hR := hr.2
  have hk := w.kok hr.2
  unfold RulesOk at hR
  have h' := h.st0 (k := 0) (by omega) (nI 0)
  have hr' := st0_rr hr 0 (nI 0)
  unfold F_X6_card F_X6_card_b20
  rw [m_in, cal1_s, decide_eq_true (show nI 0 ≤ nI p from nI_le (Nat.zero_le _) (by omega)), decide_eq_true (show nI p ≤ nI 9 from nI_le (by omega) (by omega)), if_neg (show ¬ bi (true && true) = nI 0 by decide), if_neg (show ¬ nI d < nI 0 from nI_nlt (Nat.zero_le _) (by omega)), m_goesWell, cal2_s, decide_eq_true rfl, if_neg (show ¬ bi true = nI 0 by decide)]
  generalize st2 I 0 0 (nI 0) = J at h' hr' ⊢
  unfold cardA
  by_cases p5 : p < 5
  · have hl := hk.1.len p
    have hh := hk.1.2.2.2.2.1 p
    obtain ⟨a1, a2, a3⟩ := h'.1 p p5
    rw [if_neg (show ¬ nI 5 ≤ nI p from nI_ge p5 (by omega)), if_pos p5, rdA_n _ p5 (by omega), a2]
    unfold seenA
    by_cases q : d < (P.1 p).length
    · rw [if_pos (show nI d < nI (P.1 p).length from nI_lt q (by omega)), if_pos q, rdA_n _ p5 (by omega), a3]
      by_cases q2 : d < P.2.1 p
      · rw [if_neg (show ¬ nI (P.2.1 p) ≤ nI d from nI_ge q2 (by omega)), if_pos q2]
      · rw [if_pos (show nI (P.2.1 p) ≤ nI d from nI_le (by omega) (by omega)), if_neg q2, m_cardAt h' hk.1 p5 q, cal1_s, List.getD_eq_getElem?_getD, List.getElem?_eq_getElem (show (P.1 p).length - 1 - d < (P.1 p).length by omega)]; rfl
    · rw [if_neg (show ¬ nI d < nI (P.1 p).length from nI_nlt (by omega) (by omega)), if_neg q]
  · rw [if_pos (show nI 5 ≤ nI p from nI_le (by omega) (by omega)), if_neg p5]
    by_cases p7 : 7 ≤ p
    · rw [if_pos (show nI 7 ≤ nI p from nI_le p7 (by omega))]
      by_cases p8 : p = 8
      · subst p8
        rw [if_pos rfl, if_pos rfl, rdA_n _ (by omega) (by omega), hr'.1 0 (by omega)]
        unfold highA
        by_cases q : d < R 0
        · have hu := w.2.2.2.2.2.1 d
          have hm : d * R 1 ≤ 4 * 6 := Nat.mul_le_mul (by omega) (by omega)
          rw [if_neg (show ¬ nI (R 0) ≤ nI d from nI_ge q (by omega)), rdA_n _ (by omega) (by omega), h'.2.2.1 d (by omega)]
          by_cases q2 : 0 < P.2.2.1 d
          · rw [if_neg (show ¬ nI (P.2.2.1 d) ≤ nI 0 from nI_ge q2 (by omega)), if_pos ⟨q, q2⟩, rdA_n _ (by omega) (by omega), hr'.1 1 (by omega), rdA_n _ (by omega) (by omega), h'.2.2.1 d (by omega), pk_mul, nI_add, pk_sub (by omega)]
          · rw [if_pos (show nI (P.2.2.1 d) ≤ nI 0 from nI_le (by omega) (by omega)), if_neg (fun y => q2 y.2)]
        · rw [if_pos (show nI (R 0) ≤ nI d from nI_le (by omega) (by omega)), if_neg (fun y => q y.1)]
      · rw [if_neg (show ¬ nI p = nI 8 by rw [nI_eq (by omega) (by omega)]; exact p8), if_neg p8]
        by_cases p77 : p = 7
        · subst p77
          rw [if_pos rfl, h'.2.2.2.1.1]; exact m_card156 h' hk (Or.inl rfl) hd
        · have : p = 9 := by omega
          subst this
          rw [if_neg (show ¬ nI 9 = nI 7 by decide), h'.2.2.2.2.1.1]; exact m_card156 h' hk (Or.inr rfl) hd
    · rw [if_neg (show ¬ nI 7 ≤ nI p from nI_ge (by omega) (by omega)), if_neg (show ¬ p = 8 by omega)]
      have hl : (P.1 p).length ≤ 1 := by
        have := hk.2.1 (p - 5) (by omega)
        rwa [show 5 + (p - 5) = p by omega] at this
      by_cases q : d = 0
      · subst q
        rw [if_pos rfl, pk_sub (by omega), rdA_n _ (by omega) (by omega), h'.2.1 (p - 5) (by omega), show 5 + (p - 5) = p by omega, topI_opt]
      · rw [if_neg (show ¬ nI d = nI 0 by rw [nI_eq (by omega) (by omega)]; exact q), List.getElem?_eq_none (by omega)]; rfl
end
section
/-! ===== the second reading: what told tells ===== -/
def moneyA (P : Pos) (done undone : Nat) : Int32 := (nI 5 * nI (upN P) - nI done) - nI 2 * nI undone
def hidN (P : Pos) : Nat := P.2.1 0 + P.2.1 1 + P.2.1 2 + P.2.1 3 + P.2.1 4
def toldA (R : Nat → Nat) (P : Pos) (done undone : Nat) (older : Int32) (k : Nat) : Int32 :=
  if k = 0 then nI (upN P) else if k = 1 then nI done else if k = 2 then nI undone else if k = 3 then nI P.2.2.2 else if k = 4 then moneyA P done undone else if k = 5 then older + moneyA P done undone else if k = 6 then bi (wonB R P) else nI (hidN P)
theorem m_money {I : Nat → Nat → Int32} {L : Nat → Nat → Int64} {P : Pos} (h : MRep I L P) {done undone : Nat} (h13 : I 0 13 = nI done) (h12 : I 0 12 = nI undone) : F_X6_money I L = some (moneyA P done undone) := by
  unfold F_X6_money
  rw [m_atHome h, cal1_s, h13, h12]; rfl
theorem m_told {I : Nat → Nat → Int32} {L : Nat → Nat → Int64} {R : Nat → Nat} {P : Pos} (h : MRep I L P) (w : WF R P) (hr : RR (I 1) R) {done undone : Nat} (h13 : I 0 13 = nI done) (h12 : I 0 12 = nI undone) {k : Nat} (hk : k < 8) : F_X6_told L I (nI k) = some (toldA R P done undone (I 0 14) k, st2 I 0 0 (nI 0)) := by
  have h' := h.st0 (k := 0) (by omega) (nI 0)
  have hr' := st0_rr hr 0 (nI 0)
  have a13 : st2 I 0 0 (nI 0) 0 13 = nI done := by rw [st2_s, if_neg (by omega)]; exact h13
  have a12 : st2 I 0 0 (nI 0) 0 12 = nI undone := by rw [st2_s, if_neg (by omega)]; exact h12
  have a14 : st2 I 0 0 (nI 0) 0 14 = I 0 14 := by rw [st2_s, if_neg (by omega)]
  unfold F_X6_told F_X6_told_b16
  rw [m_in, cal1_s, decide_eq_true (show nI 0 ≤ nI k from nI_le (Nat.zero_le _) (by omega)), decide_eq_true (show nI k ≤ nI 7 from nI_le (by omega) (by omega)), if_neg (show ¬ bi (true && true) = nI 0 by decide), m_goesWell, cal2_s, decide_eq_true rfl, if_neg (show ¬ bi true = nI 0 by decide), ← a14]
  generalize st2 I 0 0 (nI 0) = J at h' hr' a13 a12 ⊢
  unfold toldA
  have e : ∀ j, j < 8 → ((nI k = nI j) ↔ k = j) := fun j hj => nI_eq (by omega) (by omega)
  rw [m_atHome h', cal1_s, m_money h' a13 a12, cal1_s, cal1_s, m_isWon h' w hr', cal1_s, a13, a12, h'.2.2.2.2.2, rdA_n _ (by omega) (by omega), rdA_n _ (by omega) (by omega), rdA_n _ (by omega) (by omega), rdA_n _ (by omega) (by omega), rdA_n _ (by omega) (by omega), (h'.1 0 (by omega)).2.2, (h'.1 1 (by omega)).2.2, (h'.1 2 (by omega)).2.2, (h'.1 3 (by omega)).2.2, (h'.1 4 (by omega)).2.2, nI_add, nI_add, nI_add, nI_add]
  simp only [e 0 (by omega), e 1 (by omega), e 2 (by omega), e 3 (by omega), e 4 (by omega), e 5 (by omega), e 6 (by omega)]
  repeat' split
  all_goals first | rfl | (simp_all [bi]) | omega
end
section
/-! ===== the second reading: a move done, and kept ===== -/
def FrD (I I' : Nat → Nat → Int32) : Prop := (∀ a, 10 ≤ a ∨ a = 1 ∨ a = 2 → I' a = I a) ∧ ∀ j, j ≠ 13 → j ≠ 21 → j ≠ 23 → j ≠ 24 → I' 0 j = I 0 j
/-- the positions there were, the one now last -/
def MPast (L : Nat → Nat → Int64) (past : List Pos) : Prop := ∀ i P, past[i]? = some P → ∀ j, j < 8 → L 1 (8 * i + j) = lN (keyL P j)
theorem m_doMove {I : Nat → Nat → Int32} {L : Nat → Nat → Int64} {R : Nat → Nat} {P : Pos} {past : List Pos} (h : MRep I L P) (w : WF R P) (hr : RR (I 1) R) {f t n done : Nat} (ht : t < 9) (hn : 1 ≤ n) (hn16 : n ≤ 16) (h1 : n = 1 ∨ (f < 5 ∧ t < 5)) (hl : legal R P f t n = true)
    (h13 : I 0 13 = nI done) (hd : done < 200) (hp : MPast L past) (hlen : past.length = done + 1) :
    ∃ I' L', F_X6_doMove I L (nI f) (nI t) (nI n) = some (I', L') ∧ MRep I' L' (playP R P f t n) ∧ I' 0 13 = nI (done + 1) ∧ MPast L' (past ++ [playP R P f t n]) ∧ FrD I I' ∧ L' 2 = L 2 := by
  have wC := wf_play w hr.2 hn h1 hl
  obtain ⟨I1, L1, a1, a2, a3, a4⟩ := m_play h w hr ht hn hn16 h1 hl
  have b13 : I1 0 13 = nI done := by rw [a3.2 13 (by omega) (by omega) (by omega)]; exact h13
  have hC := a2.st0 (k := 13) (by omega) (nI (done + 1))
  have e13 : st2 I1 0 13 (nI (done + 1)) 0 13 = nI (done + 1) := by rw [st2_s, if_pos ⟨rfl, rfl⟩]
  obtain ⟨L2, c1, c2⟩ := m_store (cc := 1) (nn := 1616) (o := 8 * (done + 1)) hC (wC.kok hr.2) (by omega) (by omega) (by omega)
  unfold F_X6_doMove
  rw [a1, cal2_s, b13, nI_add, bnd_s, e13, pk_mul, c1, cal1_s]
  refine ⟨_, L2, rfl, hC.atL (funext fun j => c2.2 0 j (by omega)), e13, ?_, ?_, ?_⟩
  · intro i Q hi j hj
    rcases Nat.lt_or_ge i past.length with z | z
    · rw [List.getElem?_append_left z] at hi
      rw [c2.2 1 _ (by omega), a4 1 (by omega)]
      exact hp i Q hi j hj
    · rw [List.getElem?_append_right z] at hi
      have h0 := (List.getElem?_eq_some_iff.mp hi).1
      simp only [List.length_cons, List.length_nil] at h0
      rw [show i - past.length = 0 by omega] at hi
      simp only [List.getElem?_cons_zero, Option.some.injEq] at hi
      subst hi
      rw [show i = done + 1 by omega]
      exact c2.1 j hj
  · exact ⟨fun a ha => by rw [← a3.1 a ha]; funext j; rw [st2_s, if_neg (by omega)], fun j x1 x2 x3 x4 => by rw [st2_s, if_neg (fun y => x1 y.2)]; exact a3.2 j x2 x3 x4⟩
  · funext j
    rw [c2.2 2 j (by omega), a4 2 (by omega)]
end
section
/-! ===== the second reading: safe moves, one behind the other ===== -/
/-- the positions that safe moves lead to, at most n of them -/
def safeL (R : Nat → Nat) : Nat → Pos → List Pos
  | 0, _ => []
  | n + 1, P => match (List.range 8).find? (safeAt R P) with
    | none => []
    | some f => playP R P f 8 1 :: safeL R n (playP R P f 8 1)
theorem m_safe27 {R : Nat → Nat} {P : Pos} {past : List Pos} {done : Nat} (w : WF R P) (hd : done < 200) (hlen : past.length = done + 1) (K9 : (Nat → Nat → Int32) → (Nat → Nat → Int64) → Int32 → Int32 → Option (Int32 × (Nat → Nat → Int32) × (Nat → Nat → Int64))) (v1 : Nat) {I : Nat → Nat → Int32} {L : Nat → Nat → Int64} (hr : RR (I 1) R) (h : MRep I L P) (h13 : I 0 13 = nI done) (hp : MPast L past) :
    ∀ (j k m : Nat), k + j = 8 → j + 1 < m →
    match (List.range' k j).find? (safeAt R P) with
    | none => F_X6_safe_L27 K9 m I L (nI v1) (nI 0) (nI k) = K9 I L (nI v1) (nI 0)
    | some f => ∃ I' L', F_X6_safe_L27 K9 m I L (nI v1) (nI 0) (nI k) = K9 I' L' (nI (v1 + 1)) (nI 1) ∧ WF R (playP R P f 8 1) ∧ MRep I' L' (playP R P f 8 1) ∧ I' 0 13 = nI (done + 1) ∧ MPast L' (past ++ [playP R P f 8 1]) ∧ FrD I I' ∧ L' 2 = L 2 := by
  have hR := hr.2
  unfold RulesOk at hR
  intro j
  induction j with
  | zero =>
    intro k m hk hm
    obtain ⟨m, rfl⟩ : ∃ q, m = q + 1 := ⟨m - 1, by omega⟩
    show F_X6_safe_s27 K9 (F_X6_safe_L27 K9 m) _ _ _ _ _ = _
    unfold F_X6_safe_s27
    rw [if_pos (nI_lt (by omega) (by omega))]
  | succ j ih =>
    intro k m hk hm
    obtain ⟨m, rfl⟩ : ∃ q, m = q + 2 := ⟨m - 2, by omega⟩
    have e : List.range' k (j + 1) = k :: List.range' (k + 1) j := rfl
    have i0 := ih (k + 1) (m + 1) (by omega) (by omega)
    have unf : F_X6_safe_L27 K9 (m + 2) I L (nI v1) (nI 0) (nI k) = F_X6_safe_s27 K9 (F_X6_safe_L27 K9 (m + 1)) I L (nI v1) (nI 0) (nI k) := rfl
    have b0 : F_X6_safe_b65 K9 (F_X6_safe_L27 K9 (m + 1)) I L (nI v1) (nI k) (nI 0) = F_X6_safe_L27 K9 (m + 1) I L (nI v1) (nI 0) (nI (k + 1)) := by
      unfold F_X6_safe_b65
      rw [if_pos rfl, nI_add]
    rw [e, unf]
    unfold F_X6_safe_s27
    rw [if_neg (nI_nlt (by omega) (by omega)), if_pos (show (nI 0 : Int32) = nI 0 from rfl), m_isMove h w hr (show k < 10 by omega) (show 8 < 9 by omega) (Nat.le_refl 1) (by omega) (Or.inl rfl), cal1_s, bi_if, b0]
    by_cases q : legal R P k 8 1 = true
    · have hne : P.1 k ≠ [] := by
        intro z
        have q' := q
        unfold legal at q'
        rw [if_neg (by omega), z] at q'
        cases q'
      obtain ⟨c, l, ec⟩ : ∃ c l, P.1 k = c :: l := by
        cases ec : P.1 k with
        | nil => exact absurd ec hne
        | cons c l => exact ⟨c, l, rfl⟩
      have hc := w.1.1 k c (by rw [ec]; simp)
      rw [if_pos q, m_lastOf h w (by omega) (by omega), cal1_s, ec, show topI (c :: l) = nI c from rfl, m_isSafe h w hr hc, cal1_s, bi_if]
      by_cases q2 : safeB R P c = true
      · have hs : safeAt R P k = true := by unfold safeAt; rw [q, ec]; exact q2
        rw [if_pos q2, List.find?_cons_of_pos hs]
        obtain ⟨I', L', a1, a2, a3, a4, a5, a6⟩ := m_doMove h w hr (show 8 < 9 by omega) (Nat.le_refl 1) (by omega) (Or.inl rfl) q h13 hd hp hlen
        have wC := wf_play w hr.2 (Nat.le_refl 1) (Or.inl rfl) q
        refine ⟨I', L', ?_, wC, a2, a3, a4, a5, a6⟩
        unfold F_X6_safe_b65
        rw [if_neg (show ¬ nI 1 = nI 0 by decide), a1, cal2_s, nI_add, nI_add]
        show F_X6_safe_s27 K9 (F_X6_safe_L27 K9 m) _ _ _ _ _ = _
        unfold F_X6_safe_s27
        rw [if_neg (show ¬ nI 1 = nI 0 by decide)]
        split <;> rfl
      · have hs : ¬ safeAt R P k = true := by unfold safeAt; rw [q, ec]; exact q2
        rw [if_neg q2, List.find?_cons_of_neg hs]
        exact i0
    · have hs : ¬ safeAt R P k = true := by unfold safeAt; rw [Bool.not_eq_true] at q; rw [q]; exact Bool.false_ne_true
      rw [if_neg q, List.find?_cons_of_neg hs]
      exact i0
/-- what a run of safe moves comes to: how many, the position, and all that were -/
def SafeR (R : Nat → Nat) (I : Nat → Nat → Int32) (L : Nat → Nat → Int64) (past cs : List Pos) (P : Pos) (done v1 : Nat) (x : Option (Int32 × (Nat → Nat → Int32) × (Nat → Nat → Int64))) : Prop :=
  ∃ I' L', x = some (nI (v1 + cs.length), I', L') ∧ MRep I' L' ((P :: cs).getLast (by simp)) ∧ WF R ((P :: cs).getLast (by simp)) ∧ I' 0 13 = nI (done + cs.length) ∧ MPast L' (past ++ cs) ∧ FrD I I' ∧ L' 2 = L 2
theorem FrD.trans {I I' I'' : Nat → Nat → Int32} (h : FrD I I') (h2 : FrD I' I'') : FrD I I'' := ⟨fun a ha => (h2.1 a ha).trans (h.1 a ha), fun j a b c d => (h2.2 j a b c d).trans (h.2 j a b c d)⟩
theorem FrD.refl (I : Nat → Nat → Int32) : FrD I I := ⟨fun _ _ => rfl, fun _ _ _ _ _ => rfl⟩
theorem m_safe9 {R : Nat → Nat} : ∀ (n m : Nat) (P : Pos) (past : List Pos) (done v1 : Nat) (I : Nat → Nat → Int32) (L : Nat → Nat → Int64), done + n = 200 → n + 1 < m → WF R P → past.length = done + 1 → RR (I 1) R → MRep I L P → I 0 13 = nI done → MPast L past →
    SafeR R I L past (safeL R n P) P done v1 (F_X6_safe_L9 m I L (nI v1) (nI 1)) := by
  intro n
  induction n with
  | zero =>
    intro m P past done v1 I L hd hm w hlen hr h h13 hp
    obtain ⟨m, rfl⟩ : ∃ q, m = q + 1 := ⟨m - 1, by omega⟩
    refine ⟨I, L, ?_, h, w, h13, by rw [show safeL R 0 P = [] from rfl, List.append_nil]; exact hp, FrD.refl I, rfl⟩
    show F_X6_safe_s9 (F_X6_safe_L9 m) _ _ _ _ = _
    unfold F_X6_safe_s9
    rw [if_neg (show ¬ nI 1 = nI 0 by decide), h13, if_pos (nI_le (by omega) (by omega))]; rfl
  | succ n ih =>
    intro m P past done v1 I L hd hm w hlen hr h h13 hp
    obtain ⟨m, rfl⟩ : ∃ q, m = q + 2 := ⟨m - 2, by omega⟩
    have unf : F_X6_safe_L9 (m + 2) I L (nI v1) (nI 1) = F_X6_safe_L27 (F_X6_safe_L9 (m + 1)) FU I L (nI v1) (nI 0) (nI 0) := by
      show F_X6_safe_s9 (F_X6_safe_L9 (m + 1)) _ _ _ _ = _
      unfold F_X6_safe_s9
      rw [if_neg (show ¬ nI 1 = nI 0 by decide), h13, if_neg (nI_ge (by omega) (by omega))]
    have h27 := m_safe27 w (show done < 200 by omega) hlen (F_X6_safe_L9 (m + 1)) v1 hr h h13 hp 8 0 FU (by omega) (FU_gt (by omega))
    rw [← List.range_eq_range'] at h27
    rw [unf]
    show SafeR R I L past (match (List.range 8).find? (safeAt R P) with | none => [] | some f => playP R P f 8 1 :: safeL R n (playP R P f 8 1)) P done v1 _
    cases e : (List.range 8).find? (safeAt R P) with
    | none =>
      rw [e] at h27
      dsimp only at h27 ⊢
      rw [h27]
      refine ⟨I, L, ?_, h, w, h13, by rw [List.append_nil]; exact hp, FrD.refl I, rfl⟩
      show F_X6_safe_s9 (F_X6_safe_L9 m) _ _ _ _ = _
      unfold F_X6_safe_s9
      rw [if_pos rfl]; rfl
    | some f =>
      rw [e] at h27
      dsimp only at h27 ⊢
      obtain ⟨I1, L1, a1, wC, a2, a3, a4, a5, a6⟩ := h27
      rw [a1]
      obtain ⟨I2, L2, b1, b2, b3, b4, b5, b6, b7⟩ := ih (m + 1) (playP R P f 8 1) (past ++ [playP R P f 8 1]) (done + 1) (v1 + 1) I1 L1 (by omega) (by omega) wC (by simp; omega) (by rw [a5.1 1 (by omega)]; exact hr) a2 a3 a4
      refine ⟨I2, L2, ?_, ?_, ?_, ?_, ?_, a5.trans b6, b7.trans a6⟩
      · rw [b1, List.length_cons, show v1 + ((safeL R n (playP R P f 8 1)).length + 1) = v1 + 1 + (safeL R n (playP R P f 8 1)).length by omega]
      · rw [List.getLast_cons (by simp)]; exact b2
      · rw [List.getLast_cons (by simp)]; exact b3
      · rw [b4, List.length_cons, show done + ((safeL R n (playP R P f 8 1)).length + 1) = done + 1 + (safeL R n (playP R P f 8 1)).length by omega]
      · rw [List.append_assoc] at b5; exact b5
end
section
/-! ===== the second reading: moves undone ===== -/
theorem MPast.take {L : Nat → Nat → Int64} {past : List Pos} (h : MPast L past) (n : Nat) : MPast L (past.take n) := fun i P hi => h i P (by
  rw [List.getElem?_take] at hi
  split at hi
  · exact hi
  · cases hi)
theorem m_undo41 {I : Nat → Nat → Int32} {L : Nat → Nat → Int64} {R : Nat → Nat} {past : List Pos} {Q : Pos} {done undone s : Nat} (hR : RulesOk R) (h13 : I 0 13 = nI done) (h12 : I 0 12 = nI undone) (hd : done ≤ 200) (hs : s ≤ done) (hp : MPast L past) (hQ : past[done - s]? = some Q) (wQ : WF R Q) :
    ∃ I' L', F_X6_undo_b41 I L (nI s) = some (nI s, I', L') ∧ MRep I' L' Q ∧ I' 0 13 = nI (done - s) ∧ I' 0 12 = nI (undone + s) ∧ MPast L' (past.take (done - s + 1)) ∧ (∀ a, 10 ≤ a ∨ a = 1 ∨ a = 2 → I' a = I a) ∧ (∀ j, j ≠ 12 → j ≠ 13 → j ≠ 21 → j ≠ 23 → j ≠ 24 → I' 0 j = I 0 j) ∧ L' 2 = L 2 := by
  unfold F_X6_undo_b41
  have e12 : st2 I 0 13 (nI (done - s)) 0 12 = nI undone := by rw [st2_s, if_neg (by omega)]; exact h12
  have e13 : st2 (st2 I 0 13 (nI (done - s))) 0 12 (nI (undone + s)) 0 13 = nI (done - s) := by rw [st2_s, if_neg (by omega), st2_s, if_pos ⟨rfl, rfl⟩]
  obtain ⟨I', L', a1, a2, a3, a4⟩ := m_load (I := st2 (st2 I 0 13 (nI (done - s))) 0 12 (nI (undone + s))) (cc := 1) (nn := 1616) (o := 8 * (done - s)) (wQ.kok hR) (by omega) (by omega) (by omega) (hp _ Q hQ)
  rw [h13, pk_sub hs, bnd_s, e12, nI_add, bnd_s, e13, pk_mul, a1, cal2_s]
  refine ⟨I', L', rfl, a2, ?_, ?_, ?_, ?_, ?_, a4 2 (by omega)⟩
  · rw [a3.2 13 (by omega) (by omega) (by omega)]; exact e13
  · rw [a3.2 12 (by omega) (by omega) (by omega), st2_s, if_pos ⟨rfl, rfl⟩]
  · intro i P hi j hj
    rw [a4 1 (by omega)]
    exact hp.take _ i P hi j hj
  · intro a ha
    rw [a3.1 a ha]
    funext j
    rw [st2_s, if_neg (by omega), st2_s, if_neg (by omega)]
  · intro j x1 x2 x3 x4 x5
    rw [a3.2 j x3 x4 x5, st2_s, if_neg (fun y => x1 y.2), st2_s, if_neg (fun y => x2 y.2)]
end
section
/-! ===== the whole state: the next rules, the rules, all positions from the deal on, moves undone, money of older deals, machine and number of the deal ===== -/
abbrev AS : Type := (Nat → Nat) × (Nat → Nat) × List Pos × Nat × Int32 × Nat × Nat
def cur (past : List Pos) : Pos := past.getLast?.getD emptyP
def okA (A : AS) : Prop := RulesOk A.1 ∧ RulesOk A.2.1 ∧ 1 ≤ A.2.2.1.length ∧ A.2.2.1.length ≤ 201 ∧ (∀ P, P ∈ A.2.2.1 → WF A.2.1 P) ∧ A.2.2.1[0]? = some (dealP A.2.1 A.2.2.2.2.2.1 A.2.2.2.2.2.2) ∧ A.2.2.2.2.2.1 < 2 ∧ A.2.2.2.2.2.2 < 2147483648
def MSt (A : AS) (I : Nat → Nat → Int32) (L : Nat → Nat → Int64) : Prop :=
  (∀ k, k < 9 → I 0 (k + 1) = nI (A.1 k)) ∧ RR (I 1) A.2.1 ∧ MRep I L (cur A.2.2.1) ∧ I 0 13 = nI (A.2.2.1.length - 1) ∧ I 0 12 = nI A.2.2.2.1 ∧ I 0 14 = A.2.2.2.2.1 ∧ MPast L A.2.2.1
theorem okA.curm {A : AS} (h : okA A) : cur A.2.2.1 ∈ A.2.2.1 := by
  have h1 := h.2.2.1
  unfold cur
  cases e : A.2.2.1.getLast? with
  | none => rw [List.getLast?_eq_none_iff] at e; rw [e] at h1; exact absurd h1 (by decide)
  | some P => exact List.mem_of_getLast? e
theorem okA.wf {A : AS} (h : okA A) : WF A.2.1 (cur A.2.2.1) := h.2.2.2.2.1 _ h.curm
theorem MSt.keep {A : AS} {I I' : Nat → Nat → Int32} {L L' : Nat → Nat → Int64} (h : MSt A I L) (h0 : ∀ j, 1 ≤ j → j ≤ 14 → I' 0 j = I 0 j) (h1 : I' 1 = I 1) (hL : L' 1 = L 1) (hm : MRep I' L' (cur A.2.2.1)) : MSt A I' L' := by
  refine ⟨fun k hk => ?_, ?_, hm, ?_, ?_, ?_, ?_⟩
  · rw [h0 _ (by omega) (by omega)]; exact h.1 k hk
  · rw [h1]; exact h.2.1
  · rw [h0 _ (by omega) (by omega)]; exact h.2.2.2.1
  · rw [h0 _ (by omega) (by omega)]; exact h.2.2.2.2.1
  · rw [h0 _ (by omega) (by omega)]; exact h.2.2.2.2.2.1
  · intro i P hi j hj; rw [hL]; exact h.2.2.2.2.2.2 i P hi j hj
theorem MSt.fr {A : AS} {I I' : Nat → Nat → Int32} {L L' : Nat → Nat → Int64} (h : MSt A I L) (hI : FrM I I') (hL : L' 1 = L 1) (hm : MRep I' L' (cur A.2.2.1)) : MSt A I' L' :=
  h.keep (fun j _ _ => hI.2 j (by omega) (by omega) (by omega) (by omega)) (hI.1 1 (by omega)) hL hm
theorem MSt.th {A : AS} {I : Nat → Nat → Int32} {L : Nat → Nat → Int64} (h : MSt A I L) (x : Int32) : MSt A (st2 I 0 0 x) L :=
  h.keep (fun j _ _ => by rw [st2_s, if_neg (by omega)]) (funext fun j => by rw [st2_s, if_neg (by omega)]) rfl (h.2.2.1.st0 (by omega) x)
theorem th_s (I : Nat → Nat → Int32) (x : Int32) : st2 I 0 0 x 0 0 = x := by rw [st2_s, if_pos ⟨rfl, rfl⟩]
/-- what a call gives and leaves: the exception's place, the answer, the state -/
def MStep (x : Option (Int32 × (Nat → Nat → Int32) × (Nat → Nat → Int64))) (z : Nat × Int32 × AS) : Prop :=
  ∃ I' L', x = some (z.2.1, I', L') ∧ I' 0 0 = nI z.1 ∧ MSt z.2.2 I' L'
def inB (v : Int32) (a b : Nat) : Bool := decide (nI a ≤ v) && decide (v ≤ nI b)
def nV (v : Int32) : Nat := v.toInt.toNat
theorem inB_nV {v : Int32} {a b : Nat} (ha : a < 2 ^ 31) (hb : b < 2 ^ 31) (h : inB v a b = true) : v = nI (nV v) ∧ a ≤ nV v ∧ nV v ≤ b := by
  unfold inB at h
  simp only [Bool.and_eq_true, decide_eq_true_eq, Int32.le_iff_toInt_le, nI_toInt ha, nI_toInt hb] at h
  unfold nV
  refine ⟨?_, by omega, by omega⟩
  apply Int32.toInt_inj.mp
  rw [nI_toInt (by omega)]; omega
theorem m_inB (v : Int32) (a b : Nat) : F_X6_in v (nI a) (nI b) = some (bi (inB v a b)) := m_in v _ _
theorem well0 {α : Type} (L : Nat → Nat → Int64) (I : Nat → Nat → Int32) (x : (Nat → Nat → Int32) → Option α) (y : (Nat → Nat → Int32) → Option α) : (cal2 (F_X6_goesWell L I (nI 0)) fun z I2 => if z = nI 0 then x I2 else y I2) = y (st2 I 0 0 (nI 0)) := by
  rw [m_goesWell, cal2_s, bi_if, if_pos (by decide)]
theorem well1 {α : Type} (L : Nat → Nat → Int64) (I : Nat → Nat → Int32) {s : Nat} (hs : s = 1 ∨ s = 2) (x : (Nat → Nat → Int32) → Option α) (y : (Nat → Nat → Int32) → Option α) : (cal2 (F_X6_goesWell L I (nI s)) fun z I2 => if z = nI 0 then x I2 else y I2) = x (st2 I 0 0 (nI s)) := by
  rw [m_goesWell, cal2_s, bi_if, if_neg]
  rcases hs with rfl | rfl <;> decide
/-! the rules of the next deals -/
def okDeck (N : Nat → Nat) (v1 v2 : Int32) : Bool := inB v1 1 4 && (inB v2 1 6 && (inB (v1 * v2) 2 16 && decide (nI (N 6) < v1 * v2)))
def setDeck (N : Nat → Nat) (v1 v2 : Int32) : Nat → Nat := fun k => if k = 0 then nV v1 else if k = 1 then nV v2 else N k
def aDeck (A : AS) (v1 v2 : Int32) : Nat × Int32 × AS := if okDeck A.1 v1 v2 = true then (0, v1 * v2, (setDeck A.1 v1 v2, A.2)) else (1, nI 0, A)
theorem okDeck_rules {N : Nat → Nat} (hN : RulesOk N) {v1 v2 : Int32} (h : okDeck N v1 v2 = true) : RulesOk (setDeck N v1 v2) ∧ v1 = nI (nV v1) ∧ v2 = nI (nV v2) := by
  unfold okDeck at h
  simp only [Bool.and_eq_true, decide_eq_true_eq] at h
  obtain ⟨h1, h2, h3, h4⟩ := h
  obtain ⟨e1, a1, b1⟩ := inB_nV (by omega) (by omega) h1
  obtain ⟨e2, a2, b2⟩ := inB_nV (by omega) (by omega) h2
  refine ⟨?_, e1, e2⟩
  have hp : nV v1 * nV v2 ≤ 4 * 6 := Nat.mul_le_mul b1 b2
  have e : v1 * v2 = nI (nV v1 * nV v2) := by rw [e1, e2, pk_mul, ← e1, ← e2]
  rw [e] at h3 h4
  obtain ⟨e3, a3, b3⟩ := inB_nV (by omega) (by omega) h3
  have e4 : nV (nI (nV v1 * nV v2)) = nV v1 * nV v2 := by unfold nV; rw [nI_toInt (by unfold nV at hp; omega)]; rfl
  rw [e4] at a3 b3
  unfold RulesOk at hN ⊢
  rw [Int32.lt_iff_toInt_lt, nI_toInt (by omega), nI_toInt (by omega)] at h4
  show 1 ≤ nV v1 ∧ nV v1 ≤ 4 ∧ 1 ≤ nV v2 ∧ nV v2 ≤ 6 ∧ 2 ≤ nV v1 * nV v2 ∧ nV v1 * nV v2 ≤ 16 ∧ 1 ≤ N 2 ∧ N 2 ≤ 5 ∧ N 3 ≤ 2 ∧ N 4 ≤ 2 ∧ N 5 ≤ 2 ∧ N 6 ≤ 8 ∧ N 6 < nV v1 * nV v2 ∧ N 7 ≤ 2 ∧ N 8 ≤ 1
  omega
theorem M_deck {A : AS} {I : Nat → Nat → Int32} {L : Nat → Nat → Int64} (hA : okA A) (h : MSt A I L) (v1 v2 : Int32) :
    okA (aDeck A v1 v2).2.2 ∧ ∃ I', F_X6_deck L I v1 v2 = some ((aDeck A v1 v2).2.1, I') ∧ I' 0 0 = nI (aDeck A v1 v2).1 ∧ MSt (aDeck A v1 v2).2.2 I' L := by
  have e7 : I 0 7 = nI (A.1 6) := h.1 6 (by omega)
  have e : F_X6_deck L I v1 v2 = if okDeck A.1 v1 v2 = true then some (v1 * v2, st2 (st2 (st2 I 0 0 (nI 0)) 0 1 v1) 0 2 v2) else some (nI 0, st2 I 0 0 (nI 1)) := by
    unfold F_X6_deck F_X6_deck_b46 F_X6_deck_b57
    rw [if_pos rfl, if_neg (show ¬ nI 1 = nI 0 by decide), well0, well1 _ _ (Or.inl rfl), bnd_s, bnd_s, m_inB, cal1_s, bi_if, m_inB, cal1_s, bi_if, m_inB, cal1_s, bi_if, e7]
    unfold okDeck
    cases inB v1 1 4 <;> cases inB v2 1 6 <;> cases inB (v1 * v2) 2 16 <;> simp only [Bool.true_and, Bool.false_and, if_true, Bool.false_eq_true, if_false]
    by_cases q : nI (A.1 6) < v1 * v2
    · rw [decide_eq_true q, if_neg (Int32.not_le.mpr q), if_pos rfl]
    · rw [decide_eq_false q, if_pos (Int32.not_lt.mp q), if_neg Bool.false_ne_true]
  rw [e]
  unfold aDeck
  by_cases q : okDeck A.1 v1 v2 = true
  · rw [if_pos q, if_pos q]
    obtain ⟨r, e1, e2⟩ := okDeck_rules hA.1 q
    refine ⟨⟨r, hA.2⟩, _, rfl, by rw [st2_s, if_neg (by omega), st2_s, if_neg (by omega), th_s], ?_⟩
    refine ⟨fun k hk => ?_, ?_, ?_, ?_, ?_, ?_, h.2.2.2.2.2.2⟩
    · rw [st2_s, st2_s, st2_s]
      show _ = nI (if k = 0 then nV v1 else if k = 1 then nV v2 else A.1 k)
      by_cases k0 : k = 0
      · rw [if_neg (by omega), if_pos (by omega), if_pos k0]; exact e1
      · by_cases k1 : k = 1
        · rw [if_pos (by omega), if_neg k0, if_pos k1]; exact e2
        · rw [if_neg (by omega), if_neg (by omega), if_neg (by omega), if_neg k0, if_neg k1]; exact h.1 k hk
    · exact st0_rr (st0_rr (st0_rr h.2.1 _ _) _ _) _ _
    · exact ((h.2.2.1.st0 (by omega) _).st0 (by omega) _).st0 (by omega) _
    · rw [st2_s, if_neg (by omega), st2_s, if_neg (by omega), st2_s, if_neg (by omega)]; exact h.2.2.2.1
    · rw [st2_s, if_neg (by omega), st2_s, if_neg (by omega), st2_s, if_neg (by omega)]; exact h.2.2.2.2.1
    · rw [st2_s, if_neg (by omega), st2_s, if_neg (by omega), st2_s, if_neg (by omega)]; exact h.2.2.2.2.2.1
  · rw [if_neg q, if_neg q]
    exact ⟨hA, _, rfl, th_s _ _, h.th _⟩
end
section
/-! ===== the second reading: table and stock ===== -/
def okTable (v1 v2 v3 v4 : Int32) : Bool := inB v1 1 5 && (inB v2 0 2 && (inB v3 0 2 && inB v4 0 2))
def setTable (N : Nat → Nat) (v1 v2 v3 v4 : Int32) : Nat → Nat := fun k => if k = 2 then nV v1 else if k = 3 then nV v2 else if k = 4 then nV v3 else if k = 5 then nV v4 else N k
def aTable (A : AS) (v1 v2 v3 v4 : Int32) : Nat × Int32 × AS := if okTable v1 v2 v3 v4 = true then (0, nI 0, (setTable A.1 v1 v2 v3 v4, A.2)) else (1, nI 0, A)
theorem okTable_rules {N : Nat → Nat} (hN : RulesOk N) {v1 v2 v3 v4 : Int32} (h : okTable v1 v2 v3 v4 = true) : RulesOk (setTable N v1 v2 v3 v4) ∧ v1 = nI (nV v1) ∧ v2 = nI (nV v2) ∧ v3 = nI (nV v3) ∧ v4 = nI (nV v4) := by
  unfold okTable at h
  simp only [Bool.and_eq_true] at h
  obtain ⟨h1, h2, h3, h4⟩ := h
  obtain ⟨e1, a1, b1⟩ := inB_nV (by omega) (by omega) h1
  obtain ⟨e2, a2, b2⟩ := inB_nV (by omega) (by omega) h2
  obtain ⟨e3, a3, b3⟩ := inB_nV (by omega) (by omega) h3
  obtain ⟨e4, a4, b4⟩ := inB_nV (by omega) (by omega) h4
  refine ⟨?_, e1, e2, e3, e4⟩
  unfold RulesOk at hN ⊢
  show 1 ≤ N 0 ∧ N 0 ≤ 4 ∧ 1 ≤ N 1 ∧ N 1 ≤ 6 ∧ 2 ≤ N 0 * N 1 ∧ N 0 * N 1 ≤ 16 ∧ 1 ≤ nV v1 ∧ nV v1 ≤ 5 ∧ nV v2 ≤ 2 ∧ nV v3 ≤ 2 ∧ nV v4 ≤ 2 ∧ N 6 ≤ 8 ∧ N 6 < N 0 * N 1 ∧ N 7 ≤ 2 ∧ N 8 ≤ 1
  omega
theorem M_table {A : AS} {I : Nat → Nat → Int32} {L : Nat → Nat → Int64} (hA : okA A) (h : MSt A I L) (v1 v2 v3 v4 : Int32) :
    okA (aTable A v1 v2 v3 v4).2.2 ∧ ∃ I', F_X6_table L I v1 v2 v3 v4 = some I' ∧ I' 0 0 = nI (aTable A v1 v2 v3 v4).1 ∧ MSt (aTable A v1 v2 v3 v4).2.2 I' L := by
  have e : F_X6_table L I v1 v2 v3 v4 = if okTable v1 v2 v3 v4 = true then some (st2 (st2 (st2 (st2 (st2 I 0 0 (nI 0)) 0 3 v1) 0 4 v2) 0 5 v3) 0 6 v4) else some (st2 I 0 0 (nI 1)) := by
    unfold F_X6_table F_X6_table_b43
    rw [well0, well1 _ _ (Or.inl rfl), bnd_s, bnd_s, bnd_s, bnd_s, m_inB, cal1_s, bi_if, m_inB, cal1_s, bi_if, m_inB, cal1_s, bi_if, m_inB, cal1_s, bi_if]
    unfold okTable
    cases inB v1 1 5 <;> cases inB v2 0 2 <;> cases inB v3 0 2 <;> cases inB v4 0 2 <;> rfl
  rw [e]
  unfold aTable
  by_cases q : okTable v1 v2 v3 v4 = true
  · rw [if_pos q, if_pos q]
    obtain ⟨r, e1, e2, e3, e4⟩ := okTable_rules hA.1 q
    refine ⟨⟨r, hA.2⟩, _, rfl, by rw [st2_s, if_neg (by omega), st2_s, if_neg (by omega), st2_s, if_neg (by omega), st2_s, if_neg (by omega), th_s], ?_⟩
    refine ⟨fun k hk => ?_, ?_, ?_, ?_, ?_, ?_, h.2.2.2.2.2.2⟩
    · rw [st2_s, st2_s, st2_s, st2_s, st2_s]
      show _ = nI (if k = 2 then nV v1 else if k = 3 then nV v2 else if k = 4 then nV v3 else if k = 5 then nV v4 else A.1 k)
      by_cases k2 : k = 2
      · rw [if_neg (by omega), if_neg (by omega), if_neg (by omega), if_pos (by omega), if_pos k2]; exact e1
      · by_cases k3 : k = 3
        · rw [if_neg (by omega), if_neg (by omega), if_pos (by omega), if_neg k2, if_pos k3]; exact e2
        · by_cases k4 : k = 4
          · rw [if_neg (by omega), if_pos (by omega), if_neg k2, if_neg k3, if_pos k4]; exact e3
          · by_cases k5 : k = 5
            · rw [if_pos (by omega), if_neg k2, if_neg k3, if_neg k4, if_pos k5]; exact e4
            · rw [if_neg (by omega), if_neg (by omega), if_neg (by omega), if_neg (by omega), if_neg (by omega), if_neg k2, if_neg k3, if_neg k4, if_neg k5]; exact h.1 k hk
    · exact st0_rr (st0_rr (st0_rr (st0_rr (st0_rr h.2.1 _ _) _ _) _ _) _ _) _ _
    · exact ((((h.2.2.1.st0 (by omega) _).st0 (by omega) _).st0 (by omega) _).st0 (by omega) _).st0 (by omega) _
    · rw [st2_s, if_neg (by omega), st2_s, if_neg (by omega), st2_s, if_neg (by omega), st2_s, if_neg (by omega), st2_s, if_neg (by omega)]; exact h.2.2.2.1
    · rw [st2_s, if_neg (by omega), st2_s, if_neg (by omega), st2_s, if_neg (by omega), st2_s, if_neg (by omega), st2_s, if_neg (by omega)]; exact h.2.2.2.2.1
    · rw [st2_s, if_neg (by omega), st2_s, if_neg (by omega), st2_s, if_neg (by omega), st2_s, if_neg (by omega), st2_s, if_neg (by omega)]; exact h.2.2.2.2.2.1
  · rw [if_neg q, if_neg q]
    exact ⟨hA, _, rfl, th_s _ _, h.th _⟩
def okStock (N : Nat → Nat) (v1 v2 : Int32) : Bool := inB v1 0 8 && (inB v2 0 2 && decide (v1 < nI (N 0 * N 1)))
def setStock (N : Nat → Nat) (v1 v2 : Int32) (b : Bool) : Nat → Nat := fun k => if k = 6 then nV v1 else if k = 7 then nV v2 else if k = 8 then (if b = true then 1 else 0) else N k
def aStock (A : AS) (v1 v2 : Int32) (b : Bool) : Nat × Int32 × AS := if okStock A.1 v1 v2 = true then (0, nI 0, (setStock A.1 v1 v2 b, A.2)) else (1, nI 0, A)
theorem bi_nI (b : Bool) : bi b = nI (if b = true then 1 else 0) := by cases b <;> rfl
theorem okStock_rules {N : Nat → Nat} (hN : RulesOk N) {v1 v2 : Int32} {b : Bool} (h : okStock N v1 v2 = true) : RulesOk (setStock N v1 v2 b) ∧ v1 = nI (nV v1) ∧ v2 = nI (nV v2) := by
  unfold okStock at h
  simp only [Bool.and_eq_true, decide_eq_true_eq] at h
  obtain ⟨h1, h2, h3⟩ := h
  obtain ⟨e1, a1, b1⟩ := inB_nV (by omega) (by omega) h1
  obtain ⟨e2, a2, b2⟩ := inB_nV (by omega) (by omega) h2
  refine ⟨?_, e1, e2⟩
  unfold RulesOk at hN ⊢
  rw [e1, Int32.lt_iff_toInt_lt, nI_toInt (by omega), nI_toInt (by omega)] at h3
  have hb : (if b = true then 1 else 0) ≤ 1 := by cases b <;> decide
  show 1 ≤ N 0 ∧ N 0 ≤ 4 ∧ 1 ≤ N 1 ∧ N 1 ≤ 6 ∧ 2 ≤ N 0 * N 1 ∧ N 0 * N 1 ≤ 16 ∧ 1 ≤ N 2 ∧ N 2 ≤ 5 ∧ N 3 ≤ 2 ∧ N 4 ≤ 2 ∧ N 5 ≤ 2 ∧ nV v1 ≤ 8 ∧ nV v1 < N 0 * N 1 ∧ nV v2 ≤ 2 ∧ (if b = true then 1 else 0) ≤ 1
  omega
theorem M_stock {A : AS} {I : Nat → Nat → Int32} {L : Nat → Nat → Int64} (hA : okA A) (h : MSt A I L) (v1 v2 : Int32) (b : Bool) :
    okA (aStock A v1 v2 b).2.2 ∧ ∃ I', F_X6_stock L I v1 v2 (bi b) = some I' ∧ I' 0 0 = nI (aStock A v1 v2 b).1 ∧ MSt (aStock A v1 v2 b).2.2 I' L := by
  have e0 : I 0 1 * I 0 2 = nI (A.1 0 * A.1 1) := by rw [show I 0 1 = nI (A.1 0) from h.1 0 (by omega), show I 0 2 = nI (A.1 1) from h.1 1 (by omega), pk_mul]
  have e : F_X6_stock L I v1 v2 (bi b) = if okStock A.1 v1 v2 = true then some (st2 (st2 (st2 (st2 I 0 0 (nI 0)) 0 7 v1) 0 8 v2) 0 9 (bi b)) else some (st2 I 0 0 (nI 1)) := by
    unfold F_X6_stock F_X6_stock_b38
    rw [well0, well1 _ _ (Or.inl rfl), bnd_s, bnd_s, zb_bi, bnd_s, m_inB, cal1_s, bi_if, m_inB, cal1_s, bi_if, e0]
    unfold okStock
    cases inB v1 0 8 <;> cases inB v2 0 2 <;> simp only [Bool.true_and, Bool.false_and, if_true, Bool.false_eq_true, if_false]
    by_cases q : v1 < nI (A.1 0 * A.1 1)
    · rw [decide_eq_true q, if_neg (Int32.not_le.mpr q), if_pos rfl]
    · rw [decide_eq_false q, if_pos (Int32.not_lt.mp q), if_neg Bool.false_ne_true]
  rw [e]
  unfold aStock
  by_cases q : okStock A.1 v1 v2 = true
  · rw [if_pos q, if_pos q]
    obtain ⟨r, e1, e2⟩ := okStock_rules (b := b) hA.1 q
    refine ⟨⟨r, hA.2⟩, _, rfl, by rw [st2_s, if_neg (by omega), st2_s, if_neg (by omega), st2_s, if_neg (by omega), th_s], ?_⟩
    refine ⟨fun k hk => ?_, ?_, ?_, ?_, ?_, ?_, h.2.2.2.2.2.2⟩
    · rw [st2_s, st2_s, st2_s, st2_s]
      show _ = nI (if k = 6 then nV v1 else if k = 7 then nV v2 else if k = 8 then (if b = true then 1 else 0) else A.1 k)
      by_cases k6 : k = 6
      · rw [if_neg (by omega), if_neg (by omega), if_pos (by omega), if_pos k6]; exact e1
      · by_cases k7 : k = 7
        · rw [if_neg (by omega), if_pos (by omega), if_neg k6, if_pos k7]; exact e2
        · by_cases k8 : k = 8
          · rw [if_pos (by omega), if_neg k6, if_neg k7, if_pos k8]; exact bi_nI b
          · rw [if_neg (by omega), if_neg (by omega), if_neg (by omega), if_neg (by omega), if_neg k6, if_neg k7, if_neg k8]; exact h.1 k hk
    · exact st0_rr (st0_rr (st0_rr (st0_rr h.2.1 _ _) _ _) _ _) _ _
    · exact (((h.2.2.1.st0 (by omega) _).st0 (by omega) _).st0 (by omega) _).st0 (by omega) _
    · rw [st2_s, if_neg (by omega), st2_s, if_neg (by omega), st2_s, if_neg (by omega), st2_s, if_neg (by omega)]; exact h.2.2.2.1
    · rw [st2_s, if_neg (by omega), st2_s, if_neg (by omega), st2_s, if_neg (by omega), st2_s, if_neg (by omega)]; exact h.2.2.2.2.1
    · rw [st2_s, if_neg (by omega), st2_s, if_neg (by omega), st2_s, if_neg (by omega), st2_s, if_neg (by omega)]; exact h.2.2.2.2.2.1
  · rw [if_neg q, if_neg q]
    exact ⟨hA, _, rfl, th_s _ _, h.th _⟩
end
section
/-! ===== the second reading: what is told ===== -/
theorem pos_nV {v : Int32} (h : ¬ v < nI 0) : v = nI (nV v) ∧ nV v < 2 ^ 31 := by
  rw [Int32.lt_iff_toInt_lt, nI_toInt (by omega)] at h
  have := Int32.toInt_lt v
  unfold nV
  refine ⟨Int32.toInt_inj.mp ?_, by omega⟩
  rw [nI_toInt (by omega)]; omega
def aMoves (A : AS) : Nat × Int32 × AS := (0, nI (mvs A.2.1 (cur A.2.2.1)).length, A)
def aMoveAt (A : AS) (v : Int32) : Nat × Int32 × AS := if v < nI 0 then (1, nI 0, A) else (0, optI (mvs A.2.1 (cur A.2.2.1))[nV v]?, A)
def okCard (v1 v2 : Int32) : Bool := inB v1 0 9 && decide (¬ v2 < nI 0)
def aCard (A : AS) (v1 v2 : Int32) : Nat × Int32 × AS := if okCard v1 v2 = true then (0, cardA A.2.1 (cur A.2.2.1) (nV v1) (nV v2), A) else (1, nI 0, A)
def aTold (A : AS) (v : Int32) : Nat × Int32 × AS := if inB v 0 7 = true then (0, toldA A.2.1 (cur A.2.2.1) (A.2.2.1.length - 1) A.2.2.2.1 A.2.2.2.2.1 (nV v), A) else (1, nI 0, A)
def aSearch (A : AS) (v : Int32) : Nat × Int32 × AS := if inB v 1 400 = true then (0, (searchA A.2.1 (nV v) (cur A.2.2.1)).1, A) else (1, nI 0, A)
def aKnown (A : AS) (v : Int32) : Nat × Int32 × AS := if inB v 1 400 = true then (0, nI (searchA A.2.1 (nV v) (cur A.2.2.1)).2.length, A) else (1, nI 0, A)
theorem M_moves {A : AS} {I : Nat → Nat → Int32} {L : Nat → Nat → Int64} (hA : okA A) (h : MSt A I L) :
    ∃ I', F_X6_moves L I = some ((aMoves A).2.1, I') ∧ I' 0 0 = nI (aMoves A).1 ∧ MSt (aMoves A).2.2 I' L :=
  ⟨_, m_moves h.2.2.1 hA.wf h.2.1, th_s _ _, h.th _⟩
theorem M_moveAt {A : AS} {I : Nat → Nat → Int32} {L : Nat → Nat → Int64} (hA : okA A) (h : MSt A I L) (v : Int32) :
    ∃ I', F_X6_moveAt L I v = some ((aMoveAt A v).2.1, I') ∧ I' 0 0 = nI (aMoveAt A v).1 ∧ MSt (aMoveAt A v).2.2 I' L := by
  unfold aMoveAt
  by_cases q : v < nI 0
  · rw [if_pos q]
    exact ⟨_, m_moveAt_neg q, th_s _ _, h.th _⟩
  · rw [if_neg q]
    obtain ⟨e, hv⟩ := pos_nV q
    have := m_moveAt h.2.2.1 hA.wf h.2.1 hv
    rw [← e] at this
    exact ⟨_, this, th_s _ _, h.th _⟩
theorem M_card {A : AS} {I : Nat → Nat → Int32} {L : Nat → Nat → Int64} (hA : okA A) (h : MSt A I L) (v1 v2 : Int32) :
    ∃ I', F_X6_card L I v1 v2 = some ((aCard A v1 v2).2.1, I') ∧ I' 0 0 = nI (aCard A v1 v2).1 ∧ MSt (aCard A v1 v2).2.2 I' L := by
  have no : F_X6_card_b20 L I v1 v2 (nI 1) = some (nI 0, st2 I 0 0 (nI 1)) := by
    unfold F_X6_card_b20
    rw [well1 _ _ (Or.inl rfl)]
  unfold aCard okCard
  cases q : inB v1 0 9
  · refine ⟨st2 I 0 0 (nI 1), ?_, th_s _ _, h.th _⟩
    unfold F_X6_card
    rw [m_inB, cal1_s, q, bi_if, if_neg Bool.false_ne_true, no]; rfl
  · by_cases q2 : v2 < nI 0
    · rw [decide_eq_false (Classical.not_not.mpr q2)]
      refine ⟨st2 I 0 0 (nI 1), ?_, th_s _ _, h.th _⟩
      unfold F_X6_card
      rw [m_inB, cal1_s, q, bi_if, if_pos rfl, if_pos q2, no]; rfl
    · rw [decide_eq_true q2]
      obtain ⟨e, hv⟩ := pos_nV q2
      obtain ⟨e1, -, b1⟩ := inB_nV (by omega) (by omega) q
      have := m_card h.2.2.1 hA.wf h.2.1 (p := nV v1) (by omega) hv
      rw [← e, ← e1] at this
      exact ⟨_, this, th_s _ _, h.th _⟩
theorem M_told {A : AS} {I : Nat → Nat → Int32} {L : Nat → Nat → Int64} (hA : okA A) (h : MSt A I L) (v : Int32) :
    ∃ I', F_X6_told L I v = some ((aTold A v).2.1, I') ∧ I' 0 0 = nI (aTold A v).1 ∧ MSt (aTold A v).2.2 I' L := by
  unfold aTold
  cases q : inB v 0 7
  · refine ⟨st2 I 0 0 (nI 1), ?_, th_s _ _, h.th _⟩
    unfold F_X6_told F_X6_told_b16
    rw [well1 _ _ (Or.inl rfl), m_inB, cal1_s, q, bi_if, if_neg Bool.false_ne_true]; rfl
  · obtain ⟨e1, -, b1⟩ := inB_nV (by omega) (by omega) q
    have := m_told h.2.2.1 hA.wf h.2.1 h.2.2.2.1 h.2.2.2.2.1 (k := nV v) (by omega)
    rw [← e1, h.2.2.2.2.2.1] at this
    exact ⟨_, this, th_s _ _, h.th _⟩
theorem FrM.th {I I' : Nat → Nat → Int32} {x : Int32} (h : FrM (st2 I 0 0 x) I') : I' 0 0 = x := by
  rw [h.2 0 (by omega) (by omega) (by omega) (by omega)]; exact th_s I x
theorem M_search {A : AS} {I : Nat → Nat → Int32} {L : Nat → Nat → Int64} (hA : okA A) (h : MSt A I L) (v : Int32) : MStep (F_X6_search I L v) (aSearch A v) := by
  unfold aSearch
  cases q : inB v 1 400
  · refine ⟨st2 I 0 0 (nI 1), L, ?_, th_s _ _, h.th _⟩
    unfold F_X6_search F_X6_search_b17
    rw [well1 _ _ (Or.inl rfl), m_inB, cal1_s, q, bi_if, if_neg Bool.false_ne_true]; rfl
  · obtain ⟨e1, a1, b1⟩ := inB_nV (by omega) (by omega) q
    obtain ⟨I', L', z1, z2, z3, z4⟩ := m_search h.2.2.1 hA.wf h.2.1 a1 b1
    rw [← e1] at z1
    exact ⟨I', L', z1, z3.th, (h.th (nI 0)).fr z3 z4.1 z2⟩
theorem M_known {A : AS} {I : Nat → Nat → Int32} {L : Nat → Nat → Int64} (hA : okA A) (h : MSt A I L) (v : Int32) : MStep (F_X6_known I L v) (aKnown A v) := by
  unfold aKnown
  cases q : inB v 1 400
  · refine ⟨st2 I 0 0 (nI 1), L, ?_, th_s _ _, h.th _⟩
    unfold F_X6_known F_X6_known_b17
    rw [well1 _ _ (Or.inl rfl), m_inB, cal1_s, q, bi_if, if_neg Bool.false_ne_true]; rfl
  · obtain ⟨e1, a1, b1⟩ := inB_nV (by omega) (by omega) q
    obtain ⟨I', L', z1, z2, z3, z4⟩ := m_known h.2.2.1 hA.wf h.2.1 a1 b1
    rw [← e1] at z1
    exact ⟨I', L', z1, z3.th, (h.th (nI 0)).fr z3 z4.1 z2⟩
end
section
/-! ===== the second reading: deal, move, undo, safe ===== -/
theorem m_takeRules {I : Nat → Nat → Int32} {L : Nat → Nat → Int64} {N : Nat → Nat} (hN : ∀ k, k < 9 → I 0 (k + 1) = nI (N k)) (rN : RulesOk N) :
    ∃ I', F_X6_takeRules L I = some I' ∧ RR (I' 1) N ∧ ∀ a, a ≠ 1 → I' a = I a := by
  have n8 : N 8 ≤ 1 := rN.2.2.2.2.2.2.2.2.2.2.2.2.2.2
  have g : ∀ x : Int32, x = nI (N 8) → ∃ I', F_X6_takeRules_b100 L (st2 (st2 (st2 (st2 (st2 (st2 (st2 (st2 I 1 0 (I 0 1)) 1 1 (I 0 2)) 1 2 (I 0 3)) 1 3 (I 0 4)) 1 4 (I 0 5)) 1 5 (I 0 6)) 1 6 (I 0 7)) 1 7 (I 0 8)) (nI 8) x = some I' ∧ RR (I' 1) N ∧ ∀ a, a ≠ 1 → I' a = I a := by
    intro x hx
    unfold F_X6_takeRules_b100
    rw [wrA_n _ (by omega) (by omega)]
    refine ⟨_, rfl, ⟨fun k hk => ?_, rN⟩, fun a ha => funext fun j => ?_⟩
    · simp only [st2_s]
      have hk' : k = 0 ∨ k = 1 ∨ k = 2 ∨ k = 3 ∨ k = 4 ∨ k = 5 ∨ k = 6 ∨ k = 7 ∨ k = 8 := by omega
      rcases hk' with rfl | rfl | rfl | rfl | rfl | rfl | rfl | rfl | rfl
      · simp; exact hN 0 (by omega)
      · simp; exact hN 1 (by omega)
      · simp; exact hN 2 (by omega)
      · simp; exact hN 3 (by omega)
      · simp; exact hN 4 (by omega)
      · simp; exact hN 5 (by omega)
      · simp; exact hN 6 (by omega)
      · simp; exact hN 7 (by omega)
      · simp; exact hx
    · simp only [st2_s, ha, false_and, if_false]
  unfold F_X6_takeRules
  rw [wrA_n _ (by omega) (by omega), wrA_n _ (by omega) (by omega), wrA_n _ (by omega) (by omega), wrA_n _ (by omega) (by omega), wrA_n _ (by omega) (by omega), wrA_n _ (by omega) (by omega), wrA_n _ (by omega) (by omega), wrA_n _ (by omega) (by omega)]
  have r0 : ∀ (k : Nat) (x : Int32) (J : Nat → Nat → Int32) (j : Nat), st2 J 1 k x 0 j = J 0 j := fun k x J j => by rw [st2_s, if_neg (by omega)]
  simp only [r0]
  have e9 : I 0 9 = nI (N 8) := hN 8 (by omega)
  by_cases q : I 0 9 = nI 0
  · rw [if_pos q]; exact g _ (q.symm.trans e9)
  · rw [if_neg q]
    refine g _ ?_
    have : N 8 = 1 := by
      rcases Nat.lt_or_ge (N 8) 1 with z | z
      · exact absurd (e9.trans (by rw [show N 8 = 0 by omega])) q
      · omega
    rw [this]
theorem MRep.off1 {I I' : Nat → Nat → Int32} {L : Nat → Nat → Int64} {P : Pos} (h : MRep I L P) (g : ∀ a, a ≠ 1 → I' a = I a) : MRep I' L P := by
  refine ⟨fun p hp => ?_, fun j hj => ?_, fun s hs => ?_, ⟨?_, fun i hi => ?_⟩, ⟨?_, fun i hi => ?_⟩, ?_⟩
  · rw [g 3 (by omega), g 4 (by omega)]; exact h.1 p hp
  · rw [g 5 (by omega)]; exact h.2.1 j hj
  · rw [g 6 (by omega)]; exact h.2.2.1 s hs
  · rw [g 0 (by omega)]; exact h.2.2.2.1.1
  · rw [g 7 (by omega)]; exact h.2.2.2.1.2 i hi
  · rw [g 0 (by omega)]; exact h.2.2.2.2.1.1
  · rw [g 8 (by omega)]; exact h.2.2.2.2.1.2 i hi
  · rw [g 0 (by omega)]; exact h.2.2.2.2.2
theorem cur_one (P : Pos) : cur [P] = P := rfl
theorem cur_app (l : List Pos) (P : Pos) : cur (l ++ [P]) = P := by unfold cur; rw [List.getLast?_append]; rfl
def okDeal (v1 v2 : Int32) : Bool := inB v1 0 1 && inB v2 0 1000000
def aDeal (A : AS) (v1 v2 : Int32) : Nat × Int32 × AS := if okDeal v1 v2 = true then (0, nI (A.1 0 * A.1 1) - nI (A.1 6), (A.1, A.1, [dealP A.1 (nV v1) (nV v2)], 0, A.2.2.2.2.1 + moneyA (cur A.2.2.1) (A.2.2.1.length - 1) A.2.2.2.1, nV v1, nV v2)) else (1, nI 0, A)
theorem wf_dealP {R : Nat → Nat} (hR : RulesOk R) {mc x : Nat} (hm : mc < 2) : WF R (dealP R mc x) := wf_deal hR (deal_inv hR hm)
theorem M_deal {A : AS} {I : Nat → Nat → Int32} {L : Nat → Nat → Int64} (hA : okA A) (h : MSt A I L) (v1 v2 : Int32) :
    okA (aDeal A v1 v2).2.2 ∧ MStep (F_X6_deal I L v1 v2) (aDeal A v1 v2) := by
  unfold aDeal
  by_cases q : okDeal v1 v2 = true
  · rw [if_pos q]
    have q' := q
    unfold okDeal at q'
    rw [Bool.and_eq_true] at q'
    obtain ⟨e1, -, b1⟩ := inB_nV (by omega) (by omega) q'.1
    obtain ⟨e2, -, b2⟩ := inB_nV (by omega) (by omega) q'.2
    have hm : nV v1 < 2 := by omega
    have w := wf_dealP hA.1 hm (x := nV v2)
    refine ⟨⟨hA.1, hA.1, Nat.le_refl 1, show 1 ≤ 201 by omega, fun P hP => ?_, rfl, hm, show nV v2 < 2147483648 by omega⟩, ?_⟩
    · rw [List.mem_singleton] at hP; rw [hP]; exact w
    have h1 := h.th (nI 0)
    obtain ⟨I1, a1, a2, a3⟩ := m_takeRules (L := L) (I := st2 (st2 I 0 0 (nI 0)) 0 14 (A.2.2.2.2.1 + moneyA (cur A.2.2.1) (A.2.2.1.length - 1) A.2.2.2.1)) (N := A.1) (fun k hk => by rw [st2_s, if_neg (by omega)]; exact h1.1 k hk) hA.1
    obtain ⟨I2, L2, c1, c2, c3, c4⟩ := m_lay (I := I1) (L := L) hm (show nV v2 < 2147483648 by omega) a2 (deal_inv hA.1 hm)
    have hC := (c2.st0 (k := 13) (by omega) (nI 0)).st0 (k := 12) (by omega) (nI 0)
    obtain ⟨L3, d1, d2⟩ := m_store (cc := 1) (nn := 1616) (o := 0) hC (w.kok hA.1) (by omega) (by omega) (by omega)
    have r1 : ∀ k, st2 (st2 I2 0 13 (nI 0)) 0 12 (nI 0) 1 k = I1 1 k := fun k => by rw [st2_s, if_neg (by omega), st2_s, if_neg (by omega), c3.1 1 (by omega)]
    have x0 : ∀ j, j ≤ 14 → j ≠ 12 → j ≠ 13 → st2 (st2 I2 0 13 (nI 0)) 0 12 (nI 0) 0 j = st2 (st2 I 0 0 (nI 0)) 0 14 (A.2.2.2.2.1 + moneyA (cur A.2.2.1) (A.2.2.1.length - 1) A.2.2.2.1) 0 j := fun j h1 h2 h3 => by
      rw [st2_s, if_neg (by omega), st2_s, if_neg (by omega), c3.2 j (by omega) (by omega) (by omega), a3 0 (by omega)]
    refine ⟨st2 (st2 I2 0 13 (nI 0)) 0 12 (nI 0), L3, ?_, ?_, ?_⟩
    · unfold F_X6_deal F_X6_deal_b25
      rw [well0, m_inB, cal1_s, bi_if, if_pos q'.1, m_inB, cal1_s, bi_if, if_pos q'.2, m_money h1.2.2.1 h1.2.2.2.1 h1.2.2.2.2.1, cal1_s, bnd_s, h1.2.2.2.2.2.1, a1, cal1_s]
      rw [← e1, ← e2] at c1
      rw [c1, cal2_s, bnd_s, bnd_s, d1, cal1_s, rdA_n _ (by omega) (by omega), rdA_n _ (by omega) (by omega), rdA_n _ (by omega) (by omega), r1, r1, r1, a2.1 0 (by omega), a2.1 1 (by omega), a2.1 6 (by omega), pk_mul]
    · rw [x0 0 (by omega) (by omega) (by omega), st2_s, if_neg (by omega)]; exact th_s _ _
    · refine ⟨fun k hk => ?_, ⟨fun k hk => by rw [r1]; exact a2.1 k hk, hA.1⟩, hC.atL (funext fun j => d2.2 0 j (by omega)), ?_, ?_, ?_, ?_⟩
      · by_cases k11 : k = 11 ∨ k = 12
        · omega
        · rw [x0 (k + 1) (by omega) (by omega) (by omega), st2_s, if_neg (by omega)]; exact h1.1 k hk
      · rw [st2_s, if_neg (by omega), st2_s, if_pos ⟨rfl, rfl⟩]; rfl
      · rw [st2_s, if_pos ⟨rfl, rfl⟩]
      · rw [x0 14 (by omega) (by omega) (by omega), st2_s, if_pos ⟨rfl, rfl⟩]
      · intro i P hi j hj
        have h0 := (List.getElem?_eq_some_iff.mp hi).1
        simp only [List.length_cons, List.length_nil] at h0
        obtain rfl : i = 0 := by omega
        simp only [List.getElem?_cons_zero, Option.some.injEq] at hi
        subst hi
        exact d2.1 j hj
  · rw [if_neg q]
    refine ⟨hA, st2 I 0 0 (nI 1), L, ?_, th_s _ _, h.th _⟩
    unfold okDeal at q
    unfold F_X6_deal F_X6_deal_b25
    rw [well1 _ _ (Or.inl rfl), m_inB, cal1_s, bi_if, m_inB, cal1_s, bi_if]
    cases q1 : inB v1 0 1
    · rw [if_neg Bool.false_ne_true]
    · cases q2 : inB v2 0 1000000
      · rw [if_pos rfl, if_neg Bool.false_ne_true]
      · rw [q1, q2] at q; exact absurd rfl q
end
section
/-! ===== the second reading: move, undo, safe ===== -/
def okArg (v1 v2 v3 : Int32) : Bool := inB v1 0 9 && (decide (¬ v1 = nI 8) && (inB v2 0 8 && (decide (¬ v1 = v2) && (inB v3 1 16 && (decide (v3 = nI 1) || (decide (¬ nI 5 ≤ v1) && decide (¬ nI 5 ≤ v2)))))))
def okDo (A : AS) (v1 v2 v3 : Int32) : Bool := decide (A.2.2.1.length - 1 < 200) && legal A.2.1 (cur A.2.2.1) (nV v1) (nV v2) (nV v3)
def afterMove (A : AS) (v1 v2 v3 : Int32) : Pos := playP A.2.1 (cur A.2.2.1) (nV v1) (nV v2) (nV v3)
def aMove (A : AS) (v1 v2 v3 : Int32) : Nat × Int32 × AS :=
  if okArg v1 v2 v3 = true then (if okDo A v1 v2 v3 = true then (0, nI (upN (afterMove A v1 v2 v3)), (A.1, A.2.1, A.2.2.1 ++ [afterMove A v1 v2 v3], A.2.2.2)) else (2, nI 0, A)) else (1, nI 0, A)
theorem okArg_facts {v1 v2 v3 : Int32} (h : okArg v1 v2 v3 = true) : v1 = nI (nV v1) ∧ v2 = nI (nV v2) ∧ v3 = nI (nV v3) ∧ nV v1 < 10 ∧ nV v2 < 9 ∧ 1 ≤ nV v3 ∧ nV v3 ≤ 16 ∧ (nV v3 = 1 ∨ (nV v1 < 5 ∧ nV v2 < 5)) := by
  unfold okArg at h
  simp only [Bool.and_eq_true, Bool.or_eq_true, decide_eq_true_eq] at h
  obtain ⟨h1, -, h2, -, h3, h4⟩ := h
  obtain ⟨e1, a1, b1⟩ := inB_nV (by omega) (by omega) h1
  obtain ⟨e2, a2, b2⟩ := inB_nV (by omega) (by omega) h2
  obtain ⟨e3, a3, b3⟩ := inB_nV (by omega) (by omega) h3
  refine ⟨e1, e2, e3, by omega, by omega, a3, b3, ?_⟩
  rcases h4 with z | ⟨z1, z2⟩
  · left; rw [z]; unfold nV; rw [nI_toInt (by omega)]; rfl
  · right
    rw [e1, Int32.le_iff_toInt_le, nI_toInt (by omega), nI_toInt (by omega)] at z1
    rw [e2, Int32.le_iff_toInt_le, nI_toInt (by omega), nI_toInt (by omega)] at z2
    omega
theorem playP_wf {A : AS} (hA : okA A) {v1 v2 v3 : Int32} (h : okArg v1 v2 v3 = true) (hd : okDo A v1 v2 v3 = true) : WF A.2.1 (afterMove A v1 v2 v3) := by
  obtain ⟨e1, e2, e3, b1, b2, b3, b4, b5⟩ := okArg_facts h
  unfold okDo at hd
  rw [Bool.and_eq_true] at hd
  exact wf_play hA.wf hA.2.1 b3 b5 hd.2
theorem okA.push {A : AS} (hA : okA A) {P : Pos} (w : WF A.2.1 P) (h : A.2.2.1.length ≤ 200) : okA (A.1, A.2.1, A.2.2.1 ++ [P], A.2.2.2) := by
  refine ⟨hA.1, hA.2.1, ?_, ?_, fun Q hQ => ?_, ?_, hA.2.2.2.2.2.2⟩
  · show 1 ≤ (A.2.2.1 ++ [P]).length
    rw [List.length_append]; have := hA.2.2.1; omega
  · show (A.2.2.1 ++ [P]).length ≤ 201
    rw [List.length_append, List.length_singleton]; omega
  · rcases List.mem_append.mp hQ with z | z
    · exact hA.2.2.2.2.1 Q z
    · rw [List.mem_singleton] at z; rw [z]; exact w
  · show (A.2.2.1 ++ [P])[0]? = _
    rw [List.getElem?_append_left (by have := hA.2.2.1; omega)]; exact hA.2.2.2.2.2.1
theorem F_move_arg (I : Nat → Nat → Int32) (L : Nat → Nat → Int64) (v1 v2 v3 : Int32) : F_X6_move I L v1 v2 v3 = if okArg v1 v2 v3 = true then F_X6_move_b61 I L v1 v2 v3 (nI 1) else F_X6_move_b61 I L v1 v2 v3 (nI 0) := by
  unfold F_X6_move okArg
  rw [m_inB, cal1_s, bi_if, m_inB, cal1_s, bi_if, m_inB, cal1_s, bi_if]
  cases inB v1 0 9
  · rw [if_neg Bool.false_ne_true]; rfl
  rw [if_pos rfl]
  by_cases q8 : v1 = nI 8
  · rw [if_pos q8, decide_eq_false (Classical.not_not.mpr q8)]; rfl
  rw [if_neg q8, decide_eq_true q8]
  cases inB v2 0 8
  · rw [if_neg Bool.false_ne_true]; rfl
  rw [if_pos rfl]
  by_cases q2 : v1 = v2
  · rw [if_pos q2, decide_eq_false (Classical.not_not.mpr q2)]; rfl
  rw [if_neg q2, decide_eq_true q2]
  cases inB v3 1 16
  · rw [if_neg Bool.false_ne_true]; rfl
  rw [if_pos rfl]
  by_cases q3 : v3 = nI 1
  · rw [if_pos q3, decide_eq_true q3]; rfl
  rw [if_neg q3, decide_eq_false q3]
  by_cases q4 : nI 5 ≤ v1
  · rw [if_pos q4, decide_eq_false (Classical.not_not.mpr q4)]; rfl
  rw [if_neg q4, decide_eq_true q4]
  by_cases q5 : nI 5 ≤ v2
  · rw [if_pos q5, decide_eq_false (Classical.not_not.mpr q5)]; rfl
  rw [if_neg q5, decide_eq_true q5]; rfl
theorem M_move {A : AS} {I : Nat → Nat → Int32} {L : Nat → Nat → Int64} (hA : okA A) (h : MSt A I L) (v1 v2 v3 : Int32) :
    okA (aMove A v1 v2 v3).2.2 ∧ MStep (F_X6_move I L v1 v2 v3) (aMove A v1 v2 v3) := by
  rw [F_move_arg]
  unfold aMove
  have hlen := hA.2.2.1
  have hlen2 := hA.2.2.2.1
  by_cases q : okArg v1 v2 v3 = true
  · rw [if_pos q, if_pos q]
    obtain ⟨e1, e2, e3, b1, b2, b3, b4, b5⟩ := okArg_facts q
    have g : F_X6_move_b61 I L v1 v2 v3 (nI 1) = if okDo A v1 v2 v3 = true then F_X6_move_b98 I L v1 v2 v3 (nI 0) else F_X6_move_b98 I L v1 v2 v3 (nI 2) := by
      unfold F_X6_move_b61 okDo
      rw [if_neg (show ¬ nI 1 = nI 0 by decide), h.2.2.2.1]
      by_cases q2 : A.2.2.1.length - 1 < 200
      · have := m_isMove h.2.2.1 hA.wf h.2.1 b1 b2 b3 b4 b5
        rw [← e1, ← e2, ← e3] at this
        rw [if_neg (fun y => by have := (nI_eq (by omega) (by omega)).mp y; omega), this, cal1_s, bi_if, decide_eq_true q2, Bool.true_and]
      · rw [if_pos (by rw [show A.2.2.1.length - 1 = 200 by omega]), decide_eq_false q2, Bool.false_and, if_neg Bool.false_ne_true]
    rw [g]
    by_cases q2 : okDo A v1 v2 v3 = true
    · rw [if_pos q2, if_pos q2]
      have w := playP_wf hA q q2
      have q2' := q2
      unfold okDo at q2'
      rw [Bool.and_eq_true, decide_eq_true_eq] at q2'
      refine ⟨hA.push w (by omega), ?_⟩
      have h1 := h.th (nI 0)
      obtain ⟨I1, L1, a1, a2, a3, a4, a5, a6⟩ := m_doMove (done := A.2.2.1.length - 1) h1.2.2.1 hA.wf h1.2.1 b2 b3 b4 b5 q2'.2 h1.2.2.2.1 q2'.1 h1.2.2.2.2.2.2 (by omega)
      rw [← e1, ← e2, ← e3] at a1
      refine ⟨I1, L1, ?_, ?_, ?_⟩
      · unfold F_X6_move_b98
        rw [well0, a1, cal2_s, m_atHome a2, cal1_s]; rfl
      · rw [a5.2 0 (by omega) (by omega) (by omega) (by omega)]; exact th_s _ _
      · refine ⟨fun k hk => ?_, ?_, ?_, ?_, ?_, ?_, a4⟩
        · rw [a5.2 (k + 1) (by omega) (by omega) (by omega) (by omega)]; exact h1.1 k hk
        · rw [a5.1 1 (by omega)]; exact h1.2.1
        · show MRep I1 L1 (cur (A.2.2.1 ++ [afterMove A v1 v2 v3]))
          rw [cur_app]; exact a2
        · show I1 0 13 = nI ((A.2.2.1 ++ [afterMove A v1 v2 v3]).length - 1)
          rw [List.length_append, List.length_singleton, a3]
          congr 1
          omega
        · rw [a5.2 12 (by omega) (by omega) (by omega) (by omega)]; exact h1.2.2.2.2.1
        · rw [a5.2 14 (by omega) (by omega) (by omega) (by omega)]; exact h1.2.2.2.2.2.1
    · rw [if_neg q2, if_neg q2]
      refine ⟨hA, st2 I 0 0 (nI 2), L, ?_, th_s _ _, h.th _⟩
      unfold F_X6_move_b98
      rw [well1 _ _ (Or.inr rfl)]
  · rw [if_neg q, if_neg q]
    refine ⟨hA, st2 I 0 0 (nI 1), L, ?_, th_s _ _, h.th _⟩
    unfold F_X6_move_b61 F_X6_move_b98
    rw [if_pos rfl, well1 _ _ (Or.inl rfl)]
def backN (A : AS) (v : Int32) : Nat := if A.2.2.1.length - 1 ≤ nV v then A.2.2.1.length - 1 else nV v
def aUndo (A : AS) (v : Int32) : Nat × Int32 × AS := if inB v 1 200 = true then (0, nI (backN A v), (A.1, A.2.1, A.2.2.1.take (A.2.2.1.length - 1 - backN A v + 1), A.2.2.2.1 + backN A v, A.2.2.2.2)) else (1, nI 0, A)
theorem cur_take (l : List Pos) {n : Nat} (h : n < l.length) {Q : Pos} (e : l[n]? = some Q) : cur (l.take (n + 1)) = Q := by
  unfold cur
  rw [List.getLast?_eq_getElem?, List.length_take, show min (n + 1) l.length - 1 = n by omega, List.getElem?_take, if_pos (by omega), e]; rfl
theorem M_undo {A : AS} {I : Nat → Nat → Int32} {L : Nat → Nat → Int64} (hA : okA A) (h : MSt A I L) (v : Int32) :
    okA (aUndo A v).2.2 ∧ MStep (F_X6_undo I L v) (aUndo A v) := by
  unfold aUndo
  have hlen := hA.2.2.1
  have hlen2 := hA.2.2.2.1
  cases q : inB v 1 200
  · refine ⟨hA, st2 I 0 0 (nI 1), L, ?_, th_s _ _, h.th _⟩
    unfold F_X6_undo F_X6_undo_b17
    rw [well1 _ _ (Or.inl rfl), m_inB, cal1_s, q, bi_if, if_neg Bool.false_ne_true]; rfl
  · rw [if_pos rfl]
    obtain ⟨e1, a1, b1⟩ := inB_nV (by omega) (by omega) q
    have hb : backN A v ≤ A.2.2.1.length - 1 := by unfold backN; split <;> omega
    have hlt : A.2.2.1.length - 1 - backN A v < A.2.2.1.length := by omega
    obtain ⟨Q, hQ⟩ : ∃ Q, A.2.2.1[A.2.2.1.length - 1 - backN A v]? = some Q := ⟨_, List.getElem?_eq_getElem hlt⟩
    have wQ := hA.2.2.2.2.1 Q (List.mem_of_getElem? hQ)
    refine ⟨⟨hA.1, hA.2.1, ?_, ?_, fun P hP => hA.2.2.2.2.1 P (List.mem_of_mem_take hP), ?_, hA.2.2.2.2.2.2⟩, ?_⟩
    · show 1 ≤ (A.2.2.1.take _).length
      rw [List.length_take]; omega
    · show (A.2.2.1.take _).length ≤ 201
      rw [List.length_take]; omega
    · show (A.2.2.1.take _)[0]? = _
      rw [List.getElem?_take, if_pos (by omega)]; exact hA.2.2.2.2.2.1
    have h1 := h.th (nI 0)
    obtain ⟨I1, L1, c1, c2, c3, c4, c5, c6, c7, -⟩ := m_undo41 (s := backN A v) hA.2.1 h1.2.2.2.1 h1.2.2.2.2.1 (by omega) hb h1.2.2.2.2.2.2 hQ wQ
    refine ⟨I1, L1, ?_, ?_, ?_⟩
    · unfold F_X6_undo F_X6_undo_b17
      rw [well0, m_inB, cal1_s, q, bi_if, if_pos rfl, h1.2.2.2.1]
      unfold backN at c1
      by_cases q2 : A.2.2.1.length - 1 ≤ nV v
      · rw [if_pos q2] at c1
        rw [if_pos (by rw [e1]; exact nI_le q2 (by omega)), c1]; unfold backN; rw [if_pos q2]
      · rw [if_neg q2, ← e1] at c1
        rw [if_neg (by rw [e1]; exact nI_ge (by omega) (by omega)), c1]; unfold backN; rw [if_neg q2, ← e1]
    · rw [c7 0 (by omega) (by omega) (by omega) (by omega) (by omega)]; exact th_s _ _
    · refine ⟨fun k hk => ?_, ?_, ?_, ?_, c4, ?_, c5⟩
      · rw [c7 (k + 1) (by omega) (by omega) (by omega) (by omega) (by omega)]; exact h1.1 k hk
      · rw [c6 1 (by omega)]; exact h1.2.1
      · show MRep I1 L1 (cur (A.2.2.1.take (A.2.2.1.length - 1 - backN A v + 1)))
        rw [cur_take _ hlt hQ]; exact c2
      · show I1 0 13 = nI ((A.2.2.1.take (A.2.2.1.length - 1 - backN A v + 1)).length - 1)
        rw [List.length_take, c3]; congr 1; omega
      · rw [c7 14 (by omega) (by omega) (by omega) (by omega) (by omega)]; exact h1.2.2.2.2.2.1
def safeA (A : AS) : List Pos := safeL A.2.1 (200 - (A.2.2.1.length - 1)) (cur A.2.2.1)
def aSafe (A : AS) : Nat × Int32 × AS := (0, nI (safeA A).length, (A.1, A.2.1, A.2.2.1 ++ safeA A, A.2.2.2))
theorem safeL_len (R : Nat → Nat) : ∀ (n : Nat) (P : Pos), (safeL R n P).length ≤ n
  | 0, _ => Nat.le_refl 0
  | n + 1, P => by
    show (match (List.range 8).find? (safeAt R P) with | none => [] | some f => playP R P f 8 1 :: safeL R n (playP R P f 8 1)).length ≤ n + 1
    cases (List.range 8).find? (safeAt R P) with
    | none => exact Nat.zero_le _
    | some f => exact Nat.succ_le_succ (safeL_len R n _)
theorem safeL_wf {R : Nat → Nat} (hR : RulesOk R) : ∀ (n : Nat) (P : Pos), WF R P → ∀ Q, Q ∈ safeL R n P → WF R Q
  | 0, _, _, Q, h => absurd h List.not_mem_nil
  | n + 1, P, w, Q, h => by
    change Q ∈ (match (List.range 8).find? (safeAt R P) with | none => [] | some f => playP R P f 8 1 :: safeL R n (playP R P f 8 1)) at h
    cases e : (List.range 8).find? (safeAt R P) with
    | none => rw [e] at h; exact absurd h List.not_mem_nil
    | some f =>
      rw [e] at h
      have hs := List.find?_some e
      unfold safeAt at hs
      rw [Bool.and_eq_true] at hs
      have wC := wf_play w hR (Nat.le_refl 1) (Or.inl rfl) hs.1
      rcases List.mem_cons.mp h with z | z
      · rw [z]; exact wC
      · exact safeL_wf hR n _ wC Q z
theorem cur_safe {l : List Pos} (hl : 1 ≤ l.length) (cs : List Pos) : cur (l ++ cs) = (cur l :: cs).getLast (by simp) := by
  cases cs with
  | nil =>
    rw [List.append_nil]; rfl
  | cons c cs =>
    unfold cur
    rw [List.getLast?_append, List.getLast_cons (by simp), List.getLast?_eq_some_getLast (by simp)]; rfl
theorem M_safe {A : AS} {I : Nat → Nat → Int32} {L : Nat → Nat → Int64} (hA : okA A) (h : MSt A I L) :
    okA (aSafe A).2.2 ∧ MStep (F_X6_safe I L) (aSafe A) := by
  have hlen := hA.2.2.1
  have hlen2 := hA.2.2.2.1
  have hc : (safeA A).length ≤ 200 - (A.2.2.1.length - 1) := safeL_len _ _ _
  refine ⟨⟨hA.1, hA.2.1, ?_, ?_, fun Q hQ => ?_, ?_, hA.2.2.2.2.2.2⟩, ?_⟩
  · show 1 ≤ (A.2.2.1 ++ safeA A).length
    rw [List.length_append]; omega
  · show (A.2.2.1 ++ safeA A).length ≤ 201
    rw [List.length_append]; omega
  · rcases List.mem_append.mp hQ with z | z
    · exact hA.2.2.2.2.1 Q z
    · exact safeL_wf hA.2.1 _ _ hA.wf Q z
  · show (A.2.2.1 ++ safeA A)[0]? = _
    rw [List.getElem?_append_left (by omega)]; exact hA.2.2.2.2.2.1
  have h1 := h.th (nI 0)
  obtain ⟨I1, L1, a1, a2, a3, a4, a5, a6, -⟩ := m_safe9 (R := A.2.1) (200 - (A.2.2.1.length - 1)) FU (cur A.2.2.1) A.2.2.1 (A.2.2.1.length - 1) 0 (st2 I 0 0 (nI 0)) L (by omega) (FU_gt (by omega)) hA.wf (by omega) h1.2.1 h1.2.2.1 h1.2.2.2.1 h1.2.2.2.2.2.2
  refine ⟨I1, L1, ?_, ?_, ?_⟩
  · unfold F_X6_safe
    rw [bnd_s, a1, Nat.zero_add]; rfl
  · rw [a6.2 0 (by omega) (by omega) (by omega) (by omega)]; exact th_s _ _
  · refine ⟨fun k hk => ?_, ?_, ?_, ?_, ?_, ?_, a5⟩
    · rw [a6.2 (k + 1) (by omega) (by omega) (by omega) (by omega)]; exact h1.1 k hk
    · rw [a6.1 1 (by omega)]; exact h1.2.1
    · show MRep I1 L1 (cur (A.2.2.1 ++ safeA A))
      rw [cur_safe hlen]; exact a2
    · show I1 0 13 = nI ((A.2.2.1 ++ safeA A).length - 1)
      rw [List.length_append, a4]; congr 1
      show A.2.2.1.length - 1 + (safeA A).length = _
      omega
    · rw [a6.2 12 (by omega) (by omega) (by omega) (by omega)]; exact h1.2.2.2.2.1
    · rw [a6.2 14 (by omega) (by omega) (by omega) (by omega)]; exact h1.2.2.2.2.2.1
end
section
/-! ===== the second reading: hint ===== -/
def hintF (R : Nat → Nat) (P : Pos) (least : Int32) : List Nat → Int32
  | [] => -1
  | m :: r => if (searchA R 100 (playC R P m)).1 = least - nI 1 then nI m else hintF R P least r
def hintA (R : Nat → Nat) (P : Pos) : Int32 := if nI 1 ≤ (searchA R 100 P).1 then hintF R P (searchA R 100 P).1 (mvs R P) else -1
def aHint (A : AS) : Nat × Int32 × AS := (0, hintA A.2.1 (cur A.2.2.1), A)
theorem m_hint_L {R : Nat → Nat} {P : Pos} (w : WF R P) (least : Int32) : ∀ (j k n : Nat) (I : Nat → Nat → Int32) (L : Nat → Nat → Int64), k + j = (mvs R P).length → j < n → RR (I 1) R → MRep I L P → (∀ i, i < 8 → L 2 (0 + i) = lN (keyL P i)) →
    ∃ I' L', F_X6_hint_L38 n I L least (nI (mvs R P).length) (nI k) = some (hintF R P least ((mvs R P).drop k), I', L') ∧ MRep I' L' P ∧ FrM I I' ∧ FrLM L L' := by
  have hml := mvs_len R P
  intro j
  induction j with
  | zero =>
    intro k n I L hk hn hr h h2
    obtain ⟨n, rfl⟩ : ∃ q, n = q + 1 := ⟨n - 1, by omega⟩
    refine ⟨I, L, ?_, h, FrM.refl I, FrLM.refl L⟩
    show F_X6_hint_s38 (F_X6_hint_L38 n) _ _ _ _ _ = _
    unfold F_X6_hint_s38
    rw [if_pos (nI_le (by omega) (by omega)), List.drop_of_length_le (by omega)]; rfl
  | succ j ih =>
    intro k n I L hk hn hr h h2
    obtain ⟨n, rfl⟩ : ∃ q, n = q + 1 := ⟨n - 1, by omega⟩
    have hkl : k < (mvs R P).length := by omega
    obtain ⟨m, hm⟩ : ∃ m, (mvs R P)[k]? = some m := ⟨_, List.getElem?_eq_getElem hkl⟩
    have hmem := List.mem_of_getElem? hm
    have hsm := mvs_small hmem
    obtain ⟨f, t, n2, ec, hf, ht, hn1, hn16, h1, f8, hl⟩ := mem_mvs hmem
    have c1 : m / 1000 = f := by rw [ec]; unfold codeN; omega
    have c2 : m / 100 % 10 = t := by rw [ec]; unfold codeN; omega
    have c3 : m % 100 = n2 := by rw [ec]; unfold codeN; omega
    have ep : playC R P m = playP R P f t n2 := by unfold playC; rw [c1, c2, c3]
    have ef : F_X6_find I L (nI k) = some (nI m) := by
      rw [m_find h w hr, findR_at _ _ _ (by omega) (by omega) (by omega), Nat.sub_zero, hm]
    have ed : (mvs R P).drop k = m :: (mvs R P).drop (k + 1) := by
      rw [List.drop_eq_getElem_cons hkl, (List.getElem?_eq_some_iff.mp hm).2]
    obtain ⟨I1, L1, a1, a2, a3, a4⟩ := m_play h w hr ht hn1 hn16 h1 hl
    rw [← ep] at a2
    have wC : WF R (playC R P m) := by rw [ep]; exact wf_play w hr.2 hn1 h1 hl
    have hr1 : RR (I1 1) R := by rw [a3.1 1 (by omega)]; exact hr
    obtain ⟨I2, L2, b1, b2, b3, b4, -⟩ := m_look hr1 a2 wC (b := 100) (by omega) (by omega)
    have hr2 : RR (I2 1) R := by rw [b3.1 1 (by omega)]; exact hr1
    have hL2 : L2 2 = L 2 := by rw [b4.2, a4 2 (by omega)]
    obtain ⟨I3, L3, d1, d2, d3, d4⟩ := m_load (I := I2) (L := L2) (cc := 2) (nn := 8) (o := 0) (w.kok hr.2) (by omega) (by omega) (by omega) (fun i hi => by rw [hL2]; exact h2 i hi)
    have hr3 : RR (I3 1) R := by rw [d3.1 1 (by omega)]; exact hr2
    have fI : FrM I I3 := (a3.m.trans b3).trans d3.m
    have fL : FrLM L L3 := (a4.m.trans b4).trans d4.m
    show ∃ I' L', F_X6_hint_s38 (F_X6_hint_L38 n) _ _ _ _ _ = _ ∧ _
    unfold F_X6_hint_s38
    rw [if_neg (nI_ge hkl (by omega)), ef, cal1_s, nz_n _ (by omega) (by omega), nz_n _ (by omega) (by omega), nz_n _ (by omega) (by omega), nz_n _ (by omega) (by omega), show nI m - nI m / nI 100 * nI 100 = nI (m % 100) from pk_rem (by omega) (by omega) (by omega), pk_div (by omega) (by omega) (by omega), pk_div (by omega) (by omega) (by omega), pk_rem (by omega) (by omega) (by omega), c1, c2, c3, a1, cal2_s, b1, cal3_s, d1, cal2_s, ed]
    by_cases q : (searchA R 100 (playC R P m)).1 = least - nI 1
    · rw [if_pos q]
      refine ⟨I3, L3, ?_, d2, fI, fL⟩
      show _ = some ((if (searchA R 100 (playC R P m)).1 = least - nI 1 then nI m else hintF R P least ((mvs R P).drop (k + 1))), I3, L3)
      rw [if_pos q]
    · rw [if_neg q, nI_add]
      obtain ⟨I4, L4, e1, e2, e3, e4⟩ := ih (k + 1) n I3 L3 (by omega) (by omega) hr3 d2 (fun i hi => by rw [fL.2]; exact h2 i hi)
      refine ⟨I4, L4, ?_, e2, fI.trans e3, fL.trans e4⟩
      rw [e1]
      show _ = some ((if (searchA R 100 (playC R P m)).1 = least - nI 1 then nI m else hintF R P least ((mvs R P).drop (k + 1))), I4, L4)
      rw [if_neg q]
theorem FrLM.past {L L' : Nat → Nat → Int64} (h : FrLM L L') : L' 1 = L 1 := h.1
theorem M_hint {A : AS} {I : Nat → Nat → Int32} {L : Nat → Nat → Int64} (hA : okA A) (h : MSt A I L) : MStep (F_X6_hint I L) (aHint A) := by
  have h1 := h.th (nI 0)
  have w := hA.wf
  obtain ⟨I1, L1, a1, a2, a3, a4, -⟩ := m_look h1.2.1 h1.2.2.1 w (b := 100) (by omega) (by omega)
  have hr1 : RR (I1 1) A.2.1 := by rw [a3.1 1 (by omega)]; exact h1.2.1
  unfold F_X6_hint aHint hintA
  rw [bnd_s, a1, cal3_s]
  by_cases q : nI 1 ≤ (searchA A.2.1 100 (cur A.2.2.1)).1
  · rw [if_pos q, if_pos q]
    obtain ⟨L2, b1, b2⟩ := m_store (cc := 2) (nn := 8) (o := 0) a2 (w.kok hA.2.1) (by omega) (by omega) (by omega)
    have hm2 := a2.atL (L1 := L2) (funext fun j => b2.2 0 j (by omega))
    obtain ⟨I3, L3, c1, c2, c3, c4⟩ := m_hint_L w (searchA A.2.1 100 (cur A.2.2.1)).1 (mvs A.2.1 (cur A.2.2.1)).length 0 FU I1 L2 (by omega) (FU_gt (by have := mvs_len A.2.1 (cur A.2.2.1); omega)) hr1 hm2 (fun i hi => b2.1 i hi)
    rw [b1, cal1_s, m_find hm2 w hr1, cal1_s, find_len]
    rw [List.drop_zero] at c1
    refine ⟨I3, L3, c1, (a3.trans c3).th, h1.fr (a3.trans c3) ?_ c2⟩
    rw [c4.1]
    exact (funext fun j => b2.2 1 j (by omega)).trans a4.1
  · rw [if_neg q, if_neg q]
    exact ⟨I1, L1, rfl, a3.th, h1.fr a3 a4.1 a2⟩
end
section
/-! ===== the second reading: odds ===== -/
def tellsA (N : Nat → Nat) (mc b x : Nat) : Int32 := (searchA N b (dealP N mc x)).1
def oddsW (N : Nat → Nat) (mc b x : Nat) : Nat → Nat
  | 0 => 0
  | j + 1 => oddsW N mc b x j + (if tellsA N mc b (x + j) < nI 0 then 0 else 1)
def oddsL (N : Nat → Nat) (mc b x : Nat) : Nat → Nat
  | 0 => 0
  | j + 1 => oddsL N mc b x j + (if tellsA N mc b (x + j) = -1 then 1 else 0)
def okOdds (v1 v2 v3 v4 : Int32) : Bool := inB v1 0 1 && (inB v2 0 1000000 && (inB v3 1 8 && inB v4 1 200))
def aOdds (A : AS) (v1 v2 v3 v4 : Int32) : Nat × Int32 × AS := if okOdds v1 v2 v3 v4 = true then (0, nI (10 * oddsW A.1 (nV v1) (nV v4) (nV v2) (nV v3) + oddsL A.1 (nV v1) (nV v4) (nV v2) (nV v3)), A) else (1, nI 0, A)
theorem m_odds_79 (L : Nat → Nat → Int64) (v1 v2 v3 v4 : Int32) : ∀ (j k n : Nat) (I : Nat → Nat → Int32), k + j = 9 → j < n → (∀ i, i < k → I 2 i = I 1 i) →
    ∃ I', F_X6_odds_L79 n I L v1 v2 v3 v4 (nI k) = F_X6_odds_b106 I' L v1 v2 v3 v4 ∧ (∀ i, i < 9 → I' 2 i = I 1 i) ∧ ∀ a, a ≠ 2 → I' a = I a := by
  intro j
  induction j with
  | zero =>
    intro k n I hk hn h
    obtain ⟨n, rfl⟩ : ∃ q, n = q + 1 := ⟨n - 1, by omega⟩
    refine ⟨I, ?_, fun i hi => h i (by omega), fun _ _ => rfl⟩
    show F_X6_odds_s79 (F_X6_odds_L79 n) _ _ _ _ _ _ _ = _
    unfold F_X6_odds_s79
    rw [if_pos (nI_le (by omega) (by omega))]
  | succ j ih =>
    intro k n I hk hn h
    obtain ⟨n, rfl⟩ : ∃ q, n = q + 1 := ⟨n - 1, by omega⟩
    have e1 : st2 I 2 k (I 1 k) 1 = I 1 := funext fun j => by rw [st2_s, if_neg (by omega)]
    obtain ⟨I', a1, a2, a3⟩ := ih (k + 1) n (st2 I 2 k (I 1 k)) (by omega) (by omega) (fun i hi => by
      rw [e1, st2_s]
      split
      · rename_i z; rw [z.2]
      · exact h i (by omega))
    refine ⟨I', ?_, fun i hi => by rw [a2 i hi, e1], fun a ha => by rw [a3 a ha]; funext j; rw [st2_s, if_neg (by omega)]⟩
    rw [← a1]
    show F_X6_odds_s79 (F_X6_odds_L79 n) _ _ _ _ _ _ _ = _
    unfold F_X6_odds_s79
    rw [if_neg (nI_ge (by omega) (by omega)), rdA_n _ (by omega) (by omega), wrA_n _ (by omega) (by omega), nI_add]
theorem m_odds_182 (L : Nat → Nat → Int64) (v6 v7 : Int32) : ∀ (j k n : Nat) (I : Nat → Nat → Int32), k + j = 9 → j < n → (∀ i, i < k → I 1 i = I 2 i) →
    ∃ I', F_X6_odds_L182 n I L v6 v7 (nI k) = F_X6_odds_b209 I' L v6 v7 ∧ (∀ i, i < 9 → I' 1 i = I 2 i) ∧ ∀ a, a ≠ 1 → I' a = I a := by
  intro j
  induction j with
  | zero =>
    intro k n I hk hn h
    obtain ⟨n, rfl⟩ : ∃ q, n = q + 1 := ⟨n - 1, by omega⟩
    refine ⟨I, ?_, fun i hi => h i (by omega), fun _ _ => rfl⟩
    show F_X6_odds_s182 (F_X6_odds_L182 n) _ _ _ _ _ = _
    unfold F_X6_odds_s182
    rw [if_pos (nI_le (by omega) (by omega))]
  | succ j ih =>
    intro k n I hk hn h
    obtain ⟨n, rfl⟩ : ∃ q, n = q + 1 := ⟨n - 1, by omega⟩
    have e1 : st2 I 1 k (I 2 k) 2 = I 2 := funext fun j => by rw [st2_s, if_neg (by omega)]
    obtain ⟨I', a1, a2, a3⟩ := ih (k + 1) n (st2 I 1 k (I 2 k)) (by omega) (by omega) (fun i hi => by
      rw [e1, st2_s]
      split
      · rename_i z; rw [z.2]
      · exact h i (by omega))
    refine ⟨I', ?_, fun i hi => by rw [a2 i hi, e1], fun a ha => by rw [a3 a ha]; funext j; rw [st2_s, if_neg (by omega)]⟩
    rw [← a1]
    show F_X6_odds_s182 (F_X6_odds_L182 n) _ _ _ _ _ = _
    unfold F_X6_odds_s182
    rw [if_neg (nI_ge (by omega) (by omega)), rdA_n _ (by omega) (by omega), wrA_n _ (by omega) (by omega), nI_add]
theorem oddsW_le (N : Nat → Nat) (mc b x : Nat) : ∀ j, oddsW N mc b x j ≤ j
  | 0 => Nat.le_refl 0
  | j + 1 => by
    have := oddsW_le N mc b x j
    show oddsW N mc b x j + (if tellsA N mc b (x + j) < nI 0 then 0 else 1) ≤ j + 1
    split <;> omega
theorem m_odds_119 {N : Nat → Nat} {mc b x m : Nat} (hm : mc < 2) (hx : x ≤ 1000000) (hm8 : m ≤ 8) (hb1 : 1 ≤ b) (hb : b ≤ 400) : ∀ (j k n : Nat) (I : Nat → Nat → Int32) (L : Nat → Nat → Int64), k + j = m → j < n → RR (I 1) N →
    ∃ I' L', F_X6_odds_L119 n I L (nI mc) (nI x) (nI m) (nI b) (nI (oddsW N mc b x k)) (nI (oddsL N mc b x k)) (nI k) = F_X6_odds_L182 FU I' L' (nI (oddsW N mc b x m)) (nI (oddsL N mc b x m)) (nI 0) ∧ FrM I I' ∧ FrLM L L' := by
  intro j
  induction j with
  | zero =>
    intro k n I L hk hn hr
    obtain ⟨n, rfl⟩ : ∃ q, n = q + 1 := ⟨n - 1, by omega⟩
    refine ⟨I, L, ?_, FrM.refl I, FrLM.refl L⟩
    show F_X6_odds_s119 (F_X6_odds_L119 n) _ _ _ _ _ _ _ _ _ = _
    unfold F_X6_odds_s119
    rw [if_pos (nI_le (by omega) (by omega)), show k = m by omega]
  | succ j ih =>
    intro k n I L hk hn hr
    obtain ⟨n, rfl⟩ : ∃ q, n = q + 1 := ⟨n - 1, by omega⟩
    obtain ⟨I1, L1, a1, a2, a3, a4⟩ := m_lay (I := I) (L := L) hm (show x + k < 2147483648 by omega) hr (deal_inv hr.2 hm)
    have hr1 : RR (I1 1) N := by rw [a3.1 1 (by omega)]; exact hr
    obtain ⟨I2, L2, b1, b2, b3, b4, -⟩ := m_look hr1 a2 (wf_dealP hr.2 hm) hb1 hb
    have hr2 : RR (I2 1) N := by rw [b3.1 1 (by omega)]; exact hr1
    obtain ⟨I3, L3, c1, c2, c3⟩ := ih (k + 1) n I2 L2 (by omega) (by omega) hr2
    refine ⟨I3, L3, ?_, (a3.m.trans b3).trans c2, (a4.m.trans b4).trans c3⟩
    rw [← c1]
    show F_X6_odds_s119 (F_X6_odds_L119 n) _ _ _ _ _ _ _ _ _ = _
    unfold F_X6_odds_s119
    rw [if_neg (nI_ge (by omega) (by omega)), nI_add, a1, cal2_s, b1, cal3_s]
    have eW : oddsW N mc b x (k + 1) = oddsW N mc b x k + (if (searchA N b (dealP N mc (x + k))).1 < nI 0 then 0 else 1) := rfl
    have eL : oddsL N mc b x (k + 1) = oddsL N mc b x k + (if (searchA N b (dealP N mc (x + k))).1 = -1 then 1 else 0) := rfl
    rw [eW, eL]
    unfold F_X6_odds_b154 F_X6_odds_b170
    by_cases q1 : (searchA N b (dealP N mc (x + k))).1 < nI 0
    · rw [if_pos q1, if_pos q1]
      by_cases q2 : (searchA N b (dealP N mc (x + k))).1 = -1
      · rw [if_pos q2, if_pos q2, nI_add, nI_add, nI_add]
      · rw [if_neg q2, if_neg q2, nI_add, nI_add, nI_add]
    · rw [if_neg q1, if_neg q1]
      by_cases q2 : (searchA N b (dealP N mc (x + k))).1 = -1
      · rw [if_pos q2, if_pos q2, nI_add, nI_add, nI_add]
      · rw [if_neg q2, if_neg q2, nI_add, nI_add, nI_add]
theorem F_odds_arg (I : Nat → Nat → Int32) (L : Nat → Nat → Int64) (v1 v2 v3 v4 : Int32) : F_X6_odds I L v1 v2 v3 v4 = if okOdds v1 v2 v3 v4 = true then F_X6_odds_b46 I L v1 v2 v3 v4 (nI 1) else F_X6_odds_b46 I L v1 v2 v3 v4 (nI 0) := by
  unfold F_X6_odds
  rw [m_inB, cal1_s, bi_if, m_inB, cal1_s, bi_if, m_inB, cal1_s, bi_if, m_inB, cal1_s, bi_if]
  have fal : ∀ {b : Bool}, ¬ b = true → b = false := fun h => by rw [← Bool.not_eq_true]; exact h
  by_cases q1 : inB v1 0 1 = true
  · rw [if_pos q1]
    by_cases q2 : inB v2 0 1000000 = true
    · rw [if_pos q2]
      by_cases q3 : inB v3 1 8 = true
      · rw [if_pos q3]
        by_cases q4 : inB v4 1 200 = true
        · rw [if_pos q4, if_pos (show okOdds v1 v2 v3 v4 = true by unfold okOdds; rw [q1, q2, q3, q4]; rfl)]
        · rw [if_neg q4, if_neg (show ¬ okOdds v1 v2 v3 v4 = true by unfold okOdds; rw [fal q4, Bool.and_false, Bool.and_false, Bool.and_false]; exact Bool.false_ne_true)]
      · rw [if_neg q3, if_neg (show ¬ okOdds v1 v2 v3 v4 = true by unfold okOdds; rw [fal q3, Bool.false_and, Bool.and_false, Bool.and_false]; exact Bool.false_ne_true)]
    · rw [if_neg q2, if_neg (show ¬ okOdds v1 v2 v3 v4 = true by unfold okOdds; rw [fal q2, Bool.false_and, Bool.and_false]; exact Bool.false_ne_true)]
  · rw [if_neg q1, if_neg (show ¬ okOdds v1 v2 v3 v4 = true by unfold okOdds; rw [fal q1, Bool.false_and]; exact Bool.false_ne_true)]
theorem M_odds {A : AS} {I : Nat → Nat → Int32} {L : Nat → Nat → Int64} (hA : okA A) (h : MSt A I L) (v1 v2 v3 v4 : Int32) : MStep (F_X6_odds I L v1 v2 v3 v4) (aOdds A v1 v2 v3 v4) := by
  rw [F_odds_arg]
  unfold aOdds F_X6_odds_b46 F_X6_odds_b59
  rw [if_neg (show ¬ nI 1 = nI 0 by decide), if_pos rfl, well0, well1 _ _ (Or.inl rfl)]
  by_cases q : okOdds v1 v2 v3 v4 = true
  · rw [if_pos q, if_pos q]
    unfold okOdds at q
    simp only [Bool.and_eq_true] at q
    obtain ⟨q1, q2, q3, q4⟩ := q
    obtain ⟨e1, -, b1⟩ := inB_nV (by omega) (by omega) q1
    obtain ⟨e2, -, b2⟩ := inB_nV (by omega) (by omega) q2
    obtain ⟨e3, -, b3⟩ := inB_nV (by omega) (by omega) q3
    obtain ⟨e4, a4, b4⟩ := inB_nV (by omega) (by omega) q4
    have h1 := h.th (nI 0)
    obtain ⟨L1, c1, c2⟩ := m_store (cc := 2) (nn := 8) (o := 0) h1.2.2.1 (hA.wf.kok hA.2.1) (by omega) (by omega) (by omega)
    obtain ⟨I2, d1, d2, d3⟩ := m_odds_79 L1 v1 v2 v3 v4 9 0 FU (st2 I 0 0 (nI 0)) (by omega) (FU_gt (by omega)) (fun i hi => absurd hi (Nat.not_lt_zero i))
    obtain ⟨I3, f1, f2, f3⟩ := m_takeRules (L := L1) (I := I2) (N := A.1) (fun k hk => by rw [d3 0 (by omega)]; exact h1.1 k hk) hA.1
    obtain ⟨I4, L4, g1, g2, g3⟩ := m_odds_119 (N := A.1) (mc := nV v1) (b := nV v4) (x := nV v2) (m := nV v3) (by omega) b2 b3 a4 (by omega) (nV v3) 0 FU I3 L1 (by omega) (FU_gt (by omega)) f2
    rw [← e1, ← e2, ← e3, ← e4] at g1
    obtain ⟨I5, p1, p2, p3⟩ := m_odds_182 L4 (nI (oddsW A.1 (nV v1) (nV v4) (nV v2) (nV v3))) (nI (oddsL A.1 (nV v1) (nV v4) (nV v2) (nV v3))) 9 0 FU I4 (by omega) (FU_gt (by omega)) (fun i hi => absurd hi (Nat.not_lt_zero i))
    obtain ⟨I6, L6, r1, r2, r3, r4⟩ := m_load (I := I5) (L := L4) (cc := 2) (nn := 8) (o := 0) (hA.wf.kok hA.2.1) (by omega) (by omega) (by omega) (fun i hi => by rw [g3.2]; exact c2.1 i hi)
    have z : ∀ j, j ≠ 21 → j ≠ 23 → j ≠ 24 → j ≠ 29 → I6 0 j = st2 I 0 0 (nI 0) 0 j := fun j x1 x2 x3 x4 => by
      rw [r3.2 j x1 x2 x3, p3 0 (by omega), g2.2 j x1 x2 x3 x4, f3 0 (by omega), d3 0 (by omega)]
    refine ⟨I6, L6, ?_, by rw [z 0 (by omega) (by omega) (by omega) (by omega)]; exact th_s _ _, ?_⟩
    · rw [c1, cal1_s, d1]
      unfold F_X6_odds_b106
      rw [f1, cal1_s]
      have g1' := g1
      rw [show oddsW A.1 (nV v1) (nV v4) (nV v2) 0 = 0 from rfl, show oddsL A.1 (nV v1) (nV v4) (nV v2) 0 = 0 from rfl] at g1'
      rw [g1', p1]
      unfold F_X6_odds_b209
      rw [r1, cal2_s, pk_mul, nI_add]
    · refine ⟨fun k hk => ?_, ⟨fun k hk => ?_, hA.2.1⟩, r2, ?_, ?_, ?_, ?_⟩
      · rw [z (k + 1) (by omega) (by omega) (by omega) (by omega)]; exact h1.1 k hk
      · rw [r3.1 1 (by omega), p2 k hk, g2.1 2 (by omega), f3 2 (by omega), d2 k hk]; exact h1.2.1.1 k hk
      · rw [z 13 (by omega) (by omega) (by omega) (by omega)]; exact h1.2.2.2.1
      · rw [z 12 (by omega) (by omega) (by omega) (by omega)]; exact h1.2.2.2.2.1
      · rw [z 14 (by omega) (by omega) (by omega) (by omega)]; exact h1.2.2.2.2.2.1
      · intro i P hi j hj
        rw [r4 1 (by omega), g3.1, c2.2 1 _ (by omega)]
        exact h1.2.2.2.2.2.2 i P hi j hj
  · rw [if_neg q, if_neg q]
    exact ⟨st2 I 0 0 (nI 1), L, rfl, th_s _ _, h.th _⟩
end
section
/-! ===== the second reading: the number of a deal ===== -/
def cntPl (R : Nat → Nat) (q : Nat) : Nat → Nat → Nat
  | _, 0 => 0
  | k, n + 1 => cntPl R q (k + 1) n + (if q = placeA R k then 1 else 0)
theorem layP_app {R : Nat → Nat} {q : Nat} : ∀ (cs : List Nat) (k : Nat) (P : Pos), ∃ u, (layP R cs k P).1 q = u ++ P.1 q ∧ u.length = cntPl R q k cs.length
  | [], _, P => ⟨[], rfl, rfl⟩
  | c :: r, k, P => by
    obtain ⟨u, h1, h2⟩ := layP_app (R := R) (q := q) r (k + 1) (putP R P c (placeA R k))
    show ∃ u, (layP R r (k + 1) (putP R P c (placeA R k))).1 q = u ++ P.1 q ∧ u.length = cntPl R q (k + 1) r.length + (if q = placeA R k then 1 else 0)
    rw [h1]
    by_cases e : q = placeA R k
    · refine ⟨u ++ [c], ?_, by rw [List.length_append, h2, if_pos e]; rfl⟩
      rw [show (putP R P c (placeA R k)).1 q = c :: P.1 (placeA R k) by unfold putP; dsimp only; rw [if_pos e], e, List.append_assoc]; rfl
    · refine ⟨u, ?_, by rw [h2, if_neg e]; rfl⟩
      rw [show (putP R P c (placeA R k)).1 q = P.1 q by unfold putP; dsimp only; rw [if_neg e]]
theorem layP_inj {R : Nat → Nat} : ∀ (cs ds : List Nat) (k : Nat) (P Q : Pos), cs.length = ds.length → (∀ q, (∃ i, q = placeA R i) → (layP R cs k P).1 q = (layP R ds k Q).1 q) → cs = ds
  | [], [], _, _, _, _, _ => rfl
  | [], _ :: _, _, _, _, h, _ => by simp at h
  | _ :: _, [], _, _, _, h, _ => by simp at h
  | c :: r, d :: s, k, P, Q, h, e => by
    have hl : r.length = s.length := by simpa using h
    have e1 := layP_inj r s (k + 1) (putP R P c (placeA R k)) (putP R Q d (placeA R k)) hl e
    have e2 := e (placeA R k) ⟨k, rfl⟩
    obtain ⟨u, a1, a2⟩ := layP_app (R := R) (q := placeA R k) r (k + 1) (putP R P c (placeA R k))
    obtain ⟨v, b1, b2⟩ := layP_app (R := R) (q := placeA R k) s (k + 1) (putP R Q d (placeA R k))
    change (layP R r (k + 1) (putP R P c (placeA R k))).1 (placeA R k) = (layP R s (k + 1) (putP R Q d (placeA R k))).1 (placeA R k) at e2
    rw [a1, b1, show (putP R P c (placeA R k)).1 (placeA R k) = c :: P.1 (placeA R k) by unfold putP; dsimp only; rw [if_pos rfl], show (putP R Q d (placeA R k)).1 (placeA R k) = d :: Q.1 (placeA R k) by unfold putP; dsimp only; rw [if_pos rfl]] at e2
    have e3 := (List.append_inj e2 (by rw [a2, b2, hl])).2
    rw [List.cons.injEq] at e3
    rw [e1, e3.1]
theorem key_lists {P Q : Pos} (hP : KOk P) (hQ : KOk Q) (h : ∀ k, k < 8 → keyL P k = keyL Q k) : (∀ p, p < 5 → P.1 p = Q.1 p) ∧ P.1 9 = Q.1 9 := by
  have k5 : sumB 10 (hgt P) 5 = sumB 10 (hgt Q) 5 := h 5 (by omega)
  have k6 : w6 P 4 = w6 Q 4 := h 6 (by omega)
  have k7 : sumB 4 (botN (P.1 7)) 8 + sumB 4 (botN (P.1 9)) 8 * 4294967296 = sumB 4 (botN (Q.1 7)) 8 + sumB 4 (botN (Q.1 9)) 8 * 4294967296 := h 7 (by omega)
  constructor
  · intro p hp
    have e1 : hgt P p = hgt Q p := by
      have a := sumB_at (b := 10) (d := hgt P) (k := 5) (i := p) (fun i _ => hgt_lt hP i) hp
      have b := sumB_at (b := 10) (d := hgt Q) (k := 5) (i := p) (fun i _ => hgt_lt hQ i) hp
      rw [← a, ← b, k5]
    have e2 : pkT (P.1 p) = pkT (Q.1 p) := by
      have := h p (by omega)
      unfold keyL at this
      rw [if_pos hp, if_pos hp] at this
      exact this
    exact (ckey_inj hP hQ (by unfold ckey; rw [e1, e2])).1
  · have a1 : sumB 4 (botN (P.1 7)) 8 < 4294967296 := sumB_lt (b := 4) (d := botN (P.1 7)) (k := 8) (fun i _ => botN_lt hP 7 i)
    have a2 : sumB 4 (botN (Q.1 7)) 8 < 4294967296 := sumB_lt (b := 4) (d := botN (Q.1 7)) (k := 8) (fun i _ => botN_lt hQ 7 i)
    have e9 : sumB 4 (botN (P.1 9)) 8 = sumB 4 (botN (Q.1 9)) 8 := by
      generalize sumB 4 (botN (P.1 7)) 8 = x at a1 k7
      generalize sumB 4 (botN (Q.1 7)) 8 = y at a2 k7
      generalize sumB 4 (botN (P.1 9)) 8 = z at k7 ⊢
      generalize sumB 4 (botN (Q.1 9)) 8 = t at k7 ⊢
      omega
    have t1 := w6_top P hP
    have t2 := w6_top Q hQ
    have p1 := hP.2.2.2
    have p2 := hQ.2.2.2
    have hl : (P.1 9).length = (Q.1 9).length := by
      rw [k6] at t1
      rw [t1] at t2
      generalize sumB 3 P.2.2.1 4 = x at t2
      generalize sumB 3 Q.2.2.1 4 = y at t2
      clear k5 k6 k7 a1 a2 e9 t1 h
      generalize (P.1 7).length = a at t2 p1
      generalize (P.1 9).length = b at t2 p1 ⊢
      generalize (Q.1 7).length = c at t2 p2
      generalize (Q.1 9).length = d at t2 p2 ⊢
      generalize P.2.2.2 = f at t2 p1
      generalize Q.2.2.2 = g at t2 p2
      have e1 : f + a * 4 + b * 64 < 1024 := by omega
      have e2 : g + c * 4 + d * 64 < 1024 := by omega
      have e3 : f + a * 4 + b * 64 = g + c * 4 + d * 64 := by omega
      have e4 : f + a * 4 < 64 := by omega
      have e5 : g + c * 4 < 64 := by omega
      omega
    refine bot_inj (by omega) hl (fun i hi => ?_)
    have a := sumB_at (b := 4) (d := botN (P.1 9)) (k := 8) (i := i) (fun i _ => botN_lt hP 9 i) hi
    have b := sumB_at (b := 4) (d := botN (Q.1 9)) (k := 8) (i := i) (fun i _ => botN_lt hQ 9 i) hi
    rw [← a, ← b, e9]
theorem deal_same {R : Nat → Nat} (hR : RulesOk R) {m1 x1 m2 x2 : Nat} (h1 : m1 < 2) (h2 : m2 < 2) : (∀ k, k < 8 → keyL (dealP R m1 x1) k = keyL (dealP R m2 x2) k) ↔ cardsA R m1 x1 = cardsA R m2 x2 := by
  constructor
  · intro h
    obtain ⟨a, b⟩ := key_lists ((wf_dealP hR h1).kok hR) ((wf_dealP hR h2).kok hR) h
    refine layP_inj (R := R) _ _ 0 emptyP emptyP (by rw [cardsA_len, cardsA_len]) (fun q hq => ?_)
    obtain ⟨i, rfl⟩ := hq
    have h3 := placeA_lt hR i
    have hR2 : R 2 ≤ 5 := by unfold RulesOk at hR; omega
    rcases h3.2 with z | z
    · exact a _ (by omega)
    · rw [z]; exact b
  · intro h k _
    unfold dealP; rw [h]
def allK (L : Nat → Nat → Int64) (k j : Nat) : Bool := (List.range' k j).all (fun i => decide (L 3 i = L 1 i))
theorem m_num_63 (K38 : (Nat → Nat → Int32) → (Nat → Nat → Int64) → Int32 → Int32 → Int32 → Option (Int32 × (Nat → Nat → Int32) × (Nat → Nat → Int64))) (I : Nat → Nat → Int32) (L : Nat → Nat → Int64) (v1 v2 v3 : Int32) : ∀ (j k n : Nat) (b : Bool), k + j = 8 → j < n →
    F_X6_numberOf_L63 K38 n I L v1 v2 v3 (bi b) (nI k) = if (b && allK L k j) = true then K38 I L v1 v3 (v3 + (-1)) else K38 I L v1 v2 (v3 + (-1)) := by
  have e0 : ∀ x y : Int64, (lg_cmp x y = nI 0) ↔ x = y := fun x y => lg_cmp_eq x y
  intro j
  induction j with
  | zero =>
    intro k n b hk hn
    obtain ⟨n, rfl⟩ : ∃ q, n = q + 1 := ⟨n - 1, by omega⟩
    show F_X6_numberOf_s63 K38 (F_X6_numberOf_L63 K38 n) _ _ _ _ _ _ _ = _
    unfold F_X6_numberOf_s63 F_X6_numberOf_b106
    rw [if_pos (nI_le (by omega) (by omega)), bi_if, show allK L k 0 = true from rfl, Bool.and_true]
  | succ j ih =>
    intro k n b hk hn
    obtain ⟨n, rfl⟩ : ∃ q, n = q + 1 := ⟨n - 1, by omega⟩
    have i0 := ih (k + 1) n false (by omega) (by omega)
    have i1 := ih (k + 1) n true (by omega) (by omega)
    have e : allK L k (j + 1) = (decide (L 3 k = L 1 k) && allK L (k + 1) j) := rfl
    rw [Bool.false_and, if_neg Bool.false_ne_true] at i0
    rw [Bool.true_and] at i1
    show F_X6_numberOf_s63 K38 (F_X6_numberOf_L63 K38 n) _ _ _ _ _ _ _ = _
    unfold F_X6_numberOf_s63
    rw [if_neg (nI_ge (by omega) (by omega)), bi_if, nI_add, e]
    cases b
    · rw [if_neg Bool.false_ne_true, Bool.false_and, if_neg Bool.false_ne_true]; exact i0
    · rw [if_pos rfl, rdA_n _ (by omega) (by omega), rdA_n _ (by omega) (by omega), Bool.true_and]
      by_cases q : L 3 k = L 1 k
      · rw [if_pos ((e0 _ _).mpr q), decide_eq_true q, Bool.true_and]; exact i1
      · rw [if_neg (fun y => q ((e0 _ _).mp y)), decide_eq_false q, Bool.false_and, if_neg Bool.false_ne_true]; exact i0
theorem allK_iff {L : Nat → Nat → Int64} {R : Nat → Nat} (hR : RulesOk R) {m1 x1 m2 x2 : Nat} (h1 : m1 < 2) (h2 : m2 < 2) (a : ∀ i, i < 8 → L 3 (0 + i) = lN (keyL (dealP R m1 x1) i)) (b : ∀ i, i < 8 → L 1 (8 * 0 + i) = lN (keyL (dealP R m2 x2) i)) : allK L 0 8 = decide (cardsA R m1 x1 = cardsA R m2 x2) := by
  have k1 := (wf_dealP hR h1 (x := x1)).kok hR
  have k2 := (wf_dealP hR h2 (x := x2)).kok hR
  have e := deal_same hR (m1 := m1) (x1 := x1) (m2 := m2) (x2 := x2) h1 h2
  apply Bool.eq_iff_iff.mpr
  rw [decide_eq_true_eq, ← e]
  unfold allK
  rw [List.all_eq_true]
  constructor
  · intro h k hk
    have := h k (List.mem_range'_1.mpr ⟨Nat.zero_le _, by omega⟩)
    rw [decide_eq_true_eq] at this
    have a' := a k hk
    have b' := b k hk
    rw [Nat.zero_add] at a'
    rw [Nat.mul_zero, Nat.zero_add] at b'
    exact lN_inj64 (keyL_lt k1 k) (keyL_lt k2 k) (by rw [← a', ← b', this])
  · intro h k hk
    have hk8 : k < 8 := by have := (List.mem_range'_1.mp hk).2; omega
    rw [decide_eq_true_eq]
    have a' := a k hk8
    have b' := b k hk8
    rw [Nat.zero_add] at a'
    rw [Nat.mul_zero, Nat.zero_add] at b'
    rw [a', b', h k hk8]
/-- the lowest number that gives the same cards -/
def numF (R : Nat → Nat) (mc : Nat) (cs : List Nat) (k j : Nat) : Int32 := optI ((List.range' k j).find? (fun x => decide (cardsA R mc x = cs)))
def aNumberOf (A : AS) (v : Int32) : Nat × Int32 × AS := if inB v 0 1 = true then (0, numF A.2.1 (nV v) (cardsA A.2.1 A.2.2.2.2.2.1 A.2.2.2.2.2.2) 0 501, A) else (1, nI 0, A)
theorem dec_nI (j : Nat) : nI (j + 1) + (-1) = nI j := by
  rw [← nI_add, Int32.add_assoc, show nI 1 + (-1 : Int32) = 0 by decide, Int32.add_zero]
theorem m_num_38 {R : Nat → Nat} {mc m2 x2 : Nat} (hm : mc < 2) (hm2 : m2 < 2) : ∀ (j n : Nat) (I : Nat → Nat → Int32) (L : Nat → Nat → Int64), j ≤ 501 → j < n → RR (I 1) R → (∀ i, i < 8 → L 1 (8 * 0 + i) = lN (keyL (dealP R m2 x2) i)) →
    ∃ I' L', F_X6_numberOf_L38 n I L (nI mc) (numF R mc (cardsA R m2 x2) j (501 - j)) (nI j + (-1)) = F_X6_numberOf_b123 I' L' (numF R mc (cardsA R m2 x2) 0 501) ∧ FrM I I' ∧ FrLM L L' := by
  intro j
  induction j with
  | zero =>
    intro n I L hj hn hr hL
    obtain ⟨n, rfl⟩ : ∃ q, n = q + 1 := ⟨n - 1, by omega⟩
    refine ⟨I, L, ?_, FrM.refl I, FrLM.refl L⟩
    show F_X6_numberOf_s38 (F_X6_numberOf_L38 n) _ _ _ _ _ = _
    unfold F_X6_numberOf_s38
    rw [if_pos (by decide)]
  | succ j ih =>
    intro n I L hj hn hr hL
    obtain ⟨n, rfl⟩ : ∃ q, n = q + 1 := ⟨n - 1, by omega⟩
    obtain ⟨I1, L1, a1, a2, a3, a4⟩ := m_lay (I := I) (L := L) hm (show j < 2147483648 by omega) hr (deal_inv hr.2 hm)
    have hr1 : RR (I1 1) R := by rw [a3.1 1 (by omega)]; exact hr
    obtain ⟨L2, b1, b2⟩ := m_store (cc := 3) (nn := 3216) (o := 0) a2 ((wf_dealP hr.2 hm).kok hr.2) (by omega) (by omega) (by omega)
    have hL1 : ∀ i, L2 1 i = L 1 i := fun i => by rw [b2.2 1 i (by omega), a4 1 (by omega)]
    have hL' : ∀ i, i < 8 → L2 1 (8 * 0 + i) = lN (keyL (dealP R m2 x2) i) := fun i hi => by rw [hL1]; exact hL i hi
    have e := allK_iff hr.2 hm hm2 (fun i hi => b2.1 i hi) hL'
    obtain ⟨I3, L3, c1, c2, c3⟩ := ih n I1 L2 (by omega) (by omega) hr1 hL'
    have fL : FrLM L L2 := ⟨funext hL1, funext fun i => by rw [b2.2 2 i (by omega), a4 2 (by omega)]⟩
    refine ⟨I3, L3, ?_, a3.m.trans c2, fL.trans c3⟩
    rw [← c1]
    show F_X6_numberOf_s38 (F_X6_numberOf_L38 n) _ _ _ _ _ = _
    unfold F_X6_numberOf_s38
    rw [dec_nI, if_neg (nI_nlt (Nat.zero_le _) (by omega)), a1, cal2_s, b1, cal1_s, show nI 1 = bi true from rfl, m_num_63 _ _ _ _ _ _ 8 0 FU true (by omega) (FU_gt (by omega)), Bool.true_and, e]
    have er : List.range' j (501 - j) = j :: List.range' (j + 1) (501 - (j + 1)) := by
      rw [show 501 - j = (501 - (j + 1)) + 1 by omega]; rfl
    by_cases q : cardsA R mc j = cardsA R m2 x2
    · rw [decide_eq_true q, if_pos rfl]
      have : numF R mc (cardsA R m2 x2) j (501 - j) = nI j := by
        unfold numF
        rw [er, List.find?_cons_of_pos (p := fun x => decide (cardsA R mc x = cardsA R m2 x2)) (decide_eq_true q)]; rfl
      rw [this]
    · rw [decide_eq_false q, if_neg Bool.false_ne_true]
      have : numF R mc (cardsA R m2 x2) j (501 - j) = numF R mc (cardsA R m2 x2) (j + 1) (501 - (j + 1)) := by
        unfold numF
        rw [er, List.find?_cons_of_neg (p := fun x => decide (cardsA R mc x = cardsA R m2 x2)) (by rw [decide_eq_true_eq]; exact q)]
      rw [this]
theorem M_numberOf {A : AS} {I : Nat → Nat → Int32} {L : Nat → Nat → Int64} (hA : okA A) (h : MSt A I L) (v : Int32) : MStep (F_X6_numberOf I L v) (aNumberOf A v) := by
  unfold aNumberOf F_X6_numberOf F_X6_numberOf_b15
  rw [well0, well1 _ _ (Or.inl rfl), m_inB, cal1_s, bi_if]
  by_cases q : inB v 0 1 = true
  · rw [if_pos q, if_pos q]
    obtain ⟨e1, -, b1⟩ := inB_nV (by omega) (by omega) q
    have h1 := h.th (nI 0)
    obtain ⟨L1, c1, c2⟩ := m_store (cc := 2) (nn := 8) (o := 0) h1.2.2.1 (hA.wf.kok hA.2.1) (by omega) (by omega) (by omega)
    have hL : ∀ i, i < 8 → L1 1 (8 * 0 + i) = lN (keyL (dealP A.2.1 A.2.2.2.2.2.1 A.2.2.2.2.2.2) i) := fun i hi => by
      rw [c2.2 1 _ (by omega)]; exact h1.2.2.2.2.2.2 0 _ hA.2.2.2.2.2.1 i hi
    obtain ⟨I2, L2, d1, d2, d3⟩ := m_num_38 (R := A.2.1) (mc := nV v) (x2 := A.2.2.2.2.2.2) (by omega) hA.2.2.2.2.2.2.1 501 FU (st2 I 0 0 (nI 0)) L1 (Nat.le_refl _) (FU_gt (by omega)) h1.2.1 hL
    obtain ⟨I6, L6, r1, r2, r3, r4⟩ := m_load (I := I2) (L := L2) (cc := 2) (nn := 8) (o := 0) (hA.wf.kok hA.2.1) (by omega) (by omega) (by omega) (fun i hi => by rw [d3.2]; exact c2.1 i hi)
    rw [dec_nI, ← e1, show numF A.2.1 (nV v) (cardsA A.2.1 A.2.2.2.2.2.1 A.2.2.2.2.2.2) 501 (501 - 501) = -1 from rfl] at d1
    refine ⟨I6, L6, ?_, (d2.trans r3.m).th, h1.fr (d2.trans r3.m) ?_ r2⟩
    · rw [c1, cal1_s, d1]
      unfold F_X6_numberOf_b123
      rw [r1, cal2_s]
    · rw [r4 1 (by omega), d3.1]
      exact funext fun j => c2.2 1 j (by omega)
  · rw [if_neg q, if_neg q]
    exact ⟨st2 I 0 0 (nI 1), L, rfl, th_s _ _, h.th _⟩
end
section
/-! ===== the class's whole state; its rules ===== -/
def CSt (A : AS) (P rn r : Nat → Int32) (D T : Nat → Nat → Int32) (S : Nat → Nat → Int64) : Prop :=
  RR rn A.1 ∧ RR r A.2.1 ∧ TRep T (cur A.2.2.1) ∧ P 7 = nI (A.2.2.1.length - 1) ∧ P 8 = nI A.2.2.2.1 ∧ P 9 = A.2.2.2.2.1 ∧ (∀ i Q, A.2.2.1[i]? = some Q → i + 1 < A.2.2.1.length → SRow S i Q) ∧ DRep D (cardsA A.2.1 A.2.2.2.2.2.1 A.2.2.2.2.2.2)
theorem s_within (v : Int32) (a b : Nat) : F_X5_isWithin v (nI a) (nI b) = some (bi (inB v a b)) := by
  unfold F_X5_isWithin inB
  by_cases q1 : v < nI a
  · rw [if_pos q1, decide_eq_false (Int32.not_le.mpr q1)]; rfl
  · rw [if_neg q1, decide_eq_true (Int32.not_lt.mp q1)]
    by_cases q2 : nI b < v
    · rw [if_pos q2, decide_eq_false (Int32.not_le.mpr q2)]; rfl
    · rw [if_neg q2, decide_eq_true (Int32.not_lt.mp q2)]; rfl
theorem C_deck {A : AS} {P rn r : Nat → Int32} {D T : Nat → Nat → Int32} {S : Nat → Nat → Int64} (hA : okA A) (h : CSt A P rn r D T S) (v1 v2 : Int32) :
    ∃ rn', F_X5_deck P rn v1 v2 = some ((aDeck A v1 v2).1, (aDeck A v1 v2).2.1, rn') ∧ CSt (aDeck A v1 v2).2.2 P rn' r D T S := by
  have e7 : rn 6 = nI (A.1 6) := h.1.1 6 (by omega)
  have e : F_X5_deck P rn v1 v2 = if okDeck A.1 v1 v2 = true then some (0, v1 * v2, upd (upd rn 0 v1) 1 v2) else some (1, nI 0, rn) := by
    unfold F_X5_deck
    rw [s_within, cal1_s, bi_if, s_within, cal1_s, bi_if, s_within, cal1_s, bi_if, e7, bnd_s, bnd_s]
    unfold okDeck
    cases inB v1 1 4 <;> cases inB v2 1 6 <;> cases inB (v1 * v2) 2 16 <;> simp only [Bool.true_and, Bool.false_and, if_true, Bool.false_eq_true, if_false]
    by_cases q : nI (A.1 6) < v1 * v2
    · rw [decide_eq_true q, if_pos q, if_pos rfl]
    · rw [decide_eq_false q, if_neg q, if_neg Bool.false_ne_true]
  rw [e]
  unfold aDeck
  by_cases q : okDeck A.1 v1 v2 = true
  · rw [if_pos q, if_pos q]
    obtain ⟨rk, e1, e2⟩ := okDeck_rules hA.1 q
    refine ⟨_, rfl, ⟨fun k hk => ?_, rk⟩, h.2⟩
    rw [upd_s, upd_s]
    show _ = nI (if k = 0 then nV v1 else if k = 1 then nV v2 else A.1 k)
    by_cases k0 : k = 0
    · rw [if_neg (by omega), if_pos k0, if_pos k0]; exact e1
    · by_cases k1 : k = 1
      · rw [if_pos k1, if_neg k0, if_pos k1]; exact e2
      · rw [if_neg k1, if_neg k0, if_neg k0, if_neg k1]; exact h.1.1 k hk
  · rw [if_neg q, if_neg q]
    exact ⟨rn, rfl, h⟩
theorem C_table {A : AS} {P rn r : Nat → Int32} {D T : Nat → Nat → Int32} {S : Nat → Nat → Int64} (hA : okA A) (h : CSt A P rn r D T S) (v1 v2 v3 v4 : Int32) :
    ∃ rn', F_X5_table P rn v1 v2 v3 v4 = some ((aTable A v1 v2 v3 v4).1, rn') ∧ CSt (aTable A v1 v2 v3 v4).2.2 P rn' r D T S := by
  have e : F_X5_table P rn v1 v2 v3 v4 = if okTable v1 v2 v3 v4 = true then some (0, upd (upd (upd (upd rn 2 v1) 3 v2) 4 v3) 5 v4) else some (1, rn) := by
    unfold F_X5_table
    rw [s_within, cal1_s, bi_if, s_within, cal1_s, bi_if, s_within, cal1_s, bi_if, s_within, cal1_s, bi_if, bnd_s, bnd_s, bnd_s, bnd_s]
    unfold okTable
    cases inB v1 1 5 <;> cases inB v2 0 2 <;> cases inB v3 0 2 <;> cases inB v4 0 2 <;> rfl
  rw [e]
  unfold aTable
  by_cases q : okTable v1 v2 v3 v4 = true
  · rw [if_pos q, if_pos q]
    obtain ⟨rk, e1, e2, e3, e4⟩ := okTable_rules hA.1 q
    refine ⟨_, rfl, ⟨fun k hk => ?_, rk⟩, h.2⟩
    rw [upd_s, upd_s, upd_s, upd_s]
    show _ = nI (if k = 2 then nV v1 else if k = 3 then nV v2 else if k = 4 then nV v3 else if k = 5 then nV v4 else A.1 k)
    by_cases k2 : k = 2
    · rw [if_neg (by omega), if_neg (by omega), if_neg (by omega), if_pos k2, if_pos k2]; exact e1
    · by_cases k3 : k = 3
      · rw [if_neg (by omega), if_neg (by omega), if_pos k3, if_neg k2, if_pos k3]; exact e2
      · by_cases k4 : k = 4
        · rw [if_neg (by omega), if_pos k4, if_neg k2, if_neg k3, if_pos k4]; exact e3
        · by_cases k5 : k = 5
          · rw [if_pos k5, if_neg k2, if_neg k3, if_neg k4, if_pos k5]; exact e4
          · rw [if_neg k5, if_neg k4, if_neg k3, if_neg k2, if_neg k2, if_neg k3, if_neg k4, if_neg k5]; exact h.1.1 k hk
  · rw [if_neg q, if_neg q]
    exact ⟨rn, rfl, h⟩
theorem C_stock {A : AS} {P rn r : Nat → Int32} {D T : Nat → Nat → Int32} {S : Nat → Nat → Int64} (hA : okA A) (h : CSt A P rn r D T S) (v1 v2 : Int32) (b : Bool) :
    ∃ rn', F_X5_stock P rn v1 v2 (bi b) = some ((aStock A v1 v2 b).1, rn') ∧ CSt (aStock A v1 v2 b).2.2 P rn' r D T S := by
  have e : F_X5_stock P rn v1 v2 (bi b) = if okStock A.1 v1 v2 = true then some (0, upd (upd (upd rn 6 v1) 7 v2) 8 (bi b)) else some (1, rn) := by
    unfold F_X5_stock
    rw [s_within, cal1_s, bi_if, s_within, cal1_s, bi_if, s_cards h.1, cal1_s, bnd_s, bnd_s, zb_bi, bnd_s]
    unfold okStock
    cases inB v1 0 8 <;> cases inB v2 0 2 <;> simp only [Bool.true_and, Bool.false_and, if_true, Bool.false_eq_true, if_false]
    by_cases q : v1 < nI (A.1 0 * A.1 1)
    · rw [decide_eq_true q, if_pos q, if_pos rfl]
    · rw [decide_eq_false q, if_neg q, if_neg Bool.false_ne_true]
  rw [e]
  unfold aStock
  by_cases q : okStock A.1 v1 v2 = true
  · rw [if_pos q, if_pos q]
    obtain ⟨rk, e1, e2⟩ := okStock_rules (b := b) hA.1 q
    refine ⟨_, rfl, ⟨fun k hk => ?_, rk⟩, h.2⟩
    rw [upd_s, upd_s, upd_s]
    show _ = nI (if k = 6 then nV v1 else if k = 7 then nV v2 else if k = 8 then (if b = true then 1 else 0) else A.1 k)
    by_cases k6 : k = 6
    · rw [if_neg (by omega), if_neg (by omega), if_pos k6, if_pos k6]; exact e1
    · by_cases k7 : k = 7
      · rw [if_neg (by omega), if_pos k7, if_neg k6, if_pos k7]; exact e2
      · by_cases k8 : k = 8
        · rw [if_pos k8, if_neg k6, if_neg k7, if_pos k8]; exact bi_nI b
        · rw [if_neg k8, if_neg k7, if_neg k6, if_neg k6, if_neg k7, if_neg k8]; exact h.1.1 k hk
  · rw [if_neg q, if_neg q]
    exact ⟨rn, rfl, h⟩
end
section
/-! ===== the class: deal, move, undo, safe ===== -/
theorem s_copyRules {rn r : Nat → Int32} {N : Nat → Nat} (h : RR rn N) : ∃ r', F_X1_copyFrom rn r = some r' ∧ RR r' N := by
  have n8 : N 8 ≤ 1 := h.2.2.2.2.2.2.2.2.2.2.2.2.2.2.2
  have z : ∀ (k : Option (Nat → Int32)), zb (rn 8) k = k := by
    intro k
    rw [h.1 8 (by omega)]
    rcases Nat.lt_or_ge (N 8) 1 with q | q
    · rw [show N 8 = 0 by omega]; rfl
    · rw [show N 8 = 1 by omega]; rfl
  unfold F_X1_copyFrom
  rw [bnd_s, bnd_s, bnd_s, bnd_s, bnd_s, bnd_s, bnd_s, bnd_s, z, bnd_s]
  refine ⟨_, rfl, fun k hk => ?_, h.2⟩
  simp only [upd_s]
  have hk' : k = 0 ∨ k = 1 ∨ k = 2 ∨ k = 3 ∨ k = 4 ∨ k = 5 ∨ k = 6 ∨ k = 7 ∨ k = 8 := by omega
  rcases hk' with rfl | rfl | rfl | rfl | rfl | rfl | rfl | rfl | rfl
  · simp; exact h.1 0 (by omega)
  · simp; exact h.1 1 (by omega)
  · simp; exact h.1 2 (by omega)
  · simp; exact h.1 3 (by omega)
  · simp; exact h.1 4 (by omega)
  · simp; exact h.1 5 (by omega)
  · simp; exact h.1 6 (by omega)
  · simp; exact h.1 7 (by omega)
  · simp; exact h.1 8 (by omega)
theorem s_money {A : AS} {P rn r : Nat → Int32} {D T : Nat → Nat → Int32} {S : Nat → Nat → Int64} (hA : okA A) (h : CSt A P rn r D T S) : F_X5_moneyOfDeal P T r = some (moneyA (cur A.2.2.1) (A.2.2.1.length - 1) A.2.2.2.1) := by
  unfold F_X5_moneyOfDeal
  rw [s_cardsUp h.2.2.1 hA.wf h.2.1, cal1_s, h.2.2.2.1, h.2.2.2.2.1]; rfl
theorem C_deal {A : AS} {P rn r : Nat → Int32} {D T : Nat → Nat → Int32} {S : Nat → Nat → Int64} (hA : okA A) (h : CSt A P rn r D T S) (v1 v2 : Int32) :
    ∃ P' T' r' D', F_X5_deal rn P T r D v1 v2 = some ((aDeal A v1 v2).1, (aDeal A v1 v2).2.1, P', T', r', D') ∧ CSt (aDeal A v1 v2).2.2 P' rn r' D' T' S := by
  unfold aDeal F_X5_deal
  rw [s_within, cal1_s, bi_if, s_within, cal1_s, bi_if]
  by_cases q : okDeal v1 v2 = true
  · rw [if_pos q]
    unfold okDeal at q
    rw [Bool.and_eq_true] at q
    rw [if_pos q.1, if_pos q.2]
    obtain ⟨e1, -, b1⟩ := inB_nV (by omega) (by omega) q.1
    obtain ⟨e2, -, b2⟩ := inB_nV (by omega) (by omega) q.2
    have hm : nV v1 < 2 := by omega
    obtain ⟨r', c1, c2⟩ := s_copyRules (r := r) h.1
    obtain ⟨D', d1, d2⟩ := s_draw (mc := nV v1) (x := nV v2) hm c2.2 D
    obtain ⟨T', f1, f2, -⟩ := s_lay c2 d2 T
    rw [← e1, ← e2] at d1
    rw [s_money hA h, cal1_s, bnd_s, c1, cal1_s]
    unfold F_X5_dealNumber
    rw [s_cards c2, cal1_s, d1, cal1_s, f1, cal1_s, bnd_s, bnd_s, cal3_s, s_inColumns c2, cal1_s]
    have eC : nI (A.1 0 * A.1 1 - A.1 6) = nI (A.1 0 * A.1 1) - nI (A.1 6) := (pk_sub (by have := hA.1; unfold RulesOk at this; omega)).symm
    rw [eC]
    refine ⟨upd (upd (upd P 9 (P 9 + moneyA (cur A.2.2.1) (A.2.2.1.length - 1) A.2.2.2.1)) 7 (nI 0)) 8 (nI 0), T', r', D', rfl, ?_⟩
    refine ⟨h.1, c2, f2, ?_, ?_, ?_, ?_, d2⟩
    · rw [upd_s, if_neg (by omega), upd_s, if_pos rfl]; rfl
    · rw [upd_s, if_pos rfl]
    · rw [upd_s, if_neg (by omega), upd_s, if_neg (by omega), upd_s, if_pos rfl, h.2.2.2.2.2.1]
    · intro i Q hi hl
      exact absurd hl (by show ¬ i + 1 < 1; omega)
  · rw [if_neg q]
    unfold okDeal at q
    by_cases q1 : inB v1 0 1 = true
    · rw [if_pos q1]
      by_cases q2 : inB v2 0 1000000 = true
      · rw [q1, q2] at q; exact absurd rfl q
      · rw [if_neg q2]; exact ⟨P, T, r, D, rfl, h⟩
    · rw [if_neg q1]; exact ⟨P, T, r, D, rfl, h⟩
theorem C_doMove {A : AS} {P rn r : Nat → Int32} {D T : Nat → Nat → Int32} {S : Nat → Nat → Int64} (hA : okA A) (h : CSt A P rn r D T S) {f t n : Nat} (hf : f < 10) (ht : t < 9) (hn : 1 ≤ n) (hn16 : n ≤ 16) (h1 : n = 1 ∨ (f < 5 ∧ t < 5)) (hl : legal A.2.1 (cur A.2.2.1) f t n = true) (hd : A.2.2.1.length ≤ 200) :
    ∃ P' S' T', F_X5_doMove P S T (nI f) (nI t) (nI n) = some (P', S', T') ∧ CSt (A.1, A.2.1, A.2.2.1 ++ [playP A.2.1 (cur A.2.2.1) f t n], A.2.2.2) P' rn r D T' S' := by
  have w := hA.wf
  have hlen := hA.2.2.1
  obtain ⟨S', a1, a2, a3⟩ := s_keep (n := 200) (i := A.2.2.1.length - 1) h.2.2.1 w.1 (S := S) (by omega) (by omega)
  obtain ⟨T', b1, b2⟩ := s_play h.2.2.1 w hA.2.1 hf ht hn hn16 h1 hl
  unfold F_X5_doMove
  rw [h.2.2.2.1, a1, cal1_s, s_codeOf, cal1_s, b1, cal1_s, nI_add, bnd_s]
  refine ⟨_, S', T', rfl, h.1, h.2.1, ?_, ?_, ?_, ?_, ?_, h.2.2.2.2.2.2.2⟩
  · show TRep T' (cur (A.2.2.1 ++ [playP A.2.1 (cur A.2.2.1) f t n]))
    rw [cur_app]; exact b2
  · rw [upd_s, if_pos rfl]
    show nI (A.2.2.1.length - 1 + 1) = nI ((A.2.2.1 ++ [playP A.2.1 (cur A.2.2.1) f t n]).length - 1)
    rw [List.length_append, List.length_singleton]; congr 1; omega
  · rw [upd_s, if_neg (by omega)]; exact h.2.2.2.2.1
  · rw [upd_s, if_neg (by omega)]; exact h.2.2.2.2.2.1
  · intro i Q hi hlt
    change (A.2.2.1 ++ [playP A.2.1 (cur A.2.2.1) f t n])[i]? = some Q at hi
    change i + 1 < (A.2.2.1 ++ [playP A.2.1 (cur A.2.2.1) f t n]).length at hlt
    rw [List.length_append, List.length_singleton] at hlt
    rw [List.getElem?_append_left (by omega)] at hi
    by_cases q : i = A.2.2.1.length - 1
    · have e : cur A.2.2.1 = Q := by
        unfold cur
        rw [List.getLast?_eq_getElem?, ← q, hi]; rfl
      rw [q, ← e]; exact a2
    · have h0 := h.2.2.2.2.2.2.1 i Q hi (by omega)
      unfold SRow at h0 ⊢
      rw [a3 0 i q, a3 1 i q, a3 2 i q]; exact h0
theorem C_move {A : AS} {P rn r : Nat → Int32} {D T : Nat → Nat → Int32} {S : Nat → Nat → Int64} (hA : okA A) (h : CSt A P rn r D T S) (v1 v2 v3 : Int32) :
    ∃ P' T' S', F_X5_move r P T S v1 v2 v3 = some ((aMove A v1 v2 v3).1, (aMove A v1 v2 v3).2.1, P', T', S') ∧ CSt (aMove A v1 v2 v3).2.2 P' rn r D T' S' := by
  have hlen := hA.2.2.1
  have hlen2 := hA.2.2.2.1
  have go : okArg v1 v2 v3 = true → ∀ (a b : Nat), inB v3 a b = true → ∃ P' T' S', F_X5_move_b63 r P T S v1 v2 v3 v3 (nI a) (nI b) = some ((aMove A v1 v2 v3).1, (aMove A v1 v2 v3).2.1, P', T', S') ∧ CSt (aMove A v1 v2 v3).2.2 P' rn r D T' S' := by
    intro q a b hab
    obtain ⟨e1, e2, e3, b1, b2, b3, b4, b5⟩ := okArg_facts q
    unfold aMove F_X5_move_b63
    rw [if_pos q, s_within, cal1_s, bi_if, if_pos hab, h.2.2.2.1]
    by_cases q2 : A.2.2.1.length - 1 < 200
    · have hm := s_isMove h.2.2.1 hA.wf h.2.1 b1 b2 b3 b4 b5
      rw [← e1, ← e2, ← e3] at hm
      rw [if_neg (nI_ge q2 (by omega)), hm, cal1_s, bi_if]
      by_cases q3 : legal A.2.1 (cur A.2.2.1) (nV v1) (nV v2) (nV v3) = true
      · have qd : okDo A v1 v2 v3 = true := by unfold okDo; rw [decide_eq_true q2, q3]; rfl
        rw [if_pos q3, if_pos qd]
        obtain ⟨P', S', T', c1, c2⟩ := C_doMove hA h b1 b2 b3 b4 b5 q3 (by omega)
        rw [← e1, ← e2, ← e3] at c1
        have w' := playP_wf hA q qd
        have c3 : TRep T' (afterMove A v1 v2 v3) := by
          have := c2.2.2.1
          change TRep T' (cur (A.2.2.1 ++ [playP A.2.1 (cur A.2.2.1) (nV v1) (nV v2) (nV v3)])) at this
          rw [cur_app] at this; exact this
        rw [c1, cal3_s, s_cardsUp c3 w' h.2.1, cal1_s]
        exact ⟨P', T', S', rfl, c2⟩
      · have qd : ¬ okDo A v1 v2 v3 = true := by unfold okDo; rw [Bool.and_eq_true]; exact fun y => q3 y.2
        rw [if_neg q3, if_neg qd]
        exact ⟨P, T, S, rfl, h⟩
    · have qd : ¬ okDo A v1 v2 v3 = true := by unfold okDo; rw [Bool.and_eq_true, decide_eq_true_eq]; exact fun y => q2 y.1
      rw [if_pos (nI_le (by omega) (by omega)), if_neg qd]
      exact ⟨P, T, S, rfl, h⟩
  have bad : ∀ (X : Option (Nat × Int32 × (Nat → Int32) × (Nat → Nat → Int32) × (Nat → Nat → Int64))), ¬ okArg v1 v2 v3 = true → X = some (1, nI 0, P, T, S) → ∃ P' T' S', X = some ((aMove A v1 v2 v3).1, (aMove A v1 v2 v3).2.1, P', T', S') ∧ CSt (aMove A v1 v2 v3).2.2 P' rn r D T' S' := by
    intro X q hX
    unfold aMove
    rw [if_neg q]
    exact ⟨P, T, S, hX, h⟩
  have nob : ∀ (a b : Nat), ¬ inB v3 a b = true → F_X5_move_b63 r P T S v1 v2 v3 v3 (nI a) (nI b) = some (1, nI 0, P, T, S) := by
    intro a b hab
    unfold F_X5_move_b63
    rw [s_within, cal1_s, bi_if, if_neg hab]
  have fal : ∀ {b : Bool}, ¬ b = true → b = false := fun h => by rw [← Bool.not_eq_true]; exact h
  unfold F_X5_move
  rw [s_within, cal1_s, bi_if]
  by_cases q1 : inB v1 0 9 = true
  · rw [if_pos q1]
    obtain ⟨e1, -, b1⟩ := inB_nV (by omega) (by omega) q1
    by_cases q2 : v1 = nI 8
    · rw [if_pos q2]
      exact bad _ (by unfold okArg; rw [decide_eq_false (Classical.not_not.mpr q2), Bool.false_and, Bool.and_false]; exact Bool.false_ne_true) rfl
    · rw [if_neg q2, s_within, cal1_s, bi_if]
      by_cases q3 : inB v2 0 8 = true
      · rw [if_pos q3]
        obtain ⟨e2, -, b2⟩ := inB_nV (by omega) (by omega) q3
        by_cases q4 : v1 = v2
        · rw [if_pos q4]
          exact bad _ (by unfold okArg; rw [decide_eq_false (Classical.not_not.mpr q4), Bool.false_and, Bool.and_false, Bool.and_false, Bool.and_false]; exact Bool.false_ne_true) rfl
        · have c1 : F_X5_isColumn v1 = some (bi (decide (nV v1 < 5))) := by rw [e1, s_isColumn (by omega), ← e1]
          have c2 : F_X5_isColumn v2 = some (bi (decide (nV v2 < 5))) := by rw [e2, s_isColumn (by omega), ← e2]
          have arg : okArg v1 v2 v3 = (inB v3 1 16 && (decide (v3 = nI 1) || (decide (¬ nI 5 ≤ v1) && decide (¬ nI 5 ≤ v2)))) := by
            unfold okArg; rw [q1, q3, decide_eq_true q2, decide_eq_true q4, Bool.true_and, Bool.true_and, Bool.true_and, Bool.true_and]
          have z1 : decide (¬ nI 5 ≤ v1) = decide (nV v1 < 5) := by
            by_cases z : nV v1 < 5
            · rw [decide_eq_true z, decide_eq_true (by rw [e1]; exact nI_ge z (by omega))]
            · rw [decide_eq_false z, decide_eq_false (by rw [e1]; exact Classical.not_not.mpr (nI_le (by omega) (by omega)))]
          have z2 : decide (¬ nI 5 ≤ v2) = decide (nV v2 < 5) := by
            by_cases z : nV v2 < 5
            · rw [decide_eq_true z, decide_eq_true (by rw [e2]; exact nI_ge z (by omega))]
            · rw [decide_eq_false z, decide_eq_false (by rw [e2]; exact Classical.not_not.mpr (nI_le (by omega) (by omega)))]
          have one : ∀ {x : Bool}, x = false → (inB v3 1 16 && (decide (v3 = nI 1) || x)) = inB v3 1 1 := by
            intro x hx
            rw [hx, Bool.or_false]
            by_cases z : v3 = nI 1
            · rw [decide_eq_true z, z]; decide
            · rw [decide_eq_false z, Bool.and_false]
              cases z9 : inB v3 1 1
              · rfl
              · obtain ⟨y1, y2, y3⟩ := inB_nV (by omega) (by omega) z9
                exact absurd (y1.trans (by rw [show nV v3 = 1 by omega])) z
          rw [if_neg q4, c1, cal1_s, bi_if]
          rw [z1, z2] at arg
          by_cases q5 : nV v1 < 5
          · rw [if_pos (decide_eq_true q5), c2, cal1_s, bi_if]
            by_cases q6 : nV v2 < 5
            · rw [if_pos (decide_eq_true q6)]
              rw [decide_eq_true q5, decide_eq_true q6, Bool.and_self, Bool.or_true, Bool.and_true] at arg
              by_cases q7 : inB v3 1 16 = true
              · exact go (arg.trans q7) 1 16 q7
              · exact bad _ (by rw [arg]; exact q7) (nob _ _ q7)
            · rw [if_neg (by rw [decide_eq_true_eq]; exact q6)]
              rw [one (by rw [decide_eq_false q6, Bool.and_false])] at arg
              by_cases q7 : inB v3 1 1 = true
              · exact go (arg.trans q7) 1 1 q7
              · exact bad _ (by rw [arg]; exact q7) (nob _ _ q7)
          · rw [if_neg (by rw [decide_eq_true_eq]; exact q5)]
            rw [one (by rw [decide_eq_false q5, Bool.false_and])] at arg
            by_cases q7 : inB v3 1 1 = true
            · exact go (arg.trans q7) 1 1 q7
            · exact bad _ (by rw [arg]; exact q7) (nob _ _ q7)
      · rw [if_neg q3]
        exact bad _ (by unfold okArg; rw [fal q3, Bool.false_and, Bool.and_false, Bool.and_false]; exact Bool.false_ne_true) rfl
  · rw [if_neg q1]
    exact bad _ (by unfold okArg; rw [fal q1, Bool.false_and]; exact Bool.false_ne_true) rfl
end
section
/-! ===== the class: undo, safe, what is told ===== -/
theorem C_undo {A : AS} {P rn r : Nat → Int32} {D T : Nat → Nat → Int32} {S : Nat → Nat → Int64} (hA : okA A) (h : CSt A P rn r D T S) (v : Int32) :
    ∃ P' T', F_X5_undo S P T v = some ((aUndo A v).1, (aUndo A v).2.1, P', T') ∧ CSt (aUndo A v).2.2 P' rn r D T' S := by
  have hlen := hA.2.2.1
  have hlen2 := hA.2.2.2.1
  unfold aUndo F_X5_undo
  rw [s_within, cal1_s, bi_if]
  by_cases q : inB v 1 200 = true
  · rw [if_pos q, if_pos q]
    obtain ⟨e1, a1, b1⟩ := inB_nV (by omega) (by omega) q
    have eb : (if P 7 < v then P 7 else v) = nI (backN A v) := by
      rw [h.2.2.2.1]
      unfold backN
      by_cases z : A.2.2.1.length - 1 < nV v
      · rw [if_pos (by rw [e1]; exact nI_lt z (by omega)), if_pos (by omega)]
      · rw [if_neg (by rw [e1]; exact nI_nlt (by omega) (by omega))]
        by_cases z2 : A.2.2.1.length - 1 ≤ nV v
        · rw [if_pos z2, show A.2.2.1.length - 1 = nV v by omega]; exact e1
        · rw [if_neg z2]; exact e1
    have hb : backN A v ≤ A.2.2.1.length - 1 := by unfold backN; split <;> omega
    rw [eb]
    by_cases q2 : backN A v = 0
    · rw [q2, if_pos (nI_le (Nat.le_refl _) (by omega))]
      refine ⟨P, T, rfl, ?_⟩
      have et : A.2.2.1.take (A.2.2.1.length - 1 - 0 + 1) = A.2.2.1 := by rw [List.take_of_length_le (by omega)]
      rw [et, Nat.add_zero]
      exact h
    · rw [if_neg (nI_ge (by omega) (by omega)), bnd_s, h.2.2.2.1, pk_sub hb, bnd_s]
      have hlt : A.2.2.1.length - 1 - backN A v < A.2.2.1.length := by omega
      obtain ⟨Q, hQ⟩ : ∃ Q, A.2.2.1[A.2.2.1.length - 1 - backN A v]? = some Q := ⟨_, List.getElem?_eq_getElem hlt⟩
      have wQ := hA.2.2.2.2.1 Q (List.mem_of_getElem? hQ)
      have h72 : wQ.1 = wQ.1 := rfl
      have htu : Q.2.2.2 ≤ 2 := by
        have := wQ.2.2.2.2.2.2.2.2
        have hR := hA.2.1
        unfold RulesOk at hR
        omega
      obtain ⟨T', f1, f2⟩ := s_fetch (T := T) (n := 200) wQ.1 htu (by omega) (show A.2.2.1.length - 1 - backN A v < 200 by omega) (h.2.2.2.2.2.2.1 _ Q hQ (by omega))
      have e7 : upd (upd P 7 (nI (A.2.2.1.length - 1 - backN A v))) 8 (upd P 7 (nI (A.2.2.1.length - 1 - backN A v)) 8 + nI (backN A v)) 7 = nI (A.2.2.1.length - 1 - backN A v) := by
        rw [upd_s, if_neg (by omega), upd_s, if_pos rfl]
      rw [e7, f1, cal1_s]
      refine ⟨_, T', rfl, ?_⟩
      refine ⟨h.1, h.2.1, ?_, ?_, ?_, ?_, ?_, h.2.2.2.2.2.2.2⟩
      · show TRep T' (cur (A.2.2.1.take (A.2.2.1.length - 1 - backN A v + 1)))
        rw [cur_take _ hlt hQ]; exact f2
      · rw [e7]
        show _ = nI ((A.2.2.1.take (A.2.2.1.length - 1 - backN A v + 1)).length - 1)
        rw [List.length_take]; congr 1; omega
      · rw [upd_s, if_pos rfl, upd_s, if_neg (by omega), h.2.2.2.2.1, nI_add]
      · rw [upd_s, if_neg (by omega), upd_s, if_neg (by omega)]; exact h.2.2.2.2.2.1
      · intro i X hi hl
        change (A.2.2.1.take (A.2.2.1.length - 1 - backN A v + 1))[i]? = some X at hi
        change i + 1 < (A.2.2.1.take (A.2.2.1.length - 1 - backN A v + 1)).length at hl
        rw [List.length_take] at hl
        rw [List.getElem?_take, if_pos (by omega)] at hi
        exact h.2.2.2.2.2.2.1 i X hi (by omega)
  · rw [if_neg q, if_neg q]
    exact ⟨P, T, rfl, h⟩
theorem C_safe_L {v1 : Int32} {rn r : Nat → Int32} {D : Nat → Nat → Int32} : ∀ (n m : Nat) (A : AS) (P : Nat → Int32) (T : Nat → Nat → Int32) (S : Nat → Nat → Int64), n = 200 - (A.2.2.1.length - 1) → n < m → okA A → CSt A P rn r D T S →
    ∃ P' T' S', F_X5_safe_L19 r m P T S v1 (optI ((List.range 8).find? (safeAt A.2.1 (cur A.2.2.1)))) (nI n) = some (nI (A.2.2.1.length - 1 + (safeL A.2.1 n (cur A.2.2.1)).length) - v1, P', T', S') ∧ CSt (A.1, A.2.1, A.2.2.1 ++ safeL A.2.1 n (cur A.2.2.1), A.2.2.2) P' rn r D T' S' := by
  intro n
  induction n with
  | zero =>
    intro m A P T S hn hm hA h
    obtain ⟨m, rfl⟩ : ∃ q, m = q + 1 := ⟨m - 1, by omega⟩
    refine ⟨P, T, S, ?_, ?_⟩
    · show F_X5_safe_s19 r (F_X5_safe_L19 r m) _ _ _ _ _ _ = _
      unfold F_X5_safe_s19 F_X5_safe_b50
      rw [if_pos (nI_le (Nat.le_refl _) (by omega)), h.2.2.2.1]; rfl
    · show CSt (A.1, A.2.1, A.2.2.1 ++ [], A.2.2.2) P rn r D T S
      rw [List.append_nil]; exact h
  | succ n ih =>
    intro m A P T S hn hm hA h
    obtain ⟨m, rfl⟩ : ∃ q, m = q + 1 := ⟨m - 1, by omega⟩
    have eS : safeL A.2.1 (n + 1) (cur A.2.2.1) = match (List.range 8).find? (safeAt A.2.1 (cur A.2.2.1)) with | none => [] | some f => playP A.2.1 (cur A.2.2.1) f 8 1 :: safeL A.2.1 n (playP A.2.1 (cur A.2.2.1) f 8 1) := rfl
    cases e : (List.range 8).find? (safeAt A.2.1 (cur A.2.2.1)) with
    | none =>
      rw [e] at eS
      refine ⟨P, T, S, ?_, ?_⟩
      · rw [eS]
        show F_X5_safe_s19 r (F_X5_safe_L19 r m) _ _ _ _ _ _ = _
        unfold F_X5_safe_s19 F_X5_safe_b50
        rw [if_neg (nI_ge (by omega) (by omega)), if_pos (show optI none = -1 from rfl), h.2.2.2.1]; rfl
      · rw [eS, List.append_nil]; exact h
    | some f =>
      rw [e] at eS
      have hs := List.find?_some e
      have hf : f < 8 := List.mem_range.mp (List.mem_of_find?_eq_some e)
      unfold safeAt at hs
      rw [Bool.and_eq_true] at hs
      have wC := wf_play hA.wf hA.2.1 (Nat.le_refl 1) (Or.inl rfl) hs.1
      have hl200 : A.2.2.1.length ≤ 200 := by omega
      obtain ⟨P1, S1, T1, a1, a2⟩ := C_doMove hA h (f := f) (t := 8) (n := 1) (by omega) (by omega) (Nat.le_refl 1) (by omega) (Or.inl rfl) hs.1 hl200
      have hA1 := hA.push wC hl200
      have hl1 : (A.2.2.1 ++ [playP A.2.1 (cur A.2.2.1) f 8 1]).length = A.2.2.1.length + 1 := by rw [List.length_append]; rfl
      have hpos := hA.2.2.1
      have ecur : cur (A.2.2.1 ++ [playP A.2.1 (cur A.2.2.1) f 8 1]) = playP A.2.1 (cur A.2.2.1) f 8 1 := cur_app _ _
      obtain ⟨P', T', S', b1, b2⟩ := ih m (A.1, A.2.1, A.2.2.1 ++ [playP A.2.1 (cur A.2.2.1) f 8 1], A.2.2.2) P1 T1 S1 (by show n = 200 - ((A.2.2.1 ++ [playP A.2.1 (cur A.2.2.1) f 8 1]).length - 1); rw [hl1]; omega) (by omega) hA1 a2
      have fs := s_firstSafe a2.2.2.1 hA1.wf a2.2.1
      dsimp only at b1 b2 fs
      rw [ecur] at b1 b2 fs
      rw [hl1] at b1
      refine ⟨P', T', S', ?_, ?_⟩
      · rw [eS]
        show F_X5_safe_s19 r (F_X5_safe_L19 r m) _ _ _ _ _ _ = _
        unfold F_X5_safe_s19
        rw [if_neg (nI_ge (by omega) (by omega)), show optI (some f) = nI f from rfl, if_neg (fun y => (nI_negone (by omega)).mp y), a1, cal3_s, fs, cal1_s, dec_nI, b1, List.length_cons, show ∀ x : Nat, A.2.2.1.length + 1 - 1 + x = A.2.2.1.length - 1 + (x + 1) from fun x => by omega]
      · rw [eS]
        have := b2
        rw [List.append_assoc] at this
        exact this
theorem C_safe {A : AS} {P rn r : Nat → Int32} {D T : Nat → Nat → Int32} {S : Nat → Nat → Int64} (hA : okA A) (h : CSt A P rn r D T S) :
    ∃ P' T' S', F_X5_safe r P T S = some ((aSafe A).2.1, P', T', S') ∧ CSt (aSafe A).2.2 P' rn r D T' S' := by
  have hlen := hA.2.2.1
  have hlen2 := hA.2.2.2.1
  obtain ⟨P', T', S', a1, a2⟩ := C_safe_L (v1 := nI (A.2.2.1.length - 1)) (200 - (A.2.2.1.length - 1)) FU A P T S rfl (FU_gt (by omega)) hA h
  have hc : (safeA A).length ≤ 200 - (A.2.2.1.length - 1) := safeL_len _ _ _
  unfold F_X5_safe
  rw [s_firstSafe h.2.2.1 hA.wf h.2.1, cal1_s, h.2.2.2.1, pk_sub (by omega), a1]
  refine ⟨P', T', S', ?_, a2⟩
  show some (nI (A.2.2.1.length - 1 + (safeA A).length) - nI (A.2.2.1.length - 1), P', T', S') = some (nI (safeA A).length, P', T', S')
  rw [pk_sub (by omega), show A.2.2.1.length - 1 + (safeA A).length - (A.2.2.1.length - 1) = (safeA A).length by omega]
theorem C_moves {A : AS} {P rn r : Nat → Int32} {D T : Nat → Nat → Int32} {S : Nat → Nat → Int64} (hA : okA A) (h : CSt A P rn r D T S) :
    ∃ T', F_X5_moves P r T = some ((aMoves A).2.1, T') ∧ CSt (aMoves A).2.2 P rn r D T' S := by
  obtain ⟨T', a1, a2⟩ := s_listMoves h.2.2.1 hA.wf h.2.1
  unfold F_X5_moves
  rw [a1, cal1_s, a2.2.1]
  exact ⟨T', rfl, h.1, h.2.1, a2.1, h.2.2.2⟩
theorem C_moveAt {A : AS} {P rn r : Nat → Int32} {D T : Nat → Nat → Int32} {S : Nat → Nat → Int64} (hA : okA A) (h : CSt A P rn r D T S) (v : Int32) :
    ∃ T', F_X5_moveAt P r T v = some (if (aMoveAt A v).1 = 0 then 0 else 3, (aMoveAt A v).2.1, T') ∧ CSt (aMoveAt A v).2.2 P rn r D T' S := by
  unfold aMoveAt F_X5_moveAt
  by_cases q : v < nI 0
  · rw [if_pos q, if_neg (Int32.not_le.mpr q)]
    exact ⟨T, rfl, h⟩
  · rw [if_neg q, if_pos (Int32.not_lt.mp q)]
    obtain ⟨e, hv⟩ := pos_nV q
    obtain ⟨T', a1, a2⟩ := s_listMoves h.2.2.1 hA.wf h.2.1
    have a3 := s_listedAt a2 (mvs_le hA.2.1 hA.wf.1) hv
    rw [← e] at a3
    rw [a1, cal1_s, a3, cal1_s]
    exact ⟨T', rfl, h.1, h.2.1, a2.1, h.2.2.2⟩
theorem C_card {A : AS} {P rn r : Nat → Int32} {D T : Nat → Nat → Int32} {S : Nat → Nat → Int64} (hA : okA A) (h : CSt A P rn r D T S) (v1 v2 : Int32) :
    F_X5_card P T r v1 v2 = some ((aCard A v1 v2).1, (aCard A v1 v2).2.1) := by
  unfold aCard okCard F_X5_card
  rw [s_within, cal1_s, bi_if]
  by_cases q : inB v1 0 9 = true
  · rw [if_pos q, q, Bool.true_and]
    by_cases q2 : v2 < nI 0
    · rw [if_neg (Int32.not_le.mpr q2), decide_eq_false (Classical.not_not.mpr q2)]; rfl
    · rw [if_pos (Int32.not_lt.mp q2), decide_eq_true q2, if_pos rfl]
      obtain ⟨e1, -, b1⟩ := inB_nV (by omega) (by omega) q
      obtain ⟨e2, b2⟩ := pos_nV q2
      unfold cardA
      have w := hA.wf
      by_cases z8 : nV v1 = 8
      · have ev : v1 = nI 8 := by rw [e1, z8]
        have := s_highest h.2.2.1 w h.2.1 b2
        rw [← e2] at this
        rw [if_pos ev, this, cal1_s, if_neg (by omega), if_pos z8]
      · rw [if_neg (fun y => z8 (by rw [y]; unfold nV; rw [nI_toInt (by omega)]; rfl)), e1, s_isColumn (by omega), cal1_s, bi_if, ← e1]
        by_cases z5 : nV v1 < 5
        · have := s_seen h.2.2.1 w.1 z5 b2
          rw [← e1, ← e2] at this
          rw [if_pos (decide_eq_true z5), this, cal1_s, if_pos z5]
        · have := s_fromTop h.2.2.1 w.1 (show nV v1 < 10 by omega) b2
          rw [← e1, ← e2] at this
          rw [if_neg (by rw [decide_eq_true_eq]; exact z5), this, cal1_s, if_neg z5, if_neg z8]
  · rw [if_neg q, if_neg (by rw [Bool.and_eq_true]; exact fun y => q y.1)]
end
section
/-! ===== the class: search, known, hint, odds, numberOf ===== -/
theorem C_search {A : AS} {P rn r : Nat → Int32} {D T : Nat → Nat → Int32} {S : Nat → Nat → Int64} (hA : okA A) (h : CSt A P rn r D T S) (Q Tt To : Nat → Nat → Int32) (Ss : Nat → Nat → Int64) (v : Int32) :
    ∃ Q' Tt' To' Ss', F_X5_search P T r Q Tt To Ss v = some ((aSearch A v).1, (aSearch A v).2.1, Q', Tt', To', Ss') := by
  unfold aSearch F_X5_search
  rw [s_within, cal1_s, bi_if]
  by_cases q : inB v 1 400 = true
  · rw [if_pos q, if_pos q]
    obtain ⟨e1, a1, b1⟩ := inB_nV (by omega) (by omega) q
    obtain ⟨T1, c1, c2, -⟩ := s_copyFrom (T0 := Tt) h.2.2.1
    obtain ⟨Q', To', Tt', Ss', d1, -⟩ := s_run h.2.1 c2 hA.wf a1 b1 Q To Ss
    rw [← e1] at d1
    rw [c1, cal1_s, d1, cal5_s]
    exact ⟨Q', Tt', To', Ss', rfl⟩
  · rw [if_neg q, if_neg q]
    exact ⟨Q, Tt, To, Ss, rfl⟩
theorem C_known {A : AS} {P rn r : Nat → Int32} {D T : Nat → Nat → Int32} {S : Nat → Nat → Int64} (hA : okA A) (h : CSt A P rn r D T S) (Q Tt To : Nat → Nat → Int32) (Ss : Nat → Nat → Int64) (v : Int32) :
    ∃ Q' Tt' To' Ss', F_X5_known P T r Q Tt To Ss v = some ((aKnown A v).1, (aKnown A v).2.1, Q', Tt', To', Ss') := by
  unfold aKnown F_X5_known
  rw [s_within, cal1_s, bi_if]
  by_cases q : inB v 1 400 = true
  · rw [if_pos q, if_pos q]
    obtain ⟨e1, a1, b1⟩ := inB_nV (by omega) (by omega) q
    obtain ⟨T1, c1, c2, -⟩ := s_copyFrom (T0 := Tt) h.2.2.1
    obtain ⟨Q', To', Tt', Ss', d1, d2, -⟩ := s_run h.2.1 c2 hA.wf a1 b1 Q To Ss
    rw [← e1] at d1
    rw [c1, cal1_s, d1, cal5_s, d2]
    exact ⟨Q', Tt', To', Ss', rfl⟩
  · rw [if_neg q, if_neg q]
    exact ⟨Q, Tt, To, Ss, rfl⟩
theorem C_hint_L {R : Nat → Nat} {Po : Pos} {P r : Nat → Int32} {T : Nat → Nat → Int32} (hr : RR r R) (w : WF R Po) (hT : LRep T Po (mvs R Po)) (least : Int32) : ∀ (j k n : Nat) (Q Tt To : Nat → Nat → Int32) (Ss : Nat → Nat → Int64), k + j = (mvs R Po).length → j < n →
    ∃ Q' Tt' To' Ss', F_X5_hint_L40 P r n Q Tt T To Ss least (nI k) = some (hintF R Po least ((mvs R Po).drop k), Q', Tt', T, To', Ss') := by
  have hml := mvs_le hr.2 w.1
  intro j
  induction j with
  | zero =>
    intro k n Q Tt To Ss hk hn
    obtain ⟨n, rfl⟩ : ∃ q, n = q + 1 := ⟨n - 1, by omega⟩
    refine ⟨Q, Tt, To, Ss, ?_⟩
    show F_X5_hint_s40 P r (F_X5_hint_L40 P r n) _ _ _ _ _ _ _ = _
    unfold F_X5_hint_s40
    rw [hT.2.1, if_pos (nI_le (by omega) (by omega)), List.drop_of_length_le (by omega)]; rfl
  | succ j ih =>
    intro k n Q Tt To Ss hk hn
    obtain ⟨n, rfl⟩ : ∃ q, n = q + 1 := ⟨n - 1, by omega⟩
    have hkl : k < (mvs R Po).length := by omega
    obtain ⟨m, hm⟩ : ∃ m, (mvs R Po)[k]? = some m := ⟨_, List.getElem?_eq_getElem hkl⟩
    have hmem := List.mem_of_getElem? hm
    obtain ⟨f, t, n2, ec, hf, ht, hn1, hn16, h1, f8, hl⟩ := mem_mvs hmem
    have c1 : m / 1000 = f := by rw [ec]; unfold codeN; omega
    have c2 : m / 100 % 10 = t := by rw [ec]; unfold codeN; omega
    have c3 : m % 100 = n2 := by rw [ec]; unfold codeN; omega
    have ep : playC R Po m = playP R Po f t n2 := by unfold playC; rw [c1, c2, c3]
    have ed : (mvs R Po).drop k = m :: (mvs R Po).drop (k + 1) := by
      rw [List.drop_eq_getElem_cons hkl, (List.getElem?_eq_some_iff.mp hm).2]
    have ea := s_listedAt hT hml (i := k) (by omega)
    rw [hm] at ea
    obtain ⟨T1, b1, b2, -⟩ := s_copyFrom (T0 := Tt) hT.1
    obtain ⟨T2, d1, d2⟩ := s_play b2 w hr.2 hf ht hn1 hn16 h1 hl
    rw [← ec] at d1
    rw [← ep] at d2
    have wC : WF R (playC R Po m) := by rw [ep]; exact wf_play w hr.2 hn1 h1 hl
    obtain ⟨Q1, To1, Tt1, Ss1, f1, -⟩ := s_run hr d2 wC (b := 100) (by omega) (by omega) Q To Ss
    obtain ⟨Q', Tt', To', Ss', g1⟩ := ih (k + 1) n Q1 Tt1 To1 Ss1 (by omega) (by omega)
    show ∃ Q' Tt' To' Ss', F_X5_hint_s40 P r (F_X5_hint_L40 P r n) _ _ _ _ _ _ _ = _
    unfold F_X5_hint_s40
    rw [hT.2.1, if_neg (nI_ge hkl (by omega)), ea, cal1_s, b1, cal1_s, show optI (some m) = nI m from rfl, d1, cal1_s, f1, cal5_s, ed]
    by_cases q : (searchA R 100 (playC R Po m)).1 = least - nI 1
    · rw [if_pos q]
      refine ⟨Q1, Tt1, To1, Ss1, ?_⟩
      show _ = some ((if (searchA R 100 (playC R Po m)).1 = least - nI 1 then nI m else hintF R Po least ((mvs R Po).drop (k + 1))), Q1, Tt1, T, To1, Ss1)
      rw [if_pos q]
    · rw [if_neg q, nI_add, g1]
      refine ⟨Q', Tt', To', Ss', ?_⟩
      show _ = some ((if (searchA R 100 (playC R Po m)).1 = least - nI 1 then nI m else hintF R Po least ((mvs R Po).drop (k + 1))), Q', Tt', T, To', Ss')
      rw [if_neg q]
theorem C_hint {A : AS} {P rn r : Nat → Int32} {D T : Nat → Nat → Int32} {S : Nat → Nat → Int64} (hA : okA A) (h : CSt A P rn r D T S) (Q Tt To : Nat → Nat → Int32) (Ss : Nat → Nat → Int64) :
    ∃ Q' Tt' T' To' Ss', F_X5_hint P r Q Tt T To Ss = some ((aHint A).2.1, Q', Tt', T', To', Ss') ∧ CSt A P rn r D T' S := by
  obtain ⟨T1, c1, c2, -⟩ := s_copyFrom (T0 := Tt) h.2.2.1
  obtain ⟨Q1, To1, Tt1, Ss1, d1, -⟩ := s_run h.2.1 c2 hA.wf (b := 100) (by omega) (by omega) Q To Ss
  unfold F_X5_hint aHint hintA
  rw [c1, cal1_s, d1, cal5_s]
  by_cases q : nI 1 ≤ (searchA A.2.1 100 (cur A.2.2.1)).1
  · rw [if_pos q, if_pos q]
    obtain ⟨T', a1, a2⟩ := s_listMoves h.2.2.1 hA.wf h.2.1
    obtain ⟨Q', Tt', To', Ss', f1⟩ := C_hint_L (P := P) h.2.1 hA.wf a2 (searchA A.2.1 100 (cur A.2.2.1)).1 (mvs A.2.1 (cur A.2.2.1)).length 0 FU Q1 Tt1 To1 Ss1 (by omega) (FU_gt (by have := mvs_le hA.2.1 hA.wf.1; omega))
    rw [List.drop_zero] at f1
    rw [a1, cal1_s, f1]
    exact ⟨Q', Tt', T', To', Ss', rfl, h.1, h.2.1, a2.1, h.2.2.2⟩
  · rw [if_neg q, if_neg q]
    exact ⟨Q1, Tt1, T, To1, Ss1, rfl, h⟩
theorem C_num_L {R : Nat → Nat} {P r : Nat → Int32} {Dd : Nat → Nat → Int32} {mc m2 x2 : Nat} (hr : RR r R) (hm : mc < 2) (hD : DRep Dd (cardsA R m2 x2)) : ∀ (j k n : Nat) (Dt : Nat → Nat → Int32), k + j = 501 → j < n →
    ∃ Dt', F_X5_numberOf_L21 P r Dd n Dt (nI mc) (nI k) = some (0, numF R mc (cardsA R m2 x2) k j, Dt') := by
  have hR := hr.2
  unfold RulesOk at hR
  intro j
  induction j with
  | zero =>
    intro k n Dt hk hn
    obtain ⟨n, rfl⟩ : ∃ q, n = q + 1 := ⟨n - 1, by omega⟩
    refine ⟨Dt, ?_⟩
    show F_X5_numberOf_s21 P r Dd (F_X5_numberOf_L21 P r Dd n) _ _ _ = _
    unfold F_X5_numberOf_s21
    rw [if_pos (nI_lt (by omega) (by omega))]; rfl
  | succ j ih =>
    intro k n Dt hk hn
    obtain ⟨n, rfl⟩ : ∃ q, n = q + 1 := ⟨n - 1, by omega⟩
    obtain ⟨D1, a1, a2⟩ := s_draw (mc := mc) (x := k) hm hr.2 Dt
    obtain ⟨Dt', b1⟩ := ih (k + 1) n D1 (by omega) (by omega)
    have er : List.range' k (j + 1) = k :: List.range' (k + 1) j := rfl
    have hs := s_isSameAs a2 hD (show R 0 * R 1 ≤ 16 by omega) (cardsA_len R mc k) (cardsA_len R m2 x2) (fun c hc => by have := cardsA_lt hc; omega) (fun c hc => by have := cardsA_lt hc; omega)
    show ∃ Dt', F_X5_numberOf_s21 P r Dd (F_X5_numberOf_L21 P r Dd n) _ _ _ = _
    unfold F_X5_numberOf_s21
    rw [if_neg (nI_nlt (by omega) (by omega)), s_cards hr, cal1_s, a1, cal1_s, cal1_s, hs, cal1_s, bi_if]
    unfold numF
    by_cases q : cardsA R mc k = cardsA R m2 x2
    · rw [if_pos (decide_eq_true q), er, List.find?_cons_of_pos (p := fun x => decide (cardsA R mc x = cardsA R m2 x2)) (decide_eq_true q)]
      exact ⟨D1, rfl⟩
    · rw [if_neg (by rw [decide_eq_true_eq]; exact q), er, List.find?_cons_of_neg (p := fun x => decide (cardsA R mc x = cardsA R m2 x2)) (by rw [decide_eq_true_eq]; exact q), nI_add, b1]
      exact ⟨Dt', rfl⟩
theorem C_numberOf {A : AS} {P rn r : Nat → Int32} {D T : Nat → Nat → Int32} {S : Nat → Nat → Int64} (h : CSt A P rn r D T S) (Dt : Nat → Nat → Int32) (v : Int32) :
    ∃ Dt', F_X5_numberOf P r D Dt v = some ((aNumberOf A v).1, (aNumberOf A v).2.1, Dt') := by
  unfold aNumberOf F_X5_numberOf
  rw [s_within, cal1_s, bi_if]
  by_cases q : inB v 0 1 = true
  · rw [if_pos q, if_pos q]
    obtain ⟨e1, -, b1⟩ := inB_nV (by omega) (by omega) q
    obtain ⟨Dt', a1⟩ := C_num_L (P := P) (mc := nV v) h.2.1 (by omega) h.2.2.2.2.2.2.2 501 0 FU Dt (by omega) (FU_gt (by omega))
    rw [← e1] at a1
    exact ⟨Dt', a1⟩
  · rw [if_neg q, if_neg q]
    exact ⟨Dt, rfl⟩
theorem C_odds_L {N : Nat → Nat} {P rn : Nat → Int32} {mc b x m : Nat} (hr : RR rn N) (hm : mc < 2) (hx : x ≤ 1000000) (hm8 : m ≤ 8) (hb1 : 1 ≤ b) (hb : b ≤ 400) : ∀ (j k n : Nat) (Dt Q Tt To : Nat → Nat → Int32) (Ss : Nat → Nat → Int64), k + j = m → j < n →
    ∃ Dt' Q' Tt' To' Ss', F_X5_odds_L70 P rn n Dt Q Tt To Ss (nI mc) (nI x) (nI m) (nI b) (nI (oddsW N mc b x k)) (nI (oddsL N mc b x k)) (nI k) = some (0, nI (10 * oddsW N mc b x m + oddsL N mc b x m), Dt', Q', Tt', To', Ss') := by
  intro j
  induction j with
  | zero =>
    intro k n Dt Q Tt To Ss hk hn
    obtain ⟨n, rfl⟩ : ∃ q, n = q + 1 := ⟨n - 1, by omega⟩
    refine ⟨Dt, Q, Tt, To, Ss, ?_⟩
    show F_X5_odds_s70 P rn (F_X5_odds_L70 P rn n) _ _ _ _ _ _ _ _ _ _ _ _ = _
    unfold F_X5_odds_s70 F_X5_odds_b150
    rw [if_pos (nI_le (by omega) (by omega)), pk_mul, nI_add, show k = m by omega]
  | succ j ih =>
    intro k n Dt Q Tt To Ss hk hn
    obtain ⟨n, rfl⟩ : ∃ q, n = q + 1 := ⟨n - 1, by omega⟩
    obtain ⟨D1, a1, a2⟩ := s_draw (mc := mc) (x := x + k) hm hr.2 Dt
    obtain ⟨T1, b1, b2, -⟩ := s_lay hr a2 Tt
    obtain ⟨Q1, To1, Tt1, Ss1, d1, -⟩ := s_run hr b2 (wf_dealP hr.2 hm) hb1 hb Q To Ss
    obtain ⟨Dt', Q', Tt', To', Ss', g1⟩ := ih (k + 1) n D1 Q1 Tt1 To1 Ss1 (by omega) (by omega)
    refine ⟨Dt', Q', Tt', To', Ss', ?_⟩
    rw [← g1]
    show F_X5_odds_s70 P rn (F_X5_odds_L70 P rn n) _ _ _ _ _ _ _ _ _ _ _ _ = _
    unfold F_X5_odds_s70
    rw [if_neg (nI_ge (by omega) (by omega)), s_cards hr, cal1_s, nI_add, a1, cal1_s, b1, cal1_s, d1, cal5_s]
    have eW : oddsW N mc b x (k + 1) = oddsW N mc b x k + (if (searchA N b (dealP N mc (x + k))).1 < nI 0 then 0 else 1) := rfl
    have eL : oddsL N mc b x (k + 1) = oddsL N mc b x k + (if (searchA N b (dealP N mc (x + k))).1 = -1 then 1 else 0) := rfl
    rw [eW, eL]
    by_cases q1 : (searchA N b (dealP N mc (x + k))).1 < nI 0
    · rw [if_pos q1, if_pos q1]
      by_cases q2 : (searchA N b (dealP N mc (x + k))).1 = -1
      · rw [if_pos q2, if_pos q2, nI_add, nI_add]; rfl
      · rw [if_neg q2, if_neg q2, nI_add]; rfl
    · have q2 : ¬ (searchA N b (dealP N mc (x + k))).1 = -1 := fun y => q1 (by rw [y]; decide)
      rw [if_neg q1, if_neg q1, if_neg q2, nI_add, nI_add]; rfl
theorem C_odds {A : AS} {P rn r : Nat → Int32} {D T : Nat → Nat → Int32} {S : Nat → Nat → Int64} (h : CSt A P rn r D T S) (Dt Q Tt To : Nat → Nat → Int32) (Ss : Nat → Nat → Int64) (v1 v2 v3 v4 : Int32) :
    ∃ Dt' Q' Tt' To' Ss', F_X5_odds P rn Dt Q Tt To Ss v1 v2 v3 v4 = some ((aOdds A v1 v2 v3 v4).1, (aOdds A v1 v2 v3 v4).2.1, Dt', Q', Tt', To', Ss') := by
  unfold F_X5_odds
  rw [s_within, cal1_s, bi_if, s_within, cal1_s, bi_if, s_within, cal1_s, bi_if, s_within, cal1_s, bi_if]
  have fal : ∀ {b : Bool}, ¬ b = true → b = false := fun h => by rw [← Bool.not_eq_true]; exact h
  have bad : ¬ okOdds v1 v2 v3 v4 = true → ∀ X : Option (Nat × Int32 × (Nat → Nat → Int32) × (Nat → Nat → Int32) × (Nat → Nat → Int32) × (Nat → Nat → Int32) × (Nat → Nat → Int64)), X = some (1, nI 0, Dt, Q, Tt, To, Ss) → ∃ Dt' Q' Tt' To' Ss', X = some ((aOdds A v1 v2 v3 v4).1, (aOdds A v1 v2 v3 v4).2.1, Dt', Q', Tt', To', Ss') := by
    intro q X hX
    unfold aOdds
    rw [if_neg q]
    exact ⟨Dt, Q, Tt, To, Ss, hX⟩
  by_cases q1 : inB v1 0 1 = true
  · rw [if_pos q1]
    by_cases q2 : inB v2 0 1000000 = true
    · rw [if_pos q2]
      by_cases q3 : inB v3 1 8 = true
      · rw [if_pos q3]
        by_cases q4 : inB v4 1 200 = true
        · have q : okOdds v1 v2 v3 v4 = true := by unfold okOdds; rw [q1, q2, q3, q4]; rfl
          rw [if_pos q4]
          unfold aOdds
          rw [if_pos q]
          obtain ⟨e1, -, b1⟩ := inB_nV (by omega) (by omega) q1
          obtain ⟨e2, -, b2⟩ := inB_nV (by omega) (by omega) q2
          obtain ⟨e3, -, b3⟩ := inB_nV (by omega) (by omega) q3
          obtain ⟨e4, a4, b4⟩ := inB_nV (by omega) (by omega) q4
          have := C_odds_L (N := A.1) (P := P) (mc := nV v1) (b := nV v4) (x := nV v2) (m := nV v3) h.1 (by omega) b2 b3 a4 (by omega) (nV v3) 0 FU Dt Q Tt To Ss (by omega) (FU_gt (by omega))
          rw [← e1, ← e2, ← e3, ← e4] at this
          exact this
        · rw [if_neg q4]
          exact bad (by unfold okOdds; rw [fal q4, Bool.and_false, Bool.and_false, Bool.and_false]; exact Bool.false_ne_true) _ rfl
      · rw [if_neg q3]
        exact bad (by unfold okOdds; rw [fal q3, Bool.false_and, Bool.and_false, Bool.and_false]; exact Bool.false_ne_true) _ rfl
    · rw [if_neg q2]
      exact bad (by unfold okOdds; rw [fal q2, Bool.false_and, Bool.and_false]; exact Bool.false_ne_true) _ rfl
  · rw [if_neg q1]
    exact bad (by unfold okOdds; rw [fal q1, Bool.false_and]; exact Bool.false_ne_true) _ rfl
end
section
/-! ===== counting the ones of sixteen bits ===== -/
def bcA (m : Nat) : Nat := Nat.sub m (Nat.land (Nat.shiftRight m 1) 1431655765)
def bcB (m : Nat) : Nat := Nat.add (Nat.land m 858993459) (Nat.land (Nat.shiftRight m 2) 858993459)
def bcC (m : Nat) : Nat := Nat.land (Nat.add m (Nat.shiftRight m 4)) 252645135
def bcD (m : Nat) : Nat := Nat.add m (Nat.shiftRight m 8)
def bcE (m : Nat) : Nat := Nat.land (Nat.add m (Nat.shiftRight m 16)) 63
def pop4 (m : Nat) : Nat := Nat.add (Nat.add (Nat.mod m 2) (Nat.mod (Nat.div m 2) 2)) (Nat.add (Nat.mod (Nat.div m 4) 2) (Nat.mod (Nat.div m 8) 2))
def popF (m : Nat) : Nat := Nat.add (Nat.add (pop4 m) (pop4 (Nat.div m 16))) (Nat.add (pop4 (Nat.div m 256)) (pop4 (Nat.div m 4096)))
def bcOk (m : Nat) : Bool := Nat.ble (bcB (bcA m)) 65535 && (Nat.ble (bcD (bcC (bcB (bcA m)))) 65535 && (Nat.ble (Nat.add (bcB (bcA m)) (Nat.shiftRight (bcB (bcA m)) 4)) 1000000 && Nat.beq (bcE (bcD (bcC (bcB (bcA m))))) (popF m)))
def bcAll (f : Nat → Bool) : Nat → Bool
  | 0 => true
  | n + 1 => f n && bcAll f n
theorem bcAll_at {f : Nat → Bool} : ∀ {n : Nat}, bcAll f n = true → ∀ i, i < n → f i = true
  | n + 1, h, i, hi => by
    have h' : (f n && bcAll f n) = true := h
    rw [Bool.and_eq_true] at h'
    rcases Nat.lt_or_ge i n with q | q
    · exact bcAll_at h'.2 i q
    · rw [show i = n by omega]; exact h'.1
theorem bc_all : bcAll (fun a => bcAll (fun b => bcOk (Nat.add (Nat.mul a 256) b)) 256) 256 = true := by decide +kernel
end
section
/-! ===== the class: told ===== -/
theorem bc_val {m : Nat} (h : m < 65536) : F_J6_bitCount_0f7a4 (nI m) = some (nI (popF m)) := by
  have h0 := bcAll_at (bcAll_at bc_all (m / 256) (by omega)) (m % 256) (by omega)
  have em : Nat.add (Nat.mul (m / 256) 256) (m % 256) = m := by
    show m / 256 * 256 + m % 256 = m
    omega
  rw [em] at h0
  unfold bcOk at h0
  rw [Bool.and_eq_true, Bool.and_eq_true, Bool.and_eq_true] at h0
  obtain ⟨h1, h2, -, h4⟩ := h0
  have h1 := Nat.le_of_ble_eq_true h1
  have h2 := Nat.le_of_ble_eq_true h2
  have h4 := Nat.eq_of_beq_eq_true h4
  have hA : bcA m ≤ m := Nat.sub_le _ _
  have hC : bcC (bcB (bcA m)) ≤ bcD (bcC (bcB (bcA m))) := Nat.le_add_right _ _
  have eA : nI m - (((nI m).toUInt32 >>> ((nI 1).toUInt32 &&& Int32.toUInt32 31)).toInt32 &&& nI 1431655765) = nI (bcA m) := by
    rw [nx_ush h (by omega), nx_and, pk_sub (Nat.le_trans Nat.and_le_left (by rw [Nat.shiftRight_eq_div_pow]; exact Nat.div_le_self _ _))]; rfl
  have eB : (nI (bcA m) &&& nI 858993459) + (((nI (bcA m)).toUInt32 >>> ((nI 2).toUInt32 &&& Int32.toUInt32 31)).toInt32 &&& nI 858993459) = nI (bcB (bcA m)) := by
    rw [nx_ush (by omega) (by omega), nx_and, nx_and, nI_add]; rfl
  have eC : (nI (bcB (bcA m)) + ((nI (bcB (bcA m))).toUInt32 >>> ((nI 4).toUInt32 &&& Int32.toUInt32 31)).toInt32) &&& nI 252645135 = nI (bcC (bcB (bcA m))) := by
    rw [nx_ush (by omega) (by omega), nI_add, nx_and]; rfl
  have eD : nI (bcC (bcB (bcA m))) + ((nI (bcC (bcB (bcA m)))).toUInt32 >>> ((nI 8).toUInt32 &&& Int32.toUInt32 31)).toInt32 = nI (bcD (bcC (bcB (bcA m)))) := by
    rw [nx_ush (by omega) (by omega), nI_add]; rfl
  have eE : (nI (bcD (bcC (bcB (bcA m)))) + ((nI (bcD (bcC (bcB (bcA m))))).toUInt32 >>> ((nI 16).toUInt32 &&& Int32.toUInt32 31)).toInt32) &&& nI 63 = nI (bcE (bcD (bcC (bcB (bcA m))))) := by
    rw [nx_ush (by omega) (by omega), nI_add, nx_and]; rfl
  unfold F_J6_bitCount_0f7a4
  rw [eA, eB, eC, eD, eE, h4]
theorem bit_div (m c : Nat) : (if m.testBit c = true then 1 else 0) = m / 2 ^ c % 2 := by
  rw [Nat.testBit_eq_decide_div_mod_eq]
  by_cases q : m / 2 ^ c % 2 = 1
  · rw [decide_eq_true q, if_pos rfl, q]
  · rw [decide_eq_false q, if_neg Bool.false_ne_true]
    have := Nat.mod_lt (m / 2 ^ c) (show 0 < 2 by omega)
    omega
theorem popF_cnt (m : Nat) : popF m = cntB (fun c => m.testBit c) 16 := by
  have b0 : (if m.testBit 0 = true then 1 else 0) = m / 1 % 2 := bit_div m 0
  have b1 : (if m.testBit 1 = true then 1 else 0) = m / 2 % 2 := bit_div m 1
  have b2 : (if m.testBit 2 = true then 1 else 0) = m / 4 % 2 := bit_div m 2
  have b3 : (if m.testBit 3 = true then 1 else 0) = m / 8 % 2 := bit_div m 3
  have b4 : (if m.testBit 4 = true then 1 else 0) = m / 16 % 2 := bit_div m 4
  have b5 : (if m.testBit 5 = true then 1 else 0) = m / 32 % 2 := bit_div m 5
  have b6 : (if m.testBit 6 = true then 1 else 0) = m / 64 % 2 := bit_div m 6
  have b7 : (if m.testBit 7 = true then 1 else 0) = m / 128 % 2 := bit_div m 7
  have b8 : (if m.testBit 8 = true then 1 else 0) = m / 256 % 2 := bit_div m 8
  have b9 : (if m.testBit 9 = true then 1 else 0) = m / 512 % 2 := bit_div m 9
  have b10 : (if m.testBit 10 = true then 1 else 0) = m / 1024 % 2 := bit_div m 10
  have b11 : (if m.testBit 11 = true then 1 else 0) = m / 2048 % 2 := bit_div m 11
  have b12 : (if m.testBit 12 = true then 1 else 0) = m / 4096 % 2 := bit_div m 12
  have b13 : (if m.testBit 13 = true then 1 else 0) = m / 8192 % 2 := bit_div m 13
  have b14 : (if m.testBit 14 = true then 1 else 0) = m / 16384 % 2 := bit_div m 14
  have b15 : (if m.testBit 15 = true then 1 else 0) = m / 32768 % 2 := bit_div m 15
  show _ = 0 + (if m.testBit 0 = true then 1 else 0) + (if m.testBit 1 = true then 1 else 0) + (if m.testBit 2 = true then 1 else 0) + (if m.testBit 3 = true then 1 else 0) + (if m.testBit 4 = true then 1 else 0) + (if m.testBit 5 = true then 1 else 0) + (if m.testBit 6 = true then 1 else 0) + (if m.testBit 7 = true then 1 else 0) + (if m.testBit 8 = true then 1 else 0) + (if m.testBit 9 = true then 1 else 0) + (if m.testBit 10 = true then 1 else 0) + (if m.testBit 11 = true then 1 else 0) + (if m.testBit 12 = true then 1 else 0) + (if m.testBit 13 = true then 1 else 0) + (if m.testBit 14 = true then 1 else 0) + (if m.testBit 15 = true then 1 else 0)
  rw [b0, b1, b2, b3, b4, b5, b6, b7, b8, b9, b10, b11, b12, b13, b14, b15]
  show m % 2 + m / 2 % 2 + (m / 4 % 2 + m / 8 % 2) + (m / 16 % 2 + m / 16 / 2 % 2 + (m / 16 / 4 % 2 + m / 16 / 8 % 2)) + ((m / 256 % 2 + m / 256 / 2 % 2 + (m / 256 / 4 % 2 + m / 256 / 8 % 2)) + (m / 4096 % 2 + m / 4096 / 2 % 2 + (m / 4096 / 4 % 2 + m / 4096 / 8 % 2))) = _
  simp only [Nat.div_div_eq_div_mul, Nat.add_assoc, Nat.zero_add, Nat.div_one, Nat.reduceMul]
theorem cntB_filter (p : Nat → Bool) : ∀ n, cntB p n = ((List.range n).filter p).length
  | 0 => rfl
  | n + 1 => by
    rw [List.range_succ, List.filter_append, List.length_append, ← cntB_filter p n]
    show cntB p n + (if p n = true then 1 else 0) = _
    cases h : p n
    · rw [if_neg Bool.false_ne_true, List.filter_cons_of_neg (by rw [h]; exact Bool.false_ne_true)]; rfl
    · rw [if_pos rfl, List.filter_cons_of_pos h]; rfl
theorem cntB_list {l : List Nat} (hn : l.Nodup) {n : Nat} (h : ∀ c, c ∈ l → c < n) : cntB (fun c => l.contains c) n = l.length := by
  rw [cntB_filter]
  apply List.Perm.length_eq
  refine (List.perm_ext_iff_of_nodup (List.nodup_range.filter _) hn).mpr (fun c => ?_)
  rw [List.mem_filter, List.mem_range, List.contains_iff_mem]
  exact ⟨fun y => y.2, fun y => ⟨h c y, y⟩⟩
def botL (P : Pos) (p : Nat) : List Nat := (P.1 p).drop ((P.1 p).length - P.2.1 p)
theorem hid_cnt {P : Pos} (ho : PosOk P) : cntB (hidB P) 16 = hidN P := by
  have hb : ∀ p, (botL P p).length = P.2.1 p := fun p => by
    unfold botL
    rw [List.length_drop]
    have := ho.2.2.2.2.1 p
    omega
  have hm : ∀ p c, c ∈ botL P p → c ∈ P.1 p := fun p c h => List.mem_of_mem_drop h
  have hl : ((List.range 5).flatMap (botL P)).length = hidN P := by
    rw [show List.range 5 = [0, 1, 2, 3, 4] from rfl]
    simp only [List.flatMap_cons, List.flatMap_nil, List.length_append, List.length_nil, hb]
    unfold hidN
    omega
  have hn : ((List.range 5).flatMap (botL P)).Nodup := by
    refine List.pairwise_flatMap.mpr ⟨fun p _ => (ho.2.1 p).sublist (List.drop_sublist _ _), ?_⟩
    refine (List.nodup_range (n := 5)).imp ?_
    intro p q hpq c h1 d h2 hcd
    subst hcd
    exact hpq (ho.2.2.1 p q c (hm p c h1) (hm q c h2))
  rw [← hl, ← cntB_list hn (n := 16) (fun c hc => by
    obtain ⟨p, -, h1⟩ := List.mem_flatMap.mp hc
    exact ho.1 p c (hm p c h1))]
  congr 1
  funext c
  apply Bool.eq_iff_iff.mpr
  rw [List.contains_iff_mem, List.mem_flatMap]
  unfold hidB
  rw [List.any_eq_true]
  constructor
  · rintro ⟨p, h1, h2⟩
    exact ⟨p, h1, List.contains_iff_mem.mp h2⟩
  · rintro ⟨p, h1, h2⟩
    exact ⟨p, h1, List.contains_iff_mem.mpr h2⟩
theorem C_told {A : AS} {P rn r : Nat → Int32} {D T : Nat → Nat → Int32} {S : Nat → Nat → Int64} (hA : okA A) (h : CSt A P rn r D T S) (v : Int32) :
    F_X5_told P T r v = some ((aTold A v).1, (aTold A v).2.1) := by
  unfold aTold F_X5_told
  rw [s_within, cal1_s, bi_if]
  by_cases q : inB v 0 7 = true
  · rw [if_pos q, if_pos q]
    obtain ⟨e1, -, b1⟩ := inB_nV (by omega) (by omega) q
    have hm := s_money hA h
    have ne : ∀ k, k < 8 → (v = nI k ↔ nV v = k) := fun k hk => by
      rw [e1, nI_eq (by omega) (by omega), ← e1]
    unfold toldA
    have hv : nV v = 0 ∨ nV v = 1 ∨ nV v = 2 ∨ nV v = 3 ∨ nV v = 4 ∨ nV v = 5 ∨ nV v = 6 ∨ nV v = 7 := by omega
    simp only [ne 0 (by omega), ne 1 (by omega), ne 2 (by omega), ne 3 (by omega), ne 4 (by omega), ne 5 (by omega), ne 6 (by omega)]
    rcases hv with z | z | z | z | z | z | z | z
    · rw [if_pos z, s_cardsUp h.2.2.1 hA.wf h.2.1, cal1_s]; simp only [z]; rfl
    · rw [if_neg (by omega), if_pos z, h.2.2.2.1]; simp only [z]; rfl
    · rw [if_neg (by omega), if_neg (by omega), if_pos z, h.2.2.2.2.1]; simp only [z]; rfl
    · rw [if_neg (by omega), if_neg (by omega), if_neg (by omega), if_pos z, h.2.2.1.2.2.2.1]; simp only [z]; rfl
    · rw [if_neg (by omega), if_neg (by omega), if_neg (by omega), if_neg (by omega), if_pos z, hm, cal1_s]; simp only [z]; rfl
    · rw [if_neg (by omega), if_neg (by omega), if_neg (by omega), if_neg (by omega), if_neg (by omega), if_pos z, hm, cal1_s, h.2.2.2.2.2.1]; simp only [z]; rfl
    · rw [if_neg (by omega), if_neg (by omega), if_neg (by omega), if_neg (by omega), if_neg (by omega), if_neg (by omega), if_pos z, s_isWon h.2.2.1 hA.wf h.2.1, cal1_s, bi_if]; simp only [z]
      cases wonB A.2.1 (cur A.2.2.1) <;> rfl
    · obtain ⟨m, hm1, hm2, hm3⟩ := h.2.2.1.2.2.1
      rw [if_neg (by omega), if_neg (by omega), if_neg (by omega), if_neg (by omega), if_neg (by omega), if_neg (by omega), if_neg (by omega), hm2, bc_val hm1, cal1_s, popF_cnt, cntB_congr hm3, hid_cnt hA.wf.1]; simp only [z]; rfl
  · rw [if_neg q, if_neg q]
end
section
/-! ===== at first ===== -/
def R0 : Nat → Nat := fun k => if k = 0 then 2 else if k = 1 then 4 else if k = 2 then 3 else if k = 3 then 1 else if k = 4 then 1 else 0
def A0 : AS := (R0, R0, [dealP R0 0 0], 0, nI 0, 0, 0)
theorem R0_ok : RulesOk R0 := by unfold RulesOk; decide
theorem A0_ok : okA A0 := by
  refine ⟨R0_ok, R0_ok, Nat.le_refl 1, show 1 ≤ 201 by omega, fun P hP => ?_, rfl, show 0 < 2 by omega, show 0 < 2147483648 by omega⟩
  have hP : P ∈ [dealP R0 0 0] := hP
  rw [List.mem_singleton] at hP
  rw [hP]
  exact wf_dealP R0_ok (by omega)
theorem C_init {rul P : Nat → Int32} (hr : RR rul R0) (h9 : P 9 = nI 0) (D T : Nat → Nat → Int32) (S : Nat → Nat → Int64) : ∃ P' D' T', F_X5_dealNumber rul P D T (nI 0) (nI 0) = some (P', D', T') ∧ CSt A0 P' rul rul D' T' S := by
  obtain ⟨D', d1, d2⟩ := s_draw (mc := 0) (x := 0) (by omega) hr.2 D
  obtain ⟨T', f1, f2, -⟩ := s_lay hr d2 T
  unfold F_X5_dealNumber
  rw [s_cards hr, cal1_s, d1, cal1_s, f1, cal1_s, bnd_s, bnd_s]
  refine ⟨_, D', T', rfl, hr, hr, f2, ?_, ?_, ?_, ?_, d2⟩
  · rw [upd_s, if_neg (by omega), upd_s, if_pos rfl]; rfl
  · rw [upd_s, if_pos rfl]; rfl
  · rw [upd_s, if_neg (by omega), upd_s, if_neg (by omega)]; exact h9
  · intro i Q hi hl
    exact absurd hl (by show ¬ i + 1 < 1; omega)
theorem M_init {I : Nat → Nat → Int32} (hN : ∀ k, k < 9 → I 0 (k + 1) = nI (R0 k)) (h13 : I 0 13 = nI 0) (h12 : I 0 12 = nI 0) (h14 : I 0 14 = nI 0) (L : Nat → Nat → Int64) : ∃ I1 I2 L2 L3, F_X6_takeRules L I = some I1 ∧ F_X6_lay I1 L (nI 0) (nI 0) = some (I2, L2) ∧ F_X6_store I2 1 1616 L2 (nI 0) = some L3 ∧ MSt A0 I2 L3 := by
  obtain ⟨I1, a1, a2, a3⟩ := m_takeRules (L := L) hN R0_ok
  obtain ⟨I2, L2, c1, c2, c3, c4⟩ := m_lay (mc := 0) (x := 0) (I := I1) (L := L) (by omega) (by omega) a2 (deal_inv R0_ok (by omega))
  have w : WF R0 (dealP R0 0 0) := wf_dealP R0_ok (by omega)
  obtain ⟨L3, d1, d2⟩ := m_store (cc := 1) (nn := 1616) (o := 0) c2 (w.kok R0_ok) (by omega) (by omega) (by omega)
  have z : ∀ j, j ≠ 21 → j ≠ 23 → j ≠ 24 → I2 0 j = I 0 j := fun j x1 x2 x3 => by rw [c3.2 j x1 x2 x3, a3 0 (by omega)]
  refine ⟨I1, I2, L2, L3, a1, c1, d1, ?_⟩
  refine ⟨fun k hk => ?_, ?_, c2.atL (funext fun j => d2.2 0 j (by omega)), ?_, ?_, ?_, ?_⟩
  · rw [z (k + 1) (by omega) (by omega) (by omega)]; exact hN k hk
  · rw [c3.1 1 (by omega)]; exact a2
  · rw [z 13 (by omega) (by omega) (by omega)]; exact h13
  · rw [z 12 (by omega) (by omega) (by omega)]; exact h12
  · rw [z 14 (by omega) (by omega) (by omega)]; exact h14
  · intro i P hi j hj
    have hi : [dealP R0 0 0][i]? = some P := hi
    have h0 := (List.getElem?_eq_some_iff.mp hi).1
    simp only [List.length_cons, List.length_nil] at h0
    obtain rfl : i = 0 := by omega
    simp only [List.getElem?_cons_zero, Option.some.injEq] at hi
    subst hi
    exact d2.1 j hj
end
