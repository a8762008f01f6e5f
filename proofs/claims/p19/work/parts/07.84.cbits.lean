/-! ===== counting the ones of sixteen bits ===== -/
def bcA (m : Nat) : Nat := Nat.sub m (Nat.land (Nat.shiftRight m 1) 1431655765)
def bcB (m : Nat) : Nat := Nat.add (Nat.land m 858993459) (Nat.land (Nat.shiftRight m 2) 858993459)
def bcC (m : Nat) : Nat := Nat.land (Nat.add m (Nat.shiftRight m 4)) 252645135
def bcD (m : Nat) : Nat := Nat.add m (Nat.shiftRight m 8)
def bcE (m : Nat) : Nat := Nat.land (Nat.add m (Nat.shiftRight m 16)) 63
def pop4 (m : Nat) : Nat := Nat.add (Nat.add (Nat.mod m 2) (Nat.mod (Nat.div m 2) 2)) (Nat.add (Nat.mod (Nat.div m 4) 2) (Nat.mod (Nat.div m 8) 2))
def popF (m : Nat) : Nat := Nat.add (Nat.add (pop4 m) (pop4 (Nat.div m 16))) (Nat.add (pop4 (Nat.div m 256)) (pop4 (Nat.div m 4096)))
def bcOk (m : Nat) : Bool := Nat.ble (bcB (bcA m)) 65535 && (Nat.ble (bcD (bcC (bcB (bcA m)))) 65535 && (Nat.ble (Nat.add (bcB (bcA m)) (Nat.shiftRight (bcB (bcA m)) 4)) 1000000 && Nat.beq (bcE (bcD (bcC (bcB (bcA m))))) (popF m)))
def bcAll (f : Nat → Bool) : Nat → Bool
  | 0 => true
  | n + 1 => f n && bcAll f n
theorem bcAll_at {f : Nat → Bool} : ∀ {n : Nat}, bcAll f n = true → ∀ i, i < n → f i = true
  | n + 1, h, i, hi => by
    have h' : (f n && bcAll f n) = true := h
    rw [Bool.and_eq_true] at h'
    rcases Nat.lt_or_ge i n with q | q
    · exact bcAll_at h'.2 i q
    · rw [show i = n by omega]; exact h'.1
theorem bc_all : bcAll (fun a => bcAll (fun b => bcOk (Nat.add (Nat.mul a 256) b)) 256) 256 = true := by decide +kernel
