/-! ===== the class: told ===== -/
theorem bc_val {m : Nat} (h : m < 65536) : F_J6_bitCount_0f7a4 (nI m) = some (nI (popF m)) := by
  have h0 := bcAll_at (bcAll_at bc_all (m / 256) (by omega)) (m % 256) (by omega)
  have em : Nat.add (Nat.mul (m / 256) 256) (m % 256) = m := by
    show m / 256 * 256 + m % 256 = m
    omega
  rw [em] at h0
  unfold bcOk at h0
  rw [Bool.and_eq_true, Bool.and_eq_true, Bool.and_eq_true] at h0
  obtain ⟨h1, h2, -, h4⟩ := h0
  have h1 := Nat.le_of_ble_eq_true h1
  have h2 := Nat.le_of_ble_eq_true h2
  have h4 := Nat.eq_of_beq_eq_true h4
  have hA : bcA m ≤ m := Nat.sub_le _ _
  have hC : bcC (bcB (bcA m)) ≤ bcD (bcC (bcB (bcA m))) := Nat.le_add_right _ _
  have eA : nI m - (((nI m).toUInt32 >>> ((nI 1).toUInt32 &&& Int32.toUInt32 31)).toInt32 &&& nI 1431655765) = nI (bcA m) := by
    rw [nx_ush h (by omega), nx_and, pk_sub (Nat.le_trans Nat.and_le_left (by rw [Nat.shiftRight_eq_div_pow]; exact Nat.div_le_self _ _))]; rfl
  have eB : (nI (bcA m) &&& nI 858993459) + (((nI (bcA m)).toUInt32 >>> ((nI 2).toUInt32 &&& Int32.toUInt32 31)).toInt32 &&& nI 858993459) = nI (bcB (bcA m)) := by
    rw [nx_ush (by omega) (by omega), nx_and, nx_and, nI_add]; rfl
  have eC : (nI (bcB (bcA m)) + ((nI (bcB (bcA m))).toUInt32 >>> ((nI 4).toUInt32 &&& Int32.toUInt32 31)).toInt32) &&& nI 252645135 = nI (bcC (bcB (bcA m))) := by
    rw [nx_ush (by omega) (by omega), nI_add, nx_and]; rfl
  have eD : nI (bcC (bcB (bcA m))) + ((nI (bcC (bcB (bcA m)))).toUInt32 >>> ((nI 8).toUInt32 &&& Int32.toUInt32 31)).toInt32 = nI (bcD (bcC (bcB (bcA m)))) := by
    rw [nx_ush (by omega) (by omega), nI_add]; rfl
  have eE : (nI (bcD (bcC (bcB (bcA m)))) + ((nI (bcD (bcC (bcB (bcA m))))).toUInt32 >>> ((nI 16).toUInt32 &&& Int32.toUInt32 31)).toInt32) &&& nI 63 = nI (bcE (bcD (bcC (bcB (bcA m))))) := by
    rw [nx_ush (by omega) (by omega), nI_add, nx_and]; rfl
  unfold F_J6_bitCount_0f7a4
  rw [eA, eB, eC, eD, eE, h4]
theorem bit_div (m c : Nat) : (if m.testBit c = true then 1 else 0) = m / 2 ^ c % 2 := by
  rw [Nat.testBit_eq_decide_div_mod_eq]
  by_cases q : m / 2 ^ c % 2 = 1
  · rw [decide_eq_true q, if_pos rfl, q]
  · rw [decide_eq_false q, if_neg Bool.false_ne_true]
    have := Nat.mod_lt (m / 2 ^ c) (show 0 < 2 by omega)
    omega
theorem popF_cnt (m : Nat) : popF m = cntB (fun c => m.testBit c) 16 := by
  have b0 : (if m.testBit 0 = true then 1 else 0) = m / 1 % 2 := bit_div m 0
  have b1 : (if m.testBit 1 = true then 1 else 0) = m / 2 % 2 := bit_div m 1
  have b2 : (if m.testBit 2 = true then 1 else 0) = m / 4 % 2 := bit_div m 2
  have b3 : (if m.testBit 3 = true then 1 else 0) = m / 8 % 2 := bit_div m 3
  have b4 : (if m.testBit 4 = true then 1 else 0) = m / 16 % 2 := bit_div m 4
  have b5 : (if m.testBit 5 = true then 1 else 0) = m / 32 % 2 := bit_div m 5
  have b6 : (if m.testBit 6 = true then 1 else 0) = m / 64 % 2 := bit_div m 6
  have b7 : (if m.testBit 7 = true then 1 else 0) = m / 128 % 2 := bit_div m 7
  have b8 : (if m.testBit 8 = true then 1 else 0) = m / 256 % 2 := bit_div m 8
  have b9 : (if m.testBit 9 = true then 1 else 0) = m / 512 % 2 := bit_div m 9
  have b10 : (if m.testBit 10 = true then 1 else 0) = m / 1024 % 2 := bit_div m 10
  have b11 : (if m.testBit 11 = true then 1 else 0) = m / 2048 % 2 := bit_div m 11
  have b12 : (if m.testBit 12 = true then 1 else 0) = m / 4096 % 2 := bit_div m 12
  have b13 : (if m.testBit 13 = true then 1 else 0) = m / 8192 % 2 := bit_div m 13
  have b14 : (if m.testBit 14 = true then 1 else 0) = m / 16384 % 2 := bit_div m 14
  have b15 : (if m.testBit 15 = true then 1 else 0) = m / 32768 % 2 := bit_div m 15
  show _ = 0 + (if m.testBit 0 = true then 1 else 0) + (if m.testBit 1 = true then 1 else 0) + (if m.testBit 2 = true then 1 else 0) + (if m.testBit 3 = true then 1 else 0) + (if m.testBit 4 = true then 1 else 0) + (if m.testBit 5 = true then 1 else 0) + (if m.testBit 6 = true then 1 else 0) + (if m.testBit 7 = true then 1 else 0) + (if m.testBit 8 = true then 1 else 0) + (if m.testBit 9 = true then 1 else 0) + (if m.testBit 10 = true then 1 else 0) + (if m.testBit 11 = true then 1 else 0) + (if m.testBit 12 = true then 1 else 0) + (if m.testBit 13 = true then 1 else 0) + (if m.testBit 14 = true then 1 else 0) + (if m.testBit 15 = true then 1 else 0)
  rw [b0, b1, b2, b3, b4, b5, b6, b7, b8, b9, b10, b11, b12, b13, b14, b15]
  show m % 2 + m / 2 % 2 + (m / 4 % 2 + m / 8 % 2) + (m / 16 % 2 + m / 16 / 2 % 2 + (m / 16 / 4 % 2 + m / 16 / 8 % 2)) + ((m / 256 % 2 + m / 256 / 2 % 2 + (m / 256 / 4 % 2 + m / 256 / 8 % 2)) + (m / 4096 % 2 + m / 4096 / 2 % 2 + (m / 4096 / 4 % 2 + m / 4096 / 8 % 2))) = _
  simp only [Nat.div_div_eq_div_mul, Nat.add_assoc, Nat.zero_add, Nat.div_one, Nat.reduceMul]
theorem cntB_filter (p : Nat → Bool) : ∀ n, cntB p n = ((List.range n).filter p).length
  | 0 => rfl
  | n + 1 => by
    rw [List.range_succ, List.filter_append, List.length_append, ← cntB_filter p n]
    show cntB p n + (if p n = true then 1 else 0) = _
    cases h : p n
    · rw [if_neg Bool.false_ne_true, List.filter_cons_of_neg (by rw [h]; exact Bool.false_ne_true)]; rfl
    · rw [if_pos rfl, List.filter_cons_of_pos h]; rfl
theorem cntB_list {l : List Nat} (hn : l.Nodup) {n : Nat} (h : ∀ c, c ∈ l → c < n) : cntB (fun c => l.contains c) n = l.length := by
  rw [cntB_filter]
  apply List.Perm.length_eq
  refine (List.perm_ext_iff_of_nodup (List.nodup_range.filter _) hn).mpr (fun c => ?_)
  rw [List.mem_filter, List.mem_range, List.contains_iff_mem]
  exact ⟨fun y => y.2, fun y => ⟨h c y, y⟩⟩
def botL (P : Pos) (p : Nat) : List Nat := (P.1 p).drop ((P.1 p).length - P.2.1 p)
theorem hid_cnt {P : Pos} (ho : PosOk P) : cntB (hidB P) 16 = hidN P := by
  have hb : ∀ p, (botL P p).length = P.2.1 p := fun p => by
    unfold botL
    rw [List.length_drop]
    have := ho.2.2.2.2.1 p
    omega
  have hm : ∀ p c, c ∈ botL P p → c ∈ P.1 p := fun p c h => List.mem_of_mem_drop h
  have hl : ((List.range 5).flatMap (botL P)).length = hidN P := by
    rw [show List.range 5 = [0, 1, 2, 3, 4] from rfl]
    simp only [List.flatMap_cons, List.flatMap_nil, List.length_append, List.length_nil, hb]
    unfold hidN
    omega
  have hn : ((List.range 5).flatMap (botL P)).Nodup := by
    refine List.pairwise_flatMap.mpr ⟨fun p _ => (ho.2.1 p).sublist (List.drop_sublist _ _), ?_⟩
    refine (List.nodup_range (n := 5)).imp ?_
    intro p q hpq c h1 d h2 hcd
    subst hcd
    exact hpq (ho.2.2.1 p q c (hm p c h1) (hm q c h2))
  rw [← hl, ← cntB_list hn (n := 16) (fun c hc => by
    obtain ⟨p, -, h1⟩ := List.mem_flatMap.mp hc
    exact ho.1 p c (hm p c h1))]
  congr 1
  funext c
  apply Bool.eq_iff_iff.mpr
  rw [List.contains_iff_mem, List.mem_flatMap]
  unfold hidB
  rw [List.any_eq_true]
  constructor
  · rintro ⟨p, h1, h2⟩
    exact ⟨p, h1, List.contains_iff_mem.mp h2⟩
  · rintro ⟨p, h1, h2⟩
    exact ⟨p, h1, List.contains_iff_mem.mpr h2⟩
theorem C_told {A : AS} {P rn r : Nat → Int32} {D T : Nat → Nat → Int32} {S : Nat → Nat → Int64} (hA : okA A) (h : CSt A P rn r D T S) (v : Int32) :
    F_X5_told P T r v = some ((aTold A v).1, (aTold A v).2.1) := by
  unfold aTold F_X5_told
  rw [s_within, cal1_s, bi_if]
  by_cases q : inB v 0 7 = true
  · rw [if_pos q, if_pos q]
    obtain ⟨e1, -, b1⟩ := inB_nV (by omega) (by omega) q
    have hm := s_money hA h
    have ne : ∀ k, k < 8 → (v = nI k ↔ nV v = k) := fun k hk => by
      rw [e1, nI_eq (by omega) (by omega), ← e1]
    unfold toldA
    have hv : nV v = 0 ∨ nV v = 1 ∨ nV v = 2 ∨ nV v = 3 ∨ nV v = 4 ∨ nV v = 5 ∨ nV v = 6 ∨ nV v = 7 := by omega
    simp only [ne 0 (by omega), ne 1 (by omega), ne 2 (by omega), ne 3 (by omega), ne 4 (by omega), ne 5 (by omega), ne 6 (by omega)]
    rcases hv with z | z | z | z | z | z | z | z
    · rw [if_pos z, s_cardsUp h.2.2.1 hA.wf h.2.1, cal1_s]; simp only [z]; rfl
    · rw [if_neg (by omega), if_pos z, h.2.2.2.1]; simp only [z]; rfl
    · rw [if_neg (by omega), if_neg (by omega), if_pos z, h.2.2.2.2.1]; simp only [z]; rfl
    · rw [if_neg (by omega), if_neg (by omega), if_neg (by omega), if_pos z, h.2.2.1.2.2.2.1]; simp only [z]; rfl
    · rw [if_neg (by omega), if_neg (by omega), if_neg (by omega), if_neg (by omega), if_pos z, hm, cal1_s]; simp only [z]; rfl
    · rw [if_neg (by omega), if_neg (by omega), if_neg (by omega), if_neg (by omega), if_neg (by omega), if_pos z, hm, cal1_s, h.2.2.2.2.2.1]; simp only [z]; rfl
    · rw [if_neg (by omega), if_neg (by omega), if_neg (by omega), if_neg (by omega), if_neg (by omega), if_neg (by omega), if_pos z, s_isWon h.2.2.1 hA.wf h.2.1, cal1_s, bi_if]; simp only [z]
      cases wonB A.2.1 (cur A.2.2.1) <;> rfl
    · obtain ⟨m, hm1, hm2, hm3⟩ := h.2.2.1.2.2.1
      rw [if_neg (by omega), if_neg (by omega), if_neg (by omega), if_neg (by omega), if_neg (by omega), if_neg (by omega), if_neg (by omega), hm2, bc_val hm1, cal1_s, popF_cnt, cntB_congr hm3, hid_cnt hA.wf.1]; simp only [z]; rfl
  · rw [if_neg q, if_neg q]
