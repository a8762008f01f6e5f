/-! ===== the second reading: cards up, won, safe, the moves there are ===== -/
theorem m_atHome {I : Nat → Nat → Int32} {L : Nat → Nat → Int64} {P : Pos} (h : MRep I L P) : F_X6_atHome I L = some (nI (upN P)) := by
  unfold F_X6_atHome upN
  rw [rdA_n _ (by omega) (by omega), rdA_n _ (by omega) (by omega), rdA_n _ (by omega) (by omega), rdA_n _ (by omega) (by omega), h.2.2.1 0 (by omega), h.2.2.1 1 (by omega), h.2.2.1 2 (by omega), h.2.2.1 3 (by omega), nI_add, nI_add, nI_add]
theorem m_isWon {I : Nat → Nat → Int32} {L : Nat → Nat → Int64} {R : Nat → Nat} {P : Pos} (h : MRep I L P) (w : WF R P) (hr : RR (I 1) R) : F_X6_isWon I L = some (bi (wonB R P)) := by
  have hR := hr.2
  unfold RulesOk at hR
  have hu := upN_le w hr.2
  unfold F_X6_isWon wonB
  have e : (nI (upN P) = nI (R 0 * R 1)) ↔ upN P = R 0 * R 1 := nI_eq (by omega) (by omega)
  rw [m_atHome h, cal1_s, rdA_n _ (by omega) (by omega), rdA_n _ (by omega) (by omega), hr.1 0 (by omega), hr.1 1 (by omega), pk_mul, zb0, zb1, some_bi]
  simp only [e]
theorem m_isSafe_L {I : Nat → Nat → Int32} {L : Nat → Nat → Int64} {R : Nat → Nat} {P : Pos} (h : MRep I L P) (w : WF R P) (hr : RR (I 1) R) {c : Nat} (hc : c < 16) : ∀ (j k n : Nat) (b : Bool), k + j = R 0 * R 1 → j < n → F_X6_isSafe_L4 I L n (nI c) (bi b) (nI k) = some (bi (b && (List.range' k j).all (fun o => decide (o % R 1 < P.2.2.1 (o / R 1)) || !fitB R o c))) := by
  have hR := hr.2
  unfold RulesOk at hR
  intro j
  induction j with
  | zero =>
    intro k n b hk hn
    obtain ⟨n, rfl⟩ : ∃ q, n = q + 1 := ⟨n - 1, by omega⟩
    show F_X6_isSafe_s4 I L (F_X6_isSafe_L4 I L n) _ _ _ = _
    unfold F_X6_isSafe_s4
    rw [rdA_n _ (by omega) (by omega), rdA_n _ (by omega) (by omega), hr.1 0 (by omega), hr.1 1 (by omega), pk_mul, if_pos (nI_le (by omega) (by omega)), zb_bi]; simp
  | succ j ih =>
    intro k n b hk hn
    obtain ⟨n, rfl⟩ : ∃ q, n = q + 1 := ⟨n - 1, by omega⟩
    show F_X6_isSafe_s4 I L (F_X6_isSafe_L4 I L n) _ _ _ = _
    unfold F_X6_isSafe_s4
    have e : (List.range' k (j + 1)).all (fun o => decide (o % R 1 < P.2.2.1 (o / R 1)) || !fitB R o c) = ((decide (k % R 1 < P.2.2.1 (k / R 1)) || !fitB R k c) && (List.range' (k + 1) j).all (fun o => decide (o % R 1 < P.2.2.1 (o / R 1)) || !fitB R o c)) := rfl
    have i0 := ih (k + 1) n false (by omega) (by omega)
    have i1 := ih (k + 1) n true (by omega) (by omega)
    have hmod := mod_lt1 hr.2 k
    have hs : k / R 1 < R 0 := (Nat.div_lt_iff_lt_mul (by omega)).mpr (by omega)
    have hup := w.2.2.2.2.2.1 (k / R 1)
    rw [rdA_n _ (by omega) (by omega), rdA_n _ (by omega) (by omega), hr.1 0 (by omega), hr.1 1 (by omega), pk_mul, if_neg (nI_ge (by omega) (by omega)), nI_add, e]
    cases b with
    | false => rw [if_pos (show bi false = nI 0 from rfl)]; exact i0
    | true =>
      rw [if_neg (by rw [bi_eq0]; decide), m_rankOf hr (by omega), cal1_s, m_suitOf hr (by omega), cal1_s, rdA_n _ (by omega) (by omega), h.2.2.1 _ (by omega), m_fits hr (by omega) hc, cal1_s, bi_if]
      rw [show (nI 1 : Int32) = bi true from rfl, show (nI 0 : Int32) = bi false from rfl, i0, i1]
      by_cases q : k % R 1 < P.2.2.1 (k / R 1)
      · rw [if_pos (nI_le (by omega) (by omega))]; simp [q]
      · rw [if_neg (nI_ge (by omega) (by omega))]
        by_cases q2 : fitB R k c = true
        · rw [if_pos q2]; simp [q, q2]
        · rw [if_neg q2]; simp only [Bool.not_eq_true] at q2; simp [q2]
theorem m_isSafe {I : Nat → Nat → Int32} {L : Nat → Nat → Int64} {R : Nat → Nat} {P : Pos} (h : MRep I L P) (w : WF R P) (hr : RR (I 1) R) {c : Nat} (hc : c < 16) : F_X6_isSafe I L (nI c) = some (bi (safeB R P c)) := by
  have hR := hr.2
  unfold RulesOk at hR
  unfold safeB
  rw [List.range_eq_range']
  have := m_isSafe_L h w hr hc (R 0 * R 1) 0 FU true (by omega) (FU_gt (by omega))
  rw [Bool.true_and] at this
  exact this
/-- the k-th of all moves that can be written, in their order -/
def allB (R : Nat → Nat) (P : Pos) (k : Nat) : Bool := canB (k / 144) (k / 16 % 9) (k % 16 + 1) && legal R P (k / 144) (k / 16 % 9) (k % 16 + 1)
def allC (k : Nat) : Nat := codeN (k / 144) (k / 16 % 9) (k % 16 + 1)
theorem all_triples : (List.range 10).flatMap (fun f => (List.range 9).flatMap (fun t => (List.range' 1 16).map (fun n => (f, t, n)))) = (List.range 1440).map (fun k => (k / 144, k / 16 % 9, k % 16 + 1)) := by decide +kernel
theorem mvs_all (R : Nat → Nat) (P : Pos) : mvs R P = ((List.range 1440).filter (allB R P)).map allC := by
  have h1 : ∀ f t, mvFT R P f t = (((List.range' 1 16).map (fun n => (f, t, n))).filter (fun z => canB z.1 z.2.1 z.2.2 && legal R P z.1 z.2.1 z.2.2)).map (fun z => codeN z.1 z.2.1 z.2.2) := by
    intro f t
    unfold mvFT
    rw [List.filter_map, List.map_map]; rfl
  have h2 : mvs R P = (((List.range 10).flatMap (fun f => (List.range 9).flatMap (fun t => (List.range' 1 16).map (fun n => (f, t, n))))).filter (fun z => canB z.1 z.2.1 z.2.2 && legal R P z.1 z.2.1 z.2.2)).map (fun z => codeN z.1 z.2.1 z.2.2) := by
    have h3 : ∀ f, mvFT R P f = fun t => (((List.range' 1 16).map (fun n => (f, t, n))).filter (fun z => canB z.1 z.2.1 z.2.2 && legal R P z.1 z.2.1 z.2.2)).map (fun z => codeN z.1 z.2.1 z.2.2) := fun f => funext (h1 f)
    unfold mvs mvF
    simp only [h3, List.filter_flatMap, List.map_flatMap]
  rw [h2, all_triples, List.filter_map, List.map_map]; rfl
def findR : List Nat → Int32 → Nat → Int32
  | [], _, i => -1 - nI i
  | c :: l, v, i => if nI i = v then nI c else findR l v (i + 1)
theorem m_find_L {I : Nat → Nat → Int32} {L : Nat → Nat → Int64} {R : Nat → Nat} {P : Pos} (h : MRep I L P) (w : WF R P) (hr : RR (I 1) R) (v : Int32) : ∀ (j k i n : Nat), k + j = 1440 → j < n → F_X6_find_L4 I L n v (nI i) (nI k) = some (findR (((List.range' k j).filter (allB R P)).map allC) v i) := by
  intro j
  induction j with
  | zero =>
    intro k i n hk hn
    obtain ⟨n, rfl⟩ : ∃ q, n = q + 1 := ⟨n - 1, by omega⟩
    show F_X6_find_s4 I L (F_X6_find_L4 I L n) _ _ _ = _
    unfold F_X6_find_s4
    rw [if_pos (nI_le (by omega) (by omega))]; rfl
  | succ j ih =>
    intro k i n hk hn
    obtain ⟨n, rfl⟩ : ∃ q, n = q + 1 := ⟨n - 1, by omega⟩
    show F_X6_find_s4 I L (F_X6_find_L4 I L n) _ _ _ = _
    unfold F_X6_find_s4
    have e : List.range' k (j + 1) = k :: List.range' (k + 1) j := rfl
    have i0 := ih (k + 1) i n (by omega) (by omega)
    have i1 := ih (k + 1) (i + 1) n (by omega) (by omega)
    have hf : k / 144 < 10 := by omega
    have ht : k / 16 % 9 < 9 := by omega
    have hn16 : k % 16 + 1 ≤ 16 := by omega
    rw [if_neg (nI_ge (by omega) (by omega)), nz_n _ (by omega) (by omega), nz_n _ (by omega) (by omega), nz_n _ (by omega) (by omega), nz_n _ (by omega) (by omega), show nI k - nI k / nI 16 * nI 16 = nI (k % 16) from pk_rem (by omega) (by omega) (by omega), pk_div (by omega) (by omega) (by omega), pk_div (by omega) (by omega) (by omega), pk_rem (by omega) (by omega) (by omega), nI_add]
    have skip : canB (k / 144) (k / 16 % 9) (k % 16 + 1) = false → F_X6_find_b65 I L (F_X6_find_L4 I L n) v (nI i) (nI k) (nI (k / 144)) (nI (k / 16 % 9)) (nI (k % 16 + 1)) (nI 0) = some (findR (((List.range' k (j + 1)).filter (allB R P)).map allC) v i) := by
      intro hc
      unfold F_X6_find_b65
      have ha : ¬ allB R P k = true := by unfold allB; rw [hc, Bool.false_and]; exact Bool.false_ne_true
      rw [if_pos rfl, nI_add, i0, e, List.filter_cons_of_neg ha]
    have go : canB (k / 144) (k / 16 % 9) (k % 16 + 1) = true → F_X6_find_b65 I L (F_X6_find_L4 I L n) v (nI i) (nI k) (nI (k / 144)) (nI (k / 16 % 9)) (nI (k % 16 + 1)) (nI 1) = some (findR (((List.range' k (j + 1)).filter (allB R P)).map allC) v i) := by
      intro hc
      unfold F_X6_find_b65
      have hc' := hc
      unfold canB at hc'
      simp only [Bool.and_eq_true, Bool.or_eq_true, decide_eq_true_eq] at hc'
      rw [if_neg (by decide), m_isMove h w hr hf ht (by omega) hn16 (by omega), cal1_s, bi_if, nI_add, nI_add, i0, i1, e]
      by_cases q : legal R P (k / 144) (k / 16 % 9) (k % 16 + 1) = true
      · have ha : allB R P k = true := by unfold allB; rw [hc, q]; rfl
        rw [if_pos q, List.filter_cons_of_pos ha, List.map_cons]
        show _ = some (if nI i = v then nI (allC k) else findR _ v (i + 1))
        by_cases z : nI i = v
        · rw [if_pos z, if_pos z]
          unfold F_X6_find_b90
          rw [pk_mul, pk_mul, nI_add, nI_add]; rfl
        · rw [if_neg z, if_neg z]
      · have ha : ¬ allB R P k = true := by unfold allB; rw [hc]; simpa using q
        rw [if_neg q, List.filter_cons_of_neg ha]
    unfold canB at skip go
    by_cases f8 : k / 144 = 8
    · rw [if_pos (by rw [f8])]; exact skip (by simp [f8])
    · rw [if_neg (by rw [nI_eq (by omega) (by omega)]; exact f8)]
      by_cases n1 : k % 16 + 1 = 1
      · rw [if_pos (by rw [n1])]; exact go (by simp [f8, n1])
      · rw [if_neg (by rw [nI_eq (by omega) (by omega)]; exact n1)]
        by_cases f5 : k / 144 < 5
        · rw [if_neg (nI_ge f5 (by omega))]
          by_cases t5 : k / 16 % 9 < 5
          · rw [if_neg (nI_ge t5 (by omega))]; exact go (by simp [f8, f5, t5])
          · rw [if_pos (nI_le (by omega) (by omega))]; exact skip (by rw [decide_eq_false n1, decide_eq_false t5]; simp)
        · rw [if_pos (nI_le (by omega) (by omega))]; exact skip (by rw [decide_eq_false n1, decide_eq_false f5]; simp)
theorem findR_m1 : ∀ (l : List Nat) (i : Nat), i + l.length < 2 ^ 31 → findR l (-1) i = -1 - nI (i + l.length)
  | [], i, _ => rfl
  | c :: l, i, h => by
    simp only [List.length_cons] at h ⊢
    show (if nI i = -1 then _ else _) = _
    rw [if_neg (by rw [nI_negone (by omega)]; exact id), findR_m1 l (i + 1) (by omega), show i + (l.length + 1) = i + 1 + l.length by omega]
theorem findR_at : ∀ (l : List Nat) (i m : Nat), i + l.length < 2 ^ 31 → i ≤ m → m < 2 ^ 31 → findR l (nI m) i = match l[m - i]? with | some c => nI c | none => -1 - nI (i + l.length)
  | [], i, m, _, _, _ => rfl
  | c :: l, i, m, h, h1, h2 => by
    simp only [List.length_cons] at h ⊢
    show (if nI i = nI m then _ else _) = _
    by_cases q : i = m
    · subst q
      rw [if_pos rfl, Nat.sub_self]; rfl
    · rw [if_neg (by rw [nI_eq (by omega) (by omega)]; exact q), findR_at l (i + 1) m (by omega) (by omega) h2, show m - i = (m - (i + 1)) + 1 by omega, List.getElem?_cons_succ, show i + (l.length + 1) = i + 1 + l.length by omega]
theorem mvs_len (R : Nat → Nat) (P : Pos) : (mvs R P).length ≤ 1440 := by
  rw [mvs_all, List.length_map]
  exact Nat.le_trans (List.length_filter_le _ _) (by rw [List.length_range]; exact Nat.le_refl _)
theorem m_find {I : Nat → Nat → Int32} {L : Nat → Nat → Int64} {R : Nat → Nat} {P : Pos} (h : MRep I L P) (w : WF R P) (hr : RR (I 1) R) (v : Int32) : F_X6_find I L v = some (findR (mvs R P) v 0) := by
  have := m_find_L h w hr v 1440 0 0 FU (by omega) (FU_gt (by omega))
  rw [mvs_all, List.range_eq_range']
  exact this
theorem m1_sub {n : Nat} (h : n < 2 ^ 31) : (-1 : Int32) - ((-1) - nI n) = nI n := by
  have e1 : (-1 : Int32).toInt = -1 := by decide
  have h1 : ((-1 : Int32) - nI n).toInt = -1 - (n : Int) := by
    rw [fb_subI (by rw [nI_toInt h, e1]; omega) (by rw [nI_toInt h, e1]; omega), nI_toInt h, e1]
  apply Int32.toInt_inj.mp
  rw [fb_subI (by rw [h1, e1]; omega) (by rw [h1, e1]; omega), h1, e1, nI_toInt h]
  omega
theorem m1_neg {n : Nat} (h : n < 2 ^ 31) : ¬ nI 0 ≤ (-1 : Int32) - nI n := by
  intro h2
  rw [Int32.le_iff_toInt_le] at h2
  rw [fb_subI (by rw [nI_toInt (by omega)]; show _ ≤ (-1 : Int) - _; omega) (by rw [nI_toInt (by omega)]; show (-1 : Int) - _ < _; omega), nI_toInt (by omega), nI_toInt (by omega)] at h2
  have h3 : ((0 : Nat) : Int) ≤ (-1 : Int) - (n : Int) := h2
  omega
