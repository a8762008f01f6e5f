/-! ===== the class's rules and table, read ===== -/
theorem mod_lt1 {R : Nat → Nat} (h : RulesOk R) (c : Nat) : c % R 1 < R 1 := Nat.mod_lt _ (by have := h.2.2.1; omega)
theorem s_cards {r : Nat → Int32} {R : Nat → Nat} (h : RR r R) : F_X1_cards r = some (nI (R 0 * R 1)) := by
  unfold F_X1_cards
  rw [h.1 0 (by omega), h.1 1 (by omega), pk_mul]
theorem s_inColumns {r : Nat → Int32} {R : Nat → Nat} (h : RR r R) : F_X1_inColumns r = some (nI (R 0 * R 1 - R 6)) := by
  have ho := h.2
  unfold RulesOk at ho
  unfold F_X1_inColumns
  rw [s_cards h, cal1_s, h.1 6 (by omega), pk_sub (by omega)]
theorem s_rankOf {r : Nat → Int32} {R : Nat → Nat} (h : RR r R) {c : Nat} (hc : c < 16) : F_X1_rankOf r (nI c) = some (nI (c % R 1 + 1)) := by
  have ho := h.2
  unfold RulesOk at ho
  unfold F_X1_rankOf
  rw [h.1 1 (by omega), if_neg (nI_ge (by omega) (by omega)), nz_n _ (by omega) (by omega), pk_rem (by omega) (by omega) (by omega), nI_add]
theorem s_suitOf {r : Nat → Int32} {R : Nat → Nat} (h : RR r R) {c : Nat} (hc : c < 16) : F_X1_suitOf r (nI c) = some (nI (c / R 1)) := by
  have ho := h.2
  unfold RulesOk at ho
  unfold F_X1_suitOf
  rw [h.1 1 (by omega), if_neg (nI_ge (by omega) (by omega)), nz_n _ (by omega) (by omega), pk_div (by omega) (by omega) (by omega)]
theorem s_isFitting {r : Nat → Int32} {R : Nat → Nat} (h : RR r R) {c o : Nat} (hc : c < 16) (hd : o < 16) : F_X1_isFitting r (nI c) (nI o) = some (bi (fitB R c o)) := by
  have ho := h.2
  unfold RulesOk at ho
  have h1 := mod_lt1 h.2 c
  have h2 := mod_lt1 h.2 o
  have h3 : c / R 1 ≤ c := Nat.div_le_self _ _
  have h4 : o / R 1 ≤ o := Nat.div_le_self _ _
  unfold F_X1_isFitting fitB
  rw [s_rankOf h hc, s_rankOf h hd, s_suitOf h hc, s_suitOf h hd, h.1 4 (by omega)]
  simp only [cal1_s]
  by_cases e : c % R 1 + 1 = o % R 1
  · simp (disch := omega) only [nI_ltI, nI_leI, nI_eq, nI_clamp, nI_add, pk_mul, pk_sub, pk_div, pk_rem, sdm, rdA_n, wrA_n, wrJ_n, wr1_n, bnd_s, nz_n, zb0, zb1, zb_bi, cal1_s, cal2_s, cal3_s, cal4_s, cal5_s, cal6_s, nI_negone, negone_nI, negone_lt0, negone_le, bi_eq0, bi_eq1, if_true, if_false, eq_self, Nat.lt_irrefl, Nat.le_refl, e]
    have : o % R 1 + 1 - 1 = o % R 1 := by omega
    simp (disch := omega) only [nI_ltI, nI_leI, nI_eq, nI_clamp, nI_add, pk_mul, pk_sub, pk_div, pk_rem, sdm, rdA_n, wrA_n, wrJ_n, wr1_n, bnd_s, nz_n, zb0, zb1, zb_bi, cal1_s, cal2_s, cal3_s, cal4_s, cal5_s, cal6_s, nI_negone, negone_nI, negone_lt0, negone_le, bi_eq0, bi_eq1, if_true, if_false, eq_self, Nat.lt_irrefl, Nat.le_refl, this]
    rcases (show R 4 = 0 ∨ R 4 = 1 ∨ R 4 = 2 by omega) with q | q | q
    · simp (disch := omega) only [nI_ltI, nI_leI, nI_eq, nI_clamp, nI_add, pk_mul, pk_sub, pk_div, pk_rem, sdm, rdA_n, wrA_n, wrJ_n, wr1_n, bnd_s, nz_n, zb0, zb1, zb_bi, cal1_s, cal2_s, cal3_s, cal4_s, cal5_s, cal6_s, nI_negone, negone_nI, negone_lt0, negone_le, bi_eq0, bi_eq1, if_true, if_false, eq_self, Nat.lt_irrefl, Nat.le_refl, q]
      by_cases e2 : c / R 1 = o / R 1 <;> simp [e2, bi]
    · simp (disch := omega) only [nI_ltI, nI_leI, nI_eq, nI_clamp, nI_add, pk_mul, pk_sub, pk_div, pk_rem, sdm, rdA_n, wrA_n, wrJ_n, wr1_n, bnd_s, nz_n, zb0, zb1, zb_bi, cal1_s, cal2_s, cal3_s, cal4_s, cal5_s, cal6_s, nI_negone, negone_nI, negone_lt0, negone_le, bi_eq0, bi_eq1, if_true, if_false, eq_self, Nat.lt_irrefl, Nat.le_refl, q]
      simp only [show ¬ (1 : Nat) = 0 by omega, if_false, if_true]
      by_cases e2 : c / R 1 % 2 = o / R 1 % 2 <;> simp [e2, bi, zb]
    · simp (disch := omega) only [nI_ltI, nI_leI, nI_eq, nI_clamp, nI_add, pk_mul, pk_sub, pk_div, pk_rem, sdm, rdA_n, wrA_n, wrJ_n, wr1_n, bnd_s, nz_n, zb0, zb1, zb_bi, cal1_s, cal2_s, cal3_s, cal4_s, cal5_s, cal6_s, nI_negone, negone_nI, negone_lt0, negone_le, bi_eq0, bi_eq1, if_true, if_false, eq_self, Nat.lt_irrefl, Nat.le_refl, q]
      simp [bi]
  · have : ¬ nI (c % R 1 + 1) = nI (o % R 1 + 1) - nI 1 := by
      rw [pk_sub (by omega), nI_eq (by omega) (by omega)]; omega
    rw [if_neg this, zb0]
    simp [e, bi]
theorem s_isForEmpty {r : Nat → Int32} {R : Nat → Nat} (h : RR r R) {c : Nat} (hc : c < 16) : F_X1_isForEmptyColumns r (nI c) = some (bi (emptyB R c)) := by
  have ho := h.2
  unfold RulesOk at ho
  have h1 := mod_lt1 h.2 c
  unfold F_X1_isForEmptyColumns emptyB
  rw [s_rankOf h hc, h.1 5 (by omega), h.1 1 (by omega)]
  rcases (show R 5 = 0 ∨ R 5 = 1 ∨ R 5 = 2 by omega) with q | q | q
  · simp (disch := omega) only [nI_ltI, nI_leI, nI_eq, nI_clamp, nI_add, pk_mul, pk_sub, pk_div, pk_rem, sdm, rdA_n, wrA_n, wrJ_n, wr1_n, bnd_s, nz_n, zb0, zb1, zb_bi, cal1_s, cal2_s, cal3_s, cal4_s, cal5_s, cal6_s, nI_negone, negone_nI, negone_lt0, negone_le, bi_eq0, bi_eq1, if_true, if_false, eq_self, Nat.lt_irrefl, Nat.le_refl, q]; simp [bi]
  · simp (disch := omega) only [nI_ltI, nI_leI, nI_eq, nI_clamp, nI_add, pk_mul, pk_sub, pk_div, pk_rem, sdm, rdA_n, wrA_n, wrJ_n, wr1_n, bnd_s, nz_n, zb0, zb1, zb_bi, cal1_s, cal2_s, cal3_s, cal4_s, cal5_s, cal6_s, nI_negone, negone_nI, negone_lt0, negone_le, bi_eq0, bi_eq1, if_true, if_false, eq_self, Nat.lt_irrefl, Nat.le_refl, q]
    by_cases e : c % R 1 + 1 = R 1 <;> simp [e, bi]
  · simp (disch := omega) only [nI_ltI, nI_leI, nI_eq, nI_clamp, nI_add, pk_mul, pk_sub, pk_div, pk_rem, sdm, rdA_n, wrA_n, wrJ_n, wr1_n, bnd_s, nz_n, zb0, zb1, zb_bi, cal1_s, cal2_s, cal3_s, cal4_s, cal5_s, cal6_s, nI_negone, negone_nI, negone_lt0, negone_le, bi_eq0, bi_eq1, if_true, if_false, eq_self, Nat.lt_irrefl, Nat.le_refl, q]; simp [bi]
theorem s_at {f : Nat → Int32} {n i : Nat} (hn : n < 2 ^ 31) (hi : i < n) : F_X5_at f n (nI i) = some (f i) := by
  unfold F_X5_at
  simp (disch := omega) only [nI_ltI, nI_leI, nI_eq, nI_clamp, nI_add, pk_mul, pk_sub, pk_div, pk_rem, sdm, rdA_n, wrA_n, wrJ_n, wr1_n, bnd_s, nz_n, zb0, zb1, zb_bi, cal1_s, cal2_s, cal3_s, cal4_s, cal5_s, cal6_s, nI_negone, negone_nI, negone_lt0, negone_le, bi_eq0, bi_eq1, if_true, if_false, eq_self, Nat.lt_irrefl, Nat.le_refl, show ¬ i < 0 by omega, show ¬ n ≤ i by omega]
theorem s_put {f : Nat → Int32} {n i : Nat} {x : Int32} (hn : n < 2 ^ 31) (hi : i < n) : F_X5_put n f (nI i) x = some (upd f i x) := by
  unfold F_X5_put
  simp (disch := omega) only [nI_ltI, nI_leI, nI_eq, nI_clamp, nI_add, pk_mul, pk_sub, pk_div, pk_rem, sdm, rdA_n, wrA_n, wrJ_n, wr1_n, bnd_s, nz_n, zb0, zb1, zb_bi, cal1_s, cal2_s, cal3_s, cal4_s, cal5_s, cal6_s, nI_negone, negone_nI, negone_lt0, negone_le, bi_eq0, bi_eq1, if_true, if_false, eq_self, Nat.lt_irrefl, Nat.le_refl, show ¬ i < 0 by omega, show ¬ n ≤ i by omega]
theorem s_isColumn {p : Nat} (h : p < 100) : F_X5_isColumn (nI p) = some (bi (decide (p < 5))) := by
  unfold F_X5_isColumn
  by_cases q : p < 5
  · simp (disch := omega) only [nI_ltI, nI_leI, nI_eq, nI_clamp, nI_add, pk_mul, pk_sub, pk_div, pk_rem, sdm, rdA_n, wrA_n, wrJ_n, wr1_n, bnd_s, nz_n, zb0, zb1, zb_bi, cal1_s, cal2_s, cal3_s, cal4_s, cal5_s, cal6_s, nI_negone, negone_nI, negone_lt0, negone_le, bi_eq0, bi_eq1, if_true, if_false, eq_self, Nat.lt_irrefl, Nat.le_refl, show ¬ p < 0 by omega, show ¬ 5 ≤ p by omega]; simp [q, bi]
  · simp (disch := omega) only [nI_ltI, nI_leI, nI_eq, nI_clamp, nI_add, pk_mul, pk_sub, pk_div, pk_rem, sdm, rdA_n, wrA_n, wrJ_n, wr1_n, bnd_s, nz_n, zb0, zb1, zb_bi, cal1_s, cal2_s, cal3_s, cal4_s, cal5_s, cal6_s, nI_negone, negone_nI, negone_lt0, negone_le, bi_eq0, bi_eq1, if_true, if_false, eq_self, Nat.lt_irrefl, Nat.le_refl, show ¬ p < 0 by omega, show 5 ≤ p by omega]; simp [q, bi]
theorem s_isCell {p : Nat} (h : p < 100) : F_X5_isCell (nI p) = some (bi (decide (p = 5 ∨ p = 6))) := by
  unfold F_X5_isCell
  by_cases q : p < 5
  · simp (disch := omega) only [nI_ltI, nI_leI, nI_eq, nI_clamp, nI_add, pk_mul, pk_sub, pk_div, pk_rem, sdm, rdA_n, wrA_n, wrJ_n, wr1_n, bnd_s, nz_n, zb0, zb1, zb_bi, cal1_s, cal2_s, cal3_s, cal4_s, cal5_s, cal6_s, nI_negone, negone_nI, negone_lt0, negone_le, bi_eq0, bi_eq1, if_true, if_false, eq_self, Nat.lt_irrefl, Nat.le_refl, q]; simp [bi]; omega
  · by_cases q2 : 7 ≤ p
    · simp (disch := omega) only [nI_ltI, nI_leI, nI_eq, nI_clamp, nI_add, pk_mul, pk_sub, pk_div, pk_rem, sdm, rdA_n, wrA_n, wrJ_n, wr1_n, bnd_s, nz_n, zb0, zb1, zb_bi, cal1_s, cal2_s, cal3_s, cal4_s, cal5_s, cal6_s, nI_negone, negone_nI, negone_lt0, negone_le, bi_eq0, bi_eq1, if_true, if_false, eq_self, Nat.lt_irrefl, Nat.le_refl, q, q2]; simp [bi]; omega
    · simp (disch := omega) only [nI_ltI, nI_leI, nI_eq, nI_clamp, nI_add, pk_mul, pk_sub, pk_div, pk_rem, sdm, rdA_n, wrA_n, wrJ_n, wr1_n, bnd_s, nz_n, zb0, zb1, zb_bi, cal1_s, cal2_s, cal3_s, cal4_s, cal5_s, cal6_s, nI_negone, negone_nI, negone_lt0, negone_le, bi_eq0, bi_eq1, if_true, if_false, eq_self, Nat.lt_irrefl, Nat.le_refl, q, q2]; simp [bi]; omega
theorem s_isCard {c : Nat} (h : c < 100) : F_X5_isCard (nI c) = some (bi (decide (c < 16))) := by
  unfold F_X5_isCard
  by_cases q : c < 16
  · simp (disch := omega) only [nI_ltI, nI_leI, nI_eq, nI_clamp, nI_add, pk_mul, pk_sub, pk_div, pk_rem, sdm, rdA_n, wrA_n, wrJ_n, wr1_n, bnd_s, nz_n, zb0, zb1, zb_bi, cal1_s, cal2_s, cal3_s, cal4_s, cal5_s, cal6_s, nI_negone, negone_nI, negone_lt0, negone_le, bi_eq0, bi_eq1, if_true, if_false, eq_self, Nat.lt_irrefl, Nat.le_refl, show ¬ c < 0 by omega, show ¬ 16 ≤ c by omega]; simp [q, bi]
  · simp (disch := omega) only [nI_ltI, nI_leI, nI_eq, nI_clamp, nI_add, pk_mul, pk_sub, pk_div, pk_rem, sdm, rdA_n, wrA_n, wrJ_n, wr1_n, bnd_s, nz_n, zb0, zb1, zb_bi, cal1_s, cal2_s, cal3_s, cal4_s, cal5_s, cal6_s, nI_negone, negone_nI, negone_lt0, negone_le, bi_eq0, bi_eq1, if_true, if_false, eq_self, Nat.lt_irrefl, Nat.le_refl, show ¬ c < 0 by omega, show 16 ≤ c by omega]; simp [q, bi]
theorem s_isCard_none : F_X5_isCard (-1) = some (bi false) := by
  unfold F_X5_isCard; simp (disch := omega) only [nI_ltI, nI_leI, nI_eq, nI_clamp, nI_add, pk_mul, pk_sub, pk_div, pk_rem, sdm, rdA_n, wrA_n, wrJ_n, wr1_n, bnd_s, nz_n, zb0, zb1, zb_bi, cal1_s, cal2_s, cal3_s, cal4_s, cal5_s, cal6_s, nI_negone, negone_nI, negone_lt0, negone_le, bi_eq0, bi_eq1, if_true, if_false, eq_self, Nat.lt_irrefl, Nat.le_refl, bi_f]
theorem s_topOf {T : Nat → Nat → Int32} {P : Pos} (h : TRep T P) {p : Nat} (hp : p < 10) : F_X4_topOf T (nI p) = some (topI (P.1 p)) := by
  unfold F_X4_topOf
  simp (disch := omega) only [nI_ltI, nI_leI, nI_eq, nI_clamp, nI_add, pk_mul, pk_sub, pk_div, pk_rem, sdm, rdA_n, wrA_n, wrJ_n, wr1_n, bnd_s, nz_n, zb0, zb1, zb_bi, cal1_s, cal2_s, cal3_s, cal4_s, cal5_s, cal6_s, nI_negone, negone_nI, negone_lt0, negone_le, bi_eq0, bi_eq1, if_true, if_false, eq_self, Nat.lt_irrefl, Nat.le_refl, show ¬ p < 0 by omega, show ¬ 10 ≤ p by omega, h.1 p hp]
theorem s_under_none {T : Nat → Nat → Int32} : F_X4_under T (-1) = some (-1) := by
  unfold F_X4_under F_X4_under_b20; simp (disch := omega) only [nI_ltI, nI_leI, nI_eq, nI_clamp, nI_add, pk_mul, pk_sub, pk_div, pk_rem, sdm, rdA_n, wrA_n, wrJ_n, wr1_n, bnd_s, nz_n, zb0, zb1, zb_bi, cal1_s, cal2_s, cal3_s, cal4_s, cal5_s, cal6_s, nI_negone, negone_nI, negone_lt0, negone_le, bi_eq0, bi_eq1, if_true, if_false, eq_self, Nat.lt_irrefl, Nat.le_refl]
theorem s_under {T : Nat → Nat → Int32} {P : Pos} (h : TRep T P) (ho : PosOk P) {p c k : Nat} (hk : (P.1 p)[k]? = some c) : F_X4_under T (nI c) = some (optI ((P.1 p)[k + 1]?)) := by
  have hc := ho.1 p c (List.mem_of_getElem? hk)
  have hp := (ho.place (List.mem_of_getElem? hk)).1
  unfold F_X4_under F_X4_under_b20
  simp (disch := omega) only [nI_ltI, nI_leI, nI_eq, nI_clamp, nI_add, pk_mul, pk_sub, pk_div, pk_rem, sdm, rdA_n, wrA_n, wrJ_n, wr1_n, bnd_s, nz_n, zb0, zb1, zb_bi, cal1_s, cal2_s, cal3_s, cal4_s, cal5_s, cal6_s, nI_negone, negone_nI, negone_lt0, negone_le, bi_eq0, bi_eq1, if_true, if_false, eq_self, Nat.lt_irrefl, Nat.le_refl, show ¬ c < 0 by omega, show ¬ 16 ≤ c by omega, h.2.1 c hc, onN_in ho hp k hk]
  cases hd : (P.1 p)[k + 1]? with
  | none =>
    have h1 := floorN_ge p
    simp (disch := omega) only [nI_ltI, nI_leI, nI_eq, nI_clamp, nI_add, pk_mul, pk_sub, pk_div, pk_rem, sdm, rdA_n, wrA_n, wrJ_n, wr1_n, bnd_s, nz_n, zb0, zb1, zb_bi, cal1_s, cal2_s, cal3_s, cal4_s, cal5_s, cal6_s, nI_negone, negone_nI, negone_lt0, negone_le, bi_eq0, bi_eq1, if_true, if_false, eq_self, Nat.lt_irrefl, Nat.le_refl, show 16 ≤ floorN p from h1.1, optI]
  | some d =>
    have := ho.1 p d (List.mem_of_getElem? hd)
    simp (disch := omega) only [nI_ltI, nI_leI, nI_eq, nI_clamp, nI_add, pk_mul, pk_sub, pk_div, pk_rem, sdm, rdA_n, wrA_n, wrJ_n, wr1_n, bnd_s, nz_n, zb0, zb1, zb_bi, cal1_s, cal2_s, cal3_s, cal4_s, cal5_s, cal6_s, nI_negone, negone_nI, negone_lt0, negone_le, bi_eq0, bi_eq1, if_true, if_false, eq_self, Nat.lt_irrefl, Nat.le_refl, show ¬ 16 ≤ d by omega, optI]
theorem topI_opt (l : List Nat) : topI l = optI l[0]? := by cases l <;> rfl
theorem s_isUp {T : Nat → Nat → Int32} {P : Pos} (h : TRep T P) (ho : PosOk P) {c : Nat} (hc : c < 16) : F_X4_isUp T (nI c) = some (bi (decide (onN P c = 20))) := by
  have h1 := onN_le ho c
  unfold F_X4_isUp
  rw [s_at (by omega) hc, cal1_s, h.2.1 c hc]
  by_cases e : onN P c = 20
  · simp (disch := omega) only [nI_ltI, nI_leI, nI_eq, nI_clamp, nI_add, pk_mul, pk_sub, pk_div, pk_rem, sdm, rdA_n, wrA_n, wrJ_n, wr1_n, bnd_s, nz_n, zb0, zb1, zb_bi, cal1_s, cal2_s, cal3_s, cal4_s, cal5_s, cal6_s, nI_negone, negone_nI, negone_lt0, negone_le, bi_eq0, bi_eq1, if_true, if_false, eq_self, Nat.lt_irrefl, Nat.le_refl, e]; simp [bi]
  · simp (disch := omega) only [nI_ltI, nI_leI, nI_eq, nI_clamp, nI_add, pk_mul, pk_sub, pk_div, pk_rem, sdm, rdA_n, wrA_n, wrJ_n, wr1_n, bnd_s, nz_n, zb0, zb1, zb_bi, cal1_s, cal2_s, cal3_s, cal4_s, cal5_s, cal6_s, nI_negone, negone_nI, negone_lt0, negone_le, bi_eq0, bi_eq1, if_true, if_false, eq_self, Nat.lt_irrefl, Nat.le_refl, e]; simp [bi]
