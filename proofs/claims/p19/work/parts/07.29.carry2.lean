/-! ===== the class's table: carry ===== -/
theorem s_topOf_raw {T : Nat → Nat → Int32} {p : Nat} (hp : p < 10) : F_X4_topOf T (nI p) = some (T 2 p) := by
  unfold F_X4_topOf
  simp (disch := omega) only [nI_ltI, nI_leI, nI_eq, nI_clamp, nI_add, pk_mul, pk_sub, pk_div, pk_rem, sdm, rdA_n, wrA_n, wrJ_n, wr1_n, bnd_s, nz_n, zb0, zb1, zb_bi, cal1_s, cal2_s, cal3_s, cal4_s, cal5_s, cal6_s, nI_negone, negone_nI, negone_lt0, negone_le, bi_eq0, bi_eq1, if_true, if_false, eq_self, Nat.lt_irrefl, Nat.le_refl, show ¬ p < 0 by omega, show ¬ 10 ≤ p by omega]
theorem s_layOn {T : Nat → Nat → Int32} {b a t : Nat} (hb : b < 16) (ht : t < 10) {x : Int32} (hx : x = if T 2 t = -1 then nI (floorN t) else T 2 t) : F_X4_layOn T (nI b) (nI a) (nI t) = some (if t = 8 then st2 T 1 b x else st2 (st2 T 1 b x) 2 t (nI a)) := by
  unfold F_X4_layOn F_X4_layOn_b27
  rw [s_topOf_raw ht, cal1_s, s_floorOf ht]
  by_cases q : T 2 t = -1
  · rw [if_pos q] at hx ⊢
    subst hx
    rw [cal1_s, s_put (by omega) hb, cal1_s, bnd_s, setc_upd]
    by_cases t8 : t = 8
    · subst t8; rw [if_pos rfl, if_pos rfl]
    · rw [if_neg (by rw [nI_eq (by omega) (by omega)]; exact t8), if_neg t8, s_put (by omega) ht, cal1_s, bnd_s, setc_upd]
  · rw [if_neg q] at hx ⊢
    subst hx
    rw [s_put (by omega) hb, cal1_s, bnd_s, setc_upd]
    by_cases t8 : t = 8
    · subst t8; rw [if_pos rfl, if_pos rfl]
    · rw [if_neg (by rw [nI_eq (by omega) (by omega)]; exact t8), if_neg t8, s_put (by omega) ht, cal1_s, bnd_s, setc_upd]
theorem topI_cases {l : List Nat} (h : ∀ c ∈ l, c < 16) (fl : Nat) : (if topI l = -1 then nI fl else topI l) = nI (l.headD fl) := by
  cases l with
  | nil => rfl
  | cons d r =>
    have := h d (by simp)
    rw [if_neg (by show ¬ nI d = -1; rw [nI_negone (by omega)]; exact id)]; rfl
theorem s_carry {T : Nat → Nat → Int32} {P : Pos} (h : TRep T P) (ho : PosOk P) {f t n : Nat} (hf : f < 10) (ht : t < 10) (hft : f ≠ t) (hn1 : 1 ≤ n) (hn : n ≤ (P.1 f).length) (hh : P.2.1 f + n ≤ (P.1 f).length) (h8 : t = 8 → n = 1) :
    ∃ T', F_X4_carry T (nI f) (nI t) (nI n) = some T' ∧ TRep T' (carryP P f t n) := by
  have hl := ho.len f
  have hb : (P.1 f)[n - 1]? = some (P.1 f)[n - 1] := List.getElem?_eq_getElem (by omega)
  generalize (P.1 f)[n - 1] = b at hb
  have hb16 := ho.1 f b (List.mem_of_getElem? hb)
  have ha : (P.1 f)[0]? = some (P.1 f)[0] := List.getElem?_eq_getElem (by omega)
  generalize (P.1 f)[0] = a at ha
  have ha16 := ho.1 f a (List.mem_of_getElem? ha)
  have hd16 : ∀ d, (P.1 f)[n]? = some d → d < 16 := fun d e => ho.1 f d (List.mem_of_getElem? e)
  obtain ⟨m, hm, em, hb5⟩ := h.2.2.1
  unfold F_X4_carry F_X4_carry_b58
  rw [pk_sub hn1, s_fromTop h ho hf (by omega), cal1_s, hb, optI_some, s_topOf h hf, cal1_s, topI_opt, ha, optI_some, s_under h ho hb, cal1_s, show n - 1 + 1 = n by omega, s_put (by omega) hf, cal1_s, bnd_s, setc_upd]
  have step : ∀ (T1 : Nat → Nat → Int32) (m' : Nat), m' < 65536 → T1 0 5 = nI m' → (∀ c, c < 16 → m'.testBit c = (m.testBit c && decide ((P.1 f)[n]? ≠ some c))) → T1 0 6 = T 0 6 → (∀ i, T1 1 i = T 1 i) → (∀ i, T1 2 i = if i = f then optI (P.1 f)[n]? else T 2 i) →
      ∃ T', (cal1 (F_X4_layOn T1 (nI b) (nI a) (nI t)) fun T_0u1 => some T_0u1) = some T' ∧ TRep T' (carryP P f t n) := by
    intro T1 m' hm' e5 hb5' e6 e1 e2
    have e2t : T1 2 t = topI (P.1 t) := by rw [e2, if_neg (fun e => hft e.symm)]; exact h.1 t ht
    have hx : nI ((P.1 t).headD (floorN t)) = if T1 2 t = -1 then nI (floorN t) else T1 2 t := by rw [e2t, topI_cases (ho.1 t)]
    rw [s_layOn hb16 ht hx, cal1_s]
    refine ⟨_, rfl, ?_, ?_, ?_, ?_, h.2.2.2.2⟩
    · intro p hp
      by_cases pf : p = f
      · subst pf
        have e : (if t = 8 then st2 T1 1 b (nI ((P.1 t).headD (floorN t))) else st2 (st2 T1 1 b (nI ((P.1 t).headD (floorN t)))) 2 t (nI a)) 2 p = T1 2 p := by
          split <;> simp [st2_s, hft]
        rw [e, e2, if_pos rfl]
        have e4 : (carryP P p t n).1 p = (P.1 p).drop n := by simp [carryP]
        rw [e4, topI_opt, List.getElem?_drop]; rfl
      · by_cases pt : p = t ∧ t ≠ 8
        · obtain ⟨p1, p2⟩ := pt
          subst p1
          rw [if_neg p2]
          have e4 : (carryP P f p n).1 p = (P.1 f).take n ++ P.1 p := by unfold carryP; dsimp only; rw [if_neg pf, if_pos ⟨rfl, p2⟩]
          rw [e4, topI_opt, List.getElem?_append_left (by rw [List.length_take]; omega), List.getElem?_take_of_lt (by omega), ha]
          simp [st2_s, optI_some]
        · have e4 : (carryP P f t n).1 p = P.1 p := by unfold carryP; dsimp only; rw [if_neg pf, if_neg pt]
          have e : (if t = 8 then st2 T1 1 b (nI ((P.1 t).headD (floorN t))) else st2 (st2 T1 1 b (nI ((P.1 t).headD (floorN t)))) 2 t (nI a)) 2 p = T1 2 p := by
            by_cases t8 : t = 8
            · rw [if_pos t8]; simp [st2_s]
            · rw [if_neg t8]
              have : p ≠ t := fun e => pt ⟨e, t8⟩
              simp [st2_s, this]
          rw [e, e2, if_neg pf, e4]; exact h.1 p hp
    · intro c hc
      rw [onN_carry ho hf ht hft hn1 hn hh h8 hb c]
      have e : (if t = 8 then st2 T1 1 b (nI ((P.1 t).headD (floorN t))) else st2 (st2 T1 1 b (nI ((P.1 t).headD (floorN t)))) 2 t (nI a)) 1 c = if c = b then nI ((P.1 t).headD (floorN t)) else T1 1 c := by
        split <;> simp [st2_s]
      rw [e]
      by_cases q : c = b
      · rw [if_pos q, if_pos q]
      · rw [if_neg q, if_neg q, e1]; exact h.2.1 c hc
    · refine ⟨m', hm', ?_, ?_⟩
      · rw [← e5]; split <;> simp [st2_s]
      · intro c hc
        rw [hidB_carry ho hf ht hft hn hh c, hb5' c hc, hb5 c hc]
    · show _ = nI P.2.2.2
      rw [← h.2.2.2.1, ← e6]; split <;> simp [st2_s]
  cases hd : (P.1 f)[n]? with
  | none =>
    rw [optI_none, s_isCard_none, cal1_s, if_pos (by rfl)]
    refine step _ m hm (by simp only [st2_s]; simpa using em) (fun c _ => by rw [hd]; simp) (by simp [st2_s]) (by simp [st2_s]) (by intro i; rw [hd]; simp [st2_s, optI_none])
  | some d =>
    have hd' := hd16 d hd
    rw [optI_some, s_isCard (by omega), cal1_s, if_neg (by rw [bi_eq0]; simp [hd']), bnd_s]
    have e5 : st2 T 2 f (nI d) 0 5 = nI m := by rw [st2_s, if_neg (by omega)]; exact em
    rw [e5]
    obtain ⟨m', h1, h2, h3⟩ := clr_bit hm hd'
    rw [h2]
    refine step _ m' h1 (by simp [st2_s]) (fun c hc => by rw [h3 c hc, hd]; congr 1; simp [eq_comm]) (by simp [st2_s]) (by simp [st2_s]) (by intro i; rw [hd]; simp [st2_s, optI_some])
