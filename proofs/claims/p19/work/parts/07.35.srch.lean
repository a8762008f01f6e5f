/-! ===== a search, told; the class's searcher ===== -/
def playC (R : Nat → Nat) (P : Pos) (m : Nat) : Pos := playP R P (m / 1000) (m / 100 % 10) (m % 100)
theorem playC_code {R : Nat → Nat} {P : Pos} {f t n : Nat} (hf : f < 10) (ht : t < 9) (hn : n ≤ 16) : playC R P (codeN f t n) = playP R P f t n := by
  unfold playC
  rw [show codeN f t n / 1000 = f by unfold codeN; omega, show codeN f t n / 100 % 10 = t by unfold codeN; omega, show codeN f t n % 100 = n by unfold codeN; omega]
theorem mem_mvs {R : Nat → Nat} {P : Pos} {m : Nat} (h : m ∈ mvs R P) : ∃ f t n, m = codeN f t n ∧ f < 10 ∧ t < 9 ∧ 1 ≤ n ∧ n ≤ 16 ∧ (n = 1 ∨ (f < 5 ∧ t < 5)) ∧ f ≠ 8 ∧ legal R P f t n = true := by
  unfold mvs at h
  rw [List.mem_flatMap] at h
  obtain ⟨f, hf, h⟩ := h
  unfold mvF at h
  rw [List.mem_flatMap] at h
  obtain ⟨t, ht, h⟩ := h
  unfold mvFT at h
  rw [List.mem_map] at h
  obtain ⟨n, hn, e⟩ := h
  rw [List.mem_filter, List.mem_range'_1] at hn
  rw [List.mem_range] at hf ht
  have h2 := hn.2
  unfold canB at h2
  simp only [Bool.and_eq_true, Bool.or_eq_true, decide_eq_true_eq, ne_eq] at h2
  exact ⟨f, t, n, e.symm, hf, ht, hn.1.1, by omega, h2.1.2, h2.1.1, h2.2⟩
theorem wf_playC {R : Nat → Nat} {P : Pos} (w : WF R P) (hR : RulesOk R) {m : Nat} (h : m ∈ mvs R P) : WF R (playC R P m) := by
  obtain ⟨f, t, n, rfl, hf, ht, hn, hn16, h1, -, hl⟩ := mem_mvs h
  rw [playC_code hf ht hn16]
  exact wf_play w hR hn h1 hl
theorem s_playC {T : Nat → Nat → Int32} {R : Nat → Nat} {P : Pos} (h : TRep T P) (w : WF R P) (hR : RulesOk R) {m : Nat} (hm : m ∈ mvs R P) : ∃ T', F_X4_play T (nI m) = some T' ∧ TRep T' (playC R P m) := by
  obtain ⟨f, t, n, rfl, hf, ht, hn, hn16, h1, -, hl⟩ := mem_mvs hm
  rw [playC_code hf ht hn16]
  exact s_play h w hR hf ht hn hn16 h1 hl
def sameB (P Q : Pos) : Bool := decide (loN P = loN Q ∧ hiN P = hiN Q)
def knownB (KP : List Pos) (Q : Pos) : Bool := KP.any (fun P => sameB P Q)
/-- what comes of P by the moves ms: the positions known behind it; 1 if one is won, 2 if there would be too many -/
def expA (R : Nat → Nat) (b : Nat) (P : Pos) : List Nat → List Pos → List Pos × Nat
  | [], KP => (KP, 0)
  | m :: r, KP => if knownB KP (playC R P m) = true then expA R b P r KP
      else if KP.length < b then (if wonB R (playC R P m) = true then (KP ++ [playC R P m], 1) else expA R b P r (KP ++ [playC R P m]))
      else (KP, 2)
/-- a search that goes on at row k: what it tells, and the positions known -/
def bfsA (R : Nat → Nat) (b : Nat) : Nat → Nat → List Pos → (Nat → Nat) → Int32 × List Pos
  | 0, _, KP, _ => (-1, KP)
  | n + 1, k, KP, ST =>
    match KP[k]? with
    | none => (-1, KP)
    | some P =>
      if (expA R b P (mvs R P) KP).2 = 1 then (nI (ST k + 1), (expA R b P (mvs R P) KP).1)
      else if (expA R b P (mvs R P) KP).2 = 2 then (-2, (expA R b P (mvs R P) KP).1)
      else bfsA R b n (k + 1) (expA R b P (mvs R P) KP).1 (fun i => if i < KP.length then ST i else ST k + 1)
/-- a search from P -/
def searchA (R : Nat → Nat) (b : Nat) (P : Pos) : Int32 × List Pos := if wonB R P = true then (nI 0, [P]) else bfsA R b 1000 0 [P] (fun _ => 0)
theorem s_copyFrom {T1 T0 : Nat → Nat → Int32} {P : Pos} (h : TRep T1 P) : ∃ T', F_X4_copyFrom T1 T0 = some T' ∧ TRep T' P ∧ (∀ i, T' 3 i = T0 3 i) ∧ T' 0 4 = T0 0 4 := by
  unfold F_X4_copyFrom
  refine ⟨_, rfl, h.cong ?_ ?_ ?_ ?_, ?_, ?_⟩
  · intro c hc; simp [st2_s, setc_s]; rw [pk_cpy_in (by omega) (by omega)]; simp
  · intro c hc; simp [st2_s, setc_s]; rw [pk_cpy_in (by omega) (by omega)]; simp
  · simp [st2_s]
  · simp [st2_s]
  · intro i; simp [st2_s, setc_s]
  · simp [st2_s, setc_s]
/-- the bucket of a position -/
def bkI (P : Pos) : Int32 := ((((lN (loN P) * lN 31) + lN (hiN P)) * (-7046029254386353131) : Int64).toUInt64 >>> ((nI 40).toInt64.toUInt64 &&& Int64.toUInt64 63)).toInt64.toInt32 &&& nI 255
theorem bkI_ex (P : Pos) : ∃ j : Nat, j < 256 ∧ bkI P = nI j := by
  have := pk_andE (((((lN (loN P) * lN 31) + lN (hiN P)) * (-7046029254386353131) : Int64).toUInt64 >>> ((nI 40).toInt64.toUInt64 &&& Int64.toUInt64 63)).toInt64.toInt32) (m := nI 255) 8 (by decide)
  exact this
noncomputable def bkN (P : Pos) : Nat := Classical.choose (bkI_ex P)
theorem bkN_lt (P : Pos) : bkN P < 256 := (Classical.choose_spec (bkI_ex P)).1
theorem bkN_I (P : Pos) : bkI P = nI (bkN P) := (Classical.choose_spec (bkI_ex P)).2
theorem bkN_same {P C : Pos} (hs : sameB P C = true) : bkN P = bkN C := by
  unfold sameB at hs
  simp only [decide_eq_true_eq] at hs
  have e : bkI P = bkI C := by unfold bkI; rw [hs.1, hs.2]
  have h1 := bkN_lt P
  have h2 := bkN_lt C
  rw [bkN_I, bkN_I, nI_eq (by omega) (by omega)] at e
  exact e
theorem s_bucketOf {S : Nat → Nat → Int64} {P : Pos} {i : Nat} (hi : i < 401) (h : SRow S i P) : F_X3_bucketOf S 401 (nI i) = some (nI (bkN P)) := by
  unfold F_X3_bucketOf
  rw [s_isRow (by omega) hi, cal1_s, if_neg (by rw [bi_eq0]; simp), rdA_n _ hi (by omega), rdA_n _ hi (by omega), h.1, h.2.1, ← bkN_I]; rfl
theorem s_areSame {S : Nat → Nat → Int64} {P Q : Pos} (hP : loN P < 2 ^ 63 ∧ hiN P < 2 ^ 63) (hQ : loN Q < 2 ^ 63 ∧ hiN Q < 2 ^ 63) {i j : Nat} (hi : i < 401) (hj : j < 401) (h1 : SRow S i P) (h2 : SRow S j Q) : F_X3_areSame S 401 (nI i) (nI j) = some (bi (sameB P Q)) := by
  have e0 : ∀ x y : Int64, (lg_cmp x y = nI 0) ↔ x = y := fun x y => lg_cmp_eq x y
  unfold F_X3_areSame sameB
  rw [s_isRow (by omega) hi, cal1_s, if_neg (by rw [bi_eq0]; simp), s_isRow (by omega) hj, cal1_s, if_neg (by rw [bi_eq0]; simp), rdA_n _ hi (by omega), rdA_n _ hj (by omega), rdA_n _ hi (by omega), rdA_n _ hj (by omega), h1.1, h1.2.1, h2.1, h2.2.1]
  simp only [e0, fb_lN_inj hP.1 hQ.1, fb_lN_inj hP.2 hQ.2]
  by_cases q1 : loN P = loN Q
  · by_cases q2 : hiN P = hiN Q
    · simp [q1, q2, bi, zb1]
    · simp [q1, q2, bi, zb0]
  · simp [q1, bi, zb0]
theorem loN_lt {P : Pos} (ho : PosOk P) : loN P < 2 ^ 63 := by
  have h := pkN_lt (a := 0) (fun c => onN_lt32 ho c) (mkP_lt P) 8
  exact Nat.lt_of_lt_of_le h (by decide)
theorem hiN_lt {P : Pos} (ho : PosOk P) (ht : P.2.2.2 ≤ 2) : hiN P < 2 ^ 63 := by
  have h := pkN_lt (a := 8) (fun c => onN_lt32 ho c) (show P.2.2.2 < 3 by omega) 8
  exact Nat.lt_of_lt_of_le h (by decide)
theorem WF.tu2 {R : Nat → Nat} {P : Pos} (w : WF R P) (hR : RulesOk R) : P.2.2.2 ≤ 2 := by
  have h1 := w.2.2.2.2.2.2.2.2
  unfold RulesOk at hR; omega
/-- the last row ahead of n in the bucket v -/
def lastIn (f : Nat → Nat) (v : Nat) : Nat → Option Nat
  | 0 => none
  | n + 1 => if f n = v then some n else lastIn f v n
theorem lastIn_succ (f : Nat → Nat) (v n : Nat) : lastIn f v (n + 1) = if f n = v then some n else lastIn f v n := rfl
theorem lastIn_congr {f g : Nat → Nat} {v : Nat} : ∀ {n : Nat}, (∀ i, i < n → f i = g i) → lastIn f v n = lastIn g v n
  | 0, _ => rfl
  | n + 1, h => by
    unfold lastIn
    rw [h n (by omega), lastIn_congr (fun i hi => h i (by omega))]
theorem lastIn_some {f : Nat → Nat} {v : Nat} : ∀ {n i : Nat}, lastIn f v n = some i → i < n ∧ f i = v ∧ ∀ j, i < j → j < n → f j ≠ v
  | 0, i, h => by cases h
  | n + 1, i, h => by
    unfold lastIn at h
    by_cases q : f n = v
    · rw [if_pos q] at h
      have := Option.some.inj h
      subst this
      exact ⟨by omega, q, fun j h1 h2 => by omega⟩
    · rw [if_neg q] at h
      obtain ⟨h1, h2, h3⟩ := lastIn_some h
      refine ⟨by omega, h2, fun j hj hj2 => ?_⟩
      rcases Nat.lt_or_ge j n with z | z
      · exact h3 j hj z
      · rw [show j = n by omega]; exact q
theorem lastIn_none {f : Nat → Nat} {v : Nat} : ∀ {n : Nat}, lastIn f v n = none → ∀ j, j < n → f j ≠ v
  | 0, _, j, hj => absurd hj (Nat.not_lt_zero j)
  | n + 1, h, j, hj => by
    unfold lastIn at h
    by_cases q : f n = v
    · rw [if_pos q] at h; cases h
    · rw [if_neg q] at h
      rcases Nat.lt_or_ge j n with z | z
      · exact lastIn_none h j z
      · rw [show j = n by omega]; exact q
/-- the searcher's rows hold what is known -/
def SInv (R : Nat → Nat) (Q : Nat → Nat → Int32) (S : Nat → Nat → Int64) (KP : List Pos) (ST : Nat → Nat) : Prop :=
  Q 0 1 = nI KP.length ∧ (∀ i, i < KP.length → Q 1 i = nI (ST i)) ∧ (∀ i P, KP[i]? = some P → SRow S i P ∧ WF R P) ∧
  (∀ v, v < 256 → Q 2 v = optI (lastIn (fun i => (KP[i]?.map bkN).getD 0) v KP.length)) ∧
  (∀ i, i < KP.length → Q 3 i = optI (lastIn (fun i => (KP[i]?.map bkN).getD 0) ((KP[i]?.map bkN).getD 0) i))
theorem s_known_L {R : Nat → Nat} {Q : Nat → Nat → Int32} {S : Nat → Nat → Int64} {KP : List Pos} {ST : Nat → Nat} (hR : RulesOk R) (h : SInv R Q S KP ST) (hlen : KP.length ≤ 400) {C : Pos} (wC : WF R C) (hC : SRow S KP.length C) :
    ∀ (m g n : Nat), m ≤ KP.length → g + m ≤ 400 → m < n → F_X2_isKnownAlready_L21 Q S n (optI (lastIn (fun i => (KP[i]?.map bkN).getD 0) (bkN C) m)) (nI g) = some (bi ((KP.take m).any (fun P => sameB P C))) := by
  have hsame : ∀ P : Pos, sameB P C = true → bkN P = bkN C := fun P hs => bkN_same hs
  intro m
  induction m using Nat.strongRecOn with
  | _ m ih =>
    intro g n hm hg hn
    obtain ⟨n, rfl⟩ : ∃ m, n = m + 1 := ⟨n - 1, by omega⟩
    have any_none : ∀ a b, a ≤ b → b ≤ KP.length → (∀ j, a ≤ j → j < b → (KP[j]?.map bkN).getD 0 ≠ bkN C) → (KP.take b).any (fun P => sameB P C) = (KP.take a).any (fun P => sameB P C) := by
      intro a b hab hb hno
      rw [Bool.eq_iff_iff, List.any_eq_true, List.any_eq_true]
      constructor
      · rintro ⟨P, hP, hs⟩
        obtain ⟨j, hj, e⟩ := List.getElem_of_mem hP
        rw [List.length_take] at hj
        rw [List.getElem_take] at e
        have e2 : KP[j]? = some P := by rw [List.getElem?_eq_getElem (by omega), e]
        rcases Nat.lt_or_ge j a with q | q
        · exact ⟨P, List.mem_of_getElem? (i := j) (by rw [List.getElem?_take_of_lt q]; exact e2), hs⟩
        · have := hno j q (by omega)
          rw [e2] at this
          exact absurd (hsame P hs) this
      · rintro ⟨P, hP, hs⟩
        refine ⟨P, ?_, hs⟩
        have : KP.take a = (KP.take b).take a := by rw [List.take_take]; congr 1; omega
        rw [this] at hP
        exact List.mem_of_mem_take hP
    show F_X2_isKnownAlready_s21 Q S (F_X2_isKnownAlready_L21 Q S n) _ _ = _
    unfold F_X2_isKnownAlready_s21
    cases hl : lastIn (fun i => (KP[i]?.map bkN).getD 0) (bkN C) m with
    | none =>
      have := any_none 0 m (by omega) hm (fun j _ hj => lastIn_none hl j hj)
      rw [this, optI_none]
      by_cases q : (nI 400 : Int32) ≤ nI g
      · rw [if_pos q]; rfl
      · rw [if_neg q, if_pos rfl]; rfl
    | some i =>
      obtain ⟨h1, h2, h3⟩ := lastIn_some hl
      have hi : i < KP.length := by omega
      have e : KP[i]? = some KP[i] := List.getElem?_eq_getElem hi
      generalize KP[i] = P at e
      obtain ⟨r1, w1⟩ := h.2.2.1 i P e
      rw [optI_some, if_neg (nI_ge (by omega) (by omega)), if_neg (by rw [nI_negone (by omega)]; exact id), h.1, s_areSame ⟨loN_lt w1.1, hiN_lt w1.1 (w1.tu2 hR)⟩ ⟨loN_lt wC.1, hiN_lt wC.1 (wC.tu2 hR)⟩ (by omega) (by omega) r1 hC, cal1_s, bi_if]
      have a1 := any_none (i + 1) m (by omega) hm (fun j hj hj2 => h3 j (by omega) hj2)
      have a2 : (KP.take (i + 1)).any (fun P => sameB P C) = ((KP.take i).any (fun P => sameB P C) || sameB P C) := by
        rw [List.take_add_one, e, List.any_append]; simp
      rw [a1, a2]
      by_cases q : sameB P C = true
      · rw [if_pos q, q, Bool.or_true]; rfl
      · rw [if_neg q]
        simp only [Bool.not_eq_true] at q
        rw [q, Bool.or_false, s_at (by omega) (by omega), cal1_s, h.2.2.2.2 i hi, nI_add]
        have h2' : (KP[i]?.map bkN).getD 0 = bkN C := h2
        rw [h2']
        exact ih i h1 (g + 1) n (by omega) (by omega) (by omega)
theorem s_isKnown {R : Nat → Nat} {Q : Nat → Nat → Int32} {S : Nat → Nat → Int64} {KP : List Pos} {ST : Nat → Nat} (hR : RulesOk R) (h : SInv R Q S KP ST) (hlen : KP.length ≤ 400) {C : Pos} (wC : WF R C) (hC : SRow S KP.length C) : F_X2_isKnownAlready Q S = some (bi (knownB KP C)) := by
  have hb := bkN_lt C
  unfold F_X2_isKnownAlready
  rw [h.1, s_bucketOf (by omega) hC, cal1_s, s_at (by omega) hb, cal1_s, h.2.2.2.1 _ hb, s_known_L hR h hlen wC hC KP.length 0 FU (Nat.le_refl _) (by omega) (FU_gt (by omega))]
  rw [List.take_length]; rfl
theorem s_makeKnown {R : Nat → Nat} {Q : Nat → Nat → Int32} {S : Nat → Nat → Int64} {KP : List Pos} {ST : Nat → Nat} (h : SInv R Q S KP ST) (hlen : KP.length < 401) {C : Pos} (wC : WF R C) (hC : SRow S KP.length C) (st : Nat) (ST' : Nat → Nat) (h1 : ∀ i, i < KP.length → ST' i = ST i) (h2 : ST' KP.length = st) :
    ∃ Q', F_X2_makeKnown S Q (nI st) = some Q' ∧ SInv R Q' S (KP ++ [C]) ST' := by
  have hb := bkN_lt C
  unfold F_X2_makeKnown
  rw [h.1, s_bucketOf (by omega) hC, cal1_s, s_put (by omega) hlen, cal1_s, bnd_s, setc_upd, s_at (by omega) hb, cal1_s]
  have e01 : st2 Q 1 KP.length (nI st) 0 1 = nI KP.length := by rw [st2_s, if_neg (by omega)]; exact h.1
  have e2 : st2 Q 1 KP.length (nI st) 2 (bkN C) = Q 2 (bkN C) := by rw [st2_s, if_neg (by omega)]
  rw [e01, e2, s_put (by omega) hlen, cal1_s, bnd_s, setc_upd]
  have e01' : st2 (st2 Q 1 KP.length (nI st)) 3 KP.length (Q 2 (bkN C)) 0 1 = nI KP.length := by rw [st2_s, if_neg (by omega)]; exact e01
  rw [e01', s_put (by omega) hb, cal1_s, bnd_s, setc_upd, bnd_s]
  have e01'' : st2 (st2 (st2 Q 1 KP.length (nI st)) 3 KP.length (Q 2 (bkN C))) 2 (bkN C) (nI KP.length) 0 1 = nI KP.length := by rw [st2_s, if_neg (by omega)]; exact e01'
  rw [e01'', nI_add]
  have old : ∀ i, i < KP.length → ((KP ++ [C])[i]?.map bkN).getD 0 = (KP[i]?.map bkN).getD 0 := fun i hi => by rw [List.getElem?_append_left hi]
  have new : ((KP ++ [C])[KP.length]?.map bkN).getD 0 = bkN C := by rw [List.getElem?_append_right (Nat.le_refl _)]; simp
  refine ⟨_, rfl, ?_, ?_, ?_, ?_, ?_⟩
  · simp [st2_s]
  · intro i hi
    rw [List.length_append] at hi
    simp only [List.length_singleton] at hi
    by_cases q : i = KP.length
    · subst q; simp [st2_s, h2]
    · rw [h1 i (by omega), ← h.2.1 i (by omega)]; simp [st2_s, q]
  · intro i P hi
    by_cases q : i < KP.length
    · rw [List.getElem?_append_left q] at hi; exact h.2.2.1 i P hi
    · rw [List.getElem?_append_right (by omega)] at hi
      by_cases q2 : i = KP.length
      · subst q2; simp at hi; subst hi; exact ⟨hC, wC⟩
      · rw [List.getElem?_eq_none (by simp; omega)] at hi; cases hi
  · intro v hv
    rw [List.length_append, List.length_singleton, lastIn_succ]
    simp only [new]
    rw [lastIn_congr old]
    by_cases q : bkN C = v
    · subst q; rw [if_pos rfl]; simp [st2_s, optI_some]
    · rw [if_neg q, ← h.2.2.2.1 v hv]
      have : v ≠ bkN C := fun e => q e.symm
      simp [st2_s, this]
  · intro i hi
    rw [List.length_append] at hi
    simp only [List.length_singleton] at hi
    by_cases q : i = KP.length
    · subst q
      rw [new, lastIn_congr old, ← h.2.2.2.1 _ hb]
      simp [st2_s]
    · rw [old i (by omega), lastIn_congr (fun j hj => old j (by omega)), ← h.2.2.2.2 i (by omega)]
      simp [st2_s, q]
