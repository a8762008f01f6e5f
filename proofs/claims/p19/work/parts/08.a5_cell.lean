/-! ===== cell: the script, read by the law's method ===== -/
abbrev wtL_cell : List Cond := Cond.code yL_cell cL_cell 2 (some .int) :: TBL
def cellV (L : Nat) (xs : Nat → Int32) (e : Nat) : Int32 := if e < L then xs e else nI 7919 * (nI e + nI 2521) * (nI e + nI 293)
def CtC (l : Launch) (D : va_G) (tys : List (ClassId × FieldType)) (b L : Nat) (xs : Nat → Int32) (y : MethodName) (wy : List Cond) (rm : Room) (As : List Value) (rv : Int32) : Prop :=
  ∀ sz : Nat, Met l y wy rm (va_Pc As (fun U => CtW sz D tys [] U ∧ va_X b L xs U U.heap ∧ b < U.heap.size)) (va_Qi (fun (r : Int32) (_ : Unit) => r = rv) (fun _ t => va_P D vwCl [] t.heap ∧ va_D (va_A [] sz) []) (va_A [] sz)) 0 0 (va_A [] sz)
set_option maxHeartbeats 4000000 in
set_option maxRecDepth 100000 in
theorem c_cell (l : Launch) (D : va_G) (tys : List (ClassId × FieldType)) (b L : Nat) (xs : Nat → Int32) (hL : L ≤ 260) (i : Nat) (hi : i < 1000) : CtC l D tys b L xs yL_cell wtL_cell ({ frames := 0, cells := 0, slots := 0, locals := 0 } : Room) [.ref b, .int (nI i)] (cellV L xs i) := by
  intro sz
  refine Met.ofW (cc := cL_cell) (maxL := 2) (ret := some .int) (by decide) rfl ?_
  intro p e s m args below meth c s₁ B hml hv
  obtain ⟨rfl, ⟨hsz, hP, hK, hD0⟩, hX, hbl⟩ := hv
  subst hsz
  rw [lg_entry_eq]
  have hx := B.exec
  have hb := B.bytes
  have hl : lv_has _ 2 [(0, .ref b), (1, .int (nI i))] := lv_entry [.ref b, .int (nI i)] (n := 2) (Nat.le_of_ble_eq_true rfl)
  generalize (lg_sl ([.ref b, .int (nI i)])) ++ List.replicate (2 - (lg_sl ([.ref b, .int (nI i)])).length) Slot.unset = l9 at hl ⊢
  have hS : HS D (va_A [] s.heap.size) s.heap [] s.heap [] := ⟨hP, hD0.self, va_S.rf⟩
  have hbA : ¬ va_A [] s.heap.size b := by
    rintro (⟨k, e9, h⟩ | h)
    · simp at h
    · omega
  refine lv_iload_n hx hb dL_cell_0 rfl (lv_at hl 1 rfl) ?_
  refine lv_aload_n hx hb dL_cell_1 rfl (lv_at hl 0 rfl) ?_
  refine va_slen hx hb hX hbl hbA hS.2.2 dL_cell_2 ?_
  refine lv_icmp_ge (tgt := 12) hx hb dL_cell_3 (by decide) (fun c1 => ?_) (fun c1 => ?_)
  · have h1 : ¬ i < L := fun z => nI_ge z (by omega) c1
    refine lv_sipush (v := (nI 7919)) hx hb dL_cell_12 (by decide) ?_
    refine lv_iload_n hx hb dL_cell_15 rfl (lv_at hl 1 rfl) ?_
    refine lv_sipush (v := (nI 2521)) hx hb dL_cell_16 (by decide) ?_
    refine lv_iadd hx hb dL_cell_19 ?_
    refine lv_imul hx hb dL_cell_20 ?_
    refine lv_iload_n hx hb dL_cell_21 rfl (lv_at hl 1 rfl) ?_
    refine lv_sipush (v := (nI 293)) hx hb dL_cell_22 (by decide) ?_
    refine lv_iadd hx hb dL_cell_25 ?_
    refine lv_imul hx hb dL_cell_26 ?_
    exact W.iret B.exec B.bytes B.returns (fun t ht hW => ⟨⟨_, (), rfl, by unfold cellV; rw [if_neg h1], by rw [ht]; exact hS.1, hS.2.1⟩, hS.2.2.F ht⟩) hS.2.2.2.2 dL_cell_27
  · have h1 : i < L := by
      rcases Nat.lt_or_ge i L with q | q
      · exact q
      · exact absurd (nI_le q (by omega)) c1
    refine lv_aload_n hx hb dL_cell_6 rfl (lv_at hl 0 rfl) ?_
    refine lv_iload_n hx hb dL_cell_7 rfl (lv_at hl 1 rfl) ?_
    refine va_sld hx hb hX hbl hbA hS.2.2 (vp_in_nI h1 (by omega)) dL_cell_8 ?_
    rw [nI_clamp (by omega)]
    refine lv_goto (tgt := 27) hx hb dL_cell_9 (by decide) ?_
    exact W.iret B.exec B.bytes B.returns (fun t ht hW => ⟨⟨_, (), rfl, by unfold cellV; rw [if_pos h1], by rw [ht]; exact hS.1, hS.2.1⟩, hS.2.2.F ht⟩) hS.2.2.2.2 dL_cell_27
section
variable {p : Program} {l : Launch} {e : Env} {R : Room} {s : State} {m : MethodId} {args : Array Value} {below : List Frame} {meth : Method} {c : Code} {H H0 : Heap} {locs : List Loc} {cells slots : Nat} {Q : State → Prop} {cc : ByteArray} {pc : Nat} {ls : Array Slot} {rest : List Value} {D : va_G} {A : Nat → Prop} {ws2 : va_W} {tys : List (ClassId × FieldType)} {Ts wy : List Cond} {own : String} {nL n maxL index : Nat} {y : MethodName} {rm : Room} {bytes : ByteArray} {ret : Option FieldType} {As st0 : List Value}
theorem kC {rv : Int32} {b L : Nat} {xs : Nat → Int32} (S : CallFix p m c cc nL s args Ts own) (hKN : KN D tys s) (hM : CtC l D tys b L xs y wy rm As rv) (cw : CallB R s args own index y bytes maxL ret wy rm 0 0 n ∧ (Cond.static y).before args s = true) (hX : va_X b L xs s H0) (hbl : b < H0.size) (hbA : ¬ A b) (hS : HS D A H0 ws2 H locs) (hA : ∀ q : Nat, H0.size ≤ q → A q) (hln : As.length = n) (hsz : ls.size = nL) (hst : st0 = As.reverse ++ rest) (hcat : (rest.map fun v => v.category).sum ≤ 8) (hf : cells ≤ R.cells ∧ slots ≤ R.slots) (hdg : decode cc pc = .ok (.invokestatic index, 3))
    (kk : ∀ (H1 : Heap) (locs1 : List Loc), HS D A H0 ws2 H1 locs1 → W p l e R s m args below meth c H1 locs1 cells slots Q (F0 m (pc + 3) ls (.int rv :: rest))) : W p l e R s m args below meth c H locs cells slots Q (F0 m pc ls st0) := by
  have hw : (List.range' 0 ws2.length).map (fun i => ws2[i]?) = ws2.map some := by
    have := w_all ws2 []
    rw [List.append_nil] at this
    exact this
  have pre : ∀ U : State, U.heap = H → s.WarmedH U.vm → va_Pc As (fun U => CtW H.size D tys [] U ∧ va_X b L xs U U.heap ∧ b < U.heap.size) As.toArray U := by
    intro U hU hW
    refine ⟨rfl, (CtW.pre (As := As) (wc := []) hKN hS [] rfl rfl U hU hW).2, ?_, ?_⟩
    · rw [hU]
      exact va_X.moved hW.alike (va_X.kept hX (hS.2.2.2.1 b hbl hbA))
    · rw [hU]
      exact Nat.lt_of_lt_of_le hbl hS.2.2.1
  have blind : FrameBlind (va_Pc As (fun U => CtW H.size D tys [] U ∧ va_X b L xs U U.heap ∧ b < U.heap.size)) := fun a U g mk q => by
    obtain ⟨q0, ⟨q1, qP, qK, qD⟩, qX, qb⟩ := q
    exact ⟨q0, ⟨q1, qP, ⟨va_K.moved (u := U) (U := U.calling g mk a) (Vm.Alike.refl U.vm) qK.1, NW.same (u := U) (U := U.calling g mk a) rfl qK.2⟩, qD⟩, va_X.moved (u := U) (U := U.calling g mk a) (Vm.Alike.refl U.vm) qX, qb⟩
  refine va_calli (va_runS (As := As) (rest := rest) S (hM H.size) cw ⟨blind, pre⟩ rfl hln hsz hst (lv_room hcat) hdg hf) hS.2.2 (fun q _ h => va_free hS.2.1 hS.2.2 hA [] (wc := []) rfl q h) (va_free hS.2.1 hS.2.2 hA [] (wc := []) rfl) (fun r u t H1 locs1 ht hvm hw9 hB hz1 hk1 hS1 => ?_)
  subst hw9
  exact kk H1 locs1 ((hs_join hS [] (List.range' 0 ws2.length) rfl hw (nd_range' _ _) (fun _ _ h => absurd h List.not_mem_nil) hA hk1 ht hB hS1).cast (List.append_nil _))
end
