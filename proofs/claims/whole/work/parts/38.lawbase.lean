/-! the law: its context, its reads of the script -/
abbrev b_LW_law : ByteArray := code
def CL (p : Program) (l : Launch) (s : State) (m : MethodId) (meth : Method) (c : Code) (D : va_G) (tys : List (ClassId × FieldType)) (b L : Nat) (xs : Nat → Int32) : Prop :=
  p.tables.exec = Jvm.exec ∧ c.code = b_LW_law ∧ c.maxLocals = 8 ∧ meth.sig.returnType = ret ∧ meth.locks = false ∧ (∀ w ∈ TB, w.before #[Value.ref b] s = true) ∧ s.vm.findClass R_LW = some m.cls ∧ KK D tys s ∧ XX s ∧ l.stackTraces = false ∧ va_X b L xs s s.heap ∧ b < s.heap.size
def cellX (L : Nat) (xs : Nat → Int32) (k : Int32) : Int32 := if Int32.ofNat L ≤ k then 0 else xs k.toNatClampNeg
abbrev rm_LW_cell : Room := { frames := 0, cells := 0, slots := 0, locals := 0 }
def PcC (b L : Nat) (xs : Nat → Int32) (k : Int32) : Array Value → State → Prop := va_Pc [.ref b, .int k] (fun U => va_X b L xs U U.heap)
def QcC (r : Int32) : Array Value → State → Outcome → State → Prop := fun _ st oc t => oc = .returned (some (.int r)) ∧ t.heap = st.heap
theorem cell_in {L : Nat} {k : Int32} (hL : L < 2 ^ 31) (h0 : ¬ k < 0) (h : ¬ Int32.ofNat L ≤ k) : vp_in k L := by
  obtain ⟨j, hj, rfl⟩ := nI_of h0
  rcases Nat.lt_or_ge j L with q | q
  · exact vp_in_nI q hL
  · exact absurd (show nI L ≤ nI j from nI_le q hj) h
set_option maxHeartbeats 4000000 in
theorem c_LW_cell (l : Launch) (b L : Nat) (xs : Nat → Int32) (k : Int32) (hL : L < 2 ^ 31) (h0 : ¬ k < 0) : Met l y_LW_cell (.code y_LW_cell b_LW_cell 2 (some .int) :: TB) rm_LW_cell (PcC b L xs k) (QcC (cellX L xs k)) 0 0 (fun _ => False) := by
  refine Met.ofW (cc := b_LW_cell) (maxL := 2) (ret := some .int) (by decide +kernel) rfl ?_
  intro p e s m args below meth c s₁ B hml hv
  obtain ⟨rfl, hX⟩ := hv
  have hx := B.exec
  have hb := B.bytes
  have hr := B.returns
  have hlocks := B.notSynchronized
  have hbl : b < s.heap.size := by obtain ⟨scr, h1, -⟩ := hX; exact (Array.getElem?_eq_some_iff.mp h1).1
  have hS : va_S (fun _ => False) s.heap s.heap [] := va_S.rf
  have hl := lv_entry ([.ref b, .int k]) (n := 2) (Nat.le_of_ble_eq_true rfl)
  rw [lg_entry_eq]
  generalize (lg_sl ([.ref b, .int k]) ++ List.replicate (2 - (lg_sl ([.ref b, .int k])).length) Slot.unset).toArray = ls at hl ⊢
  have hl : lv_has ls 2 [(0, .ref b), (1, .int k)] := hl
  refine lv_iload_n hx hb d_LW_cell_0 rfl (lv_at hl 1 rfl) ?_
  refine lv_aload_n hx hb d_LW_cell_1 rfl (lv_at hl 0 rfl) ?_
  refine va_slen (A := fun _ => False) hx hb hX hbl (fun h => h) hS d_LW_cell_2 ?_
  refine lv_icmp_ge (tgt := 12) hx hb d_LW_cell_3 (by decide) (fun cc3 => ?_) (fun cc3 => ?_)
  · refine lv_iconst (v := 0) hx hb d_LW_cell_12 (by decide) ?_
    exact W.iret (v := 0) hx hb hr (fun t ht hW => ⟨by unfold cellX; rw [if_pos cc3], ht⟩) hS.2.2 d_LW_cell_13
  · refine lv_aload_n hx hb d_LW_cell_6 rfl (lv_at hl 0 rfl) ?_
    refine lv_iload_n hx hb d_LW_cell_7 rfl (lv_at hl 1 rfl) ?_
    refine va_sld (A := fun _ => False) hx hb hX hbl (fun h => h) hS (cell_in hL h0 cc3) d_LW_cell_8 ?_
    refine lv_goto (tgt := 13) hx hb d_LW_cell_9 (by decide) ?_
    exact W.iret (v := xs k.toNatClampNeg) hx hb hr (fun t ht hW => ⟨by unfold cellX; rw [if_neg cc3], ht⟩) hS.2.2 d_LW_cell_13
section LAWC
variable {p : Program} {l : Launch} {e : Env} {s : State} {m : MethodId} {args : Array Value} {below : List Frame} {meth : Method} {c : Code} {H : Heap} {locs : List Loc} {cells slots : Nat} {Q : State → Prop} {A : Nat → Prop} {pc : Nat} {ls : Array Slot} {rest : List Value} {b L : Nat} {xs : Nat → Int32} {cc : ByteArray} {nL : Nat} {R : Room}
set_option maxHeartbeats 4000000 in
theorem mcCell (hx : p.tables.exec = Jvm.exec) (hb : c.code = cc) (hml : c.maxLocals = nL) (hown : s.vm.findClass R_LW = some m.cls) (hts : ∀ w ∈ TB, w.before args s = true) (hXs : va_X b L xs s s.heap) (hbl : b < s.heap.size) (hbA : ¬ A b) (hS : va_S A s.heap H locs) (hL : L < 2 ^ 31) {k : Int32} (h0 : ¬ k < 0) {index : Nat}
    (h1 : Cond.methodLink R_LW index y_LW_cell ∈ TB) (h2 : Cond.static y_LW_cell ∈ TB) (h3 : Cond.initialized y_LW_cell.cls ∈ TB) (h5 : Cond.code y_LW_cell b_LW_cell 2 (some .int) ∈ TB) (hR : 1 ≤ R.frames ∧ 21 ≤ R.locals)
    (hsize : ls.size = nL) (hW : 2 * (F0 m pc ls (.int k :: .ref b :: rest)).monitorRoom + (rest.map fun v => v.category).sum ≤ 8) (hdg : decode cc pc = .ok (.invokestatic index, 3)) (hf : cells + 0 ≤ R.cells ∧ slots + 0 ≤ R.slots)
    (kk : W p l e R s m args below meth c H locs cells slots Q (F0 m (pc + 3) ls (.int (cellX L xs k) :: rest))) : W p l e R s m args below meth c H locs cells slots Q (F0 m pc ls (.int k :: .ref b :: rest)) := by
  have hXH : va_X b L xs s H := hXs.kept (hS.2.1 b hbl hbA)
  have hrun : va_Run p l e R s m args below meth c H locs cells slots 0 0 (F0 m pc ls (.int k :: .ref b :: rest)) rest (QcC (cellX L xs k) ([Value.ref b, Value.int k] : List Value).toArray) (fun _ => False) := by
    refine va_runS (As := [.ref b, .int k]) (rest := rest) (Ts := TB) ⟨hx, hb, hml, hown, hts⟩ (c_LW_cell l b L xs k hL h0) (va_cwS 2 hts ?_ rfl rfl rfl (by decide +kernel) ⟨hR.1, hR.2⟩) ⟨?_, fun U hU hW2 => ⟨rfl, show va_X b L xs U U.heap by rw [hU]; exact va_X.moved hW2.alike hXH⟩⟩ rfl rfl hsize rfl hW hdg hf
    · unfold va_wsS
      exact tb_cons h1 (tb_cons h2 (tb_cons h3 (tb_cons h5 tb_good)))
    · intro a U g mk q
      obtain ⟨q0, q1⟩ := q
      exact ⟨q0, va_X.moved (u := U) (U := U.calling g mk a) (Vm.Alike.refl U.vm) q1⟩
  intro T hT X
  obtain ⟨v, st₀, t, T', L1, hh0, X', hL1, e1, e2, ⟨hv, hth⟩, st⟩ := hrun T hT X
  cases hv
  have hnil : L1 = [] := by
    cases L1 with
    | nil => rfl
    | cons x r => exact (hL1 x List.mem_cons_self).elim
  subst hnil
  rw [List.append_nil] at X'
  obtain ⟨t2, a1, b1⟩ := kk T' (by rw [e1, hth, hh0]) X'
  exact ⟨t2, st t2 a1, b1⟩
end LAWC
