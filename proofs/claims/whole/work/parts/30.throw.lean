/-! methods that throw: their contracts, the throw itself, the catch in the caller -/
def nestOk2 : Cond → Bool
  | .declares _ => true
  | .castable .. => true
  | .stringRef .. => true
  | _ => false
theorem str_warm {own tx : String} {k : Nat} {s U : State} (hW : s.WarmedH U.vm) (h : va_Nw (.stringRef own k tx) s) : va_Nw (.stringRef own k tx) U := Cond.stringRef_warmed (args := #[]) hW h
theorem str_same {own tx : String} {k : Nat} {s U : State} (hv : s.vm = U.vm) (h : va_Nw (.stringRef own k tx) s) : va_Nw (.stringRef own k tx) U := by
  have h1 : (Cond.stringRef own k tx).before #[] s = true := h
  show (Cond.stringRef own k tx).before #[] U = true
  simp only [Cond.before, Cond.holds, Cond.value, State.names, State.poolOf?, State.resolvedAt?, hv] at h1 ⊢
  exact h1
def NC : List Cond := lw_tbl.filter nestOk2
theorem nc_of {w : Cond} (h : w ∈ lw_tbl) (hg : nestOk2 w = true) : w ∈ NC := List.mem_filter.mpr ⟨h, hg⟩
/-- a static of Throwable: where it lies, and that it holds null or a reference -/
def SZ (n d : String) (U : State) (H : Heap) : Prop := ∃ (c : ClassId) (k : Class) (i : Nat) (f : Field) (a : Nat) (cell : Cell) (v : Value), U.vm.findClass Bundle.tN = some c ∧ U.fieldFound? Bundle.tN n d = some (c, k, i, f) ∧ f.isStatic = true ∧ k.statics = some a ∧ H[a]? = some cell ∧ cell.vm.isStatics = true ∧ cell.cls = c ∧ f.slot < cell.slots.size ∧ k.staticTypes[f.slot]? = some f.type ∧ cell.slots[f.slot]? = some v ∧ v.isRef = true
theorem SZ.moved {n d : String} {u U : State} {H : Heap} (hvm : u.vm.Alike U.vm) (h : SZ n d u H) : SZ n d U H := by
  obtain ⟨c, k, i, f, a, cell, v, h1, h2, h3, h4, h5, h6, h7, h8, h9, h10, h11⟩ := h
  obtain ⟨k', hi', he⟩ := State.fieldFound?_setVm hvm h2
  exact ⟨c, k', i, f, a, cell, v, by rw [hvm.findClass]; exact h1, hi', h3, by rw [he]; exact h4, h5, h6, h7, h8, by rw [he]; exact h9, h10, h11⟩
theorem SZ.kept {n d : String} {U : State} {H H1 : Heap} (h : SZ n d U H) (hq : ∀ (a : Nat) (cell : Cell), H[a]? = some cell → cell.vm.isStatics = true → H1[a]? = some cell) : SZ n d U H1 := by
  obtain ⟨c, k, i, f, a, cell, v, h1, h2, h3, h4, h5, h6, h7⟩ := h
  exact ⟨c, k, i, f, a, cell, v, h1, h2, h3, h4, hq a cell h5 h6, h6, h7⟩
theorem SZ.of {n d : String} {args : Array Value} {s : State} (hl : (Cond.laysStatic Bundle.tN n d).before args s = true) (hi : (Cond.isRef (.static Bundle.tN n d)).before args s = true) : SZ n d s s.heap := by
  obtain ⟨c, k, i, f, a, cell, hc, hf, hst, ha, hcell, hs, hcls, hlt, hty⟩ := Cond.laysStatic_spec hl
  cases hv : (Term.static Bundle.tN n d).eval args s none [] s with
  | none => simp [Cond.before, Cond.holds, Cond.value, hv] at hi
  | some w =>
    obtain ⟨hst', a', cell', ha', hcell', -, hslot⟩ := Term.static_spec hf hv
    cases ha.symm.trans ha'
    cases hcell.symm.trans hcell'
    refine ⟨c, k, i, f, a, cell, w, hc, hf, hst, ha, hcell, hs, hcls, hlt, hty, hslot, ?_⟩
    simp only [Cond.before, Cond.holds, Cond.value, hv] at hi
    cases w <;> simp_all [Value.isRef]
theorem SZ.lays {n d : String} {args : Array Value} {s : State} (h : SZ n d s s.heap) : (Cond.laysStatic Bundle.tN n d).before args s = true := by
  obtain ⟨c, k, i, f, a, cell, v, h1, h2, h3, h4, h5, h6, h7, h8, h9, -⟩ := h
  exact Cond.laysStatic_of (args := args) (first := s) (o := none) (idx := []) h1 h2 h3 h4 h5 h6 h7 h8 h9
theorem SZ.ref {n d : String} {args : Array Value} {s : State} (h : SZ n d s s.heap) : (Cond.isRef (.static Bundle.tN n d)).before args s = true := by
  obtain ⟨c, k, i, f, a, cell, v, h1, h2, h3, h4, h5, h6, h7, h8, h9, h10, h11⟩ := h
  have he : (Term.static Bundle.tN n d).eval args s none [] s = some v := by
    simp [Term.eval, State.fieldNamed?, h2, h3, h4, h5, h6, h10]
  simp only [Cond.before, Cond.holds, Cond.value, he]
  cases v <;> simp_all [Value.isRef]
/-- what a throw asks beside the good words -/
def exn : Nat → String
  | 0 => "java/lang/IndexOutOfBoundsException"
  | 1 => "java/lang/IllegalStateException"
  | _ => "java/lang/IllegalArgumentException"
def ncp : List (String × String) := [(exn 0, exn 1), (exn 0, exn 2), (exn 1, exn 0), (exn 1, exn 2), (exn 2, exn 0), (exn 2, exn 1)]
def XX (U : State) : Prop := (∀ w ∈ NC, va_Nw w U) ∧ SZ "UNASSIGNED_STACK" Bundle.steD U U.heap ∧ SZ "SUPPRESSED_SENTINEL" Bundle.listD U U.heap ∧ ∀ q ∈ ncp, va_Nc q.1 q.2 U
theorem XX.at {s U : State} (h : XX s) (hW : s.WarmedH U.vm) (hq : ∀ (a : Nat) (cell : Cell), s.heap[a]? = some cell → cell.vm.isStatics = true → U.heap[a]? = some cell) : XX U := by
  refine ⟨fun w hw => ?_, (SZ.moved hW.alike h.2.1).kept hq, (SZ.moved hW.alike h.2.2.1).kept hq, fun q hq => va_Nc.moved hW.alike (h.2.2.2 q hq)⟩
  have h1 := h.1 w hw
  have h2 := (List.mem_filter.mp hw).2
  cases w <;> first | exact va_Nw.warmD hW h1 | exact va_Nw.warmC hW h1 | exact str_warm hW h1 | (exact absurd h2 (by simp [nestOk2]))
theorem XX.same {s U : State} (h : XX s) (hvm : s.vm = U.vm) (hh : s.heap = U.heap) : XX U := by
  refine ⟨fun w hw => ?_, ?_, ?_, fun q hq => va_Nc.moved (by rw [hvm]; exact Vm.Alike.refl U.vm) (h.2.2.2 q hq)⟩
  · have h2 := (List.mem_filter.mp hw).2
    have h1 := h.1 w hw
    cases w <;> first | exact str_same hvm h1 | exact va_Nw.same rfl hvm h1 | (exact absurd h2 (by simp [nestOk2]))
  · rw [← hh]; exact SZ.moved (by rw [hvm]; exact Vm.Alike.refl U.vm) h.2.1
  · rw [← hh]; exact SZ.moved (by rw [hvm]; exact Vm.Alike.refl U.vm) h.2.2.1
/-- the cells of a world are no statics: these stay over whatever the world's owner does -/
theorem stat_kept {D : va_G} {w0 : va_W} {H0 H : Heap} {locs : List Loc} (hP : va_P D classes w0 H0) (hS : va_S (va_A w0 H0.size) H0 H locs) : ∀ (a : Nat) (cell : Cell), H0[a]? = some cell → cell.vm.isStatics = true → H[a]? = some cell := by
  intro a cell hc hst
  have hlt : a < H0.size := (Array.getElem?_eq_some_iff.mp hc).1
  rw [hS.2.1 a hlt ?_]
  · exact hc
  · rintro (⟨k, e, hk⟩ | h)
    · have h1 := hP k _ hk
      cases e with
      | inl x =>
        have h2 : H0[a]? = some (vp_cell x.1 x.2) := h1
        rw [hc] at h2
        cases h2
        obtain ⟨cA, n, f | f | f | f | f⟩ := x <;> exact absurd hst (by simp [vp_cell, arrV, VmData.isStatics])
      | inr o =>
        obtain ⟨r, -, cl, g1, g2, g3, -⟩ := h1
        have g1' : H0[a]? = some cl := g1
        rw [hc] at g1'
        cases g1'
        rw [g3] at hst
        exact absurd hst (by simp [VmData.isStatics])
    · omega
def isSp (w : Cond) : Bool := decide (w = .isRef (.static Bundle.tN "UNASSIGNED_STACK" Bundle.steD)) || decide (w = .isRef (.static Bundle.tN "SUPPRESSED_SENTINEL" Bundle.listD)) || decide (w = .laysStatic Bundle.tN "UNASSIGNED_STACK" Bundle.steD) || decide (w = .laysStatic Bundle.tN "SUPPRESSED_SENTINEL" Bundle.listD)
theorem own_ok {L : List Cond} {args : Array Value} {s : State} (hts : ∀ w ∈ TB, w.before args s = true) (hX : XX s) (hall : ∀ w ∈ L, w ∈ TB ∨ w ∈ NC ∨ isSp w = true) : ∀ w ∈ L, w.before args s = true := by
  intro w hw
  rcases hall w hw with h | h | h
  · exact hts w h
  · have h2 := (List.mem_filter.mp h).2
    have h1 := hX.1 w h
    cases w <;> first | exact va_Nw.use rfl h1 | exact h1 | (exact absurd h2 (by simp [nestOk2]))
  · simp only [isSp, Bool.or_eq_true, decide_eq_true_eq] at h
    rcases h with ((rfl | rfl) | rfl) | rfl
    · exact SZ.ref hX.2.1
    · exact SZ.ref hX.2.2.1
    · exact SZ.lays hX.2.1
    · exact SZ.lays hX.2.2.1
-- the contract of a call that throws
def PcT (D : va_G) (tys : List (ClassId × FieldType)) (av : List Value) (ws : va_W) (sz : Nat) : Array Value → State → Prop := va_Pc av (fun U => U.heap.size = sz ∧ va_P D classes ws U.heap ∧ KK D tys U ∧ va_D (fun _ => True) ws ∧ XX U)
def QT (D : va_G) (cls : String) (ws' : va_W) (A : Nat → Prop) : Array Value → State → Outcome → State → Prop := fun _ st oc t => ∃ (x : Nat) (ce : Cell), oc = .threw x ∧ t.heap[x]? = some ce ∧ ce.vm = .none ∧ st.vm.findClass cls = some ce.cls ∧ va_P D classes ws' t.heap ∧ va_D A ws' ∧ va_F A st t
def endT (first : State) (t : State) (L : List Loc) (k n : Nat) : Prop := first.WarmedH t.vm ∧ first.sameButNew ({ t with vm := first.vm } : State) L k n
def MetT (l : Launch) (y : MethodName) (ws : List Cond) (rm : Room) (Pc : Array Value → State → Prop) (Qc : Array Value → State → Outcome → State → Prop) (mc ms : Nat) (free : Addr → Prop) : Prop :=
  MetFree l y (headSpec ws rm) Pc (fun _ _ _ _ _ => True) (fun a st o t => Qc a st o t ∧ ∃ L, endT st t L mc ms ∧ ∀ q ∈ L, free q.base)
def MT (below : List Frame) (Qc : Array Value → State → Outcome → State → Prop) (a : Array Value) (s : State) (mc ms : Nat) (free : Addr → Prop) : State → Prop := fun t =>
  ∃ o, t.status = .running ∧ Ended t below o ∧ Qc a s o t ∧ ∃ L, endT s t L mc ms ∧ ∀ q ∈ L, free q.base
set_option maxHeartbeats 4000000 in
theorem entT {l : Launch} {y : MethodName} {rm : Room} {D : va_G} {tys : List (ClassId × FieldType)} {av : List Value} {w0 ws' : va_W} {cls : String} {sz mc ms maxL : Nat} {cc : ByteArray} {ret : Option FieldType} (hy : plainName y.cls = true ∧ Nat.ble (lg_sl av).length maxL = true)
    (body : ∀ (p : Program) (e : Env) (s : State) (m : MethodId) (below : List Frame) (meth : Method) (c : Code), CX p s m av.toArray meth c D tys y.cls cc maxL ret y.name → XX s → c.exceptionTable.toList = [] → va_P D classes w0 s.heap → va_D (va_A w0 s.heap.size) w0 → s.heap.size = sz → ∀ ls : Array Slot, lv_has ls maxL (lv_args 0 av) →
      W p l e rm s m av.toArray below meth c s.heap [] 0 0 (MT below (QT D cls ws' (va_A w0 sz)) av.toArray s mc ms (va_A w0 sz)) (F0 m 0 ls [])) :
    MetT l y (.code y cc maxL ret :: TB) rm (PcT D tys av w0 sz) (QT D cls ws' (va_A w0 sz)) mc ms (va_A w0 sz) := by
  refine MetFree.of_bodyS (code := cc) (maxLocals := maxL) (ret := ret) hy.1 ?_ ?_
  · intro args s m h hn
    obtain ⟨meth, c, h1, h2, h3, h4, h5, h6, -, -⟩ := Cond.code_spec hn (atoms_spec (ws := .code y cc maxL ret :: TB) h _ List.mem_cons_self)
    exact ⟨meth, c, h1, h2, h3, h4, h5, h6⟩
  · intro p e s m args below meth c s₁ B hml hv _
    obtain ⟨rfl, hsz, hP, hK, hD0, hX⟩ := hv
    have hts := atoms_spec (ws := .code y cc maxL ret :: TB) B.pre
    have hl := lv_entry av (n := maxL) (Nat.le_of_ble_eq_true hy.2)
    have hnh : c.exceptionTable.toList = [] := by
      have h := BodyLoose.noHandlers B (hts _ List.mem_cons_self)
      simpa using h
    have hg := body p e s m below meth c ⟨B.exec, B.bytes, hml, B.returns, B.notSynchronized, fun w hw => hts w (List.mem_cons_of_mem _ hw), findClass_of_methodNamed B.named, hK, (name_of_methodNamed B.named B.method).1⟩ hX hnh hP (hD0.self (sz := s.heap.size)) hsz _ hl
    rw [← lg_entry_eq] at hg
    have hh0 : s₁.heap = s.heap := by rw [B.state]; rfl
    obtain ⟨t, a1, o, b1, b2, b3⟩ := hg s₁ hh0 (Stand.of_body B)
    exact ⟨t, o, a1, b1, b2, b3⟩
section THR
variable {p : Program} {l : Launch} {e : Env} {R : Room} {s : State} {m : MethodId} {args : Array Value} {below : List Frame} {meth : Method} {c : Code} {H : Heap} {locs : List Loc} {cells slots : Nat} {Q : State → Prop} {D : va_G} {A : Nat → Prop} {tys : List (ClassId × FieldType)} {pc : Nat} {ls : Array Slot} {rest : List Value} {ws : va_W} {cc : ByteArray} {T : State}
/-- a frame that stands at T, as if its method were invoked at T's heap: nothing written yet -/
theorem again (X : Stand p l e R s m args below meth c T locs cells slots) {R' : Room} (q1 : R'.frames ≤ R.frames) (q2 : R'.locals ≤ R.locals) (q3 : cells + R'.cells ≤ R.cells) (q4 : slots + R'.slots ≤ R.slots) :
    Stand p l e R' ((T.setVm s.vm).setFrames (.invoking m args :: below)) m args below meth c T [] 0 0 := by
  obtain ⟨g₀, hfr⟩ := X.frames_eq
  have hcur : (T.setVm s.vm).cur < (T.setVm s.vm).threads.size := State.cur_lt_of_frames hfr
  have hF : ((T.setVm s.vm).setFrames (.invoking m args :: below)).frames = .invoking m args :: below := State.frames_setFrames _ hcur
  have hlim : e.platform.stackLimits (T.setVm s.vm).me = e.platform.stackLimits s.me := X.limits
  have hby : (T.setVm s.vm).me.stackBytes = s.me.stackBytes := X.bytes
  have hroom : ((T.setVm s.vm).setFrames (.invoking m args :: below)).hasRoom e.platform R' = true := by
    have hU : ((T.setVm s.vm).setFrames (.invoking m args :: below)).localsInUse = s.localsInUse := by
      rw [State.localsInUse_invoking hF (meth := meth) (c := c) X.method X.code, State.localsInUse_invoking X.frames X.method X.code]
    have h := X.room
    have k1 := X.heapSize
    have k2 := X.used
    have k3 := X.book
    simp only [State.hasRoom, Bool.and_eq_true, decide_eq_true_eq] at h ⊢
    obtain ⟨⟨⟨⟨r1, r2, r3, r4, r5, r6⟩, r7⟩, r8⟩, r9⟩ := h
    rw [X.frames, List.length_cons] at r2 r3
    simp only [hF, hU, List.length_cons, State.stackLimits_setFrames, State.stackBytes_setFrames, hlim, hby]
    exact ⟨⟨⟨⟨by omega, by omega, by omega, by omega, by omega, r6⟩, show T.heap.size + R'.cells ≤ e.platform.maxCells by omega⟩, show T.slotsUsed + R'.slots ≤ e.platform.maxSlots by omega⟩, k3⟩
  refine ⟨X.admits, X.cas, X.clock, hF, hroom, X.hears, X.method, X.code, X.here, X.tail, X.warmed, by rw [State.stackLimits_setFrames]; rfl, by rw [State.stackBytes_setFrames]; rfl, ?_⟩
  have hnil : (T.heap.toList.drop T.heap.size) = [] := List.drop_eq_nil_of_le (by simp)
  refine ⟨?_, Nat.le_refl _, Nat.le_refl _, ?_, ?_, fun a c9 h9 => ⟨c9, h9, rfl, rfl, fun _ _ => rfl⟩⟩
  · obtain ⟨t, ht, -⟩ := State.frames_cons hfr
    show T.setVm s.vm = { ((T.setVm s.vm).setFrames (.invoking m args :: below)).setFrames (T.setVm s.vm).frames with heap := T.heap, slotsUsed := T.slotsUsed }
    rw [State.setFrames_setFrames, State.setFrames_self (s := T.setVm s.vm) ht]
    rfl
  · show T.slotsUsed = T.slotsUsed + ((T.heap.toList.drop T.heap.size).map (·.slots.size)).sum
    rw [hnil]; rfl
  · show ((T.heap.toList.drop T.heap.size).map (·.slots.size)).sum ≤ 0
    rw [hnil]; exact Nat.le_refl _
/-- nothing written, cells only added: the old heap stands -/
theorem old_heap {u U : State} {k n : Nat} (h : u.sameButNew ({ U with vm := u.vm } : State) [] k n) : u.heap.size ≤ U.heap.size ∧ ∀ q : Nat, q < u.heap.size → U.heap[q]? = u.heap[q]? := by
  obtain ⟨-, h2, -, -, -, h6⟩ := h
  refine ⟨h2, fun q hq => ?_⟩
  obtain ⟨c9, e1, e2, -, e4⟩ := h6 q (u.heap[q]) (Array.getElem?_eq_getElem hq)
  have hs : c9.slots = (u.heap[q]).slots := Array.ext_getElem? fun i => e4 i (by simp)
  rw [hs] at e2
  have e5 : c9 = u.heap[q] := e2
  rw [Array.getElem?_eq_getElem hq, ← e5]
  exact e1
set_option maxHeartbeats 4000000 in
/-- throw new E("text") -/
theorem thrW (hx : p.tables.exec = Jvm.exec) (hb : c.code = cc) (hml : c.maxLocals = ls.size) (hlt : l.stackTraces = false) {own cls text : String} {names : List String} {ik is ic mc ms : Nat} (hown : s.vm.findClass own = some m.cls) (hlocks : meth.locks = false) (hts : ∀ w ∈ TB, w.before args s = true) (hX : XX s) (hnh : c.exceptionTable.toList = [])
    (hfit : Bundle.fit cls = true ∧ ∀ n ∈ names, Bundle.fit n = true) (hk : Cond.classLink own ik cls ∈ TB) (hini : Cond.initialized cls ∈ TB) (hstr : Cond.stringRef own is text ∈ NC) (hall : ∀ w ∈ Bundle.ownAtoms own ic cls names, w ∈ TB ∨ w ∈ NC ∨ isSp w = true)
    {w0 : va_W} (hP0 : va_P D classes w0 s.heap) (hAe : va_A w0 s.heap.size = A) (hP : va_P D classes ws H) (hD : va_D A ws) (hS : va_S A s.heap H locs)
    (d0 : decode cc pc = .ok (.new ik, 3)) (d3 : decode cc (pc + 3) = .ok (.dup, 1)) (d4 : decode cc (pc + 4) = .ok (.ldc is, 2)) (d6 : decode cc (pc + 6) = .ok (.invokespecial ic, 3)) (d9 : decode cc (pc + 9) = .ok (.athrow, 1))
    (hR : names.length + 3 < R.frames ∧ (rest.map fun v => v.category).sum + (13 * (names.length + 1) + 43) ≤ R.locals ∧ cells + 1 ≤ R.cells ∧ slots + 6 ≤ R.slots ∧ cells + 1 ≤ mc ∧ slots + 6 ≤ ms) :
    W p l e R s m args below meth c H locs cells slots (MT below (QT D cls ws A) args s mc ms A) (F0 m pc ls rest) := by
  obtain ⟨hR1, hR2, hR3, hR4, hR5, hR6⟩ := hR
  intro T hT X
  have htr : e.platform.stackTraces = false := (show e.platform.stackTraces = l.stackTraces by rw [X.admits.platform]).trans hlt
  have hkept : ∀ (a : Nat) (cell : Cell), s.heap[a]? = some cell → cell.vm.isStatics = true → H[a]? = some cell := stat_kept hP0 (by rw [hAe]; exact hS)
  obtain ⟨a0, cf0, i0, sa, hka, hcfa, hcpa, -, hra, hsa⟩ := Cond.stringRef_spec (args := args) (first := s) (o := none) (idx := []) hown (hX.1 _ hstr)
  have Y := again X (R' := { frames := R.frames, locals := R.locals, cells := 1, slots := 6 }) (Nat.le_refl _) (Nat.le_refl _) hR3 hR4
  obtain ⟨u, hu⟩ : ∃ z, z = (T.setVm s.vm).setFrames (.invoking m args :: below) := ⟨_, rfl⟩
  rw [← hu] at Y
  have huv : u.vm = s.vm := by rw [hu]; rfl
  have huh : u.heap = H := by rw [hu]; exact hT
  have hW0 : s.WarmedH u.vm := by rw [huv]; exact State.WarmedH.refl s
  have hXu : XX u := hX.at hW0 (by rw [huh]; exact hkept)
  have htu : ∀ w ∈ TB, w.before args u = true := fun w hw => word_at hW0 (tb_good w hw).2 (hts w hw)
  have hownu : u.vm.findClass own = some m.cls := by rw [huv]; exact hown
  have hat := own_ok htu hXu hall
  have hins : (Cond.instantiable cls 6).before args u = true := hat _ (by simp [Bundle.ownAtoms])
  obtain ⟨vm₁, cX, kX, hfX, hkX, -, -, X₁, st1⟩ := Y.newCold hx (own := own) (C := cls) (index := ik) (n := 6) hownu (htu _ hk) hins (htu _ hini) (g := F0 m pc ls rest) rfl (by rw [hb]; exact d0) (Nat.le_refl _) (Nat.le_refl _)
  generalize hT1 : (T.setVm vm₁).pushCell { cls := cX, slots := kX.instanceTypes.map defaultValue, vm := .none } = T1 at X₁ st1
  have hcell : T1.heap[T.heap.size]? = some (freshCell cX kX) := by rw [← hT1]; exact State.heap_pushCell_size _ _
  have hcat : (Value.ref T.heap.size).category = 1 := rfl
  obtain ⟨U, hsteps, hrun, hend, hWU, hsame, ce, hce, hO⟩ := X₁.ctorThrowS hx htr (own := own) (cls := cls) (names := names) (ic := ic) hownu hfit.1 hfit.2 hat (fun x hx => nomatch hx) hfX hkX hcell (by rw [huh, hT]; exact Nat.le_refl _) (msg := .ref sa) rfl
    (g := { method := m, pc := pc + 6, locals := ls, stack := .ref sa :: .ref T.heap.size :: .ref T.heap.size :: rest, locked := none }) rfl hml.symm rfl rfl (rest := rest) rfl (by rw [hb]; exact d6) (by rw [hb]; exact d9) (by rw [hnh]; exact fun x hx => nomatch hx) hR1
    (by simp only [List.map_cons, List.sum_cons, hcat]; have : 2 * ({ method := m, pc := pc + 6, locals := ls, stack := .ref sa :: .ref T.heap.size :: .ref T.heap.size :: rest, locked := none } : JFrame).monitorRoom = 0 := rfl; omega) hlocks
  obtain ⟨f1, f2⟩ := old_heap hsame
  rw [huh] at f1 f2
  have hWs : s.WarmedH U.vm := State.WarmedH.trans hW0 hWU
  have hall2 : s.sameButNew ({ U with vm := s.vm } : State) locs mc ms := by
    subst hu
    obtain ⟨e1, e2⟩ := hsame
    rw [State.setFrames_setFrames] at e1
    have h2 : (T.setVm s.vm).sameButNew ({ U with vm := s.vm } : State) [] (0 + 1) (0 + 6) := ⟨e1, e2⟩
    have h3 := X.same.trans h2
    rw [List.append_nil] at h3
    exact h3.mono hR5 hR6
  have hPU : va_P D classes ws U.heap := hP.kept (fun k q hq => f2 q.1 ((hP k q hq).lt))
  refine ⟨U, ?_, .threw T.heap.size, hrun, hend, ⟨T.heap.size, ce, rfl, hce, hO.vm, by rw [← huv]; exact hO.cls, hPU, hD, Nat.le_trans hS.1 f1, fun q h1 h2 => ?_⟩, locs, ⟨hWs, hall2⟩, hS.2.2⟩
  · refine st1 _ ?_
    show Steps p.tables e below (T1.setTop { method := m, pc := pc + 3, locals := ls, stack := .ref T.heap.size :: rest, locked := none }) _
    have d3' : decode c.code (pc + 3) = .ok (.dup, 1) := by rw [hb]; exact d3
    jvm_step X₁.here [X₁.here.top, hx, d3', Value.category]
    have hs1 : (Cond.stringRef own is text).before args u = true := hXu.1 _ hstr
    have hs2 : (Term.string own is).eval args u none [] u = some (.ref sa) := by rw [Term.string_eval_of_vm (args := args) huv]; exact hsa
    exact X₁.ldcString hx (own := own) (text := text) (index := is) (a := sa) hownu hs1 hs2 (g := { method := m, pc := pc + 4, locals := ls, stack := .ref T.heap.size :: .ref T.heap.size :: rest, locked := none }) rfl (by rw [hb]; exact d4) _ hsteps
  · rw [f2 q (Nat.lt_of_lt_of_le h1 hS.1)]
    exact hS.2.1 q h1 h2
end THR
/-- what a body that throws has at hand beside its context -/
def TX (l : Launch) (s : State) (c : Code) (D : va_G) (w0 : va_W) (A : Nat → Prop) : Prop := l.stackTraces = false ∧ XX s ∧ c.exceptionTable.toList = [] ∧ va_P D classes w0 s.heap ∧ va_A w0 s.heap.size = A
abbrev exup : List String := ["java/lang/RuntimeException", "java/lang/Exception"]
