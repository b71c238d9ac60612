/-! a callee's throw, caught in the caller's frame -/
/-- how the search through a method's table ends: rows that don't take the object, then one that does -/
def Hunts (pl : Platform) (s0 : State) (d : ClassId) (pc : Nat) (thrown : ClassId) (hpc : Nat) : List ExceptionTableEntry → Prop
  | [] => False
  | x :: t => covers x pc = true ∧ x.catchType ≠ 0 ∧ ∃ cl : ClassId, s0.vm.ClassLinks pl d x.catchType cl ∧ ((s0.vm.assignable thrown cl = true ∧ x.handlerPc = hpc) ∨ (s0.vm.assignable thrown cl = false ∧ Hunts pl s0 d pc thrown hpc t))
theorem hunt1 {Q : Handler → Pre} {E : CtlPost} {e : Env} {d : Bool} {acts : List Action} {S : State} {f : JFrame} {a : Addr} {x : ExceptionTableEntry} {t : List ExceptionTableEntry} {cl : ClassId} {cell : Cell} (hx : covers x f.pc = true) (h0 : x.catchType ≠ 0)
    (hl : S.vm.ClassLinks e.platform f.method.cls x.catchType cl) (hcell : S.heap[a]? = some cell) (hobj : ∀ k, cell.vm ≠ .statics k) (hk : ∃ k, S.vm.classes[cell.cls]? = some k) (hc : ∃ k, S.vm.classes[cl]? = some k) :
    wp (findHandler.go f a (x :: t)) Q E e d acts S ↔ (if S.vm.assignable cell.cls cl = true then Q (.found x.handlerPc) d acts (S.setVm (S.vm.noted f.method.cls x.catchType (.cls cl))) else wp (findHandler.go f a t) Q E e d acts (S.setVm (S.vm.noted f.method.cls x.catchType (.cls cl)))) := by
  simp only [covers] at hx
  obtain ⟨ha, ht⟩ := (resolveClass_links e.toSetting hl).op (op := VmOp.resolveClass f.method.cls x.catchType) rfl
  have hal : S.vm.Alike (S.vm.noted f.method.cls x.catchType (.cls cl)) := (Vm.Alike.refl S.vm).noted _ _ _
  obtain ⟨k1, hk1⟩ := hk
  obtain ⟨k2, hk2⟩ := hc
  obtain ⟨k3, hk3, -⟩ := hal.2.2 _ _ hk1
  obtain ⟨k4, hk4, -⟩ := hal.2.2 _ _ hk2
  have hasg : (S.vm.noted f.method.cls x.catchType (.cls cl)).assignable cell.cls cl = S.vm.assignable cell.cls cl := by rw [hal.assignable]
  cases hv : S.vm.assignable cell.cls cl <;> rw [hv] at hasg <;> simp [findHandler.go, hx, h0, ha, ht, hcell, hobj, hk3, hk4, hasg, VmOp.dirties, VmOp.acts]
theorem hunt {e : Env} {s0 : State} {f : JFrame} {a : Addr} {cell : Cell} (hobj : ∀ k, cell.vm ≠ .statics k) (hk0 : ∃ k, s0.vm.classes[cell.cls]? = some k) {hpc : Nat} :
    ∀ (es : List ExceptionTableEntry) (S : State), s0.WarmedH S.vm → S.heap[a]? = some cell → Hunts e.platform s0 f.method.cls f.pc cell.cls hpc es →
      ∃ vm', s0.WarmedH vm' ∧ ∀ (Q : Handler → Pre) (E : CtlPost) (d : Bool) (acts : List Action), wp (findHandler.go f a es) Q E e d acts S ↔ Q (.found hpc) d acts (S.setVm vm') := by
  intro es
  induction es with
  | nil => intro S _ _ h; exact h.elim
  | cons x t ih =>
    intro S hW hcell h
    obtain ⟨hx, h0, cl, hl, h⟩ := h
    obtain ⟨k0, hk0⟩ := hk0
    obtain ⟨k1, hk1, -⟩ := hW.alike.2.2 _ _ hk0
    obtain ⟨dk, _, _, kt, hd, _, _, _, _, hkt, _, hopen⟩ := hl.here
    obtain ⟨k2, hk2, -⟩ := hW.alike.2.2 _ _ hkt
    have hW2 := hW.noted hd hopen (State.rightAt_cls hl)
    rcases h with ⟨hy, rfl⟩ | ⟨hn, h⟩
    · refine ⟨_, hW2, fun Q E d acts => ?_⟩
      rw [hunt1 hx h0 (hW.classLinks hl) hcell hobj ⟨k1, hk1⟩ ⟨k2, hk2⟩, if_pos (by rw [hW.alike.assignable]; exact hy)]
    · obtain ⟨vm', hW', hq⟩ := ih (S.setVm (S.vm.noted f.method.cls x.catchType (.cls cl))) hW2 hcell h
      refine ⟨vm', hW', fun Q E d acts => ?_⟩
      rw [hunt1 hx h0 (hW.classLinks hl) hcell hobj ⟨k1, hk1⟩ ⟨k2, hk2⟩, if_neg (by rw [hW.alike.assignable, hn]; decide)]
      exact hq Q E d acts
theorem two_frames (u : State) (vm' : Vm) (F G : List Frame) : ((u.setFrames F).setVm vm').setFrames G = (u.setVm vm').setFrames G := by
  rw [show (u.setFrames F).setVm vm' = (u.setVm vm').setFrames F from rfl, State.setFrames_setFrames]
section CATCH
variable {p : Program} {l : Launch} {e : Env} {R : Room} {s : State} {m : MethodId} {args : Array Value} {below : List Frame} {meth : Method} {c : Code} {H : Heap} {locs : List Loc} {cells slots : Nat} {Q : State → Prop} {D : va_G} {A : Nat → Prop} {tys : List (ClassId × FieldType)} {pc : Nat} {ls : Array Slot} {rest st0 : List Value} {ws wc wr w' : va_W} {cc : ByteArray} {T : State}
theorem to_handler (X : Stand p l e R s m args below meth c T locs cells slots) {a : Addr} {g : JFrame} (hg : g.method = m) {cell : Cell} (hcell : T.heap[a]? = some cell) (hvm : cell.vm = .none) (hk0 : ∃ k, s.vm.classes[cell.cls]? = some k) {hpc : Nat}
    (hh : Hunts e.platform s m.cls g.pc cell.cls hpc c.exceptionTable.toList) :
    ∃ vm', Stand p l e R s m args below meth c (T.setVm vm') locs cells slots ∧ ∀ target, Steps p.tables e below ((T.setVm vm').setTop { g with pc := hpc, stack := [.ref a] }) target → Steps p.tables e below ((T.setTop g).pushFrame (.throwing a)) target := by
  subst hg
  obtain ⟨vm', hW', hq⟩ := hunt (e := e) (f := g) (a := a) (cell := cell) (fun k => by rw [hvm]; simp) hk0 (hpc := hpc) c.exceptionTable.toList ((T.setTop g).pushFrame (.throwing a)) X.warmed hcell hh
  have hfind : ∀ (Q : Handler → Pre) (E : CtlPost) (d : Bool) (acts : List Action), wp (findHandler g a) Q E e d acts ((T.setTop g).pushFrame (.throwing a)) ↔ Q (.found hpc) d acts (((T.setTop g).pushFrame (.throwing a)).setVm vm') := fun Q E d acts => by
    rw [W.findHandler_eq (s := (T.setTop g).pushFrame (.throwing a)) (meth := meth) (code := c) X.method' X.code]
    exact hq Q E d acts
  refine ⟨vm', X.noted hW', fun target hrest => ?_⟩
  have h : At T g.method c below := X.here
  obtain ⟨hgo, hw⟩ := h.throwing a
  refine Steps.head hgo hw ?_
  have hstep : ∀ r : List Frame, (stepThrowing e ((T.setTop g).pushFrame (.throwing a)) a (.java g :: r)).Is ((((T.setTop g).pushFrame (.throwing a)).setVm vm').setFrames (.java { g with pc := hpc, stack := [.ref a] } :: r)) [] := by
    intro r
    simp only [stepThrowing, searchFrame, vmDo]
    generalize hr : Sem.go _ e false [] _ = res
    obtain ⟨as, rfl, ha⟩ := Sem.eq_ok_of hr (a := Handler.found hpc) (s' := ((T.setTop g).pushFrame (.throwing a)).setVm vm') (acts' := []) (by simp [hfind _ _ _ _])
    exact ⟨rfl, ha⟩
  rw [stepThread_throwing (frames_entered h.top _), (hstep _).1]
  obtain ⟨g₀, hg⟩ := Option.isSome_iff_exists.mp h.top
  obtain ⟨r, hr⟩ := State.topJava?_eq_some.mp hg
  have hr' : (T.setVm vm').frames = .java g₀ :: r := hr
  rw [State.setTop_of_frames _ hr'] at hrest
  rw [hr, List.tail_cons, State.pushFrame, two_frames, State.setTop_of_frames _ hr, two_frames]
  exact hrest
theorem PcT.blind {av : List Value} {sz : Nat} : FrameBlind (PcT D tys av ws sz) := by
  intro a U g mk q
  obtain ⟨q0, q1, qP, qK, qD, qX⟩ := q
  exact ⟨q0, q1, qP, KK.same (s := U) (U := U.calling g mk a) rfl qK, qD, XX.same (s := U) (U := U.calling g mk a) qX rfl rfl⟩
theorem PcT.pre {av : List Value} {U : State} (hU : U.heap = H) (hW : s.WarmedH U.vm) (hP : va_P D classes wc H) (hD : va_D (fun _ => True) wc) (hK : KK D tys s) (hX : XX s) (hk : ∀ (a : Nat) (cell : Cell), s.heap[a]? = some cell → cell.vm.isStatics = true → H[a]? = some cell) : PcT D tys av wc H.size av.toArray U :=
  ⟨rfl, by rw [hU], by rw [hU]; exact hP, KK.warm hW hK, hD, hX.at hW (by rw [hU]; exact hk)⟩
variable {y : MethodName} {bytes : ByteArray} {maxL nL n index mc ms : Nat} {ret : Option FieldType} {rm : Room} {own C cls : String} {As : List Value} {b : Nat}
set_option maxHeartbeats 4000000 in
/-- a call of a method that throws here: on at the handler -/
theorem catV (hx : p.tables.exec = Jvm.exec) (hb : c.code = cc) (hml : c.maxLocals = nL) (hown : s.vm.findClass own = some m.cls) (hts : ∀ w ∈ TB, w.before args s = true) (hK : KK D tys s) (hX : XX s) (hk : ∀ (a : Nat) (cell : Cell), s.heap[a]? = some cell → cell.vm.isStatics = true → H[a]? = some cell)
    (hM : MetT l y (.code y bytes maxL ret :: TB) rm (PcT D tys (.ref b :: As) wc H.size) (QT D cls w' (va_A wc H.size)) mc ms (va_A wc H.size))
    (h1 : Cond.methodLink own index y ∈ TB) (h2 : Cond.instanceMethod y ∈ TB) (h3 : Cond.selects C y y ∈ TB) (h4 : Cond.initialized C ∈ TB) (h5 : Cond.code y bytes maxL ret ∈ TB)
    (hd : y.cls = C ∧ y.cls ≠ "java/lang/invoke/MethodHandle" ∧ y.cls ≠ "java/lang/invoke/VarHandle" ∧ (parseMethodDescriptor y.desc).map (fun d => d.parameters.length) = some n) (hrc : rm.cells = mc) (hrs : rm.slots = ms) (hR : rm.frames + 1 ≤ R.frames ∧ 8 + (maxL + 11) + rm.locals ≤ R.locals)
    (hP : va_P D classes ws H) (hD : va_D A ws) (hS : va_S A s.heap H locs) (hA : ∀ q, s.heap.size ≤ q → A q)
    (isC isR : List Nat) (hC : isC.map (fun i => ws[i]?) = wc.map some) (hRr : isR.map (fun i => ws[i]?) = wr.map some) (hn : va_nd isR = true) (hdis : ∀ i ∈ isR, i ∉ isC) (hnc : va_nd isC = true)
    {ci : Nat} {Tf : u_T} {N : Nat} {fs : List Value} (q0 : Nat) (hcl : classes[ci]? = some (C, Tf, N)) (hcell : wc[q0]? = some (b, .inr (ci, fs)))
    (hsize : ls.size = nL) (hlen : As.length = n) (hst : st0 = As.reverse ++ .ref b :: rest) (hW : 2 * (F0 m pc ls st0).monitorRoom + (rest.map fun v => v.category).sum ≤ 8) (hdg : decode cc pc = .ok (.invokevirtual index, 3)) (hf : cells + mc ≤ R.cells ∧ slots + ms ≤ R.slots)
    {hpc : Nat} (hh : ∀ (pl : Platform) (th : ClassId), pl.magicAccessors = ({} : Platform).magicAccessors → s.vm.findClass cls = some th → Hunts pl s m.cls pc th hpc c.exceptionTable.toList)
    (kk : ∀ (x : Nat) (H1 : Heap) (locs1 : List Loc), va_P D classes (wr ++ w') H1 → va_D A (wr ++ w') → va_S A s.heap H1 locs1 → W p l e R s m args below meth c H1 locs1 (cells + mc) (slots + ms) Q (F0 m hpc ls [.ref x])) :
    W p l e R s m args below meth c H locs cells slots Q (F0 m pc ls st0) := by
  have hFc := va_free (wc := wc) hD hS hA isC hC
  obtain ⟨rfl, hd1, hd2, hd3⟩ := hd
  obtain ⟨cellB, hcB, hoB, hclB⟩ := va_recv hK.1 (cutP hP isC hC) hcl hcell
  intro T hT X
  subst hst
  have hpl : e.platform.magicAccessors = ({} : Platform).magicAccessors := by rw [X.admits.platform]
  obtain ⟨mk, methM, hnamed, hmethM, hstM, habM⟩ := Cond.instanceMethod_spec (hts _ h2)
  obtain ⟨methM', cM, hmethM', hcM, -, hlM, -, -, -, hsigM⟩ := Cond.code_spec hnamed (hts _ h5)
  cases hmethM.symm.trans hmethM'
  obtain ⟨c2, r2, m2, g1, g2, g3, g4, kP, hkP, hkPi⟩ := Cond.selects_spec (hts _ h3)
  cases hclB.symm.trans g1
  cases (State.methodFound?_of_named hnamed ⟨hd1, hd2⟩).symm.trans g2
  cases hnamed.symm.trans g3
  have hselP : selectMethod e.platform s.vm cellB.cls mk = .method mk := by rw [Launch.admits_selectMethod X.admits]; exact g4
  have hlenA : As.length = methM.sig.parameters.length := by
    rw [hsigM] at hd3
    rw [hlen]; exact (Option.some.inj hd3).symm
  obtain ⟨vm₁, X₁, hstep₁⟩ := X.invokevirtual hx hown (hts _ h1) hnamed hmethM hstM hkP hkPi ⟨hd1, hd2⟩ (a := b) (cell := cellB) (by rw [hT]; exact hcB) (fun z h => by rw [h] at hoB; cases hoB) hselP hmethM habM hkP hkPi
    (g := F0 m pc ls (As.reverse ++ .ref b :: rest)) rfl (argsL := As) (rest := rest) hlenA rfl (by rw [hb]; exact hdg)
  have hW1 : s.WarmedH vm₁ := X₁.warmed
  have hU : (T.setVm vm₁).heap = H := hT
  have h : At (T.setVm vm₁) m c below := X₁.here
  have hnU : (T.setVm vm₁).methodNamed? y = some mk := X₁.named hnamed
  have hgood : ∀ w ∈ (Cond.code y bytes maxL ret :: TB), ∀ (a' : Array Value) (U : State), s.WarmedH U.vm → w.before a' U = true := pay_in hts (tb_cons h5 tb_good)
  have hP0 : PcT D tys (.ref b :: As) wc H.size (Value.ref b :: As).toArray ((T.setVm vm₁).calling (F0 m pc ls rest) mk (Value.ref b :: As).toArray) :=
    PcT.blind _ _ _ _ (PcT.pre hU hW1 (cutP hP isC hC) (cutD hD isC hC hnc) hK hX hk)
  obtain ⟨methY, cY, hmY, hcY, -, hlY, -, -, -, -⟩ := Cond.code_spec (s := T.setVm vm₁) hnU (hgood _ List.mem_cons_self (Value.ref b :: As).toArray _ hW1)
  obtain ⟨kY, hkY, -⟩ := className_of_methodNamed hnU
  have hini : (Cond.initialized y.cls).before (Value.ref b :: As).toArray (T.setVm vm₁) = true := hgood _ (List.mem_cons_of_mem _ h4) _ _ hW1
  have hinitY : kY.init = .initialized := Cond.initialized_spec (findClass_of_methodNamed hnU) hkY hini
  have hdec : decode c.code pc = .ok (.invokevirtual index, 3) := by rw [hb]; exact hdg
  have happ : (headSpec (Cond.code y bytes maxL ret :: TB) rm).appliesLoose y e.platform ((T.setVm vm₁).calling (F0 m pc ls rest) mk (Value.ref b :: As).toArray) = true :=
    Spec.appliesLoose_calling (g := F0 m pc ls rest) h hdec hnU hkY hinitY
      (X₁.room_calling (g := F0 m pc ls rest) (R' := rm) (by rw [hml]; exact hsize) hmY hcY hR.1 (by
        have hW' : 2 * (F0 m pc ls rest).monitorRoom + (rest.map fun v => v.category).sum ≤ 8 := hW
        have h3 := hR.2
        rw [hlY]
        show 2 * (F0 m pc ls rest).monitorRoom + (rest.map fun v => v.category).sum + (maxL + 11) + rm.locals ≤ R.locals
        omega) (by rw [hrc]; exact hf.1) (by rw [hrs]; exact hf.2)) (atoms_intro fun w hw => hgood w hw _ _ hW1)
  obtain ⟨mid, hmid⟩ := h.above
  have hfr : ((T.setVm vm₁).setTop (F0 m pc ls rest)).frames = (.java (F0 m pc ls rest) :: mid) ++ below := by rw [State.frames_setTop' _ h.top, hmid]; rfl
  obtain ⟨o, s₂, hsteps, -, hend, ⟨x, ce, rfl, hxc, hxv, hxk, hP1, hD1, hF1⟩, L, ⟨hWe, hse⟩, hL⟩ := Steps.callFree hM p X₁.admits X₁.cas X₁.clock (acts := []) hfr happ hP0 trivial
  rw [State.frames_setTop' _ h.top] at hend
  have htail : (T.setVm vm₁).frames.tail = below := X₁.tail
  rw [htail] at hend
  obtain ⟨T', X', hWT, hsT, hs2⟩ := X₁.outOfThrown (g := F0 m pc ls rest) rfl hend hWe hse
  have hT2 : T'.heap = s₂.heap := by rw [hs2]; simp [State.pushFrame, State.setFrames, State.setTop, State.modifyTopJava]
  have hfc : s.vm.findClass cls = some ce.cls := by
    have h9 : vm₁.findClass cls = some ce.cls := hxk
    rwa [hW1.alike.findClass] at h9
  obtain ⟨vm', X2, st2⟩ := to_handler X' (a := x) (g := F0 m pc ls rest) rfl (cell := ce) (by rw [hT2]; exact hxc) hxv (by obtain ⟨k9, h9, -⟩ := Vm.findClass_spec hfc; exact ⟨k9, h9⟩) (hpc := hpc) (hh _ _ hpl hfc)
  have hH : (((T.setVm vm₁).setTop (F0 m pc ls rest)).pushFrame (.invoking mk (Value.ref b :: As).toArray)).heap = H := hU
  obtain ⟨hz', hkp'⟩ := hF1
  rw [hH] at hz' hkp'
  obtain ⟨hP2, hD2⟩ := va_join (wr := wr) (w1 := w') hP hD isC isR hC hRr hn hdis hkp' hFc hP1 hD1
  obtain ⟨t2, a1, b1⟩ := kk x s₂.heap (locs ++ L) hP2 hD2
    ⟨Nat.le_trans hS.1 hz', fun q q1 q2 => by rw [hkp' q (Nat.lt_of_lt_of_le q1 hS.1) (fun z => q2 (hFc q z))]; exact hS.2.1 q q1 q2, fun q hq => by
      rcases List.mem_append.mp hq with h | h
      · exact hS.2.2 q h
      · exact hFc _ (hL q h)⟩ (T'.setVm vm') hT2 X2
  refine ⟨t2, hstep₁ _ fun acts => ?_, b1⟩
  rw [doInvoke_state]
  exact hsteps.trans (by rw [hs2]; exact st2 _ a1)
end CATCH
