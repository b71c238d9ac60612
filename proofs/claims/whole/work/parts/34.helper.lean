/-! methods with handlers: their contracts, their calls -/
def mkE (q : Nat × Nat × Nat × Nat) : ExceptionTableEntry := ⟨q.1, q.2.1, q.2.2.1, q.2.2.2⟩
theorem tab_of {L : List ExceptionTableEntry} {hs : List (Nat × Nat × Nat × Nat)} (h : L.map (fun x => (x.startPc, x.endPc, x.handlerPc, x.catchType)) = hs) : L = hs.map mkE := by
  subst h
  rw [List.map_map]
  exact (List.map_id'' (fun x => rfl) L).symm
def huntsB (pc k hpc : Nat) : List ((Nat × Nat × Nat × Nat) × Nat) → Bool
  | [] => false
  | q :: r => decide (q.1.1 ≤ pc) && decide (pc < q.1.2.1) && decide (q.1.2.2.2 ≠ 0) && (if q.2 = k then decide (q.1.2.2.1 = hpc) else huntsB pc k hpc r)
theorem ncp_in {a b : Nat} (ha : a < 3) (hb : b < 3) (h : ¬ b = a) : (exn a, exn b) ∈ ncp := by
  rcases (show a = 0 ∨ a = 1 ∨ a = 2 by omega) with rfl | rfl | rfl <;> rcases (show b = 0 ∨ b = 1 ∨ b = 2 by omega) with rfl | rfl | rfl <;> first | exact absurd rfl h | decide
theorem cast_in {k : Nat} (hk : k < 3) : (Cond.castable (exn k) (exn k)) ∈ NC := by
  rcases (show k = 0 ∨ k = 1 ∨ k = 2 by omega) with rfl | rfl | rfl <;> decide +kernel
theorem hunts_ok {pl : Platform} {s : State} {args : Array Value} {d : ClassId} {own : String} {pc hpc k : Nat} {th : ClassId} (hpl : pl.magicAccessors = ({} : Platform).magicAccessors) (hown : s.vm.findClass own = some d) (hts : ∀ w ∈ TB, w.before args s = true) (hX : XX s) (hk : k < 3) (hth : s.vm.findClass (exn k) = some th) :
    ∀ L : List ((Nat × Nat × Nat × Nat) × Nat), (∀ q ∈ L, q.2 < 3 ∧ Cond.classLink own q.1.2.2.2 (exn q.2) ∈ TB) → huntsB pc k hpc L = true → Hunts pl s d pc th hpc (L.map (fun q => mkE q.1)) := by
  intro L
  induction L with
  | nil => intro _ h; exact absurd h (by simp [huntsB])
  | cons q r ih =>
    intro hL h
    simp only [huntsB, Bool.and_eq_true, decide_eq_true_eq] at h
    obtain ⟨⟨⟨h1, h2⟩, h3⟩, h4⟩ := h
    obtain ⟨hq, hw⟩ := hL q List.mem_cons_self
    obtain ⟨cl, hcl, hlink⟩ := Cond.classLink_spec hown (hts _ hw) pl hpl
    refine ⟨by show (decide (q.1.1 ≤ pc) && decide (pc < q.1.2.1)) = true; simp [h1, h2], h3, cl, hlink, ?_⟩
    by_cases e : q.2 = k
    · rw [if_pos e] at h4
      left
      obtain ⟨a, b, ha, hb, hab⟩ := Cond.castable_spec (args := #[]) (first := s) (o := none) (idx := []) (s := s) (hX.1 _ (cast_in hk))
      rw [e] at hcl
      cases hth.symm.trans ha
      cases hcl.symm.trans hb
      exact ⟨hab, (of_decide_eq_true h4 : q.1.2.2.1 = hpc)⟩
    · rw [if_neg e] at h4
      right
      obtain ⟨a, b, ha, hb, hab⟩ := hX.2.2.2 _ (ncp_in hk hq e)
      cases hth.symm.trans ha
      cases hcl.symm.trans hb
      exact ⟨hab, ih (fun z hz => hL z (List.mem_cons_of_mem _ hz)) h4⟩
/-- what a body with handlers has at hand beside its context -/
def HX (l : Launch) (s : State) (c : Code) (D : va_G) (w0 : va_W) (A : Nat → Prop) (hs : List (Nat × Nat × Nat × Nat)) : Prop := l.stackTraces = false ∧ XX s ∧ c.exceptionTable.toList = hs.map mkE ∧ va_P D classes w0 s.heap ∧ va_A w0 s.heap.size = A
theorem goodWith {y : MethodName} {bytes : ByteArray} {maxL : Nat} {ret : Option FieldType} {hs : List (Nat × Nat × Nat × Nat)} (h : Cond.codeWith y bytes maxL ret hs ∈ TB) : GoodIn TB (Cond.codeWith y bytes maxL ret hs :: TB) := tb_cons h tb_good
set_option maxHeartbeats 4000000 in
theorem entH {l : Launch} {y : MethodName} {rm : Room} {D : va_G} {tys : List (ClassId × FieldType)} {av : List Value} {w0 : va_W} {sz mc ms maxL : Nat} {post : Option Value → va_W → Prop} {cc : ByteArray} {ret : Option FieldType} {hs : List (Nat × Nat × Nat × Nat)} (hy : plainName y.cls = true ∧ Nat.ble (lg_sl av).length maxL = true)
    (body : ∀ (p : Program) (e : Env) (s : State) (m : MethodId) (below : List Frame) (meth : Method) (c : Code), CX p s m av.toArray meth c D tys y.cls cc maxL ret y.name → XX s → c.exceptionTable.toList = hs.map mkE → va_P D classes w0 s.heap → va_D (va_A w0 s.heap.size) w0 → s.heap.size = sz → ∀ ls : Array Slot, lv_has ls maxL (lv_args 0 av) →
      W p l e rm s m av.toArray below meth c s.heap [] 0 0 (MQ below (QW D post (va_A w0 sz)) av.toArray s mc ms (va_A w0 sz)) (F0 m 0 ls [])) :
    Met l y (.codeWith y cc maxL ret hs :: TB) rm (PcT D tys av w0 sz) (QW D post (va_A w0 sz)) mc ms (va_A w0 sz) := by
  refine MetFree.of_bodyS (code := cc) (maxLocals := maxL) (ret := ret) hy.1 ?_ ?_
  · intro args s m h hn
    obtain ⟨m', meth, c, hn', h1, h2, h3, h4, -, h5, h6, -⟩ := Cond.codeWith_spec (atoms_spec (ws := .codeWith y cc maxL ret hs :: TB) h _ List.mem_cons_self)
    cases hn.symm.trans hn'
    exact ⟨meth, c, h1, h2, h3, h4, h5, h6⟩
  · intro p e s m args below meth c s₁ B hml hv _
    obtain ⟨rfl, hsz, hP, hK, hD0, hX⟩ := hv
    have hts := atoms_spec (ws := .codeWith y cc maxL ret hs :: TB) B.pre
    have hl := lv_entry av (n := maxL) (Nat.le_of_ble_eq_true hy.2)
    have htab : c.exceptionTable.toList = hs.map mkE := by
      obtain ⟨m', meth', c', hn', g1, g2, -, -, g5, -, -, -⟩ := Cond.codeWith_spec (hts _ List.mem_cons_self)
      cases B.named.symm.trans hn'
      cases B.method.symm.trans g1
      cases (Stand.of_body B).code.symm.trans g2
      exact tab_of g5
    have hg := body p e s m below meth c ⟨B.exec, B.bytes, hml, B.returns, B.notSynchronized, fun w hw => hts w (List.mem_cons_of_mem _ hw), findClass_of_methodNamed B.named, hK, (name_of_methodNamed B.named B.method).1⟩ hX htab hP (hD0.self (sz := s.heap.size)) hsz _ hl
    rw [← lg_entry_eq] at hg
    have hh0 : s₁.heap = s.heap := by rw [B.state]; rfl
    obtain ⟨t, a1, o, b1, b2, b3⟩ := hg s₁ hh0 (Stand.of_body B)
    exact ⟨t, o, a1, b1, b2, b3⟩
theorem sumL {α β γ : Type} {F : α → γ} {G : β → γ} {q : α} {r : γ} (h : Sum.elim F G (Sum.inl q) = r) : F q = r := h
theorem sumR {α β γ : Type} {F : α → γ} {G : β → γ} {q : β} {r : γ} (h : Sum.elim F G (Sum.inr q) = r) : G q = r := h
section CALLH
variable {p : Program} {l : Launch} {e : Env} {R : Room} {s : State} {m : MethodId} {args : Array Value} {below : List Frame} {meth : Method} {c : Code} {H : Heap} {locs : List Loc} {cells slots : Nat} {Q : State → Prop} {D : va_G} {A : Nat → Prop} {tys : List (ClassId × FieldType)} {pc : Nat} {ls : Array Slot} {st0 rest : List Value} {mc ms : Nat} {wc wr ws : va_W} {post : Option Value → va_W → Prop}
variable {y : MethodName} {bytes cc : ByteArray} {maxL nL n index : Nat} {ret : Option FieldType} {rm : Room} {own : String} {As : List Value} {hs : List (Nat × Nat × Nat × Nat)}
set_option maxHeartbeats 4000000 in
theorem mcSH (hx : p.tables.exec = Jvm.exec) (hb : c.code = cc) (hml : c.maxLocals = nL) (hown : s.vm.findClass own = some m.cls) (hts : ∀ w ∈ TB, w.before args s = true) (hK : KK D tys s) (hX : XX s) (hk : ∀ (a : Nat) (cell : Cell), s.heap[a]? = some cell → cell.vm.isStatics = true → H[a]? = some cell)
    (hM : Met l y (.codeWith y bytes maxL ret hs :: TB) rm (PcT D tys As wc H.size) (QW D post (va_A wc H.size)) mc ms (va_A wc H.size))
    (h1 : Cond.methodLink own index y ∈ TB) (h2 : Cond.static y ∈ TB) (h3 : Cond.initialized y.cls ∈ TB) (h5 : Cond.codeWith y bytes maxL ret hs ∈ TB)
    (hd : y.cls ≠ "java/lang/invoke/MethodHandle" ∧ y.cls ≠ "java/lang/invoke/VarHandle" ∧ (parseMethodDescriptor y.desc).map (fun d => d.parameters.length) = some n) (hrc : rm.cells = mc) (hrs : rm.slots = ms) (hR : rm.frames + 1 ≤ R.frames ∧ 8 + (maxL + 11) + rm.locals ≤ R.locals)
    (hP : va_P D classes ws H) (hD : va_D A ws) (hS : va_S A s.heap H locs) (hA : ∀ q, s.heap.size ≤ q → A q)
    (isC isR : List Nat) (hC : isC.map (fun i => ws[i]?) = wc.map some) (hRr : isR.map (fun i => ws[i]?) = wr.map some) (hn : va_nd isR = true) (hdis : ∀ i ∈ isR, i ∉ isC) (hnc : va_nd isC = true)
    (hsize : ls.size = nL) (hlen : As.length = n) (hst : st0 = As.reverse ++ rest) (hW : 2 * (F0 m pc ls st0).monitorRoom + (rest.map fun v => v.category).sum ≤ 8) (hdg : decode cc pc = .ok (.invokestatic index, 3)) (hf : cells + mc ≤ R.cells ∧ slots + ms ≤ R.slots)
    (kk : ∀ (o : Option Value) (ws' : va_W) (H1 : Heap) (locs1 : List Loc), post o ws' → va_P D classes (wr ++ ws') H1 → va_D A (wr ++ ws') → va_S A s.heap H1 locs1 → W p l e R s m args below meth c H1 locs1 (cells + mc) (slots + ms) Q (F0 m (pc + 3) ls (o.toList ++ rest))) :
    W p l e R s m args below meth c H locs cells slots Q (F0 m pc ls st0) := by
  refine goW (a := As.toArray) (wc := wc) ?_ hP hD hS hA isC isR hC hRr hn hdis kk
  have hgood : ∀ w ∈ (Cond.codeWith y bytes maxL ret hs :: TB), ∀ (a' : Array Value) (U : State), s.WarmedH U.vm → w.before a' U = true := pay_in hts (goodWith h5)
  have hB : Back l R p e below s args y 3 8 (PreOf R mc ms (PcT D tys As wc H.size)) (PostOf (QW D post (va_A wc H.size)) mc ms (va_A wc H.size)) := by
    refine Back.of_freeWith (handlers := hs) (S := headSpec (Cond.codeWith y bytes maxL ret hs :: TB) rm) (P := PcT D tys As wc H.size) (K := fun _ _ _ _ _ => True) (Q := fun a st o t => QW D post (va_A wc H.size) a st o t ∧ ∃ L, FrameEnd st o t L mc ms ∧ ∀ q ∈ L, va_A wc H.size q.base) (bytes := bytes) (maxL := maxL) (ret := ret)
      (E := fun a st o t L k n => k = mc ∧ n = ms ∧ ∀ q ∈ L, va_A wc H.size q.base) hM hR.1 hR.2 ?_ ?_ (fun _ _ _ _ _ _ _ _ _ => trivial) ?_ ?_
    · intro m meth c A a X hp
      exact ⟨atoms_intro fun w hw => hgood w hw _ _ X.warmed, hgood _ List.mem_cons_self _ _ X.warmed, hgood _ (List.mem_cons_of_mem _ h3) _ _ X.warmed, by rw [show (headSpec (Cond.codeWith y bytes maxL ret hs :: TB) rm).room.cells = mc from hrc]; exact hp.1, by rw [show (headSpec (Cond.codeWith y bytes maxL ret hs :: TB) rm).room.slots = ms from hrs]; exact hp.2.1⟩
    · intro m meth c A a g mk X hp
      exact PcT.blind _ _ _ _ hp.2.2
    · intro a st o t ⟨hq, L, hF, hL⟩
      exact ⟨L, mc, ms, hF, rfl, rfl, hL⟩
    · intro m meth c A a g mk v t L k n X hp hq hF ⟨e1, e2, hL⟩
      subst e1; subst e2
      exact ⟨g, mk, t, L, rfl, rfl, hq.1, rfl, hL, rfl, rfl⟩
  obtain ⟨mk, methM, cM, hnamed, hmethM, -, -, -, -, -, -, hsigM⟩ := Cond.codeWith_spec (hts _ h5)
  have hstatic : methM.isStatic = true := Cond.static_spec hnamed hmethM (hts _ h2)
  obtain ⟨kP, hkP, -⟩ := className_of_methodNamed hnamed
  have hinitP : kP.init = .initialized := Cond.initialized_spec (findClass_of_methodNamed hnamed) hkP (hts _ h3)
  intro T hT X
  subst hst
  have hlenA : As.length = methM.sig.parameters.length := by
    have h9 := hd.2.2
    rw [hsigM] at h9
    rw [hlen]; exact (Option.some.inj h9).symm
  obtain ⟨vm₁, X₁, hstep₁⟩ := X.invokestatic hx hown (hts _ h1) hnamed hmethM hstatic hkP hinitP ⟨hd.1, hd.2.1⟩ (g := F0 m pc ls (As.reverse ++ rest)) rfl (argsL := As) (rest := rest) hlenA rfl (by rw [hb]; exact hdg)
  obtain ⟨v, ⟨U', l2, c2, s2⟩, X', ⟨g', mk', t, L, e1, e2, hq, h1', hL, h2', h3'⟩, hsteps⟩ := hB m meth c ⟨T.setVm vm₁, locs, cells, slots⟩ (F0 m pc ls rest) (.invokestatic index) mk As.toArray X₁ rfl (by rw [hml]; exact hsize) (by rw [hb]; exact hdg) hW (X₁.named hnamed)
    ⟨hf.1, hf.2, PcT.pre (U := T.setVm vm₁) hT X₁.warmed (cutP hP isC hC) (cutD hD isC hC hnc) hK hX hk⟩
  dsimp only [Pt.U, Pt.locs, Pt.cells, Pt.slots] at X' e1 e2 h1' h2' h3' hsteps
  subst h1'; subst h2'; subst h3'
  exact ⟨v, (T.setVm vm₁).calling g' mk' As.toArray, t, U', L, hT, X', hL, e1, e2, hq, fun target h => hstep₁ _ fun acts => by rw [doInvoke_state]; exact hsteps.trans h⟩
end CALLH
