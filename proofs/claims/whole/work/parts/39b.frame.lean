/-! worlds with a frame that a case of the law doesn't touch -/
def pick {α : Type} : List Bool → List α → List α
  | true :: ms, x :: xs => x :: pick ms xs
  | false :: ms, _ :: xs => pick ms xs
  | _, _ => []
def pickN {α : Type} : List Bool → List α → List α
  | true :: ms, _ :: xs => pickN ms xs
  | false :: ms, x :: xs => x :: pickN ms xs
  | _, _ => []
def mergeL {α : Type} : List Bool → List α → List α → List α
  | true :: ms, x :: xs, ys => x :: mergeL ms xs ys
  | false :: ms, xs, y :: ys => y :: mergeL ms xs ys
  | _, _, _ => []
theorem va_P_iff {D : va_G} {cl : List vw_C} {w : va_W} {H : Heap} : va_P D cl w H ↔ ∀ q ∈ w, va_at D cl q H := by
  constructor
  · intro h q hq
    obtain ⟨k, hk⟩ := List.getElem?_of_mem hq
    exact h k q hk
  · intro h k q hk
    exact h q (List.mem_of_getElem? hk)
theorem va_D_iff {A : Nat → Prop} {w : va_W} : va_D A w ↔ (w.map Prod.fst).Nodup ∧ ∀ q ∈ w, A q.1 := by
  constructor
  · intro h
    refine ⟨?_, fun q hq => ?_⟩
    · rw [List.Nodup, List.pairwise_iff_getElem]
      intro i j hi hj hij e
      rw [List.getElem_map, List.getElem_map] at e
      have := h.1 i j _ _ (List.getElem?_eq_getElem (by simpa using hi)) (List.getElem?_eq_getElem (by simpa using hj)) e
      omega
    · obtain ⟨k, hk⟩ := List.getElem?_of_mem hq
      exact h.2 k q hk
  · intro h
    refine ⟨fun i j p q hi hj e => ?_, fun k q hk => h.2 q (List.mem_of_getElem? hk)⟩
    have h1 := h.1
    rw [List.Nodup, List.pairwise_iff_getElem] at h1
    obtain ⟨a1, a2⟩ := List.getElem?_eq_some_iff.mp hi
    obtain ⟨b1, b2⟩ := List.getElem?_eq_some_iff.mp hj
    rcases Nat.lt_trichotomy i j with q1 | q1 | q1
    · exact absurd (by rw [List.getElem_map, List.getElem_map, a2, b2]; exact e) (h1 i j (by simpa using a1) (by simpa using b1) q1)
    · exact q1
    · exact absurd (by rw [List.getElem_map, List.getElem_map, a2, b2]; exact e.symm) (h1 j i (by simpa using b1) (by simpa using a1) q1)
theorem pick_mem {α : Type} {q : α} : ∀ (m : List Bool) (w : List α), q ∈ pick m w ++ pickN m w → q ∈ w
  | [], _, h => by simp [pick, pickN] at h
  | true :: _, [], h => by simp [pick, pickN] at h
  | false :: _, [], h => by simp [pick, pickN] at h
  | true :: ms, x :: xs, h => by
    rcases List.mem_cons.mp h with h | h
    · exact h ▸ List.mem_cons_self
    · exact List.mem_cons_of_mem _ (pick_mem ms xs h)
  | false :: ms, x :: xs, h => by
    have h : q ∈ pick ms xs ++ x :: pickN ms xs := h
    rw [List.perm_middle.mem_iff] at h
    rcases List.mem_cons.mp h with h | h
    · exact h ▸ List.mem_cons_self
    · exact List.mem_cons_of_mem _ (pick_mem ms xs h)
theorem pick_nd : ∀ (m : List Bool) (w : va_W), (w.map Prod.fst).Nodup → ((pick m w ++ pickN m w).map Prod.fst).Nodup
  | [], _, _ => by simp [pick, pickN]
  | true :: _, [], _ => by simp [pick, pickN]
  | false :: _, [], _ => by simp [pick, pickN]
  | true :: ms, x :: xs, h => by
    show ((x :: (pick ms xs ++ pickN ms xs)).map Prod.fst).Nodup
    rw [List.map_cons, List.nodup_cons] at h ⊢
    refine ⟨fun hx => h.1 ?_, pick_nd ms xs h.2⟩
    obtain ⟨y, hy, e⟩ := List.mem_map.mp hx
    exact List.mem_map.mpr ⟨y, pick_mem ms xs hy, e⟩
  | false :: ms, x :: xs, h => by
    show ((pick ms xs ++ x :: pickN ms xs).map Prod.fst).Nodup
    rw [(List.Perm.map Prod.fst (List.perm_middle (a := x))).nodup_iff]
    rw [List.map_cons, List.nodup_cons] at h ⊢
    refine ⟨fun hx => h.1 ?_, pick_nd ms xs h.2⟩
    obtain ⟨y, hy, e⟩ := List.mem_map.mp hx
    exact List.mem_map.mpr ⟨y, pick_mem ms xs hy, e⟩
theorem merge_mem {α : Type} {q : α} : ∀ (m : List Bool) (t F : List α), q ∈ mergeL m t F → q ∈ t ++ F
  | [], _, _, h => by simp [mergeL] at h
  | true :: _, [], _, h => by simp [mergeL] at h
  | false :: _, _, [], h => by simp [mergeL] at h
  | true :: ms, x :: xs, F, h => by
    rcases List.mem_cons.mp h with h | h
    · exact h ▸ List.mem_cons_self
    · exact List.mem_cons_of_mem _ (merge_mem ms xs F h)
  | false :: ms, t, y :: ys, h => by
    rw [List.perm_middle.mem_iff]
    rcases List.mem_cons.mp h with h | h
    · exact h ▸ List.mem_cons_self
    · exact List.mem_cons_of_mem _ (merge_mem ms t ys h)
theorem merge_nd : ∀ (m : List Bool) (t F : va_W), ((t ++ F).map Prod.fst).Nodup → ((mergeL m t F).map Prod.fst).Nodup
  | [], _, _, _ => by simp [mergeL]
  | true :: _, [], _, _ => by simp [mergeL]
  | false :: _, _, [], _ => by simp [mergeL]
  | true :: ms, x :: xs, F, h => by
    show ((x :: mergeL ms xs F).map Prod.fst).Nodup
    have h : ((x :: (xs ++ F)).map Prod.fst).Nodup := h
    rw [List.map_cons, List.nodup_cons] at h ⊢
    refine ⟨fun hx => h.1 ?_, merge_nd ms xs F h.2⟩
    obtain ⟨y, hy, e⟩ := List.mem_map.mp hx
    exact List.mem_map.mpr ⟨y, merge_mem ms xs F hy, e⟩
  | false :: ms, t, y :: ys, h => by
    show ((y :: mergeL ms t ys).map Prod.fst).Nodup
    rw [(List.Perm.map Prod.fst (List.perm_middle (a := y))).nodup_iff] at h
    rw [List.map_cons, List.nodup_cons] at h ⊢
    refine ⟨fun hx => h.1 ?_, merge_nd ms t ys h.2⟩
    obtain ⟨z, hz, e⟩ := List.mem_map.mp hx
    exact List.mem_map.mpr ⟨z, merge_mem ms t ys hz, e⟩
theorem pickP {D : va_G} {cl : List vw_C} {w : va_W} {H : Heap} (m : List Bool) (h : va_P D cl w H) : va_P D cl (pick m w ++ pickN m w) H := va_P_iff.mpr fun q hq => va_P_iff.mp h q (pick_mem m w hq)
theorem pickD {A : Nat → Prop} {w : va_W} (m : List Bool) (h : va_D A w) : va_D A (pick m w ++ pickN m w) := va_D_iff.mpr ⟨pick_nd m w (va_D_iff.mp h).1, fun q hq => (va_D_iff.mp h).2 q (pick_mem m w hq)⟩
theorem mergeP {D : va_G} {cl : List vw_C} {t F : va_W} {H : Heap} (m : List Bool) (h : va_P D cl (t ++ F) H) : va_P D cl (mergeL m t F) H := va_P_iff.mpr fun q hq => va_P_iff.mp h q (merge_mem m t F hq)
theorem mergeD {A : Nat → Prop} {t F : va_W} (m : List Bool) (h : va_D A (t ++ F)) : va_D A (mergeL m t F) := va_D_iff.mpr ⟨merge_nd m t F (va_D_iff.mp h).1, fun q hq => (va_D_iff.mp h).2 q (merge_mem m t F hq)⟩
theorem subFP {D : va_G} {cl : List vw_C} {X X' F : va_W} {H : Heap} (h : va_P D cl (X ++ F) H) (is : List Nat) (hs : is.map (fun i => X[i]?) = X'.map some) : va_P D cl (X' ++ F) H := fun k q hk => h _ q (va_part is hs k q hk)
theorem subFD {A : Nat → Prop} {X X' F : va_W} (h : va_D A (X ++ F)) (is : List Nat) (hn : va_nd is = true) (hs : is.map (fun i => X[i]?) = X'.map some) : va_D A (X' ++ F) := h.part is hn hs
theorem leftD {A : Nat → Prop} {X F : va_W} (h : va_D A (X ++ F)) : va_D A X :=
  va_D_iff.mpr ⟨(List.nodup_append.mp (by rw [← List.map_append]; exact (va_D_iff.mp h).1)).1, fun q hq => (va_D_iff.mp h).2 q (List.mem_append_left _ hq)⟩
theorem leftP {D : va_G} {cl : List vw_C} {X F : va_W} {H : Heap} (h : va_P D cl (X ++ F) H) : va_P D cl X H := va_P_iff.mpr fun q hq => va_P_iff.mp h q (List.mem_append_left _ hq)
section CALLF
variable {p : Program} {l : Launch} {e : Env} {R : Room} {s : State} {m : MethodId} {args : Array Value} {below : List Frame} {meth : Method} {c : Code} {H : Heap} {locs : List Loc} {cells slots : Nat} {Q : State → Prop} {D : va_G} {A : Nat → Prop} {tys : List (ClassId × FieldType)} {pc : Nat} {ls : Array Slot} {st0 rest : List Value} {a : Array Value} {mc ms : Nat} {wc wr ws F : va_W} {post : Option Value → va_W → Prop}
theorem goWF (hr : va_Run p l e R s m args below meth c H locs cells slots mc ms (F0 m pc ls st0) rest (QW D post (va_A wc H.size) a) (va_A wc H.size)) (hP : va_P D classes (ws ++ F) H) (hD : va_D A (ws ++ F)) (hS : va_S A s.heap H locs) (hA : ∀ q, s.heap.size ≤ q → A q)
    (isC isR : List Nat) (hC : isC.map (fun i => ws[i]?) = wc.map some) (hR : isR.map (fun i => ws[i]?) = wr.map some) (hn : va_nd isR = true) (hdis : ∀ i ∈ isR, i ∉ isC)
    (kk : ∀ (o : Option Value) (ws' : va_W) (H1 : Heap) (locs1 : List Loc), post o ws' → va_P D classes ((wr ++ ws') ++ F) H1 → va_D A ((wr ++ ws') ++ F) → va_S A s.heap H1 locs1 → W p l e R s m args below meth c H1 locs1 (cells + mc) (slots + ms) Q (F0 m (pc + 3) ls (o.toList ++ rest))) :
    W p l e R s m args below meth c H locs cells slots Q (F0 m pc ls st0) := by
  have hFc := va_free (wc := wc) (leftD hD) hS hA isC hC
  intro T hT X
  obtain ⟨v, st₀, t, T', L, h0, X', hL, e1, e2, ⟨o, ws', hv, hp, hP1, hD1, hz, hk⟩, st⟩ := hr T hT X
  cases hv
  rw [h0] at hz hk
  rw [← e1] at hP1
  obtain ⟨hP2, hD2⟩ := va_joinQ (wr := wr) (w1 := ws') hP hD isC isR hC hR hn hdis (fun q h1 h2 => by rw [e1]; exact hk q h1 h2) hFc hP1 hD1
  obtain ⟨t2, a1, b1⟩ := kk v ws' T'.heap (locs ++ L) hp hP2 hD2
    ⟨Nat.le_trans hS.1 (by rw [e1]; exact hz), fun q h1 h2 => by rw [e1, hk q (Nat.lt_of_lt_of_le h1 hS.1) (fun z => h2 (hFc q z))]; exact hS.2.1 q h1 h2, fun q hq => by
      rcases List.mem_append.mp hq with h | h
      · exact hS.2.2 q h
      · exact hFc _ (hL q h)⟩ T' rfl X'
  exact ⟨t2, st t2 a1, b1⟩
variable {y : MethodName} {bytes cc : ByteArray} {maxL nL n index : Nat} {ret : Option FieldType} {rm : Room} {own C host : String} {As : List Value} {b : Nat} {hs : List (Nat × Nat × Nat × Nat)}
theorem mcVF (hx : p.tables.exec = Jvm.exec) (hb : c.code = cc) (hml : c.maxLocals = nL) (hown : s.vm.findClass own = some m.cls) (hts : ∀ w ∈ TB, w.before args s = true) (hK : KK D tys s)
    (hM : Met l y (.code y bytes maxL ret :: TB) rm (PcW D tys (.ref b :: As) wc H.size) (QW D post (va_A wc H.size)) mc ms (va_A wc H.size))
    (h1 : Cond.methodLink own index y ∈ TB) (h2 : Cond.instanceMethod y ∈ TB) (h3 : Cond.selects C y y ∈ TB) (h4 : Cond.initialized C ∈ TB) (h5 : Cond.code y bytes maxL ret ∈ TB)
    (hd : y.cls = C ∧ y.cls ≠ "java/lang/invoke/MethodHandle" ∧ y.cls ≠ "java/lang/invoke/VarHandle" ∧ (parseMethodDescriptor y.desc).map (fun d => d.parameters.length) = some n) (hrc : rm.cells = mc) (hrs : rm.slots = ms) (hR : rm.frames + 1 ≤ R.frames ∧ 8 + (maxL + 11) + rm.locals ≤ R.locals)
    (hP : va_P D classes (ws ++ F) H) (hD : va_D A (ws ++ F)) (hS : va_S A s.heap H locs) (hA : ∀ q, s.heap.size ≤ q → A q)
    (isC isR : List Nat) (hC : isC.map (fun i => ws[i]?) = wc.map some) (hRr : isR.map (fun i => ws[i]?) = wr.map some) (hn : va_nd isR = true) (hdis : ∀ i ∈ isR, i ∉ isC) (hnc : va_nd isC = true)
    {ci : Nat} {T : u_T} {N : Nat} {fs : List Value} (q0 : Nat) (hcl : classes[ci]? = some (C, T, N)) (hcell : wc[q0]? = some (b, .inr (ci, fs)))
    (hsize : ls.size = nL) (hlen : As.length = n) (hst : st0 = As.reverse ++ .ref b :: rest) (hW : 2 * (F0 m pc ls st0).monitorRoom + (rest.map fun v => v.category).sum ≤ 8) (hdg : decode cc pc = .ok (.invokevirtual index, 3)) (hf : cells + mc ≤ R.cells ∧ slots + ms ≤ R.slots)
    (kk : ∀ (o : Option Value) (ws' : va_W) (H1 : Heap) (locs1 : List Loc), post o ws' → va_P D classes ((wr ++ ws') ++ F) H1 → va_D A ((wr ++ ws') ++ F) → va_S A s.heap H1 locs1 → W p l e R s m args below meth c H1 locs1 (cells + mc) (slots + ms) Q (F0 m (pc + 3) ls (o.toList ++ rest))) :
    W p l e R s m args below meth c H locs cells slots Q (F0 m pc ls st0) := by
  refine goWF (va_runV (As := As) (rest := rest) (Ts := TB) (C := C) ⟨hx, hb, hml, hown, hts⟩ hM (cwV n hts ?_ rfl hrc hrs hd hR) ⟨PcW.blind, va_recv hK.1 (cutP (leftP hP) isC hC) hcl hcell, fun U hU hW2 => PcW.pre hU hW2 (cutP (leftP hP) isC hC) (cutD (leftD hD) isC hC hnc) hK⟩ rfl hlen hsize hst hW hdg hf) hP hD hS hA isC isR hC hRr hn hdis kk
  unfold wsV
  exact tb_cons h1 (tb_cons h2 (tb_cons h3 (tb_cons h4 (tb_cons h5 tb_good))))
set_option maxHeartbeats 4000000 in
theorem mcSHF (hx : p.tables.exec = Jvm.exec) (hb : c.code = cc) (hml : c.maxLocals = nL) (hown : s.vm.findClass own = some m.cls) (hts : ∀ w ∈ TB, w.before args s = true) (hK : KK D tys s) (hX : XX s) (hk : ∀ (a : Nat) (cell : Cell), s.heap[a]? = some cell → cell.vm.isStatics = true → H[a]? = some cell)
    (hM : Met l y (.codeWith y bytes maxL ret hs :: TB) rm (PcT D tys As wc H.size) (QW D post (va_A wc H.size)) mc ms (va_A wc H.size))
    (h1 : Cond.methodLink own index y ∈ TB) (h2 : Cond.static y ∈ TB) (h3 : Cond.initialized y.cls ∈ TB) (h5 : Cond.codeWith y bytes maxL ret hs ∈ TB)
    (hd : y.cls ≠ "java/lang/invoke/MethodHandle" ∧ y.cls ≠ "java/lang/invoke/VarHandle" ∧ (parseMethodDescriptor y.desc).map (fun d => d.parameters.length) = some n) (hrc : rm.cells = mc) (hrs : rm.slots = ms) (hR : rm.frames + 1 ≤ R.frames ∧ 8 + (maxL + 11) + rm.locals ≤ R.locals)
    (hP : va_P D classes (ws ++ F) H) (hD : va_D A (ws ++ F)) (hS : va_S A s.heap H locs) (hA : ∀ q, s.heap.size ≤ q → A q)
    (isC isR : List Nat) (hC : isC.map (fun i => ws[i]?) = wc.map some) (hRr : isR.map (fun i => ws[i]?) = wr.map some) (hn : va_nd isR = true) (hdis : ∀ i ∈ isR, i ∉ isC) (hnc : va_nd isC = true)
    (hsize : ls.size = nL) (hlen : As.length = n) (hst : st0 = As.reverse ++ rest) (hW : 2 * (F0 m pc ls st0).monitorRoom + (rest.map fun v => v.category).sum ≤ 8) (hdg : decode cc pc = .ok (.invokestatic index, 3)) (hf : cells + mc ≤ R.cells ∧ slots + ms ≤ R.slots)
    (kk : ∀ (o : Option Value) (ws' : va_W) (H1 : Heap) (locs1 : List Loc), post o ws' → va_P D classes ((wr ++ ws') ++ F) H1 → va_D A ((wr ++ ws') ++ F) → va_S A s.heap H1 locs1 → W p l e R s m args below meth c H1 locs1 (cells + mc) (slots + ms) Q (F0 m (pc + 3) ls (o.toList ++ rest))) :
    W p l e R s m args below meth c H locs cells slots Q (F0 m pc ls st0) := by
  refine goWF (a := As.toArray) (wc := wc) ?_ hP hD hS hA isC isR hC hRr hn hdis kk
  have hgood : ∀ w ∈ (Cond.codeWith y bytes maxL ret hs :: TB), ∀ (a' : Array Value) (U : State), s.WarmedH U.vm → w.before a' U = true := pay_in hts (goodWith h5)
  have hB : Back l R p e below s args y 3 8 (PreOf R mc ms (PcT D tys As wc H.size)) (PostOf (QW D post (va_A wc H.size)) mc ms (va_A wc H.size)) := by
    refine Back.of_freeWith (handlers := hs) (S := headSpec (Cond.codeWith y bytes maxL ret hs :: TB) rm) (P := PcT D tys As wc H.size) (K := fun _ _ _ _ _ => True) (Q := fun a st o t => QW D post (va_A wc H.size) a st o t ∧ ∃ L, FrameEnd st o t L mc ms ∧ ∀ q ∈ L, va_A wc H.size q.base) (bytes := bytes) (maxL := maxL) (ret := ret)
      (E := fun a st o t L k n => k = mc ∧ n = ms ∧ ∀ q ∈ L, va_A wc H.size q.base) hM hR.1 hR.2 ?_ ?_ (fun _ _ _ _ _ _ _ _ _ => trivial) ?_ ?_
    · intro m meth c A a X hp
      exact ⟨atoms_intro fun w hw => hgood w hw _ _ X.warmed, hgood _ List.mem_cons_self _ _ X.warmed, hgood _ (List.mem_cons_of_mem _ h3) _ _ X.warmed, by rw [show (headSpec (Cond.codeWith y bytes maxL ret hs :: TB) rm).room.cells = mc from hrc]; exact hp.1, by rw [show (headSpec (Cond.codeWith y bytes maxL ret hs :: TB) rm).room.slots = ms from hrs]; exact hp.2.1⟩
    · intro m meth c A a g mk X hp
      exact PcT.blind _ _ _ _ hp.2.2
    · intro a st o t ⟨hq, L, hF, hL⟩
      exact ⟨L, mc, ms, hF, rfl, rfl, hL⟩
    · intro m meth c A a g mk v t L k n X hp hq hF ⟨e1, e2, hL⟩
      subst e1; subst e2
      exact ⟨g, mk, t, L, rfl, rfl, hq.1, rfl, hL, rfl, rfl⟩
  obtain ⟨mk, methM, cM, hnamed, hmethM, -, -, -, -, -, -, hsigM⟩ := Cond.codeWith_spec (hts _ h5)
  have hstatic : methM.isStatic = true := Cond.static_spec hnamed hmethM (hts _ h2)
  obtain ⟨kP, hkP, -⟩ := className_of_methodNamed hnamed
  have hinitP : kP.init = .initialized := Cond.initialized_spec (findClass_of_methodNamed hnamed) hkP (hts _ h3)
  intro T hT X
  subst hst
  have hlenA : As.length = methM.sig.parameters.length := by
    have h9 := hd.2.2
    rw [hsigM] at h9
    rw [hlen]; exact (Option.some.inj h9).symm
  obtain ⟨vm₁, X₁, hstep₁⟩ := X.invokestatic hx hown (hts _ h1) hnamed hmethM hstatic hkP hinitP ⟨hd.1, hd.2.1⟩ (g := F0 m pc ls (As.reverse ++ rest)) rfl (argsL := As) (rest := rest) hlenA rfl (by rw [hb]; exact hdg)
  obtain ⟨v, ⟨U', l2, c2, s2⟩, X', ⟨g', mk', t, L, e1, e2, hq, h1', hL, h2', h3'⟩, hsteps⟩ := hB m meth c ⟨T.setVm vm₁, locs, cells, slots⟩ (F0 m pc ls rest) (.invokestatic index) mk As.toArray X₁ rfl (by rw [hml]; exact hsize) (by rw [hb]; exact hdg) hW (X₁.named hnamed)
    ⟨hf.1, hf.2, PcT.pre (U := T.setVm vm₁) hT X₁.warmed (cutP (leftP hP) isC hC) (cutD (leftD hD) isC hC hnc) hK hX hk⟩
  dsimp only [Pt.U, Pt.locs, Pt.cells, Pt.slots] at X' e1 e2 h1' h2' h3' hsteps
  subst h1'; subst h2'; subst h3'
  exact ⟨v, (T.setVm vm₁).calling g' mk' As.toArray, t, U', L, hT, X', hL, e1, e2, hq, fun target h => hstep₁ _ fun acts => by rw [doInvoke_state]; exact hsteps.trans h⟩
end CALLF
