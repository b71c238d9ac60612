def f_MT_machine (n_t_march_rows : Nat) (t_march_elements : Int32) (t_march_rowCount : Int32) (t_march_rows_a : Nat → Int32) (a1 : Int32) : Option ((Int32) ⊕ Nat) :=
  (Option.bind (f_MT_hasMarch t_march_elements) fun q1_1 =>
  (if q1_1 = 0 then
    some (Sum.inr 1)
  else
    (if a1 < 0 then
      some (Sum.inr 0)
    else
      (if a1 < t_march_rowCount then
        (if inB a1 n_t_march_rows = true then
        some (Sum.inl (t_march_rows_a (Int32.toNatClampNeg a1)))
        else none)
      else
        some (Sum.inr 0)))))
def post_MT_machine (h_t h_t_march h_t_march_rows : Nat) (v_t_words v_t_cells v_t_tape v_t_reader v_t_faults v_t_single v_t_tester v_t_plan v_t_draft v_t_march_firstRows : Value) (n_t_march_rows : Nat) (t_march_elements : Int32) (t_march_rowCount : Int32) (t_march_rows_a : Nat → Int32) (cI cB cJ : ClassId) (res : Int32) : Option Value → va_W → Prop := fun o ws' => o = some (.int res) ∧ ws' = [(h_t, .inr (0, [v_t_words, v_t_cells, v_t_tape, v_t_reader, v_t_faults, v_t_single, v_t_tester, v_t_plan, .ref h_t_march, v_t_draft])), (h_t_march, .inr (4, [.ref h_t_march_rows, v_t_march_firstRows, .int t_march_elements, .int t_march_rowCount])), (h_t_march_rows, .inl (cI, n_t_march_rows, .inl t_march_rows_a))]
abbrev rm_MT_machine : Room := { frames := 1, cells := 0, slots := 0, locals := 20 }
set_option maxHeartbeats 4000000 in
set_option maxRecDepth 100000 in
theorem c_MT_machine (l : Launch) (D : va_G) (cI cB cJ : ClassId) (h_t h_t_march h_t_march_rows : Nat) (v_t_words v_t_cells v_t_tape v_t_reader v_t_faults v_t_single v_t_tester v_t_plan v_t_draft v_t_march_firstRows : Value) (n_t_march_rows : Nat) (t_march_elements : Int32) (t_march_rowCount : Int32) (t_march_rows_a : Nat → Int32) (a1 : Int32) (sz : Nat) (res : Int32) (hf : f_MT_machine n_t_march_rows t_march_elements t_march_rowCount t_march_rows_a a1 = some (Sum.inl res)) : Met l y_MT_machine (.code y_MT_machine b_MT_machine 2 (some .int) :: TB) rm_MT_machine (PcW D [(cI, .int), (cB, .byte), (cJ, .long)] [.ref h_t, .int a1] [(h_t, .inr (0, [v_t_words, v_t_cells, v_t_tape, v_t_reader, v_t_faults, v_t_single, v_t_tester, v_t_plan, .ref h_t_march, v_t_draft])), (h_t_march, .inr (4, [.ref h_t_march_rows, v_t_march_firstRows, .int t_march_elements, .int t_march_rowCount])), (h_t_march_rows, .inl (cI, n_t_march_rows, .inl t_march_rows_a))] sz) (QW D (post_MT_machine h_t h_t_march h_t_march_rows v_t_words v_t_cells v_t_tape v_t_reader v_t_faults v_t_single v_t_tester v_t_plan v_t_draft v_t_march_firstRows n_t_march_rows t_march_elements t_march_rowCount t_march_rows_a cI cB cJ res) (va_A [(h_t, .inr (0, [v_t_words, v_t_cells, v_t_tape, v_t_reader, v_t_faults, v_t_single, v_t_tester, v_t_plan, .ref h_t_march, v_t_draft])), (h_t_march, .inr (4, [.ref h_t_march_rows, v_t_march_firstRows, .int t_march_elements, .int t_march_rowCount])), (h_t_march_rows, .inl (cI, n_t_march_rows, .inl t_march_rows_a))] sz)) 0 0 (va_A [(h_t, .inr (0, [v_t_words, v_t_cells, v_t_tape, v_t_reader, v_t_faults, v_t_single, v_t_tester, v_t_plan, .ref h_t_march, v_t_draft])), (h_t_march, .inr (4, [.ref h_t_march_rows, v_t_march_firstRows, .int t_march_elements, .int t_march_rowCount])), (h_t_march_rows, .inl (cI, n_t_march_rows, .inl t_march_rows_a))] sz) := by
  refine entW ⟨by decide +kernel, rfl⟩ fun p e s m below meth c C0 hP hD hsz ls hl => ?_
  subst hsz
  generalize hAe : va_A [(h_t, .inr (0, [v_t_words, v_t_cells, v_t_tape, v_t_reader, v_t_faults, v_t_single, v_t_tester, v_t_plan, .ref h_t_march, v_t_draft])), (h_t_march, .inr (4, [.ref h_t_march_rows, v_t_march_firstRows, .int t_march_elements, .int t_march_rowCount])), (h_t_march_rows, .inl (cI, n_t_march_rows, .inl t_march_rows_a))] s.heap.size = A at hD ⊢
  have hA : ∀ q : Nat, s.heap.size ≤ q → A q := fun q h => by rw [← hAe]; exact Or.inr h
  clear hAe
  have hS : va_S A s.heap s.heap [] := va_S.rf
  have hl : lv_has ls 2 [(0, .ref h_t), (1, .int a1)] := hl
  obtain ⟨hx, hb, hml, hr, hlocks, hts, hown, hK, hin⟩ := id C0
  have hf : (((
  (Option.bind (f_MT_hasMarch t_march_elements) fun q1_1 =>
  (if q1_1 = 0 then
    some (Sum.inr 1)
  else
    (if a1 < 0 then
      some (Sum.inr 0)
    else
      (if a1 < t_march_rowCount then
        (if inB a1 n_t_march_rows = true then
        some (Sum.inl (t_march_rows_a (Int32.toNatClampNeg a1)))
        else none)
      else
        some (Sum.inr 0))))))) : Option ((Int32) ⊕ Nat)) = some (Sum.inl res) := hf
  obtain ⟨H, hH⟩ : ∃ H, H = s.heap := ⟨_, rfl⟩
  obtain ⟨locs, hlo⟩ : ∃ x : List Loc, x = [] := ⟨_, rfl⟩
  rw [← hlo] at hS ⊢
  have hP : va_P D classes [(h_t, .inr (0, [v_t_words, v_t_cells, v_t_tape, v_t_reader, v_t_faults, v_t_single, v_t_tester, v_t_plan, .ref h_t_march, v_t_draft])), (h_t_march, .inr (4, [.ref h_t_march_rows, v_t_march_firstRows, .int t_march_elements, .int t_march_rowCount])), (h_t_march_rows, .inl (cI, n_t_march_rows, .inl t_march_rows_a))] H := by rw [hH]; exact hP
  have hS : va_S A s.heap H locs := by rw [hH]; exact hS
  show W p l e rm_MT_machine s m _ below meth c s.heap locs 0 0 (MQ below (QW D (post_MT_machine h_t h_t_march h_t_march_rows v_t_words v_t_cells v_t_tape v_t_reader v_t_faults v_t_single v_t_tester v_t_plan v_t_draft v_t_march_firstRows n_t_march_rows t_march_elements t_march_rowCount t_march_rows_a cI cB cJ res) A) _ s 0 0 A) (F0 m 0 ls [])
  refine wheap hH ?_
  clear hH hlo
  refine lv_aload_n hx hb d_MT_machine_0 rfl (lv_at hl 0 rfl) ?_
  obtain ⟨q1_1, hc, hf⟩ := bindS hf
  refine mcV (n := 0) (As := []) (rest := []) (wr := [(h_t_march_rows, .inl (cI, n_t_march_rows, .inl t_march_rows_a))]) hx hb hml hown hts hK (c_MT_hasMarch (l := l) (D := D) (cI := cI) (cB := cB) (cJ := cJ) (h_t := h_t) (h_t_march := h_t_march) (v_t_words := v_t_words) (v_t_cells := v_t_cells) (v_t_tape := v_t_tape) (v_t_reader := v_t_reader) (v_t_faults := v_t_faults) (v_t_single := v_t_single) (v_t_tester := v_t_tester) (v_t_plan := v_t_plan) (v_t_draft := v_t_draft) (v_t_march_rows := (.ref h_t_march_rows)) (v_t_march_firstRows := v_t_march_firstRows) (v_t_march_rowCount := (.int t_march_rowCount)) (t_march_elements := t_march_elements) (sz := H.size) (res := q1_1) (hf := hc)) w_288 w_289 w_290 w_187 w_291 (by decide +kernel) rfl rfl ⟨Nat.le_of_ble_eq_true rfl, Nat.le_of_ble_eq_true rfl⟩ hP hD hS hA [0, 1] [2] rfl rfl (by decide) (by decide) (by decide) (ci := 0) 0 rfl rfl hl.1 rfl rfl (lv_room (Nat.le_of_ble_eq_true rfl)) d_MT_machine_1 ⟨Nat.le_of_ble_eq_true rfl, Nat.le_of_ble_eq_true rfl⟩ (fun o ws' H locs hp hP hD hS => ?_)
  obtain ⟨rfl, rfl⟩ := hp
  have hP : va_P D classes [(h_t, .inr (0, [v_t_words, v_t_cells, v_t_tape, v_t_reader, v_t_faults, v_t_single, v_t_tester, v_t_plan, .ref h_t_march, v_t_draft])), (h_t_march, .inr (4, [.ref h_t_march_rows, v_t_march_firstRows, .int t_march_elements, .int t_march_rowCount])), (h_t_march_rows, .inl (cI, n_t_march_rows, .inl t_march_rows_a))] H := hP.sub [1, 2, 0] rfl
  have hD : va_D A [(h_t, .inr (0, [v_t_words, v_t_cells, v_t_tape, v_t_reader, v_t_faults, v_t_single, v_t_tester, v_t_plan, .ref h_t_march, v_t_draft])), (h_t_march, .inr (4, [.ref h_t_march_rows, v_t_march_firstRows, .int t_march_elements, .int t_march_rowCount])), (h_t_march_rows, .inl (cI, n_t_march_rows, .inl t_march_rows_a))] := hD.sub [1, 2, 0] (by decide) rfl
  refine lv_if_ne (tgt := 17) hx hb d_MT_machine_4 (by decide) (fun cc4 => ?_) (fun cc4 => ?_)
  · have hf := ifF cc4 hf
    refine lv_iload_n hx hb d_MT_machine_17 rfl (lv_at hl 1 rfl) ?_
    refine lv_if_lt (tgt := 32) hx hb d_MT_machine_18 (by decide) (fun cc18 => ?_) (fun cc18 => ?_)
    · have hf := ifT cc18 hf
      exact absurd hf (by simp)
    · have hf := ifF cc18 hf
      refine lv_iload_n hx hb d_MT_machine_21 rfl (lv_at hl 1 rfl) ?_
      refine lv_aload_n hx hb d_MT_machine_22 rfl (lv_at hl 0 rfl) ?_
      refine va_get (D := D) (ci := 0) (v := .ref h_t_march) (C := R_MT) (T := F_MT) (N := 10) hx hb hts i_MT hown hK.1 hP 0 rfl rfl 8 (by decide) (hts _ w_111) (fun _ h9 => h9) rfl d_MT_machine_23 ?_
      refine va_get (D := D) (ci := 4) (v := .int t_march_rowCount) (C := R_March) (T := F_March) (N := 4) hx hb hts i_March hown hK.1 hP 1 rfl rfl 3 (by decide) (hts _ w_305) (fun _ h9 => h9) rfl d_MT_machine_26 ?_
      refine lv_icmp_lt (tgt := 42) hx hb d_MT_machine_29 (by decide) (fun cc29 => ?_) (fun cc29 => ?_)
      · have hf := ifT cc29 hf
        refine lv_aload_n hx hb d_MT_machine_42 rfl (lv_at hl 0 rfl) ?_
        refine va_get (D := D) (ci := 0) (v := .ref h_t_march) (C := R_MT) (T := F_MT) (N := 10) hx hb hts i_MT hown hK.1 hP 0 rfl rfl 8 (by decide) (hts _ w_111) (fun _ h9 => h9) rfl d_MT_machine_43 ?_
        refine va_get (D := D) (ci := 4) (v := .ref h_t_march_rows) (C := R_March) (T := F_March) (N := 4) hx hb hts i_March hown hK.1 hP 1 rfl rfl 0 (by decide) (hts _ w_306) (fun _ h9 => h9) rfl d_MT_machine_46 ?_
        refine lv_iload_n hx hb d_MT_machine_49 rfl (lv_at hl 1 rfl) ?_
        obtain ⟨hin1, hf⟩ := ifG hf
        refine va_iald hx hb hK.1 hP 2 0 rfl rfl (inB_in hin1) d_MT_machine_50 ?_
        obtain rfl := Sum.inl.inj (Option.some.inj hf)
        exact ret_i hx hb hr hlocks hP hD hS ⟨rfl, rfl⟩ d_MT_machine_51
      · have hf := ifF cc29 hf
        exact absurd hf (by simp)
  · have hf := ifT cc4 hf
    exact absurd hf (by simp)
def f_MT_isWord (t_words : Int32) (a1 : Int32) : Option (Int32) :=
  (if a1 < 0 then
    some 0
  else
    (if t_words ≤ a1 then
      some 0
    else
      some 1))
def post_MT_isWord (h_t : Nat) (v_t_cells v_t_tape v_t_reader v_t_faults v_t_single v_t_tester v_t_plan v_t_march v_t_draft : Value) (t_words : Int32) (cI cB cJ : ClassId) (res : Int32) : Option Value → va_W → Prop := fun o ws' => o = some (.int res) ∧ ws' = [(h_t, .inr (0, [.int t_words, v_t_cells, v_t_tape, v_t_reader, v_t_faults, v_t_single, v_t_tester, v_t_plan, v_t_march, v_t_draft]))]
abbrev rm_MT_isWord : Room := { frames := 0, cells := 0, slots := 0, locals := 0 }
set_option maxHeartbeats 4000000 in
set_option maxRecDepth 100000 in
theorem c_MT_isWord (l : Launch) (D : va_G) (cI cB cJ : ClassId) (h_t : Nat) (v_t_cells v_t_tape v_t_reader v_t_faults v_t_single v_t_tester v_t_plan v_t_march v_t_draft : Value) (t_words : Int32) (a1 : Int32) (sz : Nat) (res : Int32) (hf : f_MT_isWord t_words a1 = some res) : Met l y_MT_isWord (.code y_MT_isWord b_MT_isWord 2 (some .boolean) :: TB) rm_MT_isWord (PcW D [(cI, .int), (cB, .byte), (cJ, .long)] [.ref h_t, .int a1] [(h_t, .inr (0, [.int t_words, v_t_cells, v_t_tape, v_t_reader, v_t_faults, v_t_single, v_t_tester, v_t_plan, v_t_march, v_t_draft]))] sz) (QW D (post_MT_isWord h_t v_t_cells v_t_tape v_t_reader v_t_faults v_t_single v_t_tester v_t_plan v_t_march v_t_draft t_words cI cB cJ res) (va_A [(h_t, .inr (0, [.int t_words, v_t_cells, v_t_tape, v_t_reader, v_t_faults, v_t_single, v_t_tester, v_t_plan, v_t_march, v_t_draft]))] sz)) 0 0 (va_A [(h_t, .inr (0, [.int t_words, v_t_cells, v_t_tape, v_t_reader, v_t_faults, v_t_single, v_t_tester, v_t_plan, v_t_march, v_t_draft]))] sz) := by
  refine entW ⟨by decide +kernel, rfl⟩ fun p e s m below meth c C0 hP hD hsz ls hl => ?_
  subst hsz
  generalize hAe : va_A [(h_t, .inr (0, [.int t_words, v_t_cells, v_t_tape, v_t_reader, v_t_faults, v_t_single, v_t_tester, v_t_plan, v_t_march, v_t_draft]))] s.heap.size = A at hD ⊢
  have hA : ∀ q : Nat, s.heap.size ≤ q → A q := fun q h => by rw [← hAe]; exact Or.inr h
  clear hAe
  have hS : va_S A s.heap s.heap [] := va_S.rf
  have hl : lv_has ls 2 [(0, .ref h_t), (1, .int a1)] := hl
  obtain ⟨hx, hb, hml, hr, hlocks, hts, hown, hK, hin⟩ := id C0
  have hf : (((
  (if a1 < 0 then
    some 0
  else
    (if t_words ≤ a1 then
      some 0
    else
      some 1)))) : Option (Int32)) = some res := hf
  obtain ⟨H, hH⟩ : ∃ H, H = s.heap := ⟨_, rfl⟩
  obtain ⟨locs, hlo⟩ : ∃ x : List Loc, x = [] := ⟨_, rfl⟩
  rw [← hlo] at hS ⊢
  have hP : va_P D classes [(h_t, .inr (0, [.int t_words, v_t_cells, v_t_tape, v_t_reader, v_t_faults, v_t_single, v_t_tester, v_t_plan, v_t_march, v_t_draft]))] H := by rw [hH]; exact hP
  have hS : va_S A s.heap H locs := by rw [hH]; exact hS
  show W p l e rm_MT_isWord s m _ below meth c s.heap locs 0 0 (MQ below (QW D (post_MT_isWord h_t v_t_cells v_t_tape v_t_reader v_t_faults v_t_single v_t_tester v_t_plan v_t_march v_t_draft t_words cI cB cJ res) A) _ s 0 0 A) (F0 m 0 ls [])
  refine wheap hH ?_
  clear hH hlo
  refine lv_iload_n hx hb d_MT_isWord_0 rfl (lv_at hl 1 rfl) ?_
  refine lv_if_lt (tgt := 16) hx hb d_MT_isWord_1 (by decide) (fun cc1 => ?_) (fun cc1 => ?_)
  · have hf := ifT cc1 hf
    refine lv_iconst (v := 0) hx hb d_MT_isWord_16 (by decide) ?_
    obtain rfl := Option.some.inj hf
    exact ret_z hx hb hr rfl hlocks hP hD hS ⟨rfl, rfl⟩ d_MT_isWord_17
  · have hf := ifF cc1 hf
    refine lv_iload_n hx hb d_MT_isWord_4 rfl (lv_at hl 1 rfl) ?_
    refine lv_aload_n hx hb d_MT_isWord_5 rfl (lv_at hl 0 rfl) ?_
    refine va_get (D := D) (ci := 0) (v := .int t_words) (C := R_MT) (T := F_MT) (N := 10) hx hb hts i_MT hown hK.1 hP 0 rfl rfl 0 (by decide) (hts _ w_71) (fun _ h9 => h9) rfl d_MT_isWord_6 ?_
    refine lv_icmp_ge (tgt := 16) hx hb d_MT_isWord_9 (by decide) (fun cc9 => ?_) (fun cc9 => ?_)
    · have hf := ifT cc9 hf
      refine lv_iconst (v := 0) hx hb d_MT_isWord_16 (by decide) ?_
      obtain rfl := Option.some.inj hf
      exact ret_z hx hb hr rfl hlocks hP hD hS ⟨rfl, rfl⟩ d_MT_isWord_17
    · have hf := ifF cc9 hf
      refine lv_iconst (v := 1) hx hb d_MT_isWord_12 (by decide) ?_
      refine lv_goto (tgt := 17) hx hb d_MT_isWord_13 (by decide) ?_
      obtain rfl := Option.some.inj hf
      exact ret_z hx hb hr rfl hlocks hP hD hS ⟨rfl, rfl⟩ d_MT_isWord_17
def f_Tester_exchange (n_t_scrambled : Nat) (t_scrambled_a : Nat → Int32) (a1 : Int32) (a2 : Int32) : Option ((Nat → Int32)) :=
  (if inB a1 n_t_scrambled = true then
  (if inB a2 n_t_scrambled = true then
  (if inB a1 n_t_scrambled = true then
  (if inB a2 n_t_scrambled = true then
  some (upd (upd t_scrambled_a (Int32.toNatClampNeg a1) (t_scrambled_a (Int32.toNatClampNeg a2))) (Int32.toNatClampNeg a2) (t_scrambled_a (Int32.toNatClampNeg a1)))
  else none)
  else none)
  else none)
  else none)
def post_Tester_exchange (h_t h_t_scrambled : Nat) (v_t_failures v_t_ports v_t_groundKind v_t_words v_t_allBits v_t_memory v_t_wordAt v_t_zeroOf : Value) (n_t_scrambled : Nat) (cI cB cJ : ClassId) (res : (Nat → Int32)) : Option Value → va_W → Prop := fun o ws' => o = none ∧ ws' = [(h_t, .inr (8, [v_t_failures, v_t_ports, v_t_groundKind, v_t_words, v_t_allBits, v_t_memory, .ref h_t_scrambled, v_t_wordAt, v_t_zeroOf])), (h_t_scrambled, .inl (cI, n_t_scrambled, .inl res))]
abbrev rm_Tester_exchange : Room := { frames := 0, cells := 0, slots := 0, locals := 0 }
set_option maxHeartbeats 4000000 in
set_option maxRecDepth 100000 in
theorem c_Tester_exchange (l : Launch) (D : va_G) (cI cB cJ : ClassId) (h_t h_t_scrambled : Nat) (v_t_failures v_t_ports v_t_groundKind v_t_words v_t_allBits v_t_memory v_t_wordAt v_t_zeroOf : Value) (n_t_scrambled : Nat) (t_scrambled_a : Nat → Int32) (a1 : Int32) (a2 : Int32) (sz : Nat) (res : (Nat → Int32)) (hf : f_Tester_exchange n_t_scrambled t_scrambled_a a1 a2 = some res) : Met l y_Tester_exchange (.code y_Tester_exchange b_Tester_exchange 4 none :: TB) rm_Tester_exchange (PcW D [(cI, .int), (cB, .byte), (cJ, .long)] [.ref h_t, .int a1, .int a2] [(h_t, .inr (8, [v_t_failures, v_t_ports, v_t_groundKind, v_t_words, v_t_allBits, v_t_memory, .ref h_t_scrambled, v_t_wordAt, v_t_zeroOf])), (h_t_scrambled, .inl (cI, n_t_scrambled, .inl t_scrambled_a))] sz) (QW D (post_Tester_exchange h_t h_t_scrambled v_t_failures v_t_ports v_t_groundKind v_t_words v_t_allBits v_t_memory v_t_wordAt v_t_zeroOf n_t_scrambled cI cB cJ res) (va_A [(h_t, .inr (8, [v_t_failures, v_t_ports, v_t_groundKind, v_t_words, v_t_allBits, v_t_memory, .ref h_t_scrambled, v_t_wordAt, v_t_zeroOf])), (h_t_scrambled, .inl (cI, n_t_scrambled, .inl t_scrambled_a))] sz)) 0 0 (va_A [(h_t, .inr (8, [v_t_failures, v_t_ports, v_t_groundKind, v_t_words, v_t_allBits, v_t_memory, .ref h_t_scrambled, v_t_wordAt, v_t_zeroOf])), (h_t_scrambled, .inl (cI, n_t_scrambled, .inl t_scrambled_a))] sz) := by
  refine entW ⟨by decide +kernel, rfl⟩ fun p e s m below meth c C0 hP hD hsz ls hl => ?_
  subst hsz
  generalize hAe : va_A [(h_t, .inr (8, [v_t_failures, v_t_ports, v_t_groundKind, v_t_words, v_t_allBits, v_t_memory, .ref h_t_scrambled, v_t_wordAt, v_t_zeroOf])), (h_t_scrambled, .inl (cI, n_t_scrambled, .inl t_scrambled_a))] s.heap.size = A at hD ⊢
  have hA : ∀ q : Nat, s.heap.size ≤ q → A q := fun q h => by rw [← hAe]; exact Or.inr h
  clear hAe
  have hS : va_S A s.heap s.heap [] := va_S.rf
  have hl : lv_has ls 4 [(0, .ref h_t), (1, .int a1), (2, .int a2)] := hl
  obtain ⟨hx, hb, hml, hr, hlocks, hts, hown, hK, hin⟩ := id C0
  have hf : (((
  (if inB a1 n_t_scrambled = true then
  (if inB a2 n_t_scrambled = true then
  (if inB a1 n_t_scrambled = true then
  (if inB a2 n_t_scrambled = true then
  some (upd (upd t_scrambled_a (Int32.toNatClampNeg a1) (t_scrambled_a (Int32.toNatClampNeg a2))) (Int32.toNatClampNeg a2) (t_scrambled_a (Int32.toNatClampNeg a1)))
  else none)
  else none)
  else none)
  else none))) : Option ((Nat → Int32))) = some res := hf
  obtain ⟨H, hH⟩ : ∃ H, H = s.heap := ⟨_, rfl⟩
  obtain ⟨locs, hlo⟩ : ∃ x : List Loc, x = [] := ⟨_, rfl⟩
  rw [← hlo] at hS ⊢
  have hP : va_P D classes [(h_t, .inr (8, [v_t_failures, v_t_ports, v_t_groundKind, v_t_words, v_t_allBits, v_t_memory, .ref h_t_scrambled, v_t_wordAt, v_t_zeroOf])), (h_t_scrambled, .inl (cI, n_t_scrambled, .inl t_scrambled_a))] H := by rw [hH]; exact hP
  have hS : va_S A s.heap H locs := by rw [hH]; exact hS
  show W p l e rm_Tester_exchange s m _ below meth c s.heap locs 0 0 (MQ below (QW D (post_Tester_exchange h_t h_t_scrambled v_t_failures v_t_ports v_t_groundKind v_t_words v_t_allBits v_t_memory v_t_wordAt v_t_zeroOf n_t_scrambled cI cB cJ res) A) _ s 0 0 A) (F0 m 0 ls [])
  refine wheap hH ?_
  clear hH hlo
  refine lv_aload_n hx hb d_Tester_exchange_0 rfl (lv_at hl 0 rfl) ?_
  refine va_get (D := D) (ci := 8) (v := .ref h_t_scrambled) (C := R_Tester) (T := F_Tester) (N := 9) hx hb hts i_Tester hown hK.1 hP 0 rfl rfl 6 (by decide) (hts _ w_53) (fun _ h9 => h9) rfl d_Tester_exchange_1 ?_
  refine lv_iload_n hx hb d_Tester_exchange_4 rfl (lv_at hl 1 rfl) ?_
  obtain ⟨hin1, hf⟩ := ifG hf
  refine va_iald hx hb hK.1 hP 1 0 rfl rfl (inB_in hin1) d_Tester_exchange_5 ?_
  refine lv_istore_n (lv' := [(3, .int (t_scrambled_a (Int32.toNatClampNeg a1))), (0, .ref h_t), (1, .int a1), (2, .int a2)]) hx hb d_Tester_exchange_6 rfl hl (by decide) rfl (fun ls hl => ?_)
  refine lv_aload_n hx hb d_Tester_exchange_7 rfl (lv_at hl 1 rfl) ?_
  refine va_get (D := D) (ci := 8) (v := .ref h_t_scrambled) (C := R_Tester) (T := F_Tester) (N := 9) hx hb hts i_Tester hown hK.1 hP 0 rfl rfl 6 (by decide) (hts _ w_53) (fun _ h9 => h9) rfl d_Tester_exchange_8 ?_
  refine lv_iload_n hx hb d_Tester_exchange_11 rfl (lv_at hl 2 rfl) ?_
  refine lv_aload_n hx hb d_Tester_exchange_12 rfl (lv_at hl 1 rfl) ?_
  refine va_get (D := D) (ci := 8) (v := .ref h_t_scrambled) (C := R_Tester) (T := F_Tester) (N := 9) hx hb hts i_Tester hown hK.1 hP 0 rfl rfl 6 (by decide) (hts _ w_53) (fun _ h9 => h9) rfl d_Tester_exchange_13 ?_
  refine lv_iload_n hx hb d_Tester_exchange_16 rfl (lv_at hl 3 rfl) ?_
  obtain ⟨hin1, hf⟩ := ifG hf
  refine va_iald hx hb hK.1 hP 1 0 rfl rfl (inB_in hin1) d_Tester_exchange_17 ?_
  obtain ⟨hin1, hf⟩ := ifG hf
  refine va_iast hx hb hK.1 hP hD hS 1 0 rfl rfl (inB_in hin1) d_Tester_exchange_18 (fun H locs hP hD hS => ?_)
  have hP : va_P D classes [(h_t, .inr (8, [v_t_failures, v_t_ports, v_t_groundKind, v_t_words, v_t_allBits, v_t_memory, .ref h_t_scrambled, v_t_wordAt, v_t_zeroOf])), (h_t_scrambled, .inl (cI, n_t_scrambled, .inl (upd t_scrambled_a (Int32.toNatClampNeg a1) (t_scrambled_a (Int32.toNatClampNeg a2)))))] H := hP
  have hD : va_D A [(h_t, .inr (8, [v_t_failures, v_t_ports, v_t_groundKind, v_t_words, v_t_allBits, v_t_memory, .ref h_t_scrambled, v_t_wordAt, v_t_zeroOf])), (h_t_scrambled, .inl (cI, n_t_scrambled, .inl (upd t_scrambled_a (Int32.toNatClampNeg a1) (t_scrambled_a (Int32.toNatClampNeg a2)))))] := hD
  refine lv_aload_n hx hb d_Tester_exchange_19 rfl (lv_at hl 1 rfl) ?_
  refine va_get (D := D) (ci := 8) (v := .ref h_t_scrambled) (C := R_Tester) (T := F_Tester) (N := 9) hx hb hts i_Tester hown hK.1 hP 0 rfl rfl 6 (by decide) (hts _ w_53) (fun _ h9 => h9) rfl d_Tester_exchange_20 ?_
  refine lv_iload_n hx hb d_Tester_exchange_23 rfl (lv_at hl 3 rfl) ?_
  refine lv_iload_n hx hb d_Tester_exchange_24 rfl (lv_at hl 0 rfl) ?_
  obtain ⟨hin1, hf⟩ := ifG hf
  refine va_iast hx hb hK.1 hP hD hS 1 0 rfl rfl (inB_in hin1) d_Tester_exchange_25 (fun H locs hP hD hS => ?_)
  have hP : va_P D classes [(h_t, .inr (8, [v_t_failures, v_t_ports, v_t_groundKind, v_t_words, v_t_allBits, v_t_memory, .ref h_t_scrambled, v_t_wordAt, v_t_zeroOf])), (h_t_scrambled, .inl (cI, n_t_scrambled, .inl (upd (upd t_scrambled_a (Int32.toNatClampNeg a1) (t_scrambled_a (Int32.toNatClampNeg a2))) (Int32.toNatClampNeg a2) (t_scrambled_a (Int32.toNatClampNeg a1)))))] H := hP
  have hD : va_D A [(h_t, .inr (8, [v_t_failures, v_t_ports, v_t_groundKind, v_t_words, v_t_allBits, v_t_memory, .ref h_t_scrambled, v_t_wordAt, v_t_zeroOf])), (h_t_scrambled, .inl (cI, n_t_scrambled, .inl (upd (upd t_scrambled_a (Int32.toNatClampNeg a1) (t_scrambled_a (Int32.toNatClampNeg a2))) (Int32.toNatClampNeg a2) (t_scrambled_a (Int32.toNatClampNeg a1)))))] := hD
  obtain rfl := Option.some.inj hf
  exact ret_v hx hb hr hlocks hP hD hS ⟨rfl, rfl⟩ d_Tester_exchange_26
def f_MT_scramble (n_t_tester_scrambled : Nat) (t_words : Int32) (t_tester_scrambled_a : Nat → Int32) (a1 : Int32) (a2 : Int32) : Option ((Int32 × (Nat → Int32)) ⊕ Nat) :=
  (Option.bind (f_MT_isWord t_words a1) fun q2_1 =>
  (if q2_1 = 0 then
    some (Sum.inr 0)
  else
    (Option.bind (f_MT_isWord t_words a2) fun q10_2 =>
    (if q10_2 = 0 then
      some (Sum.inr 0)
    else
      (Option.bind (f_Tester_exchange n_t_tester_scrambled t_tester_scrambled_a a1 a2) fun q32_3 =>
      (if a1 = a2 then
        some (Sum.inl (0, q32_3))
      else
        some (Sum.inl (1, q32_3))))))))
def post_MT_scramble (h_t h_t_tester h_t_tester_scrambled : Nat) (v_t_cells v_t_tape v_t_reader v_t_faults v_t_single v_t_plan v_t_march v_t_draft v_t_tester_failures v_t_tester_ports v_t_tester_groundKind v_t_tester_words v_t_tester_allBits v_t_tester_memory v_t_tester_wordAt v_t_tester_zeroOf : Value) (n_t_tester_scrambled : Nat) (t_words : Int32) (cI cB cJ : ClassId) (res : Int32 × (Nat → Int32)) : Option Value → va_W → Prop := fun o ws' => o = some (.int res.1) ∧ ws' = [(h_t, .inr (0, [.int t_words, v_t_cells, v_t_tape, v_t_reader, v_t_faults, v_t_single, .ref h_t_tester, v_t_plan, v_t_march, v_t_draft])), (h_t_tester, .inr (8, [v_t_tester_failures, v_t_tester_ports, v_t_tester_groundKind, v_t_tester_words, v_t_tester_allBits, v_t_tester_memory, .ref h_t_tester_scrambled, v_t_tester_wordAt, v_t_tester_zeroOf])), (h_t_tester_scrambled, .inl (cI, n_t_tester_scrambled, .inl res.2))]
abbrev rm_MT_scramble : Room := { frames := 1, cells := 0, slots := 0, locals := 23 }
set_option maxHeartbeats 4000000 in
set_option maxRecDepth 100000 in
theorem c_MT_scramble (l : Launch) (D : va_G) (cI cB cJ : ClassId) (h_t h_t_tester h_t_tester_scrambled : Nat) (v_t_cells v_t_tape v_t_reader v_t_faults v_t_single v_t_plan v_t_march v_t_draft v_t_tester_failures v_t_tester_ports v_t_tester_groundKind v_t_tester_words v_t_tester_allBits v_t_tester_memory v_t_tester_wordAt v_t_tester_zeroOf : Value) (n_t_tester_scrambled : Nat) (t_words : Int32) (t_tester_scrambled_a : Nat → Int32) (a1 : Int32) (a2 : Int32) (sz : Nat) (res : Int32 × (Nat → Int32)) (hf : f_MT_scramble n_t_tester_scrambled t_words t_tester_scrambled_a a1 a2 = some (Sum.inl res)) : Met l y_MT_scramble (.code y_MT_scramble b_MT_scramble 3 (some .boolean) :: TB) rm_MT_scramble (PcW D [(cI, .int), (cB, .byte), (cJ, .long)] [.ref h_t, .int a1, .int a2] [(h_t, .inr (0, [.int t_words, v_t_cells, v_t_tape, v_t_reader, v_t_faults, v_t_single, .ref h_t_tester, v_t_plan, v_t_march, v_t_draft])), (h_t_tester, .inr (8, [v_t_tester_failures, v_t_tester_ports, v_t_tester_groundKind, v_t_tester_words, v_t_tester_allBits, v_t_tester_memory, .ref h_t_tester_scrambled, v_t_tester_wordAt, v_t_tester_zeroOf])), (h_t_tester_scrambled, .inl (cI, n_t_tester_scrambled, .inl t_tester_scrambled_a))] sz) (QW D (post_MT_scramble h_t h_t_tester h_t_tester_scrambled v_t_cells v_t_tape v_t_reader v_t_faults v_t_single v_t_plan v_t_march v_t_draft v_t_tester_failures v_t_tester_ports v_t_tester_groundKind v_t_tester_words v_t_tester_allBits v_t_tester_memory v_t_tester_wordAt v_t_tester_zeroOf n_t_tester_scrambled t_words cI cB cJ res) (va_A [(h_t, .inr (0, [.int t_words, v_t_cells, v_t_tape, v_t_reader, v_t_faults, v_t_single, .ref h_t_tester, v_t_plan, v_t_march, v_t_draft])), (h_t_tester, .inr (8, [v_t_tester_failures, v_t_tester_ports, v_t_tester_groundKind, v_t_tester_words, v_t_tester_allBits, v_t_tester_memory, .ref h_t_tester_scrambled, v_t_tester_wordAt, v_t_tester_zeroOf])), (h_t_tester_scrambled, .inl (cI, n_t_tester_scrambled, .inl t_tester_scrambled_a))] sz)) 0 0 (va_A [(h_t, .inr (0, [.int t_words, v_t_cells, v_t_tape, v_t_reader, v_t_faults, v_t_single, .ref h_t_tester, v_t_plan, v_t_march, v_t_draft])), (h_t_tester, .inr (8, [v_t_tester_failures, v_t_tester_ports, v_t_tester_groundKind, v_t_tester_words, v_t_tester_allBits, v_t_tester_memory, .ref h_t_tester_scrambled, v_t_tester_wordAt, v_t_tester_zeroOf])), (h_t_tester_scrambled, .inl (cI, n_t_tester_scrambled, .inl t_tester_scrambled_a))] sz) := by
  refine entW ⟨by decide +kernel, rfl⟩ fun p e s m below meth c C0 hP hD hsz ls hl => ?_
  subst hsz
  generalize hAe : va_A [(h_t, .inr (0, [.int t_words, v_t_cells, v_t_tape, v_t_reader, v_t_faults, v_t_single, .ref h_t_tester, v_t_plan, v_t_march, v_t_draft])), (h_t_tester, .inr (8, [v_t_tester_failures, v_t_tester_ports, v_t_tester_groundKind, v_t_tester_words, v_t_tester_allBits, v_t_tester_memory, .ref h_t_tester_scrambled, v_t_tester_wordAt, v_t_tester_zeroOf])), (h_t_tester_scrambled, .inl (cI, n_t_tester_scrambled, .inl t_tester_scrambled_a))] s.heap.size = A at hD ⊢
  have hA : ∀ q : Nat, s.heap.size ≤ q → A q := fun q h => by rw [← hAe]; exact Or.inr h
  clear hAe
  have hS : va_S A s.heap s.heap [] := va_S.rf
  have hl : lv_has ls 3 [(0, .ref h_t), (1, .int a1), (2, .int a2)] := hl
  obtain ⟨hx, hb, hml, hr, hlocks, hts, hown, hK, hin⟩ := id C0
  have hf : (((
  (Option.bind (f_MT_isWord t_words a1) fun q2_1 =>
  (if q2_1 = 0 then
    some (Sum.inr 0)
  else
    (Option.bind (f_MT_isWord t_words a2) fun q10_2 =>
    (if q10_2 = 0 then
      some (Sum.inr 0)
    else
      (Option.bind (f_Tester_exchange n_t_tester_scrambled t_tester_scrambled_a a1 a2) fun q32_3 =>
      (if a1 = a2 then
        some (Sum.inl (0, q32_3))
      else
        some (Sum.inl (1, q32_3)))))))))) : Option ((Int32 × (Nat → Int32)) ⊕ Nat)) = some (Sum.inl res) := hf
  obtain ⟨H, hH⟩ : ∃ H, H = s.heap := ⟨_, rfl⟩
  obtain ⟨locs, hlo⟩ : ∃ x : List Loc, x = [] := ⟨_, rfl⟩
  rw [← hlo] at hS ⊢
  have hP : va_P D classes [(h_t, .inr (0, [.int t_words, v_t_cells, v_t_tape, v_t_reader, v_t_faults, v_t_single, .ref h_t_tester, v_t_plan, v_t_march, v_t_draft])), (h_t_tester, .inr (8, [v_t_tester_failures, v_t_tester_ports, v_t_tester_groundKind, v_t_tester_words, v_t_tester_allBits, v_t_tester_memory, .ref h_t_tester_scrambled, v_t_tester_wordAt, v_t_tester_zeroOf])), (h_t_tester_scrambled, .inl (cI, n_t_tester_scrambled, .inl t_tester_scrambled_a))] H := by rw [hH]; exact hP
  have hS : va_S A s.heap H locs := by rw [hH]; exact hS
  show W p l e rm_MT_scramble s m _ below meth c s.heap locs 0 0 (MQ below (QW D (post_MT_scramble h_t h_t_tester h_t_tester_scrambled v_t_cells v_t_tape v_t_reader v_t_faults v_t_single v_t_plan v_t_march v_t_draft v_t_tester_failures v_t_tester_ports v_t_tester_groundKind v_t_tester_words v_t_tester_allBits v_t_tester_memory v_t_tester_wordAt v_t_tester_zeroOf n_t_tester_scrambled t_words cI cB cJ res) A) _ s 0 0 A) (F0 m 0 ls [])
  refine wheap hH ?_
  clear hH hlo
  refine lv_aload_n hx hb d_MT_scramble_0 rfl (lv_at hl 0 rfl) ?_
  refine lv_iload_n hx hb d_MT_scramble_1 rfl (lv_at hl 1 rfl) ?_
  obtain ⟨q2_1, hc, hf⟩ := bindS hf
  refine mcV (n := 1) (As := [.int a1]) (rest := []) (wr := [(h_t_tester, .inr (8, [v_t_tester_failures, v_t_tester_ports, v_t_tester_groundKind, v_t_tester_words, v_t_tester_allBits, v_t_tester_memory, .ref h_t_tester_scrambled, v_t_tester_wordAt, v_t_tester_zeroOf])), (h_t_tester_scrambled, .inl (cI, n_t_tester_scrambled, .inl t_tester_scrambled_a))]) hx hb hml hown hts hK (c_MT_isWord (l := l) (D := D) (cI := cI) (cB := cB) (cJ := cJ) (h_t := h_t) (v_t_cells := v_t_cells) (v_t_tape := v_t_tape) (v_t_reader := v_t_reader) (v_t_faults := v_t_faults) (v_t_single := v_t_single) (v_t_tester := (.ref h_t_tester)) (v_t_plan := v_t_plan) (v_t_march := v_t_march) (v_t_draft := v_t_draft) (t_words := t_words) (a1 := a1) (sz := H.size) (res := q2_1) (hf := hc)) w_307 w_308 w_309 w_187 w_310 (by decide +kernel) rfl rfl ⟨Nat.le_of_ble_eq_true rfl, Nat.le_of_ble_eq_true rfl⟩ hP hD hS hA [0] [1, 2] rfl rfl (by decide) (by decide) (by decide) (ci := 0) 0 rfl rfl hl.1 rfl rfl (lv_room (Nat.le_of_ble_eq_true rfl)) d_MT_scramble_2 ⟨Nat.le_of_ble_eq_true rfl, Nat.le_of_ble_eq_true rfl⟩ (fun o ws' H locs hp hP hD hS => ?_)
  obtain ⟨rfl, rfl⟩ := hp
  have hP : va_P D classes [(h_t, .inr (0, [.int t_words, v_t_cells, v_t_tape, v_t_reader, v_t_faults, v_t_single, .ref h_t_tester, v_t_plan, v_t_march, v_t_draft])), (h_t_tester, .inr (8, [v_t_tester_failures, v_t_tester_ports, v_t_tester_groundKind, v_t_tester_words, v_t_tester_allBits, v_t_tester_memory, .ref h_t_tester_scrambled, v_t_tester_wordAt, v_t_tester_zeroOf])), (h_t_tester_scrambled, .inl (cI, n_t_tester_scrambled, .inl t_tester_scrambled_a))] H := hP.sub [2, 0, 1] rfl
  have hD : va_D A [(h_t, .inr (0, [.int t_words, v_t_cells, v_t_tape, v_t_reader, v_t_faults, v_t_single, .ref h_t_tester, v_t_plan, v_t_march, v_t_draft])), (h_t_tester, .inr (8, [v_t_tester_failures, v_t_tester_ports, v_t_tester_groundKind, v_t_tester_words, v_t_tester_allBits, v_t_tester_memory, .ref h_t_tester_scrambled, v_t_tester_wordAt, v_t_tester_zeroOf])), (h_t_tester_scrambled, .inl (cI, n_t_tester_scrambled, .inl t_tester_scrambled_a))] := hD.sub [2, 0, 1] (by decide) rfl
  refine lv_if_eq (tgt := 16) hx hb d_MT_scramble_5 (by decide) (fun cc5 => ?_) (fun cc5 => ?_)
  · have hf := ifT cc5 hf
    exact absurd hf (by simp)
  · have hf := ifF cc5 hf
    refine lv_aload_n hx hb d_MT_scramble_8 rfl (lv_at hl 0 rfl) ?_
    refine lv_iload_n hx hb d_MT_scramble_9 rfl (lv_at hl 2 rfl) ?_
    obtain ⟨q10_2, hc, hf⟩ := bindS hf
    refine mcV (n := 1) (As := [.int a2]) (rest := []) (wr := [(h_t_tester, .inr (8, [v_t_tester_failures, v_t_tester_ports, v_t_tester_groundKind, v_t_tester_words, v_t_tester_allBits, v_t_tester_memory, .ref h_t_tester_scrambled, v_t_tester_wordAt, v_t_tester_zeroOf])), (h_t_tester_scrambled, .inl (cI, n_t_tester_scrambled, .inl t_tester_scrambled_a))]) hx hb hml hown hts hK (c_MT_isWord (l := l) (D := D) (cI := cI) (cB := cB) (cJ := cJ) (h_t := h_t) (v_t_cells := v_t_cells) (v_t_tape := v_t_tape) (v_t_reader := v_t_reader) (v_t_faults := v_t_faults) (v_t_single := v_t_single) (v_t_tester := (.ref h_t_tester)) (v_t_plan := v_t_plan) (v_t_march := v_t_march) (v_t_draft := v_t_draft) (t_words := t_words) (a1 := a2) (sz := H.size) (res := q10_2) (hf := hc)) w_307 w_308 w_309 w_187 w_310 (by decide +kernel) rfl rfl ⟨Nat.le_of_ble_eq_true rfl, Nat.le_of_ble_eq_true rfl⟩ hP hD hS hA [0] [1, 2] rfl rfl (by decide) (by decide) (by decide) (ci := 0) 0 rfl rfl hl.1 rfl rfl (lv_room (Nat.le_of_ble_eq_true rfl)) d_MT_scramble_10 ⟨Nat.le_of_ble_eq_true rfl, Nat.le_of_ble_eq_true rfl⟩ (fun o ws' H locs hp hP hD hS => ?_)
    obtain ⟨rfl, rfl⟩ := hp
    have hP : va_P D classes [(h_t, .inr (0, [.int t_words, v_t_cells, v_t_tape, v_t_reader, v_t_faults, v_t_single, .ref h_t_tester, v_t_plan, v_t_march, v_t_draft])), (h_t_tester, .inr (8, [v_t_tester_failures, v_t_tester_ports, v_t_tester_groundKind, v_t_tester_words, v_t_tester_allBits, v_t_tester_memory, .ref h_t_tester_scrambled, v_t_tester_wordAt, v_t_tester_zeroOf])), (h_t_tester_scrambled, .inl (cI, n_t_tester_scrambled, .inl t_tester_scrambled_a))] H := hP.sub [2, 0, 1] rfl
    have hD : va_D A [(h_t, .inr (0, [.int t_words, v_t_cells, v_t_tape, v_t_reader, v_t_faults, v_t_single, .ref h_t_tester, v_t_plan, v_t_march, v_t_draft])), (h_t_tester, .inr (8, [v_t_tester_failures, v_t_tester_ports, v_t_tester_groundKind, v_t_tester_words, v_t_tester_allBits, v_t_tester_memory, .ref h_t_tester_scrambled, v_t_tester_wordAt, v_t_tester_zeroOf])), (h_t_tester_scrambled, .inl (cI, n_t_tester_scrambled, .inl t_tester_scrambled_a))] := hD.sub [2, 0, 1] (by decide) rfl
    refine lv_if_ne (tgt := 26) hx hb d_MT_scramble_13 (by decide) (fun cc13 => ?_) (fun cc13 => ?_)
    · have hf := ifF cc13 hf
      refine lv_aload_n hx hb d_MT_scramble_26 rfl (lv_at hl 0 rfl) ?_
      refine va_get (D := D) (ci := 0) (v := .ref h_t_tester) (C := R_MT) (T := F_MT) (N := 10) hx hb hts i_MT hown hK.1 hP 0 rfl rfl 6 (by decide) (hts _ w_97) (fun _ h9 => h9) rfl d_MT_scramble_27 ?_
      refine lv_iload_n hx hb d_MT_scramble_30 rfl (lv_at hl 1 rfl) ?_
      refine lv_iload_n hx hb d_MT_scramble_31 rfl (lv_at hl 2 rfl) ?_
      obtain ⟨q32_3, hc, hf⟩ := bindS hf
      refine mcV (n := 2) (As := [.int a1, .int a2]) (rest := []) (wr := [(h_t, .inr (0, [.int t_words, v_t_cells, v_t_tape, v_t_reader, v_t_faults, v_t_single, .ref h_t_tester, v_t_plan, v_t_march, v_t_draft]))]) hx hb hml hown hts hK (c_Tester_exchange (l := l) (D := D) (cI := cI) (cB := cB) (cJ := cJ) (h_t := h_t_tester) (h_t_scrambled := h_t_tester_scrambled) (v_t_failures := v_t_tester_failures) (v_t_ports := v_t_tester_ports) (v_t_groundKind := v_t_tester_groundKind) (v_t_words := v_t_tester_words) (v_t_allBits := v_t_tester_allBits) (v_t_memory := v_t_tester_memory) (v_t_wordAt := v_t_tester_wordAt) (v_t_zeroOf := v_t_tester_zeroOf) (n_t_scrambled := n_t_tester_scrambled) (t_scrambled_a := t_tester_scrambled_a) (a1 := a1) (a2 := a2) (sz := H.size) (res := q32_3) (hf := hc)) w_311 w_312 w_313 w_93 w_314 (by decide +kernel) rfl rfl ⟨Nat.le_of_ble_eq_true rfl, Nat.le_of_ble_eq_true rfl⟩ hP hD hS hA [1, 2] [0] rfl rfl (by decide) (by decide) (by decide) (ci := 8) 0 rfl rfl hl.1 rfl rfl (lv_room (Nat.le_of_ble_eq_true rfl)) d_MT_scramble_32 ⟨Nat.le_of_ble_eq_true rfl, Nat.le_of_ble_eq_true rfl⟩ (fun o ws' H locs hp hP hD hS => ?_)
      obtain ⟨rfl, rfl⟩ := hp
      have hP : va_P D classes [(h_t, .inr (0, [.int t_words, v_t_cells, v_t_tape, v_t_reader, v_t_faults, v_t_single, .ref h_t_tester, v_t_plan, v_t_march, v_t_draft])), (h_t_tester, .inr (8, [v_t_tester_failures, v_t_tester_ports, v_t_tester_groundKind, v_t_tester_words, v_t_tester_allBits, v_t_tester_memory, .ref h_t_tester_scrambled, v_t_tester_wordAt, v_t_tester_zeroOf])), (h_t_tester_scrambled, .inl (cI, n_t_tester_scrambled, .inl q32_3))] H := hP.sub [0, 1, 2] rfl
      have hD : va_D A [(h_t, .inr (0, [.int t_words, v_t_cells, v_t_tape, v_t_reader, v_t_faults, v_t_single, .ref h_t_tester, v_t_plan, v_t_march, v_t_draft])), (h_t_tester, .inr (8, [v_t_tester_failures, v_t_tester_ports, v_t_tester_groundKind, v_t_tester_words, v_t_tester_allBits, v_t_tester_memory, .ref h_t_tester_scrambled, v_t_tester_wordAt, v_t_tester_zeroOf])), (h_t_tester_scrambled, .inl (cI, n_t_tester_scrambled, .inl q32_3))] := hD.sub [0, 1, 2] (by decide) rfl
      refine lv_iload_n hx hb d_MT_scramble_35 rfl (lv_at hl 1 rfl) ?_
      refine lv_iload_n hx hb d_MT_scramble_36 rfl (lv_at hl 2 rfl) ?_
      refine lv_icmp_eq (tgt := 44) hx hb d_MT_scramble_37 (by decide) (fun cc37 => ?_) (fun cc37 => ?_)
      · have hf := ifT cc37 hf
        refine lv_iconst (v := 0) hx hb d_MT_scramble_44 (by decide) ?_
        obtain rfl := Sum.inl.inj (Option.some.inj hf)
        exact ret_z hx hb hr rfl hlocks hP hD hS ⟨rfl, rfl⟩ d_MT_scramble_45
      · have hf := ifF cc37 hf
        refine lv_iconst (v := 1) hx hb d_MT_scramble_40 (by decide) ?_
        refine lv_goto (tgt := 45) hx hb d_MT_scramble_41 (by decide) ?_
        obtain rfl := Sum.inl.inj (Option.some.inj hf)
        exact ret_z hx hb hr rfl hlocks hP hD hS ⟨rfl, rfl⟩ d_MT_scramble_45
    · have hf := ifT cc13 hf
      exact absurd hf (by simp)
def f_Failures_part (n_t_parts : Nat) (t_parts_a : Nat → Int32) (a1 : Int32) (a2 : Int32) : Option (Int32) :=
  (if inB ((a1 * 4) + a2) n_t_parts = true then
  some (t_parts_a (Int32.toNatClampNeg ((a1 * 4) + a2)))
  else none)
def post_Failures_part (h_t h_t_parts : Nat) (v_t_count : Value) (n_t_parts : Nat) (t_parts_a : Nat → Int32) (cI cB cJ : ClassId) (res : Int32) : Option Value → va_W → Prop := fun o ws' => o = some (.int res) ∧ ws' = [(h_t, .inr (2, [.ref h_t_parts, v_t_count])), (h_t_parts, .inl (cI, n_t_parts, .inl t_parts_a))]
abbrev rm_Failures_part : Room := { frames := 0, cells := 0, slots := 0, locals := 0 }
set_option maxHeartbeats 4000000 in
set_option maxRecDepth 100000 in
theorem c_Failures_part (l : Launch) (D : va_G) (cI cB cJ : ClassId) (h_t h_t_parts : Nat) (v_t_count : Value) (n_t_parts : Nat) (t_parts_a : Nat → Int32) (a1 : Int32) (a2 : Int32) (sz : Nat) (res : Int32) (hf : f_Failures_part n_t_parts t_parts_a a1 a2 = some res) : Met l y_Failures_part (.code y_Failures_part b_Failures_part 3 (some .int) :: TB) rm_Failures_part (PcW D [(cI, .int), (cB, .byte), (cJ, .long)] [.ref h_t, .int a1, .int a2] [(h_t, .inr (2, [.ref h_t_parts, v_t_count])), (h_t_parts, .inl (cI, n_t_parts, .inl t_parts_a))] sz) (QW D (post_Failures_part h_t h_t_parts v_t_count n_t_parts t_parts_a cI cB cJ res) (va_A [(h_t, .inr (2, [.ref h_t_parts, v_t_count])), (h_t_parts, .inl (cI, n_t_parts, .inl t_parts_a))] sz)) 0 0 (va_A [(h_t, .inr (2, [.ref h_t_parts, v_t_count])), (h_t_parts, .inl (cI, n_t_parts, .inl t_parts_a))] sz) := by
  refine entW ⟨by decide +kernel, rfl⟩ fun p e s m below meth c C0 hP hD hsz ls hl => ?_
  subst hsz
  generalize hAe : va_A [(h_t, .inr (2, [.ref h_t_parts, v_t_count])), (h_t_parts, .inl (cI, n_t_parts, .inl t_parts_a))] s.heap.size = A at hD ⊢
  have hA : ∀ q : Nat, s.heap.size ≤ q → A q := fun q h => by rw [← hAe]; exact Or.inr h
  clear hAe
  have hS : va_S A s.heap s.heap [] := va_S.rf
  have hl : lv_has ls 3 [(0, .ref h_t), (1, .int a1), (2, .int a2)] := hl
  obtain ⟨hx, hb, hml, hr, hlocks, hts, hown, hK, hin⟩ := id C0
  have hf : (((
  (if inB ((a1 * 4) + a2) n_t_parts = true then
  some (t_parts_a (Int32.toNatClampNeg ((a1 * 4) + a2)))
  else none))) : Option (Int32)) = some res := hf
  obtain ⟨H, hH⟩ : ∃ H, H = s.heap := ⟨_, rfl⟩
  obtain ⟨locs, hlo⟩ : ∃ x : List Loc, x = [] := ⟨_, rfl⟩
  rw [← hlo] at hS ⊢
  have hP : va_P D classes [(h_t, .inr (2, [.ref h_t_parts, v_t_count])), (h_t_parts, .inl (cI, n_t_parts, .inl t_parts_a))] H := by rw [hH]; exact hP
  have hS : va_S A s.heap H locs := by rw [hH]; exact hS
  show W p l e rm_Failures_part s m _ below meth c s.heap locs 0 0 (MQ below (QW D (post_Failures_part h_t h_t_parts v_t_count n_t_parts t_parts_a cI cB cJ res) A) _ s 0 0 A) (F0 m 0 ls [])
  refine wheap hH ?_
  clear hH hlo
  refine lv_aload_n hx hb d_Failures_part_0 rfl (lv_at hl 0 rfl) ?_
  refine va_get (D := D) (ci := 2) (v := .ref h_t_parts) (C := R_Failures) (T := F_Failures) (N := 2) hx hb hts i_Failures hown hK.1 hP 0 rfl rfl 0 (by decide) (hts _ w_34) (fun _ h9 => h9) rfl d_Failures_part_1 ?_
  refine lv_iload_n hx hb d_Failures_part_4 rfl (lv_at hl 1 rfl) ?_
  refine lv_iconst (v := 4) hx hb d_Failures_part_5 (by decide) ?_
  refine lv_imul hx hb d_Failures_part_6 ?_
  refine lv_iload_n hx hb d_Failures_part_7 rfl (lv_at hl 2 rfl) ?_
  refine lv_iadd hx hb d_Failures_part_8 ?_
  obtain ⟨hin1, hf⟩ := ifG hf
  refine va_iald hx hb hK.1 hP 1 0 rfl rfl (inB_in hin1) d_Failures_part_9 ?_
  obtain rfl := Option.some.inj hf
  exact ret_i hx hb hr hlocks hP hD hS ⟨rfl, rfl⟩ d_Failures_part_10
def f_MT_failing_46 (n_t_tester_failures_parts : Nat) (t_tester_failures_parts_a : Nat → Int32) (x1 : Int32) (x2 : Int32) (x4 : Int32) : Option ((Int32) ⊕ Nat) :=
  (if x4 = 0 then
    some (Sum.inr 0)
  else
    (if x2 < 0 then
      some (Sum.inr 0)
    else
      (if x2 < 4 then
        (Option.bind (f_Failures_part n_t_tester_failures_parts t_tester_failures_parts_a x1 x2) fun q73_1 =>
        some (Sum.inl q73_1))
      else
        some (Sum.inr 0))))
def f_MT_failing_25 (n_t_tester_failures_parts : Nat) (t_tester_failures_count : Int32) (t_tester_failures_parts_a : Nat → Int32) (s0 : Int32) (x1 : Int32) (x2 : Int32) : Option ((Int32) ⊕ Nat) :=
  (if x2 = 4 then
    (if s0 = 0 then
      (if x1 = 0 then
        some (Sum.inl t_tester_failures_count)
      else
        (f_MT_failing_46 n_t_tester_failures_parts t_tester_failures_parts_a x1 x2 s0))
    else
      some (Sum.inl t_tester_failures_count))
  else
    (f_MT_failing_46 n_t_tester_failures_parts t_tester_failures_parts_a x1 x2 s0))
def f_MT_failing_24 (n_t_tester_failures_parts : Nat) (t_tester_failures_count : Int32) (t_tester_failures_parts_a : Nat → Int32) (x1 : Int32) (x2 : Int32) : Option ((Int32) ⊕ Nat) :=
  (f_MT_failing_25 n_t_tester_failures_parts t_tester_failures_count t_tester_failures_parts_a 0 x1 x2)
def f_MT_failing (n_t_tester_failures_parts : Nat) (t_tester_failures_count : Int32) (t_tester_failures_parts_a : Nat → Int32) (a1 : Int32) (a2 : Int32) : Option ((Int32) ⊕ Nat) :=
  (if a1 < 0 then
    (f_MT_failing_24 n_t_tester_failures_parts t_tester_failures_count t_tester_failures_parts_a a1 a2)
  else
    (if t_tester_failures_count ≤ a1 then
      (f_MT_failing_24 n_t_tester_failures_parts t_tester_failures_count t_tester_failures_parts_a a1 a2)
    else
      (f_MT_failing_25 n_t_tester_failures_parts t_tester_failures_count t_tester_failures_parts_a 1 a1 a2)))
def post_MT_failing (h_t h_t_tester h_t_tester_failures h_t_tester_failures_parts : Nat) (v_t_words v_t_cells v_t_tape v_t_reader v_t_faults v_t_single v_t_plan v_t_march v_t_draft v_t_tester_ports v_t_tester_groundKind v_t_tester_words v_t_tester_allBits v_t_tester_memory v_t_tester_scrambled v_t_tester_wordAt v_t_tester_zeroOf : Value) (n_t_tester_failures_parts : Nat) (t_tester_failures_count : Int32) (t_tester_failures_parts_a : Nat → Int32) (cI cB cJ : ClassId) (res : Int32) : Option Value → va_W → Prop := fun o ws' => o = some (.int res) ∧ ws' = [(h_t, .inr (0, [v_t_words, v_t_cells, v_t_tape, v_t_reader, v_t_faults, v_t_single, .ref h_t_tester, v_t_plan, v_t_march, v_t_draft])), (h_t_tester, .inr (8, [.ref h_t_tester_failures, v_t_tester_ports, v_t_tester_groundKind, v_t_tester_words, v_t_tester_allBits, v_t_tester_memory, v_t_tester_scrambled, v_t_tester_wordAt, v_t_tester_zeroOf])), (h_t_tester_failures, .inr (2, [.ref h_t_tester_failures_parts, .int t_tester_failures_count])), (h_t_tester_failures_parts, .inl (cI, n_t_tester_failures_parts, .inl t_tester_failures_parts_a))]
abbrev rm_MT_failing : Room := { frames := 1, cells := 0, slots := 0, locals := 22 }
set_option maxHeartbeats 4000000 in
set_option maxRecDepth 100000 in
theorem k_MT_failing_46 {p : Program} {l : Launch} {e : Env} {s : State} {m : MethodId} {args : Array Value} {below : List Frame} {meth : Method} {c : Code} {D : va_G} {cI cB cJ : ClassId} {A : Nat → Prop} (C0 : CX p s m args meth c D [(cI, .int), (cB, .byte), (cJ, .long)] R_MT b_MT_failing 5 (some .int) "failing") (hA : ∀ q, s.heap.size ≤ q → A q) {h_t h_t_tester h_t_tester_failures h_t_tester_failures_parts : Nat} {v_t_words v_t_cells v_t_tape v_t_reader v_t_faults v_t_single v_t_plan v_t_march v_t_draft v_t_tester_ports v_t_tester_groundKind v_t_tester_words v_t_tester_allBits v_t_tester_memory v_t_tester_scrambled v_t_tester_wordAt v_t_tester_zeroOf : Value} {res : Int32} {n_t_tester_failures_parts : Nat} {t_tester_failures_count : Int32} {t_tester_failures_parts_a : Nat → Int32} {x1 : Int32} {x2 : Int32} {x4 : Int32}
    (hf : f_MT_failing_46 n_t_tester_failures_parts t_tester_failures_parts_a x1 x2 x4 = some (Sum.inl res)) {H : Heap} {locs : List Loc} {ls : Array Slot} (hP : va_P D classes [(h_t, .inr (0, [v_t_words, v_t_cells, v_t_tape, v_t_reader, v_t_faults, v_t_single, .ref h_t_tester, v_t_plan, v_t_march, v_t_draft])), (h_t_tester, .inr (8, [.ref h_t_tester_failures, v_t_tester_ports, v_t_tester_groundKind, v_t_tester_words, v_t_tester_allBits, v_t_tester_memory, v_t_tester_scrambled, v_t_tester_wordAt, v_t_tester_zeroOf])), (h_t_tester_failures, .inr (2, [.ref h_t_tester_failures_parts, .int t_tester_failures_count])), (h_t_tester_failures_parts, .inl (cI, n_t_tester_failures_parts, .inl t_tester_failures_parts_a))] H) (hD : va_D A [(h_t, .inr (0, [v_t_words, v_t_cells, v_t_tape, v_t_reader, v_t_faults, v_t_single, .ref h_t_tester, v_t_plan, v_t_march, v_t_draft])), (h_t_tester, .inr (8, [.ref h_t_tester_failures, v_t_tester_ports, v_t_tester_groundKind, v_t_tester_words, v_t_tester_allBits, v_t_tester_memory, v_t_tester_scrambled, v_t_tester_wordAt, v_t_tester_zeroOf])), (h_t_tester_failures, .inr (2, [.ref h_t_tester_failures_parts, .int t_tester_failures_count])), (h_t_tester_failures_parts, .inl (cI, n_t_tester_failures_parts, .inl t_tester_failures_parts_a))]) (hS : va_S A s.heap H locs) (hl : lv_has ls 5 [(1, .int x1), (2, .int x2), (3, .ref h_t_tester_failures), (4, .int x4)]) : W p l e rm_MT_failing s m args below meth c H locs 0 0 (MQ below (QW D (post_MT_failing h_t h_t_tester h_t_tester_failures h_t_tester_failures_parts v_t_words v_t_cells v_t_tape v_t_reader v_t_faults v_t_single v_t_plan v_t_march v_t_draft v_t_tester_ports v_t_tester_groundKind v_t_tester_words v_t_tester_allBits v_t_tester_memory v_t_tester_scrambled v_t_tester_wordAt v_t_tester_zeroOf n_t_tester_failures_parts t_tester_failures_count t_tester_failures_parts_a cI cB cJ res) A) args s 0 0 A) (F0 m 46 ls []) := by
  obtain ⟨hx, hb, hml, hr, hlocks, hts, hown, hK, hin⟩ := id C0
  have hf : (((
  (if x4 = 0 then
    some (Sum.inr 0)
  else
    (if x2 < 0 then
      some (Sum.inr 0)
    else
      (if x2 < 4 then
        (Option.bind (f_Failures_part n_t_tester_failures_parts t_tester_failures_parts_a x1 x2) fun q73_1 =>
        some (Sum.inl q73_1))
      else
        some (Sum.inr 0)))))) : Option ((Int32) ⊕ Nat)) = some (Sum.inl res) := hf
  refine lv_iload hx hb d_MT_failing_46 (lv_at hl 3 rfl) ?_
  refine lv_if_eq (tgt := 60) hx hb d_MT_failing_48 (by decide) (fun cc48 => ?_) (fun cc48 => ?_)
  · have hf := ifT cc48 hf
    exact absurd hf (by simp)
  · have hf := ifF cc48 hf
    refine lv_iload_n hx hb d_MT_failing_51 rfl (lv_at hl 1 rfl) ?_
    refine lv_if_lt (tgt := 60) hx hb d_MT_failing_52 (by decide) (fun cc52 => ?_) (fun cc52 => ?_)
    · have hf := ifT cc52 hf
      exact absurd hf (by simp)
    · have hf := ifF cc52 hf
      refine lv_iload_n hx hb d_MT_failing_55 rfl (lv_at hl 1 rfl) ?_
      refine lv_iconst (v := 4) hx hb d_MT_failing_56 (by decide) ?_
      refine lv_icmp_lt (tgt := 70) hx hb d_MT_failing_57 (by decide) (fun cc57 => ?_) (fun cc57 => ?_)
      · have hf := ifT cc57 hf
        refine lv_aload_n hx hb d_MT_failing_70 rfl (lv_at hl 2 rfl) ?_
        refine lv_iload_n hx hb d_MT_failing_71 rfl (lv_at hl 0 rfl) ?_
        refine lv_iload_n hx hb d_MT_failing_72 rfl (lv_at hl 1 rfl) ?_
        obtain ⟨q73_1, hc, hf⟩ := bindS hf
        refine mcV (n := 2) (As := [.int x1, .int x2]) (rest := []) (wr := [(h_t, .inr (0, [v_t_words, v_t_cells, v_t_tape, v_t_reader, v_t_faults, v_t_single, .ref h_t_tester, v_t_plan, v_t_march, v_t_draft])), (h_t_tester, .inr (8, [.ref h_t_tester_failures, v_t_tester_ports, v_t_tester_groundKind, v_t_tester_words, v_t_tester_allBits, v_t_tester_memory, v_t_tester_scrambled, v_t_tester_wordAt, v_t_tester_zeroOf]))]) hx hb hml hown hts hK (c_Failures_part (l := l) (D := D) (cI := cI) (cB := cB) (cJ := cJ) (h_t := h_t_tester_failures) (h_t_parts := h_t_tester_failures_parts) (v_t_count := (.int t_tester_failures_count)) (n_t_parts := n_t_tester_failures_parts) (t_parts_a := t_tester_failures_parts_a) (a1 := x1) (a2 := x2) (sz := H.size) (res := q73_1) (hf := hc)) w_315 w_316 w_317 w_48 w_318 (by decide +kernel) rfl rfl ⟨Nat.le_of_ble_eq_true rfl, Nat.le_of_ble_eq_true rfl⟩ hP hD hS hA [2, 3] [0, 1] rfl rfl (by decide) (by decide) (by decide) (ci := 2) 0 rfl rfl hl.1 rfl rfl (lv_room (Nat.le_of_ble_eq_true rfl)) d_MT_failing_73 ⟨Nat.le_of_ble_eq_true rfl, Nat.le_of_ble_eq_true rfl⟩ (fun o ws' H locs hp hP hD hS => ?_)
        obtain ⟨rfl, rfl⟩ := hp
        have hP : va_P D classes [(h_t, .inr (0, [v_t_words, v_t_cells, v_t_tape, v_t_reader, v_t_faults, v_t_single, .ref h_t_tester, v_t_plan, v_t_march, v_t_draft])), (h_t_tester, .inr (8, [.ref h_t_tester_failures, v_t_tester_ports, v_t_tester_groundKind, v_t_tester_words, v_t_tester_allBits, v_t_tester_memory, v_t_tester_scrambled, v_t_tester_wordAt, v_t_tester_zeroOf])), (h_t_tester_failures, .inr (2, [.ref h_t_tester_failures_parts, .int t_tester_failures_count])), (h_t_tester_failures_parts, .inl (cI, n_t_tester_failures_parts, .inl t_tester_failures_parts_a))] H := hP.sub [0, 1, 2, 3] rfl
        have hD : va_D A [(h_t, .inr (0, [v_t_words, v_t_cells, v_t_tape, v_t_reader, v_t_faults, v_t_single, .ref h_t_tester, v_t_plan, v_t_march, v_t_draft])), (h_t_tester, .inr (8, [.ref h_t_tester_failures, v_t_tester_ports, v_t_tester_groundKind, v_t_tester_words, v_t_tester_allBits, v_t_tester_memory, v_t_tester_scrambled, v_t_tester_wordAt, v_t_tester_zeroOf])), (h_t_tester_failures, .inr (2, [.ref h_t_tester_failures_parts, .int t_tester_failures_count])), (h_t_tester_failures_parts, .inl (cI, n_t_tester_failures_parts, .inl t_tester_failures_parts_a))] := hD.sub [0, 1, 2, 3] (by decide) rfl
        obtain rfl := Sum.inl.inj (Option.some.inj hf)
        exact ret_i hx hb hr hlocks hP hD hS ⟨rfl, rfl⟩ d_MT_failing_76
      · have hf := ifF cc57 hf
        exact absurd hf (by simp)
set_option maxHeartbeats 4000000 in
set_option maxRecDepth 100000 in
theorem k_MT_failing_25 {p : Program} {l : Launch} {e : Env} {s : State} {m : MethodId} {args : Array Value} {below : List Frame} {meth : Method} {c : Code} {D : va_G} {cI cB cJ : ClassId} {A : Nat → Prop} (C0 : CX p s m args meth c D [(cI, .int), (cB, .byte), (cJ, .long)] R_MT b_MT_failing 5 (some .int) "failing") (hA : ∀ q, s.heap.size ≤ q → A q) {h_t h_t_tester h_t_tester_failures h_t_tester_failures_parts : Nat} {v_t_words v_t_cells v_t_tape v_t_reader v_t_faults v_t_single v_t_plan v_t_march v_t_draft v_t_tester_ports v_t_tester_groundKind v_t_tester_words v_t_tester_allBits v_t_tester_memory v_t_tester_scrambled v_t_tester_wordAt v_t_tester_zeroOf : Value} {res : Int32} {n_t_tester_failures_parts : Nat} {t_tester_failures_count : Int32} {t_tester_failures_parts_a : Nat → Int32} {s0 : Int32} {x1 : Int32} {x2 : Int32}
    (hf : f_MT_failing_25 n_t_tester_failures_parts t_tester_failures_count t_tester_failures_parts_a s0 x1 x2 = some (Sum.inl res)) {H : Heap} {locs : List Loc} {ls : Array Slot} (hP : va_P D classes [(h_t, .inr (0, [v_t_words, v_t_cells, v_t_tape, v_t_reader, v_t_faults, v_t_single, .ref h_t_tester, v_t_plan, v_t_march, v_t_draft])), (h_t_tester, .inr (8, [.ref h_t_tester_failures, v_t_tester_ports, v_t_tester_groundKind, v_t_tester_words, v_t_tester_allBits, v_t_tester_memory, v_t_tester_scrambled, v_t_tester_wordAt, v_t_tester_zeroOf])), (h_t_tester_failures, .inr (2, [.ref h_t_tester_failures_parts, .int t_tester_failures_count])), (h_t_tester_failures_parts, .inl (cI, n_t_tester_failures_parts, .inl t_tester_failures_parts_a))] H) (hD : va_D A [(h_t, .inr (0, [v_t_words, v_t_cells, v_t_tape, v_t_reader, v_t_faults, v_t_single, .ref h_t_tester, v_t_plan, v_t_march, v_t_draft])), (h_t_tester, .inr (8, [.ref h_t_tester_failures, v_t_tester_ports, v_t_tester_groundKind, v_t_tester_words, v_t_tester_allBits, v_t_tester_memory, v_t_tester_scrambled, v_t_tester_wordAt, v_t_tester_zeroOf])), (h_t_tester_failures, .inr (2, [.ref h_t_tester_failures_parts, .int t_tester_failures_count])), (h_t_tester_failures_parts, .inl (cI, n_t_tester_failures_parts, .inl t_tester_failures_parts_a))]) (hS : va_S A s.heap H locs) (hl : lv_has ls 5 [(1, .int x1), (2, .int x2), (3, .ref h_t_tester_failures)]) : W p l e rm_MT_failing s m args below meth c H locs 0 0 (MQ below (QW D (post_MT_failing h_t h_t_tester h_t_tester_failures h_t_tester_failures_parts v_t_words v_t_cells v_t_tape v_t_reader v_t_faults v_t_single v_t_plan v_t_march v_t_draft v_t_tester_ports v_t_tester_groundKind v_t_tester_words v_t_tester_allBits v_t_tester_memory v_t_tester_scrambled v_t_tester_wordAt v_t_tester_zeroOf n_t_tester_failures_parts t_tester_failures_count t_tester_failures_parts_a cI cB cJ res) A) args s 0 0 A) (F0 m 25 ls [.int s0]) := by
  obtain ⟨hx, hb, hml, hr, hlocks, hts, hown, hK, hin⟩ := id C0
  have hf : (((
  (if x2 = 4 then
    (if s0 = 0 then
      (if x1 = 0 then
        some (Sum.inl t_tester_failures_count)
      else
        (f_MT_failing_46 n_t_tester_failures_parts t_tester_failures_parts_a x1 x2 s0))
    else
      some (Sum.inl t_tester_failures_count))
  else
    (f_MT_failing_46 n_t_tester_failures_parts t_tester_failures_parts_a x1 x2 s0)))) : Option ((Int32) ⊕ Nat)) = some (Sum.inl res) := hf
  refine lv_istore (lv' := [(4, .int s0), (1, .int x1), (2, .int x2), (3, .ref h_t_tester_failures)]) hx hb d_MT_failing_25 hl (by decide) rfl (fun ls hl => ?_)
  refine lv_iload_n hx hb d_MT_failing_27 rfl (lv_at hl 2 rfl) ?_
  refine lv_iconst (v := 4) hx hb d_MT_failing_28 (by decide) ?_
  refine lv_icmp_ne (tgt := 46) hx hb d_MT_failing_29 (by decide) (fun cc29 => ?_) (fun cc29 => ?_)
  · have hf := ifF cc29 hf
    exact k_MT_failing_46 (s := s) C0 hA hf hP hD hS (lv_sub hl [1, 2, 3, 0] rfl)
  · have hf := ifT cc29 hf
    refine lv_iload hx hb d_MT_failing_32 (lv_at hl 0 rfl) ?_
    refine lv_if_ne (tgt := 41) hx hb d_MT_failing_34 (by decide) (fun cc34 => ?_) (fun cc34 => ?_)
    · have hf := ifF cc34 hf
      refine lv_aload_n hx hb d_MT_failing_41 rfl (lv_at hl 3 rfl) ?_
      refine va_get (D := D) (ci := 2) (v := .int t_tester_failures_count) (C := R_Failures) (T := F_Failures) (N := 2) hx hb hts i_Failures hown hK.1 hP 2 rfl rfl 1 (by decide) (hts _ w_319) (fun _ h9 => h9) rfl d_MT_failing_42 ?_
      obtain rfl := Sum.inl.inj (Option.some.inj hf)
      exact ret_i hx hb hr hlocks hP hD hS ⟨rfl, rfl⟩ d_MT_failing_45
    · have hf := ifT cc34 hf
      refine lv_iload_n hx hb d_MT_failing_37 rfl (lv_at hl 1 rfl) ?_
      refine lv_if_ne (tgt := 46) hx hb d_MT_failing_38 (by decide) (fun cc38 => ?_) (fun cc38 => ?_)
      · have hf := ifF cc38 hf
        exact k_MT_failing_46 (s := s) C0 hA hf hP hD hS (lv_sub hl [1, 2, 3, 0] rfl)
      · have hf := ifT cc38 hf
        refine lv_aload_n hx hb d_MT_failing_41 rfl (lv_at hl 3 rfl) ?_
        refine va_get (D := D) (ci := 2) (v := .int t_tester_failures_count) (C := R_Failures) (T := F_Failures) (N := 2) hx hb hts i_Failures hown hK.1 hP 2 rfl rfl 1 (by decide) (hts _ w_319) (fun _ h9 => h9) rfl d_MT_failing_42 ?_
        obtain rfl := Sum.inl.inj (Option.some.inj hf)
        exact ret_i hx hb hr hlocks hP hD hS ⟨rfl, rfl⟩ d_MT_failing_45
set_option maxHeartbeats 4000000 in
set_option maxRecDepth 100000 in
theorem k_MT_failing_24 {p : Program} {l : Launch} {e : Env} {s : State} {m : MethodId} {args : Array Value} {below : List Frame} {meth : Method} {c : Code} {D : va_G} {cI cB cJ : ClassId} {A : Nat → Prop} (C0 : CX p s m args meth c D [(cI, .int), (cB, .byte), (cJ, .long)] R_MT b_MT_failing 5 (some .int) "failing") (hA : ∀ q, s.heap.size ≤ q → A q) {h_t h_t_tester h_t_tester_failures h_t_tester_failures_parts : Nat} {v_t_words v_t_cells v_t_tape v_t_reader v_t_faults v_t_single v_t_plan v_t_march v_t_draft v_t_tester_ports v_t_tester_groundKind v_t_tester_words v_t_tester_allBits v_t_tester_memory v_t_tester_scrambled v_t_tester_wordAt v_t_tester_zeroOf : Value} {res : Int32} {n_t_tester_failures_parts : Nat} {t_tester_failures_count : Int32} {t_tester_failures_parts_a : Nat → Int32} {x1 : Int32} {x2 : Int32}
    (hf : f_MT_failing_24 n_t_tester_failures_parts t_tester_failures_count t_tester_failures_parts_a x1 x2 = some (Sum.inl res)) {H : Heap} {locs : List Loc} {ls : Array Slot} (hP : va_P D classes [(h_t, .inr (0, [v_t_words, v_t_cells, v_t_tape, v_t_reader, v_t_faults, v_t_single, .ref h_t_tester, v_t_plan, v_t_march, v_t_draft])), (h_t_tester, .inr (8, [.ref h_t_tester_failures, v_t_tester_ports, v_t_tester_groundKind, v_t_tester_words, v_t_tester_allBits, v_t_tester_memory, v_t_tester_scrambled, v_t_tester_wordAt, v_t_tester_zeroOf])), (h_t_tester_failures, .inr (2, [.ref h_t_tester_failures_parts, .int t_tester_failures_count])), (h_t_tester_failures_parts, .inl (cI, n_t_tester_failures_parts, .inl t_tester_failures_parts_a))] H) (hD : va_D A [(h_t, .inr (0, [v_t_words, v_t_cells, v_t_tape, v_t_reader, v_t_faults, v_t_single, .ref h_t_tester, v_t_plan, v_t_march, v_t_draft])), (h_t_tester, .inr (8, [.ref h_t_tester_failures, v_t_tester_ports, v_t_tester_groundKind, v_t_tester_words, v_t_tester_allBits, v_t_tester_memory, v_t_tester_scrambled, v_t_tester_wordAt, v_t_tester_zeroOf])), (h_t_tester_failures, .inr (2, [.ref h_t_tester_failures_parts, .int t_tester_failures_count])), (h_t_tester_failures_parts, .inl (cI, n_t_tester_failures_parts, .inl t_tester_failures_parts_a))]) (hS : va_S A s.heap H locs) (hl : lv_has ls 5 [(1, .int x1), (2, .int x2), (3, .ref h_t_tester_failures)]) : W p l e rm_MT_failing s m args below meth c H locs 0 0 (MQ below (QW D (post_MT_failing h_t h_t_tester h_t_tester_failures h_t_tester_failures_parts v_t_words v_t_cells v_t_tape v_t_reader v_t_faults v_t_single v_t_plan v_t_march v_t_draft v_t_tester_ports v_t_tester_groundKind v_t_tester_words v_t_tester_allBits v_t_tester_memory v_t_tester_scrambled v_t_tester_wordAt v_t_tester_zeroOf n_t_tester_failures_parts t_tester_failures_count t_tester_failures_parts_a cI cB cJ res) A) args s 0 0 A) (F0 m 24 ls []) := by
  obtain ⟨hx, hb, hml, hr, hlocks, hts, hown, hK, hin⟩ := id C0
  have hf : (((
  (f_MT_failing_25 n_t_tester_failures_parts t_tester_failures_count t_tester_failures_parts_a 0 x1 x2))) : Option ((Int32) ⊕ Nat)) = some (Sum.inl res) := hf
  refine lv_iconst (v := 0) hx hb d_MT_failing_24 (by decide) ?_
  exact k_MT_failing_25 (s := s) C0 hA hf hP hD hS (lv_sub hl [0, 1, 2] rfl)
set_option maxHeartbeats 4000000 in
set_option maxRecDepth 100000 in
theorem c_MT_failing (l : Launch) (D : va_G) (cI cB cJ : ClassId) (h_t h_t_tester h_t_tester_failures h_t_tester_failures_parts : Nat) (v_t_words v_t_cells v_t_tape v_t_reader v_t_faults v_t_single v_t_plan v_t_march v_t_draft v_t_tester_ports v_t_tester_groundKind v_t_tester_words v_t_tester_allBits v_t_tester_memory v_t_tester_scrambled v_t_tester_wordAt v_t_tester_zeroOf : Value) (n_t_tester_failures_parts : Nat) (t_tester_failures_count : Int32) (t_tester_failures_parts_a : Nat → Int32) (a1 : Int32) (a2 : Int32) (sz : Nat) (res : Int32) (hf : f_MT_failing n_t_tester_failures_parts t_tester_failures_count t_tester_failures_parts_a a1 a2 = some (Sum.inl res)) : Met l y_MT_failing (.code y_MT_failing b_MT_failing 5 (some .int) :: TB) rm_MT_failing (PcW D [(cI, .int), (cB, .byte), (cJ, .long)] [.ref h_t, .int a1, .int a2] [(h_t, .inr (0, [v_t_words, v_t_cells, v_t_tape, v_t_reader, v_t_faults, v_t_single, .ref h_t_tester, v_t_plan, v_t_march, v_t_draft])), (h_t_tester, .inr (8, [.ref h_t_tester_failures, v_t_tester_ports, v_t_tester_groundKind, v_t_tester_words, v_t_tester_allBits, v_t_tester_memory, v_t_tester_scrambled, v_t_tester_wordAt, v_t_tester_zeroOf])), (h_t_tester_failures, .inr (2, [.ref h_t_tester_failures_parts, .int t_tester_failures_count])), (h_t_tester_failures_parts, .inl (cI, n_t_tester_failures_parts, .inl t_tester_failures_parts_a))] sz) (QW D (post_MT_failing h_t h_t_tester h_t_tester_failures h_t_tester_failures_parts v_t_words v_t_cells v_t_tape v_t_reader v_t_faults v_t_single v_t_plan v_t_march v_t_draft v_t_tester_ports v_t_tester_groundKind v_t_tester_words v_t_tester_allBits v_t_tester_memory v_t_tester_scrambled v_t_tester_wordAt v_t_tester_zeroOf n_t_tester_failures_parts t_tester_failures_count t_tester_failures_parts_a cI cB cJ res) (va_A [(h_t, .inr (0, [v_t_words, v_t_cells, v_t_tape, v_t_reader, v_t_faults, v_t_single, .ref h_t_tester, v_t_plan, v_t_march, v_t_draft])), (h_t_tester, .inr (8, [.ref h_t_tester_failures, v_t_tester_ports, v_t_tester_groundKind, v_t_tester_words, v_t_tester_allBits, v_t_tester_memory, v_t_tester_scrambled, v_t_tester_wordAt, v_t_tester_zeroOf])), (h_t_tester_failures, .inr (2, [.ref h_t_tester_failures_parts, .int t_tester_failures_count])), (h_t_tester_failures_parts, .inl (cI, n_t_tester_failures_parts, .inl t_tester_failures_parts_a))] sz)) 0 0 (va_A [(h_t, .inr (0, [v_t_words, v_t_cells, v_t_tape, v_t_reader, v_t_faults, v_t_single, .ref h_t_tester, v_t_plan, v_t_march, v_t_draft])), (h_t_tester, .inr (8, [.ref h_t_tester_failures, v_t_tester_ports, v_t_tester_groundKind, v_t_tester_words, v_t_tester_allBits, v_t_tester_memory, v_t_tester_scrambled, v_t_tester_wordAt, v_t_tester_zeroOf])), (h_t_tester_failures, .inr (2, [.ref h_t_tester_failures_parts, .int t_tester_failures_count])), (h_t_tester_failures_parts, .inl (cI, n_t_tester_failures_parts, .inl t_tester_failures_parts_a))] sz) := by
  refine entW ⟨by decide +kernel, rfl⟩ fun p e s m below meth c C0 hP hD hsz ls hl => ?_
  subst hsz
  generalize hAe : va_A [(h_t, .inr (0, [v_t_words, v_t_cells, v_t_tape, v_t_reader, v_t_faults, v_t_single, .ref h_t_tester, v_t_plan, v_t_march, v_t_draft])), (h_t_tester, .inr (8, [.ref h_t_tester_failures, v_t_tester_ports, v_t_tester_groundKind, v_t_tester_words, v_t_tester_allBits, v_t_tester_memory, v_t_tester_scrambled, v_t_tester_wordAt, v_t_tester_zeroOf])), (h_t_tester_failures, .inr (2, [.ref h_t_tester_failures_parts, .int t_tester_failures_count])), (h_t_tester_failures_parts, .inl (cI, n_t_tester_failures_parts, .inl t_tester_failures_parts_a))] s.heap.size = A at hD ⊢
  have hA : ∀ q : Nat, s.heap.size ≤ q → A q := fun q h => by rw [← hAe]; exact Or.inr h
  clear hAe
  have hS : va_S A s.heap s.heap [] := va_S.rf
  have hl : lv_has ls 5 [(0, .ref h_t), (1, .int a1), (2, .int a2)] := hl
  obtain ⟨hx, hb, hml, hr, hlocks, hts, hown, hK, hin⟩ := id C0
  have hf : (((
  (if a1 < 0 then
    (f_MT_failing_24 n_t_tester_failures_parts t_tester_failures_count t_tester_failures_parts_a a1 a2)
  else
    (if t_tester_failures_count ≤ a1 then
      (f_MT_failing_24 n_t_tester_failures_parts t_tester_failures_count t_tester_failures_parts_a a1 a2)
    else
      (f_MT_failing_25 n_t_tester_failures_parts t_tester_failures_count t_tester_failures_parts_a 1 a1 a2))))) : Option ((Int32) ⊕ Nat)) = some (Sum.inl res) := hf
  obtain ⟨H, hH⟩ : ∃ H, H = s.heap := ⟨_, rfl⟩
  obtain ⟨locs, hlo⟩ : ∃ x : List Loc, x = [] := ⟨_, rfl⟩
  rw [← hlo] at hS ⊢
  have hP : va_P D classes [(h_t, .inr (0, [v_t_words, v_t_cells, v_t_tape, v_t_reader, v_t_faults, v_t_single, .ref h_t_tester, v_t_plan, v_t_march, v_t_draft])), (h_t_tester, .inr (8, [.ref h_t_tester_failures, v_t_tester_ports, v_t_tester_groundKind, v_t_tester_words, v_t_tester_allBits, v_t_tester_memory, v_t_tester_scrambled, v_t_tester_wordAt, v_t_tester_zeroOf])), (h_t_tester_failures, .inr (2, [.ref h_t_tester_failures_parts, .int t_tester_failures_count])), (h_t_tester_failures_parts, .inl (cI, n_t_tester_failures_parts, .inl t_tester_failures_parts_a))] H := by rw [hH]; exact hP
  have hS : va_S A s.heap H locs := by rw [hH]; exact hS
  show W p l e rm_MT_failing s m _ below meth c s.heap locs 0 0 (MQ below (QW D (post_MT_failing h_t h_t_tester h_t_tester_failures h_t_tester_failures_parts v_t_words v_t_cells v_t_tape v_t_reader v_t_faults v_t_single v_t_plan v_t_march v_t_draft v_t_tester_ports v_t_tester_groundKind v_t_tester_words v_t_tester_allBits v_t_tester_memory v_t_tester_scrambled v_t_tester_wordAt v_t_tester_zeroOf n_t_tester_failures_parts t_tester_failures_count t_tester_failures_parts_a cI cB cJ res) A) _ s 0 0 A) (F0 m 0 ls [])
  refine wheap hH ?_
  clear hH hlo
  refine lv_aload_n hx hb d_MT_failing_0 rfl (lv_at hl 0 rfl) ?_
  refine va_get (D := D) (ci := 0) (v := .ref h_t_tester) (C := R_MT) (T := F_MT) (N := 10) hx hb hts i_MT hown hK.1 hP 0 rfl rfl 6 (by decide) (hts _ w_97) (fun _ h9 => h9) rfl d_MT_failing_1 ?_
  refine va_get (D := D) (ci := 8) (v := .ref h_t_tester_failures) (C := R_Tester) (T := F_Tester) (N := 9) hx hb hts i_Tester hown hK.1 hP 1 rfl rfl 0 (by decide) (hts _ w_292) (fun _ h9 => h9) rfl d_MT_failing_4 ?_
  refine lv_astore_n (lv' := [(3, .ref h_t_tester_failures), (0, .ref h_t), (1, .int a1), (2, .int a2)]) hx hb d_MT_failing_7 rfl hl (by decide) rfl (fun ls hl => ?_)
  refine lv_iload_n hx hb d_MT_failing_8 rfl (lv_at hl 2 rfl) ?_
  refine lv_if_lt (tgt := 24) hx hb d_MT_failing_9 (by decide) (fun cc9 => ?_) (fun cc9 => ?_)
  · have hf := ifT cc9 hf
    exact k_MT_failing_24 (s := s) C0 hA hf hP hD hS (lv_sub hl [2, 3, 0] rfl)
  · have hf := ifF cc9 hf
    refine lv_iload_n hx hb d_MT_failing_12 rfl (lv_at hl 2 rfl) ?_
    refine lv_aload_n hx hb d_MT_failing_13 rfl (lv_at hl 0 rfl) ?_
    refine va_get (D := D) (ci := 2) (v := .int t_tester_failures_count) (C := R_Failures) (T := F_Failures) (N := 2) hx hb hts i_Failures hown hK.1 hP 2 rfl rfl 1 (by decide) (hts _ w_319) (fun _ h9 => h9) rfl d_MT_failing_14 ?_
    refine lv_icmp_ge (tgt := 24) hx hb d_MT_failing_17 (by decide) (fun cc17 => ?_) (fun cc17 => ?_)
    · have hf := ifT cc17 hf
      exact k_MT_failing_24 (s := s) C0 hA hf hP hD hS (lv_sub hl [2, 3, 0] rfl)
    · have hf := ifF cc17 hf
      refine lv_iconst (v := 1) hx hb d_MT_failing_20 (by decide) ?_
      refine lv_goto (tgt := 25) hx hb d_MT_failing_21 (by decide) ?_
      exact k_MT_failing_25 (s := s) C0 hA hf hP hD hS (lv_sub hl [2, 3, 0] rfl)
def f_MT_isSpareCount (a1 : Int32) : Option (Int32) :=
  (if a1 < 0 then
    some 0
  else
    (if 8 < a1 then
      some 0
    else
      some 1))
def post_MT_isSpareCount (cI cB cJ : ClassId) (res : Int32) : Option Value → va_W → Prop := fun o ws' => o = some (.int res) ∧ ws' = []
abbrev rm_MT_isSpareCount : Room := { frames := 0, cells := 0, slots := 0, locals := 0 }
set_option maxHeartbeats 4000000 in
set_option maxRecDepth 100000 in
theorem c_MT_isSpareCount (l : Launch) (D : va_G) (cI cB cJ : ClassId)   (a1 : Int32) (sz : Nat) (res : Int32) (hf : f_MT_isSpareCount a1 = some res) : Met l y_MT_isSpareCount (.code y_MT_isSpareCount b_MT_isSpareCount 1 (some .boolean) :: TB) rm_MT_isSpareCount (PcW D [(cI, .int), (cB, .byte), (cJ, .long)] [.int a1] [] sz) (QW D (post_MT_isSpareCount cI cB cJ res) (va_A [] sz)) 0 0 (va_A [] sz) := by
  refine entW ⟨by decide +kernel, rfl⟩ fun p e s m below meth c C0 hP hD hsz ls hl => ?_
  subst hsz
  generalize hAe : va_A [] s.heap.size = A at hD ⊢
  have hA : ∀ q : Nat, s.heap.size ≤ q → A q := fun q h => by rw [← hAe]; exact Or.inr h
  clear hAe
  have hS : va_S A s.heap s.heap [] := va_S.rf
  have hl : lv_has ls 1 [(0, .int a1)] := hl
  obtain ⟨hx, hb, hml, hr, hlocks, hts, hown, hK, hin⟩ := id C0
  have hf : (((
  (if a1 < 0 then
    some 0
  else
    (if 8 < a1 then
      some 0
    else
      some 1)))) : Option (Int32)) = some res := hf
  obtain ⟨H, hH⟩ : ∃ H, H = s.heap := ⟨_, rfl⟩
  obtain ⟨locs, hlo⟩ : ∃ x : List Loc, x = [] := ⟨_, rfl⟩
  rw [← hlo] at hS ⊢
  have hP : va_P D classes [] H := by rw [hH]; exact hP
  have hS : va_S A s.heap H locs := by rw [hH]; exact hS
  show W p l e rm_MT_isSpareCount s m _ below meth c s.heap locs 0 0 (MQ below (QW D (post_MT_isSpareCount cI cB cJ res) A) _ s 0 0 A) (F0 m 0 ls [])
  refine wheap hH ?_
  clear hH hlo
  refine lv_iload_n hx hb d_MT_isSpareCount_0 rfl (lv_at hl 0 rfl) ?_
  refine lv_if_lt (tgt := 14) hx hb d_MT_isSpareCount_1 (by decide) (fun cc1 => ?_) (fun cc1 => ?_)
  · have hf := ifT cc1 hf
    refine lv_iconst (v := 0) hx hb d_MT_isSpareCount_14 (by decide) ?_
    obtain rfl := Option.some.inj hf
    exact ret_z hx hb hr rfl hlocks hP hD hS ⟨rfl, rfl⟩ d_MT_isSpareCount_15
  · have hf := ifF cc1 hf
    refine lv_iload_n hx hb d_MT_isSpareCount_4 rfl (lv_at hl 0 rfl) ?_
    refine lv_bipush (v := 8) hx hb d_MT_isSpareCount_5 (by decide) ?_
    refine lv_icmp_gt (tgt := 14) hx hb d_MT_isSpareCount_7 (by decide) (fun cc7 => ?_) (fun cc7 => ?_)
    · have hf := ifT cc7 hf
      refine lv_iconst (v := 0) hx hb d_MT_isSpareCount_14 (by decide) ?_
      obtain rfl := Option.some.inj hf
      exact ret_z hx hb hr rfl hlocks hP hD hS ⟨rfl, rfl⟩ d_MT_isSpareCount_15
    · have hf := ifF cc7 hf
      refine lv_iconst (v := 1) hx hb d_MT_isSpareCount_10 (by decide) ?_
      refine lv_goto (tgt := 15) hx hb d_MT_isSpareCount_11 (by decide) ?_
      obtain rfl := Option.some.inj hf
      exact ret_z hx hb hr rfl hlocks hP hD hS ⟨rfl, rfl⟩ d_MT_isSpareCount_15
def g_RepairPlan_gatherWrongBits_25 (n_a1_parts : Nat) (n_t_wrongBits : Nat) (a1_count : Int32) (a1_parts_a : Nat → Int32) (rec25 : ((Nat → Int32) × Int32) → Option ((Nat → Int32))) (st : ((Nat → Int32) × Int32)) : Option ((Nat → Int32)) :=
  (if a1_count ≤ st.2 then
    some st.1
  else
    (Option.bind (f_Failures_part n_a1_parts a1_parts_a st.2 2) fun q40_1 =>
    (if inB q40_1 n_t_wrongBits = true then
    (Option.bind (f_Failures_part n_a1_parts a1_parts_a st.2 3) fun q48_2 =>
    (if inB q40_1 n_t_wrongBits = true then
    (rec25 ((upd st.1 (Int32.toNatClampNeg q40_1) ((st.1 (Int32.toNatClampNeg q40_1)) ||| q48_2)), (st.2 + 1)))
    else none))
    else none)))
def g_RepairPlan_gatherWrongBits_2 (n_a1_parts : Nat) (n_t_wrongBits : Nat) (t_words : Int32) (a1_count : Int32) (a1_parts_a : Nat → Int32) (rec2 : ((Nat → Int32) × Int32) → Option ((Nat → Int32))) (st : ((Nat → Int32) × Int32)) : Option ((Nat → Int32)) :=
  (if t_words ≤ st.2 then
    (lp (g_RepairPlan_gatherWrongBits_25 n_a1_parts n_t_wrongBits a1_count a1_parts_a) 100000 (st.1, 0))
  else
    (if inB st.2 n_t_wrongBits = true then
    (rec2 ((upd st.1 (Int32.toNatClampNeg st.2) 0), (st.2 + 1)))
    else none))
def f_RepairPlan_gatherWrongBits (n_a1_parts : Nat) (n_t_wrongBits : Nat) (t_words : Int32) (a1_count : Int32) (a1_parts_a : Nat → Int32) (t_wrongBits_a : Nat → Int32) : Option ((Nat → Int32)) :=
  (lp (g_RepairPlan_gatherWrongBits_2 n_a1_parts n_t_wrongBits t_words a1_count a1_parts_a) 100000 (t_wrongBits_a, 0))
def post_RepairPlan_gatherWrongBits (h_t h_a1 h_t_wrongBits h_a1_parts : Nat) (v_t_fuses v_t_proven v_t_columnSets v_t_solved v_t_bestRows v_t_bestColumns : Value) (n_a1_parts : Nat) (n_t_wrongBits : Nat) (t_words : Int32) (a1_count : Int32) (a1_parts_a : Nat → Int32) (cI cB cJ : ClassId) (res : (Nat → Int32)) : Option Value → va_W → Prop := fun o ws' => o = none ∧ ws' = [(h_t, .inr (6, [v_t_fuses, v_t_proven, .int t_words, v_t_columnSets, .ref h_t_wrongBits, v_t_solved, v_t_bestRows, v_t_bestColumns])), (h_a1, .inr (2, [.ref h_a1_parts, .int a1_count])), (h_a1_parts, .inl (cI, n_a1_parts, .inl a1_parts_a)), (h_t_wrongBits, .inl (cI, n_t_wrongBits, .inl res))]
abbrev rm_RepairPlan_gatherWrongBits : Room := { frames := 1, cells := 0, slots := 0, locals := 22 }
set_option maxHeartbeats 4000000 in
set_option maxRecDepth 100000 in
theorem kb_RepairPlan_gatherWrongBits_25 {p : Program} {l : Launch} {e : Env} {s : State} {m : MethodId} {args : Array Value} {below : List Frame} {meth : Method} {c : Code} {D : va_G} {cI cB cJ : ClassId} {A : Nat → Prop} (C0 : CX p s m args meth c D [(cI, .int), (cB, .byte), (cJ, .long)] R_RepairPlan b_RepairPlan_gatherWrongBits 3 none "gatherWrongBits") (hA : ∀ q, s.heap.size ≤ q → A q) {h_t h_a1 h_t_wrongBits h_a1_parts : Nat} {v_t_fuses v_t_proven v_t_columnSets v_t_solved v_t_bestRows v_t_bestColumns : Value} {res : (Nat → Int32)} {rec25 : ((Nat → Int32) × Int32) → Option ((Nat → Int32))} {n_a1_parts : Nat} {n_t_wrongBits : Nat} {t_words : Int32} {a1_count : Int32} {a1_parts_a : Nat → Int32} {t_wrongBits_a : Nat → Int32} {x2 : Int32}
    (hrec25 : ∀ (st : ((Nat → Int32) × Int32)), rec25 st = some res → ∀  (H : Heap) (locs : List Loc) (ls : Array Slot), va_P D classes [(h_t, .inr (6, [v_t_fuses, v_t_proven, .int t_words, v_t_columnSets, .ref h_t_wrongBits, v_t_solved, v_t_bestRows, v_t_bestColumns])), (h_a1, .inr (2, [.ref h_a1_parts, .int a1_count])), (h_a1_parts, .inl (cI, n_a1_parts, .inl a1_parts_a)), (h_t_wrongBits, .inl (cI, n_t_wrongBits, .inl st.1))] H → va_D A [(h_t, .inr (6, [v_t_fuses, v_t_proven, .int t_words, v_t_columnSets, .ref h_t_wrongBits, v_t_solved, v_t_bestRows, v_t_bestColumns])), (h_a1, .inr (2, [.ref h_a1_parts, .int a1_count])), (h_a1_parts, .inl (cI, n_a1_parts, .inl a1_parts_a)), (h_t_wrongBits, .inl (cI, n_t_wrongBits, .inl st.1))] → va_S A s.heap H locs → lv_has ls 3 [(0, .ref h_t), (1, .ref h_a1), (2, .int st.2)] → W p l e rm_RepairPlan_gatherWrongBits s m args below meth c H locs 0 0 (MQ below (QW D (post_RepairPlan_gatherWrongBits h_t h_a1 h_t_wrongBits h_a1_parts v_t_fuses v_t_proven v_t_columnSets v_t_solved v_t_bestRows v_t_bestColumns n_a1_parts n_t_wrongBits t_words a1_count a1_parts_a cI cB cJ res) A) args s 0 0 A) (F0 m 25 ls []))
    (hf : g_RepairPlan_gatherWrongBits_25 n_a1_parts n_t_wrongBits a1_count a1_parts_a rec25 (t_wrongBits_a, x2) = some res) {H : Heap} {locs : List Loc} {ls : Array Slot} (hP : va_P D classes [(h_t, .inr (6, [v_t_fuses, v_t_proven, .int t_words, v_t_columnSets, .ref h_t_wrongBits, v_t_solved, v_t_bestRows, v_t_bestColumns])), (h_a1, .inr (2, [.ref h_a1_parts, .int a1_count])), (h_a1_parts, .inl (cI, n_a1_parts, .inl a1_parts_a)), (h_t_wrongBits, .inl (cI, n_t_wrongBits, .inl t_wrongBits_a))] H) (hD : va_D A [(h_t, .inr (6, [v_t_fuses, v_t_proven, .int t_words, v_t_columnSets, .ref h_t_wrongBits, v_t_solved, v_t_bestRows, v_t_bestColumns])), (h_a1, .inr (2, [.ref h_a1_parts, .int a1_count])), (h_a1_parts, .inl (cI, n_a1_parts, .inl a1_parts_a)), (h_t_wrongBits, .inl (cI, n_t_wrongBits, .inl t_wrongBits_a))]) (hS : va_S A s.heap H locs) (hl : lv_has ls 3 [(0, .ref h_t), (1, .ref h_a1), (2, .int x2)]) : W p l e rm_RepairPlan_gatherWrongBits s m args below meth c H locs 0 0 (MQ below (QW D (post_RepairPlan_gatherWrongBits h_t h_a1 h_t_wrongBits h_a1_parts v_t_fuses v_t_proven v_t_columnSets v_t_solved v_t_bestRows v_t_bestColumns n_a1_parts n_t_wrongBits t_words a1_count a1_parts_a cI cB cJ res) A) args s 0 0 A) (F0 m 25 ls []) := by
  obtain ⟨hx, hb, hml, hr, hlocks, hts, hown, hK, hin⟩ := id C0
  have hf : (((
  (if a1_count ≤ x2 then
    some t_wrongBits_a
  else
    (Option.bind (f_Failures_part n_a1_parts a1_parts_a x2 2) fun q40_1 =>
    (if inB q40_1 n_t_wrongBits = true then
    (Option.bind (f_Failures_part n_a1_parts a1_parts_a x2 3) fun q48_2 =>
    (if inB q40_1 n_t_wrongBits = true then
    (rec25 ((upd t_wrongBits_a (Int32.toNatClampNeg q40_1) ((t_wrongBits_a (Int32.toNatClampNeg q40_1)) ||| q48_2)), (x2 + 1)))
    else none))
    else none))))) : Option ((Nat → Int32))) = some res := hf
  refine lv_iload_n hx hb d_RepairPlan_gatherWrongBits_25 rfl (lv_at hl 2 rfl) ?_
  refine lv_aload_n hx hb d_RepairPlan_gatherWrongBits_26 rfl (lv_at hl 1 rfl) ?_
  refine va_get (D := D) (ci := 2) (v := .int a1_count) (C := R_Failures) (T := F_Failures) (N := 2) hx hb hts i_Failures hown hK.1 hP 1 rfl rfl 1 (by decide) (hts _ w_320) (fun _ h9 => h9) rfl d_RepairPlan_gatherWrongBits_27 ?_
  refine lv_icmp_ge (tgt := 59) hx hb d_RepairPlan_gatherWrongBits_30 (by decide) (fun cc30 => ?_) (fun cc30 => ?_)
  · have hf := ifT cc30 hf
    obtain rfl := Option.some.inj hf
    exact ret_v hx hb hr hlocks hP hD hS ⟨rfl, rfl⟩ d_RepairPlan_gatherWrongBits_59
  · have hf := ifF cc30 hf
    refine lv_aload_n hx hb d_RepairPlan_gatherWrongBits_33 rfl (lv_at hl 0 rfl) ?_
    refine va_get (D := D) (ci := 6) (v := .ref h_t_wrongBits) (C := R_RepairPlan) (T := F_RepairPlan) (N := 8) hx hb hts i_RepairPlan hown hK.1 hP 0 rfl rfl 4 (by decide) (hts _ w_62) (fun _ h9 => h9) rfl d_RepairPlan_gatherWrongBits_34 ?_
    refine lv_aload_n hx hb d_RepairPlan_gatherWrongBits_37 rfl (lv_at hl 1 rfl) ?_
    refine lv_iload_n hx hb d_RepairPlan_gatherWrongBits_38 rfl (lv_at hl 2 rfl) ?_
    refine lv_iconst (v := 2) hx hb d_RepairPlan_gatherWrongBits_39 (by decide) ?_
    obtain ⟨q40_1, hc, hf⟩ := bindS hf
    refine mcV (n := 2) (As := [.int x2, .int 2]) (rest := [.ref h_t_wrongBits]) (wr := [(h_t, .inr (6, [v_t_fuses, v_t_proven, .int t_words, v_t_columnSets, .ref h_t_wrongBits, v_t_solved, v_t_bestRows, v_t_bestColumns])), (h_t_wrongBits, .inl (cI, n_t_wrongBits, .inl t_wrongBits_a))]) hx hb hml hown hts hK (c_Failures_part (l := l) (D := D) (cI := cI) (cB := cB) (cJ := cJ) (h_t := h_a1) (h_t_parts := h_a1_parts) (v_t_count := (.int a1_count)) (n_t_parts := n_a1_parts) (t_parts_a := a1_parts_a) (a1 := x2) (a2 := 2) (sz := H.size) (res := q40_1) (hf := hc)) w_321 w_316 w_317 w_48 w_318 (by decide +kernel) rfl rfl ⟨Nat.le_of_ble_eq_true rfl, Nat.le_of_ble_eq_true rfl⟩ hP hD hS hA [1, 2] [0, 3] rfl rfl (by decide) (by decide) (by decide) (ci := 2) 0 rfl rfl hl.1 rfl rfl (lv_room (Nat.le_of_ble_eq_true rfl)) d_RepairPlan_gatherWrongBits_40 ⟨Nat.le_of_ble_eq_true rfl, Nat.le_of_ble_eq_true rfl⟩ (fun o ws' H locs hp hP hD hS => ?_)
    obtain ⟨rfl, rfl⟩ := hp
    have hP : va_P D classes [(h_t, .inr (6, [v_t_fuses, v_t_proven, .int t_words, v_t_columnSets, .ref h_t_wrongBits, v_t_solved, v_t_bestRows, v_t_bestColumns])), (h_a1, .inr (2, [.ref h_a1_parts, .int a1_count])), (h_a1_parts, .inl (cI, n_a1_parts, .inl a1_parts_a)), (h_t_wrongBits, .inl (cI, n_t_wrongBits, .inl t_wrongBits_a))] H := hP.sub [0, 2, 3, 1] rfl
    have hD : va_D A [(h_t, .inr (6, [v_t_fuses, v_t_proven, .int t_words, v_t_columnSets, .ref h_t_wrongBits, v_t_solved, v_t_bestRows, v_t_bestColumns])), (h_a1, .inr (2, [.ref h_a1_parts, .int a1_count])), (h_a1_parts, .inl (cI, n_a1_parts, .inl a1_parts_a)), (h_t_wrongBits, .inl (cI, n_t_wrongBits, .inl t_wrongBits_a))] := hD.sub [0, 2, 3, 1] (by decide) rfl
    refine lv_dup2_11 hx hb d_RepairPlan_gatherWrongBits_43 rfl rfl ?_
    obtain ⟨hin1, hf⟩ := ifG hf
    refine va_iald hx hb hK.1 hP 3 0 rfl rfl (inB_in hin1) d_RepairPlan_gatherWrongBits_44 ?_
    refine lv_aload_n hx hb d_RepairPlan_gatherWrongBits_45 rfl (lv_at hl 1 rfl) ?_
    refine lv_iload_n hx hb d_RepairPlan_gatherWrongBits_46 rfl (lv_at hl 2 rfl) ?_
    refine lv_iconst (v := 3) hx hb d_RepairPlan_gatherWrongBits_47 (by decide) ?_
    obtain ⟨q48_2, hc, hf⟩ := bindS hf
    refine mcV (n := 2) (As := [.int x2, .int 3]) (rest := [.int (t_wrongBits_a (Int32.toNatClampNeg q40_1)), .int q40_1, .ref h_t_wrongBits]) (wr := [(h_t, .inr (6, [v_t_fuses, v_t_proven, .int t_words, v_t_columnSets, .ref h_t_wrongBits, v_t_solved, v_t_bestRows, v_t_bestColumns])), (h_t_wrongBits, .inl (cI, n_t_wrongBits, .inl t_wrongBits_a))]) hx hb hml hown hts hK (c_Failures_part (l := l) (D := D) (cI := cI) (cB := cB) (cJ := cJ) (h_t := h_a1) (h_t_parts := h_a1_parts) (v_t_count := (.int a1_count)) (n_t_parts := n_a1_parts) (t_parts_a := a1_parts_a) (a1 := x2) (a2 := 3) (sz := H.size) (res := q48_2) (hf := hc)) w_321 w_316 w_317 w_48 w_318 (by decide +kernel) rfl rfl ⟨Nat.le_of_ble_eq_true rfl, Nat.le_of_ble_eq_true rfl⟩ hP hD hS hA [1, 2] [0, 3] rfl rfl (by decide) (by decide) (by decide) (ci := 2) 0 rfl rfl hl.1 rfl rfl (lv_room (Nat.le_of_ble_eq_true rfl)) d_RepairPlan_gatherWrongBits_48 ⟨Nat.le_of_ble_eq_true rfl, Nat.le_of_ble_eq_true rfl⟩ (fun o ws' H locs hp hP hD hS => ?_)
    obtain ⟨rfl, rfl⟩ := hp
    have hP : va_P D classes [(h_t, .inr (6, [v_t_fuses, v_t_proven, .int t_words, v_t_columnSets, .ref h_t_wrongBits, v_t_solved, v_t_bestRows, v_t_bestColumns])), (h_a1, .inr (2, [.ref h_a1_parts, .int a1_count])), (h_a1_parts, .inl (cI, n_a1_parts, .inl a1_parts_a)), (h_t_wrongBits, .inl (cI, n_t_wrongBits, .inl t_wrongBits_a))] H := hP.sub [0, 2, 3, 1] rfl
    have hD : va_D A [(h_t, .inr (6, [v_t_fuses, v_t_proven, .int t_words, v_t_columnSets, .ref h_t_wrongBits, v_t_solved, v_t_bestRows, v_t_bestColumns])), (h_a1, .inr (2, [.ref h_a1_parts, .int a1_count])), (h_a1_parts, .inl (cI, n_a1_parts, .inl a1_parts_a)), (h_t_wrongBits, .inl (cI, n_t_wrongBits, .inl t_wrongBits_a))] := hD.sub [0, 2, 3, 1] (by decide) rfl
    refine lv_ior hx hb d_RepairPlan_gatherWrongBits_51 ?_
    obtain ⟨hin1, hf⟩ := ifG hf
    refine va_iast hx hb hK.1 hP hD hS 3 0 rfl rfl (inB_in hin1) d_RepairPlan_gatherWrongBits_52 (fun H locs hP hD hS => ?_)
    have hP : va_P D classes [(h_t, .inr (6, [v_t_fuses, v_t_proven, .int t_words, v_t_columnSets, .ref h_t_wrongBits, v_t_solved, v_t_bestRows, v_t_bestColumns])), (h_a1, .inr (2, [.ref h_a1_parts, .int a1_count])), (h_a1_parts, .inl (cI, n_a1_parts, .inl a1_parts_a)), (h_t_wrongBits, .inl (cI, n_t_wrongBits, .inl (upd t_wrongBits_a (Int32.toNatClampNeg q40_1) ((t_wrongBits_a (Int32.toNatClampNeg q40_1)) ||| q48_2))))] H := hP
    have hD : va_D A [(h_t, .inr (6, [v_t_fuses, v_t_proven, .int t_words, v_t_columnSets, .ref h_t_wrongBits, v_t_solved, v_t_bestRows, v_t_bestColumns])), (h_a1, .inr (2, [.ref h_a1_parts, .int a1_count])), (h_a1_parts, .inl (cI, n_a1_parts, .inl a1_parts_a)), (h_t_wrongBits, .inl (cI, n_t_wrongBits, .inl (upd t_wrongBits_a (Int32.toNatClampNeg q40_1) ((t_wrongBits_a (Int32.toNatClampNeg q40_1)) ||| q48_2))))] := hD
    refine lv_iinc (v := (x2 + 1)) (lv' := [(2, .int (x2 + 1)), (0, .ref h_t), (1, .ref h_a1)]) hx hb d_RepairPlan_gatherWrongBits_53 hl (k := 2) rfl rfl (by decide) rfl (fun ls hl => ?_)
    refine lv_goto (tgt := 25) hx hb d_RepairPlan_gatherWrongBits_56 (by decide) ?_
    exact hrec25 ((upd t_wrongBits_a (Int32.toNatClampNeg q40_1) ((t_wrongBits_a (Int32.toNatClampNeg q40_1)) ||| q48_2)), (x2 + 1)) hf  H locs ls hP hD hS (lv_sub hl [1, 2, 0] rfl)
set_option maxHeartbeats 4000000 in
set_option maxRecDepth 100000 in
theorem k_RepairPlan_gatherWrongBits_25 {p : Program} {l : Launch} {e : Env} {s : State} {m : MethodId} {args : Array Value} {below : List Frame} {meth : Method} {c : Code} {D : va_G} {cI cB cJ : ClassId} {A : Nat → Prop} (C0 : CX p s m args meth c D [(cI, .int), (cB, .byte), (cJ, .long)] R_RepairPlan b_RepairPlan_gatherWrongBits 3 none "gatherWrongBits") (hA : ∀ q, s.heap.size ≤ q → A q) {h_t h_a1 h_t_wrongBits h_a1_parts : Nat} {v_t_fuses v_t_proven v_t_columnSets v_t_solved v_t_bestRows v_t_bestColumns : Value} {res : (Nat → Int32)} {n_a1_parts : Nat} {n_t_wrongBits : Nat} {t_words : Int32} {a1_count : Int32} {a1_parts_a : Nat → Int32}
    : ∀ (n : Nat) (st : ((Nat → Int32) × Int32)), lp (g_RepairPlan_gatherWrongBits_25 n_a1_parts n_t_wrongBits a1_count a1_parts_a) n st = some res → ∀  (H : Heap) (locs : List Loc) (ls : Array Slot), va_P D classes [(h_t, .inr (6, [v_t_fuses, v_t_proven, .int t_words, v_t_columnSets, .ref h_t_wrongBits, v_t_solved, v_t_bestRows, v_t_bestColumns])), (h_a1, .inr (2, [.ref h_a1_parts, .int a1_count])), (h_a1_parts, .inl (cI, n_a1_parts, .inl a1_parts_a)), (h_t_wrongBits, .inl (cI, n_t_wrongBits, .inl st.1))] H → va_D A [(h_t, .inr (6, [v_t_fuses, v_t_proven, .int t_words, v_t_columnSets, .ref h_t_wrongBits, v_t_solved, v_t_bestRows, v_t_bestColumns])), (h_a1, .inr (2, [.ref h_a1_parts, .int a1_count])), (h_a1_parts, .inl (cI, n_a1_parts, .inl a1_parts_a)), (h_t_wrongBits, .inl (cI, n_t_wrongBits, .inl st.1))] → va_S A s.heap H locs → lv_has ls 3 [(0, .ref h_t), (1, .ref h_a1), (2, .int st.2)] → W p l e rm_RepairPlan_gatherWrongBits s m args below meth c H locs 0 0 (MQ below (QW D (post_RepairPlan_gatherWrongBits h_t h_a1 h_t_wrongBits h_a1_parts v_t_fuses v_t_proven v_t_columnSets v_t_solved v_t_bestRows v_t_bestColumns n_a1_parts n_t_wrongBits t_words a1_count a1_parts_a cI cB cJ res) A) args s 0 0 A) (F0 m 25 ls []) := by
  intro n
  induction n with
  | zero => intro st hf; exact absurd hf (by simp [lp])
  | succ n ih =>
    intro st hf  H locs ls hP hD hS hl
    exact kb_RepairPlan_gatherWrongBits_25 C0 hA (rec25 := lp (g_RepairPlan_gatherWrongBits_25 n_a1_parts n_t_wrongBits a1_count a1_parts_a) n) (t_wrongBits_a := st.1) (x2 := st.2)  (fun st hf  H locs ls hP hD hS hl => ih st hf  H locs ls hP hD hS hl) hf hP hD hS hl
set_option maxHeartbeats 4000000 in
set_option maxRecDepth 100000 in
theorem kb_RepairPlan_gatherWrongBits_2 {p : Program} {l : Launch} {e : Env} {s : State} {m : MethodId} {args : Array Value} {below : List Frame} {meth : Method} {c : Code} {D : va_G} {cI cB cJ : ClassId} {A : Nat → Prop} (C0 : CX p s m args meth c D [(cI, .int), (cB, .byte), (cJ, .long)] R_RepairPlan b_RepairPlan_gatherWrongBits 3 none "gatherWrongBits") (hA : ∀ q, s.heap.size ≤ q → A q) {h_t h_a1 h_t_wrongBits h_a1_parts : Nat} {v_t_fuses v_t_proven v_t_columnSets v_t_solved v_t_bestRows v_t_bestColumns : Value} {res : (Nat → Int32)} {rec2 : ((Nat → Int32) × Int32) → Option ((Nat → Int32))} {n_a1_parts : Nat} {n_t_wrongBits : Nat} {t_words : Int32} {a1_count : Int32} {a1_parts_a : Nat → Int32} {t_wrongBits_a : Nat → Int32} {x2 : Int32}
    (hrec2 : ∀ (st : ((Nat → Int32) × Int32)), rec2 st = some res → ∀  (H : Heap) (locs : List Loc) (ls : Array Slot), va_P D classes [(h_t, .inr (6, [v_t_fuses, v_t_proven, .int t_words, v_t_columnSets, .ref h_t_wrongBits, v_t_solved, v_t_bestRows, v_t_bestColumns])), (h_a1, .inr (2, [.ref h_a1_parts, .int a1_count])), (h_a1_parts, .inl (cI, n_a1_parts, .inl a1_parts_a)), (h_t_wrongBits, .inl (cI, n_t_wrongBits, .inl st.1))] H → va_D A [(h_t, .inr (6, [v_t_fuses, v_t_proven, .int t_words, v_t_columnSets, .ref h_t_wrongBits, v_t_solved, v_t_bestRows, v_t_bestColumns])), (h_a1, .inr (2, [.ref h_a1_parts, .int a1_count])), (h_a1_parts, .inl (cI, n_a1_parts, .inl a1_parts_a)), (h_t_wrongBits, .inl (cI, n_t_wrongBits, .inl st.1))] → va_S A s.heap H locs → lv_has ls 3 [(0, .ref h_t), (1, .ref h_a1), (2, .int st.2)] → W p l e rm_RepairPlan_gatherWrongBits s m args below meth c H locs 0 0 (MQ below (QW D (post_RepairPlan_gatherWrongBits h_t h_a1 h_t_wrongBits h_a1_parts v_t_fuses v_t_proven v_t_columnSets v_t_solved v_t_bestRows v_t_bestColumns n_a1_parts n_t_wrongBits t_words a1_count a1_parts_a cI cB cJ res) A) args s 0 0 A) (F0 m 2 ls []))
    (hf : g_RepairPlan_gatherWrongBits_2 n_a1_parts n_t_wrongBits t_words a1_count a1_parts_a rec2 (t_wrongBits_a, x2) = some res) {H : Heap} {locs : List Loc} {ls : Array Slot} (hP : va_P D classes [(h_t, .inr (6, [v_t_fuses, v_t_proven, .int t_words, v_t_columnSets, .ref h_t_wrongBits, v_t_solved, v_t_bestRows, v_t_bestColumns])), (h_a1, .inr (2, [.ref h_a1_parts, .int a1_count])), (h_a1_parts, .inl (cI, n_a1_parts, .inl a1_parts_a)), (h_t_wrongBits, .inl (cI, n_t_wrongBits, .inl t_wrongBits_a))] H) (hD : va_D A [(h_t, .inr (6, [v_t_fuses, v_t_proven, .int t_words, v_t_columnSets, .ref h_t_wrongBits, v_t_solved, v_t_bestRows, v_t_bestColumns])), (h_a1, .inr (2, [.ref h_a1_parts, .int a1_count])), (h_a1_parts, .inl (cI, n_a1_parts, .inl a1_parts_a)), (h_t_wrongBits, .inl (cI, n_t_wrongBits, .inl t_wrongBits_a))]) (hS : va_S A s.heap H locs) (hl : lv_has ls 3 [(0, .ref h_t), (1, .ref h_a1), (2, .int x2)]) : W p l e rm_RepairPlan_gatherWrongBits s m args below meth c H locs 0 0 (MQ below (QW D (post_RepairPlan_gatherWrongBits h_t h_a1 h_t_wrongBits h_a1_parts v_t_fuses v_t_proven v_t_columnSets v_t_solved v_t_bestRows v_t_bestColumns n_a1_parts n_t_wrongBits t_words a1_count a1_parts_a cI cB cJ res) A) args s 0 0 A) (F0 m 2 ls []) := by
  obtain ⟨hx, hb, hml, hr, hlocks, hts, hown, hK, hin⟩ := id C0
  have hf : (((
  (if t_words ≤ x2 then
    (lp (g_RepairPlan_gatherWrongBits_25 n_a1_parts n_t_wrongBits a1_count a1_parts_a) 100000 (t_wrongBits_a, 0))
  else
    (if inB x2 n_t_wrongBits = true then
    (rec2 ((upd t_wrongBits_a (Int32.toNatClampNeg x2) 0), (x2 + 1)))
    else none)))) : Option ((Nat → Int32))) = some res := hf
  refine lv_iload_n hx hb d_RepairPlan_gatherWrongBits_2 rfl (lv_at hl 2 rfl) ?_
  refine lv_aload_n hx hb d_RepairPlan_gatherWrongBits_3 rfl (lv_at hl 0 rfl) ?_
  refine va_get (D := D) (ci := 6) (v := .int t_words) (C := R_RepairPlan) (T := F_RepairPlan) (N := 8) hx hb hts i_RepairPlan hown hK.1 hP 0 rfl rfl 2 (by decide) (hts _ w_59) (fun _ h9 => h9) rfl d_RepairPlan_gatherWrongBits_4 ?_
  refine lv_icmp_ge (tgt := 23) hx hb d_RepairPlan_gatherWrongBits_7 (by decide) (fun cc7 => ?_) (fun cc7 => ?_)
  · have hf := ifT cc7 hf
    refine lv_iconst (v := 0) hx hb d_RepairPlan_gatherWrongBits_23 (by decide) ?_
    refine lv_istore_n (lv' := [(2, .int 0), (0, .ref h_t), (1, .ref h_a1)]) hx hb d_RepairPlan_gatherWrongBits_24 rfl hl (by decide) rfl (fun ls hl => ?_)
    exact k_RepairPlan_gatherWrongBits_25 (s := s) C0 hA _ (t_wrongBits_a, 0) hf  H locs ls hP hD hS (lv_sub hl [1, 2, 0] rfl)
  · have hf := ifF cc7 hf
    refine lv_aload_n hx hb d_RepairPlan_gatherWrongBits_10 rfl (lv_at hl 0 rfl) ?_
    refine va_get (D := D) (ci := 6) (v := .ref h_t_wrongBits) (C := R_RepairPlan) (T := F_RepairPlan) (N := 8) hx hb hts i_RepairPlan hown hK.1 hP 0 rfl rfl 4 (by decide) (hts _ w_62) (fun _ h9 => h9) rfl d_RepairPlan_gatherWrongBits_11 ?_
    refine lv_iload_n hx hb d_RepairPlan_gatherWrongBits_14 rfl (lv_at hl 2 rfl) ?_
    refine lv_iconst (v := 0) hx hb d_RepairPlan_gatherWrongBits_15 (by decide) ?_
    obtain ⟨hin1, hf⟩ := ifG hf
    refine va_iast hx hb hK.1 hP hD hS 3 0 rfl rfl (inB_in hin1) d_RepairPlan_gatherWrongBits_16 (fun H locs hP hD hS => ?_)
    have hP : va_P D classes [(h_t, .inr (6, [v_t_fuses, v_t_proven, .int t_words, v_t_columnSets, .ref h_t_wrongBits, v_t_solved, v_t_bestRows, v_t_bestColumns])), (h_a1, .inr (2, [.ref h_a1_parts, .int a1_count])), (h_a1_parts, .inl (cI, n_a1_parts, .inl a1_parts_a)), (h_t_wrongBits, .inl (cI, n_t_wrongBits, .inl (upd t_wrongBits_a (Int32.toNatClampNeg x2) 0)))] H := hP
    have hD : va_D A [(h_t, .inr (6, [v_t_fuses, v_t_proven, .int t_words, v_t_columnSets, .ref h_t_wrongBits, v_t_solved, v_t_bestRows, v_t_bestColumns])), (h_a1, .inr (2, [.ref h_a1_parts, .int a1_count])), (h_a1_parts, .inl (cI, n_a1_parts, .inl a1_parts_a)), (h_t_wrongBits, .inl (cI, n_t_wrongBits, .inl (upd t_wrongBits_a (Int32.toNatClampNeg x2) 0)))] := hD
    refine lv_iinc (v := (x2 + 1)) (lv' := [(2, .int (x2 + 1)), (0, .ref h_t), (1, .ref h_a1)]) hx hb d_RepairPlan_gatherWrongBits_17 hl (k := 2) rfl rfl (by decide) rfl (fun ls hl => ?_)
    refine lv_goto (tgt := 2) hx hb d_RepairPlan_gatherWrongBits_20 (by decide) ?_
    exact hrec2 ((upd t_wrongBits_a (Int32.toNatClampNeg x2) 0), (x2 + 1)) hf  H locs ls hP hD hS (lv_sub hl [1, 2, 0] rfl)
set_option maxHeartbeats 4000000 in
set_option maxRecDepth 100000 in
theorem k_RepairPlan_gatherWrongBits_2 {p : Program} {l : Launch} {e : Env} {s : State} {m : MethodId} {args : Array Value} {below : List Frame} {meth : Method} {c : Code} {D : va_G} {cI cB cJ : ClassId} {A : Nat → Prop} (C0 : CX p s m args meth c D [(cI, .int), (cB, .byte), (cJ, .long)] R_RepairPlan b_RepairPlan_gatherWrongBits 3 none "gatherWrongBits") (hA : ∀ q, s.heap.size ≤ q → A q) {h_t h_a1 h_t_wrongBits h_a1_parts : Nat} {v_t_fuses v_t_proven v_t_columnSets v_t_solved v_t_bestRows v_t_bestColumns : Value} {res : (Nat → Int32)} {n_a1_parts : Nat} {n_t_wrongBits : Nat} {t_words : Int32} {a1_count : Int32} {a1_parts_a : Nat → Int32}
    : ∀ (n : Nat) (st : ((Nat → Int32) × Int32)), lp (g_RepairPlan_gatherWrongBits_2 n_a1_parts n_t_wrongBits t_words a1_count a1_parts_a) n st = some res → ∀  (H : Heap) (locs : List Loc) (ls : Array Slot), va_P D classes [(h_t, .inr (6, [v_t_fuses, v_t_proven, .int t_words, v_t_columnSets, .ref h_t_wrongBits, v_t_solved, v_t_bestRows, v_t_bestColumns])), (h_a1, .inr (2, [.ref h_a1_parts, .int a1_count])), (h_a1_parts, .inl (cI, n_a1_parts, .inl a1_parts_a)), (h_t_wrongBits, .inl (cI, n_t_wrongBits, .inl st.1))] H → va_D A [(h_t, .inr (6, [v_t_fuses, v_t_proven, .int t_words, v_t_columnSets, .ref h_t_wrongBits, v_t_solved, v_t_bestRows, v_t_bestColumns])), (h_a1, .inr (2, [.ref h_a1_parts, .int a1_count])), (h_a1_parts, .inl (cI, n_a1_parts, .inl a1_parts_a)), (h_t_wrongBits, .inl (cI, n_t_wrongBits, .inl st.1))] → va_S A s.heap H locs → lv_has ls 3 [(0, .ref h_t), (1, .ref h_a1), (2, .int st.2)] → W p l e rm_RepairPlan_gatherWrongBits s m args below meth c H locs 0 0 (MQ below (QW D (post_RepairPlan_gatherWrongBits h_t h_a1 h_t_wrongBits h_a1_parts v_t_fuses v_t_proven v_t_columnSets v_t_solved v_t_bestRows v_t_bestColumns n_a1_parts n_t_wrongBits t_words a1_count a1_parts_a cI cB cJ res) A) args s 0 0 A) (F0 m 2 ls []) := by
  intro n
  induction n with
  | zero => intro st hf; exact absurd hf (by simp [lp])
  | succ n ih =>
    intro st hf  H locs ls hP hD hS hl
    exact kb_RepairPlan_gatherWrongBits_2 C0 hA (rec2 := lp (g_RepairPlan_gatherWrongBits_2 n_a1_parts n_t_wrongBits t_words a1_count a1_parts_a) n) (t_wrongBits_a := st.1) (x2 := st.2)  (fun st hf  H locs ls hP hD hS hl => ih st hf  H locs ls hP hD hS hl) hf hP hD hS hl
set_option maxHeartbeats 4000000 in
set_option maxRecDepth 100000 in
theorem c_RepairPlan_gatherWrongBits (l : Launch) (D : va_G) (cI cB cJ : ClassId) (h_t h_a1 h_t_wrongBits h_a1_parts : Nat) (v_t_fuses v_t_proven v_t_columnSets v_t_solved v_t_bestRows v_t_bestColumns : Value) (n_a1_parts : Nat) (n_t_wrongBits : Nat) (t_words : Int32) (a1_count : Int32) (a1_parts_a : Nat → Int32) (t_wrongBits_a : Nat → Int32) (sz : Nat) (res : (Nat → Int32)) (hf : f_RepairPlan_gatherWrongBits n_a1_parts n_t_wrongBits t_words a1_count a1_parts_a t_wrongBits_a = some res) : Met l y_RepairPlan_gatherWrongBits (.code y_RepairPlan_gatherWrongBits b_RepairPlan_gatherWrongBits 3 none :: TB) rm_RepairPlan_gatherWrongBits (PcW D [(cI, .int), (cB, .byte), (cJ, .long)] [.ref h_t, .ref h_a1] [(h_t, .inr (6, [v_t_fuses, v_t_proven, .int t_words, v_t_columnSets, .ref h_t_wrongBits, v_t_solved, v_t_bestRows, v_t_bestColumns])), (h_a1, .inr (2, [.ref h_a1_parts, .int a1_count])), (h_a1_parts, .inl (cI, n_a1_parts, .inl a1_parts_a)), (h_t_wrongBits, .inl (cI, n_t_wrongBits, .inl t_wrongBits_a))] sz) (QW D (post_RepairPlan_gatherWrongBits h_t h_a1 h_t_wrongBits h_a1_parts v_t_fuses v_t_proven v_t_columnSets v_t_solved v_t_bestRows v_t_bestColumns n_a1_parts n_t_wrongBits t_words a1_count a1_parts_a cI cB cJ res) (va_A [(h_t, .inr (6, [v_t_fuses, v_t_proven, .int t_words, v_t_columnSets, .ref h_t_wrongBits, v_t_solved, v_t_bestRows, v_t_bestColumns])), (h_a1, .inr (2, [.ref h_a1_parts, .int a1_count])), (h_a1_parts, .inl (cI, n_a1_parts, .inl a1_parts_a)), (h_t_wrongBits, .inl (cI, n_t_wrongBits, .inl t_wrongBits_a))] sz)) 0 0 (va_A [(h_t, .inr (6, [v_t_fuses, v_t_proven, .int t_words, v_t_columnSets, .ref h_t_wrongBits, v_t_solved, v_t_bestRows, v_t_bestColumns])), (h_a1, .inr (2, [.ref h_a1_parts, .int a1_count])), (h_a1_parts, .inl (cI, n_a1_parts, .inl a1_parts_a)), (h_t_wrongBits, .inl (cI, n_t_wrongBits, .inl t_wrongBits_a))] sz) := by
  refine entW ⟨by decide +kernel, rfl⟩ fun p e s m below meth c C0 hP hD hsz ls hl => ?_
  subst hsz
  generalize hAe : va_A [(h_t, .inr (6, [v_t_fuses, v_t_proven, .int t_words, v_t_columnSets, .ref h_t_wrongBits, v_t_solved, v_t_bestRows, v_t_bestColumns])), (h_a1, .inr (2, [.ref h_a1_parts, .int a1_count])), (h_a1_parts, .inl (cI, n_a1_parts, .inl a1_parts_a)), (h_t_wrongBits, .inl (cI, n_t_wrongBits, .inl t_wrongBits_a))] s.heap.size = A at hD ⊢
  have hA : ∀ q : Nat, s.heap.size ≤ q → A q := fun q h => by rw [← hAe]; exact Or.inr h
  clear hAe
  have hS : va_S A s.heap s.heap [] := va_S.rf
  have hl : lv_has ls 3 [(0, .ref h_t), (1, .ref h_a1)] := hl
  obtain ⟨hx, hb, hml, hr, hlocks, hts, hown, hK, hin⟩ := id C0
  have hf : (((
  (lp (g_RepairPlan_gatherWrongBits_2 n_a1_parts n_t_wrongBits t_words a1_count a1_parts_a) 100000 (t_wrongBits_a, 0)))) : Option ((Nat → Int32))) = some res := hf
  obtain ⟨H, hH⟩ : ∃ H, H = s.heap := ⟨_, rfl⟩
  obtain ⟨locs, hlo⟩ : ∃ x : List Loc, x = [] := ⟨_, rfl⟩
  rw [← hlo] at hS ⊢
  have hP : va_P D classes [(h_t, .inr (6, [v_t_fuses, v_t_proven, .int t_words, v_t_columnSets, .ref h_t_wrongBits, v_t_solved, v_t_bestRows, v_t_bestColumns])), (h_a1, .inr (2, [.ref h_a1_parts, .int a1_count])), (h_a1_parts, .inl (cI, n_a1_parts, .inl a1_parts_a)), (h_t_wrongBits, .inl (cI, n_t_wrongBits, .inl t_wrongBits_a))] H := by rw [hH]; exact hP
  have hS : va_S A s.heap H locs := by rw [hH]; exact hS
  show W p l e rm_RepairPlan_gatherWrongBits s m _ below meth c s.heap locs 0 0 (MQ below (QW D (post_RepairPlan_gatherWrongBits h_t h_a1 h_t_wrongBits h_a1_parts v_t_fuses v_t_proven v_t_columnSets v_t_solved v_t_bestRows v_t_bestColumns n_a1_parts n_t_wrongBits t_words a1_count a1_parts_a cI cB cJ res) A) _ s 0 0 A) (F0 m 0 ls [])
  refine wheap hH ?_
  clear hH hlo
  refine lv_iconst (v := 0) hx hb d_RepairPlan_gatherWrongBits_0 (by decide) ?_
  refine lv_istore_n (lv' := [(2, .int 0), (0, .ref h_t), (1, .ref h_a1)]) hx hb d_RepairPlan_gatherWrongBits_1 rfl hl (by decide) rfl (fun ls hl => ?_)
  exact k_RepairPlan_gatherWrongBits_2 (s := s) C0 hA _ (t_wrongBits_a, 0) hf  H locs ls hP hD hS (lv_sub hl [1, 2, 0] rfl)
def g_RepairPlan_wordsWrongOutside_4 (n_t_wrongBits : Nat) (t_words : Int32) (t_wrongBits_a : Nat → Int32) (x1 : Int32) (rec4 : (Int32 × Int32) → Option (Int32)) (st : (Int32 × Int32)) : Option (Int32) :=
  (if t_words ≤ st.2 then
    some st.1
  else
    (if inB st.2 n_t_wrongBits = true then
    (if ((t_wrongBits_a (Int32.toNatClampNeg st.2)) &&& (x1 ^^^ (-1))) = 0 then
      (rec4 (st.1, (st.2 + 1)))
    else
      (rec4 ((st.1 ||| (1 <<< (st.2 &&& 31))), (st.2 + 1))))
    else none))
def f_RepairPlan_wordsWrongOutside (n_t_wrongBits : Nat) (t_words : Int32) (t_wrongBits_a : Nat → Int32) (a1 : Int32) : Option (Int32) :=
  (lp (g_RepairPlan_wordsWrongOutside_4 n_t_wrongBits t_words t_wrongBits_a a1) 100000 (0, 0))
def post_RepairPlan_wordsWrongOutside (h_t h_t_wrongBits : Nat) (v_t_fuses v_t_proven v_t_columnSets v_t_solved v_t_bestRows v_t_bestColumns : Value) (n_t_wrongBits : Nat) (t_words : Int32) (t_wrongBits_a : Nat → Int32) (cI cB cJ : ClassId) (res : Int32) : Option Value → va_W → Prop := fun o ws' => o = some (.int res) ∧ ws' = [(h_t, .inr (6, [v_t_fuses, v_t_proven, .int t_words, v_t_columnSets, .ref h_t_wrongBits, v_t_solved, v_t_bestRows, v_t_bestColumns])), (h_t_wrongBits, .inl (cI, n_t_wrongBits, .inl t_wrongBits_a))]
abbrev rm_RepairPlan_wordsWrongOutside : Room := { frames := 0, cells := 0, slots := 0, locals := 0 }
set_option maxHeartbeats 4000000 in
set_option maxRecDepth 100000 in
theorem kb_RepairPlan_wordsWrongOutside_4 {p : Program} {l : Launch} {e : Env} {s : State} {m : MethodId} {args : Array Value} {below : List Frame} {meth : Method} {c : Code} {D : va_G} {cI cB cJ : ClassId} {A : Nat → Prop} (C0 : CX p s m args meth c D [(cI, .int), (cB, .byte), (cJ, .long)] R_RepairPlan b_RepairPlan_wordsWrongOutside 4 (some .int) "wordsWrongOutside") (hA : ∀ q, s.heap.size ≤ q → A q) {h_t h_t_wrongBits : Nat} {v_t_fuses v_t_proven v_t_columnSets v_t_solved v_t_bestRows v_t_bestColumns : Value} {res : Int32} {rec4 : (Int32 × Int32) → Option (Int32)} {n_t_wrongBits : Nat} {t_words : Int32} {t_wrongBits_a : Nat → Int32} {x1 : Int32} {x2 : Int32} {x3 : Int32}
    (hrec4 : ∀ (st : (Int32 × Int32)), rec4 st = some res → ∀  (H : Heap) (locs : List Loc) (ls : Array Slot), va_P D classes [(h_t, .inr (6, [v_t_fuses, v_t_proven, .int t_words, v_t_columnSets, .ref h_t_wrongBits, v_t_solved, v_t_bestRows, v_t_bestColumns])), (h_t_wrongBits, .inl (cI, n_t_wrongBits, .inl t_wrongBits_a))] H → va_D A [(h_t, .inr (6, [v_t_fuses, v_t_proven, .int t_words, v_t_columnSets, .ref h_t_wrongBits, v_t_solved, v_t_bestRows, v_t_bestColumns])), (h_t_wrongBits, .inl (cI, n_t_wrongBits, .inl t_wrongBits_a))] → va_S A s.heap H locs → lv_has ls 4 [(0, .ref h_t), (1, .int x1), (2, .int st.1), (3, .int st.2)] → W p l e rm_RepairPlan_wordsWrongOutside s m args below meth c H locs 0 0 (MQ below (QW D (post_RepairPlan_wordsWrongOutside h_t h_t_wrongBits v_t_fuses v_t_proven v_t_columnSets v_t_solved v_t_bestRows v_t_bestColumns n_t_wrongBits t_words t_wrongBits_a cI cB cJ res) A) args s 0 0 A) (F0 m 4 ls []))
    (hf : g_RepairPlan_wordsWrongOutside_4 n_t_wrongBits t_words t_wrongBits_a x1 rec4 (x2, x3) = some res) {H : Heap} {locs : List Loc} {ls : Array Slot} (hP : va_P D classes [(h_t, .inr (6, [v_t_fuses, v_t_proven, .int t_words, v_t_columnSets, .ref h_t_wrongBits, v_t_solved, v_t_bestRows, v_t_bestColumns])), (h_t_wrongBits, .inl (cI, n_t_wrongBits, .inl t_wrongBits_a))] H) (hD : va_D A [(h_t, .inr (6, [v_t_fuses, v_t_proven, .int t_words, v_t_columnSets, .ref h_t_wrongBits, v_t_solved, v_t_bestRows, v_t_bestColumns])), (h_t_wrongBits, .inl (cI, n_t_wrongBits, .inl t_wrongBits_a))]) (hS : va_S A s.heap H locs) (hl : lv_has ls 4 [(0, .ref h_t), (1, .int x1), (2, .int x2), (3, .int x3)]) : W p l e rm_RepairPlan_wordsWrongOutside s m args below meth c H locs 0 0 (MQ below (QW D (post_RepairPlan_wordsWrongOutside h_t h_t_wrongBits v_t_fuses v_t_proven v_t_columnSets v_t_solved v_t_bestRows v_t_bestColumns n_t_wrongBits t_words t_wrongBits_a cI cB cJ res) A) args s 0 0 A) (F0 m 4 ls []) := by
  obtain ⟨hx, hb, hml, hr, hlocks, hts, hown, hK, hin⟩ := id C0
  have hf : (((
  (if t_words ≤ x3 then
    some x2
  else
    (if inB x3 n_t_wrongBits = true then
    (if ((t_wrongBits_a (Int32.toNatClampNeg x3)) &&& (x1 ^^^ (-1))) = 0 then
      (rec4 (x2, (x3 + 1)))
    else
      (rec4 ((x2 ||| (1 <<< (x3 &&& 31))), (x3 + 1))))
    else none)))) : Option (Int32)) = some res := hf
  refine lv_iload_n hx hb d_RepairPlan_wordsWrongOutside_4 rfl (lv_at hl 3 rfl) ?_
  refine lv_aload_n hx hb d_RepairPlan_wordsWrongOutside_5 rfl (lv_at hl 0 rfl) ?_
  refine va_get (D := D) (ci := 6) (v := .int t_words) (C := R_RepairPlan) (T := F_RepairPlan) (N := 8) hx hb hts i_RepairPlan hown hK.1 hP 0 rfl rfl 2 (by decide) (hts _ w_59) (fun _ h9 => h9) rfl d_RepairPlan_wordsWrongOutside_6 ?_
  refine lv_icmp_ge (tgt := 37) hx hb d_RepairPlan_wordsWrongOutside_9 (by decide) (fun cc9 => ?_) (fun cc9 => ?_)
  · have hf := ifT cc9 hf
    refine lv_iload_n hx hb d_RepairPlan_wordsWrongOutside_37 rfl (lv_at hl 2 rfl) ?_
    obtain rfl := Option.some.inj hf
    exact ret_i hx hb hr hlocks hP hD hS ⟨rfl, rfl⟩ d_RepairPlan_wordsWrongOutside_38
  · have hf := ifF cc9 hf
    refine lv_aload_n hx hb d_RepairPlan_wordsWrongOutside_12 rfl (lv_at hl 0 rfl) ?_
    refine va_get (D := D) (ci := 6) (v := .ref h_t_wrongBits) (C := R_RepairPlan) (T := F_RepairPlan) (N := 8) hx hb hts i_RepairPlan hown hK.1 hP 0 rfl rfl 4 (by decide) (hts _ w_62) (fun _ h9 => h9) rfl d_RepairPlan_wordsWrongOutside_13 ?_
    refine lv_iload_n hx hb d_RepairPlan_wordsWrongOutside_16 rfl (lv_at hl 3 rfl) ?_
    obtain ⟨hin1, hf⟩ := ifG hf
    refine va_iald hx hb hK.1 hP 1 0 rfl rfl (inB_in hin1) d_RepairPlan_wordsWrongOutside_17 ?_
    refine lv_iload_n hx hb d_RepairPlan_wordsWrongOutside_18 rfl (lv_at hl 1 rfl) ?_
    refine lv_iconst (v := (-1)) hx hb d_RepairPlan_wordsWrongOutside_19 (by decide) ?_
    refine lv_ixor hx hb d_RepairPlan_wordsWrongOutside_20 ?_
    refine lv_iand hx hb d_RepairPlan_wordsWrongOutside_21 ?_
    refine lv_if_eq (tgt := 31) hx hb d_RepairPlan_wordsWrongOutside_22 (by decide) (fun cc22 => ?_) (fun cc22 => ?_)
    · have hf := ifT cc22 hf
      refine lv_iinc (v := (x3 + 1)) (lv' := [(3, .int (x3 + 1)), (0, .ref h_t), (1, .int x1), (2, .int x2)]) hx hb d_RepairPlan_wordsWrongOutside_31 hl (k := 3) rfl rfl (by decide) rfl (fun ls hl => ?_)
      refine lv_goto (tgt := 4) hx hb d_RepairPlan_wordsWrongOutside_34 (by decide) ?_
      exact hrec4 (x2, (x3 + 1)) hf  H locs ls hP hD hS (lv_sub hl [1, 2, 3, 0] rfl)
    · have hf := ifF cc22 hf
      refine lv_iload_n hx hb d_RepairPlan_wordsWrongOutside_25 rfl (lv_at hl 2 rfl) ?_
      refine lv_iconst (v := 1) hx hb d_RepairPlan_wordsWrongOutside_26 (by decide) ?_
      refine lv_iload_n hx hb d_RepairPlan_wordsWrongOutside_27 rfl (lv_at hl 3 rfl) ?_
      refine lv_ishl hx hb d_RepairPlan_wordsWrongOutside_28 ?_
      refine lv_ior hx hb d_RepairPlan_wordsWrongOutside_29 ?_
      refine lv_istore_n (lv' := [(2, .int (x2 ||| (1 <<< (x3 &&& 31)))), (0, .ref h_t), (1, .int x1), (3, .int x3)]) hx hb d_RepairPlan_wordsWrongOutside_30 rfl hl (by decide) rfl (fun ls hl => ?_)
      refine lv_iinc (v := (x3 + 1)) (lv' := [(3, .int (x3 + 1)), (2, .int (x2 ||| (1 <<< (x3 &&& 31)))), (0, .ref h_t), (1, .int x1)]) hx hb d_RepairPlan_wordsWrongOutside_31 hl (k := 3) rfl rfl (by decide) rfl (fun ls hl => ?_)
      refine lv_goto (tgt := 4) hx hb d_RepairPlan_wordsWrongOutside_34 (by decide) ?_
      exact hrec4 ((x2 ||| (1 <<< (x3 &&& 31))), (x3 + 1)) hf  H locs ls hP hD hS (lv_sub hl [2, 3, 1, 0] rfl)
set_option maxHeartbeats 4000000 in
set_option maxRecDepth 100000 in
theorem k_RepairPlan_wordsWrongOutside_4 {p : Program} {l : Launch} {e : Env} {s : State} {m : MethodId} {args : Array Value} {below : List Frame} {meth : Method} {c : Code} {D : va_G} {cI cB cJ : ClassId} {A : Nat → Prop} (C0 : CX p s m args meth c D [(cI, .int), (cB, .byte), (cJ, .long)] R_RepairPlan b_RepairPlan_wordsWrongOutside 4 (some .int) "wordsWrongOutside") (hA : ∀ q, s.heap.size ≤ q → A q) {h_t h_t_wrongBits : Nat} {v_t_fuses v_t_proven v_t_columnSets v_t_solved v_t_bestRows v_t_bestColumns : Value} {res : Int32} {n_t_wrongBits : Nat} {t_words : Int32} {t_wrongBits_a : Nat → Int32} {x1 : Int32}
    : ∀ (n : Nat) (st : (Int32 × Int32)), lp (g_RepairPlan_wordsWrongOutside_4 n_t_wrongBits t_words t_wrongBits_a x1) n st = some res → ∀  (H : Heap) (locs : List Loc) (ls : Array Slot), va_P D classes [(h_t, .inr (6, [v_t_fuses, v_t_proven, .int t_words, v_t_columnSets, .ref h_t_wrongBits, v_t_solved, v_t_bestRows, v_t_bestColumns])), (h_t_wrongBits, .inl (cI, n_t_wrongBits, .inl t_wrongBits_a))] H → va_D A [(h_t, .inr (6, [v_t_fuses, v_t_proven, .int t_words, v_t_columnSets, .ref h_t_wrongBits, v_t_solved, v_t_bestRows, v_t_bestColumns])), (h_t_wrongBits, .inl (cI, n_t_wrongBits, .inl t_wrongBits_a))] → va_S A s.heap H locs → lv_has ls 4 [(0, .ref h_t), (1, .int x1), (2, .int st.1), (3, .int st.2)] → W p l e rm_RepairPlan_wordsWrongOutside s m args below meth c H locs 0 0 (MQ below (QW D (post_RepairPlan_wordsWrongOutside h_t h_t_wrongBits v_t_fuses v_t_proven v_t_columnSets v_t_solved v_t_bestRows v_t_bestColumns n_t_wrongBits t_words t_wrongBits_a cI cB cJ res) A) args s 0 0 A) (F0 m 4 ls []) := by
  intro n
  induction n with
  | zero => intro st hf; exact absurd hf (by simp [lp])
  | succ n ih =>
    intro st hf  H locs ls hP hD hS hl
    exact kb_RepairPlan_wordsWrongOutside_4 C0 hA (rec4 := lp (g_RepairPlan_wordsWrongOutside_4 n_t_wrongBits t_words t_wrongBits_a x1) n) (x2 := st.1) (x3 := st.2)  (fun st hf  H locs ls hP hD hS hl => ih st hf  H locs ls hP hD hS hl) hf hP hD hS hl
set_option maxHeartbeats 4000000 in
set_option maxRecDepth 100000 in
theorem c_RepairPlan_wordsWrongOutside (l : Launch) (D : va_G) (cI cB cJ : ClassId) (h_t h_t_wrongBits : Nat) (v_t_fuses v_t_proven v_t_columnSets v_t_solved v_t_bestRows v_t_bestColumns : Value) (n_t_wrongBits : Nat) (t_words : Int32) (t_wrongBits_a : Nat → Int32) (a1 : Int32) (sz : Nat) (res : Int32) (hf : f_RepairPlan_wordsWrongOutside n_t_wrongBits t_words t_wrongBits_a a1 = some res) : Met l y_RepairPlan_wordsWrongOutside (.code y_RepairPlan_wordsWrongOutside b_RepairPlan_wordsWrongOutside 4 (some .int) :: TB) rm_RepairPlan_wordsWrongOutside (PcW D [(cI, .int), (cB, .byte), (cJ, .long)] [.ref h_t, .int a1] [(h_t, .inr (6, [v_t_fuses, v_t_proven, .int t_words, v_t_columnSets, .ref h_t_wrongBits, v_t_solved, v_t_bestRows, v_t_bestColumns])), (h_t_wrongBits, .inl (cI, n_t_wrongBits, .inl t_wrongBits_a))] sz) (QW D (post_RepairPlan_wordsWrongOutside h_t h_t_wrongBits v_t_fuses v_t_proven v_t_columnSets v_t_solved v_t_bestRows v_t_bestColumns n_t_wrongBits t_words t_wrongBits_a cI cB cJ res) (va_A [(h_t, .inr (6, [v_t_fuses, v_t_proven, .int t_words, v_t_columnSets, .ref h_t_wrongBits, v_t_solved, v_t_bestRows, v_t_bestColumns])), (h_t_wrongBits, .inl (cI, n_t_wrongBits, .inl t_wrongBits_a))] sz)) 0 0 (va_A [(h_t, .inr (6, [v_t_fuses, v_t_proven, .int t_words, v_t_columnSets, .ref h_t_wrongBits, v_t_solved, v_t_bestRows, v_t_bestColumns])), (h_t_wrongBits, .inl (cI, n_t_wrongBits, .inl t_wrongBits_a))] sz) := by
  refine entW ⟨by decide +kernel, rfl⟩ fun p e s m below meth c C0 hP hD hsz ls hl => ?_
  subst hsz
  generalize hAe : va_A [(h_t, .inr (6, [v_t_fuses, v_t_proven, .int t_words, v_t_columnSets, .ref h_t_wrongBits, v_t_solved, v_t_bestRows, v_t_bestColumns])), (h_t_wrongBits, .inl (cI, n_t_wrongBits, .inl t_wrongBits_a))] s.heap.size = A at hD ⊢
  have hA : ∀ q : Nat, s.heap.size ≤ q → A q := fun q h => by rw [← hAe]; exact Or.inr h
  clear hAe
  have hS : va_S A s.heap s.heap [] := va_S.rf
  have hl : lv_has ls 4 [(0, .ref h_t), (1, .int a1)] := hl
  obtain ⟨hx, hb, hml, hr, hlocks, hts, hown, hK, hin⟩ := id C0
  have hf : (((
  (lp (g_RepairPlan_wordsWrongOutside_4 n_t_wrongBits t_words t_wrongBits_a a1) 100000 (0, 0)))) : Option (Int32)) = some res := hf
  obtain ⟨H, hH⟩ : ∃ H, H = s.heap := ⟨_, rfl⟩
  obtain ⟨locs, hlo⟩ : ∃ x : List Loc, x = [] := ⟨_, rfl⟩
  rw [← hlo] at hS ⊢
  have hP : va_P D classes [(h_t, .inr (6, [v_t_fuses, v_t_proven, .int t_words, v_t_columnSets, .ref h_t_wrongBits, v_t_solved, v_t_bestRows, v_t_bestColumns])), (h_t_wrongBits, .inl (cI, n_t_wrongBits, .inl t_wrongBits_a))] H := by rw [hH]; exact hP
  have hS : va_S A s.heap H locs := by rw [hH]; exact hS
  show W p l e rm_RepairPlan_wordsWrongOutside s m _ below meth c s.heap locs 0 0 (MQ below (QW D (post_RepairPlan_wordsWrongOutside h_t h_t_wrongBits v_t_fuses v_t_proven v_t_columnSets v_t_solved v_t_bestRows v_t_bestColumns n_t_wrongBits t_words t_wrongBits_a cI cB cJ res) A) _ s 0 0 A) (F0 m 0 ls [])
  refine wheap hH ?_
  clear hH hlo
  refine lv_iconst (v := 0) hx hb d_RepairPlan_wordsWrongOutside_0 (by decide) ?_
  refine lv_istore_n (lv' := [(2, .int 0), (0, .ref h_t), (1, .int a1)]) hx hb d_RepairPlan_wordsWrongOutside_1 rfl hl (by decide) rfl (fun ls hl => ?_)
  refine lv_iconst (v := 0) hx hb d_RepairPlan_wordsWrongOutside_2 (by decide) ?_
  refine lv_istore_n (lv' := [(3, .int 0), (2, .int 0), (0, .ref h_t), (1, .int a1)]) hx hb d_RepairPlan_wordsWrongOutside_3 rfl hl (by decide) rfl (fun ls hl => ?_)
  exact k_RepairPlan_wordsWrongOutside_4 (s := s) C0 hA _ (0, 0) hf  H locs ls hP hD hS (lv_sub hl [2, 3, 1, 0] rfl)
def f_RepairPlan_spares (a1 : Int32) (a2 : Int32) : Option (Int32) :=
  (Option.bind (f_JI_bitCount a1) fun q1_1 =>
  (Option.bind (f_JI_bitCount a2) fun q5_2 =>
  some (q1_1 + q5_2)))
def post_RepairPlan_spares (cI cB cJ : ClassId) (res : Int32) : Option Value → va_W → Prop := fun o ws' => o = some (.int res) ∧ ws' = []
abbrev rm_RepairPlan_spares : Room := { frames := 1, cells := 0, slots := 0, locals := 20 }
set_option maxHeartbeats 4000000 in
set_option maxRecDepth 100000 in
theorem c_RepairPlan_spares (l : Launch) (D : va_G) (cI cB cJ : ClassId)   (a1 : Int32) (a2 : Int32) (sz : Nat) (res : Int32) (hf : f_RepairPlan_spares a1 a2 = some res) : Met l y_RepairPlan_spares (.code y_RepairPlan_spares b_RepairPlan_spares 2 (some .int) :: TB) rm_RepairPlan_spares (PcW D [(cI, .int), (cB, .byte), (cJ, .long)] [.int a1, .int a2] [] sz) (QW D (post_RepairPlan_spares cI cB cJ res) (va_A [] sz)) 0 0 (va_A [] sz) := by
  refine entW ⟨by decide +kernel, rfl⟩ fun p e s m below meth c C0 hP hD hsz ls hl => ?_
  subst hsz
  generalize hAe : va_A [] s.heap.size = A at hD ⊢
  have hA : ∀ q : Nat, s.heap.size ≤ q → A q := fun q h => by rw [← hAe]; exact Or.inr h
  clear hAe
  have hS : va_S A s.heap s.heap [] := va_S.rf
  have hl : lv_has ls 2 [(0, .int a1), (1, .int a2)] := hl
  obtain ⟨hx, hb, hml, hr, hlocks, hts, hown, hK, hin⟩ := id C0
  have hf : (((
  (Option.bind (f_JI_bitCount a1) fun q1_1 =>
  (Option.bind (f_JI_bitCount a2) fun q5_2 =>
  some (q1_1 + q5_2))))) : Option (Int32)) = some res := hf
  obtain ⟨H, hH⟩ : ∃ H, H = s.heap := ⟨_, rfl⟩
  obtain ⟨locs, hlo⟩ : ∃ x : List Loc, x = [] := ⟨_, rfl⟩
  rw [← hlo] at hS ⊢
  have hP : va_P D classes [] H := by rw [hH]; exact hP
  have hS : va_S A s.heap H locs := by rw [hH]; exact hS
  show W p l e rm_RepairPlan_spares s m _ below meth c s.heap locs 0 0 (MQ below (QW D (post_RepairPlan_spares cI cB cJ res) A) _ s 0 0 A) (F0 m 0 ls [])
  refine wheap hH ?_
  clear hH hlo
  refine lv_iload_n hx hb d_RepairPlan_spares_0 rfl (lv_at hl 0 rfl) ?_
  obtain ⟨q1_1, hc, hf⟩ := bindS hf
  refine mcS (n := 1) (As := [.int a1]) (rest := []) (wr := []) hx hb hml hown hts hK (c_JI_bitCount (l := l) (D := D) (cI := cI) (cB := cB) (cJ := cJ) (a1 := a1) (sz := H.size) (res := q1_1) (hf := hc)) w_322 w_323 w_324 w_325 (by decide +kernel) rfl rfl ⟨Nat.le_of_ble_eq_true rfl, Nat.le_of_ble_eq_true rfl⟩ hP hD hS hA [] [] rfl rfl (by decide) (by decide) (by decide) hl.1 rfl rfl (lv_room (Nat.le_of_ble_eq_true rfl)) d_RepairPlan_spares_1 ⟨Nat.le_of_ble_eq_true rfl, Nat.le_of_ble_eq_true rfl⟩ (fun o ws' H locs hp hP hD hS => ?_)
  obtain ⟨rfl, rfl⟩ := hp
  have hP : va_P D classes [] H := hP.sub [] rfl
  have hD : va_D A [] := hD.sub [] (by decide) rfl
  refine lv_iload_n hx hb d_RepairPlan_spares_4 rfl (lv_at hl 1 rfl) ?_
  obtain ⟨q5_2, hc, hf⟩ := bindS hf
  refine mcS (n := 1) (As := [.int a2]) (rest := [.int q1_1]) (wr := []) hx hb hml hown hts hK (c_JI_bitCount (l := l) (D := D) (cI := cI) (cB := cB) (cJ := cJ) (a1 := a2) (sz := H.size) (res := q5_2) (hf := hc)) w_322 w_323 w_324 w_325 (by decide +kernel) rfl rfl ⟨Nat.le_of_ble_eq_true rfl, Nat.le_of_ble_eq_true rfl⟩ hP hD hS hA [] [] rfl rfl (by decide) (by decide) (by decide) hl.1 rfl rfl (lv_room (Nat.le_of_ble_eq_true rfl)) d_RepairPlan_spares_5 ⟨Nat.le_of_ble_eq_true rfl, Nat.le_of_ble_eq_true rfl⟩ (fun o ws' H locs hp hP hD hS => ?_)
  obtain ⟨rfl, rfl⟩ := hp
  have hP : va_P D classes [] H := hP.sub [] rfl
  have hD : va_D A [] := hD.sub [] (by decide) rfl
  refine lv_iadd hx hb d_RepairPlan_spares_8 ?_
  obtain rfl := Option.some.inj hf
  exact ret_i hx hb hr hlocks hP hD hS ⟨rfl, rfl⟩ d_RepairPlan_spares_9
def f_RepairPlan_isBetter_44 (t_bestRows : Int32) (x1 : Int32) (x3 : Int32) : Option (Int32) :=
  (if x3 = 0 then
    (if (x1 &&& ((x1 ^^^ t_bestRows) &&& (-(x1 ^^^ t_bestRows)))) = 0 then
      some 0
    else
      some 1)
  else
    (if 0 ≤ x3 then
      some 0
    else
      some 1))
def f_RepairPlan_isBetter (t_solved : Int32) (t_bestRows : Int32) (t_bestColumns : Int32) (a1 : Int32) (a2 : Int32) : Option (Int32) :=
  (if t_solved = 0 then
    some 1
  else
    (Option.bind (f_RepairPlan_spares a1 a2) fun q11_1 =>
    (Option.bind (f_RepairPlan_spares t_bestRows t_bestColumns) fun q22_2 =>
    (if (q11_1 - q22_2) = 0 then
      (Option.bind (f_JI_bitCount a1) fun q32_3 =>
      (Option.bind (f_JI_bitCount t_bestRows) fun q39_4 =>
      (f_RepairPlan_isBetter_44 t_bestRows a1 (q32_3 - q39_4))))
    else
      (f_RepairPlan_isBetter_44 t_bestRows a1 (q11_1 - q22_2))))))
def post_RepairPlan_isBetter (h_t : Nat) (v_t_fuses v_t_proven v_t_words v_t_columnSets v_t_wrongBits : Value) (t_solved : Int32) (t_bestRows : Int32) (t_bestColumns : Int32) (cI cB cJ : ClassId) (res : Int32) : Option Value → va_W → Prop := fun o ws' => o = some (.int res) ∧ ws' = [(h_t, .inr (6, [v_t_fuses, v_t_proven, v_t_words, v_t_columnSets, v_t_wrongBits, .int t_solved, .int t_bestRows, .int t_bestColumns]))]
abbrev rm_RepairPlan_isBetter : Room := { frames := 2, cells := 0, slots := 0, locals := 41 }
set_option maxHeartbeats 4000000 in
set_option maxRecDepth 100000 in
theorem k_RepairPlan_isBetter_44 {p : Program} {l : Launch} {e : Env} {s : State} {m : MethodId} {args : Array Value} {below : List Frame} {meth : Method} {c : Code} {D : va_G} {cI cB cJ : ClassId} {A : Nat → Prop} (C0 : CX p s m args meth c D [(cI, .int), (cB, .byte), (cJ, .long)] R_RepairPlan b_RepairPlan_isBetter 6 (some .boolean) "isBetter") (hA : ∀ q, s.heap.size ≤ q → A q) {h_t : Nat} {v_t_fuses v_t_proven v_t_words v_t_columnSets v_t_wrongBits : Value} {res : Int32} {t_solved : Int32} {t_bestRows : Int32} {t_bestColumns : Int32} {x1 : Int32} {x3 : Int32}
    (hf : f_RepairPlan_isBetter_44 t_bestRows x1 x3 = some res) {H : Heap} {locs : List Loc} {ls : Array Slot} (hP : va_P D classes [(h_t, .inr (6, [v_t_fuses, v_t_proven, v_t_words, v_t_columnSets, v_t_wrongBits, .int t_solved, .int t_bestRows, .int t_bestColumns]))] H) (hD : va_D A [(h_t, .inr (6, [v_t_fuses, v_t_proven, v_t_words, v_t_columnSets, v_t_wrongBits, .int t_solved, .int t_bestRows, .int t_bestColumns]))]) (hS : va_S A s.heap H locs) (hl : lv_has ls 6 [(0, .ref h_t), (1, .int x1), (3, .int x3)]) : W p l e rm_RepairPlan_isBetter s m args below meth c H locs 0 0 (MQ below (QW D (post_RepairPlan_isBetter h_t v_t_fuses v_t_proven v_t_words v_t_columnSets v_t_wrongBits t_solved t_bestRows t_bestColumns cI cB cJ res) A) args s 0 0 A) (F0 m 44 ls []) := by
  obtain ⟨hx, hb, hml, hr, hlocks, hts, hown, hK, hin⟩ := id C0
  have hf : (((
  (if x3 = 0 then
    (if (x1 &&& ((x1 ^^^ t_bestRows) &&& (-(x1 ^^^ t_bestRows)))) = 0 then
      some 0
    else
      some 1)
  else
    (if 0 ≤ x3 then
      some 0
    else
      some 1)))) : Option (Int32)) = some res := hf
  refine lv_iload_n hx hb d_RepairPlan_isBetter_44 rfl (lv_at hl 2 rfl) ?_
  refine lv_if_eq (tgt := 58) hx hb d_RepairPlan_isBetter_45 (by decide) (fun cc45 => ?_) (fun cc45 => ?_)
  · have hf := ifT cc45 hf
    refine lv_iload_n hx hb d_RepairPlan_isBetter_58 rfl (lv_at hl 1 rfl) ?_
    refine lv_aload_n hx hb d_RepairPlan_isBetter_59 rfl (lv_at hl 0 rfl) ?_
    refine va_get (D := D) (ci := 6) (v := .int t_bestRows) (C := R_RepairPlan) (T := F_RepairPlan) (N := 8) hx hb hts i_RepairPlan hown hK.1 hP 0 rfl rfl 6 (by decide) (hts _ w_330) (fun _ h9 => h9) rfl d_RepairPlan_isBetter_60 ?_
    refine lv_ixor hx hb d_RepairPlan_isBetter_63 ?_
    refine lv_istore (lv' := [(4, .int (x1 ^^^ t_bestRows)), (0, .ref h_t), (1, .int x1), (3, .int x3)]) hx hb d_RepairPlan_isBetter_64 hl (by decide) rfl (fun ls hl => ?_)
    refine lv_iload hx hb d_RepairPlan_isBetter_66 (lv_at hl 0 rfl) ?_
    refine lv_iload hx hb d_RepairPlan_isBetter_68 (lv_at hl 0 rfl) ?_
    refine lv_ineg hx hb d_RepairPlan_isBetter_70 ?_
    refine lv_iand hx hb d_RepairPlan_isBetter_71 ?_
    refine lv_istore (lv' := [(5, .int ((x1 ^^^ t_bestRows) &&& (-(x1 ^^^ t_bestRows)))), (4, .int (x1 ^^^ t_bestRows)), (0, .ref h_t), (1, .int x1), (3, .int x3)]) hx hb d_RepairPlan_isBetter_72 hl (by decide) rfl (fun ls hl => ?_)
    refine lv_iload_n hx hb d_RepairPlan_isBetter_74 rfl (lv_at hl 3 rfl) ?_
    refine lv_iload hx hb d_RepairPlan_isBetter_75 (lv_at hl 0 rfl) ?_
    refine lv_iand hx hb d_RepairPlan_isBetter_77 ?_
    refine lv_if_eq (tgt := 85) hx hb d_RepairPlan_isBetter_78 (by decide) (fun cc78 => ?_) (fun cc78 => ?_)
    · have hf := ifT cc78 hf
      refine lv_iconst (v := 0) hx hb d_RepairPlan_isBetter_85 (by decide) ?_
      obtain rfl := Option.some.inj hf
      exact ret_z hx hb hr rfl hlocks hP hD hS ⟨rfl, rfl⟩ d_RepairPlan_isBetter_86
    · have hf := ifF cc78 hf
      refine lv_iconst (v := 1) hx hb d_RepairPlan_isBetter_81 (by decide) ?_
      refine lv_goto (tgt := 86) hx hb d_RepairPlan_isBetter_82 (by decide) ?_
      obtain rfl := Option.some.inj hf
      exact ret_z hx hb hr rfl hlocks hP hD hS ⟨rfl, rfl⟩ d_RepairPlan_isBetter_86
  · have hf := ifF cc45 hf
    refine lv_iload_n hx hb d_RepairPlan_isBetter_48 rfl (lv_at hl 2 rfl) ?_
    refine lv_if_ge (tgt := 56) hx hb d_RepairPlan_isBetter_49 (by decide) (fun cc49 => ?_) (fun cc49 => ?_)
    · have hf := ifT cc49 hf
      refine lv_iconst (v := 0) hx hb d_RepairPlan_isBetter_56 (by decide) ?_
      obtain rfl := Option.some.inj hf
      exact ret_z hx hb hr rfl hlocks hP hD hS ⟨rfl, rfl⟩ d_RepairPlan_isBetter_57
    · have hf := ifF cc49 hf
      refine lv_iconst (v := 1) hx hb d_RepairPlan_isBetter_52 (by decide) ?_
      refine lv_goto (tgt := 57) hx hb d_RepairPlan_isBetter_53 (by decide) ?_
      obtain rfl := Option.some.inj hf
      exact ret_z hx hb hr rfl hlocks hP hD hS ⟨rfl, rfl⟩ d_RepairPlan_isBetter_57
set_option maxHeartbeats 4000000 in
set_option maxRecDepth 100000 in
theorem c_RepairPlan_isBetter (l : Launch) (D : va_G) (cI cB cJ : ClassId) (h_t : Nat) (v_t_fuses v_t_proven v_t_words v_t_columnSets v_t_wrongBits : Value) (t_solved : Int32) (t_bestRows : Int32) (t_bestColumns : Int32) (a1 : Int32) (a2 : Int32) (sz : Nat) (res : Int32) (hf : f_RepairPlan_isBetter t_solved t_bestRows t_bestColumns a1 a2 = some res) : Met l y_RepairPlan_isBetter (.code y_RepairPlan_isBetter b_RepairPlan_isBetter 6 (some .boolean) :: TB) rm_RepairPlan_isBetter (PcW D [(cI, .int), (cB, .byte), (cJ, .long)] [.ref h_t, .int a1, .int a2] [(h_t, .inr (6, [v_t_fuses, v_t_proven, v_t_words, v_t_columnSets, v_t_wrongBits, .int t_solved, .int t_bestRows, .int t_bestColumns]))] sz) (QW D (post_RepairPlan_isBetter h_t v_t_fuses v_t_proven v_t_words v_t_columnSets v_t_wrongBits t_solved t_bestRows t_bestColumns cI cB cJ res) (va_A [(h_t, .inr (6, [v_t_fuses, v_t_proven, v_t_words, v_t_columnSets, v_t_wrongBits, .int t_solved, .int t_bestRows, .int t_bestColumns]))] sz)) 0 0 (va_A [(h_t, .inr (6, [v_t_fuses, v_t_proven, v_t_words, v_t_columnSets, v_t_wrongBits, .int t_solved, .int t_bestRows, .int t_bestColumns]))] sz) := by
  refine entW ⟨by decide +kernel, rfl⟩ fun p e s m below meth c C0 hP hD hsz ls hl => ?_
  subst hsz
  generalize hAe : va_A [(h_t, .inr (6, [v_t_fuses, v_t_proven, v_t_words, v_t_columnSets, v_t_wrongBits, .int t_solved, .int t_bestRows, .int t_bestColumns]))] s.heap.size = A at hD ⊢
  have hA : ∀ q : Nat, s.heap.size ≤ q → A q := fun q h => by rw [← hAe]; exact Or.inr h
  clear hAe
  have hS : va_S A s.heap s.heap [] := va_S.rf
  have hl : lv_has ls 6 [(0, .ref h_t), (1, .int a1), (2, .int a2)] := hl
  obtain ⟨hx, hb, hml, hr, hlocks, hts, hown, hK, hin⟩ := id C0
  have hf : (((
  (if t_solved = 0 then
    some 1
  else
    (Option.bind (f_RepairPlan_spares a1 a2) fun q11_1 =>
    (Option.bind (f_RepairPlan_spares t_bestRows t_bestColumns) fun q22_2 =>
    (if (q11_1 - q22_2) = 0 then
      (Option.bind (f_JI_bitCount a1) fun q32_3 =>
      (Option.bind (f_JI_bitCount t_bestRows) fun q39_4 =>
      (f_RepairPlan_isBetter_44 t_bestRows a1 (q32_3 - q39_4))))
    else
      (f_RepairPlan_isBetter_44 t_bestRows a1 (q11_1 - q22_2)))))))) : Option (Int32)) = some res := hf
  obtain ⟨H, hH⟩ : ∃ H, H = s.heap := ⟨_, rfl⟩
  obtain ⟨locs, hlo⟩ : ∃ x : List Loc, x = [] := ⟨_, rfl⟩
  rw [← hlo] at hS ⊢
  have hP : va_P D classes [(h_t, .inr (6, [v_t_fuses, v_t_proven, v_t_words, v_t_columnSets, v_t_wrongBits, .int t_solved, .int t_bestRows, .int t_bestColumns]))] H := by rw [hH]; exact hP
  have hS : va_S A s.heap H locs := by rw [hH]; exact hS
  show W p l e rm_RepairPlan_isBetter s m _ below meth c s.heap locs 0 0 (MQ below (QW D (post_RepairPlan_isBetter h_t v_t_fuses v_t_proven v_t_words v_t_columnSets v_t_wrongBits t_solved t_bestRows t_bestColumns cI cB cJ res) A) _ s 0 0 A) (F0 m 0 ls [])
  refine wheap hH ?_
  clear hH hlo
  refine lv_aload_n hx hb d_RepairPlan_isBetter_0 rfl (lv_at hl 0 rfl) ?_
  refine va_get (D := D) (ci := 6) (v := .int t_solved) (C := R_RepairPlan) (T := F_RepairPlan) (N := 8) hx hb hts i_RepairPlan hown hK.1 hP 0 rfl rfl 5 (by decide) (hts _ w_326) (fun _ h9 => h9) rfl d_RepairPlan_isBetter_1 ?_
  refine lv_if_ne (tgt := 9) hx hb d_RepairPlan_isBetter_4 (by decide) (fun cc4 => ?_) (fun cc4 => ?_)
  · have hf := ifF cc4 hf
    refine lv_iload_n hx hb d_RepairPlan_isBetter_9 rfl (lv_at hl 1 rfl) ?_
    refine lv_iload_n hx hb d_RepairPlan_isBetter_10 rfl (lv_at hl 2 rfl) ?_
    obtain ⟨q11_1, hc, hf⟩ := bindS hf
    refine mcS (n := 2) (As := [.int a1, .int a2]) (rest := []) (wr := [(h_t, .inr (6, [v_t_fuses, v_t_proven, v_t_words, v_t_columnSets, v_t_wrongBits, .int t_solved, .int t_bestRows, .int t_bestColumns]))]) hx hb hml hown hts hK (c_RepairPlan_spares (l := l) (D := D) (cI := cI) (cB := cB) (cJ := cJ) (a1 := a1) (a2 := a2) (sz := H.size) (res := q11_1) (hf := hc)) w_327 w_328 w_100 w_329 (by decide +kernel) rfl rfl ⟨Nat.le_of_ble_eq_true rfl, Nat.le_of_ble_eq_true rfl⟩ hP hD hS hA [] [0] rfl rfl (by decide) (by decide) (by decide) hl.1 rfl rfl (lv_room (Nat.le_of_ble_eq_true rfl)) d_RepairPlan_isBetter_11 ⟨Nat.le_of_ble_eq_true rfl, Nat.le_of_ble_eq_true rfl⟩ (fun o ws' H locs hp hP hD hS => ?_)
    obtain ⟨rfl, rfl⟩ := hp
    have hP : va_P D classes [(h_t, .inr (6, [v_t_fuses, v_t_proven, v_t_words, v_t_columnSets, v_t_wrongBits, .int t_solved, .int t_bestRows, .int t_bestColumns]))] H := hP.sub [0] rfl
    have hD : va_D A [(h_t, .inr (6, [v_t_fuses, v_t_proven, v_t_words, v_t_columnSets, v_t_wrongBits, .int t_solved, .int t_bestRows, .int t_bestColumns]))] := hD.sub [0] (by decide) rfl
    refine lv_aload_n hx hb d_RepairPlan_isBetter_14 rfl (lv_at hl 0 rfl) ?_
    refine va_get (D := D) (ci := 6) (v := .int t_bestRows) (C := R_RepairPlan) (T := F_RepairPlan) (N := 8) hx hb hts i_RepairPlan hown hK.1 hP 0 rfl rfl 6 (by decide) (hts _ w_330) (fun _ h9 => h9) rfl d_RepairPlan_isBetter_15 ?_
    refine lv_aload_n hx hb d_RepairPlan_isBetter_18 rfl (lv_at hl 0 rfl) ?_
    refine va_get (D := D) (ci := 6) (v := .int t_bestColumns) (C := R_RepairPlan) (T := F_RepairPlan) (N := 8) hx hb hts i_RepairPlan hown hK.1 hP 0 rfl rfl 7 (by decide) (hts _ w_331) (fun _ h9 => h9) rfl d_RepairPlan_isBetter_19 ?_
    obtain ⟨q22_2, hc, hf⟩ := bindS hf
    refine mcS (n := 2) (As := [.int t_bestRows, .int t_bestColumns]) (rest := [.int q11_1]) (wr := [(h_t, .inr (6, [v_t_fuses, v_t_proven, v_t_words, v_t_columnSets, v_t_wrongBits, .int t_solved, .int t_bestRows, .int t_bestColumns]))]) hx hb hml hown hts hK (c_RepairPlan_spares (l := l) (D := D) (cI := cI) (cB := cB) (cJ := cJ) (a1 := t_bestRows) (a2 := t_bestColumns) (sz := H.size) (res := q22_2) (hf := hc)) w_327 w_328 w_100 w_329 (by decide +kernel) rfl rfl ⟨Nat.le_of_ble_eq_true rfl, Nat.le_of_ble_eq_true rfl⟩ hP hD hS hA [] [0] rfl rfl (by decide) (by decide) (by decide) hl.1 rfl rfl (lv_room (Nat.le_of_ble_eq_true rfl)) d_RepairPlan_isBetter_22 ⟨Nat.le_of_ble_eq_true rfl, Nat.le_of_ble_eq_true rfl⟩ (fun o ws' H locs hp hP hD hS => ?_)
    obtain ⟨rfl, rfl⟩ := hp
    have hP : va_P D classes [(h_t, .inr (6, [v_t_fuses, v_t_proven, v_t_words, v_t_columnSets, v_t_wrongBits, .int t_solved, .int t_bestRows, .int t_bestColumns]))] H := hP.sub [0] rfl
    have hD : va_D A [(h_t, .inr (6, [v_t_fuses, v_t_proven, v_t_words, v_t_columnSets, v_t_wrongBits, .int t_solved, .int t_bestRows, .int t_bestColumns]))] := hD.sub [0] (by decide) rfl
    refine lv_isub hx hb d_RepairPlan_isBetter_25 ?_
    refine lv_istore_n (lv' := [(3, .int (q11_1 - q22_2)), (0, .ref h_t), (1, .int a1), (2, .int a2)]) hx hb d_RepairPlan_isBetter_26 rfl hl (by decide) rfl (fun ls hl => ?_)
    refine lv_iload_n hx hb d_RepairPlan_isBetter_27 rfl (lv_at hl 0 rfl) ?_
    refine lv_if_ne (tgt := 44) hx hb d_RepairPlan_isBetter_28 (by decide) (fun cc28 => ?_) (fun cc28 => ?_)
    · have hf := ifF cc28 hf
      exact k_RepairPlan_isBetter_44 (s := s) C0 hA hf hP hD hS (lv_sub hl [1, 2, 0] rfl)
    · have hf := ifT cc28 hf
      refine lv_iload_n hx hb d_RepairPlan_isBetter_31 rfl (lv_at hl 2 rfl) ?_
      obtain ⟨q32_3, hc, hf⟩ := bindS hf
      refine mcS (n := 1) (As := [.int a1]) (rest := []) (wr := [(h_t, .inr (6, [v_t_fuses, v_t_proven, v_t_words, v_t_columnSets, v_t_wrongBits, .int t_solved, .int t_bestRows, .int t_bestColumns]))]) hx hb hml hown hts hK (c_JI_bitCount (l := l) (D := D) (cI := cI) (cB := cB) (cJ := cJ) (a1 := a1) (sz := H.size) (res := q32_3) (hf := hc)) w_322 w_323 w_324 w_325 (by decide +kernel) rfl rfl ⟨Nat.le_of_ble_eq_true rfl, Nat.le_of_ble_eq_true rfl⟩ hP hD hS hA [] [0] rfl rfl (by decide) (by decide) (by decide) hl.1 rfl rfl (lv_room (Nat.le_of_ble_eq_true rfl)) d_RepairPlan_isBetter_32 ⟨Nat.le_of_ble_eq_true rfl, Nat.le_of_ble_eq_true rfl⟩ (fun o ws' H locs hp hP hD hS => ?_)
      obtain ⟨rfl, rfl⟩ := hp
      have hP : va_P D classes [(h_t, .inr (6, [v_t_fuses, v_t_proven, v_t_words, v_t_columnSets, v_t_wrongBits, .int t_solved, .int t_bestRows, .int t_bestColumns]))] H := hP.sub [0] rfl
      have hD : va_D A [(h_t, .inr (6, [v_t_fuses, v_t_proven, v_t_words, v_t_columnSets, v_t_wrongBits, .int t_solved, .int t_bestRows, .int t_bestColumns]))] := hD.sub [0] (by decide) rfl
      refine lv_aload_n hx hb d_RepairPlan_isBetter_35 rfl (lv_at hl 1 rfl) ?_
      refine va_get (D := D) (ci := 6) (v := .int t_bestRows) (C := R_RepairPlan) (T := F_RepairPlan) (N := 8) hx hb hts i_RepairPlan hown hK.1 hP 0 rfl rfl 6 (by decide) (hts _ w_330) (fun _ h9 => h9) rfl d_RepairPlan_isBetter_36 ?_
      obtain ⟨q39_4, hc, hf⟩ := bindS hf
      refine mcS (n := 1) (As := [.int t_bestRows]) (rest := [.int q32_3]) (wr := [(h_t, .inr (6, [v_t_fuses, v_t_proven, v_t_words, v_t_columnSets, v_t_wrongBits, .int t_solved, .int t_bestRows, .int t_bestColumns]))]) hx hb hml hown hts hK (c_JI_bitCount (l := l) (D := D) (cI := cI) (cB := cB) (cJ := cJ) (a1 := t_bestRows) (sz := H.size) (res := q39_4) (hf := hc)) w_322 w_323 w_324 w_325 (by decide +kernel) rfl rfl ⟨Nat.le_of_ble_eq_true rfl, Nat.le_of_ble_eq_true rfl⟩ hP hD hS hA [] [0] rfl rfl (by decide) (by decide) (by decide) hl.1 rfl rfl (lv_room (Nat.le_of_ble_eq_true rfl)) d_RepairPlan_isBetter_39 ⟨Nat.le_of_ble_eq_true rfl, Nat.le_of_ble_eq_true rfl⟩ (fun o ws' H locs hp hP hD hS => ?_)
      obtain ⟨rfl, rfl⟩ := hp
      have hP : va_P D classes [(h_t, .inr (6, [v_t_fuses, v_t_proven, v_t_words, v_t_columnSets, v_t_wrongBits, .int t_solved, .int t_bestRows, .int t_bestColumns]))] H := hP.sub [0] rfl
      have hD : va_D A [(h_t, .inr (6, [v_t_fuses, v_t_proven, v_t_words, v_t_columnSets, v_t_wrongBits, .int t_solved, .int t_bestRows, .int t_bestColumns]))] := hD.sub [0] (by decide) rfl
      refine lv_isub hx hb d_RepairPlan_isBetter_42 ?_
      refine lv_istore_n (lv' := [(3, .int (q32_3 - q39_4)), (0, .ref h_t), (1, .int a1), (2, .int a2)]) hx hb d_RepairPlan_isBetter_43 rfl hl (by decide) rfl (fun ls hl => ?_)
      exact k_RepairPlan_isBetter_44 (s := s) C0 hA hf hP hD hS (lv_sub hl [1, 2, 0] rfl)
  · have hf := ifT cc4 hf
    refine lv_iconst (v := 1) hx hb d_RepairPlan_isBetter_7 (by decide) ?_
    obtain rfl := Option.some.inj hf
    exact ret_z hx hb hr rfl hlocks hP hD hS ⟨rfl, rfl⟩ d_RepairPlan_isBetter_8
def g_RepairPlan_make_57 (n_t_wrongBits : Nat) (t_proven : Int32) (t_words : Int32) (t_columnSets : Int32) (t_wrongBits_a : Nat → Int32) (x2 : Int32) (x3 : Int32) (rec57 : (Int32 × Int32 × Int32 × Int32) → Option (Int32 × Int32 × Int32 × Int32 × Int32 × (Nat → Int32))) (st : (Int32 × Int32 × Int32 × Int32)) : Option (Int32 × Int32 × Int32 × Int32 × Int32 × (Nat → Int32)) :=
  (if t_columnSets ≤ st.2.2.2 then
    (if st.1 = 0 then
      some ((-1), t_proven, st.1, st.2.1, st.2.2.1, t_wrongBits_a)
    else
      (Option.bind (f_RepairPlan_spares st.2.1 st.2.2.1) fun q141_4 =>
      some (q141_4, t_proven, st.1, st.2.1, st.2.2.1, t_wrongBits_a)))
  else
    (Option.bind (f_RepairPlan_wordsWrongOutside n_t_wrongBits t_words t_wrongBits_a st.2.2.2) fun q69_5 =>
    (Option.bind (f_JI_bitCount st.2.2.2) fun q76_6 =>
    (if x3 < q76_6 then
      (rec57 (st.1, st.2.1, st.2.2.1, (st.2.2.2 + 1)))
    else
      (Option.bind (f_JI_bitCount q69_5) fun q85_7 =>
      (if x2 < q85_7 then
        (rec57 (st.1, st.2.1, st.2.2.1, (st.2.2.2 + 1)))
      else
        (Option.bind (f_RepairPlan_isBetter st.1 st.2.1 st.2.2.1 q69_5 st.2.2.2) fun q97_8 =>
        (if q97_8 = 0 then
          (rec57 (st.1, st.2.1, st.2.2.1, (st.2.2.2 + 1)))
        else
          (rec57 (1, q69_5, st.2.2.2, (st.2.2.2 + 1)))))))))))
def f_RepairPlan_make_41 (n_t_wrongBits : Nat) (t_words : Int32) (t_columnSets : Int32) (t_solved : Int32) (t_bestRows : Int32) (t_bestColumns : Int32) (t_wrongBits_a : Nat → Int32) (s1 : Int32) (x2 : Int32) (x3 : Int32) : Option (Int32 × Int32 × Int32 × Int32 × Int32 × (Nat → Int32)) :=
  (if isB s1 = true then
  (if s1 = 0 then
    some ((-2), s1, t_solved, t_bestRows, t_bestColumns, t_wrongBits_a)
  else
    (lp (g_RepairPlan_make_57 n_t_wrongBits s1 t_words t_columnSets t_wrongBits_a x2 x3) 100000 (t_solved, t_bestRows, t_bestColumns, 0)))
  else none)
def f_RepairPlan_make (n_a1_parts : Nat) (n_t_wrongBits : Nat) (t_words : Int32) (t_columnSets : Int32) (a1_count : Int32) (a1_parts_a : Nat → Int32) (t_wrongBits_a : Nat → Int32) (a2 : Int32) (a3 : Int32) (a4 : Int64) : Option (Int32 × Int32 × Int32 × Int32 × Int32 × (Nat → Int32)) :=
  (Option.bind (f_RepairPlan_gatherWrongBits n_a1_parts n_t_wrongBits t_words a1_count a1_parts_a t_wrongBits_a) fun q2_1 =>
  (Option.bind (f_RepairPlan_wordsWrongOutside n_t_wrongBits t_words q2_1 0) fun q23_2 =>
  (Option.bind (f_JI_bitCount q23_2) fun q26_3 =>
  (if 0 < (lg_cmp (Int32.toInt64 q26_3) a4) then
    (f_RepairPlan_make_41 n_t_wrongBits t_words t_columnSets 0 0 0 q2_1 0 a2 a3)
  else
    (f_RepairPlan_make_41 n_t_wrongBits t_words t_columnSets 0 0 0 q2_1 1 a2 a3)))))
def post_RepairPlan_make (h_t h_a1 h_t_wrongBits h_a1_parts : Nat) (v_t_fuses : Value) (n_a1_parts : Nat) (n_t_wrongBits : Nat) (t_words : Int32) (t_columnSets : Int32) (a1_count : Int32) (a1_parts_a : Nat → Int32) (cI cB cJ : ClassId) (res : Int32 × Int32 × Int32 × Int32 × Int32 × (Nat → Int32)) : Option Value → va_W → Prop := fun o ws' => o = some (.int res.1) ∧ ws' = [(h_t, .inr (6, [v_t_fuses, .int res.2.1, .int t_words, .int t_columnSets, .ref h_t_wrongBits, .int res.2.2.1, .int res.2.2.2.1, .int res.2.2.2.2.1])), (h_a1, .inr (2, [.ref h_a1_parts, .int a1_count])), (h_a1_parts, .inl (cI, n_a1_parts, .inl a1_parts_a)), (h_t_wrongBits, .inl (cI, n_t_wrongBits, .inl res.2.2.2.2.2))]
abbrev rm_RepairPlan_make : Room := { frames := 3, cells := 0, slots := 0, locals := 66 }
set_option maxHeartbeats 4000000 in
set_option maxRecDepth 100000 in
theorem kb_RepairPlan_make_57 {p : Program} {l : Launch} {e : Env} {s : State} {m : MethodId} {args : Array Value} {below : List Frame} {meth : Method} {c : Code} {D : va_G} {cI cB cJ : ClassId} {A : Nat → Prop} (C0 : CX p s m args meth c D [(cI, .int), (cB, .byte), (cJ, .long)] R_RepairPlan b_RepairPlan_make 8 (some .int) "make") (hA : ∀ q, s.heap.size ≤ q → A q) {h_t h_a1 h_t_wrongBits h_a1_parts : Nat} {v_t_fuses : Value} {res : Int32 × Int32 × Int32 × Int32 × Int32 × (Nat → Int32)} {rec57 : (Int32 × Int32 × Int32 × Int32) → Option (Int32 × Int32 × Int32 × Int32 × Int32 × (Nat → Int32))} {n_a1_parts : Nat} {n_t_wrongBits : Nat} {t_proven : Int32} {t_words : Int32} {t_columnSets : Int32} {t_solved : Int32} {t_bestRows : Int32} {t_bestColumns : Int32} {a1_count : Int32} {a1_parts_a : Nat → Int32} {t_wrongBits_a : Nat → Int32} {x2 : Int32} {x3 : Int32} {x6 : Int32}
    (hrec57 : ∀ (st : (Int32 × Int32 × Int32 × Int32)), rec57 st = some res → ∀  (H : Heap) (locs : List Loc) (ls : Array Slot), va_P D classes [(h_t, .inr (6, [v_t_fuses, .int t_proven, .int t_words, .int t_columnSets, .ref h_t_wrongBits, .int st.1, .int st.2.1, .int st.2.2.1])), (h_a1, .inr (2, [.ref h_a1_parts, .int a1_count])), (h_a1_parts, .inl (cI, n_a1_parts, .inl a1_parts_a)), (h_t_wrongBits, .inl (cI, n_t_wrongBits, .inl t_wrongBits_a))] H → va_D A [(h_t, .inr (6, [v_t_fuses, .int t_proven, .int t_words, .int t_columnSets, .ref h_t_wrongBits, .int st.1, .int st.2.1, .int st.2.2.1])), (h_a1, .inr (2, [.ref h_a1_parts, .int a1_count])), (h_a1_parts, .inl (cI, n_a1_parts, .inl a1_parts_a)), (h_t_wrongBits, .inl (cI, n_t_wrongBits, .inl t_wrongBits_a))] → va_S A s.heap H locs → lv_has ls 8 [(0, .ref h_t), (2, .int x2), (3, .int x3), (6, .int st.2.2.2)] → W p l e rm_RepairPlan_make s m args below meth c H locs 0 0 (MQ below (QW D (post_RepairPlan_make h_t h_a1 h_t_wrongBits h_a1_parts v_t_fuses n_a1_parts n_t_wrongBits t_words t_columnSets a1_count a1_parts_a cI cB cJ res) A) args s 0 0 A) (F0 m 57 ls []))
    (hf : g_RepairPlan_make_57 n_t_wrongBits t_proven t_words t_columnSets t_wrongBits_a x2 x3 rec57 (t_solved, t_bestRows, t_bestColumns, x6) = some res) {H : Heap} {locs : List Loc} {ls : Array Slot} (hP : va_P D classes [(h_t, .inr (6, [v_t_fuses, .int t_proven, .int t_words, .int t_columnSets, .ref h_t_wrongBits, .int t_solved, .int t_bestRows, .int t_bestColumns])), (h_a1, .inr (2, [.ref h_a1_parts, .int a1_count])), (h_a1_parts, .inl (cI, n_a1_parts, .inl a1_parts_a)), (h_t_wrongBits, .inl (cI, n_t_wrongBits, .inl t_wrongBits_a))] H) (hD : va_D A [(h_t, .inr (6, [v_t_fuses, .int t_proven, .int t_words, .int t_columnSets, .ref h_t_wrongBits, .int t_solved, .int t_bestRows, .int t_bestColumns])), (h_a1, .inr (2, [.ref h_a1_parts, .int a1_count])), (h_a1_parts, .inl (cI, n_a1_parts, .inl a1_parts_a)), (h_t_wrongBits, .inl (cI, n_t_wrongBits, .inl t_wrongBits_a))]) (hS : va_S A s.heap H locs) (hl : lv_has ls 8 [(0, .ref h_t), (2, .int x2), (3, .int x3), (6, .int x6)]) : W p l e rm_RepairPlan_make s m args below meth c H locs 0 0 (MQ below (QW D (post_RepairPlan_make h_t h_a1 h_t_wrongBits h_a1_parts v_t_fuses n_a1_parts n_t_wrongBits t_words t_columnSets a1_count a1_parts_a cI cB cJ res) A) args s 0 0 A) (F0 m 57 ls []) := by
  obtain ⟨hx, hb, hml, hr, hlocks, hts, hown, hK, hin⟩ := id C0
  have hf : (((
  (if t_columnSets ≤ x6 then
    (if t_solved = 0 then
      some ((-1), t_proven, t_solved, t_bestRows, t_bestColumns, t_wrongBits_a)
    else
      (Option.bind (f_RepairPlan_spares t_bestRows t_bestColumns) fun q141_4 =>
      some (q141_4, t_proven, t_solved, t_bestRows, t_bestColumns, t_wrongBits_a)))
  else
    (Option.bind (f_RepairPlan_wordsWrongOutside n_t_wrongBits t_words t_wrongBits_a x6) fun q69_5 =>
    (Option.bind (f_JI_bitCount x6) fun q76_6 =>
    (if x3 < q76_6 then
      (rec57 (t_solved, t_bestRows, t_bestColumns, (x6 + 1)))
    else
      (Option.bind (f_JI_bitCount q69_5) fun q85_7 =>
      (if x2 < q85_7 then
        (rec57 (t_solved, t_bestRows, t_bestColumns, (x6 + 1)))
      else
        (Option.bind (f_RepairPlan_isBetter t_solved t_bestRows t_bestColumns q69_5 x6) fun q97_8 =>
        (if q97_8 = 0 then
          (rec57 (t_solved, t_bestRows, t_bestColumns, (x6 + 1)))
        else
          (rec57 (1, q69_5, x6, (x6 + 1))))))))))))) : Option (Int32 × Int32 × Int32 × Int32 × Int32 × (Nat → Int32))) = some res := hf
  refine lv_iload hx hb d_RepairPlan_make_57 (lv_at hl 3 rfl) ?_
  refine lv_aload_n hx hb d_RepairPlan_make_59 rfl (lv_at hl 0 rfl) ?_
  refine va_get (D := D) (ci := 6) (v := .int t_columnSets) (C := R_RepairPlan) (T := F_RepairPlan) (N := 8) hx hb hts i_RepairPlan hown hK.1 hP 0 rfl rfl 3 (by decide) (hts _ w_61) (fun _ h9 => h9) rfl d_RepairPlan_make_60 ?_
  refine lv_icmp_ge (tgt := 126) hx hb d_RepairPlan_make_63 (by decide) (fun cc63 => ?_) (fun cc63 => ?_)
  · have hf := ifT cc63 hf
    refine lv_aload_n hx hb d_RepairPlan_make_126 rfl (lv_at hl 0 rfl) ?_
    refine va_get (D := D) (ci := 6) (v := .int t_solved) (C := R_RepairPlan) (T := F_RepairPlan) (N := 8) hx hb hts i_RepairPlan hown hK.1 hP 0 rfl rfl 5 (by decide) (hts _ w_326) (fun _ h9 => h9) rfl d_RepairPlan_make_127 ?_
    refine lv_if_eq (tgt := 147) hx hb d_RepairPlan_make_130 (by decide) (fun cc130 => ?_) (fun cc130 => ?_)
    · have hf := ifT cc130 hf
      refine lv_iconst (v := (-1)) hx hb d_RepairPlan_make_147 (by decide) ?_
      obtain rfl := Option.some.inj hf
      exact ret_i hx hb hr hlocks hP hD hS ⟨rfl, rfl⟩ d_RepairPlan_make_148
    · have hf := ifF cc130 hf
      refine lv_aload_n hx hb d_RepairPlan_make_133 rfl (lv_at hl 0 rfl) ?_
      refine va_get (D := D) (ci := 6) (v := .int t_bestRows) (C := R_RepairPlan) (T := F_RepairPlan) (N := 8) hx hb hts i_RepairPlan hown hK.1 hP 0 rfl rfl 6 (by decide) (hts _ w_330) (fun _ h9 => h9) rfl d_RepairPlan_make_134 ?_
      refine lv_aload_n hx hb d_RepairPlan_make_137 rfl (lv_at hl 0 rfl) ?_
      refine va_get (D := D) (ci := 6) (v := .int t_bestColumns) (C := R_RepairPlan) (T := F_RepairPlan) (N := 8) hx hb hts i_RepairPlan hown hK.1 hP 0 rfl rfl 7 (by decide) (hts _ w_331) (fun _ h9 => h9) rfl d_RepairPlan_make_138 ?_
      obtain ⟨q141_4, hc, hf⟩ := bindS hf
      refine mcS (n := 2) (As := [.int t_bestRows, .int t_bestColumns]) (rest := []) (wr := [(h_t, .inr (6, [v_t_fuses, .int t_proven, .int t_words, .int t_columnSets, .ref h_t_wrongBits, .int t_solved, .int t_bestRows, .int t_bestColumns])), (h_a1, .inr (2, [.ref h_a1_parts, .int a1_count])), (h_a1_parts, .inl (cI, n_a1_parts, .inl a1_parts_a)), (h_t_wrongBits, .inl (cI, n_t_wrongBits, .inl t_wrongBits_a))]) hx hb hml hown hts hK (c_RepairPlan_spares (l := l) (D := D) (cI := cI) (cB := cB) (cJ := cJ) (a1 := t_bestRows) (a2 := t_bestColumns) (sz := H.size) (res := q141_4) (hf := hc)) w_327 w_328 w_100 w_329 (by decide +kernel) rfl rfl ⟨Nat.le_of_ble_eq_true rfl, Nat.le_of_ble_eq_true rfl⟩ hP hD hS hA [] [0, 1, 2, 3] rfl rfl (by decide) (by decide) (by decide) hl.1 rfl rfl (lv_room (Nat.le_of_ble_eq_true rfl)) d_RepairPlan_make_141 ⟨Nat.le_of_ble_eq_true rfl, Nat.le_of_ble_eq_true rfl⟩ (fun o ws' H locs hp hP hD hS => ?_)
      obtain ⟨rfl, rfl⟩ := hp
      have hP : va_P D classes [(h_t, .inr (6, [v_t_fuses, .int t_proven, .int t_words, .int t_columnSets, .ref h_t_wrongBits, .int t_solved, .int t_bestRows, .int t_bestColumns])), (h_a1, .inr (2, [.ref h_a1_parts, .int a1_count])), (h_a1_parts, .inl (cI, n_a1_parts, .inl a1_parts_a)), (h_t_wrongBits, .inl (cI, n_t_wrongBits, .inl t_wrongBits_a))] H := hP.sub [0, 1, 2, 3] rfl
      have hD : va_D A [(h_t, .inr (6, [v_t_fuses, .int t_proven, .int t_words, .int t_columnSets, .ref h_t_wrongBits, .int t_solved, .int t_bestRows, .int t_bestColumns])), (h_a1, .inr (2, [.ref h_a1_parts, .int a1_count])), (h_a1_parts, .inl (cI, n_a1_parts, .inl a1_parts_a)), (h_t_wrongBits, .inl (cI, n_t_wrongBits, .inl t_wrongBits_a))] := hD.sub [0, 1, 2, 3] (by decide) rfl
      refine lv_goto (tgt := 148) hx hb d_RepairPlan_make_144 (by decide) ?_
      obtain rfl := Option.some.inj hf
      exact ret_i hx hb hr hlocks hP hD hS ⟨rfl, rfl⟩ d_RepairPlan_make_148
  · have hf := ifF cc63 hf
    refine lv_aload_n hx hb d_RepairPlan_make_66 rfl (lv_at hl 0 rfl) ?_
    refine lv_iload hx hb d_RepairPlan_make_67 (lv_at hl 3 rfl) ?_
    obtain ⟨q69_5, hc, hf⟩ := bindS hf
    refine mcV (n := 1) (As := [.int x6]) (rest := []) (wr := [(h_a1, .inr (2, [.ref h_a1_parts, .int a1_count])), (h_a1_parts, .inl (cI, n_a1_parts, .inl a1_parts_a))]) hx hb hml hown hts hK (c_RepairPlan_wordsWrongOutside (l := l) (D := D) (cI := cI) (cB := cB) (cJ := cJ) (h_t := h_t) (h_t_wrongBits := h_t_wrongBits) (v_t_fuses := v_t_fuses) (v_t_proven := (.int t_proven)) (v_t_columnSets := (.int t_columnSets)) (v_t_solved := (.int t_solved)) (v_t_bestRows := (.int t_bestRows)) (v_t_bestColumns := (.int t_bestColumns)) (n_t_wrongBits := n_t_wrongBits) (t_words := t_words) (t_wrongBits_a := t_wrongBits_a) (a1 := x6) (sz := H.size) (res := q69_5) (hf := hc)) w_336 w_337 w_338 w_100 w_339 (by decide +kernel) rfl rfl ⟨Nat.le_of_ble_eq_true rfl, Nat.le_of_ble_eq_true rfl⟩ hP hD hS hA [0, 3] [1, 2] rfl rfl (by decide) (by decide) (by decide) (ci := 6) 0 rfl rfl hl.1 rfl rfl (lv_room (Nat.le_of_ble_eq_true rfl)) d_RepairPlan_make_69 ⟨Nat.le_of_ble_eq_true rfl, Nat.le_of_ble_eq_true rfl⟩ (fun o ws' H locs hp hP hD hS => ?_)
    obtain ⟨rfl, rfl⟩ := hp
    have hP : va_P D classes [(h_t, .inr (6, [v_t_fuses, .int t_proven, .int t_words, .int t_columnSets, .ref h_t_wrongBits, .int t_solved, .int t_bestRows, .int t_bestColumns])), (h_a1, .inr (2, [.ref h_a1_parts, .int a1_count])), (h_a1_parts, .inl (cI, n_a1_parts, .inl a1_parts_a)), (h_t_wrongBits, .inl (cI, n_t_wrongBits, .inl t_wrongBits_a))] H := hP.sub [2, 0, 1, 3] rfl
    have hD : va_D A [(h_t, .inr (6, [v_t_fuses, .int t_proven, .int t_words, .int t_columnSets, .ref h_t_wrongBits, .int t_solved, .int t_bestRows, .int t_bestColumns])), (h_a1, .inr (2, [.ref h_a1_parts, .int a1_count])), (h_a1_parts, .inl (cI, n_a1_parts, .inl a1_parts_a)), (h_t_wrongBits, .inl (cI, n_t_wrongBits, .inl t_wrongBits_a))] := hD.sub [2, 0, 1, 3] (by decide) rfl
    refine lv_istore (lv' := [(7, .int q69_5), (0, .ref h_t), (2, .int x2), (3, .int x3), (6, .int x6)]) hx hb d_RepairPlan_make_72 hl (by decide) rfl (fun ls hl => ?_)
    refine lv_iload hx hb d_RepairPlan_make_74 (lv_at hl 4 rfl) ?_
    obtain ⟨q76_6, hc, hf⟩ := bindS hf
    refine mcS (n := 1) (As := [.int x6]) (rest := []) (wr := [(h_t, .inr (6, [v_t_fuses, .int t_proven, .int t_words, .int t_columnSets, .ref h_t_wrongBits, .int t_solved, .int t_bestRows, .int t_bestColumns])), (h_a1, .inr (2, [.ref h_a1_parts, .int a1_count])), (h_a1_parts, .inl (cI, n_a1_parts, .inl a1_parts_a)), (h_t_wrongBits, .inl (cI, n_t_wrongBits, .inl t_wrongBits_a))]) hx hb hml hown hts hK (c_JI_bitCount (l := l) (D := D) (cI := cI) (cB := cB) (cJ := cJ) (a1 := x6) (sz := H.size) (res := q76_6) (hf := hc)) w_322 w_323 w_324 w_325 (by decide +kernel) rfl rfl ⟨Nat.le_of_ble_eq_true rfl, Nat.le_of_ble_eq_true rfl⟩ hP hD hS hA [] [0, 1, 2, 3] rfl rfl (by decide) (by decide) (by decide) hl.1 rfl rfl (lv_room (Nat.le_of_ble_eq_true rfl)) d_RepairPlan_make_76 ⟨Nat.le_of_ble_eq_true rfl, Nat.le_of_ble_eq_true rfl⟩ (fun o ws' H locs hp hP hD hS => ?_)
    obtain ⟨rfl, rfl⟩ := hp
    have hP : va_P D classes [(h_t, .inr (6, [v_t_fuses, .int t_proven, .int t_words, .int t_columnSets, .ref h_t_wrongBits, .int t_solved, .int t_bestRows, .int t_bestColumns])), (h_a1, .inr (2, [.ref h_a1_parts, .int a1_count])), (h_a1_parts, .inl (cI, n_a1_parts, .inl a1_parts_a)), (h_t_wrongBits, .inl (cI, n_t_wrongBits, .inl t_wrongBits_a))] H := hP.sub [0, 1, 2, 3] rfl
    have hD : va_D A [(h_t, .inr (6, [v_t_fuses, .int t_proven, .int t_words, .int t_columnSets, .ref h_t_wrongBits, .int t_solved, .int t_bestRows, .int t_bestColumns])), (h_a1, .inr (2, [.ref h_a1_parts, .int a1_count])), (h_a1_parts, .inl (cI, n_a1_parts, .inl a1_parts_a)), (h_t_wrongBits, .inl (cI, n_t_wrongBits, .inl t_wrongBits_a))] := hD.sub [0, 1, 2, 3] (by decide) rfl
    refine lv_iload_n hx hb d_RepairPlan_make_79 rfl (lv_at hl 3 rfl) ?_
    refine lv_icmp_gt (tgt := 120) hx hb d_RepairPlan_make_80 (by decide) (fun cc80 => ?_) (fun cc80 => ?_)
    · have hf := ifT cc80 hf
      refine lv_iinc (v := (x6 + 1)) (lv' := [(6, .int (x6 + 1)), (7, .int q69_5), (0, .ref h_t), (2, .int x2), (3, .int x3)]) hx hb d_RepairPlan_make_120 hl (k := 4) rfl rfl (by decide) rfl (fun ls hl => ?_)
      refine lv_goto (tgt := 57) hx hb d_RepairPlan_make_123 (by decide) ?_
      exact hrec57 (t_solved, t_bestRows, t_bestColumns, (x6 + 1)) hf  H locs ls hP hD hS (lv_sub hl [2, 3, 4, 0] rfl)
    · have hf := ifF cc80 hf
      refine lv_iload hx hb d_RepairPlan_make_83 (lv_at hl 0 rfl) ?_
      obtain ⟨q85_7, hc, hf⟩ := bindS hf
      refine mcS (n := 1) (As := [.int q69_5]) (rest := []) (wr := [(h_t, .inr (6, [v_t_fuses, .int t_proven, .int t_words, .int t_columnSets, .ref h_t_wrongBits, .int t_solved, .int t_bestRows, .int t_bestColumns])), (h_a1, .inr (2, [.ref h_a1_parts, .int a1_count])), (h_a1_parts, .inl (cI, n_a1_parts, .inl a1_parts_a)), (h_t_wrongBits, .inl (cI, n_t_wrongBits, .inl t_wrongBits_a))]) hx hb hml hown hts hK (c_JI_bitCount (l := l) (D := D) (cI := cI) (cB := cB) (cJ := cJ) (a1 := q69_5) (sz := H.size) (res := q85_7) (hf := hc)) w_322 w_323 w_324 w_325 (by decide +kernel) rfl rfl ⟨Nat.le_of_ble_eq_true rfl, Nat.le_of_ble_eq_true rfl⟩ hP hD hS hA [] [0, 1, 2, 3] rfl rfl (by decide) (by decide) (by decide) hl.1 rfl rfl (lv_room (Nat.le_of_ble_eq_true rfl)) d_RepairPlan_make_85 ⟨Nat.le_of_ble_eq_true rfl, Nat.le_of_ble_eq_true rfl⟩ (fun o ws' H locs hp hP hD hS => ?_)
      obtain ⟨rfl, rfl⟩ := hp
      have hP : va_P D classes [(h_t, .inr (6, [v_t_fuses, .int t_proven, .int t_words, .int t_columnSets, .ref h_t_wrongBits, .int t_solved, .int t_bestRows, .int t_bestColumns])), (h_a1, .inr (2, [.ref h_a1_parts, .int a1_count])), (h_a1_parts, .inl (cI, n_a1_parts, .inl a1_parts_a)), (h_t_wrongBits, .inl (cI, n_t_wrongBits, .inl t_wrongBits_a))] H := hP.sub [0, 1, 2, 3] rfl
      have hD : va_D A [(h_t, .inr (6, [v_t_fuses, .int t_proven, .int t_words, .int t_columnSets, .ref h_t_wrongBits, .int t_solved, .int t_bestRows, .int t_bestColumns])), (h_a1, .inr (2, [.ref h_a1_parts, .int a1_count])), (h_a1_parts, .inl (cI, n_a1_parts, .inl a1_parts_a)), (h_t_wrongBits, .inl (cI, n_t_wrongBits, .inl t_wrongBits_a))] := hD.sub [0, 1, 2, 3] (by decide) rfl
      refine lv_iload_n hx hb d_RepairPlan_make_88 rfl (lv_at hl 2 rfl) ?_
      refine lv_icmp_gt (tgt := 120) hx hb d_RepairPlan_make_89 (by decide) (fun cc89 => ?_) (fun cc89 => ?_)
      · have hf := ifT cc89 hf
        refine lv_iinc (v := (x6 + 1)) (lv' := [(6, .int (x6 + 1)), (7, .int q69_5), (0, .ref h_t), (2, .int x2), (3, .int x3)]) hx hb d_RepairPlan_make_120 hl (k := 4) rfl rfl (by decide) rfl (fun ls hl => ?_)
        refine lv_goto (tgt := 57) hx hb d_RepairPlan_make_123 (by decide) ?_
        exact hrec57 (t_solved, t_bestRows, t_bestColumns, (x6 + 1)) hf  H locs ls hP hD hS (lv_sub hl [2, 3, 4, 0] rfl)
      · have hf := ifF cc89 hf
        refine lv_aload_n hx hb d_RepairPlan_make_92 rfl (lv_at hl 1 rfl) ?_
        refine lv_iload hx hb d_RepairPlan_make_93 (lv_at hl 0 rfl) ?_
        refine lv_iload hx hb d_RepairPlan_make_95 (lv_at hl 4 rfl) ?_
        obtain ⟨q97_8, hc, hf⟩ := bindS hf
        refine mcV (n := 2) (As := [.int q69_5, .int x6]) (rest := []) (wr := [(h_a1, .inr (2, [.ref h_a1_parts, .int a1_count])), (h_a1_parts, .inl (cI, n_a1_parts, .inl a1_parts_a)), (h_t_wrongBits, .inl (cI, n_t_wrongBits, .inl t_wrongBits_a))]) hx hb hml hown hts hK (c_RepairPlan_isBetter (l := l) (D := D) (cI := cI) (cB := cB) (cJ := cJ) (h_t := h_t) (v_t_fuses := v_t_fuses) (v_t_proven := (.int t_proven)) (v_t_words := (.int t_words)) (v_t_columnSets := (.int t_columnSets)) (v_t_wrongBits := (.ref h_t_wrongBits)) (t_solved := t_solved) (t_bestRows := t_bestRows) (t_bestColumns := t_bestColumns) (a1 := q69_5) (a2 := x6) (sz := H.size) (res := q97_8) (hf := hc)) w_341 w_342 w_343 w_100 w_344 (by decide +kernel) rfl rfl ⟨Nat.le_of_ble_eq_true rfl, Nat.le_of_ble_eq_true rfl⟩ hP hD hS hA [0] [1, 2, 3] rfl rfl (by decide) (by decide) (by decide) (ci := 6) 0 rfl rfl hl.1 rfl rfl (lv_room (Nat.le_of_ble_eq_true rfl)) d_RepairPlan_make_97 ⟨Nat.le_of_ble_eq_true rfl, Nat.le_of_ble_eq_true rfl⟩ (fun o ws' H locs hp hP hD hS => ?_)
        obtain ⟨rfl, rfl⟩ := hp
        have hP : va_P D classes [(h_t, .inr (6, [v_t_fuses, .int t_proven, .int t_words, .int t_columnSets, .ref h_t_wrongBits, .int t_solved, .int t_bestRows, .int t_bestColumns])), (h_a1, .inr (2, [.ref h_a1_parts, .int a1_count])), (h_a1_parts, .inl (cI, n_a1_parts, .inl a1_parts_a)), (h_t_wrongBits, .inl (cI, n_t_wrongBits, .inl t_wrongBits_a))] H := hP.sub [3, 0, 1, 2] rfl
        have hD : va_D A [(h_t, .inr (6, [v_t_fuses, .int t_proven, .int t_words, .int t_columnSets, .ref h_t_wrongBits, .int t_solved, .int t_bestRows, .int t_bestColumns])), (h_a1, .inr (2, [.ref h_a1_parts, .int a1_count])), (h_a1_parts, .inl (cI, n_a1_parts, .inl a1_parts_a)), (h_t_wrongBits, .inl (cI, n_t_wrongBits, .inl t_wrongBits_a))] := hD.sub [3, 0, 1, 2] (by decide) rfl
        refine lv_if_eq (tgt := 120) hx hb d_RepairPlan_make_100 (by decide) (fun cc100 => ?_) (fun cc100 => ?_)
        · have hf := ifT cc100 hf
          refine lv_iinc (v := (x6 + 1)) (lv' := [(6, .int (x6 + 1)), (7, .int q69_5), (0, .ref h_t), (2, .int x2), (3, .int x3)]) hx hb d_RepairPlan_make_120 hl (k := 4) rfl rfl (by decide) rfl (fun ls hl => ?_)
          refine lv_goto (tgt := 57) hx hb d_RepairPlan_make_123 (by decide) ?_
          exact hrec57 (t_solved, t_bestRows, t_bestColumns, (x6 + 1)) hf  H locs ls hP hD hS (lv_sub hl [2, 3, 4, 0] rfl)
        · have hf := ifF cc100 hf
          refine lv_aload_n hx hb d_RepairPlan_make_103 rfl (lv_at hl 1 rfl) ?_
          refine lv_iconst (v := 1) hx hb d_RepairPlan_make_104 (by decide) ?_
          refine va_put (D := D) (ci := 6) (v := .int 1) (ty := .boolean) (C := R_RepairPlan) (T := F_RepairPlan) (N := 8) hx hb hts i_RepairPlan t_RepairPlan t_RepairPlan_ok n_RepairPlan hown hK.1 hP hD hS 0 rfl rfl 5 (by decide) (hts _ w_326) (fun _ h9 => h9) rfl (t_RepairPlan_ok 5 (by decide)) rfl rfl (Nat.le_of_ble_eq_true rfl) d_RepairPlan_make_105 (fun H locs hP hD hS => ?_)
          have hP : va_P D classes [(h_t, .inr (6, [v_t_fuses, .int t_proven, .int t_words, .int t_columnSets, .ref h_t_wrongBits, .int 1, .int t_bestRows, .int t_bestColumns])), (h_a1, .inr (2, [.ref h_a1_parts, .int a1_count])), (h_a1_parts, .inl (cI, n_a1_parts, .inl a1_parts_a)), (h_t_wrongBits, .inl (cI, n_t_wrongBits, .inl t_wrongBits_a))] H := hP
          have hD : va_D A [(h_t, .inr (6, [v_t_fuses, .int t_proven, .int t_words, .int t_columnSets, .ref h_t_wrongBits, .int 1, .int t_bestRows, .int t_bestColumns])), (h_a1, .inr (2, [.ref h_a1_parts, .int a1_count])), (h_a1_parts, .inl (cI, n_a1_parts, .inl a1_parts_a)), (h_t_wrongBits, .inl (cI, n_t_wrongBits, .inl t_wrongBits_a))] := hD
          refine lv_aload_n hx hb d_RepairPlan_make_108 rfl (lv_at hl 1 rfl) ?_
          refine lv_iload hx hb d_RepairPlan_make_109 (lv_at hl 0 rfl) ?_
          refine va_put (D := D) (ci := 6) (v := .int q69_5) (ty := .int) (C := R_RepairPlan) (T := F_RepairPlan) (N := 8) hx hb hts i_RepairPlan t_RepairPlan t_RepairPlan_ok n_RepairPlan hown hK.1 hP hD hS 0 rfl rfl 6 (by decide) (hts _ w_330) (fun _ h9 => h9) rfl (t_RepairPlan_ok 6 (by decide)) rfl rfl (Nat.le_of_ble_eq_true rfl) d_RepairPlan_make_111 (fun H locs hP hD hS => ?_)
          have hP : va_P D classes [(h_t, .inr (6, [v_t_fuses, .int t_proven, .int t_words, .int t_columnSets, .ref h_t_wrongBits, .int 1, .int q69_5, .int t_bestColumns])), (h_a1, .inr (2, [.ref h_a1_parts, .int a1_count])), (h_a1_parts, .inl (cI, n_a1_parts, .inl a1_parts_a)), (h_t_wrongBits, .inl (cI, n_t_wrongBits, .inl t_wrongBits_a))] H := hP
          have hD : va_D A [(h_t, .inr (6, [v_t_fuses, .int t_proven, .int t_words, .int t_columnSets, .ref h_t_wrongBits, .int 1, .int q69_5, .int t_bestColumns])), (h_a1, .inr (2, [.ref h_a1_parts, .int a1_count])), (h_a1_parts, .inl (cI, n_a1_parts, .inl a1_parts_a)), (h_t_wrongBits, .inl (cI, n_t_wrongBits, .inl t_wrongBits_a))] := hD
          refine lv_aload_n hx hb d_RepairPlan_make_114 rfl (lv_at hl 1 rfl) ?_
          refine lv_iload hx hb d_RepairPlan_make_115 (lv_at hl 4 rfl) ?_
          refine va_put (D := D) (ci := 6) (v := .int x6) (ty := .int) (C := R_RepairPlan) (T := F_RepairPlan) (N := 8) hx hb hts i_RepairPlan t_RepairPlan t_RepairPlan_ok n_RepairPlan hown hK.1 hP hD hS 0 rfl rfl 7 (by decide) (hts _ w_331) (fun _ h9 => h9) rfl (t_RepairPlan_ok 7 (by decide)) rfl rfl (Nat.le_of_ble_eq_true rfl) d_RepairPlan_make_117 (fun H locs hP hD hS => ?_)
          have hP : va_P D classes [(h_t, .inr (6, [v_t_fuses, .int t_proven, .int t_words, .int t_columnSets, .ref h_t_wrongBits, .int 1, .int q69_5, .int x6])), (h_a1, .inr (2, [.ref h_a1_parts, .int a1_count])), (h_a1_parts, .inl (cI, n_a1_parts, .inl a1_parts_a)), (h_t_wrongBits, .inl (cI, n_t_wrongBits, .inl t_wrongBits_a))] H := hP
          have hD : va_D A [(h_t, .inr (6, [v_t_fuses, .int t_proven, .int t_words, .int t_columnSets, .ref h_t_wrongBits, .int 1, .int q69_5, .int x6])), (h_a1, .inr (2, [.ref h_a1_parts, .int a1_count])), (h_a1_parts, .inl (cI, n_a1_parts, .inl a1_parts_a)), (h_t_wrongBits, .inl (cI, n_t_wrongBits, .inl t_wrongBits_a))] := hD
          refine lv_iinc (v := (x6 + 1)) (lv' := [(6, .int (x6 + 1)), (7, .int q69_5), (0, .ref h_t), (2, .int x2), (3, .int x3)]) hx hb d_RepairPlan_make_120 hl (k := 4) rfl rfl (by decide) rfl (fun ls hl => ?_)
          refine lv_goto (tgt := 57) hx hb d_RepairPlan_make_123 (by decide) ?_
          exact hrec57 (1, q69_5, x6, (x6 + 1)) hf  H locs ls hP hD hS (lv_sub hl [2, 3, 4, 0] rfl)
set_option maxHeartbeats 4000000 in
set_option maxRecDepth 100000 in
theorem k_RepairPlan_make_57 {p : Program} {l : Launch} {e : Env} {s : State} {m : MethodId} {args : Array Value} {below : List Frame} {meth : Method} {c : Code} {D : va_G} {cI cB cJ : ClassId} {A : Nat → Prop} (C0 : CX p s m args meth c D [(cI, .int), (cB, .byte), (cJ, .long)] R_RepairPlan b_RepairPlan_make 8 (some .int) "make") (hA : ∀ q, s.heap.size ≤ q → A q) {h_t h_a1 h_t_wrongBits h_a1_parts : Nat} {v_t_fuses : Value} {res : Int32 × Int32 × Int32 × Int32 × Int32 × (Nat → Int32)} {n_a1_parts : Nat} {n_t_wrongBits : Nat} {t_proven : Int32} {t_words : Int32} {t_columnSets : Int32} {a1_count : Int32} {a1_parts_a : Nat → Int32} {t_wrongBits_a : Nat → Int32} {x2 : Int32} {x3 : Int32}
    : ∀ (n : Nat) (st : (Int32 × Int32 × Int32 × Int32)), lp (g_RepairPlan_make_57 n_t_wrongBits t_proven t_words t_columnSets t_wrongBits_a x2 x3) n st = some res → ∀  (H : Heap) (locs : List Loc) (ls : Array Slot), va_P D classes [(h_t, .inr (6, [v_t_fuses, .int t_proven, .int t_words, .int t_columnSets, .ref h_t_wrongBits, .int st.1, .int st.2.1, .int st.2.2.1])), (h_a1, .inr (2, [.ref h_a1_parts, .int a1_count])), (h_a1_parts, .inl (cI, n_a1_parts, .inl a1_parts_a)), (h_t_wrongBits, .inl (cI, n_t_wrongBits, .inl t_wrongBits_a))] H → va_D A [(h_t, .inr (6, [v_t_fuses, .int t_proven, .int t_words, .int t_columnSets, .ref h_t_wrongBits, .int st.1, .int st.2.1, .int st.2.2.1])), (h_a1, .inr (2, [.ref h_a1_parts, .int a1_count])), (h_a1_parts, .inl (cI, n_a1_parts, .inl a1_parts_a)), (h_t_wrongBits, .inl (cI, n_t_wrongBits, .inl t_wrongBits_a))] → va_S A s.heap H locs → lv_has ls 8 [(0, .ref h_t), (2, .int x2), (3, .int x3), (6, .int st.2.2.2)] → W p l e rm_RepairPlan_make s m args below meth c H locs 0 0 (MQ below (QW D (post_RepairPlan_make h_t h_a1 h_t_wrongBits h_a1_parts v_t_fuses n_a1_parts n_t_wrongBits t_words t_columnSets a1_count a1_parts_a cI cB cJ res) A) args s 0 0 A) (F0 m 57 ls []) := by
  intro n
  induction n with
  | zero => intro st hf; exact absurd hf (by simp [lp])
  | succ n ih =>
    intro st hf  H locs ls hP hD hS hl
    exact kb_RepairPlan_make_57 C0 hA (rec57 := lp (g_RepairPlan_make_57 n_t_wrongBits t_proven t_words t_columnSets t_wrongBits_a x2 x3) n) (t_solved := st.1) (t_bestRows := st.2.1) (t_bestColumns := st.2.2.1) (x6 := st.2.2.2)  (fun st hf  H locs ls hP hD hS hl => ih st hf  H locs ls hP hD hS hl) hf hP hD hS hl
set_option maxHeartbeats 4000000 in
set_option maxRecDepth 100000 in
theorem k_RepairPlan_make_41 {p : Program} {l : Launch} {e : Env} {s : State} {m : MethodId} {args : Array Value} {below : List Frame} {meth : Method} {c : Code} {D : va_G} {cI cB cJ : ClassId} {A : Nat → Prop} (C0 : CX p s m args meth c D [(cI, .int), (cB, .byte), (cJ, .long)] R_RepairPlan b_RepairPlan_make 8 (some .int) "make") (hA : ∀ q, s.heap.size ≤ q → A q) {h_t h_a1 h_t_wrongBits h_a1_parts : Nat} {v_t_fuses : Value} {res : Int32 × Int32 × Int32 × Int32 × Int32 × (Nat → Int32)} {n_a1_parts : Nat} {n_t_wrongBits : Nat} {t_proven : Int32} {t_words : Int32} {t_columnSets : Int32} {t_solved : Int32} {t_bestRows : Int32} {t_bestColumns : Int32} {a1_count : Int32} {a1_parts_a : Nat → Int32} {t_wrongBits_a : Nat → Int32} {s1 : Int32} {x2 : Int32} {x3 : Int32}
    (hf : f_RepairPlan_make_41 n_t_wrongBits t_words t_columnSets t_solved t_bestRows t_bestColumns t_wrongBits_a s1 x2 x3 = some res) {H : Heap} {locs : List Loc} {ls : Array Slot} (hP : va_P D classes [(h_t, .inr (6, [v_t_fuses, .int t_proven, .int t_words, .int t_columnSets, .ref h_t_wrongBits, .int t_solved, .int t_bestRows, .int t_bestColumns])), (h_a1, .inr (2, [.ref h_a1_parts, .int a1_count])), (h_a1_parts, .inl (cI, n_a1_parts, .inl a1_parts_a)), (h_t_wrongBits, .inl (cI, n_t_wrongBits, .inl t_wrongBits_a))] H) (hD : va_D A [(h_t, .inr (6, [v_t_fuses, .int t_proven, .int t_words, .int t_columnSets, .ref h_t_wrongBits, .int t_solved, .int t_bestRows, .int t_bestColumns])), (h_a1, .inr (2, [.ref h_a1_parts, .int a1_count])), (h_a1_parts, .inl (cI, n_a1_parts, .inl a1_parts_a)), (h_t_wrongBits, .inl (cI, n_t_wrongBits, .inl t_wrongBits_a))]) (hS : va_S A s.heap H locs) (hl : lv_has ls 8 [(0, .ref h_t), (2, .int x2), (3, .int x3)]) : W p l e rm_RepairPlan_make s m args below meth c H locs 0 0 (MQ below (QW D (post_RepairPlan_make h_t h_a1 h_t_wrongBits h_a1_parts v_t_fuses n_a1_parts n_t_wrongBits t_words t_columnSets a1_count a1_parts_a cI cB cJ res) A) args s 0 0 A) (F0 m 41 ls [.int s1, .ref h_t]) := by
  obtain ⟨hx, hb, hml, hr, hlocks, hts, hown, hK, hin⟩ := id C0
  have hf : (((
  (if isB s1 = true then
  (if s1 = 0 then
    some ((-2), s1, t_solved, t_bestRows, t_bestColumns, t_wrongBits_a)
  else
    (lp (g_RepairPlan_make_57 n_t_wrongBits s1 t_words t_columnSets t_wrongBits_a x2 x3) 100000 (t_solved, t_bestRows, t_bestColumns, 0)))
  else none))) : Option (Int32 × Int32 × Int32 × Int32 × Int32 × (Nat → Int32))) = some res := hf
  obtain ⟨hbb, hf⟩ := ifG hf
  refine va_put (D := D) (ci := 6) (v := .int s1) (ty := .boolean) (C := R_RepairPlan) (T := F_RepairPlan) (N := 8) hx hb hts i_RepairPlan t_RepairPlan t_RepairPlan_ok n_RepairPlan hown hK.1 hP hD hS 0 rfl rfl 1 (by decide) (hts _ w_340) (fun _ h9 => h9) rfl (t_RepairPlan_ok 1 (by decide)) (nar_b hbb) (fit_b hbb) (Nat.le_of_ble_eq_true rfl) d_RepairPlan_make_41 (fun H locs hP hD hS => ?_)
  have hP : va_P D classes [(h_t, .inr (6, [v_t_fuses, .int s1, .int t_words, .int t_columnSets, .ref h_t_wrongBits, .int t_solved, .int t_bestRows, .int t_bestColumns])), (h_a1, .inr (2, [.ref h_a1_parts, .int a1_count])), (h_a1_parts, .inl (cI, n_a1_parts, .inl a1_parts_a)), (h_t_wrongBits, .inl (cI, n_t_wrongBits, .inl t_wrongBits_a))] H := hP
  have hD : va_D A [(h_t, .inr (6, [v_t_fuses, .int s1, .int t_words, .int t_columnSets, .ref h_t_wrongBits, .int t_solved, .int t_bestRows, .int t_bestColumns])), (h_a1, .inr (2, [.ref h_a1_parts, .int a1_count])), (h_a1_parts, .inl (cI, n_a1_parts, .inl a1_parts_a)), (h_t_wrongBits, .inl (cI, n_t_wrongBits, .inl t_wrongBits_a))] := hD
  refine lv_aload_n hx hb d_RepairPlan_make_44 rfl (lv_at hl 0 rfl) ?_
  refine va_get (D := D) (ci := 6) (v := .int s1) (C := R_RepairPlan) (T := F_RepairPlan) (N := 8) hx hb hts i_RepairPlan hown hK.1 hP 0 rfl rfl 1 (by decide) (hts _ w_340) (fun _ h9 => h9) rfl d_RepairPlan_make_45 ?_
  refine lv_if_ne (tgt := 54) hx hb d_RepairPlan_make_48 (by decide) (fun cc48 => ?_) (fun cc48 => ?_)
  · have hf := ifF cc48 hf
    refine lv_iconst (v := 0) hx hb d_RepairPlan_make_54 (by decide) ?_
    refine lv_istore (lv' := [(6, .int 0), (0, .ref h_t), (2, .int x2), (3, .int x3)]) hx hb d_RepairPlan_make_55 hl (by decide) rfl (fun ls hl => ?_)
    exact k_RepairPlan_make_57 (s := s) C0 hA _ (t_solved, t_bestRows, t_bestColumns, 0) hf  H locs ls hP hD hS (lv_sub hl [1, 2, 3, 0] rfl)
  · have hf := ifT cc48 hf
    refine lv_bipush (v := (-2)) hx hb d_RepairPlan_make_51 (by decide) ?_
    obtain rfl := Option.some.inj hf
    exact ret_i hx hb hr hlocks hP hD hS ⟨rfl, rfl⟩ d_RepairPlan_make_53
set_option maxHeartbeats 4000000 in
set_option maxRecDepth 100000 in
theorem c_RepairPlan_make (l : Launch) (D : va_G) (cI cB cJ : ClassId) (h_t h_a1 h_t_wrongBits h_a1_parts : Nat) (v_t_fuses : Value) (n_a1_parts : Nat) (n_t_wrongBits : Nat) (t_proven : Int32) (t_words : Int32) (t_columnSets : Int32) (t_solved : Int32) (t_bestRows : Int32) (t_bestColumns : Int32) (a1_count : Int32) (a1_parts_a : Nat → Int32) (t_wrongBits_a : Nat → Int32) (a2 : Int32) (a3 : Int32) (a4 : Int64) (sz : Nat) (res : Int32 × Int32 × Int32 × Int32 × Int32 × (Nat → Int32)) (hf : f_RepairPlan_make n_a1_parts n_t_wrongBits t_words t_columnSets a1_count a1_parts_a t_wrongBits_a a2 a3 a4 = some res) : Met l y_RepairPlan_make (.code y_RepairPlan_make b_RepairPlan_make 8 (some .int) :: TB) rm_RepairPlan_make (PcW D [(cI, .int), (cB, .byte), (cJ, .long)] [.ref h_t, .ref h_a1, .int a2, .int a3, .long a4] [(h_t, .inr (6, [v_t_fuses, .int t_proven, .int t_words, .int t_columnSets, .ref h_t_wrongBits, .int t_solved, .int t_bestRows, .int t_bestColumns])), (h_a1, .inr (2, [.ref h_a1_parts, .int a1_count])), (h_a1_parts, .inl (cI, n_a1_parts, .inl a1_parts_a)), (h_t_wrongBits, .inl (cI, n_t_wrongBits, .inl t_wrongBits_a))] sz) (QW D (post_RepairPlan_make h_t h_a1 h_t_wrongBits h_a1_parts v_t_fuses n_a1_parts n_t_wrongBits t_words t_columnSets a1_count a1_parts_a cI cB cJ res) (va_A [(h_t, .inr (6, [v_t_fuses, .int t_proven, .int t_words, .int t_columnSets, .ref h_t_wrongBits, .int t_solved, .int t_bestRows, .int t_bestColumns])), (h_a1, .inr (2, [.ref h_a1_parts, .int a1_count])), (h_a1_parts, .inl (cI, n_a1_parts, .inl a1_parts_a)), (h_t_wrongBits, .inl (cI, n_t_wrongBits, .inl t_wrongBits_a))] sz)) 0 0 (va_A [(h_t, .inr (6, [v_t_fuses, .int t_proven, .int t_words, .int t_columnSets, .ref h_t_wrongBits, .int t_solved, .int t_bestRows, .int t_bestColumns])), (h_a1, .inr (2, [.ref h_a1_parts, .int a1_count])), (h_a1_parts, .inl (cI, n_a1_parts, .inl a1_parts_a)), (h_t_wrongBits, .inl (cI, n_t_wrongBits, .inl t_wrongBits_a))] sz) := by
  refine entW ⟨by decide +kernel, rfl⟩ fun p e s m below meth c C0 hP hD hsz ls hl => ?_
  subst hsz
  generalize hAe : va_A [(h_t, .inr (6, [v_t_fuses, .int t_proven, .int t_words, .int t_columnSets, .ref h_t_wrongBits, .int t_solved, .int t_bestRows, .int t_bestColumns])), (h_a1, .inr (2, [.ref h_a1_parts, .int a1_count])), (h_a1_parts, .inl (cI, n_a1_parts, .inl a1_parts_a)), (h_t_wrongBits, .inl (cI, n_t_wrongBits, .inl t_wrongBits_a))] s.heap.size = A at hD ⊢
  have hA : ∀ q : Nat, s.heap.size ≤ q → A q := fun q h => by rw [← hAe]; exact Or.inr h
  clear hAe
  have hS : va_S A s.heap s.heap [] := va_S.rf
  have hl : lv_has ls 8 [(0, .ref h_t), (1, .ref h_a1), (2, .int a2), (3, .int a3), (4, .long a4)] := hl
  obtain ⟨hx, hb, hml, hr, hlocks, hts, hown, hK, hin⟩ := id C0
  have hf : (((
  (Option.bind (f_RepairPlan_gatherWrongBits n_a1_parts n_t_wrongBits t_words a1_count a1_parts_a t_wrongBits_a) fun q2_1 =>
  (Option.bind (f_RepairPlan_wordsWrongOutside n_t_wrongBits t_words q2_1 0) fun q23_2 =>
  (Option.bind (f_JI_bitCount q23_2) fun q26_3 =>
  (if 0 < (lg_cmp (Int32.toInt64 q26_3) a4) then
    (f_RepairPlan_make_41 n_t_wrongBits t_words t_columnSets 0 0 0 q2_1 0 a2 a3)
  else
    (f_RepairPlan_make_41 n_t_wrongBits t_words t_columnSets 0 0 0 q2_1 1 a2 a3))))))) : Option (Int32 × Int32 × Int32 × Int32 × Int32 × (Nat → Int32))) = some res := hf
  obtain ⟨H, hH⟩ : ∃ H, H = s.heap := ⟨_, rfl⟩
  obtain ⟨locs, hlo⟩ : ∃ x : List Loc, x = [] := ⟨_, rfl⟩
  rw [← hlo] at hS ⊢
  have hP : va_P D classes [(h_t, .inr (6, [v_t_fuses, .int t_proven, .int t_words, .int t_columnSets, .ref h_t_wrongBits, .int t_solved, .int t_bestRows, .int t_bestColumns])), (h_a1, .inr (2, [.ref h_a1_parts, .int a1_count])), (h_a1_parts, .inl (cI, n_a1_parts, .inl a1_parts_a)), (h_t_wrongBits, .inl (cI, n_t_wrongBits, .inl t_wrongBits_a))] H := by rw [hH]; exact hP
  have hS : va_S A s.heap H locs := by rw [hH]; exact hS
  show W p l e rm_RepairPlan_make s m _ below meth c s.heap locs 0 0 (MQ below (QW D (post_RepairPlan_make h_t h_a1 h_t_wrongBits h_a1_parts v_t_fuses n_a1_parts n_t_wrongBits t_words t_columnSets a1_count a1_parts_a cI cB cJ res) A) _ s 0 0 A) (F0 m 0 ls [])
  refine wheap hH ?_
  clear hH hlo
  refine lv_aload_n hx hb d_RepairPlan_make_0 rfl (lv_at hl 0 rfl) ?_
  refine lv_aload_n hx hb d_RepairPlan_make_1 rfl (lv_at hl 1 rfl) ?_
  obtain ⟨q2_1, hc, hf⟩ := bindS hf
  refine mcV (n := 1) (As := [.ref h_a1]) (rest := []) (wr := []) hx hb hml hown hts hK (c_RepairPlan_gatherWrongBits (l := l) (D := D) (cI := cI) (cB := cB) (cJ := cJ) (h_t := h_t) (h_a1 := h_a1) (h_t_wrongBits := h_t_wrongBits) (h_a1_parts := h_a1_parts) (v_t_fuses := v_t_fuses) (v_t_proven := (.int t_proven)) (v_t_columnSets := (.int t_columnSets)) (v_t_solved := (.int t_solved)) (v_t_bestRows := (.int t_bestRows)) (v_t_bestColumns := (.int t_bestColumns)) (n_a1_parts := n_a1_parts) (n_t_wrongBits := n_t_wrongBits) (t_words := t_words) (a1_count := a1_count) (a1_parts_a := a1_parts_a) (t_wrongBits_a := t_wrongBits_a) (sz := H.size) (res := q2_1) (hf := hc)) w_332 w_333 w_334 w_100 w_335 (by decide +kernel) rfl rfl ⟨Nat.le_of_ble_eq_true rfl, Nat.le_of_ble_eq_true rfl⟩ hP hD hS hA [0, 1, 2, 3] [] rfl rfl (by decide) (by decide) (by decide) (ci := 6) 0 rfl rfl hl.1 rfl rfl (lv_room (Nat.le_of_ble_eq_true rfl)) d_RepairPlan_make_2 ⟨Nat.le_of_ble_eq_true rfl, Nat.le_of_ble_eq_true rfl⟩ (fun o ws' H locs hp hP hD hS => ?_)
  obtain ⟨rfl, rfl⟩ := hp
  have hP : va_P D classes [(h_t, .inr (6, [v_t_fuses, .int t_proven, .int t_words, .int t_columnSets, .ref h_t_wrongBits, .int t_solved, .int t_bestRows, .int t_bestColumns])), (h_a1, .inr (2, [.ref h_a1_parts, .int a1_count])), (h_a1_parts, .inl (cI, n_a1_parts, .inl a1_parts_a)), (h_t_wrongBits, .inl (cI, n_t_wrongBits, .inl q2_1))] H := hP.sub [0, 1, 2, 3] rfl
  have hD : va_D A [(h_t, .inr (6, [v_t_fuses, .int t_proven, .int t_words, .int t_columnSets, .ref h_t_wrongBits, .int t_solved, .int t_bestRows, .int t_bestColumns])), (h_a1, .inr (2, [.ref h_a1_parts, .int a1_count])), (h_a1_parts, .inl (cI, n_a1_parts, .inl a1_parts_a)), (h_t_wrongBits, .inl (cI, n_t_wrongBits, .inl q2_1))] := hD.sub [0, 1, 2, 3] (by decide) rfl
  refine lv_aload_n hx hb d_RepairPlan_make_5 rfl (lv_at hl 0 rfl) ?_
  refine lv_iconst (v := 0) hx hb d_RepairPlan_make_6 (by decide) ?_
  refine va_put (D := D) (ci := 6) (v := .int 0) (ty := .boolean) (C := R_RepairPlan) (T := F_RepairPlan) (N := 8) hx hb hts i_RepairPlan t_RepairPlan t_RepairPlan_ok n_RepairPlan hown hK.1 hP hD hS 0 rfl rfl 5 (by decide) (hts _ w_326) (fun _ h9 => h9) rfl (t_RepairPlan_ok 5 (by decide)) rfl rfl (Nat.le_of_ble_eq_true rfl) d_RepairPlan_make_7 (fun H locs hP hD hS => ?_)
  have hP : va_P D classes [(h_t, .inr (6, [v_t_fuses, .int t_proven, .int t_words, .int t_columnSets, .ref h_t_wrongBits, .int 0, .int t_bestRows, .int t_bestColumns])), (h_a1, .inr (2, [.ref h_a1_parts, .int a1_count])), (h_a1_parts, .inl (cI, n_a1_parts, .inl a1_parts_a)), (h_t_wrongBits, .inl (cI, n_t_wrongBits, .inl q2_1))] H := hP
  have hD : va_D A [(h_t, .inr (6, [v_t_fuses, .int t_proven, .int t_words, .int t_columnSets, .ref h_t_wrongBits, .int 0, .int t_bestRows, .int t_bestColumns])), (h_a1, .inr (2, [.ref h_a1_parts, .int a1_count])), (h_a1_parts, .inl (cI, n_a1_parts, .inl a1_parts_a)), (h_t_wrongBits, .inl (cI, n_t_wrongBits, .inl q2_1))] := hD
  refine lv_aload_n hx hb d_RepairPlan_make_10 rfl (lv_at hl 0 rfl) ?_
  refine lv_iconst (v := 0) hx hb d_RepairPlan_make_11 (by decide) ?_
  refine va_put (D := D) (ci := 6) (v := .int 0) (ty := .int) (C := R_RepairPlan) (T := F_RepairPlan) (N := 8) hx hb hts i_RepairPlan t_RepairPlan t_RepairPlan_ok n_RepairPlan hown hK.1 hP hD hS 0 rfl rfl 6 (by decide) (hts _ w_330) (fun _ h9 => h9) rfl (t_RepairPlan_ok 6 (by decide)) rfl rfl (Nat.le_of_ble_eq_true rfl) d_RepairPlan_make_12 (fun H locs hP hD hS => ?_)
  have hP : va_P D classes [(h_t, .inr (6, [v_t_fuses, .int t_proven, .int t_words, .int t_columnSets, .ref h_t_wrongBits, .int 0, .int 0, .int t_bestColumns])), (h_a1, .inr (2, [.ref h_a1_parts, .int a1_count])), (h_a1_parts, .inl (cI, n_a1_parts, .inl a1_parts_a)), (h_t_wrongBits, .inl (cI, n_t_wrongBits, .inl q2_1))] H := hP
  have hD : va_D A [(h_t, .inr (6, [v_t_fuses, .int t_proven, .int t_words, .int t_columnSets, .ref h_t_wrongBits, .int 0, .int 0, .int t_bestColumns])), (h_a1, .inr (2, [.ref h_a1_parts, .int a1_count])), (h_a1_parts, .inl (cI, n_a1_parts, .inl a1_parts_a)), (h_t_wrongBits, .inl (cI, n_t_wrongBits, .inl q2_1))] := hD
  refine lv_aload_n hx hb d_RepairPlan_make_15 rfl (lv_at hl 0 rfl) ?_
  refine lv_iconst (v := 0) hx hb d_RepairPlan_make_16 (by decide) ?_
  refine va_put (D := D) (ci := 6) (v := .int 0) (ty := .int) (C := R_RepairPlan) (T := F_RepairPlan) (N := 8) hx hb hts i_RepairPlan t_RepairPlan t_RepairPlan_ok n_RepairPlan hown hK.1 hP hD hS 0 rfl rfl 7 (by decide) (hts _ w_331) (fun _ h9 => h9) rfl (t_RepairPlan_ok 7 (by decide)) rfl rfl (Nat.le_of_ble_eq_true rfl) d_RepairPlan_make_17 (fun H locs hP hD hS => ?_)
  have hP : va_P D classes [(h_t, .inr (6, [v_t_fuses, .int t_proven, .int t_words, .int t_columnSets, .ref h_t_wrongBits, .int 0, .int 0, .int 0])), (h_a1, .inr (2, [.ref h_a1_parts, .int a1_count])), (h_a1_parts, .inl (cI, n_a1_parts, .inl a1_parts_a)), (h_t_wrongBits, .inl (cI, n_t_wrongBits, .inl q2_1))] H := hP
  have hD : va_D A [(h_t, .inr (6, [v_t_fuses, .int t_proven, .int t_words, .int t_columnSets, .ref h_t_wrongBits, .int 0, .int 0, .int 0])), (h_a1, .inr (2, [.ref h_a1_parts, .int a1_count])), (h_a1_parts, .inl (cI, n_a1_parts, .inl a1_parts_a)), (h_t_wrongBits, .inl (cI, n_t_wrongBits, .inl q2_1))] := hD
  refine lv_aload_n hx hb d_RepairPlan_make_20 rfl (lv_at hl 0 rfl) ?_
  refine lv_aload_n hx hb d_RepairPlan_make_21 rfl (lv_at hl 0 rfl) ?_
  refine lv_iconst (v := 0) hx hb d_RepairPlan_make_22 (by decide) ?_
  obtain ⟨q23_2, hc, hf⟩ := bindS hf
  refine mcV (n := 1) (As := [.int 0]) (rest := [.ref h_t]) (wr := [(h_a1, .inr (2, [.ref h_a1_parts, .int a1_count])), (h_a1_parts, .inl (cI, n_a1_parts, .inl a1_parts_a))]) hx hb hml hown hts hK (c_RepairPlan_wordsWrongOutside (l := l) (D := D) (cI := cI) (cB := cB) (cJ := cJ) (h_t := h_t) (h_t_wrongBits := h_t_wrongBits) (v_t_fuses := v_t_fuses) (v_t_proven := (.int t_proven)) (v_t_columnSets := (.int t_columnSets)) (v_t_solved := (.int 0)) (v_t_bestRows := (.int 0)) (v_t_bestColumns := (.int 0)) (n_t_wrongBits := n_t_wrongBits) (t_words := t_words) (t_wrongBits_a := q2_1) (a1 := 0) (sz := H.size) (res := q23_2) (hf := hc)) w_336 w_337 w_338 w_100 w_339 (by decide +kernel) rfl rfl ⟨Nat.le_of_ble_eq_true rfl, Nat.le_of_ble_eq_true rfl⟩ hP hD hS hA [0, 3] [1, 2] rfl rfl (by decide) (by decide) (by decide) (ci := 6) 0 rfl rfl hl.1 rfl rfl (lv_room (Nat.le_of_ble_eq_true rfl)) d_RepairPlan_make_23 ⟨Nat.le_of_ble_eq_true rfl, Nat.le_of_ble_eq_true rfl⟩ (fun o ws' H locs hp hP hD hS => ?_)
  obtain ⟨rfl, rfl⟩ := hp
  have hP : va_P D classes [(h_t, .inr (6, [v_t_fuses, .int t_proven, .int t_words, .int t_columnSets, .ref h_t_wrongBits, .int 0, .int 0, .int 0])), (h_a1, .inr (2, [.ref h_a1_parts, .int a1_count])), (h_a1_parts, .inl (cI, n_a1_parts, .inl a1_parts_a)), (h_t_wrongBits, .inl (cI, n_t_wrongBits, .inl q2_1))] H := hP.sub [2, 0, 1, 3] rfl
  have hD : va_D A [(h_t, .inr (6, [v_t_fuses, .int t_proven, .int t_words, .int t_columnSets, .ref h_t_wrongBits, .int 0, .int 0, .int 0])), (h_a1, .inr (2, [.ref h_a1_parts, .int a1_count])), (h_a1_parts, .inl (cI, n_a1_parts, .inl a1_parts_a)), (h_t_wrongBits, .inl (cI, n_t_wrongBits, .inl q2_1))] := hD.sub [2, 0, 1, 3] (by decide) rfl
  obtain ⟨q26_3, hc, hf⟩ := bindS hf
  refine mcS (n := 1) (As := [.int q23_2]) (rest := [.ref h_t]) (wr := [(h_t, .inr (6, [v_t_fuses, .int t_proven, .int t_words, .int t_columnSets, .ref h_t_wrongBits, .int 0, .int 0, .int 0])), (h_a1, .inr (2, [.ref h_a1_parts, .int a1_count])), (h_a1_parts, .inl (cI, n_a1_parts, .inl a1_parts_a)), (h_t_wrongBits, .inl (cI, n_t_wrongBits, .inl q2_1))]) hx hb hml hown hts hK (c_JI_bitCount (l := l) (D := D) (cI := cI) (cB := cB) (cJ := cJ) (a1 := q23_2) (sz := H.size) (res := q26_3) (hf := hc)) w_322 w_323 w_324 w_325 (by decide +kernel) rfl rfl ⟨Nat.le_of_ble_eq_true rfl, Nat.le_of_ble_eq_true rfl⟩ hP hD hS hA [] [0, 1, 2, 3] rfl rfl (by decide) (by decide) (by decide) hl.1 rfl rfl (lv_room (Nat.le_of_ble_eq_true rfl)) d_RepairPlan_make_26 ⟨Nat.le_of_ble_eq_true rfl, Nat.le_of_ble_eq_true rfl⟩ (fun o ws' H locs hp hP hD hS => ?_)
  obtain ⟨rfl, rfl⟩ := hp
  have hP : va_P D classes [(h_t, .inr (6, [v_t_fuses, .int t_proven, .int t_words, .int t_columnSets, .ref h_t_wrongBits, .int 0, .int 0, .int 0])), (h_a1, .inr (2, [.ref h_a1_parts, .int a1_count])), (h_a1_parts, .inl (cI, n_a1_parts, .inl a1_parts_a)), (h_t_wrongBits, .inl (cI, n_t_wrongBits, .inl q2_1))] H := hP.sub [0, 1, 2, 3] rfl
  have hD : va_D A [(h_t, .inr (6, [v_t_fuses, .int t_proven, .int t_words, .int t_columnSets, .ref h_t_wrongBits, .int 0, .int 0, .int 0])), (h_a1, .inr (2, [.ref h_a1_parts, .int a1_count])), (h_a1_parts, .inl (cI, n_a1_parts, .inl a1_parts_a)), (h_t_wrongBits, .inl (cI, n_t_wrongBits, .inl q2_1))] := hD.sub [0, 1, 2, 3] (by decide) rfl
  refine lv_i2l (v := (Int32.toInt64 q26_3)) hx hb d_RepairPlan_make_29 rfl ?_
  refine lv_lload hx hb d_RepairPlan_make_30 (lv_at hl 4 rfl) ?_
  refine W.lcmp hx hb d_RepairPlan_make_32 ?_
  refine lv_if_gt (tgt := 40) hx hb d_RepairPlan_make_33 (by decide) (fun cc33 => ?_) (fun cc33 => ?_)
  · have hf := ifT cc33 hf
    refine lv_iconst (v := 0) hx hb d_RepairPlan_make_40 (by decide) ?_
    exact k_RepairPlan_make_41 (s := s) C0 hA hf hP hD hS (lv_sub hl [0, 2, 3] rfl)
  · have hf := ifF cc33 hf
    refine lv_iconst (v := 1) hx hb d_RepairPlan_make_36 (by decide) ?_
    refine lv_goto (tgt := 41) hx hb d_RepairPlan_make_37 (by decide) ?_
    exact k_RepairPlan_make_41 (s := s) C0 hA hf hP hD hS (lv_sub hl [0, 2, 3] rfl)
