def f_MT_repair (n_t_tester_failures_parts : Nat) (n_t_plan_wrongBits : Nat) (t_plan_words : Int32) (t_plan_columnSets : Int32) (t_tester_failures_count : Int32) (t_tester_failures_parts_a : Nat → Int32) (t_plan_wrongBits_a : Nat → Int32) (a1 : Int32) (a2 : Int32) (a3 : Int64) : Option ((Int32 × Int32 × Int32 × Int32 × Int32 × (Nat → Int32)) ⊕ Nat) :=
  (Option.bind (f_MT_isSpareCount a1) fun q1_1 =>
  (if q1_1 = 0 then
    some (Sum.inr 2)
  else
    (Option.bind (f_MT_isSpareCount a2) fun q8_2 =>
    (if q8_2 = 0 then
      some (Sum.inr 2)
    else
      (if 0 ≤ (lg_cmp a3 0) then
        (Option.bind (f_RepairPlan_make n_t_tester_failures_parts n_t_plan_wrongBits t_plan_words t_plan_columnSets t_tester_failures_count t_tester_failures_parts_a t_plan_wrongBits_a a1 a2 a3) fun q54_3 =>
        some (Sum.inl (q54_3.1, q54_3.2.1, q54_3.2.2.1, q54_3.2.2.2.1, q54_3.2.2.2.2.1, q54_3.2.2.2.2.2)))
      else
        some (Sum.inr 2))))))
def post_MT_repair (h_t h_t_plan h_t_tester h_t_tester_failures h_t_plan_wrongBits h_t_tester_failures_parts : Nat) (v_t_words v_t_cells v_t_tape v_t_reader v_t_faults v_t_single v_t_march v_t_draft v_t_tester_ports v_t_tester_groundKind v_t_tester_words v_t_tester_allBits v_t_tester_memory v_t_tester_scrambled v_t_tester_wordAt v_t_tester_zeroOf v_t_plan_fuses : Value) (n_t_tester_failures_parts : Nat) (n_t_plan_wrongBits : Nat) (t_plan_words : Int32) (t_plan_columnSets : Int32) (t_tester_failures_count : Int32) (t_tester_failures_parts_a : Nat → Int32) (cI cB cJ : ClassId) (res : Int32 × Int32 × Int32 × Int32 × Int32 × (Nat → Int32)) : Option Value → va_W → Prop := fun o ws' => o = some (.int res.1) ∧ ws' = [(h_t, .inr (0, [v_t_words, v_t_cells, v_t_tape, v_t_reader, v_t_faults, v_t_single, .ref h_t_tester, .ref h_t_plan, v_t_march, v_t_draft])), (h_t_tester, .inr (8, [.ref h_t_tester_failures, v_t_tester_ports, v_t_tester_groundKind, v_t_tester_words, v_t_tester_allBits, v_t_tester_memory, v_t_tester_scrambled, v_t_tester_wordAt, v_t_tester_zeroOf])), (h_t_plan, .inr (6, [v_t_plan_fuses, .int res.2.1, .int t_plan_words, .int t_plan_columnSets, .ref h_t_plan_wrongBits, .int res.2.2.1, .int res.2.2.2.1, .int res.2.2.2.2.1])), (h_t_tester_failures, .inr (2, [.ref h_t_tester_failures_parts, .int t_tester_failures_count])), (h_t_tester_failures_parts, .inl (cI, n_t_tester_failures_parts, .inl t_tester_failures_parts_a)), (h_t_plan_wrongBits, .inl (cI, n_t_plan_wrongBits, .inl res.2.2.2.2.2))]
abbrev rm_MT_repair : Room := { frames := 4, cells := 0, slots := 0, locals := 93 }
set_option maxHeartbeats 4000000 in
set_option maxRecDepth 100000 in
theorem c_MT_repair (l : Launch) (D : va_G) (cI cB cJ : ClassId) (h_t h_t_plan h_t_tester h_t_tester_failures h_t_plan_wrongBits h_t_tester_failures_parts : Nat) (v_t_words v_t_cells v_t_tape v_t_reader v_t_faults v_t_single v_t_march v_t_draft v_t_tester_ports v_t_tester_groundKind v_t_tester_words v_t_tester_allBits v_t_tester_memory v_t_tester_scrambled v_t_tester_wordAt v_t_tester_zeroOf v_t_plan_fuses : Value) (n_t_tester_failures_parts : Nat) (n_t_plan_wrongBits : Nat) (t_plan_proven : Int32) (t_plan_words : Int32) (t_plan_columnSets : Int32) (t_plan_solved : Int32) (t_plan_bestRows : Int32) (t_plan_bestColumns : Int32) (t_tester_failures_count : Int32) (t_tester_failures_parts_a : Nat → Int32) (t_plan_wrongBits_a : Nat → Int32) (a1 : Int32) (a2 : Int32) (a3 : Int64) (sz : Nat) (res : Int32 × Int32 × Int32 × Int32 × Int32 × (Nat → Int32)) (hf : f_MT_repair n_t_tester_failures_parts n_t_plan_wrongBits t_plan_words t_plan_columnSets t_tester_failures_count t_tester_failures_parts_a t_plan_wrongBits_a a1 a2 a3 = some (Sum.inl res)) : Met l y_MT_repair (.code y_MT_repair b_MT_repair 5 (some .int) :: TB) rm_MT_repair (PcW D [(cI, .int), (cB, .byte), (cJ, .long)] [.ref h_t, .int a1, .int a2, .long a3] [(h_t, .inr (0, [v_t_words, v_t_cells, v_t_tape, v_t_reader, v_t_faults, v_t_single, .ref h_t_tester, .ref h_t_plan, v_t_march, v_t_draft])), (h_t_tester, .inr (8, [.ref h_t_tester_failures, v_t_tester_ports, v_t_tester_groundKind, v_t_tester_words, v_t_tester_allBits, v_t_tester_memory, v_t_tester_scrambled, v_t_tester_wordAt, v_t_tester_zeroOf])), (h_t_plan, .inr (6, [v_t_plan_fuses, .int t_plan_proven, .int t_plan_words, .int t_plan_columnSets, .ref h_t_plan_wrongBits, .int t_plan_solved, .int t_plan_bestRows, .int t_plan_bestColumns])), (h_t_tester_failures, .inr (2, [.ref h_t_tester_failures_parts, .int t_tester_failures_count])), (h_t_tester_failures_parts, .inl (cI, n_t_tester_failures_parts, .inl t_tester_failures_parts_a)), (h_t_plan_wrongBits, .inl (cI, n_t_plan_wrongBits, .inl t_plan_wrongBits_a))] sz) (QW D (post_MT_repair h_t h_t_plan h_t_tester h_t_tester_failures h_t_plan_wrongBits h_t_tester_failures_parts v_t_words v_t_cells v_t_tape v_t_reader v_t_faults v_t_single v_t_march v_t_draft v_t_tester_ports v_t_tester_groundKind v_t_tester_words v_t_tester_allBits v_t_tester_memory v_t_tester_scrambled v_t_tester_wordAt v_t_tester_zeroOf v_t_plan_fuses n_t_tester_failures_parts n_t_plan_wrongBits t_plan_words t_plan_columnSets t_tester_failures_count t_tester_failures_parts_a cI cB cJ res) (va_A [(h_t, .inr (0, [v_t_words, v_t_cells, v_t_tape, v_t_reader, v_t_faults, v_t_single, .ref h_t_tester, .ref h_t_plan, v_t_march, v_t_draft])), (h_t_tester, .inr (8, [.ref h_t_tester_failures, v_t_tester_ports, v_t_tester_groundKind, v_t_tester_words, v_t_tester_allBits, v_t_tester_memory, v_t_tester_scrambled, v_t_tester_wordAt, v_t_tester_zeroOf])), (h_t_plan, .inr (6, [v_t_plan_fuses, .int t_plan_proven, .int t_plan_words, .int t_plan_columnSets, .ref h_t_plan_wrongBits, .int t_plan_solved, .int t_plan_bestRows, .int t_plan_bestColumns])), (h_t_tester_failures, .inr (2, [.ref h_t_tester_failures_parts, .int t_tester_failures_count])), (h_t_tester_failures_parts, .inl (cI, n_t_tester_failures_parts, .inl t_tester_failures_parts_a)), (h_t_plan_wrongBits, .inl (cI, n_t_plan_wrongBits, .inl t_plan_wrongBits_a))] sz)) 0 0 (va_A [(h_t, .inr (0, [v_t_words, v_t_cells, v_t_tape, v_t_reader, v_t_faults, v_t_single, .ref h_t_tester, .ref h_t_plan, v_t_march, v_t_draft])), (h_t_tester, .inr (8, [.ref h_t_tester_failures, v_t_tester_ports, v_t_tester_groundKind, v_t_tester_words, v_t_tester_allBits, v_t_tester_memory, v_t_tester_scrambled, v_t_tester_wordAt, v_t_tester_zeroOf])), (h_t_plan, .inr (6, [v_t_plan_fuses, .int t_plan_proven, .int t_plan_words, .int t_plan_columnSets, .ref h_t_plan_wrongBits, .int t_plan_solved, .int t_plan_bestRows, .int t_plan_bestColumns])), (h_t_tester_failures, .inr (2, [.ref h_t_tester_failures_parts, .int t_tester_failures_count])), (h_t_tester_failures_parts, .inl (cI, n_t_tester_failures_parts, .inl t_tester_failures_parts_a)), (h_t_plan_wrongBits, .inl (cI, n_t_plan_wrongBits, .inl t_plan_wrongBits_a))] sz) := by
  refine entW ⟨by decide +kernel, rfl⟩ fun p e s m below meth c C0 hP hD hsz ls hl => ?_
  subst hsz
  generalize hAe : va_A [(h_t, .inr (0, [v_t_words, v_t_cells, v_t_tape, v_t_reader, v_t_faults, v_t_single, .ref h_t_tester, .ref h_t_plan, v_t_march, v_t_draft])), (h_t_tester, .inr (8, [.ref h_t_tester_failures, v_t_tester_ports, v_t_tester_groundKind, v_t_tester_words, v_t_tester_allBits, v_t_tester_memory, v_t_tester_scrambled, v_t_tester_wordAt, v_t_tester_zeroOf])), (h_t_plan, .inr (6, [v_t_plan_fuses, .int t_plan_proven, .int t_plan_words, .int t_plan_columnSets, .ref h_t_plan_wrongBits, .int t_plan_solved, .int t_plan_bestRows, .int t_plan_bestColumns])), (h_t_tester_failures, .inr (2, [.ref h_t_tester_failures_parts, .int t_tester_failures_count])), (h_t_tester_failures_parts, .inl (cI, n_t_tester_failures_parts, .inl t_tester_failures_parts_a)), (h_t_plan_wrongBits, .inl (cI, n_t_plan_wrongBits, .inl t_plan_wrongBits_a))] s.heap.size = A at hD ⊢
  have hA : ∀ q : Nat, s.heap.size ≤ q → A q := fun q h => by rw [← hAe]; exact Or.inr h
  clear hAe
  have hS : va_S A s.heap s.heap [] := va_S.rf
  have hl : lv_has ls 5 [(0, .ref h_t), (1, .int a1), (2, .int a2), (3, .long a3)] := hl
  obtain ⟨hx, hb, hml, hr, hlocks, hts, hown, hK, hin⟩ := id C0
  have hf : (((
  (Option.bind (f_MT_isSpareCount a1) fun q1_1 =>
  (if q1_1 = 0 then
    some (Sum.inr 2)
  else
    (Option.bind (f_MT_isSpareCount a2) fun q8_2 =>
    (if q8_2 = 0 then
      some (Sum.inr 2)
    else
      (if 0 ≤ (lg_cmp a3 0) then
        (Option.bind (f_RepairPlan_make n_t_tester_failures_parts n_t_plan_wrongBits t_plan_words t_plan_columnSets t_tester_failures_count t_tester_failures_parts_a t_plan_wrongBits_a a1 a2 a3) fun q54_3 =>
        some (Sum.inl (q54_3.1, q54_3.2.1, q54_3.2.2.1, q54_3.2.2.2.1, q54_3.2.2.2.2.1, q54_3.2.2.2.2.2)))
      else
        some (Sum.inr 2)))))))) : Option ((Int32 × Int32 × Int32 × Int32 × Int32 × (Nat → Int32)) ⊕ Nat)) = some (Sum.inl res) := hf
  obtain ⟨H, hH⟩ : ∃ H, H = s.heap := ⟨_, rfl⟩
  obtain ⟨locs, hlo⟩ : ∃ x : List Loc, x = [] := ⟨_, rfl⟩
  rw [← hlo] at hS ⊢
  have hP : va_P D classes [(h_t, .inr (0, [v_t_words, v_t_cells, v_t_tape, v_t_reader, v_t_faults, v_t_single, .ref h_t_tester, .ref h_t_plan, v_t_march, v_t_draft])), (h_t_tester, .inr (8, [.ref h_t_tester_failures, v_t_tester_ports, v_t_tester_groundKind, v_t_tester_words, v_t_tester_allBits, v_t_tester_memory, v_t_tester_scrambled, v_t_tester_wordAt, v_t_tester_zeroOf])), (h_t_plan, .inr (6, [v_t_plan_fuses, .int t_plan_proven, .int t_plan_words, .int t_plan_columnSets, .ref h_t_plan_wrongBits, .int t_plan_solved, .int t_plan_bestRows, .int t_plan_bestColumns])), (h_t_tester_failures, .inr (2, [.ref h_t_tester_failures_parts, .int t_tester_failures_count])), (h_t_tester_failures_parts, .inl (cI, n_t_tester_failures_parts, .inl t_tester_failures_parts_a)), (h_t_plan_wrongBits, .inl (cI, n_t_plan_wrongBits, .inl t_plan_wrongBits_a))] H := by rw [hH]; exact hP
  have hS : va_S A s.heap H locs := by rw [hH]; exact hS
  show W p l e rm_MT_repair s m _ below meth c s.heap locs 0 0 (MQ below (QW D (post_MT_repair h_t h_t_plan h_t_tester h_t_tester_failures h_t_plan_wrongBits h_t_tester_failures_parts v_t_words v_t_cells v_t_tape v_t_reader v_t_faults v_t_single v_t_march v_t_draft v_t_tester_ports v_t_tester_groundKind v_t_tester_words v_t_tester_allBits v_t_tester_memory v_t_tester_scrambled v_t_tester_wordAt v_t_tester_zeroOf v_t_plan_fuses n_t_tester_failures_parts n_t_plan_wrongBits t_plan_words t_plan_columnSets t_tester_failures_count t_tester_failures_parts_a cI cB cJ res) A) _ s 0 0 A) (F0 m 0 ls [])
  refine wheap hH ?_
  clear hH hlo
  refine lv_iload_n hx hb d_MT_repair_0 rfl (lv_at hl 1 rfl) ?_
  obtain ⟨q1_1, hc, hf⟩ := bindS hf
  refine mcS (n := 1) (As := [.int a1]) (rest := []) (wr := [(h_t, .inr (0, [v_t_words, v_t_cells, v_t_tape, v_t_reader, v_t_faults, v_t_single, .ref h_t_tester, .ref h_t_plan, v_t_march, v_t_draft])), (h_t_tester, .inr (8, [.ref h_t_tester_failures, v_t_tester_ports, v_t_tester_groundKind, v_t_tester_words, v_t_tester_allBits, v_t_tester_memory, v_t_tester_scrambled, v_t_tester_wordAt, v_t_tester_zeroOf])), (h_t_plan, .inr (6, [v_t_plan_fuses, .int t_plan_proven, .int t_plan_words, .int t_plan_columnSets, .ref h_t_plan_wrongBits, .int t_plan_solved, .int t_plan_bestRows, .int t_plan_bestColumns])), (h_t_tester_failures, .inr (2, [.ref h_t_tester_failures_parts, .int t_tester_failures_count])), (h_t_tester_failures_parts, .inl (cI, n_t_tester_failures_parts, .inl t_tester_failures_parts_a)), (h_t_plan_wrongBits, .inl (cI, n_t_plan_wrongBits, .inl t_plan_wrongBits_a))]) hx hb hml hown hts hK (c_MT_isSpareCount (l := l) (D := D) (cI := cI) (cB := cB) (cJ := cJ) (a1 := a1) (sz := H.size) (res := q1_1) (hf := hc)) w_345 w_346 w_187 w_347 (by decide +kernel) rfl rfl ⟨Nat.le_of_ble_eq_true rfl, Nat.le_of_ble_eq_true rfl⟩ hP hD hS hA [] [0, 1, 2, 3, 4, 5] rfl rfl (by decide) (by decide) (by decide) hl.1 rfl rfl (lv_room (Nat.le_of_ble_eq_true rfl)) d_MT_repair_1 ⟨Nat.le_of_ble_eq_true rfl, Nat.le_of_ble_eq_true rfl⟩ (fun o ws' H locs hp hP hD hS => ?_)
  obtain ⟨rfl, rfl⟩ := hp
  have hP : va_P D classes [(h_t, .inr (0, [v_t_words, v_t_cells, v_t_tape, v_t_reader, v_t_faults, v_t_single, .ref h_t_tester, .ref h_t_plan, v_t_march, v_t_draft])), (h_t_tester, .inr (8, [.ref h_t_tester_failures, v_t_tester_ports, v_t_tester_groundKind, v_t_tester_words, v_t_tester_allBits, v_t_tester_memory, v_t_tester_scrambled, v_t_tester_wordAt, v_t_tester_zeroOf])), (h_t_plan, .inr (6, [v_t_plan_fuses, .int t_plan_proven, .int t_plan_words, .int t_plan_columnSets, .ref h_t_plan_wrongBits, .int t_plan_solved, .int t_plan_bestRows, .int t_plan_bestColumns])), (h_t_tester_failures, .inr (2, [.ref h_t_tester_failures_parts, .int t_tester_failures_count])), (h_t_tester_failures_parts, .inl (cI, n_t_tester_failures_parts, .inl t_tester_failures_parts_a)), (h_t_plan_wrongBits, .inl (cI, n_t_plan_wrongBits, .inl t_plan_wrongBits_a))] H := hP.sub [0, 1, 2, 3, 4, 5] rfl
  have hD : va_D A [(h_t, .inr (0, [v_t_words, v_t_cells, v_t_tape, v_t_reader, v_t_faults, v_t_single, .ref h_t_tester, .ref h_t_plan, v_t_march, v_t_draft])), (h_t_tester, .inr (8, [.ref h_t_tester_failures, v_t_tester_ports, v_t_tester_groundKind, v_t_tester_words, v_t_tester_allBits, v_t_tester_memory, v_t_tester_scrambled, v_t_tester_wordAt, v_t_tester_zeroOf])), (h_t_plan, .inr (6, [v_t_plan_fuses, .int t_plan_proven, .int t_plan_words, .int t_plan_columnSets, .ref h_t_plan_wrongBits, .int t_plan_solved, .int t_plan_bestRows, .int t_plan_bestColumns])), (h_t_tester_failures, .inr (2, [.ref h_t_tester_failures_parts, .int t_tester_failures_count])), (h_t_tester_failures_parts, .inl (cI, n_t_tester_failures_parts, .inl t_tester_failures_parts_a)), (h_t_plan_wrongBits, .inl (cI, n_t_plan_wrongBits, .inl t_plan_wrongBits_a))] := hD.sub [0, 1, 2, 3, 4, 5] (by decide) rfl
  refine lv_if_eq (tgt := 14) hx hb d_MT_repair_4 (by decide) (fun cc4 => ?_) (fun cc4 => ?_)
  · have hf := ifT cc4 hf
    exact absurd hf (by simp)
  · have hf := ifF cc4 hf
    refine lv_iload_n hx hb d_MT_repair_7 rfl (lv_at hl 2 rfl) ?_
    obtain ⟨q8_2, hc, hf⟩ := bindS hf
    refine mcS (n := 1) (As := [.int a2]) (rest := []) (wr := [(h_t, .inr (0, [v_t_words, v_t_cells, v_t_tape, v_t_reader, v_t_faults, v_t_single, .ref h_t_tester, .ref h_t_plan, v_t_march, v_t_draft])), (h_t_tester, .inr (8, [.ref h_t_tester_failures, v_t_tester_ports, v_t_tester_groundKind, v_t_tester_words, v_t_tester_allBits, v_t_tester_memory, v_t_tester_scrambled, v_t_tester_wordAt, v_t_tester_zeroOf])), (h_t_plan, .inr (6, [v_t_plan_fuses, .int t_plan_proven, .int t_plan_words, .int t_plan_columnSets, .ref h_t_plan_wrongBits, .int t_plan_solved, .int t_plan_bestRows, .int t_plan_bestColumns])), (h_t_tester_failures, .inr (2, [.ref h_t_tester_failures_parts, .int t_tester_failures_count])), (h_t_tester_failures_parts, .inl (cI, n_t_tester_failures_parts, .inl t_tester_failures_parts_a)), (h_t_plan_wrongBits, .inl (cI, n_t_plan_wrongBits, .inl t_plan_wrongBits_a))]) hx hb hml hown hts hK (c_MT_isSpareCount (l := l) (D := D) (cI := cI) (cB := cB) (cJ := cJ) (a1 := a2) (sz := H.size) (res := q8_2) (hf := hc)) w_345 w_346 w_187 w_347 (by decide +kernel) rfl rfl ⟨Nat.le_of_ble_eq_true rfl, Nat.le_of_ble_eq_true rfl⟩ hP hD hS hA [] [0, 1, 2, 3, 4, 5] rfl rfl (by decide) (by decide) (by decide) hl.1 rfl rfl (lv_room (Nat.le_of_ble_eq_true rfl)) d_MT_repair_8 ⟨Nat.le_of_ble_eq_true rfl, Nat.le_of_ble_eq_true rfl⟩ (fun o ws' H locs hp hP hD hS => ?_)
    obtain ⟨rfl, rfl⟩ := hp
    have hP : va_P D classes [(h_t, .inr (0, [v_t_words, v_t_cells, v_t_tape, v_t_reader, v_t_faults, v_t_single, .ref h_t_tester, .ref h_t_plan, v_t_march, v_t_draft])), (h_t_tester, .inr (8, [.ref h_t_tester_failures, v_t_tester_ports, v_t_tester_groundKind, v_t_tester_words, v_t_tester_allBits, v_t_tester_memory, v_t_tester_scrambled, v_t_tester_wordAt, v_t_tester_zeroOf])), (h_t_plan, .inr (6, [v_t_plan_fuses, .int t_plan_proven, .int t_plan_words, .int t_plan_columnSets, .ref h_t_plan_wrongBits, .int t_plan_solved, .int t_plan_bestRows, .int t_plan_bestColumns])), (h_t_tester_failures, .inr (2, [.ref h_t_tester_failures_parts, .int t_tester_failures_count])), (h_t_tester_failures_parts, .inl (cI, n_t_tester_failures_parts, .inl t_tester_failures_parts_a)), (h_t_plan_wrongBits, .inl (cI, n_t_plan_wrongBits, .inl t_plan_wrongBits_a))] H := hP.sub [0, 1, 2, 3, 4, 5] rfl
    have hD : va_D A [(h_t, .inr (0, [v_t_words, v_t_cells, v_t_tape, v_t_reader, v_t_faults, v_t_single, .ref h_t_tester, .ref h_t_plan, v_t_march, v_t_draft])), (h_t_tester, .inr (8, [.ref h_t_tester_failures, v_t_tester_ports, v_t_tester_groundKind, v_t_tester_words, v_t_tester_allBits, v_t_tester_memory, v_t_tester_scrambled, v_t_tester_wordAt, v_t_tester_zeroOf])), (h_t_plan, .inr (6, [v_t_plan_fuses, .int t_plan_proven, .int t_plan_words, .int t_plan_columnSets, .ref h_t_plan_wrongBits, .int t_plan_solved, .int t_plan_bestRows, .int t_plan_bestColumns])), (h_t_tester_failures, .inr (2, [.ref h_t_tester_failures_parts, .int t_tester_failures_count])), (h_t_tester_failures_parts, .inl (cI, n_t_tester_failures_parts, .inl t_tester_failures_parts_a)), (h_t_plan_wrongBits, .inl (cI, n_t_plan_wrongBits, .inl t_plan_wrongBits_a))] := hD.sub [0, 1, 2, 3, 4, 5] (by decide) rfl
    refine lv_if_ne (tgt := 24) hx hb d_MT_repair_11 (by decide) (fun cc11 => ?_) (fun cc11 => ?_)
    · have hf := ifF cc11 hf
      refine lv_lload_n hx hb d_MT_repair_24 rfl (lv_at hl 3 rfl) ?_
      refine lv_lconst (v := 0) hx hb d_MT_repair_25 (by decide) ?_
      refine W.lcmp hx hb d_MT_repair_26 ?_
      refine lv_if_ge (tgt := 40) hx hb d_MT_repair_27 (by decide) (fun cc27 => ?_) (fun cc27 => ?_)
      · have hf := ifT cc27 hf
        refine lv_aload_n hx hb d_MT_repair_40 rfl (lv_at hl 0 rfl) ?_
        refine va_get (D := D) (ci := 0) (v := .ref h_t_plan) (C := R_MT) (T := F_MT) (N := 10) hx hb hts i_MT hown hK.1 hP 0 rfl rfl 7 (by decide) (hts _ w_104) (fun _ h9 => h9) rfl d_MT_repair_41 ?_
        refine lv_aload_n hx hb d_MT_repair_44 rfl (lv_at hl 0 rfl) ?_
        refine va_get (D := D) (ci := 0) (v := .ref h_t_tester) (C := R_MT) (T := F_MT) (N := 10) hx hb hts i_MT hown hK.1 hP 0 rfl rfl 6 (by decide) (hts _ w_97) (fun _ h9 => h9) rfl d_MT_repair_45 ?_
        refine va_get (D := D) (ci := 8) (v := .ref h_t_tester_failures) (C := R_Tester) (T := F_Tester) (N := 9) hx hb hts i_Tester hown hK.1 hP 1 rfl rfl 0 (by decide) (hts _ w_292) (fun _ h9 => h9) rfl d_MT_repair_48 ?_
        refine lv_iload_n hx hb d_MT_repair_51 rfl (lv_at hl 1 rfl) ?_
        refine lv_iload_n hx hb d_MT_repair_52 rfl (lv_at hl 2 rfl) ?_
        refine lv_lload_n hx hb d_MT_repair_53 rfl (lv_at hl 3 rfl) ?_
        obtain ⟨q54_3, hc, hf⟩ := bindS hf
        refine mcV (n := 4) (As := [.ref h_t_tester_failures, .int a1, .int a2, .long a3]) (rest := []) (wr := [(h_t, .inr (0, [v_t_words, v_t_cells, v_t_tape, v_t_reader, v_t_faults, v_t_single, .ref h_t_tester, .ref h_t_plan, v_t_march, v_t_draft])), (h_t_tester, .inr (8, [.ref h_t_tester_failures, v_t_tester_ports, v_t_tester_groundKind, v_t_tester_words, v_t_tester_allBits, v_t_tester_memory, v_t_tester_scrambled, v_t_tester_wordAt, v_t_tester_zeroOf]))]) hx hb hml hown hts hK (c_RepairPlan_make (l := l) (D := D) (cI := cI) (cB := cB) (cJ := cJ) (h_t := h_t_plan) (h_a1 := h_t_tester_failures) (h_t_wrongBits := h_t_plan_wrongBits) (h_a1_parts := h_t_tester_failures_parts) (v_t_fuses := v_t_plan_fuses) (n_a1_parts := n_t_tester_failures_parts) (n_t_wrongBits := n_t_plan_wrongBits) (t_proven := t_plan_proven) (t_words := t_plan_words) (t_columnSets := t_plan_columnSets) (t_solved := t_plan_solved) (t_bestRows := t_plan_bestRows) (t_bestColumns := t_plan_bestColumns) (a1_count := t_tester_failures_count) (a1_parts_a := t_tester_failures_parts_a) (t_wrongBits_a := t_plan_wrongBits_a) (a2 := a1) (a3 := a2) (a4 := a3) (sz := H.size) (res := q54_3) (hf := hc)) w_348 w_349 w_350 w_100 w_351 (by decide +kernel) rfl rfl ⟨Nat.le_of_ble_eq_true rfl, Nat.le_of_ble_eq_true rfl⟩ hP hD hS hA [2, 3, 4, 5] [0, 1] rfl rfl (by decide) (by decide) (by decide) (ci := 6) 0 rfl rfl hl.1 rfl rfl (lv_room (Nat.le_of_ble_eq_true rfl)) d_MT_repair_54 ⟨Nat.le_of_ble_eq_true rfl, Nat.le_of_ble_eq_true rfl⟩ (fun o ws' H locs hp hP hD hS => ?_)
        obtain ⟨rfl, rfl⟩ := hp
        have hP : va_P D classes [(h_t, .inr (0, [v_t_words, v_t_cells, v_t_tape, v_t_reader, v_t_faults, v_t_single, .ref h_t_tester, .ref h_t_plan, v_t_march, v_t_draft])), (h_t_tester, .inr (8, [.ref h_t_tester_failures, v_t_tester_ports, v_t_tester_groundKind, v_t_tester_words, v_t_tester_allBits, v_t_tester_memory, v_t_tester_scrambled, v_t_tester_wordAt, v_t_tester_zeroOf])), (h_t_plan, .inr (6, [v_t_plan_fuses, .int q54_3.2.1, .int t_plan_words, .int t_plan_columnSets, .ref h_t_plan_wrongBits, .int q54_3.2.2.1, .int q54_3.2.2.2.1, .int q54_3.2.2.2.2.1])), (h_t_tester_failures, .inr (2, [.ref h_t_tester_failures_parts, .int t_tester_failures_count])), (h_t_tester_failures_parts, .inl (cI, n_t_tester_failures_parts, .inl t_tester_failures_parts_a)), (h_t_plan_wrongBits, .inl (cI, n_t_plan_wrongBits, .inl q54_3.2.2.2.2.2))] H := hP.sub [0, 1, 2, 3, 4, 5] rfl
        have hD : va_D A [(h_t, .inr (0, [v_t_words, v_t_cells, v_t_tape, v_t_reader, v_t_faults, v_t_single, .ref h_t_tester, .ref h_t_plan, v_t_march, v_t_draft])), (h_t_tester, .inr (8, [.ref h_t_tester_failures, v_t_tester_ports, v_t_tester_groundKind, v_t_tester_words, v_t_tester_allBits, v_t_tester_memory, v_t_tester_scrambled, v_t_tester_wordAt, v_t_tester_zeroOf])), (h_t_plan, .inr (6, [v_t_plan_fuses, .int q54_3.2.1, .int t_plan_words, .int t_plan_columnSets, .ref h_t_plan_wrongBits, .int q54_3.2.2.1, .int q54_3.2.2.2.1, .int q54_3.2.2.2.2.1])), (h_t_tester_failures, .inr (2, [.ref h_t_tester_failures_parts, .int t_tester_failures_count])), (h_t_tester_failures_parts, .inl (cI, n_t_tester_failures_parts, .inl t_tester_failures_parts_a)), (h_t_plan_wrongBits, .inl (cI, n_t_plan_wrongBits, .inl q54_3.2.2.2.2.2))] := hD.sub [0, 1, 2, 3, 4, 5] (by decide) rfl
        obtain rfl := Sum.inl.inj (Option.some.inj hf)
        exact ret_i hx hb hr hlocks hP hD hS ⟨rfl, rfl⟩ d_MT_repair_57
      · have hf := ifF cc27 hf
        exact absurd hf (by simp)
    · have hf := ifT cc11 hf
      exact absurd hf (by simp)
def f_RepairPlan_isBlown (t_words : Int32) (t_bestRows : Int32) (t_bestColumns : Int32) (a1 : Int32) : Option (Int32) :=
  (if (((t_bestRows ||| (t_bestColumns <<< (t_words &&& 31))) >>> (a1 &&& 31)) &&& 1) = 0 then
    some 0
  else
    some 1)
def post_RepairPlan_isBlown (h_t : Nat) (v_t_fuses v_t_proven v_t_columnSets v_t_wrongBits v_t_solved : Value) (t_words : Int32) (t_bestRows : Int32) (t_bestColumns : Int32) (cI cB cJ : ClassId) (res : Int32) : Option Value → va_W → Prop := fun o ws' => o = some (.int res) ∧ ws' = [(h_t, .inr (6, [v_t_fuses, v_t_proven, .int t_words, v_t_columnSets, v_t_wrongBits, v_t_solved, .int t_bestRows, .int t_bestColumns]))]
abbrev rm_RepairPlan_isBlown : Room := { frames := 0, cells := 0, slots := 0, locals := 0 }
set_option maxHeartbeats 4000000 in
set_option maxRecDepth 100000 in
theorem c_RepairPlan_isBlown (l : Launch) (D : va_G) (cI cB cJ : ClassId) (h_t : Nat) (v_t_fuses v_t_proven v_t_columnSets v_t_wrongBits v_t_solved : Value) (t_words : Int32) (t_bestRows : Int32) (t_bestColumns : Int32) (a1 : Int32) (sz : Nat) (res : Int32) (hf : f_RepairPlan_isBlown t_words t_bestRows t_bestColumns a1 = some res) : Met l y_RepairPlan_isBlown (.code y_RepairPlan_isBlown b_RepairPlan_isBlown 3 (some .boolean) :: TB) rm_RepairPlan_isBlown (PcW D [(cI, .int), (cB, .byte), (cJ, .long)] [.ref h_t, .int a1] [(h_t, .inr (6, [v_t_fuses, v_t_proven, .int t_words, v_t_columnSets, v_t_wrongBits, v_t_solved, .int t_bestRows, .int t_bestColumns]))] sz) (QW D (post_RepairPlan_isBlown h_t v_t_fuses v_t_proven v_t_columnSets v_t_wrongBits v_t_solved t_words t_bestRows t_bestColumns cI cB cJ res) (va_A [(h_t, .inr (6, [v_t_fuses, v_t_proven, .int t_words, v_t_columnSets, v_t_wrongBits, v_t_solved, .int t_bestRows, .int t_bestColumns]))] sz)) 0 0 (va_A [(h_t, .inr (6, [v_t_fuses, v_t_proven, .int t_words, v_t_columnSets, v_t_wrongBits, v_t_solved, .int t_bestRows, .int t_bestColumns]))] sz) := by
  refine entW ⟨by decide +kernel, rfl⟩ fun p e s m below meth c C0 hP hD hsz ls hl => ?_
  subst hsz
  generalize hAe : va_A [(h_t, .inr (6, [v_t_fuses, v_t_proven, .int t_words, v_t_columnSets, v_t_wrongBits, v_t_solved, .int t_bestRows, .int t_bestColumns]))] s.heap.size = A at hD ⊢
  have hA : ∀ q : Nat, s.heap.size ≤ q → A q := fun q h => by rw [← hAe]; exact Or.inr h
  clear hAe
  have hS : va_S A s.heap s.heap [] := va_S.rf
  have hl : lv_has ls 3 [(0, .ref h_t), (1, .int a1)] := hl
  obtain ⟨hx, hb, hml, hr, hlocks, hts, hown, hK, hin⟩ := id C0
  have hf : (((
  (if (((t_bestRows ||| (t_bestColumns <<< (t_words &&& 31))) >>> (a1 &&& 31)) &&& 1) = 0 then
    some 0
  else
    some 1))) : Option (Int32)) = some res := hf
  obtain ⟨H, hH⟩ : ∃ H, H = s.heap := ⟨_, rfl⟩
  obtain ⟨locs, hlo⟩ : ∃ x : List Loc, x = [] := ⟨_, rfl⟩
  rw [← hlo] at hS ⊢
  have hP : va_P D classes [(h_t, .inr (6, [v_t_fuses, v_t_proven, .int t_words, v_t_columnSets, v_t_wrongBits, v_t_solved, .int t_bestRows, .int t_bestColumns]))] H := by rw [hH]; exact hP
  have hS : va_S A s.heap H locs := by rw [hH]; exact hS
  show W p l e rm_RepairPlan_isBlown s m _ below meth c s.heap locs 0 0 (MQ below (QW D (post_RepairPlan_isBlown h_t v_t_fuses v_t_proven v_t_columnSets v_t_wrongBits v_t_solved t_words t_bestRows t_bestColumns cI cB cJ res) A) _ s 0 0 A) (F0 m 0 ls [])
  refine wheap hH ?_
  clear hH hlo
  refine lv_aload_n hx hb d_RepairPlan_isBlown_0 rfl (lv_at hl 0 rfl) ?_
  refine va_get (D := D) (ci := 6) (v := .int t_bestRows) (C := R_RepairPlan) (T := F_RepairPlan) (N := 8) hx hb hts i_RepairPlan hown hK.1 hP 0 rfl rfl 6 (by decide) (hts _ w_330) (fun _ h9 => h9) rfl d_RepairPlan_isBlown_1 ?_
  refine lv_aload_n hx hb d_RepairPlan_isBlown_4 rfl (lv_at hl 0 rfl) ?_
  refine va_get (D := D) (ci := 6) (v := .int t_bestColumns) (C := R_RepairPlan) (T := F_RepairPlan) (N := 8) hx hb hts i_RepairPlan hown hK.1 hP 0 rfl rfl 7 (by decide) (hts _ w_331) (fun _ h9 => h9) rfl d_RepairPlan_isBlown_5 ?_
  refine lv_aload_n hx hb d_RepairPlan_isBlown_8 rfl (lv_at hl 0 rfl) ?_
  refine va_get (D := D) (ci := 6) (v := .int t_words) (C := R_RepairPlan) (T := F_RepairPlan) (N := 8) hx hb hts i_RepairPlan hown hK.1 hP 0 rfl rfl 2 (by decide) (hts _ w_59) (fun _ h9 => h9) rfl d_RepairPlan_isBlown_9 ?_
  refine lv_ishl hx hb d_RepairPlan_isBlown_12 ?_
  refine lv_ior hx hb d_RepairPlan_isBlown_13 ?_
  refine lv_istore_n (lv' := [(2, .int (t_bestRows ||| (t_bestColumns <<< (t_words &&& 31)))), (0, .ref h_t), (1, .int a1)]) hx hb d_RepairPlan_isBlown_14 rfl hl (by decide) rfl (fun ls hl => ?_)
  refine lv_iload_n hx hb d_RepairPlan_isBlown_15 rfl (lv_at hl 0 rfl) ?_
  refine lv_iload_n hx hb d_RepairPlan_isBlown_16 rfl (lv_at hl 2 rfl) ?_
  refine lv_ishr hx hb d_RepairPlan_isBlown_17 ?_
  refine lv_iconst (v := 1) hx hb d_RepairPlan_isBlown_18 (by decide) ?_
  refine lv_iand hx hb d_RepairPlan_isBlown_19 ?_
  refine lv_if_eq (tgt := 27) hx hb d_RepairPlan_isBlown_20 (by decide) (fun cc20 => ?_) (fun cc20 => ?_)
  · have hf := ifT cc20 hf
    refine lv_iconst (v := 0) hx hb d_RepairPlan_isBlown_27 (by decide) ?_
    obtain rfl := Option.some.inj hf
    exact ret_z hx hb hr rfl hlocks hP hD hS ⟨rfl, rfl⟩ d_RepairPlan_isBlown_28
  · have hf := ifF cc20 hf
    refine lv_iconst (v := 1) hx hb d_RepairPlan_isBlown_23 (by decide) ?_
    refine lv_goto (tgt := 28) hx hb d_RepairPlan_isBlown_24 (by decide) ?_
    obtain rfl := Option.some.inj hf
    exact ret_z hx hb hr rfl hlocks hP hD hS ⟨rfl, rfl⟩ d_RepairPlan_isBlown_28
def g_RepairPlan_fuseOfSpare_4 (t_fuses : Int32) (t_words : Int32) (t_bestRows : Int32) (t_bestColumns : Int32) (x1 : Int32) (rec4 : (Int32 × Int32) → Option (Int32)) (st : (Int32 × Int32)) : Option (Int32) :=
  (if t_fuses ≤ st.2 then
    some (-1)
  else
    (Option.bind (f_RepairPlan_isBlown t_words t_bestRows t_bestColumns st.2) fun q14_1 =>
    (if q14_1 = 0 then
      (rec4 (st.1, (st.2 + 1)))
    else
      (if st.1 = x1 then
        some st.2
      else
        (rec4 ((st.1 + 1), (st.2 + 1)))))))
def f_RepairPlan_fuseOfSpare (t_fuses : Int32) (t_words : Int32) (t_bestRows : Int32) (t_bestColumns : Int32) (a1 : Int32) : Option (Int32) :=
  (lp (g_RepairPlan_fuseOfSpare_4 t_fuses t_words t_bestRows t_bestColumns a1) 100000 (0, 0))
def post_RepairPlan_fuseOfSpare (h_t : Nat) (v_t_proven v_t_columnSets v_t_wrongBits v_t_solved : Value) (t_fuses : Int32) (t_words : Int32) (t_bestRows : Int32) (t_bestColumns : Int32) (cI cB cJ : ClassId) (res : Int32) : Option Value → va_W → Prop := fun o ws' => o = some (.int res) ∧ ws' = [(h_t, .inr (6, [.int t_fuses, v_t_proven, .int t_words, v_t_columnSets, v_t_wrongBits, v_t_solved, .int t_bestRows, .int t_bestColumns]))]
abbrev rm_RepairPlan_fuseOfSpare : Room := { frames := 1, cells := 0, slots := 0, locals := 22 }
set_option maxHeartbeats 4000000 in
set_option maxRecDepth 100000 in
theorem kb_RepairPlan_fuseOfSpare_4 {p : Program} {l : Launch} {e : Env} {s : State} {m : MethodId} {args : Array Value} {below : List Frame} {meth : Method} {c : Code} {D : va_G} {cI cB cJ : ClassId} {A : Nat → Prop} (C0 : CX p s m args meth c D [(cI, .int), (cB, .byte), (cJ, .long)] R_RepairPlan b_RepairPlan_fuseOfSpare 4 (some .int) "fuseOfSpare") (hA : ∀ q, s.heap.size ≤ q → A q) {h_t : Nat} {v_t_proven v_t_columnSets v_t_wrongBits v_t_solved : Value} {res : Int32} {rec4 : (Int32 × Int32) → Option (Int32)} {t_fuses : Int32} {t_words : Int32} {t_bestRows : Int32} {t_bestColumns : Int32} {x1 : Int32} {x2 : Int32} {x3 : Int32}
    (hrec4 : ∀ (st : (Int32 × Int32)), rec4 st = some res → ∀  (H : Heap) (locs : List Loc) (ls : Array Slot), va_P D classes [(h_t, .inr (6, [.int t_fuses, v_t_proven, .int t_words, v_t_columnSets, v_t_wrongBits, v_t_solved, .int t_bestRows, .int t_bestColumns]))] H → va_D A [(h_t, .inr (6, [.int t_fuses, v_t_proven, .int t_words, v_t_columnSets, v_t_wrongBits, v_t_solved, .int t_bestRows, .int t_bestColumns]))] → va_S A s.heap H locs → lv_has ls 4 [(0, .ref h_t), (1, .int x1), (2, .int st.1), (3, .int st.2)] → W p l e rm_RepairPlan_fuseOfSpare s m args below meth c H locs 0 0 (MQ below (QW D (post_RepairPlan_fuseOfSpare h_t v_t_proven v_t_columnSets v_t_wrongBits v_t_solved t_fuses t_words t_bestRows t_bestColumns cI cB cJ res) A) args s 0 0 A) (F0 m 4 ls []))
    (hf : g_RepairPlan_fuseOfSpare_4 t_fuses t_words t_bestRows t_bestColumns x1 rec4 (x2, x3) = some res) {H : Heap} {locs : List Loc} {ls : Array Slot} (hP : va_P D classes [(h_t, .inr (6, [.int t_fuses, v_t_proven, .int t_words, v_t_columnSets, v_t_wrongBits, v_t_solved, .int t_bestRows, .int t_bestColumns]))] H) (hD : va_D A [(h_t, .inr (6, [.int t_fuses, v_t_proven, .int t_words, v_t_columnSets, v_t_wrongBits, v_t_solved, .int t_bestRows, .int t_bestColumns]))]) (hS : va_S A s.heap H locs) (hl : lv_has ls 4 [(0, .ref h_t), (1, .int x1), (2, .int x2), (3, .int x3)]) : W p l e rm_RepairPlan_fuseOfSpare s m args below meth c H locs 0 0 (MQ below (QW D (post_RepairPlan_fuseOfSpare h_t v_t_proven v_t_columnSets v_t_wrongBits v_t_solved t_fuses t_words t_bestRows t_bestColumns cI cB cJ res) A) args s 0 0 A) (F0 m 4 ls []) := by
  obtain ⟨hx, hb, hml, hr, hlocks, hts, hown, hK, hin⟩ := id C0
  have hf : (((
  (if t_fuses ≤ x3 then
    some (-1)
  else
    (Option.bind (f_RepairPlan_isBlown t_words t_bestRows t_bestColumns x3) fun q14_1 =>
    (if q14_1 = 0 then
      (rec4 (x2, (x3 + 1)))
    else
      (if x2 = x1 then
        some x3
      else
        (rec4 ((x2 + 1), (x3 + 1))))))))) : Option (Int32)) = some res := hf
  refine lv_iload_n hx hb d_RepairPlan_fuseOfSpare_4 rfl (lv_at hl 3 rfl) ?_
  refine lv_aload_n hx hb d_RepairPlan_fuseOfSpare_5 rfl (lv_at hl 0 rfl) ?_
  refine va_get (D := D) (ci := 6) (v := .int t_fuses) (C := R_RepairPlan) (T := F_RepairPlan) (N := 8) hx hb hts i_RepairPlan hown hK.1 hP 0 rfl rfl 0 (by decide) (hts _ w_60) (fun _ h9 => h9) rfl d_RepairPlan_fuseOfSpare_6 ?_
  refine lv_icmp_ge (tgt := 36) hx hb d_RepairPlan_fuseOfSpare_9 (by decide) (fun cc9 => ?_) (fun cc9 => ?_)
  · have hf := ifT cc9 hf
    refine lv_iconst (v := (-1)) hx hb d_RepairPlan_fuseOfSpare_36 (by decide) ?_
    obtain rfl := Option.some.inj hf
    exact ret_i hx hb hr hlocks hP hD hS ⟨rfl, rfl⟩ d_RepairPlan_fuseOfSpare_37
  · have hf := ifF cc9 hf
    refine lv_aload_n hx hb d_RepairPlan_fuseOfSpare_12 rfl (lv_at hl 0 rfl) ?_
    refine lv_iload_n hx hb d_RepairPlan_fuseOfSpare_13 rfl (lv_at hl 3 rfl) ?_
    obtain ⟨q14_1, hc, hf⟩ := bindS hf
    refine mcV (n := 1) (As := [.int x3]) (rest := []) (wr := []) hx hb hml hown hts hK (c_RepairPlan_isBlown (l := l) (D := D) (cI := cI) (cB := cB) (cJ := cJ) (h_t := h_t) (v_t_fuses := (.int t_fuses)) (v_t_proven := v_t_proven) (v_t_columnSets := v_t_columnSets) (v_t_wrongBits := v_t_wrongBits) (v_t_solved := v_t_solved) (t_words := t_words) (t_bestRows := t_bestRows) (t_bestColumns := t_bestColumns) (a1 := x3) (sz := H.size) (res := q14_1) (hf := hc)) w_352 w_353 w_354 w_100 w_355 (by decide +kernel) rfl rfl ⟨Nat.le_of_ble_eq_true rfl, Nat.le_of_ble_eq_true rfl⟩ hP hD hS hA [0] [] rfl rfl (by decide) (by decide) (by decide) (ci := 6) 0 rfl rfl hl.1 rfl rfl (lv_room (Nat.le_of_ble_eq_true rfl)) d_RepairPlan_fuseOfSpare_14 ⟨Nat.le_of_ble_eq_true rfl, Nat.le_of_ble_eq_true rfl⟩ (fun o ws' H locs hp hP hD hS => ?_)
    obtain ⟨rfl, rfl⟩ := hp
    have hP : va_P D classes [(h_t, .inr (6, [.int t_fuses, v_t_proven, .int t_words, v_t_columnSets, v_t_wrongBits, v_t_solved, .int t_bestRows, .int t_bestColumns]))] H := hP.sub [0] rfl
    have hD : va_D A [(h_t, .inr (6, [.int t_fuses, v_t_proven, .int t_words, v_t_columnSets, v_t_wrongBits, v_t_solved, .int t_bestRows, .int t_bestColumns]))] := hD.sub [0] (by decide) rfl
    refine lv_if_eq (tgt := 30) hx hb d_RepairPlan_fuseOfSpare_17 (by decide) (fun cc17 => ?_) (fun cc17 => ?_)
    · have hf := ifT cc17 hf
      refine lv_iinc (v := (x3 + 1)) (lv' := [(3, .int (x3 + 1)), (0, .ref h_t), (1, .int x1), (2, .int x2)]) hx hb d_RepairPlan_fuseOfSpare_30 hl (k := 3) rfl rfl (by decide) rfl (fun ls hl => ?_)
      refine lv_goto (tgt := 4) hx hb d_RepairPlan_fuseOfSpare_33 (by decide) ?_
      exact hrec4 (x2, (x3 + 1)) hf  H locs ls hP hD hS (lv_sub hl [1, 2, 3, 0] rfl)
    · have hf := ifF cc17 hf
      refine lv_iload_n hx hb d_RepairPlan_fuseOfSpare_20 rfl (lv_at hl 2 rfl) ?_
      refine lv_iload_n hx hb d_RepairPlan_fuseOfSpare_21 rfl (lv_at hl 1 rfl) ?_
      refine lv_icmp_ne (tgt := 27) hx hb d_RepairPlan_fuseOfSpare_22 (by decide) (fun cc22 => ?_) (fun cc22 => ?_)
      · have hf := ifF cc22 hf
        refine lv_iinc (v := (x2 + 1)) (lv' := [(2, .int (x2 + 1)), (0, .ref h_t), (1, .int x1), (3, .int x3)]) hx hb d_RepairPlan_fuseOfSpare_27 hl (k := 2) rfl rfl (by decide) rfl (fun ls hl => ?_)
        refine lv_iinc (v := (x3 + 1)) (lv' := [(3, .int (x3 + 1)), (2, .int (x2 + 1)), (0, .ref h_t), (1, .int x1)]) hx hb d_RepairPlan_fuseOfSpare_30 hl (k := 3) rfl rfl (by decide) rfl (fun ls hl => ?_)
        refine lv_goto (tgt := 4) hx hb d_RepairPlan_fuseOfSpare_33 (by decide) ?_
        exact hrec4 ((x2 + 1), (x3 + 1)) hf  H locs ls hP hD hS (lv_sub hl [2, 3, 1, 0] rfl)
      · have hf := ifT cc22 hf
        refine lv_iload_n hx hb d_RepairPlan_fuseOfSpare_25 rfl (lv_at hl 3 rfl) ?_
        obtain rfl := Option.some.inj hf
        exact ret_i hx hb hr hlocks hP hD hS ⟨rfl, rfl⟩ d_RepairPlan_fuseOfSpare_26
set_option maxHeartbeats 4000000 in
set_option maxRecDepth 100000 in
theorem k_RepairPlan_fuseOfSpare_4 {p : Program} {l : Launch} {e : Env} {s : State} {m : MethodId} {args : Array Value} {below : List Frame} {meth : Method} {c : Code} {D : va_G} {cI cB cJ : ClassId} {A : Nat → Prop} (C0 : CX p s m args meth c D [(cI, .int), (cB, .byte), (cJ, .long)] R_RepairPlan b_RepairPlan_fuseOfSpare 4 (some .int) "fuseOfSpare") (hA : ∀ q, s.heap.size ≤ q → A q) {h_t : Nat} {v_t_proven v_t_columnSets v_t_wrongBits v_t_solved : Value} {res : Int32} {t_fuses : Int32} {t_words : Int32} {t_bestRows : Int32} {t_bestColumns : Int32} {x1 : Int32}
    : ∀ (n : Nat) (st : (Int32 × Int32)), lp (g_RepairPlan_fuseOfSpare_4 t_fuses t_words t_bestRows t_bestColumns x1) n st = some res → ∀  (H : Heap) (locs : List Loc) (ls : Array Slot), va_P D classes [(h_t, .inr (6, [.int t_fuses, v_t_proven, .int t_words, v_t_columnSets, v_t_wrongBits, v_t_solved, .int t_bestRows, .int t_bestColumns]))] H → va_D A [(h_t, .inr (6, [.int t_fuses, v_t_proven, .int t_words, v_t_columnSets, v_t_wrongBits, v_t_solved, .int t_bestRows, .int t_bestColumns]))] → va_S A s.heap H locs → lv_has ls 4 [(0, .ref h_t), (1, .int x1), (2, .int st.1), (3, .int st.2)] → W p l e rm_RepairPlan_fuseOfSpare s m args below meth c H locs 0 0 (MQ below (QW D (post_RepairPlan_fuseOfSpare h_t v_t_proven v_t_columnSets v_t_wrongBits v_t_solved t_fuses t_words t_bestRows t_bestColumns cI cB cJ res) A) args s 0 0 A) (F0 m 4 ls []) := by
  intro n
  induction n with
  | zero => intro st hf; exact absurd hf (by simp [lp])
  | succ n ih =>
    intro st hf  H locs ls hP hD hS hl
    exact kb_RepairPlan_fuseOfSpare_4 C0 hA (rec4 := lp (g_RepairPlan_fuseOfSpare_4 t_fuses t_words t_bestRows t_bestColumns x1) n) (x2 := st.1) (x3 := st.2)  (fun st hf  H locs ls hP hD hS hl => ih st hf  H locs ls hP hD hS hl) hf hP hD hS hl
set_option maxHeartbeats 4000000 in
set_option maxRecDepth 100000 in
theorem c_RepairPlan_fuseOfSpare (l : Launch) (D : va_G) (cI cB cJ : ClassId) (h_t : Nat) (v_t_proven v_t_columnSets v_t_wrongBits v_t_solved : Value) (t_fuses : Int32) (t_words : Int32) (t_bestRows : Int32) (t_bestColumns : Int32) (a1 : Int32) (sz : Nat) (res : Int32) (hf : f_RepairPlan_fuseOfSpare t_fuses t_words t_bestRows t_bestColumns a1 = some res) : Met l y_RepairPlan_fuseOfSpare (.code y_RepairPlan_fuseOfSpare b_RepairPlan_fuseOfSpare 4 (some .int) :: TB) rm_RepairPlan_fuseOfSpare (PcW D [(cI, .int), (cB, .byte), (cJ, .long)] [.ref h_t, .int a1] [(h_t, .inr (6, [.int t_fuses, v_t_proven, .int t_words, v_t_columnSets, v_t_wrongBits, v_t_solved, .int t_bestRows, .int t_bestColumns]))] sz) (QW D (post_RepairPlan_fuseOfSpare h_t v_t_proven v_t_columnSets v_t_wrongBits v_t_solved t_fuses t_words t_bestRows t_bestColumns cI cB cJ res) (va_A [(h_t, .inr (6, [.int t_fuses, v_t_proven, .int t_words, v_t_columnSets, v_t_wrongBits, v_t_solved, .int t_bestRows, .int t_bestColumns]))] sz)) 0 0 (va_A [(h_t, .inr (6, [.int t_fuses, v_t_proven, .int t_words, v_t_columnSets, v_t_wrongBits, v_t_solved, .int t_bestRows, .int t_bestColumns]))] sz) := by
  refine entW ⟨by decide +kernel, rfl⟩ fun p e s m below meth c C0 hP hD hsz ls hl => ?_
  subst hsz
  generalize hAe : va_A [(h_t, .inr (6, [.int t_fuses, v_t_proven, .int t_words, v_t_columnSets, v_t_wrongBits, v_t_solved, .int t_bestRows, .int t_bestColumns]))] s.heap.size = A at hD ⊢
  have hA : ∀ q : Nat, s.heap.size ≤ q → A q := fun q h => by rw [← hAe]; exact Or.inr h
  clear hAe
  have hS : va_S A s.heap s.heap [] := va_S.rf
  have hl : lv_has ls 4 [(0, .ref h_t), (1, .int a1)] := hl
  obtain ⟨hx, hb, hml, hr, hlocks, hts, hown, hK, hin⟩ := id C0
  have hf : (((
  (lp (g_RepairPlan_fuseOfSpare_4 t_fuses t_words t_bestRows t_bestColumns a1) 100000 (0, 0)))) : Option (Int32)) = some res := hf
  obtain ⟨H, hH⟩ : ∃ H, H = s.heap := ⟨_, rfl⟩
  obtain ⟨locs, hlo⟩ : ∃ x : List Loc, x = [] := ⟨_, rfl⟩
  rw [← hlo] at hS ⊢
  have hP : va_P D classes [(h_t, .inr (6, [.int t_fuses, v_t_proven, .int t_words, v_t_columnSets, v_t_wrongBits, v_t_solved, .int t_bestRows, .int t_bestColumns]))] H := by rw [hH]; exact hP
  have hS : va_S A s.heap H locs := by rw [hH]; exact hS
  show W p l e rm_RepairPlan_fuseOfSpare s m _ below meth c s.heap locs 0 0 (MQ below (QW D (post_RepairPlan_fuseOfSpare h_t v_t_proven v_t_columnSets v_t_wrongBits v_t_solved t_fuses t_words t_bestRows t_bestColumns cI cB cJ res) A) _ s 0 0 A) (F0 m 0 ls [])
  refine wheap hH ?_
  clear hH hlo
  refine lv_iconst (v := 0) hx hb d_RepairPlan_fuseOfSpare_0 (by decide) ?_
  refine lv_istore_n (lv' := [(2, .int 0), (0, .ref h_t), (1, .int a1)]) hx hb d_RepairPlan_fuseOfSpare_1 rfl hl (by decide) rfl (fun ls hl => ?_)
  refine lv_iconst (v := 0) hx hb d_RepairPlan_fuseOfSpare_2 (by decide) ?_
  refine lv_istore_n (lv' := [(3, .int 0), (2, .int 0), (0, .ref h_t), (1, .int a1)]) hx hb d_RepairPlan_fuseOfSpare_3 rfl hl (by decide) rfl (fun ls hl => ?_)
  exact k_RepairPlan_fuseOfSpare_4 (s := s) C0 hA _ (0, 0) hf  H locs ls hP hD hS (lv_sub hl [2, 3, 1, 0] rfl)
def f_MT_spare_56 (t_words : Int32) (s0 : Int32) (x2 : Int32) (x3 : Int32) : Option ((Int32) ⊕ Nat) :=
  (if x2 = 0 then
    (if s0 = 0 then
      some (Sum.inl 0)
    else
      some (Sum.inl 1))
  else
    (if s0 = 0 then
      some (Sum.inl x3)
    else
      some (Sum.inl (x3 - t_words))))
def f_MT_spare_19 (t_words : Int32) (t_plan_fuses : Int32) (t_plan_words : Int32) (t_plan_bestRows : Int32) (t_plan_bestColumns : Int32) (x1 : Int32) (x2 : Int32) : Option ((Int32) ⊕ Nat) :=
  (Option.bind (f_RepairPlan_fuseOfSpare t_plan_fuses t_plan_words t_plan_bestRows t_plan_bestColumns x1) fun q24_1 =>
  (if q24_1 = (-1) then
    some (Sum.inr 0)
  else
    (if q24_1 < t_words then
      (f_MT_spare_56 t_words 0 x2 q24_1)
    else
      (f_MT_spare_56 t_words 1 x2 q24_1))))
def f_MT_spare (t_words : Int32) (t_plan_fuses : Int32) (t_plan_words : Int32) (t_plan_bestRows : Int32) (t_plan_bestColumns : Int32) (a1 : Int32) (a2 : Int32) : Option ((Int32) ⊕ Nat) :=
  (if a2 = 0 then
    (f_MT_spare_19 t_words t_plan_fuses t_plan_words t_plan_bestRows t_plan_bestColumns a1 a2)
  else
    (if a2 = 1 then
      (f_MT_spare_19 t_words t_plan_fuses t_plan_words t_plan_bestRows t_plan_bestColumns a1 a2)
    else
      some (Sum.inr 0)))
def post_MT_spare (h_t h_t_plan : Nat) (v_t_cells v_t_tape v_t_reader v_t_faults v_t_single v_t_tester v_t_march v_t_draft v_t_plan_proven v_t_plan_columnSets v_t_plan_wrongBits v_t_plan_solved : Value) (t_words : Int32) (t_plan_fuses : Int32) (t_plan_words : Int32) (t_plan_bestRows : Int32) (t_plan_bestColumns : Int32) (cI cB cJ : ClassId) (res : Int32) : Option Value → va_W → Prop := fun o ws' => o = some (.int res) ∧ ws' = [(h_t, .inr (0, [.int t_words, v_t_cells, v_t_tape, v_t_reader, v_t_faults, v_t_single, v_t_tester, .ref h_t_plan, v_t_march, v_t_draft])), (h_t_plan, .inr (6, [.int t_plan_fuses, v_t_plan_proven, .int t_plan_words, v_t_plan_columnSets, v_t_plan_wrongBits, v_t_plan_solved, .int t_plan_bestRows, .int t_plan_bestColumns]))]
abbrev rm_MT_spare : Room := { frames := 2, cells := 0, slots := 0, locals := 45 }
set_option maxHeartbeats 4000000 in
set_option maxRecDepth 100000 in
theorem k_MT_spare_56 {p : Program} {l : Launch} {e : Env} {s : State} {m : MethodId} {args : Array Value} {below : List Frame} {meth : Method} {c : Code} {D : va_G} {cI cB cJ : ClassId} {A : Nat → Prop} (C0 : CX p s m args meth c D [(cI, .int), (cB, .byte), (cJ, .long)] R_MT b_MT_spare 5 (some .int) "spare") (hA : ∀ q, s.heap.size ≤ q → A q) {h_t h_t_plan : Nat} {v_t_cells v_t_tape v_t_reader v_t_faults v_t_single v_t_tester v_t_march v_t_draft v_t_plan_proven v_t_plan_columnSets v_t_plan_wrongBits v_t_plan_solved : Value} {res : Int32} {t_words : Int32} {t_plan_fuses : Int32} {t_plan_words : Int32} {t_plan_bestRows : Int32} {t_plan_bestColumns : Int32} {s0 : Int32} {x2 : Int32} {x3 : Int32}
    (hf : f_MT_spare_56 t_words s0 x2 x3 = some (Sum.inl res)) {H : Heap} {locs : List Loc} {ls : Array Slot} (hP : va_P D classes [(h_t, .inr (0, [.int t_words, v_t_cells, v_t_tape, v_t_reader, v_t_faults, v_t_single, v_t_tester, .ref h_t_plan, v_t_march, v_t_draft])), (h_t_plan, .inr (6, [.int t_plan_fuses, v_t_plan_proven, .int t_plan_words, v_t_plan_columnSets, v_t_plan_wrongBits, v_t_plan_solved, .int t_plan_bestRows, .int t_plan_bestColumns]))] H) (hD : va_D A [(h_t, .inr (0, [.int t_words, v_t_cells, v_t_tape, v_t_reader, v_t_faults, v_t_single, v_t_tester, .ref h_t_plan, v_t_march, v_t_draft])), (h_t_plan, .inr (6, [.int t_plan_fuses, v_t_plan_proven, .int t_plan_words, v_t_plan_columnSets, v_t_plan_wrongBits, v_t_plan_solved, .int t_plan_bestRows, .int t_plan_bestColumns]))]) (hS : va_S A s.heap H locs) (hl : lv_has ls 5 [(0, .ref h_t), (2, .int x2), (3, .int x3)]) : W p l e rm_MT_spare s m args below meth c H locs 0 0 (MQ below (QW D (post_MT_spare h_t h_t_plan v_t_cells v_t_tape v_t_reader v_t_faults v_t_single v_t_tester v_t_march v_t_draft v_t_plan_proven v_t_plan_columnSets v_t_plan_wrongBits v_t_plan_solved t_words t_plan_fuses t_plan_words t_plan_bestRows t_plan_bestColumns cI cB cJ res) A) args s 0 0 A) (F0 m 56 ls [.int s0]) := by
  obtain ⟨hx, hb, hml, hr, hlocks, hts, hown, hK, hin⟩ := id C0
  have hf : (((
  (if x2 = 0 then
    (if s0 = 0 then
      some (Sum.inl 0)
    else
      some (Sum.inl 1))
  else
    (if s0 = 0 then
      some (Sum.inl x3)
    else
      some (Sum.inl (x3 - t_words)))))) : Option ((Int32) ⊕ Nat)) = some (Sum.inl res) := hf
  refine lv_istore (lv' := [(4, .int s0), (0, .ref h_t), (2, .int x2), (3, .int x3)]) hx hb d_MT_spare_56 hl (by decide) rfl (fun ls hl => ?_)
  refine lv_iload_n hx hb d_MT_spare_58 rfl (lv_at hl 2 rfl) ?_
  refine lv_if_ne (tgt := 73) hx hb d_MT_spare_59 (by decide) (fun cc59 => ?_) (fun cc59 => ?_)
  · have hf := ifF cc59 hf
    refine lv_iload hx hb d_MT_spare_73 (lv_at hl 0 rfl) ?_
    refine lv_if_eq (tgt := 87) hx hb d_MT_spare_75 (by decide) (fun cc75 => ?_) (fun cc75 => ?_)
    · have hf := ifT cc75 hf
      refine lv_iload_n hx hb d_MT_spare_87 rfl (lv_at hl 3 rfl) ?_
      obtain rfl := Sum.inl.inj (Option.some.inj hf)
      exact ret_i hx hb hr hlocks hP hD hS ⟨rfl, rfl⟩ d_MT_spare_88
    · have hf := ifF cc75 hf
      refine lv_iload_n hx hb d_MT_spare_78 rfl (lv_at hl 3 rfl) ?_
      refine lv_aload_n hx hb d_MT_spare_79 rfl (lv_at hl 1 rfl) ?_
      refine va_get (D := D) (ci := 0) (v := .int t_words) (C := R_MT) (T := F_MT) (N := 10) hx hb hts i_MT hown hK.1 hP 0 rfl rfl 0 (by decide) (hts _ w_71) (fun _ h9 => h9) rfl d_MT_spare_80 ?_
      refine lv_isub hx hb d_MT_spare_83 ?_
      refine lv_goto (tgt := 88) hx hb d_MT_spare_84 (by decide) ?_
      obtain rfl := Sum.inl.inj (Option.some.inj hf)
      exact ret_i hx hb hr hlocks hP hD hS ⟨rfl, rfl⟩ d_MT_spare_88
  · have hf := ifT cc59 hf
    refine lv_iload hx hb d_MT_spare_62 (lv_at hl 0 rfl) ?_
    refine lv_if_eq (tgt := 71) hx hb d_MT_spare_64 (by decide) (fun cc64 => ?_) (fun cc64 => ?_)
    · have hf := ifT cc64 hf
      refine lv_iconst (v := 0) hx hb d_MT_spare_71 (by decide) ?_
      obtain rfl := Sum.inl.inj (Option.some.inj hf)
      exact ret_i hx hb hr hlocks hP hD hS ⟨rfl, rfl⟩ d_MT_spare_72
    · have hf := ifF cc64 hf
      refine lv_iconst (v := 1) hx hb d_MT_spare_67 (by decide) ?_
      refine lv_goto (tgt := 72) hx hb d_MT_spare_68 (by decide) ?_
      obtain rfl := Sum.inl.inj (Option.some.inj hf)
      exact ret_i hx hb hr hlocks hP hD hS ⟨rfl, rfl⟩ d_MT_spare_72
set_option maxHeartbeats 4000000 in
set_option maxRecDepth 100000 in
theorem k_MT_spare_19 {p : Program} {l : Launch} {e : Env} {s : State} {m : MethodId} {args : Array Value} {below : List Frame} {meth : Method} {c : Code} {D : va_G} {cI cB cJ : ClassId} {A : Nat → Prop} (C0 : CX p s m args meth c D [(cI, .int), (cB, .byte), (cJ, .long)] R_MT b_MT_spare 5 (some .int) "spare") (hA : ∀ q, s.heap.size ≤ q → A q) {h_t h_t_plan : Nat} {v_t_cells v_t_tape v_t_reader v_t_faults v_t_single v_t_tester v_t_march v_t_draft v_t_plan_proven v_t_plan_columnSets v_t_plan_wrongBits v_t_plan_solved : Value} {res : Int32} {t_words : Int32} {t_plan_fuses : Int32} {t_plan_words : Int32} {t_plan_bestRows : Int32} {t_plan_bestColumns : Int32} {x1 : Int32} {x2 : Int32}
    (hf : f_MT_spare_19 t_words t_plan_fuses t_plan_words t_plan_bestRows t_plan_bestColumns x1 x2 = some (Sum.inl res)) {H : Heap} {locs : List Loc} {ls : Array Slot} (hP : va_P D classes [(h_t, .inr (0, [.int t_words, v_t_cells, v_t_tape, v_t_reader, v_t_faults, v_t_single, v_t_tester, .ref h_t_plan, v_t_march, v_t_draft])), (h_t_plan, .inr (6, [.int t_plan_fuses, v_t_plan_proven, .int t_plan_words, v_t_plan_columnSets, v_t_plan_wrongBits, v_t_plan_solved, .int t_plan_bestRows, .int t_plan_bestColumns]))] H) (hD : va_D A [(h_t, .inr (0, [.int t_words, v_t_cells, v_t_tape, v_t_reader, v_t_faults, v_t_single, v_t_tester, .ref h_t_plan, v_t_march, v_t_draft])), (h_t_plan, .inr (6, [.int t_plan_fuses, v_t_plan_proven, .int t_plan_words, v_t_plan_columnSets, v_t_plan_wrongBits, v_t_plan_solved, .int t_plan_bestRows, .int t_plan_bestColumns]))]) (hS : va_S A s.heap H locs) (hl : lv_has ls 5 [(0, .ref h_t), (1, .int x1), (2, .int x2)]) : W p l e rm_MT_spare s m args below meth c H locs 0 0 (MQ below (QW D (post_MT_spare h_t h_t_plan v_t_cells v_t_tape v_t_reader v_t_faults v_t_single v_t_tester v_t_march v_t_draft v_t_plan_proven v_t_plan_columnSets v_t_plan_wrongBits v_t_plan_solved t_words t_plan_fuses t_plan_words t_plan_bestRows t_plan_bestColumns cI cB cJ res) A) args s 0 0 A) (F0 m 19 ls []) := by
  obtain ⟨hx, hb, hml, hr, hlocks, hts, hown, hK, hin⟩ := id C0
  have hf : (((
  (Option.bind (f_RepairPlan_fuseOfSpare t_plan_fuses t_plan_words t_plan_bestRows t_plan_bestColumns x1) fun q24_1 =>
  (if q24_1 = (-1) then
    some (Sum.inr 0)
  else
    (if q24_1 < t_words then
      (f_MT_spare_56 t_words 0 x2 q24_1)
    else
      (f_MT_spare_56 t_words 1 x2 q24_1)))))) : Option ((Int32) ⊕ Nat)) = some (Sum.inl res) := hf
  refine lv_aload_n hx hb d_MT_spare_19 rfl (lv_at hl 0 rfl) ?_
  refine va_get (D := D) (ci := 0) (v := .ref h_t_plan) (C := R_MT) (T := F_MT) (N := 10) hx hb hts i_MT hown hK.1 hP 0 rfl rfl 7 (by decide) (hts _ w_104) (fun _ h9 => h9) rfl d_MT_spare_20 ?_
  refine lv_iload_n hx hb d_MT_spare_23 rfl (lv_at hl 1 rfl) ?_
  obtain ⟨q24_1, hc, hf⟩ := bindS hf
  refine mcV (n := 1) (As := [.int x1]) (rest := []) (wr := [(h_t, .inr (0, [.int t_words, v_t_cells, v_t_tape, v_t_reader, v_t_faults, v_t_single, v_t_tester, .ref h_t_plan, v_t_march, v_t_draft]))]) hx hb hml hown hts hK (c_RepairPlan_fuseOfSpare (l := l) (D := D) (cI := cI) (cB := cB) (cJ := cJ) (h_t := h_t_plan) (v_t_proven := v_t_plan_proven) (v_t_columnSets := v_t_plan_columnSets) (v_t_wrongBits := v_t_plan_wrongBits) (v_t_solved := v_t_plan_solved) (t_fuses := t_plan_fuses) (t_words := t_plan_words) (t_bestRows := t_plan_bestRows) (t_bestColumns := t_plan_bestColumns) (a1 := x1) (sz := H.size) (res := q24_1) (hf := hc)) w_356 w_357 w_358 w_100 w_359 (by decide +kernel) rfl rfl ⟨Nat.le_of_ble_eq_true rfl, Nat.le_of_ble_eq_true rfl⟩ hP hD hS hA [1] [0] rfl rfl (by decide) (by decide) (by decide) (ci := 6) 0 rfl rfl hl.1 rfl rfl (lv_room (Nat.le_of_ble_eq_true rfl)) d_MT_spare_24 ⟨Nat.le_of_ble_eq_true rfl, Nat.le_of_ble_eq_true rfl⟩ (fun o ws' H locs hp hP hD hS => ?_)
  obtain ⟨rfl, rfl⟩ := hp
  have hP : va_P D classes [(h_t, .inr (0, [.int t_words, v_t_cells, v_t_tape, v_t_reader, v_t_faults, v_t_single, v_t_tester, .ref h_t_plan, v_t_march, v_t_draft])), (h_t_plan, .inr (6, [.int t_plan_fuses, v_t_plan_proven, .int t_plan_words, v_t_plan_columnSets, v_t_plan_wrongBits, v_t_plan_solved, .int t_plan_bestRows, .int t_plan_bestColumns]))] H := hP.sub [0, 1] rfl
  have hD : va_D A [(h_t, .inr (0, [.int t_words, v_t_cells, v_t_tape, v_t_reader, v_t_faults, v_t_single, v_t_tester, .ref h_t_plan, v_t_march, v_t_draft])), (h_t_plan, .inr (6, [.int t_plan_fuses, v_t_plan_proven, .int t_plan_words, v_t_plan_columnSets, v_t_plan_wrongBits, v_t_plan_solved, .int t_plan_bestRows, .int t_plan_bestColumns]))] := hD.sub [0, 1] (by decide) rfl
  refine lv_istore_n (lv' := [(3, .int q24_1), (0, .ref h_t), (1, .int x1), (2, .int x2)]) hx hb d_MT_spare_27 rfl hl (by decide) rfl (fun ls hl => ?_)
  refine lv_iload_n hx hb d_MT_spare_28 rfl (lv_at hl 0 rfl) ?_
  refine lv_iconst (v := (-1)) hx hb d_MT_spare_29 (by decide) ?_
  refine lv_icmp_ne (tgt := 43) hx hb d_MT_spare_30 (by decide) (fun cc30 => ?_) (fun cc30 => ?_)
  · have hf := ifF cc30 hf
    refine lv_iload_n hx hb d_MT_spare_43 rfl (lv_at hl 0 rfl) ?_
    refine lv_aload_n hx hb d_MT_spare_44 rfl (lv_at hl 1 rfl) ?_
    refine va_get (D := D) (ci := 0) (v := .int t_words) (C := R_MT) (T := F_MT) (N := 10) hx hb hts i_MT hown hK.1 hP 0 rfl rfl 0 (by decide) (hts _ w_71) (fun _ h9 => h9) rfl d_MT_spare_45 ?_
    refine lv_icmp_lt (tgt := 55) hx hb d_MT_spare_48 (by decide) (fun cc48 => ?_) (fun cc48 => ?_)
    · have hf := ifT cc48 hf
      refine lv_iconst (v := 0) hx hb d_MT_spare_55 (by decide) ?_
      exact k_MT_spare_56 (s := s) C0 hA hf hP hD hS (lv_sub hl [1, 3, 0] rfl)
    · have hf := ifF cc48 hf
      refine lv_iconst (v := 1) hx hb d_MT_spare_51 (by decide) ?_
      refine lv_goto (tgt := 56) hx hb d_MT_spare_52 (by decide) ?_
      exact k_MT_spare_56 (s := s) C0 hA hf hP hD hS (lv_sub hl [1, 3, 0] rfl)
  · have hf := ifT cc30 hf
    exact absurd hf (by simp)
set_option maxHeartbeats 4000000 in
set_option maxRecDepth 100000 in
theorem c_MT_spare (l : Launch) (D : va_G) (cI cB cJ : ClassId) (h_t h_t_plan : Nat) (v_t_cells v_t_tape v_t_reader v_t_faults v_t_single v_t_tester v_t_march v_t_draft v_t_plan_proven v_t_plan_columnSets v_t_plan_wrongBits v_t_plan_solved : Value) (t_words : Int32) (t_plan_fuses : Int32) (t_plan_words : Int32) (t_plan_bestRows : Int32) (t_plan_bestColumns : Int32) (a1 : Int32) (a2 : Int32) (sz : Nat) (res : Int32) (hf : f_MT_spare t_words t_plan_fuses t_plan_words t_plan_bestRows t_plan_bestColumns a1 a2 = some (Sum.inl res)) : Met l y_MT_spare (.code y_MT_spare b_MT_spare 5 (some .int) :: TB) rm_MT_spare (PcW D [(cI, .int), (cB, .byte), (cJ, .long)] [.ref h_t, .int a1, .int a2] [(h_t, .inr (0, [.int t_words, v_t_cells, v_t_tape, v_t_reader, v_t_faults, v_t_single, v_t_tester, .ref h_t_plan, v_t_march, v_t_draft])), (h_t_plan, .inr (6, [.int t_plan_fuses, v_t_plan_proven, .int t_plan_words, v_t_plan_columnSets, v_t_plan_wrongBits, v_t_plan_solved, .int t_plan_bestRows, .int t_plan_bestColumns]))] sz) (QW D (post_MT_spare h_t h_t_plan v_t_cells v_t_tape v_t_reader v_t_faults v_t_single v_t_tester v_t_march v_t_draft v_t_plan_proven v_t_plan_columnSets v_t_plan_wrongBits v_t_plan_solved t_words t_plan_fuses t_plan_words t_plan_bestRows t_plan_bestColumns cI cB cJ res) (va_A [(h_t, .inr (0, [.int t_words, v_t_cells, v_t_tape, v_t_reader, v_t_faults, v_t_single, v_t_tester, .ref h_t_plan, v_t_march, v_t_draft])), (h_t_plan, .inr (6, [.int t_plan_fuses, v_t_plan_proven, .int t_plan_words, v_t_plan_columnSets, v_t_plan_wrongBits, v_t_plan_solved, .int t_plan_bestRows, .int t_plan_bestColumns]))] sz)) 0 0 (va_A [(h_t, .inr (0, [.int t_words, v_t_cells, v_t_tape, v_t_reader, v_t_faults, v_t_single, v_t_tester, .ref h_t_plan, v_t_march, v_t_draft])), (h_t_plan, .inr (6, [.int t_plan_fuses, v_t_plan_proven, .int t_plan_words, v_t_plan_columnSets, v_t_plan_wrongBits, v_t_plan_solved, .int t_plan_bestRows, .int t_plan_bestColumns]))] sz) := by
  refine entW ⟨by decide +kernel, rfl⟩ fun p e s m below meth c C0 hP hD hsz ls hl => ?_
  subst hsz
  generalize hAe : va_A [(h_t, .inr (0, [.int t_words, v_t_cells, v_t_tape, v_t_reader, v_t_faults, v_t_single, v_t_tester, .ref h_t_plan, v_t_march, v_t_draft])), (h_t_plan, .inr (6, [.int t_plan_fuses, v_t_plan_proven, .int t_plan_words, v_t_plan_columnSets, v_t_plan_wrongBits, v_t_plan_solved, .int t_plan_bestRows, .int t_plan_bestColumns]))] s.heap.size = A at hD ⊢
  have hA : ∀ q : Nat, s.heap.size ≤ q → A q := fun q h => by rw [← hAe]; exact Or.inr h
  clear hAe
  have hS : va_S A s.heap s.heap [] := va_S.rf
  have hl : lv_has ls 5 [(0, .ref h_t), (1, .int a1), (2, .int a2)] := hl
  obtain ⟨hx, hb, hml, hr, hlocks, hts, hown, hK, hin⟩ := id C0
  have hf : (((
  (if a2 = 0 then
    (f_MT_spare_19 t_words t_plan_fuses t_plan_words t_plan_bestRows t_plan_bestColumns a1 a2)
  else
    (if a2 = 1 then
      (f_MT_spare_19 t_words t_plan_fuses t_plan_words t_plan_bestRows t_plan_bestColumns a1 a2)
    else
      some (Sum.inr 0))))) : Option ((Int32) ⊕ Nat)) = some (Sum.inl res) := hf
  obtain ⟨H, hH⟩ : ∃ H, H = s.heap := ⟨_, rfl⟩
  obtain ⟨locs, hlo⟩ : ∃ x : List Loc, x = [] := ⟨_, rfl⟩
  rw [← hlo] at hS ⊢
  have hP : va_P D classes [(h_t, .inr (0, [.int t_words, v_t_cells, v_t_tape, v_t_reader, v_t_faults, v_t_single, v_t_tester, .ref h_t_plan, v_t_march, v_t_draft])), (h_t_plan, .inr (6, [.int t_plan_fuses, v_t_plan_proven, .int t_plan_words, v_t_plan_columnSets, v_t_plan_wrongBits, v_t_plan_solved, .int t_plan_bestRows, .int t_plan_bestColumns]))] H := by rw [hH]; exact hP
  have hS : va_S A s.heap H locs := by rw [hH]; exact hS
  show W p l e rm_MT_spare s m _ below meth c s.heap locs 0 0 (MQ below (QW D (post_MT_spare h_t h_t_plan v_t_cells v_t_tape v_t_reader v_t_faults v_t_single v_t_tester v_t_march v_t_draft v_t_plan_proven v_t_plan_columnSets v_t_plan_wrongBits v_t_plan_solved t_words t_plan_fuses t_plan_words t_plan_bestRows t_plan_bestColumns cI cB cJ res) A) _ s 0 0 A) (F0 m 0 ls [])
  refine wheap hH ?_
  clear hH hlo
  refine lv_iload_n hx hb d_MT_spare_0 rfl (lv_at hl 2 rfl) ?_
  refine lv_if_eq (tgt := 19) hx hb d_MT_spare_1 (by decide) (fun cc1 => ?_) (fun cc1 => ?_)
  · have hf := ifT cc1 hf
    exact k_MT_spare_19 (s := s) C0 hA hf hP hD hS (lv_sub hl [0, 1, 2] rfl)
  · have hf := ifF cc1 hf
    refine lv_iload_n hx hb d_MT_spare_4 rfl (lv_at hl 2 rfl) ?_
    refine lv_iconst (v := 1) hx hb d_MT_spare_5 (by decide) ?_
    refine lv_icmp_eq (tgt := 19) hx hb d_MT_spare_6 (by decide) (fun cc6 => ?_) (fun cc6 => ?_)
    · have hf := ifT cc6 hf
      exact k_MT_spare_19 (s := s) C0 hA hf hP hD hS (lv_sub hl [0, 1, 2] rfl)
    · have hf := ifF cc6 hf
      exact absurd hf (by simp)
def f_MT_proved (t_plan_proven : Int32) : Option (Int32) :=
  (if isB t_plan_proven = true then
  some t_plan_proven
  else none)
def post_MT_proved (h_t h_t_plan : Nat) (v_t_words v_t_cells v_t_tape v_t_reader v_t_faults v_t_single v_t_tester v_t_march v_t_draft v_t_plan_fuses v_t_plan_words v_t_plan_columnSets v_t_plan_wrongBits v_t_plan_solved v_t_plan_bestRows v_t_plan_bestColumns : Value) (t_plan_proven : Int32) (cI cB cJ : ClassId) (res : Int32) : Option Value → va_W → Prop := fun o ws' => o = some (.int res) ∧ ws' = [(h_t, .inr (0, [v_t_words, v_t_cells, v_t_tape, v_t_reader, v_t_faults, v_t_single, v_t_tester, .ref h_t_plan, v_t_march, v_t_draft])), (h_t_plan, .inr (6, [v_t_plan_fuses, .int t_plan_proven, v_t_plan_words, v_t_plan_columnSets, v_t_plan_wrongBits, v_t_plan_solved, v_t_plan_bestRows, v_t_plan_bestColumns]))]
abbrev rm_MT_proved : Room := { frames := 0, cells := 0, slots := 0, locals := 0 }
set_option maxHeartbeats 4000000 in
set_option maxRecDepth 100000 in
theorem c_MT_proved (l : Launch) (D : va_G) (cI cB cJ : ClassId) (h_t h_t_plan : Nat) (v_t_words v_t_cells v_t_tape v_t_reader v_t_faults v_t_single v_t_tester v_t_march v_t_draft v_t_plan_fuses v_t_plan_words v_t_plan_columnSets v_t_plan_wrongBits v_t_plan_solved v_t_plan_bestRows v_t_plan_bestColumns : Value) (t_plan_proven : Int32) (sz : Nat) (res : Int32) (hf : f_MT_proved t_plan_proven = some res) : Met l y_MT_proved (.code y_MT_proved b_MT_proved 1 (some .boolean) :: TB) rm_MT_proved (PcW D [(cI, .int), (cB, .byte), (cJ, .long)] [.ref h_t] [(h_t, .inr (0, [v_t_words, v_t_cells, v_t_tape, v_t_reader, v_t_faults, v_t_single, v_t_tester, .ref h_t_plan, v_t_march, v_t_draft])), (h_t_plan, .inr (6, [v_t_plan_fuses, .int t_plan_proven, v_t_plan_words, v_t_plan_columnSets, v_t_plan_wrongBits, v_t_plan_solved, v_t_plan_bestRows, v_t_plan_bestColumns]))] sz) (QW D (post_MT_proved h_t h_t_plan v_t_words v_t_cells v_t_tape v_t_reader v_t_faults v_t_single v_t_tester v_t_march v_t_draft v_t_plan_fuses v_t_plan_words v_t_plan_columnSets v_t_plan_wrongBits v_t_plan_solved v_t_plan_bestRows v_t_plan_bestColumns t_plan_proven cI cB cJ res) (va_A [(h_t, .inr (0, [v_t_words, v_t_cells, v_t_tape, v_t_reader, v_t_faults, v_t_single, v_t_tester, .ref h_t_plan, v_t_march, v_t_draft])), (h_t_plan, .inr (6, [v_t_plan_fuses, .int t_plan_proven, v_t_plan_words, v_t_plan_columnSets, v_t_plan_wrongBits, v_t_plan_solved, v_t_plan_bestRows, v_t_plan_bestColumns]))] sz)) 0 0 (va_A [(h_t, .inr (0, [v_t_words, v_t_cells, v_t_tape, v_t_reader, v_t_faults, v_t_single, v_t_tester, .ref h_t_plan, v_t_march, v_t_draft])), (h_t_plan, .inr (6, [v_t_plan_fuses, .int t_plan_proven, v_t_plan_words, v_t_plan_columnSets, v_t_plan_wrongBits, v_t_plan_solved, v_t_plan_bestRows, v_t_plan_bestColumns]))] sz) := by
  refine entW ⟨by decide +kernel, rfl⟩ fun p e s m below meth c C0 hP hD hsz ls hl => ?_
  subst hsz
  generalize hAe : va_A [(h_t, .inr (0, [v_t_words, v_t_cells, v_t_tape, v_t_reader, v_t_faults, v_t_single, v_t_tester, .ref h_t_plan, v_t_march, v_t_draft])), (h_t_plan, .inr (6, [v_t_plan_fuses, .int t_plan_proven, v_t_plan_words, v_t_plan_columnSets, v_t_plan_wrongBits, v_t_plan_solved, v_t_plan_bestRows, v_t_plan_bestColumns]))] s.heap.size = A at hD ⊢
  have hA : ∀ q : Nat, s.heap.size ≤ q → A q := fun q h => by rw [← hAe]; exact Or.inr h
  clear hAe
  have hS : va_S A s.heap s.heap [] := va_S.rf
  have hl : lv_has ls 1 [(0, .ref h_t)] := hl
  obtain ⟨hx, hb, hml, hr, hlocks, hts, hown, hK, hin⟩ := id C0
  have hf : (((
  (if isB t_plan_proven = true then
  some t_plan_proven
  else none))) : Option (Int32)) = some res := hf
  obtain ⟨H, hH⟩ : ∃ H, H = s.heap := ⟨_, rfl⟩
  obtain ⟨locs, hlo⟩ : ∃ x : List Loc, x = [] := ⟨_, rfl⟩
  rw [← hlo] at hS ⊢
  have hP : va_P D classes [(h_t, .inr (0, [v_t_words, v_t_cells, v_t_tape, v_t_reader, v_t_faults, v_t_single, v_t_tester, .ref h_t_plan, v_t_march, v_t_draft])), (h_t_plan, .inr (6, [v_t_plan_fuses, .int t_plan_proven, v_t_plan_words, v_t_plan_columnSets, v_t_plan_wrongBits, v_t_plan_solved, v_t_plan_bestRows, v_t_plan_bestColumns]))] H := by rw [hH]; exact hP
  have hS : va_S A s.heap H locs := by rw [hH]; exact hS
  show W p l e rm_MT_proved s m _ below meth c s.heap locs 0 0 (MQ below (QW D (post_MT_proved h_t h_t_plan v_t_words v_t_cells v_t_tape v_t_reader v_t_faults v_t_single v_t_tester v_t_march v_t_draft v_t_plan_fuses v_t_plan_words v_t_plan_columnSets v_t_plan_wrongBits v_t_plan_solved v_t_plan_bestRows v_t_plan_bestColumns t_plan_proven cI cB cJ res) A) _ s 0 0 A) (F0 m 0 ls [])
  refine wheap hH ?_
  clear hH hlo
  refine lv_aload_n hx hb d_MT_proved_0 rfl (lv_at hl 0 rfl) ?_
  refine va_get (D := D) (ci := 0) (v := .ref h_t_plan) (C := R_MT) (T := F_MT) (N := 10) hx hb hts i_MT hown hK.1 hP 0 rfl rfl 7 (by decide) (hts _ w_104) (fun _ h9 => h9) rfl d_MT_proved_1 ?_
  refine va_get (D := D) (ci := 6) (v := .int t_plan_proven) (C := R_RepairPlan) (T := F_RepairPlan) (N := 8) hx hb hts i_RepairPlan hown hK.1 hP 1 rfl rfl 1 (by decide) (hts _ w_360) (fun _ h9 => h9) rfl d_MT_proved_4 ?_
  obtain ⟨hbb, hf⟩ := ifG hf
  obtain rfl := Option.some.inj hf
  exact ret_z hx hb hr (nar_b hbb) hlocks hP hD hS ⟨rfl, rfl⟩ d_MT_proved_7
def f_MT_fuse (t_plan_fuses : Int32) (t_plan_words : Int32) (t_plan_bestRows : Int32) (t_plan_bestColumns : Int32) (a1 : Int32) : Option ((Int32) ⊕ Nat) :=
  (if a1 < 0 then
    some (Sum.inr 0)
  else
    (if a1 < t_plan_fuses then
      (Option.bind (f_RepairPlan_isBlown t_plan_words t_plan_bestRows t_plan_bestColumns a1) fun q30_1 =>
      (if q30_1 = 0 then
        some (Sum.inl 0)
      else
        some (Sum.inl 1)))
    else
      some (Sum.inr 0)))
def post_MT_fuse (h_t h_t_plan : Nat) (v_t_words v_t_cells v_t_tape v_t_reader v_t_faults v_t_single v_t_tester v_t_march v_t_draft v_t_plan_proven v_t_plan_columnSets v_t_plan_wrongBits v_t_plan_solved : Value) (t_plan_fuses : Int32) (t_plan_words : Int32) (t_plan_bestRows : Int32) (t_plan_bestColumns : Int32) (cI cB cJ : ClassId) (res : Int32) : Option Value → va_W → Prop := fun o ws' => o = some (.int res) ∧ ws' = [(h_t, .inr (0, [v_t_words, v_t_cells, v_t_tape, v_t_reader, v_t_faults, v_t_single, v_t_tester, .ref h_t_plan, v_t_march, v_t_draft])), (h_t_plan, .inr (6, [.int t_plan_fuses, v_t_plan_proven, .int t_plan_words, v_t_plan_columnSets, v_t_plan_wrongBits, v_t_plan_solved, .int t_plan_bestRows, .int t_plan_bestColumns]))]
abbrev rm_MT_fuse : Room := { frames := 1, cells := 0, slots := 0, locals := 22 }
set_option maxHeartbeats 4000000 in
set_option maxRecDepth 100000 in
theorem c_MT_fuse (l : Launch) (D : va_G) (cI cB cJ : ClassId) (h_t h_t_plan : Nat) (v_t_words v_t_cells v_t_tape v_t_reader v_t_faults v_t_single v_t_tester v_t_march v_t_draft v_t_plan_proven v_t_plan_columnSets v_t_plan_wrongBits v_t_plan_solved : Value) (t_plan_fuses : Int32) (t_plan_words : Int32) (t_plan_bestRows : Int32) (t_plan_bestColumns : Int32) (a1 : Int32) (sz : Nat) (res : Int32) (hf : f_MT_fuse t_plan_fuses t_plan_words t_plan_bestRows t_plan_bestColumns a1 = some (Sum.inl res)) : Met l y_MT_fuse (.code y_MT_fuse b_MT_fuse 2 (some .int) :: TB) rm_MT_fuse (PcW D [(cI, .int), (cB, .byte), (cJ, .long)] [.ref h_t, .int a1] [(h_t, .inr (0, [v_t_words, v_t_cells, v_t_tape, v_t_reader, v_t_faults, v_t_single, v_t_tester, .ref h_t_plan, v_t_march, v_t_draft])), (h_t_plan, .inr (6, [.int t_plan_fuses, v_t_plan_proven, .int t_plan_words, v_t_plan_columnSets, v_t_plan_wrongBits, v_t_plan_solved, .int t_plan_bestRows, .int t_plan_bestColumns]))] sz) (QW D (post_MT_fuse h_t h_t_plan v_t_words v_t_cells v_t_tape v_t_reader v_t_faults v_t_single v_t_tester v_t_march v_t_draft v_t_plan_proven v_t_plan_columnSets v_t_plan_wrongBits v_t_plan_solved t_plan_fuses t_plan_words t_plan_bestRows t_plan_bestColumns cI cB cJ res) (va_A [(h_t, .inr (0, [v_t_words, v_t_cells, v_t_tape, v_t_reader, v_t_faults, v_t_single, v_t_tester, .ref h_t_plan, v_t_march, v_t_draft])), (h_t_plan, .inr (6, [.int t_plan_fuses, v_t_plan_proven, .int t_plan_words, v_t_plan_columnSets, v_t_plan_wrongBits, v_t_plan_solved, .int t_plan_bestRows, .int t_plan_bestColumns]))] sz)) 0 0 (va_A [(h_t, .inr (0, [v_t_words, v_t_cells, v_t_tape, v_t_reader, v_t_faults, v_t_single, v_t_tester, .ref h_t_plan, v_t_march, v_t_draft])), (h_t_plan, .inr (6, [.int t_plan_fuses, v_t_plan_proven, .int t_plan_words, v_t_plan_columnSets, v_t_plan_wrongBits, v_t_plan_solved, .int t_plan_bestRows, .int t_plan_bestColumns]))] sz) := by
  refine entW ⟨by decide +kernel, rfl⟩ fun p e s m below meth c C0 hP hD hsz ls hl => ?_
  subst hsz
  generalize hAe : va_A [(h_t, .inr (0, [v_t_words, v_t_cells, v_t_tape, v_t_reader, v_t_faults, v_t_single, v_t_tester, .ref h_t_plan, v_t_march, v_t_draft])), (h_t_plan, .inr (6, [.int t_plan_fuses, v_t_plan_proven, .int t_plan_words, v_t_plan_columnSets, v_t_plan_wrongBits, v_t_plan_solved, .int t_plan_bestRows, .int t_plan_bestColumns]))] s.heap.size = A at hD ⊢
  have hA : ∀ q : Nat, s.heap.size ≤ q → A q := fun q h => by rw [← hAe]; exact Or.inr h
  clear hAe
  have hS : va_S A s.heap s.heap [] := va_S.rf
  have hl : lv_has ls 2 [(0, .ref h_t), (1, .int a1)] := hl
  obtain ⟨hx, hb, hml, hr, hlocks, hts, hown, hK, hin⟩ := id C0
  have hf : (((
  (if a1 < 0 then
    some (Sum.inr 0)
  else
    (if a1 < t_plan_fuses then
      (Option.bind (f_RepairPlan_isBlown t_plan_words t_plan_bestRows t_plan_bestColumns a1) fun q30_1 =>
      (if q30_1 = 0 then
        some (Sum.inl 0)
      else
        some (Sum.inl 1)))
    else
      some (Sum.inr 0))))) : Option ((Int32) ⊕ Nat)) = some (Sum.inl res) := hf
  obtain ⟨H, hH⟩ : ∃ H, H = s.heap := ⟨_, rfl⟩
  obtain ⟨locs, hlo⟩ : ∃ x : List Loc, x = [] := ⟨_, rfl⟩
  rw [← hlo] at hS ⊢
  have hP : va_P D classes [(h_t, .inr (0, [v_t_words, v_t_cells, v_t_tape, v_t_reader, v_t_faults, v_t_single, v_t_tester, .ref h_t_plan, v_t_march, v_t_draft])), (h_t_plan, .inr (6, [.int t_plan_fuses, v_t_plan_proven, .int t_plan_words, v_t_plan_columnSets, v_t_plan_wrongBits, v_t_plan_solved, .int t_plan_bestRows, .int t_plan_bestColumns]))] H := by rw [hH]; exact hP
  have hS : va_S A s.heap H locs := by rw [hH]; exact hS
  show W p l e rm_MT_fuse s m _ below meth c s.heap locs 0 0 (MQ below (QW D (post_MT_fuse h_t h_t_plan v_t_words v_t_cells v_t_tape v_t_reader v_t_faults v_t_single v_t_tester v_t_march v_t_draft v_t_plan_proven v_t_plan_columnSets v_t_plan_wrongBits v_t_plan_solved t_plan_fuses t_plan_words t_plan_bestRows t_plan_bestColumns cI cB cJ res) A) _ s 0 0 A) (F0 m 0 ls [])
  refine wheap hH ?_
  clear hH hlo
  refine lv_iload_n hx hb d_MT_fuse_0 rfl (lv_at hl 1 rfl) ?_
  refine lv_if_lt (tgt := 15) hx hb d_MT_fuse_1 (by decide) (fun cc1 => ?_) (fun cc1 => ?_)
  · have hf := ifT cc1 hf
    exact absurd hf (by simp)
  · have hf := ifF cc1 hf
    refine lv_iload_n hx hb d_MT_fuse_4 rfl (lv_at hl 1 rfl) ?_
    refine lv_aload_n hx hb d_MT_fuse_5 rfl (lv_at hl 0 rfl) ?_
    refine va_get (D := D) (ci := 0) (v := .ref h_t_plan) (C := R_MT) (T := F_MT) (N := 10) hx hb hts i_MT hown hK.1 hP 0 rfl rfl 7 (by decide) (hts _ w_104) (fun _ h9 => h9) rfl d_MT_fuse_6 ?_
    refine va_get (D := D) (ci := 6) (v := .int t_plan_fuses) (C := R_RepairPlan) (T := F_RepairPlan) (N := 8) hx hb hts i_RepairPlan hown hK.1 hP 1 rfl rfl 0 (by decide) (hts _ w_361) (fun _ h9 => h9) rfl d_MT_fuse_9 ?_
    refine lv_icmp_lt (tgt := 25) hx hb d_MT_fuse_12 (by decide) (fun cc12 => ?_) (fun cc12 => ?_)
    · have hf := ifT cc12 hf
      refine lv_aload_n hx hb d_MT_fuse_25 rfl (lv_at hl 0 rfl) ?_
      refine va_get (D := D) (ci := 0) (v := .ref h_t_plan) (C := R_MT) (T := F_MT) (N := 10) hx hb hts i_MT hown hK.1 hP 0 rfl rfl 7 (by decide) (hts _ w_104) (fun _ h9 => h9) rfl d_MT_fuse_26 ?_
      refine lv_iload_n hx hb d_MT_fuse_29 rfl (lv_at hl 1 rfl) ?_
      obtain ⟨q30_1, hc, hf⟩ := bindS hf
      refine mcV (n := 1) (As := [.int a1]) (rest := []) (wr := [(h_t, .inr (0, [v_t_words, v_t_cells, v_t_tape, v_t_reader, v_t_faults, v_t_single, v_t_tester, .ref h_t_plan, v_t_march, v_t_draft]))]) hx hb hml hown hts hK (c_RepairPlan_isBlown (l := l) (D := D) (cI := cI) (cB := cB) (cJ := cJ) (h_t := h_t_plan) (v_t_fuses := (.int t_plan_fuses)) (v_t_proven := v_t_plan_proven) (v_t_columnSets := v_t_plan_columnSets) (v_t_wrongBits := v_t_plan_wrongBits) (v_t_solved := v_t_plan_solved) (t_words := t_plan_words) (t_bestRows := t_plan_bestRows) (t_bestColumns := t_plan_bestColumns) (a1 := a1) (sz := H.size) (res := q30_1) (hf := hc)) w_362 w_353 w_354 w_100 w_355 (by decide +kernel) rfl rfl ⟨Nat.le_of_ble_eq_true rfl, Nat.le_of_ble_eq_true rfl⟩ hP hD hS hA [1] [0] rfl rfl (by decide) (by decide) (by decide) (ci := 6) 0 rfl rfl hl.1 rfl rfl (lv_room (Nat.le_of_ble_eq_true rfl)) d_MT_fuse_30 ⟨Nat.le_of_ble_eq_true rfl, Nat.le_of_ble_eq_true rfl⟩ (fun o ws' H locs hp hP hD hS => ?_)
      obtain ⟨rfl, rfl⟩ := hp
      have hP : va_P D classes [(h_t, .inr (0, [v_t_words, v_t_cells, v_t_tape, v_t_reader, v_t_faults, v_t_single, v_t_tester, .ref h_t_plan, v_t_march, v_t_draft])), (h_t_plan, .inr (6, [.int t_plan_fuses, v_t_plan_proven, .int t_plan_words, v_t_plan_columnSets, v_t_plan_wrongBits, v_t_plan_solved, .int t_plan_bestRows, .int t_plan_bestColumns]))] H := hP.sub [0, 1] rfl
      have hD : va_D A [(h_t, .inr (0, [v_t_words, v_t_cells, v_t_tape, v_t_reader, v_t_faults, v_t_single, v_t_tester, .ref h_t_plan, v_t_march, v_t_draft])), (h_t_plan, .inr (6, [.int t_plan_fuses, v_t_plan_proven, .int t_plan_words, v_t_plan_columnSets, v_t_plan_wrongBits, v_t_plan_solved, .int t_plan_bestRows, .int t_plan_bestColumns]))] := hD.sub [0, 1] (by decide) rfl
      refine lv_if_eq (tgt := 40) hx hb d_MT_fuse_33 (by decide) (fun cc33 => ?_) (fun cc33 => ?_)
      · have hf := ifT cc33 hf
        refine lv_iconst (v := 0) hx hb d_MT_fuse_40 (by decide) ?_
        obtain rfl := Sum.inl.inj (Option.some.inj hf)
        exact ret_i hx hb hr hlocks hP hD hS ⟨rfl, rfl⟩ d_MT_fuse_41
      · have hf := ifF cc33 hf
        refine lv_iconst (v := 1) hx hb d_MT_fuse_36 (by decide) ?_
        refine lv_goto (tgt := 41) hx hb d_MT_fuse_37 (by decide) ?_
        obtain rfl := Sum.inl.inj (Option.some.inj hf)
        exact ret_i hx hb hr hlocks hP hD hS ⟨rfl, rfl⟩ d_MT_fuse_41
    · have hf := ifF cc12 hf
      exact absurd hf (by simp)
def f_MT_port (t_tester_ports : Int32) (a1 : Int32) : Option ((Int32 × Int32) ⊕ Nat) :=
  (if a1 = 1 then
    some (Sum.inl (t_tester_ports, a1))
  else
    (if a1 = 2 then
      some (Sum.inl (t_tester_ports, a1))
    else
      some (Sum.inr 2)))
def post_MT_port (h_t h_t_tester : Nat) (v_t_words v_t_cells v_t_tape v_t_reader v_t_faults v_t_single v_t_plan v_t_march v_t_draft v_t_tester_failures v_t_tester_groundKind v_t_tester_words v_t_tester_allBits v_t_tester_memory v_t_tester_scrambled v_t_tester_wordAt v_t_tester_zeroOf : Value) (cI cB cJ : ClassId) (res : Int32 × Int32) : Option Value → va_W → Prop := fun o ws' => o = some (.int res.1) ∧ ws' = [(h_t, .inr (0, [v_t_words, v_t_cells, v_t_tape, v_t_reader, v_t_faults, v_t_single, .ref h_t_tester, v_t_plan, v_t_march, v_t_draft])), (h_t_tester, .inr (8, [v_t_tester_failures, .int res.2, v_t_tester_groundKind, v_t_tester_words, v_t_tester_allBits, v_t_tester_memory, v_t_tester_scrambled, v_t_tester_wordAt, v_t_tester_zeroOf]))]
abbrev rm_MT_port : Room := { frames := 0, cells := 0, slots := 0, locals := 0 }
set_option maxHeartbeats 4000000 in
set_option maxRecDepth 100000 in
theorem c_MT_port (l : Launch) (D : va_G) (cI cB cJ : ClassId) (h_t h_t_tester : Nat) (v_t_words v_t_cells v_t_tape v_t_reader v_t_faults v_t_single v_t_plan v_t_march v_t_draft v_t_tester_failures v_t_tester_groundKind v_t_tester_words v_t_tester_allBits v_t_tester_memory v_t_tester_scrambled v_t_tester_wordAt v_t_tester_zeroOf : Value) (t_tester_ports : Int32) (a1 : Int32) (sz : Nat) (res : Int32 × Int32) (hf : f_MT_port t_tester_ports a1 = some (Sum.inl res)) : Met l y_MT_port (.code y_MT_port b_MT_port 3 (some .int) :: TB) rm_MT_port (PcW D [(cI, .int), (cB, .byte), (cJ, .long)] [.ref h_t, .int a1] [(h_t, .inr (0, [v_t_words, v_t_cells, v_t_tape, v_t_reader, v_t_faults, v_t_single, .ref h_t_tester, v_t_plan, v_t_march, v_t_draft])), (h_t_tester, .inr (8, [v_t_tester_failures, .int t_tester_ports, v_t_tester_groundKind, v_t_tester_words, v_t_tester_allBits, v_t_tester_memory, v_t_tester_scrambled, v_t_tester_wordAt, v_t_tester_zeroOf]))] sz) (QW D (post_MT_port h_t h_t_tester v_t_words v_t_cells v_t_tape v_t_reader v_t_faults v_t_single v_t_plan v_t_march v_t_draft v_t_tester_failures v_t_tester_groundKind v_t_tester_words v_t_tester_allBits v_t_tester_memory v_t_tester_scrambled v_t_tester_wordAt v_t_tester_zeroOf cI cB cJ res) (va_A [(h_t, .inr (0, [v_t_words, v_t_cells, v_t_tape, v_t_reader, v_t_faults, v_t_single, .ref h_t_tester, v_t_plan, v_t_march, v_t_draft])), (h_t_tester, .inr (8, [v_t_tester_failures, .int t_tester_ports, v_t_tester_groundKind, v_t_tester_words, v_t_tester_allBits, v_t_tester_memory, v_t_tester_scrambled, v_t_tester_wordAt, v_t_tester_zeroOf]))] sz)) 0 0 (va_A [(h_t, .inr (0, [v_t_words, v_t_cells, v_t_tape, v_t_reader, v_t_faults, v_t_single, .ref h_t_tester, v_t_plan, v_t_march, v_t_draft])), (h_t_tester, .inr (8, [v_t_tester_failures, .int t_tester_ports, v_t_tester_groundKind, v_t_tester_words, v_t_tester_allBits, v_t_tester_memory, v_t_tester_scrambled, v_t_tester_wordAt, v_t_tester_zeroOf]))] sz) := by
  refine entW ⟨by decide +kernel, rfl⟩ fun p e s m below meth c C0 hP hD hsz ls hl => ?_
  subst hsz
  generalize hAe : va_A [(h_t, .inr (0, [v_t_words, v_t_cells, v_t_tape, v_t_reader, v_t_faults, v_t_single, .ref h_t_tester, v_t_plan, v_t_march, v_t_draft])), (h_t_tester, .inr (8, [v_t_tester_failures, .int t_tester_ports, v_t_tester_groundKind, v_t_tester_words, v_t_tester_allBits, v_t_tester_memory, v_t_tester_scrambled, v_t_tester_wordAt, v_t_tester_zeroOf]))] s.heap.size = A at hD ⊢
  have hA : ∀ q : Nat, s.heap.size ≤ q → A q := fun q h => by rw [← hAe]; exact Or.inr h
  clear hAe
  have hS : va_S A s.heap s.heap [] := va_S.rf
  have hl : lv_has ls 3 [(0, .ref h_t), (1, .int a1)] := hl
  obtain ⟨hx, hb, hml, hr, hlocks, hts, hown, hK, hin⟩ := id C0
  have hf : (((
  (if a1 = 1 then
    some (Sum.inl (t_tester_ports, a1))
  else
    (if a1 = 2 then
      some (Sum.inl (t_tester_ports, a1))
    else
      some (Sum.inr 2))))) : Option ((Int32 × Int32) ⊕ Nat)) = some (Sum.inl res) := hf
  obtain ⟨H, hH⟩ : ∃ H, H = s.heap := ⟨_, rfl⟩
  obtain ⟨locs, hlo⟩ : ∃ x : List Loc, x = [] := ⟨_, rfl⟩
  rw [← hlo] at hS ⊢
  have hP : va_P D classes [(h_t, .inr (0, [v_t_words, v_t_cells, v_t_tape, v_t_reader, v_t_faults, v_t_single, .ref h_t_tester, v_t_plan, v_t_march, v_t_draft])), (h_t_tester, .inr (8, [v_t_tester_failures, .int t_tester_ports, v_t_tester_groundKind, v_t_tester_words, v_t_tester_allBits, v_t_tester_memory, v_t_tester_scrambled, v_t_tester_wordAt, v_t_tester_zeroOf]))] H := by rw [hH]; exact hP
  have hS : va_S A s.heap H locs := by rw [hH]; exact hS
  show W p l e rm_MT_port s m _ below meth c s.heap locs 0 0 (MQ below (QW D (post_MT_port h_t h_t_tester v_t_words v_t_cells v_t_tape v_t_reader v_t_faults v_t_single v_t_plan v_t_march v_t_draft v_t_tester_failures v_t_tester_groundKind v_t_tester_words v_t_tester_allBits v_t_tester_memory v_t_tester_scrambled v_t_tester_wordAt v_t_tester_zeroOf cI cB cJ res) A) _ s 0 0 A) (F0 m 0 ls [])
  refine wheap hH ?_
  clear hH hlo
  refine lv_iload_n hx hb d_MT_port_0 rfl (lv_at hl 1 rfl) ?_
  refine lv_iconst (v := 1) hx hb d_MT_port_1 (by decide) ?_
  refine lv_icmp_eq (tgt := 20) hx hb d_MT_port_2 (by decide) (fun cc2 => ?_) (fun cc2 => ?_)
  · have hf := ifT cc2 hf
    refine lv_aload_n hx hb d_MT_port_20 rfl (lv_at hl 0 rfl) ?_
    refine va_get (D := D) (ci := 0) (v := .ref h_t_tester) (C := R_MT) (T := F_MT) (N := 10) hx hb hts i_MT hown hK.1 hP 0 rfl rfl 6 (by decide) (hts _ w_97) (fun _ h9 => h9) rfl d_MT_port_21 ?_
    refine va_get (D := D) (ci := 8) (v := .int t_tester_ports) (C := R_Tester) (T := F_Tester) (N := 9) hx hb hts i_Tester hown hK.1 hP 1 rfl rfl 1 (by decide) (hts _ w_363) (fun _ h9 => h9) rfl d_MT_port_24 ?_
    refine lv_istore_n (lv' := [(2, .int t_tester_ports), (0, .ref h_t), (1, .int a1)]) hx hb d_MT_port_27 rfl hl (by decide) rfl (fun ls hl => ?_)
    refine lv_aload_n hx hb d_MT_port_28 rfl (lv_at hl 1 rfl) ?_
    refine va_get (D := D) (ci := 0) (v := .ref h_t_tester) (C := R_MT) (T := F_MT) (N := 10) hx hb hts i_MT hown hK.1 hP 0 rfl rfl 6 (by decide) (hts _ w_97) (fun _ h9 => h9) rfl d_MT_port_29 ?_
    refine lv_iload_n hx hb d_MT_port_32 rfl (lv_at hl 2 rfl) ?_
    refine va_put (D := D) (ci := 8) (v := .int a1) (ty := .int) (C := R_Tester) (T := F_Tester) (N := 9) hx hb hts i_Tester t_Tester t_Tester_ok n_Tester hown hK.1 hP hD hS 1 rfl rfl 1 (by decide) (hts _ w_363) (fun _ h9 => h9) rfl (t_Tester_ok 1 (by decide)) rfl rfl (Nat.le_of_ble_eq_true rfl) d_MT_port_33 (fun H locs hP hD hS => ?_)
    have hP : va_P D classes [(h_t, .inr (0, [v_t_words, v_t_cells, v_t_tape, v_t_reader, v_t_faults, v_t_single, .ref h_t_tester, v_t_plan, v_t_march, v_t_draft])), (h_t_tester, .inr (8, [v_t_tester_failures, .int a1, v_t_tester_groundKind, v_t_tester_words, v_t_tester_allBits, v_t_tester_memory, v_t_tester_scrambled, v_t_tester_wordAt, v_t_tester_zeroOf]))] H := hP
    have hD : va_D A [(h_t, .inr (0, [v_t_words, v_t_cells, v_t_tape, v_t_reader, v_t_faults, v_t_single, .ref h_t_tester, v_t_plan, v_t_march, v_t_draft])), (h_t_tester, .inr (8, [v_t_tester_failures, .int a1, v_t_tester_groundKind, v_t_tester_words, v_t_tester_allBits, v_t_tester_memory, v_t_tester_scrambled, v_t_tester_wordAt, v_t_tester_zeroOf]))] := hD
    refine lv_iload_n hx hb d_MT_port_36 rfl (lv_at hl 0 rfl) ?_
    obtain rfl := Sum.inl.inj (Option.some.inj hf)
    exact ret_i hx hb hr hlocks hP hD hS ⟨rfl, rfl⟩ d_MT_port_37
  · have hf := ifF cc2 hf
    refine lv_iload_n hx hb d_MT_port_5 rfl (lv_at hl 1 rfl) ?_
    refine lv_iconst (v := 2) hx hb d_MT_port_6 (by decide) ?_
    refine lv_icmp_eq (tgt := 20) hx hb d_MT_port_7 (by decide) (fun cc7 => ?_) (fun cc7 => ?_)
    · have hf := ifT cc7 hf
      refine lv_aload_n hx hb d_MT_port_20 rfl (lv_at hl 0 rfl) ?_
      refine va_get (D := D) (ci := 0) (v := .ref h_t_tester) (C := R_MT) (T := F_MT) (N := 10) hx hb hts i_MT hown hK.1 hP 0 rfl rfl 6 (by decide) (hts _ w_97) (fun _ h9 => h9) rfl d_MT_port_21 ?_
      refine va_get (D := D) (ci := 8) (v := .int t_tester_ports) (C := R_Tester) (T := F_Tester) (N := 9) hx hb hts i_Tester hown hK.1 hP 1 rfl rfl 1 (by decide) (hts _ w_363) (fun _ h9 => h9) rfl d_MT_port_24 ?_
      refine lv_istore_n (lv' := [(2, .int t_tester_ports), (0, .ref h_t), (1, .int a1)]) hx hb d_MT_port_27 rfl hl (by decide) rfl (fun ls hl => ?_)
      refine lv_aload_n hx hb d_MT_port_28 rfl (lv_at hl 1 rfl) ?_
      refine va_get (D := D) (ci := 0) (v := .ref h_t_tester) (C := R_MT) (T := F_MT) (N := 10) hx hb hts i_MT hown hK.1 hP 0 rfl rfl 6 (by decide) (hts _ w_97) (fun _ h9 => h9) rfl d_MT_port_29 ?_
      refine lv_iload_n hx hb d_MT_port_32 rfl (lv_at hl 2 rfl) ?_
      refine va_put (D := D) (ci := 8) (v := .int a1) (ty := .int) (C := R_Tester) (T := F_Tester) (N := 9) hx hb hts i_Tester t_Tester t_Tester_ok n_Tester hown hK.1 hP hD hS 1 rfl rfl 1 (by decide) (hts _ w_363) (fun _ h9 => h9) rfl (t_Tester_ok 1 (by decide)) rfl rfl (Nat.le_of_ble_eq_true rfl) d_MT_port_33 (fun H locs hP hD hS => ?_)
      have hP : va_P D classes [(h_t, .inr (0, [v_t_words, v_t_cells, v_t_tape, v_t_reader, v_t_faults, v_t_single, .ref h_t_tester, v_t_plan, v_t_march, v_t_draft])), (h_t_tester, .inr (8, [v_t_tester_failures, .int a1, v_t_tester_groundKind, v_t_tester_words, v_t_tester_allBits, v_t_tester_memory, v_t_tester_scrambled, v_t_tester_wordAt, v_t_tester_zeroOf]))] H := hP
      have hD : va_D A [(h_t, .inr (0, [v_t_words, v_t_cells, v_t_tape, v_t_reader, v_t_faults, v_t_single, .ref h_t_tester, v_t_plan, v_t_march, v_t_draft])), (h_t_tester, .inr (8, [v_t_tester_failures, .int a1, v_t_tester_groundKind, v_t_tester_words, v_t_tester_allBits, v_t_tester_memory, v_t_tester_scrambled, v_t_tester_wordAt, v_t_tester_zeroOf]))] := hD
      refine lv_iload_n hx hb d_MT_port_36 rfl (lv_at hl 0 rfl) ?_
      obtain rfl := Sum.inl.inj (Option.some.inj hf)
      exact ret_i hx hb hr hlocks hP hD hS ⟨rfl, rfl⟩ d_MT_port_37
    · have hf := ifF cc7 hf
      exact absurd hf (by simp)
def f_MT_ground (t_tester_groundKind : Int32) (a1 : Int32) : Option ((Int32 × Int32) ⊕ Nat) :=
  (if a1 < 0 then
    some (Sum.inr 2)
  else
    (if a1 < 4 then
      (if t_tester_groundKind = a1 then
        some (Sum.inl (0, a1))
      else
        some (Sum.inl (1, a1)))
    else
      some (Sum.inr 2)))
def post_MT_ground (h_t h_t_tester : Nat) (v_t_words v_t_cells v_t_tape v_t_reader v_t_faults v_t_single v_t_plan v_t_march v_t_draft v_t_tester_failures v_t_tester_ports v_t_tester_words v_t_tester_allBits v_t_tester_memory v_t_tester_scrambled v_t_tester_wordAt v_t_tester_zeroOf : Value) (cI cB cJ : ClassId) (res : Int32 × Int32) : Option Value → va_W → Prop := fun o ws' => o = some (.int res.1) ∧ ws' = [(h_t, .inr (0, [v_t_words, v_t_cells, v_t_tape, v_t_reader, v_t_faults, v_t_single, .ref h_t_tester, v_t_plan, v_t_march, v_t_draft])), (h_t_tester, .inr (8, [v_t_tester_failures, v_t_tester_ports, .int res.2, v_t_tester_words, v_t_tester_allBits, v_t_tester_memory, v_t_tester_scrambled, v_t_tester_wordAt, v_t_tester_zeroOf]))]
abbrev rm_MT_ground : Room := { frames := 0, cells := 0, slots := 0, locals := 0 }
set_option maxHeartbeats 4000000 in
set_option maxRecDepth 100000 in
theorem c_MT_ground (l : Launch) (D : va_G) (cI cB cJ : ClassId) (h_t h_t_tester : Nat) (v_t_words v_t_cells v_t_tape v_t_reader v_t_faults v_t_single v_t_plan v_t_march v_t_draft v_t_tester_failures v_t_tester_ports v_t_tester_words v_t_tester_allBits v_t_tester_memory v_t_tester_scrambled v_t_tester_wordAt v_t_tester_zeroOf : Value) (t_tester_groundKind : Int32) (a1 : Int32) (sz : Nat) (res : Int32 × Int32) (hf : f_MT_ground t_tester_groundKind a1 = some (Sum.inl res)) : Met l y_MT_ground (.code y_MT_ground b_MT_ground 3 (some .boolean) :: TB) rm_MT_ground (PcW D [(cI, .int), (cB, .byte), (cJ, .long)] [.ref h_t, .int a1] [(h_t, .inr (0, [v_t_words, v_t_cells, v_t_tape, v_t_reader, v_t_faults, v_t_single, .ref h_t_tester, v_t_plan, v_t_march, v_t_draft])), (h_t_tester, .inr (8, [v_t_tester_failures, v_t_tester_ports, .int t_tester_groundKind, v_t_tester_words, v_t_tester_allBits, v_t_tester_memory, v_t_tester_scrambled, v_t_tester_wordAt, v_t_tester_zeroOf]))] sz) (QW D (post_MT_ground h_t h_t_tester v_t_words v_t_cells v_t_tape v_t_reader v_t_faults v_t_single v_t_plan v_t_march v_t_draft v_t_tester_failures v_t_tester_ports v_t_tester_words v_t_tester_allBits v_t_tester_memory v_t_tester_scrambled v_t_tester_wordAt v_t_tester_zeroOf cI cB cJ res) (va_A [(h_t, .inr (0, [v_t_words, v_t_cells, v_t_tape, v_t_reader, v_t_faults, v_t_single, .ref h_t_tester, v_t_plan, v_t_march, v_t_draft])), (h_t_tester, .inr (8, [v_t_tester_failures, v_t_tester_ports, .int t_tester_groundKind, v_t_tester_words, v_t_tester_allBits, v_t_tester_memory, v_t_tester_scrambled, v_t_tester_wordAt, v_t_tester_zeroOf]))] sz)) 0 0 (va_A [(h_t, .inr (0, [v_t_words, v_t_cells, v_t_tape, v_t_reader, v_t_faults, v_t_single, .ref h_t_tester, v_t_plan, v_t_march, v_t_draft])), (h_t_tester, .inr (8, [v_t_tester_failures, v_t_tester_ports, .int t_tester_groundKind, v_t_tester_words, v_t_tester_allBits, v_t_tester_memory, v_t_tester_scrambled, v_t_tester_wordAt, v_t_tester_zeroOf]))] sz) := by
  refine entW ⟨by decide +kernel, rfl⟩ fun p e s m below meth c C0 hP hD hsz ls hl => ?_
  subst hsz
  generalize hAe : va_A [(h_t, .inr (0, [v_t_words, v_t_cells, v_t_tape, v_t_reader, v_t_faults, v_t_single, .ref h_t_tester, v_t_plan, v_t_march, v_t_draft])), (h_t_tester, .inr (8, [v_t_tester_failures, v_t_tester_ports, .int t_tester_groundKind, v_t_tester_words, v_t_tester_allBits, v_t_tester_memory, v_t_tester_scrambled, v_t_tester_wordAt, v_t_tester_zeroOf]))] s.heap.size = A at hD ⊢
  have hA : ∀ q : Nat, s.heap.size ≤ q → A q := fun q h => by rw [← hAe]; exact Or.inr h
  clear hAe
  have hS : va_S A s.heap s.heap [] := va_S.rf
  have hl : lv_has ls 3 [(0, .ref h_t), (1, .int a1)] := hl
  obtain ⟨hx, hb, hml, hr, hlocks, hts, hown, hK, hin⟩ := id C0
  have hf : (((
  (if a1 < 0 then
    some (Sum.inr 2)
  else
    (if a1 < 4 then
      (if t_tester_groundKind = a1 then
        some (Sum.inl (0, a1))
      else
        some (Sum.inl (1, a1)))
    else
      some (Sum.inr 2))))) : Option ((Int32 × Int32) ⊕ Nat)) = some (Sum.inl res) := hf
  obtain ⟨H, hH⟩ : ∃ H, H = s.heap := ⟨_, rfl⟩
  obtain ⟨locs, hlo⟩ : ∃ x : List Loc, x = [] := ⟨_, rfl⟩
  rw [← hlo] at hS ⊢
  have hP : va_P D classes [(h_t, .inr (0, [v_t_words, v_t_cells, v_t_tape, v_t_reader, v_t_faults, v_t_single, .ref h_t_tester, v_t_plan, v_t_march, v_t_draft])), (h_t_tester, .inr (8, [v_t_tester_failures, v_t_tester_ports, .int t_tester_groundKind, v_t_tester_words, v_t_tester_allBits, v_t_tester_memory, v_t_tester_scrambled, v_t_tester_wordAt, v_t_tester_zeroOf]))] H := by rw [hH]; exact hP
  have hS : va_S A s.heap H locs := by rw [hH]; exact hS
  show W p l e rm_MT_ground s m _ below meth c s.heap locs 0 0 (MQ below (QW D (post_MT_ground h_t h_t_tester v_t_words v_t_cells v_t_tape v_t_reader v_t_faults v_t_single v_t_plan v_t_march v_t_draft v_t_tester_failures v_t_tester_ports v_t_tester_words v_t_tester_allBits v_t_tester_memory v_t_tester_scrambled v_t_tester_wordAt v_t_tester_zeroOf cI cB cJ res) A) _ s 0 0 A) (F0 m 0 ls [])
  refine wheap hH ?_
  clear hH hlo
  refine lv_iload_n hx hb d_MT_ground_0 rfl (lv_at hl 1 rfl) ?_
  refine lv_if_lt (tgt := 9) hx hb d_MT_ground_1 (by decide) (fun cc1 => ?_) (fun cc1 => ?_)
  · have hf := ifT cc1 hf
    exact absurd hf (by simp)
  · have hf := ifF cc1 hf
    refine lv_iload_n hx hb d_MT_ground_4 rfl (lv_at hl 1 rfl) ?_
    refine lv_iconst (v := 4) hx hb d_MT_ground_5 (by decide) ?_
    refine lv_icmp_lt (tgt := 19) hx hb d_MT_ground_6 (by decide) (fun cc6 => ?_) (fun cc6 => ?_)
    · have hf := ifT cc6 hf
      refine lv_aload_n hx hb d_MT_ground_19 rfl (lv_at hl 0 rfl) ?_
      refine va_get (D := D) (ci := 0) (v := .ref h_t_tester) (C := R_MT) (T := F_MT) (N := 10) hx hb hts i_MT hown hK.1 hP 0 rfl rfl 6 (by decide) (hts _ w_97) (fun _ h9 => h9) rfl d_MT_ground_20 ?_
      refine va_get (D := D) (ci := 8) (v := .int t_tester_groundKind) (C := R_Tester) (T := F_Tester) (N := 9) hx hb hts i_Tester hown hK.1 hP 1 rfl rfl 2 (by decide) (hts _ w_364) (fun _ h9 => h9) rfl d_MT_ground_23 ?_
      refine lv_iload_n hx hb d_MT_ground_26 rfl (lv_at hl 1 rfl) ?_
      refine lv_icmp_eq (tgt := 34) hx hb d_MT_ground_27 (by decide) (fun cc27 => ?_) (fun cc27 => ?_)
      · have hf := ifT cc27 hf
        refine lv_iconst (v := 0) hx hb d_MT_ground_34 (by decide) ?_
        refine lv_istore_n (lv' := [(2, .int 0), (0, .ref h_t), (1, .int a1)]) hx hb d_MT_ground_35 rfl hl (by decide) rfl (fun ls hl => ?_)
        refine lv_aload_n hx hb d_MT_ground_36 rfl (lv_at hl 1 rfl) ?_
        refine va_get (D := D) (ci := 0) (v := .ref h_t_tester) (C := R_MT) (T := F_MT) (N := 10) hx hb hts i_MT hown hK.1 hP 0 rfl rfl 6 (by decide) (hts _ w_97) (fun _ h9 => h9) rfl d_MT_ground_37 ?_
        refine lv_iload_n hx hb d_MT_ground_40 rfl (lv_at hl 2 rfl) ?_
        refine va_put (D := D) (ci := 8) (v := .int a1) (ty := .int) (C := R_Tester) (T := F_Tester) (N := 9) hx hb hts i_Tester t_Tester t_Tester_ok n_Tester hown hK.1 hP hD hS 1 rfl rfl 2 (by decide) (hts _ w_364) (fun _ h9 => h9) rfl (t_Tester_ok 2 (by decide)) rfl rfl (Nat.le_of_ble_eq_true rfl) d_MT_ground_41 (fun H locs hP hD hS => ?_)
        have hP : va_P D classes [(h_t, .inr (0, [v_t_words, v_t_cells, v_t_tape, v_t_reader, v_t_faults, v_t_single, .ref h_t_tester, v_t_plan, v_t_march, v_t_draft])), (h_t_tester, .inr (8, [v_t_tester_failures, v_t_tester_ports, .int a1, v_t_tester_words, v_t_tester_allBits, v_t_tester_memory, v_t_tester_scrambled, v_t_tester_wordAt, v_t_tester_zeroOf]))] H := hP
        have hD : va_D A [(h_t, .inr (0, [v_t_words, v_t_cells, v_t_tape, v_t_reader, v_t_faults, v_t_single, .ref h_t_tester, v_t_plan, v_t_march, v_t_draft])), (h_t_tester, .inr (8, [v_t_tester_failures, v_t_tester_ports, .int a1, v_t_tester_words, v_t_tester_allBits, v_t_tester_memory, v_t_tester_scrambled, v_t_tester_wordAt, v_t_tester_zeroOf]))] := hD
        refine lv_iload_n hx hb d_MT_ground_44 rfl (lv_at hl 0 rfl) ?_
        obtain rfl := Sum.inl.inj (Option.some.inj hf)
        exact ret_z hx hb hr rfl hlocks hP hD hS ⟨rfl, rfl⟩ d_MT_ground_45
      · have hf := ifF cc27 hf
        refine lv_iconst (v := 1) hx hb d_MT_ground_30 (by decide) ?_
        refine lv_goto (tgt := 35) hx hb d_MT_ground_31 (by decide) ?_
        refine lv_istore_n (lv' := [(2, .int 1), (0, .ref h_t), (1, .int a1)]) hx hb d_MT_ground_35 rfl hl (by decide) rfl (fun ls hl => ?_)
        refine lv_aload_n hx hb d_MT_ground_36 rfl (lv_at hl 1 rfl) ?_
        refine va_get (D := D) (ci := 0) (v := .ref h_t_tester) (C := R_MT) (T := F_MT) (N := 10) hx hb hts i_MT hown hK.1 hP 0 rfl rfl 6 (by decide) (hts _ w_97) (fun _ h9 => h9) rfl d_MT_ground_37 ?_
        refine lv_iload_n hx hb d_MT_ground_40 rfl (lv_at hl 2 rfl) ?_
        refine va_put (D := D) (ci := 8) (v := .int a1) (ty := .int) (C := R_Tester) (T := F_Tester) (N := 9) hx hb hts i_Tester t_Tester t_Tester_ok n_Tester hown hK.1 hP hD hS 1 rfl rfl 2 (by decide) (hts _ w_364) (fun _ h9 => h9) rfl (t_Tester_ok 2 (by decide)) rfl rfl (Nat.le_of_ble_eq_true rfl) d_MT_ground_41 (fun H locs hP hD hS => ?_)
        have hP : va_P D classes [(h_t, .inr (0, [v_t_words, v_t_cells, v_t_tape, v_t_reader, v_t_faults, v_t_single, .ref h_t_tester, v_t_plan, v_t_march, v_t_draft])), (h_t_tester, .inr (8, [v_t_tester_failures, v_t_tester_ports, .int a1, v_t_tester_words, v_t_tester_allBits, v_t_tester_memory, v_t_tester_scrambled, v_t_tester_wordAt, v_t_tester_zeroOf]))] H := hP
        have hD : va_D A [(h_t, .inr (0, [v_t_words, v_t_cells, v_t_tape, v_t_reader, v_t_faults, v_t_single, .ref h_t_tester, v_t_plan, v_t_march, v_t_draft])), (h_t_tester, .inr (8, [v_t_tester_failures, v_t_tester_ports, .int a1, v_t_tester_words, v_t_tester_allBits, v_t_tester_memory, v_t_tester_scrambled, v_t_tester_wordAt, v_t_tester_zeroOf]))] := hD
        refine lv_iload_n hx hb d_MT_ground_44 rfl (lv_at hl 0 rfl) ?_
        obtain rfl := Sum.inl.inj (Option.some.inj hf)
        exact ret_z hx hb hr rfl hlocks hP hD hS ⟨rfl, rfl⟩ d_MT_ground_45
    · have hf := ifF cc6 hf
      exact absurd hf (by simp)
def f_RF_thrown (t_thrown : Int32) : Option (Int32) :=
  some t_thrown
def post_RF_thrown (h_t : Nat) (v_t_words v_t_bits v_t_cells v_t_sense v_t_kinds v_t_victims v_t_others v_t_faults v_t_toldKinds v_t_toldVictims v_t_toldOthers v_t_told v_t_ground v_t_ports v_t_scrambled v_t_places v_t_sorts v_t_counts v_t_operations v_t_elements v_t_newSorts v_t_newCounts v_t_newOperations v_t_tape v_t_tapeSize v_t_place v_t_failed v_t_failedCount v_t_keeps v_t_some v_t_repairedRows v_t_repairedColumns v_t_proof : Value) (t_thrown : Int32) (cI cB cJ : ClassId) (res : Int32) : Option Value → va_W → Prop := fun o ws' => o = some (.int res) ∧ ws' = [(h_t, .inr (1, [.int t_thrown, v_t_words, v_t_bits, v_t_cells, v_t_sense, v_t_kinds, v_t_victims, v_t_others, v_t_faults, v_t_toldKinds, v_t_toldVictims, v_t_toldOthers, v_t_told, v_t_ground, v_t_ports, v_t_scrambled, v_t_places, v_t_sorts, v_t_counts, v_t_operations, v_t_elements, v_t_newSorts, v_t_newCounts, v_t_newOperations, v_t_tape, v_t_tapeSize, v_t_place, v_t_failed, v_t_failedCount, v_t_keeps, v_t_some, v_t_repairedRows, v_t_repairedColumns, v_t_proof]))]
abbrev rm_RF_thrown : Room := { frames := 0, cells := 0, slots := 0, locals := 0 }
set_option maxHeartbeats 4000000 in
set_option maxRecDepth 100000 in
theorem c_RF_thrown (l : Launch) (D : va_G) (cI cB cJ : ClassId) (h_t : Nat) (v_t_words v_t_bits v_t_cells v_t_sense v_t_kinds v_t_victims v_t_others v_t_faults v_t_toldKinds v_t_toldVictims v_t_toldOthers v_t_told v_t_ground v_t_ports v_t_scrambled v_t_places v_t_sorts v_t_counts v_t_operations v_t_elements v_t_newSorts v_t_newCounts v_t_newOperations v_t_tape v_t_tapeSize v_t_place v_t_failed v_t_failedCount v_t_keeps v_t_some v_t_repairedRows v_t_repairedColumns v_t_proof : Value) (t_thrown : Int32) (sz : Nat) (res : Int32) (hf : f_RF_thrown t_thrown = some res) : Met l y_RF_thrown (.code y_RF_thrown b_RF_thrown 1 (some .int) :: TB) rm_RF_thrown (PcW D [(cI, .int), (cB, .byte), (cJ, .long)] [.ref h_t] [(h_t, .inr (1, [.int t_thrown, v_t_words, v_t_bits, v_t_cells, v_t_sense, v_t_kinds, v_t_victims, v_t_others, v_t_faults, v_t_toldKinds, v_t_toldVictims, v_t_toldOthers, v_t_told, v_t_ground, v_t_ports, v_t_scrambled, v_t_places, v_t_sorts, v_t_counts, v_t_operations, v_t_elements, v_t_newSorts, v_t_newCounts, v_t_newOperations, v_t_tape, v_t_tapeSize, v_t_place, v_t_failed, v_t_failedCount, v_t_keeps, v_t_some, v_t_repairedRows, v_t_repairedColumns, v_t_proof]))] sz) (QW D (post_RF_thrown h_t v_t_words v_t_bits v_t_cells v_t_sense v_t_kinds v_t_victims v_t_others v_t_faults v_t_toldKinds v_t_toldVictims v_t_toldOthers v_t_told v_t_ground v_t_ports v_t_scrambled v_t_places v_t_sorts v_t_counts v_t_operations v_t_elements v_t_newSorts v_t_newCounts v_t_newOperations v_t_tape v_t_tapeSize v_t_place v_t_failed v_t_failedCount v_t_keeps v_t_some v_t_repairedRows v_t_repairedColumns v_t_proof t_thrown cI cB cJ res) (va_A [(h_t, .inr (1, [.int t_thrown, v_t_words, v_t_bits, v_t_cells, v_t_sense, v_t_kinds, v_t_victims, v_t_others, v_t_faults, v_t_toldKinds, v_t_toldVictims, v_t_toldOthers, v_t_told, v_t_ground, v_t_ports, v_t_scrambled, v_t_places, v_t_sorts, v_t_counts, v_t_operations, v_t_elements, v_t_newSorts, v_t_newCounts, v_t_newOperations, v_t_tape, v_t_tapeSize, v_t_place, v_t_failed, v_t_failedCount, v_t_keeps, v_t_some, v_t_repairedRows, v_t_repairedColumns, v_t_proof]))] sz)) 0 0 (va_A [(h_t, .inr (1, [.int t_thrown, v_t_words, v_t_bits, v_t_cells, v_t_sense, v_t_kinds, v_t_victims, v_t_others, v_t_faults, v_t_toldKinds, v_t_toldVictims, v_t_toldOthers, v_t_told, v_t_ground, v_t_ports, v_t_scrambled, v_t_places, v_t_sorts, v_t_counts, v_t_operations, v_t_elements, v_t_newSorts, v_t_newCounts, v_t_newOperations, v_t_tape, v_t_tapeSize, v_t_place, v_t_failed, v_t_failedCount, v_t_keeps, v_t_some, v_t_repairedRows, v_t_repairedColumns, v_t_proof]))] sz) := by
  refine entW ⟨by decide +kernel, rfl⟩ fun p e s m below meth c C0 hP hD hsz ls hl => ?_
  subst hsz
  generalize hAe : va_A [(h_t, .inr (1, [.int t_thrown, v_t_words, v_t_bits, v_t_cells, v_t_sense, v_t_kinds, v_t_victims, v_t_others, v_t_faults, v_t_toldKinds, v_t_toldVictims, v_t_toldOthers, v_t_told, v_t_ground, v_t_ports, v_t_scrambled, v_t_places, v_t_sorts, v_t_counts, v_t_operations, v_t_elements, v_t_newSorts, v_t_newCounts, v_t_newOperations, v_t_tape, v_t_tapeSize, v_t_place, v_t_failed, v_t_failedCount, v_t_keeps, v_t_some, v_t_repairedRows, v_t_repairedColumns, v_t_proof]))] s.heap.size = A at hD ⊢
  have hA : ∀ q : Nat, s.heap.size ≤ q → A q := fun q h => by rw [← hAe]; exact Or.inr h
  clear hAe
  have hS : va_S A s.heap s.heap [] := va_S.rf
  have hl : lv_has ls 1 [(0, .ref h_t)] := hl
  obtain ⟨hx, hb, hml, hr, hlocks, hts, hown, hK, hin⟩ := id C0
  have hf : (((
  some t_thrown)) : Option (Int32)) = some res := hf
  obtain ⟨H, hH⟩ : ∃ H, H = s.heap := ⟨_, rfl⟩
  obtain ⟨locs, hlo⟩ : ∃ x : List Loc, x = [] := ⟨_, rfl⟩
  rw [← hlo] at hS ⊢
  have hP : va_P D classes [(h_t, .inr (1, [.int t_thrown, v_t_words, v_t_bits, v_t_cells, v_t_sense, v_t_kinds, v_t_victims, v_t_others, v_t_faults, v_t_toldKinds, v_t_toldVictims, v_t_toldOthers, v_t_told, v_t_ground, v_t_ports, v_t_scrambled, v_t_places, v_t_sorts, v_t_counts, v_t_operations, v_t_elements, v_t_newSorts, v_t_newCounts, v_t_newOperations, v_t_tape, v_t_tapeSize, v_t_place, v_t_failed, v_t_failedCount, v_t_keeps, v_t_some, v_t_repairedRows, v_t_repairedColumns, v_t_proof]))] H := by rw [hH]; exact hP
  have hS : va_S A s.heap H locs := by rw [hH]; exact hS
  show W p l e rm_RF_thrown s m _ below meth c s.heap locs 0 0 (MQ below (QW D (post_RF_thrown h_t v_t_words v_t_bits v_t_cells v_t_sense v_t_kinds v_t_victims v_t_others v_t_faults v_t_toldKinds v_t_toldVictims v_t_toldOthers v_t_told v_t_ground v_t_ports v_t_scrambled v_t_places v_t_sorts v_t_counts v_t_operations v_t_elements v_t_newSorts v_t_newCounts v_t_newOperations v_t_tape v_t_tapeSize v_t_place v_t_failed v_t_failedCount v_t_keeps v_t_some v_t_repairedRows v_t_repairedColumns v_t_proof t_thrown cI cB cJ res) A) _ s 0 0 A) (F0 m 0 ls [])
  refine wheap hH ?_
  clear hH hlo
  refine lv_aload_n hx hb d_RF_thrown_0 rfl (lv_at hl 0 rfl) ?_
  refine va_get (D := D) (ci := 1) (v := .int t_thrown) (C := R_RF) (T := F_RF) (N := 34) hx hb hts i_RF hown hK.1 hP 0 rfl rfl 0 (by decide) (hts _ w_387) (fun _ h9 => h9) rfl d_RF_thrown_1 ?_
  obtain rfl := Option.some.inj hf
  exact ret_i hx hb hr hlocks hP hD hS ⟨rfl, rfl⟩ d_RF_thrown_4
def f_RF_unit_20 (n_t_tape : Nat) (t_thrown : Int32) (t_tapeSize : Int32) (t_tape_a : Nat → Int32) (s0 : Int32) (x1 : Int32) : Option (Int32 × Int32 × Int32 × (Nat → Int32)) :=
  (if s0 = 0 then
    (if isB s0 = true then
    some (s0, t_thrown, t_tapeSize, t_tape_a)
    else none)
  else
    (if inB t_tapeSize n_t_tape = true then
    (if isB s0 = true then
    some (s0, t_thrown, (t_tapeSize + 1), (upd t_tape_a (Int32.toNatClampNeg t_tapeSize) (x1 &&& 255)))
    else none)
    else none))
def f_RF_unit (n_t_tape : Nat) (t_tapeSize : Int32) (t_tape_a : Nat → Int32) (a1 : Int32) : Option (Int32 × Int32 × Int32 × (Nat → Int32)) :=
  (if 400 ≤ t_tapeSize then
    (f_RF_unit_20 n_t_tape 0 t_tapeSize t_tape_a 0 a1)
  else
    (f_RF_unit_20 n_t_tape 0 t_tapeSize t_tape_a 1 a1))
def post_RF_unit (h_t h_t_tape : Nat) (v_t_words v_t_bits v_t_cells v_t_sense v_t_kinds v_t_victims v_t_others v_t_faults v_t_toldKinds v_t_toldVictims v_t_toldOthers v_t_told v_t_ground v_t_ports v_t_scrambled v_t_places v_t_sorts v_t_counts v_t_operations v_t_elements v_t_newSorts v_t_newCounts v_t_newOperations v_t_place v_t_failed v_t_failedCount v_t_keeps v_t_some v_t_repairedRows v_t_repairedColumns v_t_proof : Value) (n_t_tape : Nat) (cI cB cJ : ClassId) (res : Int32 × Int32 × Int32 × (Nat → Int32)) : Option Value → va_W → Prop := fun o ws' => o = some (.int res.1) ∧ ws' = [(h_t, .inr (1, [.int res.2.1, v_t_words, v_t_bits, v_t_cells, v_t_sense, v_t_kinds, v_t_victims, v_t_others, v_t_faults, v_t_toldKinds, v_t_toldVictims, v_t_toldOthers, v_t_told, v_t_ground, v_t_ports, v_t_scrambled, v_t_places, v_t_sorts, v_t_counts, v_t_operations, v_t_elements, v_t_newSorts, v_t_newCounts, v_t_newOperations, .ref h_t_tape, .int res.2.2.1, v_t_place, v_t_failed, v_t_failedCount, v_t_keeps, v_t_some, v_t_repairedRows, v_t_repairedColumns, v_t_proof])), (h_t_tape, .inl (cI, n_t_tape, .inl res.2.2.2))]
abbrev rm_RF_unit : Room := { frames := 0, cells := 0, slots := 0, locals := 0 }
set_option maxHeartbeats 4000000 in
set_option maxRecDepth 100000 in
theorem k_RF_unit_20 {p : Program} {l : Launch} {e : Env} {s : State} {m : MethodId} {args : Array Value} {below : List Frame} {meth : Method} {c : Code} {D : va_G} {cI cB cJ : ClassId} {A : Nat → Prop} (C0 : CX p s m args meth c D [(cI, .int), (cB, .byte), (cJ, .long)] R_RF b_RF_unit 3 (some .boolean) "unit") (hA : ∀ q, s.heap.size ≤ q → A q) {h_t h_t_tape : Nat} {v_t_words v_t_bits v_t_cells v_t_sense v_t_kinds v_t_victims v_t_others v_t_faults v_t_toldKinds v_t_toldVictims v_t_toldOthers v_t_told v_t_ground v_t_ports v_t_scrambled v_t_places v_t_sorts v_t_counts v_t_operations v_t_elements v_t_newSorts v_t_newCounts v_t_newOperations v_t_place v_t_failed v_t_failedCount v_t_keeps v_t_some v_t_repairedRows v_t_repairedColumns v_t_proof : Value} {res : Int32 × Int32 × Int32 × (Nat → Int32)} {n_t_tape : Nat} {t_thrown : Int32} {t_tapeSize : Int32} {t_tape_a : Nat → Int32} {s0 : Int32} {x1 : Int32}
    (hf : f_RF_unit_20 n_t_tape t_thrown t_tapeSize t_tape_a s0 x1 = some res) {H : Heap} {locs : List Loc} {ls : Array Slot} (hP : va_P D classes [(h_t, .inr (1, [.int t_thrown, v_t_words, v_t_bits, v_t_cells, v_t_sense, v_t_kinds, v_t_victims, v_t_others, v_t_faults, v_t_toldKinds, v_t_toldVictims, v_t_toldOthers, v_t_told, v_t_ground, v_t_ports, v_t_scrambled, v_t_places, v_t_sorts, v_t_counts, v_t_operations, v_t_elements, v_t_newSorts, v_t_newCounts, v_t_newOperations, .ref h_t_tape, .int t_tapeSize, v_t_place, v_t_failed, v_t_failedCount, v_t_keeps, v_t_some, v_t_repairedRows, v_t_repairedColumns, v_t_proof])), (h_t_tape, .inl (cI, n_t_tape, .inl t_tape_a))] H) (hD : va_D A [(h_t, .inr (1, [.int t_thrown, v_t_words, v_t_bits, v_t_cells, v_t_sense, v_t_kinds, v_t_victims, v_t_others, v_t_faults, v_t_toldKinds, v_t_toldVictims, v_t_toldOthers, v_t_told, v_t_ground, v_t_ports, v_t_scrambled, v_t_places, v_t_sorts, v_t_counts, v_t_operations, v_t_elements, v_t_newSorts, v_t_newCounts, v_t_newOperations, .ref h_t_tape, .int t_tapeSize, v_t_place, v_t_failed, v_t_failedCount, v_t_keeps, v_t_some, v_t_repairedRows, v_t_repairedColumns, v_t_proof])), (h_t_tape, .inl (cI, n_t_tape, .inl t_tape_a))]) (hS : va_S A s.heap H locs) (hl : lv_has ls 3 [(0, .ref h_t), (1, .int x1)]) : W p l e rm_RF_unit s m args below meth c H locs 0 0 (MQ below (QW D (post_RF_unit h_t h_t_tape v_t_words v_t_bits v_t_cells v_t_sense v_t_kinds v_t_victims v_t_others v_t_faults v_t_toldKinds v_t_toldVictims v_t_toldOthers v_t_told v_t_ground v_t_ports v_t_scrambled v_t_places v_t_sorts v_t_counts v_t_operations v_t_elements v_t_newSorts v_t_newCounts v_t_newOperations v_t_place v_t_failed v_t_failedCount v_t_keeps v_t_some v_t_repairedRows v_t_repairedColumns v_t_proof n_t_tape cI cB cJ res) A) args s 0 0 A) (F0 m 20 ls [.int s0]) := by
  obtain ⟨hx, hb, hml, hr, hlocks, hts, hown, hK, hin⟩ := id C0
  have hf : (((
  (if s0 = 0 then
    (if isB s0 = true then
    some (s0, t_thrown, t_tapeSize, t_tape_a)
    else none)
  else
    (if inB t_tapeSize n_t_tape = true then
    (if isB s0 = true then
    some (s0, t_thrown, (t_tapeSize + 1), (upd t_tape_a (Int32.toNatClampNeg t_tapeSize) (x1 &&& 255)))
    else none)
    else none)))) : Option (Int32 × Int32 × Int32 × (Nat → Int32))) = some res := hf
  refine lv_istore_n (lv' := [(2, .int s0), (0, .ref h_t), (1, .int x1)]) hx hb d_RF_unit_20 rfl hl (by decide) rfl (fun ls hl => ?_)
  refine lv_iload_n hx hb d_RF_unit_21 rfl (lv_at hl 0 rfl) ?_
  refine lv_if_eq (tgt := 49) hx hb d_RF_unit_22 (by decide) (fun cc22 => ?_) (fun cc22 => ?_)
  · have hf := ifT cc22 hf
    refine lv_iload_n hx hb d_RF_unit_49 rfl (lv_at hl 0 rfl) ?_
    obtain ⟨hbb, hf⟩ := ifG hf
    obtain rfl := Option.some.inj hf
    exact ret_z hx hb hr (nar_b hbb) hlocks hP hD hS ⟨rfl, rfl⟩ d_RF_unit_50
  · have hf := ifF cc22 hf
    refine lv_aload_n hx hb d_RF_unit_25 rfl (lv_at hl 1 rfl) ?_
    refine va_get (D := D) (ci := 1) (v := .ref h_t_tape) (C := R_RF) (T := F_RF) (N := 34) hx hb hts i_RF hown hK.1 hP 0 rfl rfl 24 (by decide) (hts _ w_382) (fun _ h9 => h9) rfl d_RF_unit_26 ?_
    refine lv_aload_n hx hb d_RF_unit_29 rfl (lv_at hl 1 rfl) ?_
    refine va_get (D := D) (ci := 1) (v := .int t_tapeSize) (C := R_RF) (T := F_RF) (N := 34) hx hb hts i_RF hown hK.1 hP 0 rfl rfl 25 (by decide) (hts _ w_388) (fun _ h9 => h9) rfl d_RF_unit_30 ?_
    refine lv_iload_n hx hb d_RF_unit_33 rfl (lv_at hl 2 rfl) ?_
    refine lv_sipush (v := 255) hx hb d_RF_unit_34 (by decide) ?_
    refine lv_iand hx hb d_RF_unit_37 ?_
    obtain ⟨hin1, hf⟩ := ifG hf
    refine va_iast hx hb hK.1 hP hD hS 1 0 rfl rfl (inB_in hin1) d_RF_unit_38 (fun H locs hP hD hS => ?_)
    have hP : va_P D classes [(h_t, .inr (1, [.int t_thrown, v_t_words, v_t_bits, v_t_cells, v_t_sense, v_t_kinds, v_t_victims, v_t_others, v_t_faults, v_t_toldKinds, v_t_toldVictims, v_t_toldOthers, v_t_told, v_t_ground, v_t_ports, v_t_scrambled, v_t_places, v_t_sorts, v_t_counts, v_t_operations, v_t_elements, v_t_newSorts, v_t_newCounts, v_t_newOperations, .ref h_t_tape, .int t_tapeSize, v_t_place, v_t_failed, v_t_failedCount, v_t_keeps, v_t_some, v_t_repairedRows, v_t_repairedColumns, v_t_proof])), (h_t_tape, .inl (cI, n_t_tape, .inl (upd t_tape_a (Int32.toNatClampNeg t_tapeSize) (x1 &&& 255))))] H := hP
    have hD : va_D A [(h_t, .inr (1, [.int t_thrown, v_t_words, v_t_bits, v_t_cells, v_t_sense, v_t_kinds, v_t_victims, v_t_others, v_t_faults, v_t_toldKinds, v_t_toldVictims, v_t_toldOthers, v_t_told, v_t_ground, v_t_ports, v_t_scrambled, v_t_places, v_t_sorts, v_t_counts, v_t_operations, v_t_elements, v_t_newSorts, v_t_newCounts, v_t_newOperations, .ref h_t_tape, .int t_tapeSize, v_t_place, v_t_failed, v_t_failedCount, v_t_keeps, v_t_some, v_t_repairedRows, v_t_repairedColumns, v_t_proof])), (h_t_tape, .inl (cI, n_t_tape, .inl (upd t_tape_a (Int32.toNatClampNeg t_tapeSize) (x1 &&& 255))))] := hD
    refine lv_aload_n hx hb d_RF_unit_39 rfl (lv_at hl 1 rfl) ?_
    refine lv_dup hx hb d_RF_unit_40 rfl ?_
    refine va_get (D := D) (ci := 1) (v := .int t_tapeSize) (C := R_RF) (T := F_RF) (N := 34) hx hb hts i_RF hown hK.1 hP 0 rfl rfl 25 (by decide) (hts _ w_388) (fun _ h9 => h9) rfl d_RF_unit_41 ?_
    refine lv_iconst (v := 1) hx hb d_RF_unit_44 (by decide) ?_
    refine lv_iadd hx hb d_RF_unit_45 ?_
    refine va_put (D := D) (ci := 1) (v := .int (t_tapeSize + 1)) (ty := .int) (C := R_RF) (T := F_RF) (N := 34) hx hb hts i_RF t_RF t_RF_ok n_RF hown hK.1 hP hD hS 0 rfl rfl 25 (by decide) (hts _ w_388) (fun _ h9 => h9) rfl (t_RF_ok 25 (by decide)) rfl rfl (Nat.le_of_ble_eq_true rfl) d_RF_unit_46 (fun H locs hP hD hS => ?_)
    have hP : va_P D classes [(h_t, .inr (1, [.int t_thrown, v_t_words, v_t_bits, v_t_cells, v_t_sense, v_t_kinds, v_t_victims, v_t_others, v_t_faults, v_t_toldKinds, v_t_toldVictims, v_t_toldOthers, v_t_told, v_t_ground, v_t_ports, v_t_scrambled, v_t_places, v_t_sorts, v_t_counts, v_t_operations, v_t_elements, v_t_newSorts, v_t_newCounts, v_t_newOperations, .ref h_t_tape, .int (t_tapeSize + 1), v_t_place, v_t_failed, v_t_failedCount, v_t_keeps, v_t_some, v_t_repairedRows, v_t_repairedColumns, v_t_proof])), (h_t_tape, .inl (cI, n_t_tape, .inl (upd t_tape_a (Int32.toNatClampNeg t_tapeSize) (x1 &&& 255))))] H := hP
    have hD : va_D A [(h_t, .inr (1, [.int t_thrown, v_t_words, v_t_bits, v_t_cells, v_t_sense, v_t_kinds, v_t_victims, v_t_others, v_t_faults, v_t_toldKinds, v_t_toldVictims, v_t_toldOthers, v_t_told, v_t_ground, v_t_ports, v_t_scrambled, v_t_places, v_t_sorts, v_t_counts, v_t_operations, v_t_elements, v_t_newSorts, v_t_newCounts, v_t_newOperations, .ref h_t_tape, .int (t_tapeSize + 1), v_t_place, v_t_failed, v_t_failedCount, v_t_keeps, v_t_some, v_t_repairedRows, v_t_repairedColumns, v_t_proof])), (h_t_tape, .inl (cI, n_t_tape, .inl (upd t_tape_a (Int32.toNatClampNeg t_tapeSize) (x1 &&& 255))))] := hD
    refine lv_iload_n hx hb d_RF_unit_49 rfl (lv_at hl 0 rfl) ?_
    obtain ⟨hbb, hf⟩ := ifG hf
    obtain rfl := Option.some.inj hf
    exact ret_z hx hb hr (nar_b hbb) hlocks hP hD hS ⟨rfl, rfl⟩ d_RF_unit_50
set_option maxHeartbeats 4000000 in
set_option maxRecDepth 100000 in
theorem c_RF_unit (l : Launch) (D : va_G) (cI cB cJ : ClassId) (h_t h_t_tape : Nat) (v_t_words v_t_bits v_t_cells v_t_sense v_t_kinds v_t_victims v_t_others v_t_faults v_t_toldKinds v_t_toldVictims v_t_toldOthers v_t_told v_t_ground v_t_ports v_t_scrambled v_t_places v_t_sorts v_t_counts v_t_operations v_t_elements v_t_newSorts v_t_newCounts v_t_newOperations v_t_place v_t_failed v_t_failedCount v_t_keeps v_t_some v_t_repairedRows v_t_repairedColumns v_t_proof : Value) (n_t_tape : Nat) (t_thrown : Int32) (t_tapeSize : Int32) (t_tape_a : Nat → Int32) (a1 : Int32) (sz : Nat) (res : Int32 × Int32 × Int32 × (Nat → Int32)) (hf : f_RF_unit n_t_tape t_tapeSize t_tape_a a1 = some res) : Met l y_RF_unit (.code y_RF_unit b_RF_unit 3 (some .boolean) :: TB) rm_RF_unit (PcW D [(cI, .int), (cB, .byte), (cJ, .long)] [.ref h_t, .int a1] [(h_t, .inr (1, [.int t_thrown, v_t_words, v_t_bits, v_t_cells, v_t_sense, v_t_kinds, v_t_victims, v_t_others, v_t_faults, v_t_toldKinds, v_t_toldVictims, v_t_toldOthers, v_t_told, v_t_ground, v_t_ports, v_t_scrambled, v_t_places, v_t_sorts, v_t_counts, v_t_operations, v_t_elements, v_t_newSorts, v_t_newCounts, v_t_newOperations, .ref h_t_tape, .int t_tapeSize, v_t_place, v_t_failed, v_t_failedCount, v_t_keeps, v_t_some, v_t_repairedRows, v_t_repairedColumns, v_t_proof])), (h_t_tape, .inl (cI, n_t_tape, .inl t_tape_a))] sz) (QW D (post_RF_unit h_t h_t_tape v_t_words v_t_bits v_t_cells v_t_sense v_t_kinds v_t_victims v_t_others v_t_faults v_t_toldKinds v_t_toldVictims v_t_toldOthers v_t_told v_t_ground v_t_ports v_t_scrambled v_t_places v_t_sorts v_t_counts v_t_operations v_t_elements v_t_newSorts v_t_newCounts v_t_newOperations v_t_place v_t_failed v_t_failedCount v_t_keeps v_t_some v_t_repairedRows v_t_repairedColumns v_t_proof n_t_tape cI cB cJ res) (va_A [(h_t, .inr (1, [.int t_thrown, v_t_words, v_t_bits, v_t_cells, v_t_sense, v_t_kinds, v_t_victims, v_t_others, v_t_faults, v_t_toldKinds, v_t_toldVictims, v_t_toldOthers, v_t_told, v_t_ground, v_t_ports, v_t_scrambled, v_t_places, v_t_sorts, v_t_counts, v_t_operations, v_t_elements, v_t_newSorts, v_t_newCounts, v_t_newOperations, .ref h_t_tape, .int t_tapeSize, v_t_place, v_t_failed, v_t_failedCount, v_t_keeps, v_t_some, v_t_repairedRows, v_t_repairedColumns, v_t_proof])), (h_t_tape, .inl (cI, n_t_tape, .inl t_tape_a))] sz)) 0 0 (va_A [(h_t, .inr (1, [.int t_thrown, v_t_words, v_t_bits, v_t_cells, v_t_sense, v_t_kinds, v_t_victims, v_t_others, v_t_faults, v_t_toldKinds, v_t_toldVictims, v_t_toldOthers, v_t_told, v_t_ground, v_t_ports, v_t_scrambled, v_t_places, v_t_sorts, v_t_counts, v_t_operations, v_t_elements, v_t_newSorts, v_t_newCounts, v_t_newOperations, .ref h_t_tape, .int t_tapeSize, v_t_place, v_t_failed, v_t_failedCount, v_t_keeps, v_t_some, v_t_repairedRows, v_t_repairedColumns, v_t_proof])), (h_t_tape, .inl (cI, n_t_tape, .inl t_tape_a))] sz) := by
  refine entW ⟨by decide +kernel, rfl⟩ fun p e s m below meth c C0 hP hD hsz ls hl => ?_
  subst hsz
  generalize hAe : va_A [(h_t, .inr (1, [.int t_thrown, v_t_words, v_t_bits, v_t_cells, v_t_sense, v_t_kinds, v_t_victims, v_t_others, v_t_faults, v_t_toldKinds, v_t_toldVictims, v_t_toldOthers, v_t_told, v_t_ground, v_t_ports, v_t_scrambled, v_t_places, v_t_sorts, v_t_counts, v_t_operations, v_t_elements, v_t_newSorts, v_t_newCounts, v_t_newOperations, .ref h_t_tape, .int t_tapeSize, v_t_place, v_t_failed, v_t_failedCount, v_t_keeps, v_t_some, v_t_repairedRows, v_t_repairedColumns, v_t_proof])), (h_t_tape, .inl (cI, n_t_tape, .inl t_tape_a))] s.heap.size = A at hD ⊢
  have hA : ∀ q : Nat, s.heap.size ≤ q → A q := fun q h => by rw [← hAe]; exact Or.inr h
  clear hAe
  have hS : va_S A s.heap s.heap [] := va_S.rf
  have hl : lv_has ls 3 [(0, .ref h_t), (1, .int a1)] := hl
  obtain ⟨hx, hb, hml, hr, hlocks, hts, hown, hK, hin⟩ := id C0
  have hf : (((
  (if 400 ≤ t_tapeSize then
    (f_RF_unit_20 n_t_tape 0 t_tapeSize t_tape_a 0 a1)
  else
    (f_RF_unit_20 n_t_tape 0 t_tapeSize t_tape_a 1 a1)))) : Option (Int32 × Int32 × Int32 × (Nat → Int32))) = some res := hf
  obtain ⟨H, hH⟩ : ∃ H, H = s.heap := ⟨_, rfl⟩
  obtain ⟨locs, hlo⟩ : ∃ x : List Loc, x = [] := ⟨_, rfl⟩
  rw [← hlo] at hS ⊢
  have hP : va_P D classes [(h_t, .inr (1, [.int t_thrown, v_t_words, v_t_bits, v_t_cells, v_t_sense, v_t_kinds, v_t_victims, v_t_others, v_t_faults, v_t_toldKinds, v_t_toldVictims, v_t_toldOthers, v_t_told, v_t_ground, v_t_ports, v_t_scrambled, v_t_places, v_t_sorts, v_t_counts, v_t_operations, v_t_elements, v_t_newSorts, v_t_newCounts, v_t_newOperations, .ref h_t_tape, .int t_tapeSize, v_t_place, v_t_failed, v_t_failedCount, v_t_keeps, v_t_some, v_t_repairedRows, v_t_repairedColumns, v_t_proof])), (h_t_tape, .inl (cI, n_t_tape, .inl t_tape_a))] H := by rw [hH]; exact hP
  have hS : va_S A s.heap H locs := by rw [hH]; exact hS
  show W p l e rm_RF_unit s m _ below meth c s.heap locs 0 0 (MQ below (QW D (post_RF_unit h_t h_t_tape v_t_words v_t_bits v_t_cells v_t_sense v_t_kinds v_t_victims v_t_others v_t_faults v_t_toldKinds v_t_toldVictims v_t_toldOthers v_t_told v_t_ground v_t_ports v_t_scrambled v_t_places v_t_sorts v_t_counts v_t_operations v_t_elements v_t_newSorts v_t_newCounts v_t_newOperations v_t_place v_t_failed v_t_failedCount v_t_keeps v_t_some v_t_repairedRows v_t_repairedColumns v_t_proof n_t_tape cI cB cJ res) A) _ s 0 0 A) (F0 m 0 ls [])
  refine wheap hH ?_
  clear hH hlo
  refine lv_aload_n hx hb d_RF_unit_0 rfl (lv_at hl 0 rfl) ?_
  refine lv_iconst (v := 0) hx hb d_RF_unit_1 (by decide) ?_
  refine va_put (D := D) (ci := 1) (v := .int 0) (ty := .int) (C := R_RF) (T := F_RF) (N := 34) hx hb hts i_RF t_RF t_RF_ok n_RF hown hK.1 hP hD hS 0 rfl rfl 0 (by decide) (hts _ w_387) (fun _ h9 => h9) rfl (t_RF_ok 0 (by decide)) rfl rfl (Nat.le_of_ble_eq_true rfl) d_RF_unit_2 (fun H locs hP hD hS => ?_)
  have hP : va_P D classes [(h_t, .inr (1, [.int 0, v_t_words, v_t_bits, v_t_cells, v_t_sense, v_t_kinds, v_t_victims, v_t_others, v_t_faults, v_t_toldKinds, v_t_toldVictims, v_t_toldOthers, v_t_told, v_t_ground, v_t_ports, v_t_scrambled, v_t_places, v_t_sorts, v_t_counts, v_t_operations, v_t_elements, v_t_newSorts, v_t_newCounts, v_t_newOperations, .ref h_t_tape, .int t_tapeSize, v_t_place, v_t_failed, v_t_failedCount, v_t_keeps, v_t_some, v_t_repairedRows, v_t_repairedColumns, v_t_proof])), (h_t_tape, .inl (cI, n_t_tape, .inl t_tape_a))] H := hP
  have hD : va_D A [(h_t, .inr (1, [.int 0, v_t_words, v_t_bits, v_t_cells, v_t_sense, v_t_kinds, v_t_victims, v_t_others, v_t_faults, v_t_toldKinds, v_t_toldVictims, v_t_toldOthers, v_t_told, v_t_ground, v_t_ports, v_t_scrambled, v_t_places, v_t_sorts, v_t_counts, v_t_operations, v_t_elements, v_t_newSorts, v_t_newCounts, v_t_newOperations, .ref h_t_tape, .int t_tapeSize, v_t_place, v_t_failed, v_t_failedCount, v_t_keeps, v_t_some, v_t_repairedRows, v_t_repairedColumns, v_t_proof])), (h_t_tape, .inl (cI, n_t_tape, .inl t_tape_a))] := hD
  refine lv_aload_n hx hb d_RF_unit_5 rfl (lv_at hl 0 rfl) ?_
  refine va_get (D := D) (ci := 1) (v := .int t_tapeSize) (C := R_RF) (T := F_RF) (N := 34) hx hb hts i_RF hown hK.1 hP 0 rfl rfl 25 (by decide) (hts _ w_388) (fun _ h9 => h9) rfl d_RF_unit_6 ?_
  refine lv_sipush (v := 400) hx hb d_RF_unit_9 (by decide) ?_
  refine lv_icmp_ge (tgt := 19) hx hb d_RF_unit_12 (by decide) (fun cc12 => ?_) (fun cc12 => ?_)
  · have hf := ifT cc12 hf
    refine lv_iconst (v := 0) hx hb d_RF_unit_19 (by decide) ?_
    exact k_RF_unit_20 (s := s) C0 hA hf hP hD hS (lv_sub hl [0, 1] rfl)
  · have hf := ifF cc12 hf
    refine lv_iconst (v := 1) hx hb d_RF_unit_15 (by decide) ?_
    refine lv_goto (tgt := 20) hx hb d_RF_unit_16 (by decide) ?_
    exact k_RF_unit_20 (s := s) C0 hA hf hP hD hS (lv_sub hl [0, 1] rfl)
def f_RF_next_67 (t_place : Int32) (rec0 : (Int32) → Option (Int32 × Int32)) : Option (Int32 × Int32) :=
  (rec0 (t_place + 1))
def g_RF_next_0 (n_t_tape : Nat) (t_tapeSize : Int32) (t_tape_a : Nat → Int32) (rec0 : (Int32) → Option (Int32 × Int32)) (st : (Int32)) : Option (Int32 × Int32) :=
  (if t_tapeSize ≤ st then
    (if t_tapeSize ≤ st then
      some ((-1), st)
    else
      (if inB st n_t_tape = true then
      some ((t_tape_a (Int32.toNatClampNeg st)), st)
      else none))
  else
    (if inB st n_t_tape = true then
    (if (t_tape_a (Int32.toNatClampNeg st)) = 32 then
      (f_RF_next_67 st rec0)
    else
      (if inB st n_t_tape = true then
      (if (t_tape_a (Int32.toNatClampNeg st)) = 9 then
        (f_RF_next_67 st rec0)
      else
        (if inB st n_t_tape = true then
        (if (t_tape_a (Int32.toNatClampNeg st)) = 10 then
          (f_RF_next_67 st rec0)
        else
          (if inB st n_t_tape = true then
          (if (t_tape_a (Int32.toNatClampNeg st)) = 13 then
            (f_RF_next_67 st rec0)
          else
            (if t_tapeSize ≤ st then
              some ((-1), st)
            else
              (if inB st n_t_tape = true then
              some ((t_tape_a (Int32.toNatClampNeg st)), st)
              else none)))
          else none))
        else none))
      else none))
    else none))
def f_RF_next (n_t_tape : Nat) (t_tapeSize : Int32) (t_place : Int32) (t_tape_a : Nat → Int32) : Option (Int32 × Int32) :=
  (lp (g_RF_next_0 n_t_tape t_tapeSize t_tape_a) 100000 t_place)
def post_RF_next (h_t h_t_tape : Nat) (v_t_thrown v_t_words v_t_bits v_t_cells v_t_sense v_t_kinds v_t_victims v_t_others v_t_faults v_t_toldKinds v_t_toldVictims v_t_toldOthers v_t_told v_t_ground v_t_ports v_t_scrambled v_t_places v_t_sorts v_t_counts v_t_operations v_t_elements v_t_newSorts v_t_newCounts v_t_newOperations v_t_failed v_t_failedCount v_t_keeps v_t_some v_t_repairedRows v_t_repairedColumns v_t_proof : Value) (n_t_tape : Nat) (t_tapeSize : Int32) (t_tape_a : Nat → Int32) (cI cB cJ : ClassId) (res : Int32 × Int32) : Option Value → va_W → Prop := fun o ws' => o = some (.int res.1) ∧ ws' = [(h_t, .inr (1, [v_t_thrown, v_t_words, v_t_bits, v_t_cells, v_t_sense, v_t_kinds, v_t_victims, v_t_others, v_t_faults, v_t_toldKinds, v_t_toldVictims, v_t_toldOthers, v_t_told, v_t_ground, v_t_ports, v_t_scrambled, v_t_places, v_t_sorts, v_t_counts, v_t_operations, v_t_elements, v_t_newSorts, v_t_newCounts, v_t_newOperations, .ref h_t_tape, .int t_tapeSize, .int res.2, v_t_failed, v_t_failedCount, v_t_keeps, v_t_some, v_t_repairedRows, v_t_repairedColumns, v_t_proof])), (h_t_tape, .inl (cI, n_t_tape, .inl t_tape_a))]
abbrev rm_RF_next : Room := { frames := 0, cells := 0, slots := 0, locals := 0 }
set_option maxHeartbeats 4000000 in
set_option maxRecDepth 100000 in
theorem k_RF_next_67 {p : Program} {l : Launch} {e : Env} {s : State} {m : MethodId} {args : Array Value} {below : List Frame} {meth : Method} {c : Code} {D : va_G} {cI cB cJ : ClassId} {A : Nat → Prop} (C0 : CX p s m args meth c D [(cI, .int), (cB, .byte), (cJ, .long)] R_RF b_RF_next 1 (some .int) "next") (hA : ∀ q, s.heap.size ≤ q → A q) {h_t h_t_tape : Nat} {v_t_thrown v_t_words v_t_bits v_t_cells v_t_sense v_t_kinds v_t_victims v_t_others v_t_faults v_t_toldKinds v_t_toldVictims v_t_toldOthers v_t_told v_t_ground v_t_ports v_t_scrambled v_t_places v_t_sorts v_t_counts v_t_operations v_t_elements v_t_newSorts v_t_newCounts v_t_newOperations v_t_failed v_t_failedCount v_t_keeps v_t_some v_t_repairedRows v_t_repairedColumns v_t_proof : Value} {res : Int32 × Int32} {rec0 : (Int32) → Option (Int32 × Int32)} {n_t_tape : Nat} {t_tapeSize : Int32} {t_place : Int32} {t_tape_a : Nat → Int32}
    (hrec0 : ∀ (st : (Int32)), rec0 st = some res → ∀  (H : Heap) (locs : List Loc) (ls : Array Slot), va_P D classes [(h_t, .inr (1, [v_t_thrown, v_t_words, v_t_bits, v_t_cells, v_t_sense, v_t_kinds, v_t_victims, v_t_others, v_t_faults, v_t_toldKinds, v_t_toldVictims, v_t_toldOthers, v_t_told, v_t_ground, v_t_ports, v_t_scrambled, v_t_places, v_t_sorts, v_t_counts, v_t_operations, v_t_elements, v_t_newSorts, v_t_newCounts, v_t_newOperations, .ref h_t_tape, .int t_tapeSize, .int st, v_t_failed, v_t_failedCount, v_t_keeps, v_t_some, v_t_repairedRows, v_t_repairedColumns, v_t_proof])), (h_t_tape, .inl (cI, n_t_tape, .inl t_tape_a))] H → va_D A [(h_t, .inr (1, [v_t_thrown, v_t_words, v_t_bits, v_t_cells, v_t_sense, v_t_kinds, v_t_victims, v_t_others, v_t_faults, v_t_toldKinds, v_t_toldVictims, v_t_toldOthers, v_t_told, v_t_ground, v_t_ports, v_t_scrambled, v_t_places, v_t_sorts, v_t_counts, v_t_operations, v_t_elements, v_t_newSorts, v_t_newCounts, v_t_newOperations, .ref h_t_tape, .int t_tapeSize, .int st, v_t_failed, v_t_failedCount, v_t_keeps, v_t_some, v_t_repairedRows, v_t_repairedColumns, v_t_proof])), (h_t_tape, .inl (cI, n_t_tape, .inl t_tape_a))] → va_S A s.heap H locs → lv_has ls 1 [(0, .ref h_t)] → W p l e rm_RF_next s m args below meth c H locs 0 0 (MQ below (QW D (post_RF_next h_t h_t_tape v_t_thrown v_t_words v_t_bits v_t_cells v_t_sense v_t_kinds v_t_victims v_t_others v_t_faults v_t_toldKinds v_t_toldVictims v_t_toldOthers v_t_told v_t_ground v_t_ports v_t_scrambled v_t_places v_t_sorts v_t_counts v_t_operations v_t_elements v_t_newSorts v_t_newCounts v_t_newOperations v_t_failed v_t_failedCount v_t_keeps v_t_some v_t_repairedRows v_t_repairedColumns v_t_proof n_t_tape t_tapeSize t_tape_a cI cB cJ res) A) args s 0 0 A) (F0 m 0 ls []))
    (hf : f_RF_next_67 t_place rec0 = some res) {H : Heap} {locs : List Loc} {ls : Array Slot} (hP : va_P D classes [(h_t, .inr (1, [v_t_thrown, v_t_words, v_t_bits, v_t_cells, v_t_sense, v_t_kinds, v_t_victims, v_t_others, v_t_faults, v_t_toldKinds, v_t_toldVictims, v_t_toldOthers, v_t_told, v_t_ground, v_t_ports, v_t_scrambled, v_t_places, v_t_sorts, v_t_counts, v_t_operations, v_t_elements, v_t_newSorts, v_t_newCounts, v_t_newOperations, .ref h_t_tape, .int t_tapeSize, .int t_place, v_t_failed, v_t_failedCount, v_t_keeps, v_t_some, v_t_repairedRows, v_t_repairedColumns, v_t_proof])), (h_t_tape, .inl (cI, n_t_tape, .inl t_tape_a))] H) (hD : va_D A [(h_t, .inr (1, [v_t_thrown, v_t_words, v_t_bits, v_t_cells, v_t_sense, v_t_kinds, v_t_victims, v_t_others, v_t_faults, v_t_toldKinds, v_t_toldVictims, v_t_toldOthers, v_t_told, v_t_ground, v_t_ports, v_t_scrambled, v_t_places, v_t_sorts, v_t_counts, v_t_operations, v_t_elements, v_t_newSorts, v_t_newCounts, v_t_newOperations, .ref h_t_tape, .int t_tapeSize, .int t_place, v_t_failed, v_t_failedCount, v_t_keeps, v_t_some, v_t_repairedRows, v_t_repairedColumns, v_t_proof])), (h_t_tape, .inl (cI, n_t_tape, .inl t_tape_a))]) (hS : va_S A s.heap H locs) (hl : lv_has ls 1 [(0, .ref h_t)]) : W p l e rm_RF_next s m args below meth c H locs 0 0 (MQ below (QW D (post_RF_next h_t h_t_tape v_t_thrown v_t_words v_t_bits v_t_cells v_t_sense v_t_kinds v_t_victims v_t_others v_t_faults v_t_toldKinds v_t_toldVictims v_t_toldOthers v_t_told v_t_ground v_t_ports v_t_scrambled v_t_places v_t_sorts v_t_counts v_t_operations v_t_elements v_t_newSorts v_t_newCounts v_t_newOperations v_t_failed v_t_failedCount v_t_keeps v_t_some v_t_repairedRows v_t_repairedColumns v_t_proof n_t_tape t_tapeSize t_tape_a cI cB cJ res) A) args s 0 0 A) (F0 m 67 ls []) := by
  obtain ⟨hx, hb, hml, hr, hlocks, hts, hown, hK, hin⟩ := id C0
  have hf : (((
  (rec0 (t_place + 1)))) : Option (Int32 × Int32)) = some res := hf
  refine lv_aload_n hx hb d_RF_next_67 rfl (lv_at hl 0 rfl) ?_
  refine lv_dup hx hb d_RF_next_68 rfl ?_
  refine va_get (D := D) (ci := 1) (v := .int t_place) (C := R_RF) (T := F_RF) (N := 34) hx hb hts i_RF hown hK.1 hP 0 rfl rfl 26 (by decide) (hts _ w_389) (fun _ h9 => h9) rfl d_RF_next_69 ?_
  refine lv_iconst (v := 1) hx hb d_RF_next_72 (by decide) ?_
  refine lv_iadd hx hb d_RF_next_73 ?_
  refine va_put (D := D) (ci := 1) (v := .int (t_place + 1)) (ty := .int) (C := R_RF) (T := F_RF) (N := 34) hx hb hts i_RF t_RF t_RF_ok n_RF hown hK.1 hP hD hS 0 rfl rfl 26 (by decide) (hts _ w_389) (fun _ h9 => h9) rfl (t_RF_ok 26 (by decide)) rfl rfl (Nat.le_of_ble_eq_true rfl) d_RF_next_74 (fun H locs hP hD hS => ?_)
  have hP : va_P D classes [(h_t, .inr (1, [v_t_thrown, v_t_words, v_t_bits, v_t_cells, v_t_sense, v_t_kinds, v_t_victims, v_t_others, v_t_faults, v_t_toldKinds, v_t_toldVictims, v_t_toldOthers, v_t_told, v_t_ground, v_t_ports, v_t_scrambled, v_t_places, v_t_sorts, v_t_counts, v_t_operations, v_t_elements, v_t_newSorts, v_t_newCounts, v_t_newOperations, .ref h_t_tape, .int t_tapeSize, .int (t_place + 1), v_t_failed, v_t_failedCount, v_t_keeps, v_t_some, v_t_repairedRows, v_t_repairedColumns, v_t_proof])), (h_t_tape, .inl (cI, n_t_tape, .inl t_tape_a))] H := hP
  have hD : va_D A [(h_t, .inr (1, [v_t_thrown, v_t_words, v_t_bits, v_t_cells, v_t_sense, v_t_kinds, v_t_victims, v_t_others, v_t_faults, v_t_toldKinds, v_t_toldVictims, v_t_toldOthers, v_t_told, v_t_ground, v_t_ports, v_t_scrambled, v_t_places, v_t_sorts, v_t_counts, v_t_operations, v_t_elements, v_t_newSorts, v_t_newCounts, v_t_newOperations, .ref h_t_tape, .int t_tapeSize, .int (t_place + 1), v_t_failed, v_t_failedCount, v_t_keeps, v_t_some, v_t_repairedRows, v_t_repairedColumns, v_t_proof])), (h_t_tape, .inl (cI, n_t_tape, .inl t_tape_a))] := hD
  refine lv_goto (tgt := 0) hx hb d_RF_next_77 (by decide) ?_
  exact hrec0 (t_place + 1) hf  H locs ls hP hD hS (lv_sub hl [0] rfl)
set_option maxHeartbeats 4000000 in
set_option maxRecDepth 100000 in
theorem kb_RF_next_0 {p : Program} {l : Launch} {e : Env} {s : State} {m : MethodId} {args : Array Value} {below : List Frame} {meth : Method} {c : Code} {D : va_G} {cI cB cJ : ClassId} {A : Nat → Prop} (C0 : CX p s m args meth c D [(cI, .int), (cB, .byte), (cJ, .long)] R_RF b_RF_next 1 (some .int) "next") (hA : ∀ q, s.heap.size ≤ q → A q) {h_t h_t_tape : Nat} {v_t_thrown v_t_words v_t_bits v_t_cells v_t_sense v_t_kinds v_t_victims v_t_others v_t_faults v_t_toldKinds v_t_toldVictims v_t_toldOthers v_t_told v_t_ground v_t_ports v_t_scrambled v_t_places v_t_sorts v_t_counts v_t_operations v_t_elements v_t_newSorts v_t_newCounts v_t_newOperations v_t_failed v_t_failedCount v_t_keeps v_t_some v_t_repairedRows v_t_repairedColumns v_t_proof : Value} {res : Int32 × Int32} {rec0 : (Int32) → Option (Int32 × Int32)} {n_t_tape : Nat} {t_tapeSize : Int32} {t_place : Int32} {t_tape_a : Nat → Int32}
    (hrec0 : ∀ (st : (Int32)), rec0 st = some res → ∀  (H : Heap) (locs : List Loc) (ls : Array Slot), va_P D classes [(h_t, .inr (1, [v_t_thrown, v_t_words, v_t_bits, v_t_cells, v_t_sense, v_t_kinds, v_t_victims, v_t_others, v_t_faults, v_t_toldKinds, v_t_toldVictims, v_t_toldOthers, v_t_told, v_t_ground, v_t_ports, v_t_scrambled, v_t_places, v_t_sorts, v_t_counts, v_t_operations, v_t_elements, v_t_newSorts, v_t_newCounts, v_t_newOperations, .ref h_t_tape, .int t_tapeSize, .int st, v_t_failed, v_t_failedCount, v_t_keeps, v_t_some, v_t_repairedRows, v_t_repairedColumns, v_t_proof])), (h_t_tape, .inl (cI, n_t_tape, .inl t_tape_a))] H → va_D A [(h_t, .inr (1, [v_t_thrown, v_t_words, v_t_bits, v_t_cells, v_t_sense, v_t_kinds, v_t_victims, v_t_others, v_t_faults, v_t_toldKinds, v_t_toldVictims, v_t_toldOthers, v_t_told, v_t_ground, v_t_ports, v_t_scrambled, v_t_places, v_t_sorts, v_t_counts, v_t_operations, v_t_elements, v_t_newSorts, v_t_newCounts, v_t_newOperations, .ref h_t_tape, .int t_tapeSize, .int st, v_t_failed, v_t_failedCount, v_t_keeps, v_t_some, v_t_repairedRows, v_t_repairedColumns, v_t_proof])), (h_t_tape, .inl (cI, n_t_tape, .inl t_tape_a))] → va_S A s.heap H locs → lv_has ls 1 [(0, .ref h_t)] → W p l e rm_RF_next s m args below meth c H locs 0 0 (MQ below (QW D (post_RF_next h_t h_t_tape v_t_thrown v_t_words v_t_bits v_t_cells v_t_sense v_t_kinds v_t_victims v_t_others v_t_faults v_t_toldKinds v_t_toldVictims v_t_toldOthers v_t_told v_t_ground v_t_ports v_t_scrambled v_t_places v_t_sorts v_t_counts v_t_operations v_t_elements v_t_newSorts v_t_newCounts v_t_newOperations v_t_failed v_t_failedCount v_t_keeps v_t_some v_t_repairedRows v_t_repairedColumns v_t_proof n_t_tape t_tapeSize t_tape_a cI cB cJ res) A) args s 0 0 A) (F0 m 0 ls []))
    (hf : g_RF_next_0 n_t_tape t_tapeSize t_tape_a rec0 t_place = some res) {H : Heap} {locs : List Loc} {ls : Array Slot} (hP : va_P D classes [(h_t, .inr (1, [v_t_thrown, v_t_words, v_t_bits, v_t_cells, v_t_sense, v_t_kinds, v_t_victims, v_t_others, v_t_faults, v_t_toldKinds, v_t_toldVictims, v_t_toldOthers, v_t_told, v_t_ground, v_t_ports, v_t_scrambled, v_t_places, v_t_sorts, v_t_counts, v_t_operations, v_t_elements, v_t_newSorts, v_t_newCounts, v_t_newOperations, .ref h_t_tape, .int t_tapeSize, .int t_place, v_t_failed, v_t_failedCount, v_t_keeps, v_t_some, v_t_repairedRows, v_t_repairedColumns, v_t_proof])), (h_t_tape, .inl (cI, n_t_tape, .inl t_tape_a))] H) (hD : va_D A [(h_t, .inr (1, [v_t_thrown, v_t_words, v_t_bits, v_t_cells, v_t_sense, v_t_kinds, v_t_victims, v_t_others, v_t_faults, v_t_toldKinds, v_t_toldVictims, v_t_toldOthers, v_t_told, v_t_ground, v_t_ports, v_t_scrambled, v_t_places, v_t_sorts, v_t_counts, v_t_operations, v_t_elements, v_t_newSorts, v_t_newCounts, v_t_newOperations, .ref h_t_tape, .int t_tapeSize, .int t_place, v_t_failed, v_t_failedCount, v_t_keeps, v_t_some, v_t_repairedRows, v_t_repairedColumns, v_t_proof])), (h_t_tape, .inl (cI, n_t_tape, .inl t_tape_a))]) (hS : va_S A s.heap H locs) (hl : lv_has ls 1 [(0, .ref h_t)]) : W p l e rm_RF_next s m args below meth c H locs 0 0 (MQ below (QW D (post_RF_next h_t h_t_tape v_t_thrown v_t_words v_t_bits v_t_cells v_t_sense v_t_kinds v_t_victims v_t_others v_t_faults v_t_toldKinds v_t_toldVictims v_t_toldOthers v_t_told v_t_ground v_t_ports v_t_scrambled v_t_places v_t_sorts v_t_counts v_t_operations v_t_elements v_t_newSorts v_t_newCounts v_t_newOperations v_t_failed v_t_failedCount v_t_keeps v_t_some v_t_repairedRows v_t_repairedColumns v_t_proof n_t_tape t_tapeSize t_tape_a cI cB cJ res) A) args s 0 0 A) (F0 m 0 ls []) := by
  obtain ⟨hx, hb, hml, hr, hlocks, hts, hown, hK, hin⟩ := id C0
  have hf : (((
  (if t_tapeSize ≤ t_place then
    (if t_tapeSize ≤ t_place then
      some ((-1), t_place)
    else
      (if inB t_place n_t_tape = true then
      some ((t_tape_a (Int32.toNatClampNeg t_place)), t_place)
      else none))
  else
    (if inB t_place n_t_tape = true then
    (if (t_tape_a (Int32.toNatClampNeg t_place)) = 32 then
      (f_RF_next_67 t_place rec0)
    else
      (if inB t_place n_t_tape = true then
      (if (t_tape_a (Int32.toNatClampNeg t_place)) = 9 then
        (f_RF_next_67 t_place rec0)
      else
        (if inB t_place n_t_tape = true then
        (if (t_tape_a (Int32.toNatClampNeg t_place)) = 10 then
          (f_RF_next_67 t_place rec0)
        else
          (if inB t_place n_t_tape = true then
          (if (t_tape_a (Int32.toNatClampNeg t_place)) = 13 then
            (f_RF_next_67 t_place rec0)
          else
            (if t_tapeSize ≤ t_place then
              some ((-1), t_place)
            else
              (if inB t_place n_t_tape = true then
              some ((t_tape_a (Int32.toNatClampNeg t_place)), t_place)
              else none)))
          else none))
        else none))
      else none))
    else none)))) : Option (Int32 × Int32)) = some res := hf
  refine lv_aload_n hx hb d_RF_next_0 rfl (lv_at hl 0 rfl) ?_
  refine va_get (D := D) (ci := 1) (v := .int t_place) (C := R_RF) (T := F_RF) (N := 34) hx hb hts i_RF hown hK.1 hP 0 rfl rfl 26 (by decide) (hts _ w_389) (fun _ h9 => h9) rfl d_RF_next_1 ?_
  refine lv_aload_n hx hb d_RF_next_4 rfl (lv_at hl 0 rfl) ?_
  refine va_get (D := D) (ci := 1) (v := .int t_tapeSize) (C := R_RF) (T := F_RF) (N := 34) hx hb hts i_RF hown hK.1 hP 0 rfl rfl 25 (by decide) (hts _ w_388) (fun _ h9 => h9) rfl d_RF_next_5 ?_
  refine lv_icmp_ge (tgt := 80) hx hb d_RF_next_8 (by decide) (fun cc8 => ?_) (fun cc8 => ?_)
  · have hf := ifT cc8 hf
    refine lv_aload_n hx hb d_RF_next_80 rfl (lv_at hl 0 rfl) ?_
    refine va_get (D := D) (ci := 1) (v := .int t_place) (C := R_RF) (T := F_RF) (N := 34) hx hb hts i_RF hown hK.1 hP 0 rfl rfl 26 (by decide) (hts _ w_389) (fun _ h9 => h9) rfl d_RF_next_81 ?_
    refine lv_aload_n hx hb d_RF_next_84 rfl (lv_at hl 0 rfl) ?_
    refine va_get (D := D) (ci := 1) (v := .int t_tapeSize) (C := R_RF) (T := F_RF) (N := 34) hx hb hts i_RF hown hK.1 hP 0 rfl rfl 25 (by decide) (hts _ w_388) (fun _ h9 => h9) rfl d_RF_next_85 ?_
    refine lv_icmp_ge (tgt := 103) hx hb d_RF_next_88 (by decide) (fun cc88 => ?_) (fun cc88 => ?_)
    · have hf := ifT cc88 hf
      refine lv_iconst (v := (-1)) hx hb d_RF_next_103 (by decide) ?_
      obtain rfl := Option.some.inj hf
      exact ret_i hx hb hr hlocks hP hD hS ⟨rfl, rfl⟩ d_RF_next_104
    · have hf := ifF cc88 hf
      refine lv_aload_n hx hb d_RF_next_91 rfl (lv_at hl 0 rfl) ?_
      refine va_get (D := D) (ci := 1) (v := .ref h_t_tape) (C := R_RF) (T := F_RF) (N := 34) hx hb hts i_RF hown hK.1 hP 0 rfl rfl 24 (by decide) (hts _ w_382) (fun _ h9 => h9) rfl d_RF_next_92 ?_
      refine lv_aload_n hx hb d_RF_next_95 rfl (lv_at hl 0 rfl) ?_
      refine va_get (D := D) (ci := 1) (v := .int t_place) (C := R_RF) (T := F_RF) (N := 34) hx hb hts i_RF hown hK.1 hP 0 rfl rfl 26 (by decide) (hts _ w_389) (fun _ h9 => h9) rfl d_RF_next_96 ?_
      obtain ⟨hin1, hf⟩ := ifG hf
      refine va_iald hx hb hK.1 hP 1 0 rfl rfl (inB_in hin1) d_RF_next_99 ?_
      refine lv_goto (tgt := 104) hx hb d_RF_next_100 (by decide) ?_
      obtain rfl := Option.some.inj hf
      exact ret_i hx hb hr hlocks hP hD hS ⟨rfl, rfl⟩ d_RF_next_104
  · have hf := ifF cc8 hf
    refine lv_aload_n hx hb d_RF_next_11 rfl (lv_at hl 0 rfl) ?_
    refine va_get (D := D) (ci := 1) (v := .ref h_t_tape) (C := R_RF) (T := F_RF) (N := 34) hx hb hts i_RF hown hK.1 hP 0 rfl rfl 24 (by decide) (hts _ w_382) (fun _ h9 => h9) rfl d_RF_next_12 ?_
    refine lv_aload_n hx hb d_RF_next_15 rfl (lv_at hl 0 rfl) ?_
    refine va_get (D := D) (ci := 1) (v := .int t_place) (C := R_RF) (T := F_RF) (N := 34) hx hb hts i_RF hown hK.1 hP 0 rfl rfl 26 (by decide) (hts _ w_389) (fun _ h9 => h9) rfl d_RF_next_16 ?_
    obtain ⟨hin1, hf⟩ := ifG hf
    refine va_iald hx hb hK.1 hP 1 0 rfl rfl (inB_in hin1) d_RF_next_19 ?_
    refine lv_bipush (v := 32) hx hb d_RF_next_20 (by decide) ?_
    refine lv_icmp_eq (tgt := 67) hx hb d_RF_next_22 (by decide) (fun cc22 => ?_) (fun cc22 => ?_)
    · have hf := ifT cc22 hf
      exact k_RF_next_67 (s := s) C0 hA hrec0 hf hP hD hS (lv_sub hl [0] rfl)
    · have hf := ifF cc22 hf
      refine lv_aload_n hx hb d_RF_next_25 rfl (lv_at hl 0 rfl) ?_
      refine va_get (D := D) (ci := 1) (v := .ref h_t_tape) (C := R_RF) (T := F_RF) (N := 34) hx hb hts i_RF hown hK.1 hP 0 rfl rfl 24 (by decide) (hts _ w_382) (fun _ h9 => h9) rfl d_RF_next_26 ?_
      refine lv_aload_n hx hb d_RF_next_29 rfl (lv_at hl 0 rfl) ?_
      refine va_get (D := D) (ci := 1) (v := .int t_place) (C := R_RF) (T := F_RF) (N := 34) hx hb hts i_RF hown hK.1 hP 0 rfl rfl 26 (by decide) (hts _ w_389) (fun _ h9 => h9) rfl d_RF_next_30 ?_
      obtain ⟨hin1, hf⟩ := ifG hf
      refine va_iald hx hb hK.1 hP 1 0 rfl rfl (inB_in hin1) d_RF_next_33 ?_
      refine lv_bipush (v := 9) hx hb d_RF_next_34 (by decide) ?_
      refine lv_icmp_eq (tgt := 67) hx hb d_RF_next_36 (by decide) (fun cc36 => ?_) (fun cc36 => ?_)
      · have hf := ifT cc36 hf
        exact k_RF_next_67 (s := s) C0 hA hrec0 hf hP hD hS (lv_sub hl [0] rfl)
      · have hf := ifF cc36 hf
        refine lv_aload_n hx hb d_RF_next_39 rfl (lv_at hl 0 rfl) ?_
        refine va_get (D := D) (ci := 1) (v := .ref h_t_tape) (C := R_RF) (T := F_RF) (N := 34) hx hb hts i_RF hown hK.1 hP 0 rfl rfl 24 (by decide) (hts _ w_382) (fun _ h9 => h9) rfl d_RF_next_40 ?_
        refine lv_aload_n hx hb d_RF_next_43 rfl (lv_at hl 0 rfl) ?_
        refine va_get (D := D) (ci := 1) (v := .int t_place) (C := R_RF) (T := F_RF) (N := 34) hx hb hts i_RF hown hK.1 hP 0 rfl rfl 26 (by decide) (hts _ w_389) (fun _ h9 => h9) rfl d_RF_next_44 ?_
        obtain ⟨hin1, hf⟩ := ifG hf
        refine va_iald hx hb hK.1 hP 1 0 rfl rfl (inB_in hin1) d_RF_next_47 ?_
        refine lv_bipush (v := 10) hx hb d_RF_next_48 (by decide) ?_
        refine lv_icmp_eq (tgt := 67) hx hb d_RF_next_50 (by decide) (fun cc50 => ?_) (fun cc50 => ?_)
        · have hf := ifT cc50 hf
          exact k_RF_next_67 (s := s) C0 hA hrec0 hf hP hD hS (lv_sub hl [0] rfl)
        · have hf := ifF cc50 hf
          refine lv_aload_n hx hb d_RF_next_53 rfl (lv_at hl 0 rfl) ?_
          refine va_get (D := D) (ci := 1) (v := .ref h_t_tape) (C := R_RF) (T := F_RF) (N := 34) hx hb hts i_RF hown hK.1 hP 0 rfl rfl 24 (by decide) (hts _ w_382) (fun _ h9 => h9) rfl d_RF_next_54 ?_
          refine lv_aload_n hx hb d_RF_next_57 rfl (lv_at hl 0 rfl) ?_
          refine va_get (D := D) (ci := 1) (v := .int t_place) (C := R_RF) (T := F_RF) (N := 34) hx hb hts i_RF hown hK.1 hP 0 rfl rfl 26 (by decide) (hts _ w_389) (fun _ h9 => h9) rfl d_RF_next_58 ?_
          obtain ⟨hin1, hf⟩ := ifG hf
          refine va_iald hx hb hK.1 hP 1 0 rfl rfl (inB_in hin1) d_RF_next_61 ?_
          refine lv_bipush (v := 13) hx hb d_RF_next_62 (by decide) ?_
          refine lv_icmp_ne (tgt := 80) hx hb d_RF_next_64 (by decide) (fun cc64 => ?_) (fun cc64 => ?_)
          · have hf := ifF cc64 hf
            refine lv_aload_n hx hb d_RF_next_80 rfl (lv_at hl 0 rfl) ?_
            refine va_get (D := D) (ci := 1) (v := .int t_place) (C := R_RF) (T := F_RF) (N := 34) hx hb hts i_RF hown hK.1 hP 0 rfl rfl 26 (by decide) (hts _ w_389) (fun _ h9 => h9) rfl d_RF_next_81 ?_
            refine lv_aload_n hx hb d_RF_next_84 rfl (lv_at hl 0 rfl) ?_
            refine va_get (D := D) (ci := 1) (v := .int t_tapeSize) (C := R_RF) (T := F_RF) (N := 34) hx hb hts i_RF hown hK.1 hP 0 rfl rfl 25 (by decide) (hts _ w_388) (fun _ h9 => h9) rfl d_RF_next_85 ?_
            refine lv_icmp_ge (tgt := 103) hx hb d_RF_next_88 (by decide) (fun cc88 => ?_) (fun cc88 => ?_)
            · have hf := ifT cc88 hf
              refine lv_iconst (v := (-1)) hx hb d_RF_next_103 (by decide) ?_
              obtain rfl := Option.some.inj hf
              exact ret_i hx hb hr hlocks hP hD hS ⟨rfl, rfl⟩ d_RF_next_104
            · have hf := ifF cc88 hf
              refine lv_aload_n hx hb d_RF_next_91 rfl (lv_at hl 0 rfl) ?_
              refine va_get (D := D) (ci := 1) (v := .ref h_t_tape) (C := R_RF) (T := F_RF) (N := 34) hx hb hts i_RF hown hK.1 hP 0 rfl rfl 24 (by decide) (hts _ w_382) (fun _ h9 => h9) rfl d_RF_next_92 ?_
              refine lv_aload_n hx hb d_RF_next_95 rfl (lv_at hl 0 rfl) ?_
              refine va_get (D := D) (ci := 1) (v := .int t_place) (C := R_RF) (T := F_RF) (N := 34) hx hb hts i_RF hown hK.1 hP 0 rfl rfl 26 (by decide) (hts _ w_389) (fun _ h9 => h9) rfl d_RF_next_96 ?_
              obtain ⟨hin1, hf⟩ := ifG hf
              refine va_iald hx hb hK.1 hP 1 0 rfl rfl (inB_in hin1) d_RF_next_99 ?_
              refine lv_goto (tgt := 104) hx hb d_RF_next_100 (by decide) ?_
              obtain rfl := Option.some.inj hf
              exact ret_i hx hb hr hlocks hP hD hS ⟨rfl, rfl⟩ d_RF_next_104
          · have hf := ifT cc64 hf
            exact k_RF_next_67 (s := s) C0 hA hrec0 hf hP hD hS (lv_sub hl [0] rfl)
set_option maxHeartbeats 4000000 in
set_option maxRecDepth 100000 in
theorem k_RF_next_0 {p : Program} {l : Launch} {e : Env} {s : State} {m : MethodId} {args : Array Value} {below : List Frame} {meth : Method} {c : Code} {D : va_G} {cI cB cJ : ClassId} {A : Nat → Prop} (C0 : CX p s m args meth c D [(cI, .int), (cB, .byte), (cJ, .long)] R_RF b_RF_next 1 (some .int) "next") (hA : ∀ q, s.heap.size ≤ q → A q) {h_t h_t_tape : Nat} {v_t_thrown v_t_words v_t_bits v_t_cells v_t_sense v_t_kinds v_t_victims v_t_others v_t_faults v_t_toldKinds v_t_toldVictims v_t_toldOthers v_t_told v_t_ground v_t_ports v_t_scrambled v_t_places v_t_sorts v_t_counts v_t_operations v_t_elements v_t_newSorts v_t_newCounts v_t_newOperations v_t_failed v_t_failedCount v_t_keeps v_t_some v_t_repairedRows v_t_repairedColumns v_t_proof : Value} {res : Int32 × Int32} {n_t_tape : Nat} {t_tapeSize : Int32} {t_tape_a : Nat → Int32}
    : ∀ (n : Nat) (st : (Int32)), lp (g_RF_next_0 n_t_tape t_tapeSize t_tape_a) n st = some res → ∀  (H : Heap) (locs : List Loc) (ls : Array Slot), va_P D classes [(h_t, .inr (1, [v_t_thrown, v_t_words, v_t_bits, v_t_cells, v_t_sense, v_t_kinds, v_t_victims, v_t_others, v_t_faults, v_t_toldKinds, v_t_toldVictims, v_t_toldOthers, v_t_told, v_t_ground, v_t_ports, v_t_scrambled, v_t_places, v_t_sorts, v_t_counts, v_t_operations, v_t_elements, v_t_newSorts, v_t_newCounts, v_t_newOperations, .ref h_t_tape, .int t_tapeSize, .int st, v_t_failed, v_t_failedCount, v_t_keeps, v_t_some, v_t_repairedRows, v_t_repairedColumns, v_t_proof])), (h_t_tape, .inl (cI, n_t_tape, .inl t_tape_a))] H → va_D A [(h_t, .inr (1, [v_t_thrown, v_t_words, v_t_bits, v_t_cells, v_t_sense, v_t_kinds, v_t_victims, v_t_others, v_t_faults, v_t_toldKinds, v_t_toldVictims, v_t_toldOthers, v_t_told, v_t_ground, v_t_ports, v_t_scrambled, v_t_places, v_t_sorts, v_t_counts, v_t_operations, v_t_elements, v_t_newSorts, v_t_newCounts, v_t_newOperations, .ref h_t_tape, .int t_tapeSize, .int st, v_t_failed, v_t_failedCount, v_t_keeps, v_t_some, v_t_repairedRows, v_t_repairedColumns, v_t_proof])), (h_t_tape, .inl (cI, n_t_tape, .inl t_tape_a))] → va_S A s.heap H locs → lv_has ls 1 [(0, .ref h_t)] → W p l e rm_RF_next s m args below meth c H locs 0 0 (MQ below (QW D (post_RF_next h_t h_t_tape v_t_thrown v_t_words v_t_bits v_t_cells v_t_sense v_t_kinds v_t_victims v_t_others v_t_faults v_t_toldKinds v_t_toldVictims v_t_toldOthers v_t_told v_t_ground v_t_ports v_t_scrambled v_t_places v_t_sorts v_t_counts v_t_operations v_t_elements v_t_newSorts v_t_newCounts v_t_newOperations v_t_failed v_t_failedCount v_t_keeps v_t_some v_t_repairedRows v_t_repairedColumns v_t_proof n_t_tape t_tapeSize t_tape_a cI cB cJ res) A) args s 0 0 A) (F0 m 0 ls []) := by
  intro n
  induction n with
  | zero => intro st hf; exact absurd hf (by simp [lp])
  | succ n ih =>
    intro st hf  H locs ls hP hD hS hl
    exact kb_RF_next_0 C0 hA (rec0 := lp (g_RF_next_0 n_t_tape t_tapeSize t_tape_a) n) (t_place := st)  (fun st hf  H locs ls hP hD hS hl => ih st hf  H locs ls hP hD hS hl) hf hP hD hS hl
set_option maxHeartbeats 4000000 in
set_option maxRecDepth 100000 in
theorem c_RF_next (l : Launch) (D : va_G) (cI cB cJ : ClassId) (h_t h_t_tape : Nat) (v_t_thrown v_t_words v_t_bits v_t_cells v_t_sense v_t_kinds v_t_victims v_t_others v_t_faults v_t_toldKinds v_t_toldVictims v_t_toldOthers v_t_told v_t_ground v_t_ports v_t_scrambled v_t_places v_t_sorts v_t_counts v_t_operations v_t_elements v_t_newSorts v_t_newCounts v_t_newOperations v_t_failed v_t_failedCount v_t_keeps v_t_some v_t_repairedRows v_t_repairedColumns v_t_proof : Value) (n_t_tape : Nat) (t_tapeSize : Int32) (t_place : Int32) (t_tape_a : Nat → Int32) (sz : Nat) (res : Int32 × Int32) (hf : f_RF_next n_t_tape t_tapeSize t_place t_tape_a = some res) : Met l y_RF_next (.code y_RF_next b_RF_next 1 (some .int) :: TB) rm_RF_next (PcW D [(cI, .int), (cB, .byte), (cJ, .long)] [.ref h_t] [(h_t, .inr (1, [v_t_thrown, v_t_words, v_t_bits, v_t_cells, v_t_sense, v_t_kinds, v_t_victims, v_t_others, v_t_faults, v_t_toldKinds, v_t_toldVictims, v_t_toldOthers, v_t_told, v_t_ground, v_t_ports, v_t_scrambled, v_t_places, v_t_sorts, v_t_counts, v_t_operations, v_t_elements, v_t_newSorts, v_t_newCounts, v_t_newOperations, .ref h_t_tape, .int t_tapeSize, .int t_place, v_t_failed, v_t_failedCount, v_t_keeps, v_t_some, v_t_repairedRows, v_t_repairedColumns, v_t_proof])), (h_t_tape, .inl (cI, n_t_tape, .inl t_tape_a))] sz) (QW D (post_RF_next h_t h_t_tape v_t_thrown v_t_words v_t_bits v_t_cells v_t_sense v_t_kinds v_t_victims v_t_others v_t_faults v_t_toldKinds v_t_toldVictims v_t_toldOthers v_t_told v_t_ground v_t_ports v_t_scrambled v_t_places v_t_sorts v_t_counts v_t_operations v_t_elements v_t_newSorts v_t_newCounts v_t_newOperations v_t_failed v_t_failedCount v_t_keeps v_t_some v_t_repairedRows v_t_repairedColumns v_t_proof n_t_tape t_tapeSize t_tape_a cI cB cJ res) (va_A [(h_t, .inr (1, [v_t_thrown, v_t_words, v_t_bits, v_t_cells, v_t_sense, v_t_kinds, v_t_victims, v_t_others, v_t_faults, v_t_toldKinds, v_t_toldVictims, v_t_toldOthers, v_t_told, v_t_ground, v_t_ports, v_t_scrambled, v_t_places, v_t_sorts, v_t_counts, v_t_operations, v_t_elements, v_t_newSorts, v_t_newCounts, v_t_newOperations, .ref h_t_tape, .int t_tapeSize, .int t_place, v_t_failed, v_t_failedCount, v_t_keeps, v_t_some, v_t_repairedRows, v_t_repairedColumns, v_t_proof])), (h_t_tape, .inl (cI, n_t_tape, .inl t_tape_a))] sz)) 0 0 (va_A [(h_t, .inr (1, [v_t_thrown, v_t_words, v_t_bits, v_t_cells, v_t_sense, v_t_kinds, v_t_victims, v_t_others, v_t_faults, v_t_toldKinds, v_t_toldVictims, v_t_toldOthers, v_t_told, v_t_ground, v_t_ports, v_t_scrambled, v_t_places, v_t_sorts, v_t_counts, v_t_operations, v_t_elements, v_t_newSorts, v_t_newCounts, v_t_newOperations, .ref h_t_tape, .int t_tapeSize, .int t_place, v_t_failed, v_t_failedCount, v_t_keeps, v_t_some, v_t_repairedRows, v_t_repairedColumns, v_t_proof])), (h_t_tape, .inl (cI, n_t_tape, .inl t_tape_a))] sz) := by
  refine entW ⟨by decide +kernel, rfl⟩ fun p e s m below meth c C0 hP hD hsz ls hl => ?_
  subst hsz
  generalize hAe : va_A [(h_t, .inr (1, [v_t_thrown, v_t_words, v_t_bits, v_t_cells, v_t_sense, v_t_kinds, v_t_victims, v_t_others, v_t_faults, v_t_toldKinds, v_t_toldVictims, v_t_toldOthers, v_t_told, v_t_ground, v_t_ports, v_t_scrambled, v_t_places, v_t_sorts, v_t_counts, v_t_operations, v_t_elements, v_t_newSorts, v_t_newCounts, v_t_newOperations, .ref h_t_tape, .int t_tapeSize, .int t_place, v_t_failed, v_t_failedCount, v_t_keeps, v_t_some, v_t_repairedRows, v_t_repairedColumns, v_t_proof])), (h_t_tape, .inl (cI, n_t_tape, .inl t_tape_a))] s.heap.size = A at hD ⊢
  have hA : ∀ q : Nat, s.heap.size ≤ q → A q := fun q h => by rw [← hAe]; exact Or.inr h
  clear hAe
  have hS : va_S A s.heap s.heap [] := va_S.rf
  have hl : lv_has ls 1 [(0, .ref h_t)] := hl
  obtain ⟨hx, hb, hml, hr, hlocks, hts, hown, hK, hin⟩ := id C0
  have hf : (((
  (lp (g_RF_next_0 n_t_tape t_tapeSize t_tape_a) 100000 t_place))) : Option (Int32 × Int32)) = some res := hf
  obtain ⟨H, hH⟩ : ∃ H, H = s.heap := ⟨_, rfl⟩
  obtain ⟨locs, hlo⟩ : ∃ x : List Loc, x = [] := ⟨_, rfl⟩
  rw [← hlo] at hS ⊢
  have hP : va_P D classes [(h_t, .inr (1, [v_t_thrown, v_t_words, v_t_bits, v_t_cells, v_t_sense, v_t_kinds, v_t_victims, v_t_others, v_t_faults, v_t_toldKinds, v_t_toldVictims, v_t_toldOthers, v_t_told, v_t_ground, v_t_ports, v_t_scrambled, v_t_places, v_t_sorts, v_t_counts, v_t_operations, v_t_elements, v_t_newSorts, v_t_newCounts, v_t_newOperations, .ref h_t_tape, .int t_tapeSize, .int t_place, v_t_failed, v_t_failedCount, v_t_keeps, v_t_some, v_t_repairedRows, v_t_repairedColumns, v_t_proof])), (h_t_tape, .inl (cI, n_t_tape, .inl t_tape_a))] H := by rw [hH]; exact hP
  have hS : va_S A s.heap H locs := by rw [hH]; exact hS
  show W p l e rm_RF_next s m _ below meth c s.heap locs 0 0 (MQ below (QW D (post_RF_next h_t h_t_tape v_t_thrown v_t_words v_t_bits v_t_cells v_t_sense v_t_kinds v_t_victims v_t_others v_t_faults v_t_toldKinds v_t_toldVictims v_t_toldOthers v_t_told v_t_ground v_t_ports v_t_scrambled v_t_places v_t_sorts v_t_counts v_t_operations v_t_elements v_t_newSorts v_t_newCounts v_t_newOperations v_t_failed v_t_failedCount v_t_keeps v_t_some v_t_repairedRows v_t_repairedColumns v_t_proof n_t_tape t_tapeSize t_tape_a cI cB cJ res) A) _ s 0 0 A) (F0 m 0 ls [])
  refine wheap hH ?_
  clear hH hlo
  exact k_RF_next_0 (s := s) C0 hA _ t_place hf  H locs ls hP hD hS (lv_sub hl [0] rfl)
def f_RF_readOperations_286 (t_place : Int32) (t_newCounts_a : Nat → Int32) (t_newOperations_a : Nat → Int32) : Option (Int32 × Int32 × (Nat → Int32) × (Nat → Int32)) :=
  some (0, t_place, t_newCounts_a, t_newOperations_a)
def f_RF_readOperations_244 (t_place : Int32) (t_newCounts_a : Nat → Int32) (t_newOperations_a : Nat → Int32) (s0 : Int32) (x3 : Int32) (rec45 : (Int32 × (Nat → Int32) × (Nat → Int32) × Int32 × Int32) → Option (Int32 × Int32 × (Nat → Int32) × (Nat → Int32))) : Option (Int32 × Int32 × (Nat → Int32) × (Nat → Int32)) :=
  (if s0 = 0 then
    (rec45 (t_place, t_newCounts_a, t_newOperations_a, s0, x3))
  else
    (rec45 ((t_place + 1), t_newCounts_a, t_newOperations_a, s0, x3)))
def f_RF_readOperations_243 (t_place : Int32) (t_newCounts_a : Nat → Int32) (t_newOperations_a : Nat → Int32) (x3 : Int32) (rec45 : (Int32 × (Nat → Int32) × (Nat → Int32) × Int32 × Int32) → Option (Int32 × Int32 × (Nat → Int32) × (Nat → Int32))) : Option (Int32 × Int32 × (Nat → Int32) × (Nat → Int32)) :=
  (f_RF_readOperations_244 t_place t_newCounts_a t_newOperations_a 0 x3 rec45)
def f_RF_readOperations_226 (n_t_tape : Nat) (t_tapeSize : Int32) (t_place : Int32) (t_tape_a : Nat → Int32) (t_newCounts_a : Nat → Int32) (t_newOperations_a : Nat → Int32) (x3 : Int32) (rec45 : (Int32 × (Nat → Int32) × (Nat → Int32) × Int32 × Int32) → Option (Int32 × Int32 × (Nat → Int32) × (Nat → Int32))) : Option (Int32 × Int32 × (Nat → Int32) × (Nat → Int32)) :=
  (if x3 = 0 then
    (f_RF_readOperations_243 t_place t_newCounts_a t_newOperations_a x3 rec45)
  else
    (Option.bind (f_RF_next n_t_tape t_tapeSize t_place t_tape_a) fun q231_4 =>
    (if q231_4.1 = 44 then
      (f_RF_readOperations_244 q231_4.2 t_newCounts_a t_newOperations_a 1 x3 rec45)
    else
      (f_RF_readOperations_243 q231_4.2 t_newCounts_a t_newOperations_a x3 rec45))))
def f_RF_readOperations_209 (n_t_tape : Nat) (n_t_newCounts : Nat) (n_t_newOperations : Nat) (t_tapeSize : Int32) (t_place : Int32) (t_tape_a : Nat → Int32) (t_newCounts_a : Nat → Int32) (t_newOperations_a : Nat → Int32) (s1 : Int32) (s2 : Int32) (x1 : Int32) (x3 : Int32) (x5 : Int32) (rec45 : (Int32 × (Nat → Int32) × (Nat → Int32) × Int32 × Int32) → Option (Int32 × Int32 × (Nat → Int32) × (Nat → Int32))) : Option (Int32 × Int32 × (Nat → Int32) × (Nat → Int32)) :=
  (if inB s1 n_t_newOperations = true then
  (if inB x1 n_t_newCounts = true then
  (if inB x1 n_t_newCounts = true then
  (f_RF_readOperations_226 n_t_tape t_tapeSize t_place t_tape_a (upd t_newCounts_a (Int32.toNatClampNeg x1) ((t_newCounts_a (Int32.toNatClampNeg x1)) + 1)) (upd t_newOperations_a (Int32.toNatClampNeg s1) ((s2 + x5) - 48)) x3 rec45)
  else none)
  else none)
  else none)
def f_RF_readOperations_175 (n_t_tape : Nat) (n_t_newCounts : Nat) (n_t_newOperations : Nat) (t_tapeSize : Int32) (t_tape_a : Nat → Int32) (t_newCounts_a : Nat → Int32) (t_newOperations_a : Nat → Int32) (s1 : Int32) (x1 : Int32) (x3 : Int32) (x4 : Int32) (x5 : Int32) (rec45 : (Int32 × (Nat → Int32) × (Nat → Int32) × Int32 × Int32) → Option (Int32 × Int32 × (Nat → Int32) × (Nat → Int32))) : Option (Int32 × Int32 × (Nat → Int32) × (Nat → Int32)) :=
  (if x3 = 0 then
    (f_RF_readOperations_226 n_t_tape t_tapeSize s1 t_tape_a t_newCounts_a t_newOperations_a x3 rec45)
  else
    (if inB x1 n_t_newCounts = true then
    (if x4 = 114 then
      (f_RF_readOperations_209 n_t_tape n_t_newCounts n_t_newOperations t_tapeSize s1 t_tape_a t_newCounts_a t_newOperations_a ((8 * x1) + (t_newCounts_a (Int32.toNatClampNeg x1))) 2 x1 x3 x5 rec45)
    else
      (f_RF_readOperations_209 n_t_tape n_t_newCounts n_t_newOperations t_tapeSize s1 t_tape_a t_newCounts_a t_newOperations_a ((8 * x1) + (t_newCounts_a (Int32.toNatClampNeg x1))) 0 x1 x3 x5 rec45))
    else none))
def f_RF_readOperations_156 (n_t_tape : Nat) (n_t_newCounts : Nat) (n_t_newOperations : Nat) (t_tapeSize : Int32) (t_place : Int32) (t_tape_a : Nat → Int32) (t_newCounts_a : Nat → Int32) (t_newOperations_a : Nat → Int32) (s0 : Int32) (x1 : Int32) (x4 : Int32) (x5 : Int32) (rec45 : (Int32 × (Nat → Int32) × (Nat → Int32) × Int32 × Int32) → Option (Int32 × Int32 × (Nat → Int32) × (Nat → Int32))) : Option (Int32 × Int32 × (Nat → Int32) × (Nat → Int32)) :=
  (if s0 = 0 then
    (f_RF_readOperations_175 n_t_tape n_t_newCounts n_t_newOperations t_tapeSize t_tape_a t_newCounts_a t_newOperations_a t_place x1 s0 x4 x5 rec45)
  else
    (f_RF_readOperations_175 n_t_tape n_t_newCounts n_t_newOperations t_tapeSize t_tape_a t_newCounts_a t_newOperations_a (t_place + 1) x1 s0 x4 x5 rec45))
def f_RF_readOperations_155 (n_t_tape : Nat) (n_t_newCounts : Nat) (n_t_newOperations : Nat) (t_tapeSize : Int32) (t_place : Int32) (t_tape_a : Nat → Int32) (t_newCounts_a : Nat → Int32) (t_newOperations_a : Nat → Int32) (x1 : Int32) (x4 : Int32) (x5 : Int32) (rec45 : (Int32 × (Nat → Int32) × (Nat → Int32) × Int32 × Int32) → Option (Int32 × Int32 × (Nat → Int32) × (Nat → Int32))) : Option (Int32 × Int32 × (Nat → Int32) × (Nat → Int32)) :=
  (f_RF_readOperations_156 n_t_tape n_t_newCounts n_t_newOperations t_tapeSize t_place t_tape_a t_newCounts_a t_newOperations_a 0 x1 x4 x5 rec45)
def f_RF_readOperations_140 (n_t_tape : Nat) (n_t_newCounts : Nat) (n_t_newOperations : Nat) (t_tapeSize : Int32) (t_place : Int32) (t_tape_a : Nat → Int32) (t_newCounts_a : Nat → Int32) (t_newOperations_a : Nat → Int32) (s0 : Int32) (x1 : Int32) (x3 : Int32) (x4 : Int32) (x5 : Int32) (rec45 : (Int32 × (Nat → Int32) × (Nat → Int32) × Int32 × Int32) → Option (Int32 × Int32 × (Nat → Int32) × (Nat → Int32))) : Option (Int32 × Int32 × (Nat → Int32) × (Nat → Int32)) :=
  (if x3 = 0 then
    (f_RF_readOperations_155 n_t_tape n_t_newCounts n_t_newOperations t_tapeSize t_place t_tape_a t_newCounts_a t_newOperations_a x1 x4 x5 rec45)
  else
    (if s0 = 0 then
      (f_RF_readOperations_155 n_t_tape n_t_newCounts n_t_newOperations t_tapeSize t_place t_tape_a t_newCounts_a t_newOperations_a x1 x4 x5 rec45)
    else
      (f_RF_readOperations_156 n_t_tape n_t_newCounts n_t_newOperations t_tapeSize t_place t_tape_a t_newCounts_a t_newOperations_a 1 x1 x4 x5 rec45)))
def f_RF_readOperations_135 (n_t_tape : Nat) (n_t_newCounts : Nat) (n_t_newOperations : Nat) (t_tapeSize : Int32) (t_place : Int32) (t_tape_a : Nat → Int32) (t_newCounts_a : Nat → Int32) (t_newOperations_a : Nat → Int32) (x1 : Int32) (x3 : Int32) (x4 : Int32) (x5 : Int32) (rec45 : (Int32 × (Nat → Int32) × (Nat → Int32) × Int32 × Int32) → Option (Int32 × Int32 × (Nat → Int32) × (Nat → Int32))) : Option (Int32 × Int32 × (Nat → Int32) × (Nat → Int32)) :=
  (f_RF_readOperations_140 n_t_tape n_t_newCounts n_t_newOperations t_tapeSize t_place t_tape_a t_newCounts_a t_newOperations_a 1 x1 x3 x4 x5 rec45)
def f_RF_readOperations_119 (n_t_tape : Nat) (n_t_newCounts : Nat) (n_t_newOperations : Nat) (t_tapeSize : Int32) (t_place : Int32) (t_tape_a : Nat → Int32) (t_newCounts_a : Nat → Int32) (t_newOperations_a : Nat → Int32) (s0 : Int32) (x1 : Int32) (x3 : Int32) (x4 : Int32) (rec45 : (Int32 × (Nat → Int32) × (Nat → Int32) × Int32 × Int32) → Option (Int32 × Int32 × (Nat → Int32) × (Nat → Int32))) : Option (Int32 × Int32 × (Nat → Int32) × (Nat → Int32)) :=
  (if s0 = 48 then
    (f_RF_readOperations_135 n_t_tape n_t_newCounts n_t_newOperations t_tapeSize t_place t_tape_a t_newCounts_a t_newOperations_a x1 x3 x4 s0 rec45)
  else
    (if s0 = 49 then
      (f_RF_readOperations_135 n_t_tape n_t_newCounts n_t_newOperations t_tapeSize t_place t_tape_a t_newCounts_a t_newOperations_a x1 x3 x4 s0 rec45)
    else
      (f_RF_readOperations_140 n_t_tape n_t_newCounts n_t_newOperations t_tapeSize t_place t_tape_a t_newCounts_a t_newOperations_a 0 x1 x3 x4 s0 rec45)))
def f_RF_readOperations_104 (n_t_tape : Nat) (n_t_newCounts : Nat) (n_t_newOperations : Nat) (t_tapeSize : Int32) (t_tape_a : Nat → Int32) (t_newCounts_a : Nat → Int32) (t_newOperations_a : Nat → Int32) (s1 : Int32) (x1 : Int32) (x3 : Int32) (x4 : Int32) (rec45 : (Int32 × (Nat → Int32) × (Nat → Int32) × Int32 × Int32) → Option (Int32 × Int32 × (Nat → Int32) × (Nat → Int32))) : Option (Int32 × Int32 × (Nat → Int32) × (Nat → Int32)) :=
  (if x3 = 0 then
    (f_RF_readOperations_119 n_t_tape n_t_newCounts n_t_newOperations t_tapeSize s1 t_tape_a t_newCounts_a t_newOperations_a 0 x1 x3 x4 rec45)
  else
    (Option.bind (f_RF_next n_t_tape t_tapeSize s1 t_tape_a) fun q112_5 =>
    (f_RF_readOperations_119 n_t_tape n_t_newCounts n_t_newOperations t_tapeSize q112_5.2 t_tape_a t_newCounts_a t_newOperations_a q112_5.1 x1 x3 x4 rec45)))
def f_RF_readOperations_85 (n_t_tape : Nat) (n_t_newCounts : Nat) (n_t_newOperations : Nat) (t_tapeSize : Int32) (t_place : Int32) (t_tape_a : Nat → Int32) (t_newCounts_a : Nat → Int32) (t_newOperations_a : Nat → Int32) (s0 : Int32) (x1 : Int32) (x4 : Int32) (rec45 : (Int32 × (Nat → Int32) × (Nat → Int32) × Int32 × Int32) → Option (Int32 × Int32 × (Nat → Int32) × (Nat → Int32))) : Option (Int32 × Int32 × (Nat → Int32) × (Nat → Int32)) :=
  (if s0 = 0 then
    (f_RF_readOperations_104 n_t_tape n_t_newCounts n_t_newOperations t_tapeSize t_tape_a t_newCounts_a t_newOperations_a t_place x1 s0 x4 rec45)
  else
    (f_RF_readOperations_104 n_t_tape n_t_newCounts n_t_newOperations t_tapeSize t_tape_a t_newCounts_a t_newOperations_a (t_place + 1) x1 s0 x4 rec45))
def f_RF_readOperations_84 (n_t_tape : Nat) (n_t_newCounts : Nat) (n_t_newOperations : Nat) (t_tapeSize : Int32) (t_place : Int32) (t_tape_a : Nat → Int32) (t_newCounts_a : Nat → Int32) (t_newOperations_a : Nat → Int32) (x1 : Int32) (x4 : Int32) (rec45 : (Int32 × (Nat → Int32) × (Nat → Int32) × Int32 × Int32) → Option (Int32 × Int32 × (Nat → Int32) × (Nat → Int32))) : Option (Int32 × Int32 × (Nat → Int32) × (Nat → Int32)) :=
  (f_RF_readOperations_85 n_t_tape n_t_newCounts n_t_newOperations t_tapeSize t_place t_tape_a t_newCounts_a t_newOperations_a 0 x1 x4 rec45)
def f_RF_readOperations_69 (n_t_tape : Nat) (n_t_newCounts : Nat) (n_t_newOperations : Nat) (t_tapeSize : Int32) (t_place : Int32) (t_tape_a : Nat → Int32) (t_newCounts_a : Nat → Int32) (t_newOperations_a : Nat → Int32) (x1 : Int32) (x4 : Int32) (rec45 : (Int32 × (Nat → Int32) × (Nat → Int32) × Int32 × Int32) → Option (Int32 × Int32 × (Nat → Int32) × (Nat → Int32))) : Option (Int32 × Int32 × (Nat → Int32) × (Nat → Int32)) :=
  (if inB x1 n_t_newCounts = true then
  (if 8 ≤ (t_newCounts_a (Int32.toNatClampNeg x1)) then
    (f_RF_readOperations_84 n_t_tape n_t_newCounts n_t_newOperations t_tapeSize t_place t_tape_a t_newCounts_a t_newOperations_a x1 x4 rec45)
  else
    (f_RF_readOperations_85 n_t_tape n_t_newCounts n_t_newOperations t_tapeSize t_place t_tape_a t_newCounts_a t_newOperations_a 1 x1 x4 rec45))
  else none)
def g_RF_readOperations_45 (n_t_tape : Nat) (n_t_newCounts : Nat) (n_t_newOperations : Nat) (t_tapeSize : Int32) (t_tape_a : Nat → Int32) (x1 : Int32) (rec45 : (Int32 × (Nat → Int32) × (Nat → Int32) × Int32 × Int32) → Option (Int32 × Int32 × (Nat → Int32) × (Nat → Int32))) (st : (Int32 × (Nat → Int32) × (Nat → Int32) × Int32 × Int32)) : Option (Int32 × Int32 × (Nat → Int32) × (Nat → Int32)) :=
  (if st.2.2.2.1 = 0 then
    (if st.2.2.2.2 = 0 then
      (f_RF_readOperations_286 st.1 st.2.1 st.2.2.1)
    else
      (Option.bind (f_RF_next n_t_tape t_tapeSize st.1 t_tape_a) fun q274_2 =>
      (if q274_2.1 = 41 then
        some (1, (q274_2.2 + 1), st.2.1, st.2.2.1)
      else
        (f_RF_readOperations_286 q274_2.2 st.2.1 st.2.2.1))))
  else
    (Option.bind (f_RF_next n_t_tape t_tapeSize st.1 t_tape_a) fun q50_3 =>
    (if q50_3.1 = 119 then
      (f_RF_readOperations_69 n_t_tape n_t_newCounts n_t_newOperations t_tapeSize q50_3.2 t_tape_a st.2.1 st.2.2.1 x1 q50_3.1 rec45)
    else
      (if q50_3.1 = 114 then
        (f_RF_readOperations_69 n_t_tape n_t_newCounts n_t_newOperations t_tapeSize q50_3.2 t_tape_a st.2.1 st.2.2.1 x1 q50_3.1 rec45)
      else
        (f_RF_readOperations_84 n_t_tape n_t_newCounts n_t_newOperations t_tapeSize q50_3.2 t_tape_a st.2.1 st.2.2.1 x1 q50_3.1 rec45)))))
def f_RF_readOperations_14 (n_t_tape : Nat) (n_t_newCounts : Nat) (n_t_newOperations : Nat) (t_tapeSize : Int32) (t_place : Int32) (t_tape_a : Nat → Int32) (t_newCounts_a : Nat → Int32) (t_newOperations_a : Nat → Int32) (s0 : Int32) (x1 : Int32) : Option (Int32 × Int32 × (Nat → Int32) × (Nat → Int32)) :=
  (if inB x1 n_t_newCounts = true then
  (if s0 = 0 then
    (lp (g_RF_readOperations_45 n_t_tape n_t_newCounts n_t_newOperations t_tapeSize t_tape_a x1) 100000 (t_place, (upd t_newCounts_a (Int32.toNatClampNeg x1) 0), t_newOperations_a, s0, s0))
  else
    (lp (g_RF_readOperations_45 n_t_tape n_t_newCounts n_t_newOperations t_tapeSize t_tape_a x1) 100000 ((t_place + 1), (upd t_newCounts_a (Int32.toNatClampNeg x1) 0), t_newOperations_a, s0, s0)))
  else none)
def f_RF_readOperations (n_t_tape : Nat) (n_t_newCounts : Nat) (n_t_newOperations : Nat) (t_tapeSize : Int32) (t_place : Int32) (t_tape_a : Nat → Int32) (t_newCounts_a : Nat → Int32) (t_newOperations_a : Nat → Int32) (a1 : Int32) : Option (Int32 × Int32 × (Nat → Int32) × (Nat → Int32)) :=
  (Option.bind (f_RF_next n_t_tape t_tapeSize t_place t_tape_a) fun q1_1 =>
  (if q1_1.1 = 40 then
    (f_RF_readOperations_14 n_t_tape n_t_newCounts n_t_newOperations t_tapeSize q1_1.2 t_tape_a t_newCounts_a t_newOperations_a 1 a1)
  else
    (f_RF_readOperations_14 n_t_tape n_t_newCounts n_t_newOperations t_tapeSize q1_1.2 t_tape_a t_newCounts_a t_newOperations_a 0 a1)))
def post_RF_readOperations (h_t h_t_tape h_t_newCounts h_t_newOperations : Nat) (v_t_thrown v_t_words v_t_bits v_t_cells v_t_sense v_t_kinds v_t_victims v_t_others v_t_faults v_t_toldKinds v_t_toldVictims v_t_toldOthers v_t_told v_t_ground v_t_ports v_t_scrambled v_t_places v_t_sorts v_t_counts v_t_operations v_t_elements v_t_newSorts v_t_failed v_t_failedCount v_t_keeps v_t_some v_t_repairedRows v_t_repairedColumns v_t_proof : Value) (n_t_tape : Nat) (n_t_newCounts : Nat) (n_t_newOperations : Nat) (t_tapeSize : Int32) (t_tape_a : Nat → Int32) (cI cB cJ : ClassId) (res : Int32 × Int32 × (Nat → Int32) × (Nat → Int32)) : Option Value → va_W → Prop := fun o ws' => o = some (.int res.1) ∧ ws' = [(h_t, .inr (1, [v_t_thrown, v_t_words, v_t_bits, v_t_cells, v_t_sense, v_t_kinds, v_t_victims, v_t_others, v_t_faults, v_t_toldKinds, v_t_toldVictims, v_t_toldOthers, v_t_told, v_t_ground, v_t_ports, v_t_scrambled, v_t_places, v_t_sorts, v_t_counts, v_t_operations, v_t_elements, v_t_newSorts, .ref h_t_newCounts, .ref h_t_newOperations, .ref h_t_tape, .int t_tapeSize, .int res.2.1, v_t_failed, v_t_failedCount, v_t_keeps, v_t_some, v_t_repairedRows, v_t_repairedColumns, v_t_proof])), (h_t_tape, .inl (cI, n_t_tape, .inl t_tape_a)), (h_t_newCounts, .inl (cI, n_t_newCounts, .inl res.2.2.1)), (h_t_newOperations, .inl (cI, n_t_newOperations, .inl res.2.2.2))]
abbrev rm_RF_readOperations : Room := { frames := 1, cells := 0, slots := 0, locals := 20 }
set_option maxHeartbeats 4000000 in
set_option maxRecDepth 100000 in
theorem k_RF_readOperations_286 {p : Program} {l : Launch} {e : Env} {s : State} {m : MethodId} {args : Array Value} {below : List Frame} {meth : Method} {c : Code} {D : va_G} {cI cB cJ : ClassId} {A : Nat → Prop} (C0 : CX p s m args meth c D [(cI, .int), (cB, .byte), (cJ, .long)] R_RF b_RF_readOperations 7 (some .boolean) "readOperations") (hA : ∀ q, s.heap.size ≤ q → A q) {h_t h_t_tape h_t_newCounts h_t_newOperations : Nat} {v_t_thrown v_t_words v_t_bits v_t_cells v_t_sense v_t_kinds v_t_victims v_t_others v_t_faults v_t_toldKinds v_t_toldVictims v_t_toldOthers v_t_told v_t_ground v_t_ports v_t_scrambled v_t_places v_t_sorts v_t_counts v_t_operations v_t_elements v_t_newSorts v_t_failed v_t_failedCount v_t_keeps v_t_some v_t_repairedRows v_t_repairedColumns v_t_proof : Value} {res : Int32 × Int32 × (Nat → Int32) × (Nat → Int32)} {n_t_tape : Nat} {n_t_newCounts : Nat} {n_t_newOperations : Nat} {t_tapeSize : Int32} {t_place : Int32} {t_tape_a : Nat → Int32} {t_newCounts_a : Nat → Int32} {t_newOperations_a : Nat → Int32}
    (hf : f_RF_readOperations_286 t_place t_newCounts_a t_newOperations_a = some res) {H : Heap} {locs : List Loc} {ls : Array Slot} (hP : va_P D classes [(h_t, .inr (1, [v_t_thrown, v_t_words, v_t_bits, v_t_cells, v_t_sense, v_t_kinds, v_t_victims, v_t_others, v_t_faults, v_t_toldKinds, v_t_toldVictims, v_t_toldOthers, v_t_told, v_t_ground, v_t_ports, v_t_scrambled, v_t_places, v_t_sorts, v_t_counts, v_t_operations, v_t_elements, v_t_newSorts, .ref h_t_newCounts, .ref h_t_newOperations, .ref h_t_tape, .int t_tapeSize, .int t_place, v_t_failed, v_t_failedCount, v_t_keeps, v_t_some, v_t_repairedRows, v_t_repairedColumns, v_t_proof])), (h_t_tape, .inl (cI, n_t_tape, .inl t_tape_a)), (h_t_newCounts, .inl (cI, n_t_newCounts, .inl t_newCounts_a)), (h_t_newOperations, .inl (cI, n_t_newOperations, .inl t_newOperations_a))] H) (hD : va_D A [(h_t, .inr (1, [v_t_thrown, v_t_words, v_t_bits, v_t_cells, v_t_sense, v_t_kinds, v_t_victims, v_t_others, v_t_faults, v_t_toldKinds, v_t_toldVictims, v_t_toldOthers, v_t_told, v_t_ground, v_t_ports, v_t_scrambled, v_t_places, v_t_sorts, v_t_counts, v_t_operations, v_t_elements, v_t_newSorts, .ref h_t_newCounts, .ref h_t_newOperations, .ref h_t_tape, .int t_tapeSize, .int t_place, v_t_failed, v_t_failedCount, v_t_keeps, v_t_some, v_t_repairedRows, v_t_repairedColumns, v_t_proof])), (h_t_tape, .inl (cI, n_t_tape, .inl t_tape_a)), (h_t_newCounts, .inl (cI, n_t_newCounts, .inl t_newCounts_a)), (h_t_newOperations, .inl (cI, n_t_newOperations, .inl t_newOperations_a))]) (hS : va_S A s.heap H locs) (hl : lv_has ls 7 [(0, .ref h_t)]) : W p l e rm_RF_readOperations s m args below meth c H locs 0 0 (MQ below (QW D (post_RF_readOperations h_t h_t_tape h_t_newCounts h_t_newOperations v_t_thrown v_t_words v_t_bits v_t_cells v_t_sense v_t_kinds v_t_victims v_t_others v_t_faults v_t_toldKinds v_t_toldVictims v_t_toldOthers v_t_told v_t_ground v_t_ports v_t_scrambled v_t_places v_t_sorts v_t_counts v_t_operations v_t_elements v_t_newSorts v_t_failed v_t_failedCount v_t_keeps v_t_some v_t_repairedRows v_t_repairedColumns v_t_proof n_t_tape n_t_newCounts n_t_newOperations t_tapeSize t_tape_a cI cB cJ res) A) args s 0 0 A) (F0 m 286 ls []) := by
  obtain ⟨hx, hb, hml, hr, hlocks, hts, hown, hK, hin⟩ := id C0
  have hf : (((
  some (0, t_place, t_newCounts_a, t_newOperations_a))) : Option (Int32 × Int32 × (Nat → Int32) × (Nat → Int32))) = some res := hf
  refine lv_iconst (v := 0) hx hb d_RF_readOperations_286 (by decide) ?_
  refine lv_istore_n (lv' := [(3, .int 0), (0, .ref h_t)]) hx hb d_RF_readOperations_287 rfl hl (by decide) rfl (fun ls hl => ?_)
  refine lv_aload_n hx hb d_RF_readOperations_288 rfl (lv_at hl 1 rfl) ?_
  refine lv_iload_n hx hb d_RF_readOperations_289 rfl (lv_at hl 0 rfl) ?_
  refine lv_if_eq (tgt := 302) hx hb d_RF_readOperations_290 (by decide) (fun cc290 => ?_) (fun cc290 => absurd cc290 (by decide))
  refine lv_aload_n hx hb d_RF_readOperations_302 rfl (lv_at hl 1 rfl) ?_
  refine va_get (D := D) (ci := 1) (v := .int t_place) (C := R_RF) (T := F_RF) (N := 34) hx hb hts i_RF hown hK.1 hP 0 rfl rfl 26 (by decide) (hts _ w_389) (fun _ h9 => h9) rfl d_RF_readOperations_303 ?_
  refine va_put (D := D) (ci := 1) (v := .int t_place) (ty := .int) (C := R_RF) (T := F_RF) (N := 34) hx hb hts i_RF t_RF t_RF_ok n_RF hown hK.1 hP hD hS 0 rfl rfl 26 (by decide) (hts _ w_389) (fun _ h9 => h9) rfl (t_RF_ok 26 (by decide)) rfl rfl (Nat.le_of_ble_eq_true rfl) d_RF_readOperations_306 (fun H locs hP hD hS => ?_)
  have hP : va_P D classes [(h_t, .inr (1, [v_t_thrown, v_t_words, v_t_bits, v_t_cells, v_t_sense, v_t_kinds, v_t_victims, v_t_others, v_t_faults, v_t_toldKinds, v_t_toldVictims, v_t_toldOthers, v_t_told, v_t_ground, v_t_ports, v_t_scrambled, v_t_places, v_t_sorts, v_t_counts, v_t_operations, v_t_elements, v_t_newSorts, .ref h_t_newCounts, .ref h_t_newOperations, .ref h_t_tape, .int t_tapeSize, .int t_place, v_t_failed, v_t_failedCount, v_t_keeps, v_t_some, v_t_repairedRows, v_t_repairedColumns, v_t_proof])), (h_t_tape, .inl (cI, n_t_tape, .inl t_tape_a)), (h_t_newCounts, .inl (cI, n_t_newCounts, .inl t_newCounts_a)), (h_t_newOperations, .inl (cI, n_t_newOperations, .inl t_newOperations_a))] H := hP
  have hD : va_D A [(h_t, .inr (1, [v_t_thrown, v_t_words, v_t_bits, v_t_cells, v_t_sense, v_t_kinds, v_t_victims, v_t_others, v_t_faults, v_t_toldKinds, v_t_toldVictims, v_t_toldOthers, v_t_told, v_t_ground, v_t_ports, v_t_scrambled, v_t_places, v_t_sorts, v_t_counts, v_t_operations, v_t_elements, v_t_newSorts, .ref h_t_newCounts, .ref h_t_newOperations, .ref h_t_tape, .int t_tapeSize, .int t_place, v_t_failed, v_t_failedCount, v_t_keeps, v_t_some, v_t_repairedRows, v_t_repairedColumns, v_t_proof])), (h_t_tape, .inl (cI, n_t_tape, .inl t_tape_a)), (h_t_newCounts, .inl (cI, n_t_newCounts, .inl t_newCounts_a)), (h_t_newOperations, .inl (cI, n_t_newOperations, .inl t_newOperations_a))] := hD
  refine lv_iload_n hx hb d_RF_readOperations_309 rfl (lv_at hl 0 rfl) ?_
  obtain rfl := Option.some.inj hf
  exact ret_z hx hb hr rfl hlocks hP hD hS ⟨rfl, rfl⟩ d_RF_readOperations_310
set_option maxHeartbeats 4000000 in
set_option maxRecDepth 100000 in
theorem k_RF_readOperations_244 {p : Program} {l : Launch} {e : Env} {s : State} {m : MethodId} {args : Array Value} {below : List Frame} {meth : Method} {c : Code} {D : va_G} {cI cB cJ : ClassId} {A : Nat → Prop} (C0 : CX p s m args meth c D [(cI, .int), (cB, .byte), (cJ, .long)] R_RF b_RF_readOperations 7 (some .boolean) "readOperations") (hA : ∀ q, s.heap.size ≤ q → A q) {h_t h_t_tape h_t_newCounts h_t_newOperations : Nat} {v_t_thrown v_t_words v_t_bits v_t_cells v_t_sense v_t_kinds v_t_victims v_t_others v_t_faults v_t_toldKinds v_t_toldVictims v_t_toldOthers v_t_told v_t_ground v_t_ports v_t_scrambled v_t_places v_t_sorts v_t_counts v_t_operations v_t_elements v_t_newSorts v_t_failed v_t_failedCount v_t_keeps v_t_some v_t_repairedRows v_t_repairedColumns v_t_proof : Value} {res : Int32 × Int32 × (Nat → Int32) × (Nat → Int32)} {rec45 : (Int32 × (Nat → Int32) × (Nat → Int32) × Int32 × Int32) → Option (Int32 × Int32 × (Nat → Int32) × (Nat → Int32))} {n_t_tape : Nat} {n_t_newCounts : Nat} {n_t_newOperations : Nat} {t_tapeSize : Int32} {t_place : Int32} {t_tape_a : Nat → Int32} {t_newCounts_a : Nat → Int32} {t_newOperations_a : Nat → Int32} {s0 : Int32} {x1 : Int32} {x3 : Int32}
    (hrec45 : ∀ (st : (Int32 × (Nat → Int32) × (Nat → Int32) × Int32 × Int32)), rec45 st = some res → ∀  (H : Heap) (locs : List Loc) (ls : Array Slot), va_P D classes [(h_t, .inr (1, [v_t_thrown, v_t_words, v_t_bits, v_t_cells, v_t_sense, v_t_kinds, v_t_victims, v_t_others, v_t_faults, v_t_toldKinds, v_t_toldVictims, v_t_toldOthers, v_t_told, v_t_ground, v_t_ports, v_t_scrambled, v_t_places, v_t_sorts, v_t_counts, v_t_operations, v_t_elements, v_t_newSorts, .ref h_t_newCounts, .ref h_t_newOperations, .ref h_t_tape, .int t_tapeSize, .int st.1, v_t_failed, v_t_failedCount, v_t_keeps, v_t_some, v_t_repairedRows, v_t_repairedColumns, v_t_proof])), (h_t_tape, .inl (cI, n_t_tape, .inl t_tape_a)), (h_t_newCounts, .inl (cI, n_t_newCounts, .inl st.2.1)), (h_t_newOperations, .inl (cI, n_t_newOperations, .inl st.2.2.1))] H → va_D A [(h_t, .inr (1, [v_t_thrown, v_t_words, v_t_bits, v_t_cells, v_t_sense, v_t_kinds, v_t_victims, v_t_others, v_t_faults, v_t_toldKinds, v_t_toldVictims, v_t_toldOthers, v_t_told, v_t_ground, v_t_ports, v_t_scrambled, v_t_places, v_t_sorts, v_t_counts, v_t_operations, v_t_elements, v_t_newSorts, .ref h_t_newCounts, .ref h_t_newOperations, .ref h_t_tape, .int t_tapeSize, .int st.1, v_t_failed, v_t_failedCount, v_t_keeps, v_t_some, v_t_repairedRows, v_t_repairedColumns, v_t_proof])), (h_t_tape, .inl (cI, n_t_tape, .inl t_tape_a)), (h_t_newCounts, .inl (cI, n_t_newCounts, .inl st.2.1)), (h_t_newOperations, .inl (cI, n_t_newOperations, .inl st.2.2.1))] → va_S A s.heap H locs → lv_has ls 7 [(0, .ref h_t), (1, .int x1), (2, .int st.2.2.2.1), (3, .int st.2.2.2.2)] → W p l e rm_RF_readOperations s m args below meth c H locs 0 0 (MQ below (QW D (post_RF_readOperations h_t h_t_tape h_t_newCounts h_t_newOperations v_t_thrown v_t_words v_t_bits v_t_cells v_t_sense v_t_kinds v_t_victims v_t_others v_t_faults v_t_toldKinds v_t_toldVictims v_t_toldOthers v_t_told v_t_ground v_t_ports v_t_scrambled v_t_places v_t_sorts v_t_counts v_t_operations v_t_elements v_t_newSorts v_t_failed v_t_failedCount v_t_keeps v_t_some v_t_repairedRows v_t_repairedColumns v_t_proof n_t_tape n_t_newCounts n_t_newOperations t_tapeSize t_tape_a cI cB cJ res) A) args s 0 0 A) (F0 m 45 ls []))
    (hf : f_RF_readOperations_244 t_place t_newCounts_a t_newOperations_a s0 x3 rec45 = some res) {H : Heap} {locs : List Loc} {ls : Array Slot} (hP : va_P D classes [(h_t, .inr (1, [v_t_thrown, v_t_words, v_t_bits, v_t_cells, v_t_sense, v_t_kinds, v_t_victims, v_t_others, v_t_faults, v_t_toldKinds, v_t_toldVictims, v_t_toldOthers, v_t_told, v_t_ground, v_t_ports, v_t_scrambled, v_t_places, v_t_sorts, v_t_counts, v_t_operations, v_t_elements, v_t_newSorts, .ref h_t_newCounts, .ref h_t_newOperations, .ref h_t_tape, .int t_tapeSize, .int t_place, v_t_failed, v_t_failedCount, v_t_keeps, v_t_some, v_t_repairedRows, v_t_repairedColumns, v_t_proof])), (h_t_tape, .inl (cI, n_t_tape, .inl t_tape_a)), (h_t_newCounts, .inl (cI, n_t_newCounts, .inl t_newCounts_a)), (h_t_newOperations, .inl (cI, n_t_newOperations, .inl t_newOperations_a))] H) (hD : va_D A [(h_t, .inr (1, [v_t_thrown, v_t_words, v_t_bits, v_t_cells, v_t_sense, v_t_kinds, v_t_victims, v_t_others, v_t_faults, v_t_toldKinds, v_t_toldVictims, v_t_toldOthers, v_t_told, v_t_ground, v_t_ports, v_t_scrambled, v_t_places, v_t_sorts, v_t_counts, v_t_operations, v_t_elements, v_t_newSorts, .ref h_t_newCounts, .ref h_t_newOperations, .ref h_t_tape, .int t_tapeSize, .int t_place, v_t_failed, v_t_failedCount, v_t_keeps, v_t_some, v_t_repairedRows, v_t_repairedColumns, v_t_proof])), (h_t_tape, .inl (cI, n_t_tape, .inl t_tape_a)), (h_t_newCounts, .inl (cI, n_t_newCounts, .inl t_newCounts_a)), (h_t_newOperations, .inl (cI, n_t_newOperations, .inl t_newOperations_a))]) (hS : va_S A s.heap H locs) (hl : lv_has ls 7 [(0, .ref h_t), (1, .int x1), (3, .int x3)]) : W p l e rm_RF_readOperations s m args below meth c H locs 0 0 (MQ below (QW D (post_RF_readOperations h_t h_t_tape h_t_newCounts h_t_newOperations v_t_thrown v_t_words v_t_bits v_t_cells v_t_sense v_t_kinds v_t_victims v_t_others v_t_faults v_t_toldKinds v_t_toldVictims v_t_toldOthers v_t_told v_t_ground v_t_ports v_t_scrambled v_t_places v_t_sorts v_t_counts v_t_operations v_t_elements v_t_newSorts v_t_failed v_t_failedCount v_t_keeps v_t_some v_t_repairedRows v_t_repairedColumns v_t_proof n_t_tape n_t_newCounts n_t_newOperations t_tapeSize t_tape_a cI cB cJ res) A) args s 0 0 A) (F0 m 244 ls [.int s0]) := by
  obtain ⟨hx, hb, hml, hr, hlocks, hts, hown, hK, hin⟩ := id C0
  have hf : (((
  (if s0 = 0 then
    (rec45 (t_place, t_newCounts_a, t_newOperations_a, s0, x3))
  else
    (rec45 ((t_place + 1), t_newCounts_a, t_newOperations_a, s0, x3))))) : Option (Int32 × Int32 × (Nat → Int32) × (Nat → Int32))) = some res := hf
  refine lv_istore_n (lv' := [(2, .int s0), (0, .ref h_t), (1, .int x1), (3, .int x3)]) hx hb d_RF_readOperations_244 rfl hl (by decide) rfl (fun ls hl => ?_)
  refine lv_aload_n hx hb d_RF_readOperations_245 rfl (lv_at hl 1 rfl) ?_
  refine lv_iload_n hx hb d_RF_readOperations_246 rfl (lv_at hl 0 rfl) ?_
  refine lv_if_eq (tgt := 259) hx hb d_RF_readOperations_247 (by decide) (fun cc247 => ?_) (fun cc247 => ?_)
  · have hf := ifT cc247 hf
    refine lv_aload_n hx hb d_RF_readOperations_259 rfl (lv_at hl 1 rfl) ?_
    refine va_get (D := D) (ci := 1) (v := .int t_place) (C := R_RF) (T := F_RF) (N := 34) hx hb hts i_RF hown hK.1 hP 0 rfl rfl 26 (by decide) (hts _ w_389) (fun _ h9 => h9) rfl d_RF_readOperations_260 ?_
    refine va_put (D := D) (ci := 1) (v := .int t_place) (ty := .int) (C := R_RF) (T := F_RF) (N := 34) hx hb hts i_RF t_RF t_RF_ok n_RF hown hK.1 hP hD hS 0 rfl rfl 26 (by decide) (hts _ w_389) (fun _ h9 => h9) rfl (t_RF_ok 26 (by decide)) rfl rfl (Nat.le_of_ble_eq_true rfl) d_RF_readOperations_263 (fun H locs hP hD hS => ?_)
    have hP : va_P D classes [(h_t, .inr (1, [v_t_thrown, v_t_words, v_t_bits, v_t_cells, v_t_sense, v_t_kinds, v_t_victims, v_t_others, v_t_faults, v_t_toldKinds, v_t_toldVictims, v_t_toldOthers, v_t_told, v_t_ground, v_t_ports, v_t_scrambled, v_t_places, v_t_sorts, v_t_counts, v_t_operations, v_t_elements, v_t_newSorts, .ref h_t_newCounts, .ref h_t_newOperations, .ref h_t_tape, .int t_tapeSize, .int t_place, v_t_failed, v_t_failedCount, v_t_keeps, v_t_some, v_t_repairedRows, v_t_repairedColumns, v_t_proof])), (h_t_tape, .inl (cI, n_t_tape, .inl t_tape_a)), (h_t_newCounts, .inl (cI, n_t_newCounts, .inl t_newCounts_a)), (h_t_newOperations, .inl (cI, n_t_newOperations, .inl t_newOperations_a))] H := hP
    have hD : va_D A [(h_t, .inr (1, [v_t_thrown, v_t_words, v_t_bits, v_t_cells, v_t_sense, v_t_kinds, v_t_victims, v_t_others, v_t_faults, v_t_toldKinds, v_t_toldVictims, v_t_toldOthers, v_t_told, v_t_ground, v_t_ports, v_t_scrambled, v_t_places, v_t_sorts, v_t_counts, v_t_operations, v_t_elements, v_t_newSorts, .ref h_t_newCounts, .ref h_t_newOperations, .ref h_t_tape, .int t_tapeSize, .int t_place, v_t_failed, v_t_failedCount, v_t_keeps, v_t_some, v_t_repairedRows, v_t_repairedColumns, v_t_proof])), (h_t_tape, .inl (cI, n_t_tape, .inl t_tape_a)), (h_t_newCounts, .inl (cI, n_t_newCounts, .inl t_newCounts_a)), (h_t_newOperations, .inl (cI, n_t_newOperations, .inl t_newOperations_a))] := hD
    refine lv_goto (tgt := 45) hx hb d_RF_readOperations_266 (by decide) ?_
    exact hrec45 (t_place, t_newCounts_a, t_newOperations_a, s0, x3) hf  H locs ls hP hD hS (lv_sub hl [1, 2, 0, 3] rfl)
  · have hf := ifF cc247 hf
    refine lv_aload_n hx hb d_RF_readOperations_250 rfl (lv_at hl 1 rfl) ?_
    refine va_get (D := D) (ci := 1) (v := .int t_place) (C := R_RF) (T := F_RF) (N := 34) hx hb hts i_RF hown hK.1 hP 0 rfl rfl 26 (by decide) (hts _ w_389) (fun _ h9 => h9) rfl d_RF_readOperations_251 ?_
    refine lv_iconst (v := 1) hx hb d_RF_readOperations_254 (by decide) ?_
    refine lv_iadd hx hb d_RF_readOperations_255 ?_
    refine lv_goto (tgt := 263) hx hb d_RF_readOperations_256 (by decide) ?_
    refine va_put (D := D) (ci := 1) (v := .int (t_place + 1)) (ty := .int) (C := R_RF) (T := F_RF) (N := 34) hx hb hts i_RF t_RF t_RF_ok n_RF hown hK.1 hP hD hS 0 rfl rfl 26 (by decide) (hts _ w_389) (fun _ h9 => h9) rfl (t_RF_ok 26 (by decide)) rfl rfl (Nat.le_of_ble_eq_true rfl) d_RF_readOperations_263 (fun H locs hP hD hS => ?_)
    have hP : va_P D classes [(h_t, .inr (1, [v_t_thrown, v_t_words, v_t_bits, v_t_cells, v_t_sense, v_t_kinds, v_t_victims, v_t_others, v_t_faults, v_t_toldKinds, v_t_toldVictims, v_t_toldOthers, v_t_told, v_t_ground, v_t_ports, v_t_scrambled, v_t_places, v_t_sorts, v_t_counts, v_t_operations, v_t_elements, v_t_newSorts, .ref h_t_newCounts, .ref h_t_newOperations, .ref h_t_tape, .int t_tapeSize, .int (t_place + 1), v_t_failed, v_t_failedCount, v_t_keeps, v_t_some, v_t_repairedRows, v_t_repairedColumns, v_t_proof])), (h_t_tape, .inl (cI, n_t_tape, .inl t_tape_a)), (h_t_newCounts, .inl (cI, n_t_newCounts, .inl t_newCounts_a)), (h_t_newOperations, .inl (cI, n_t_newOperations, .inl t_newOperations_a))] H := hP
    have hD : va_D A [(h_t, .inr (1, [v_t_thrown, v_t_words, v_t_bits, v_t_cells, v_t_sense, v_t_kinds, v_t_victims, v_t_others, v_t_faults, v_t_toldKinds, v_t_toldVictims, v_t_toldOthers, v_t_told, v_t_ground, v_t_ports, v_t_scrambled, v_t_places, v_t_sorts, v_t_counts, v_t_operations, v_t_elements, v_t_newSorts, .ref h_t_newCounts, .ref h_t_newOperations, .ref h_t_tape, .int t_tapeSize, .int (t_place + 1), v_t_failed, v_t_failedCount, v_t_keeps, v_t_some, v_t_repairedRows, v_t_repairedColumns, v_t_proof])), (h_t_tape, .inl (cI, n_t_tape, .inl t_tape_a)), (h_t_newCounts, .inl (cI, n_t_newCounts, .inl t_newCounts_a)), (h_t_newOperations, .inl (cI, n_t_newOperations, .inl t_newOperations_a))] := hD
    refine lv_goto (tgt := 45) hx hb d_RF_readOperations_266 (by decide) ?_
    exact hrec45 ((t_place + 1), t_newCounts_a, t_newOperations_a, s0, x3) hf  H locs ls hP hD hS (lv_sub hl [1, 2, 0, 3] rfl)
set_option maxHeartbeats 4000000 in
set_option maxRecDepth 100000 in
theorem k_RF_readOperations_243 {p : Program} {l : Launch} {e : Env} {s : State} {m : MethodId} {args : Array Value} {below : List Frame} {meth : Method} {c : Code} {D : va_G} {cI cB cJ : ClassId} {A : Nat → Prop} (C0 : CX p s m args meth c D [(cI, .int), (cB, .byte), (cJ, .long)] R_RF b_RF_readOperations 7 (some .boolean) "readOperations") (hA : ∀ q, s.heap.size ≤ q → A q) {h_t h_t_tape h_t_newCounts h_t_newOperations : Nat} {v_t_thrown v_t_words v_t_bits v_t_cells v_t_sense v_t_kinds v_t_victims v_t_others v_t_faults v_t_toldKinds v_t_toldVictims v_t_toldOthers v_t_told v_t_ground v_t_ports v_t_scrambled v_t_places v_t_sorts v_t_counts v_t_operations v_t_elements v_t_newSorts v_t_failed v_t_failedCount v_t_keeps v_t_some v_t_repairedRows v_t_repairedColumns v_t_proof : Value} {res : Int32 × Int32 × (Nat → Int32) × (Nat → Int32)} {rec45 : (Int32 × (Nat → Int32) × (Nat → Int32) × Int32 × Int32) → Option (Int32 × Int32 × (Nat → Int32) × (Nat → Int32))} {n_t_tape : Nat} {n_t_newCounts : Nat} {n_t_newOperations : Nat} {t_tapeSize : Int32} {t_place : Int32} {t_tape_a : Nat → Int32} {t_newCounts_a : Nat → Int32} {t_newOperations_a : Nat → Int32} {x1 : Int32} {x3 : Int32}
    (hrec45 : ∀ (st : (Int32 × (Nat → Int32) × (Nat → Int32) × Int32 × Int32)), rec45 st = some res → ∀  (H : Heap) (locs : List Loc) (ls : Array Slot), va_P D classes [(h_t, .inr (1, [v_t_thrown, v_t_words, v_t_bits, v_t_cells, v_t_sense, v_t_kinds, v_t_victims, v_t_others, v_t_faults, v_t_toldKinds, v_t_toldVictims, v_t_toldOthers, v_t_told, v_t_ground, v_t_ports, v_t_scrambled, v_t_places, v_t_sorts, v_t_counts, v_t_operations, v_t_elements, v_t_newSorts, .ref h_t_newCounts, .ref h_t_newOperations, .ref h_t_tape, .int t_tapeSize, .int st.1, v_t_failed, v_t_failedCount, v_t_keeps, v_t_some, v_t_repairedRows, v_t_repairedColumns, v_t_proof])), (h_t_tape, .inl (cI, n_t_tape, .inl t_tape_a)), (h_t_newCounts, .inl (cI, n_t_newCounts, .inl st.2.1)), (h_t_newOperations, .inl (cI, n_t_newOperations, .inl st.2.2.1))] H → va_D A [(h_t, .inr (1, [v_t_thrown, v_t_words, v_t_bits, v_t_cells, v_t_sense, v_t_kinds, v_t_victims, v_t_others, v_t_faults, v_t_toldKinds, v_t_toldVictims, v_t_toldOthers, v_t_told, v_t_ground, v_t_ports, v_t_scrambled, v_t_places, v_t_sorts, v_t_counts, v_t_operations, v_t_elements, v_t_newSorts, .ref h_t_newCounts, .ref h_t_newOperations, .ref h_t_tape, .int t_tapeSize, .int st.1, v_t_failed, v_t_failedCount, v_t_keeps, v_t_some, v_t_repairedRows, v_t_repairedColumns, v_t_proof])), (h_t_tape, .inl (cI, n_t_tape, .inl t_tape_a)), (h_t_newCounts, .inl (cI, n_t_newCounts, .inl st.2.1)), (h_t_newOperations, .inl (cI, n_t_newOperations, .inl st.2.2.1))] → va_S A s.heap H locs → lv_has ls 7 [(0, .ref h_t), (1, .int x1), (2, .int st.2.2.2.1), (3, .int st.2.2.2.2)] → W p l e rm_RF_readOperations s m args below meth c H locs 0 0 (MQ below (QW D (post_RF_readOperations h_t h_t_tape h_t_newCounts h_t_newOperations v_t_thrown v_t_words v_t_bits v_t_cells v_t_sense v_t_kinds v_t_victims v_t_others v_t_faults v_t_toldKinds v_t_toldVictims v_t_toldOthers v_t_told v_t_ground v_t_ports v_t_scrambled v_t_places v_t_sorts v_t_counts v_t_operations v_t_elements v_t_newSorts v_t_failed v_t_failedCount v_t_keeps v_t_some v_t_repairedRows v_t_repairedColumns v_t_proof n_t_tape n_t_newCounts n_t_newOperations t_tapeSize t_tape_a cI cB cJ res) A) args s 0 0 A) (F0 m 45 ls []))
    (hf : f_RF_readOperations_243 t_place t_newCounts_a t_newOperations_a x3 rec45 = some res) {H : Heap} {locs : List Loc} {ls : Array Slot} (hP : va_P D classes [(h_t, .inr (1, [v_t_thrown, v_t_words, v_t_bits, v_t_cells, v_t_sense, v_t_kinds, v_t_victims, v_t_others, v_t_faults, v_t_toldKinds, v_t_toldVictims, v_t_toldOthers, v_t_told, v_t_ground, v_t_ports, v_t_scrambled, v_t_places, v_t_sorts, v_t_counts, v_t_operations, v_t_elements, v_t_newSorts, .ref h_t_newCounts, .ref h_t_newOperations, .ref h_t_tape, .int t_tapeSize, .int t_place, v_t_failed, v_t_failedCount, v_t_keeps, v_t_some, v_t_repairedRows, v_t_repairedColumns, v_t_proof])), (h_t_tape, .inl (cI, n_t_tape, .inl t_tape_a)), (h_t_newCounts, .inl (cI, n_t_newCounts, .inl t_newCounts_a)), (h_t_newOperations, .inl (cI, n_t_newOperations, .inl t_newOperations_a))] H) (hD : va_D A [(h_t, .inr (1, [v_t_thrown, v_t_words, v_t_bits, v_t_cells, v_t_sense, v_t_kinds, v_t_victims, v_t_others, v_t_faults, v_t_toldKinds, v_t_toldVictims, v_t_toldOthers, v_t_told, v_t_ground, v_t_ports, v_t_scrambled, v_t_places, v_t_sorts, v_t_counts, v_t_operations, v_t_elements, v_t_newSorts, .ref h_t_newCounts, .ref h_t_newOperations, .ref h_t_tape, .int t_tapeSize, .int t_place, v_t_failed, v_t_failedCount, v_t_keeps, v_t_some, v_t_repairedRows, v_t_repairedColumns, v_t_proof])), (h_t_tape, .inl (cI, n_t_tape, .inl t_tape_a)), (h_t_newCounts, .inl (cI, n_t_newCounts, .inl t_newCounts_a)), (h_t_newOperations, .inl (cI, n_t_newOperations, .inl t_newOperations_a))]) (hS : va_S A s.heap H locs) (hl : lv_has ls 7 [(0, .ref h_t), (1, .int x1), (3, .int x3)]) : W p l e rm_RF_readOperations s m args below meth c H locs 0 0 (MQ below (QW D (post_RF_readOperations h_t h_t_tape h_t_newCounts h_t_newOperations v_t_thrown v_t_words v_t_bits v_t_cells v_t_sense v_t_kinds v_t_victims v_t_others v_t_faults v_t_toldKinds v_t_toldVictims v_t_toldOthers v_t_told v_t_ground v_t_ports v_t_scrambled v_t_places v_t_sorts v_t_counts v_t_operations v_t_elements v_t_newSorts v_t_failed v_t_failedCount v_t_keeps v_t_some v_t_repairedRows v_t_repairedColumns v_t_proof n_t_tape n_t_newCounts n_t_newOperations t_tapeSize t_tape_a cI cB cJ res) A) args s 0 0 A) (F0 m 243 ls []) := by
  obtain ⟨hx, hb, hml, hr, hlocks, hts, hown, hK, hin⟩ := id C0
  have hf : (((
  (f_RF_readOperations_244 t_place t_newCounts_a t_newOperations_a 0 x3 rec45))) : Option (Int32 × Int32 × (Nat → Int32) × (Nat → Int32))) = some res := hf
  refine lv_iconst (v := 0) hx hb d_RF_readOperations_243 (by decide) ?_
  exact k_RF_readOperations_244 (s := s) C0 hA hrec45 hf hP hD hS (lv_sub hl [0, 1, 2] rfl)
set_option maxHeartbeats 4000000 in
set_option maxRecDepth 100000 in
theorem k_RF_readOperations_226 {p : Program} {l : Launch} {e : Env} {s : State} {m : MethodId} {args : Array Value} {below : List Frame} {meth : Method} {c : Code} {D : va_G} {cI cB cJ : ClassId} {A : Nat → Prop} (C0 : CX p s m args meth c D [(cI, .int), (cB, .byte), (cJ, .long)] R_RF b_RF_readOperations 7 (some .boolean) "readOperations") (hA : ∀ q, s.heap.size ≤ q → A q) {h_t h_t_tape h_t_newCounts h_t_newOperations : Nat} {v_t_thrown v_t_words v_t_bits v_t_cells v_t_sense v_t_kinds v_t_victims v_t_others v_t_faults v_t_toldKinds v_t_toldVictims v_t_toldOthers v_t_told v_t_ground v_t_ports v_t_scrambled v_t_places v_t_sorts v_t_counts v_t_operations v_t_elements v_t_newSorts v_t_failed v_t_failedCount v_t_keeps v_t_some v_t_repairedRows v_t_repairedColumns v_t_proof : Value} {res : Int32 × Int32 × (Nat → Int32) × (Nat → Int32)} {rec45 : (Int32 × (Nat → Int32) × (Nat → Int32) × Int32 × Int32) → Option (Int32 × Int32 × (Nat → Int32) × (Nat → Int32))} {n_t_tape : Nat} {n_t_newCounts : Nat} {n_t_newOperations : Nat} {t_tapeSize : Int32} {t_place : Int32} {t_tape_a : Nat → Int32} {t_newCounts_a : Nat → Int32} {t_newOperations_a : Nat → Int32} {x1 : Int32} {x3 : Int32}
    (hrec45 : ∀ (st : (Int32 × (Nat → Int32) × (Nat → Int32) × Int32 × Int32)), rec45 st = some res → ∀  (H : Heap) (locs : List Loc) (ls : Array Slot), va_P D classes [(h_t, .inr (1, [v_t_thrown, v_t_words, v_t_bits, v_t_cells, v_t_sense, v_t_kinds, v_t_victims, v_t_others, v_t_faults, v_t_toldKinds, v_t_toldVictims, v_t_toldOthers, v_t_told, v_t_ground, v_t_ports, v_t_scrambled, v_t_places, v_t_sorts, v_t_counts, v_t_operations, v_t_elements, v_t_newSorts, .ref h_t_newCounts, .ref h_t_newOperations, .ref h_t_tape, .int t_tapeSize, .int st.1, v_t_failed, v_t_failedCount, v_t_keeps, v_t_some, v_t_repairedRows, v_t_repairedColumns, v_t_proof])), (h_t_tape, .inl (cI, n_t_tape, .inl t_tape_a)), (h_t_newCounts, .inl (cI, n_t_newCounts, .inl st.2.1)), (h_t_newOperations, .inl (cI, n_t_newOperations, .inl st.2.2.1))] H → va_D A [(h_t, .inr (1, [v_t_thrown, v_t_words, v_t_bits, v_t_cells, v_t_sense, v_t_kinds, v_t_victims, v_t_others, v_t_faults, v_t_toldKinds, v_t_toldVictims, v_t_toldOthers, v_t_told, v_t_ground, v_t_ports, v_t_scrambled, v_t_places, v_t_sorts, v_t_counts, v_t_operations, v_t_elements, v_t_newSorts, .ref h_t_newCounts, .ref h_t_newOperations, .ref h_t_tape, .int t_tapeSize, .int st.1, v_t_failed, v_t_failedCount, v_t_keeps, v_t_some, v_t_repairedRows, v_t_repairedColumns, v_t_proof])), (h_t_tape, .inl (cI, n_t_tape, .inl t_tape_a)), (h_t_newCounts, .inl (cI, n_t_newCounts, .inl st.2.1)), (h_t_newOperations, .inl (cI, n_t_newOperations, .inl st.2.2.1))] → va_S A s.heap H locs → lv_has ls 7 [(0, .ref h_t), (1, .int x1), (2, .int st.2.2.2.1), (3, .int st.2.2.2.2)] → W p l e rm_RF_readOperations s m args below meth c H locs 0 0 (MQ below (QW D (post_RF_readOperations h_t h_t_tape h_t_newCounts h_t_newOperations v_t_thrown v_t_words v_t_bits v_t_cells v_t_sense v_t_kinds v_t_victims v_t_others v_t_faults v_t_toldKinds v_t_toldVictims v_t_toldOthers v_t_told v_t_ground v_t_ports v_t_scrambled v_t_places v_t_sorts v_t_counts v_t_operations v_t_elements v_t_newSorts v_t_failed v_t_failedCount v_t_keeps v_t_some v_t_repairedRows v_t_repairedColumns v_t_proof n_t_tape n_t_newCounts n_t_newOperations t_tapeSize t_tape_a cI cB cJ res) A) args s 0 0 A) (F0 m 45 ls []))
    (hf : f_RF_readOperations_226 n_t_tape t_tapeSize t_place t_tape_a t_newCounts_a t_newOperations_a x3 rec45 = some res) {H : Heap} {locs : List Loc} {ls : Array Slot} (hP : va_P D classes [(h_t, .inr (1, [v_t_thrown, v_t_words, v_t_bits, v_t_cells, v_t_sense, v_t_kinds, v_t_victims, v_t_others, v_t_faults, v_t_toldKinds, v_t_toldVictims, v_t_toldOthers, v_t_told, v_t_ground, v_t_ports, v_t_scrambled, v_t_places, v_t_sorts, v_t_counts, v_t_operations, v_t_elements, v_t_newSorts, .ref h_t_newCounts, .ref h_t_newOperations, .ref h_t_tape, .int t_tapeSize, .int t_place, v_t_failed, v_t_failedCount, v_t_keeps, v_t_some, v_t_repairedRows, v_t_repairedColumns, v_t_proof])), (h_t_tape, .inl (cI, n_t_tape, .inl t_tape_a)), (h_t_newCounts, .inl (cI, n_t_newCounts, .inl t_newCounts_a)), (h_t_newOperations, .inl (cI, n_t_newOperations, .inl t_newOperations_a))] H) (hD : va_D A [(h_t, .inr (1, [v_t_thrown, v_t_words, v_t_bits, v_t_cells, v_t_sense, v_t_kinds, v_t_victims, v_t_others, v_t_faults, v_t_toldKinds, v_t_toldVictims, v_t_toldOthers, v_t_told, v_t_ground, v_t_ports, v_t_scrambled, v_t_places, v_t_sorts, v_t_counts, v_t_operations, v_t_elements, v_t_newSorts, .ref h_t_newCounts, .ref h_t_newOperations, .ref h_t_tape, .int t_tapeSize, .int t_place, v_t_failed, v_t_failedCount, v_t_keeps, v_t_some, v_t_repairedRows, v_t_repairedColumns, v_t_proof])), (h_t_tape, .inl (cI, n_t_tape, .inl t_tape_a)), (h_t_newCounts, .inl (cI, n_t_newCounts, .inl t_newCounts_a)), (h_t_newOperations, .inl (cI, n_t_newOperations, .inl t_newOperations_a))]) (hS : va_S A s.heap H locs) (hl : lv_has ls 7 [(0, .ref h_t), (1, .int x1), (3, .int x3)]) : W p l e rm_RF_readOperations s m args below meth c H locs 0 0 (MQ below (QW D (post_RF_readOperations h_t h_t_tape h_t_newCounts h_t_newOperations v_t_thrown v_t_words v_t_bits v_t_cells v_t_sense v_t_kinds v_t_victims v_t_others v_t_faults v_t_toldKinds v_t_toldVictims v_t_toldOthers v_t_told v_t_ground v_t_ports v_t_scrambled v_t_places v_t_sorts v_t_counts v_t_operations v_t_elements v_t_newSorts v_t_failed v_t_failedCount v_t_keeps v_t_some v_t_repairedRows v_t_repairedColumns v_t_proof n_t_tape n_t_newCounts n_t_newOperations t_tapeSize t_tape_a cI cB cJ res) A) args s 0 0 A) (F0 m 226 ls []) := by
  obtain ⟨hx, hb, hml, hr, hlocks, hts, hown, hK, hin⟩ := id C0
  have hf : (((
  (if x3 = 0 then
    (f_RF_readOperations_243 t_place t_newCounts_a t_newOperations_a x3 rec45)
  else
    (Option.bind (f_RF_next n_t_tape t_tapeSize t_place t_tape_a) fun q231_4 =>
    (if q231_4.1 = 44 then
      (f_RF_readOperations_244 q231_4.2 t_newCounts_a t_newOperations_a 1 x3 rec45)
    else
      (f_RF_readOperations_243 q231_4.2 t_newCounts_a t_newOperations_a x3 rec45)))))) : Option (Int32 × Int32 × (Nat → Int32) × (Nat → Int32))) = some res := hf
  refine lv_iload_n hx hb d_RF_readOperations_226 rfl (lv_at hl 2 rfl) ?_
  refine lv_if_eq (tgt := 243) hx hb d_RF_readOperations_227 (by decide) (fun cc227 => ?_) (fun cc227 => ?_)
  · have hf := ifT cc227 hf
    exact k_RF_readOperations_243 (s := s) C0 hA hrec45 hf hP hD hS (lv_sub hl [0, 1, 2] rfl)
  · have hf := ifF cc227 hf
    refine lv_aload_n hx hb d_RF_readOperations_230 rfl (lv_at hl 0 rfl) ?_
    obtain ⟨q231_4, hc, hf⟩ := bindS hf
    refine mcV (n := 0) (As := []) (rest := []) (wr := [(h_t_newCounts, .inl (cI, n_t_newCounts, .inl t_newCounts_a)), (h_t_newOperations, .inl (cI, n_t_newOperations, .inl t_newOperations_a))]) hx hb hml hown hts hK (c_RF_next (l := l) (D := D) (cI := cI) (cB := cB) (cJ := cJ) (h_t := h_t) (h_t_tape := h_t_tape) (v_t_thrown := v_t_thrown) (v_t_words := v_t_words) (v_t_bits := v_t_bits) (v_t_cells := v_t_cells) (v_t_sense := v_t_sense) (v_t_kinds := v_t_kinds) (v_t_victims := v_t_victims) (v_t_others := v_t_others) (v_t_faults := v_t_faults) (v_t_toldKinds := v_t_toldKinds) (v_t_toldVictims := v_t_toldVictims) (v_t_toldOthers := v_t_toldOthers) (v_t_told := v_t_told) (v_t_ground := v_t_ground) (v_t_ports := v_t_ports) (v_t_scrambled := v_t_scrambled) (v_t_places := v_t_places) (v_t_sorts := v_t_sorts) (v_t_counts := v_t_counts) (v_t_operations := v_t_operations) (v_t_elements := v_t_elements) (v_t_newSorts := v_t_newSorts) (v_t_newCounts := (.ref h_t_newCounts)) (v_t_newOperations := (.ref h_t_newOperations)) (v_t_failed := v_t_failed) (v_t_failedCount := v_t_failedCount) (v_t_keeps := v_t_keeps) (v_t_some := v_t_some) (v_t_repairedRows := v_t_repairedRows) (v_t_repairedColumns := v_t_repairedColumns) (v_t_proof := v_t_proof) (n_t_tape := n_t_tape) (t_tapeSize := t_tapeSize) (t_place := t_place) (t_tape_a := t_tape_a) (sz := H.size) (res := q231_4) (hf := hc)) w_390 w_391 w_392 w_393 w_394 (by decide +kernel) rfl rfl ⟨Nat.le_of_ble_eq_true rfl, Nat.le_of_ble_eq_true rfl⟩ hP hD hS hA [0, 1] [2, 3] rfl rfl (by decide) (by decide) (by decide) (ci := 1) 0 rfl rfl hl.1 rfl rfl (lv_room (Nat.le_of_ble_eq_true rfl)) d_RF_readOperations_231 ⟨Nat.le_of_ble_eq_true rfl, Nat.le_of_ble_eq_true rfl⟩ (fun o ws' H locs hp hP hD hS => ?_)
    obtain ⟨rfl, rfl⟩ := hp
    have hP : va_P D classes [(h_t, .inr (1, [v_t_thrown, v_t_words, v_t_bits, v_t_cells, v_t_sense, v_t_kinds, v_t_victims, v_t_others, v_t_faults, v_t_toldKinds, v_t_toldVictims, v_t_toldOthers, v_t_told, v_t_ground, v_t_ports, v_t_scrambled, v_t_places, v_t_sorts, v_t_counts, v_t_operations, v_t_elements, v_t_newSorts, .ref h_t_newCounts, .ref h_t_newOperations, .ref h_t_tape, .int t_tapeSize, .int q231_4.2, v_t_failed, v_t_failedCount, v_t_keeps, v_t_some, v_t_repairedRows, v_t_repairedColumns, v_t_proof])), (h_t_tape, .inl (cI, n_t_tape, .inl t_tape_a)), (h_t_newCounts, .inl (cI, n_t_newCounts, .inl t_newCounts_a)), (h_t_newOperations, .inl (cI, n_t_newOperations, .inl t_newOperations_a))] H := hP.sub [2, 3, 0, 1] rfl
    have hD : va_D A [(h_t, .inr (1, [v_t_thrown, v_t_words, v_t_bits, v_t_cells, v_t_sense, v_t_kinds, v_t_victims, v_t_others, v_t_faults, v_t_toldKinds, v_t_toldVictims, v_t_toldOthers, v_t_told, v_t_ground, v_t_ports, v_t_scrambled, v_t_places, v_t_sorts, v_t_counts, v_t_operations, v_t_elements, v_t_newSorts, .ref h_t_newCounts, .ref h_t_newOperations, .ref h_t_tape, .int t_tapeSize, .int q231_4.2, v_t_failed, v_t_failedCount, v_t_keeps, v_t_some, v_t_repairedRows, v_t_repairedColumns, v_t_proof])), (h_t_tape, .inl (cI, n_t_tape, .inl t_tape_a)), (h_t_newCounts, .inl (cI, n_t_newCounts, .inl t_newCounts_a)), (h_t_newOperations, .inl (cI, n_t_newOperations, .inl t_newOperations_a))] := hD.sub [2, 3, 0, 1] (by decide) rfl
    refine lv_bipush (v := 44) hx hb d_RF_readOperations_234 (by decide) ?_
    refine lv_icmp_ne (tgt := 243) hx hb d_RF_readOperations_236 (by decide) (fun cc236 => ?_) (fun cc236 => ?_)
    · have hf := ifF cc236 hf
      exact k_RF_readOperations_243 (s := s) C0 hA hrec45 hf hP hD hS (lv_sub hl [0, 1, 2] rfl)
    · have hf := ifT cc236 hf
      refine lv_iconst (v := 1) hx hb d_RF_readOperations_239 (by decide) ?_
      refine lv_goto (tgt := 244) hx hb d_RF_readOperations_240 (by decide) ?_
      exact k_RF_readOperations_244 (s := s) C0 hA hrec45 hf hP hD hS (lv_sub hl [0, 1, 2] rfl)
set_option maxHeartbeats 4000000 in
set_option maxRecDepth 100000 in
theorem k_RF_readOperations_209 {p : Program} {l : Launch} {e : Env} {s : State} {m : MethodId} {args : Array Value} {below : List Frame} {meth : Method} {c : Code} {D : va_G} {cI cB cJ : ClassId} {A : Nat → Prop} (C0 : CX p s m args meth c D [(cI, .int), (cB, .byte), (cJ, .long)] R_RF b_RF_readOperations 7 (some .boolean) "readOperations") (hA : ∀ q, s.heap.size ≤ q → A q) {h_t h_t_tape h_t_newCounts h_t_newOperations : Nat} {v_t_thrown v_t_words v_t_bits v_t_cells v_t_sense v_t_kinds v_t_victims v_t_others v_t_faults v_t_toldKinds v_t_toldVictims v_t_toldOthers v_t_told v_t_ground v_t_ports v_t_scrambled v_t_places v_t_sorts v_t_counts v_t_operations v_t_elements v_t_newSorts v_t_failed v_t_failedCount v_t_keeps v_t_some v_t_repairedRows v_t_repairedColumns v_t_proof : Value} {res : Int32 × Int32 × (Nat → Int32) × (Nat → Int32)} {rec45 : (Int32 × (Nat → Int32) × (Nat → Int32) × Int32 × Int32) → Option (Int32 × Int32 × (Nat → Int32) × (Nat → Int32))} {n_t_tape : Nat} {n_t_newCounts : Nat} {n_t_newOperations : Nat} {t_tapeSize : Int32} {t_place : Int32} {t_tape_a : Nat → Int32} {t_newCounts_a : Nat → Int32} {t_newOperations_a : Nat → Int32} {s1 : Int32} {s2 : Int32} {x1 : Int32} {x3 : Int32} {x5 : Int32}
    (hrec45 : ∀ (st : (Int32 × (Nat → Int32) × (Nat → Int32) × Int32 × Int32)), rec45 st = some res → ∀  (H : Heap) (locs : List Loc) (ls : Array Slot), va_P D classes [(h_t, .inr (1, [v_t_thrown, v_t_words, v_t_bits, v_t_cells, v_t_sense, v_t_kinds, v_t_victims, v_t_others, v_t_faults, v_t_toldKinds, v_t_toldVictims, v_t_toldOthers, v_t_told, v_t_ground, v_t_ports, v_t_scrambled, v_t_places, v_t_sorts, v_t_counts, v_t_operations, v_t_elements, v_t_newSorts, .ref h_t_newCounts, .ref h_t_newOperations, .ref h_t_tape, .int t_tapeSize, .int st.1, v_t_failed, v_t_failedCount, v_t_keeps, v_t_some, v_t_repairedRows, v_t_repairedColumns, v_t_proof])), (h_t_tape, .inl (cI, n_t_tape, .inl t_tape_a)), (h_t_newCounts, .inl (cI, n_t_newCounts, .inl st.2.1)), (h_t_newOperations, .inl (cI, n_t_newOperations, .inl st.2.2.1))] H → va_D A [(h_t, .inr (1, [v_t_thrown, v_t_words, v_t_bits, v_t_cells, v_t_sense, v_t_kinds, v_t_victims, v_t_others, v_t_faults, v_t_toldKinds, v_t_toldVictims, v_t_toldOthers, v_t_told, v_t_ground, v_t_ports, v_t_scrambled, v_t_places, v_t_sorts, v_t_counts, v_t_operations, v_t_elements, v_t_newSorts, .ref h_t_newCounts, .ref h_t_newOperations, .ref h_t_tape, .int t_tapeSize, .int st.1, v_t_failed, v_t_failedCount, v_t_keeps, v_t_some, v_t_repairedRows, v_t_repairedColumns, v_t_proof])), (h_t_tape, .inl (cI, n_t_tape, .inl t_tape_a)), (h_t_newCounts, .inl (cI, n_t_newCounts, .inl st.2.1)), (h_t_newOperations, .inl (cI, n_t_newOperations, .inl st.2.2.1))] → va_S A s.heap H locs → lv_has ls 7 [(0, .ref h_t), (1, .int x1), (2, .int st.2.2.2.1), (3, .int st.2.2.2.2)] → W p l e rm_RF_readOperations s m args below meth c H locs 0 0 (MQ below (QW D (post_RF_readOperations h_t h_t_tape h_t_newCounts h_t_newOperations v_t_thrown v_t_words v_t_bits v_t_cells v_t_sense v_t_kinds v_t_victims v_t_others v_t_faults v_t_toldKinds v_t_toldVictims v_t_toldOthers v_t_told v_t_ground v_t_ports v_t_scrambled v_t_places v_t_sorts v_t_counts v_t_operations v_t_elements v_t_newSorts v_t_failed v_t_failedCount v_t_keeps v_t_some v_t_repairedRows v_t_repairedColumns v_t_proof n_t_tape n_t_newCounts n_t_newOperations t_tapeSize t_tape_a cI cB cJ res) A) args s 0 0 A) (F0 m 45 ls []))
    (hf : f_RF_readOperations_209 n_t_tape n_t_newCounts n_t_newOperations t_tapeSize t_place t_tape_a t_newCounts_a t_newOperations_a s1 s2 x1 x3 x5 rec45 = some res) {H : Heap} {locs : List Loc} {ls : Array Slot} (hP : va_P D classes [(h_t, .inr (1, [v_t_thrown, v_t_words, v_t_bits, v_t_cells, v_t_sense, v_t_kinds, v_t_victims, v_t_others, v_t_faults, v_t_toldKinds, v_t_toldVictims, v_t_toldOthers, v_t_told, v_t_ground, v_t_ports, v_t_scrambled, v_t_places, v_t_sorts, v_t_counts, v_t_operations, v_t_elements, v_t_newSorts, .ref h_t_newCounts, .ref h_t_newOperations, .ref h_t_tape, .int t_tapeSize, .int t_place, v_t_failed, v_t_failedCount, v_t_keeps, v_t_some, v_t_repairedRows, v_t_repairedColumns, v_t_proof])), (h_t_tape, .inl (cI, n_t_tape, .inl t_tape_a)), (h_t_newCounts, .inl (cI, n_t_newCounts, .inl t_newCounts_a)), (h_t_newOperations, .inl (cI, n_t_newOperations, .inl t_newOperations_a))] H) (hD : va_D A [(h_t, .inr (1, [v_t_thrown, v_t_words, v_t_bits, v_t_cells, v_t_sense, v_t_kinds, v_t_victims, v_t_others, v_t_faults, v_t_toldKinds, v_t_toldVictims, v_t_toldOthers, v_t_told, v_t_ground, v_t_ports, v_t_scrambled, v_t_places, v_t_sorts, v_t_counts, v_t_operations, v_t_elements, v_t_newSorts, .ref h_t_newCounts, .ref h_t_newOperations, .ref h_t_tape, .int t_tapeSize, .int t_place, v_t_failed, v_t_failedCount, v_t_keeps, v_t_some, v_t_repairedRows, v_t_repairedColumns, v_t_proof])), (h_t_tape, .inl (cI, n_t_tape, .inl t_tape_a)), (h_t_newCounts, .inl (cI, n_t_newCounts, .inl t_newCounts_a)), (h_t_newOperations, .inl (cI, n_t_newOperations, .inl t_newOperations_a))]) (hS : va_S A s.heap H locs) (hl : lv_has ls 7 [(0, .ref h_t), (1, .int x1), (3, .int x3), (5, .int x5)]) : W p l e rm_RF_readOperations s m args below meth c H locs 0 0 (MQ below (QW D (post_RF_readOperations h_t h_t_tape h_t_newCounts h_t_newOperations v_t_thrown v_t_words v_t_bits v_t_cells v_t_sense v_t_kinds v_t_victims v_t_others v_t_faults v_t_toldKinds v_t_toldVictims v_t_toldOthers v_t_told v_t_ground v_t_ports v_t_scrambled v_t_places v_t_sorts v_t_counts v_t_operations v_t_elements v_t_newSorts v_t_failed v_t_failedCount v_t_keeps v_t_some v_t_repairedRows v_t_repairedColumns v_t_proof n_t_tape n_t_newCounts n_t_newOperations t_tapeSize t_tape_a cI cB cJ res) A) args s 0 0 A) (F0 m 209 ls [.int s2, .int s1, .ref h_t_newOperations]) := by
  obtain ⟨hx, hb, hml, hr, hlocks, hts, hown, hK, hin⟩ := id C0
  have hf : (((
  (if inB s1 n_t_newOperations = true then
  (if inB x1 n_t_newCounts = true then
  (if inB x1 n_t_newCounts = true then
  (f_RF_readOperations_226 n_t_tape t_tapeSize t_place t_tape_a (upd t_newCounts_a (Int32.toNatClampNeg x1) ((t_newCounts_a (Int32.toNatClampNeg x1)) + 1)) (upd t_newOperations_a (Int32.toNatClampNeg s1) ((s2 + x5) - 48)) x3 rec45)
  else none)
  else none)
  else none))) : Option (Int32 × Int32 × (Nat → Int32) × (Nat → Int32))) = some res := hf
  refine lv_iload hx hb d_RF_readOperations_209 (lv_at hl 3 rfl) ?_
  refine lv_iadd hx hb d_RF_readOperations_211 ?_
  refine lv_bipush (v := 48) hx hb d_RF_readOperations_212 (by decide) ?_
  refine lv_isub hx hb d_RF_readOperations_214 ?_
  obtain ⟨hin1, hf⟩ := ifG hf
  refine va_iast hx hb hK.1 hP hD hS 3 0 rfl rfl (inB_in hin1) d_RF_readOperations_215 (fun H locs hP hD hS => ?_)
  have hP : va_P D classes [(h_t, .inr (1, [v_t_thrown, v_t_words, v_t_bits, v_t_cells, v_t_sense, v_t_kinds, v_t_victims, v_t_others, v_t_faults, v_t_toldKinds, v_t_toldVictims, v_t_toldOthers, v_t_told, v_t_ground, v_t_ports, v_t_scrambled, v_t_places, v_t_sorts, v_t_counts, v_t_operations, v_t_elements, v_t_newSorts, .ref h_t_newCounts, .ref h_t_newOperations, .ref h_t_tape, .int t_tapeSize, .int t_place, v_t_failed, v_t_failedCount, v_t_keeps, v_t_some, v_t_repairedRows, v_t_repairedColumns, v_t_proof])), (h_t_tape, .inl (cI, n_t_tape, .inl t_tape_a)), (h_t_newCounts, .inl (cI, n_t_newCounts, .inl t_newCounts_a)), (h_t_newOperations, .inl (cI, n_t_newOperations, .inl (upd t_newOperations_a (Int32.toNatClampNeg s1) ((s2 + x5) - 48))))] H := hP
  have hD : va_D A [(h_t, .inr (1, [v_t_thrown, v_t_words, v_t_bits, v_t_cells, v_t_sense, v_t_kinds, v_t_victims, v_t_others, v_t_faults, v_t_toldKinds, v_t_toldVictims, v_t_toldOthers, v_t_told, v_t_ground, v_t_ports, v_t_scrambled, v_t_places, v_t_sorts, v_t_counts, v_t_operations, v_t_elements, v_t_newSorts, .ref h_t_newCounts, .ref h_t_newOperations, .ref h_t_tape, .int t_tapeSize, .int t_place, v_t_failed, v_t_failedCount, v_t_keeps, v_t_some, v_t_repairedRows, v_t_repairedColumns, v_t_proof])), (h_t_tape, .inl (cI, n_t_tape, .inl t_tape_a)), (h_t_newCounts, .inl (cI, n_t_newCounts, .inl t_newCounts_a)), (h_t_newOperations, .inl (cI, n_t_newOperations, .inl (upd t_newOperations_a (Int32.toNatClampNeg s1) ((s2 + x5) - 48))))] := hD
  refine lv_aload_n hx hb d_RF_readOperations_216 rfl (lv_at hl 0 rfl) ?_
  refine va_get (D := D) (ci := 1) (v := .ref h_t_newCounts) (C := R_RF) (T := F_RF) (N := 34) hx hb hts i_RF hown hK.1 hP 0 rfl rfl 22 (by decide) (hts _ w_380) (fun _ h9 => h9) rfl d_RF_readOperations_217 ?_
  refine lv_iload_n hx hb d_RF_readOperations_220 rfl (lv_at hl 1 rfl) ?_
  refine lv_dup2_11 hx hb d_RF_readOperations_221 rfl rfl ?_
  obtain ⟨hin1, hf⟩ := ifG hf
  refine va_iald hx hb hK.1 hP 2 0 rfl rfl (inB_in hin1) d_RF_readOperations_222 ?_
  refine lv_iconst (v := 1) hx hb d_RF_readOperations_223 (by decide) ?_
  refine lv_iadd hx hb d_RF_readOperations_224 ?_
  obtain ⟨hin1, hf⟩ := ifG hf
  refine va_iast hx hb hK.1 hP hD hS 2 0 rfl rfl (inB_in hin1) d_RF_readOperations_225 (fun H locs hP hD hS => ?_)
  have hP : va_P D classes [(h_t, .inr (1, [v_t_thrown, v_t_words, v_t_bits, v_t_cells, v_t_sense, v_t_kinds, v_t_victims, v_t_others, v_t_faults, v_t_toldKinds, v_t_toldVictims, v_t_toldOthers, v_t_told, v_t_ground, v_t_ports, v_t_scrambled, v_t_places, v_t_sorts, v_t_counts, v_t_operations, v_t_elements, v_t_newSorts, .ref h_t_newCounts, .ref h_t_newOperations, .ref h_t_tape, .int t_tapeSize, .int t_place, v_t_failed, v_t_failedCount, v_t_keeps, v_t_some, v_t_repairedRows, v_t_repairedColumns, v_t_proof])), (h_t_tape, .inl (cI, n_t_tape, .inl t_tape_a)), (h_t_newCounts, .inl (cI, n_t_newCounts, .inl (upd t_newCounts_a (Int32.toNatClampNeg x1) ((t_newCounts_a (Int32.toNatClampNeg x1)) + 1)))), (h_t_newOperations, .inl (cI, n_t_newOperations, .inl (upd t_newOperations_a (Int32.toNatClampNeg s1) ((s2 + x5) - 48))))] H := hP
  have hD : va_D A [(h_t, .inr (1, [v_t_thrown, v_t_words, v_t_bits, v_t_cells, v_t_sense, v_t_kinds, v_t_victims, v_t_others, v_t_faults, v_t_toldKinds, v_t_toldVictims, v_t_toldOthers, v_t_told, v_t_ground, v_t_ports, v_t_scrambled, v_t_places, v_t_sorts, v_t_counts, v_t_operations, v_t_elements, v_t_newSorts, .ref h_t_newCounts, .ref h_t_newOperations, .ref h_t_tape, .int t_tapeSize, .int t_place, v_t_failed, v_t_failedCount, v_t_keeps, v_t_some, v_t_repairedRows, v_t_repairedColumns, v_t_proof])), (h_t_tape, .inl (cI, n_t_tape, .inl t_tape_a)), (h_t_newCounts, .inl (cI, n_t_newCounts, .inl (upd t_newCounts_a (Int32.toNatClampNeg x1) ((t_newCounts_a (Int32.toNatClampNeg x1)) + 1)))), (h_t_newOperations, .inl (cI, n_t_newOperations, .inl (upd t_newOperations_a (Int32.toNatClampNeg s1) ((s2 + x5) - 48))))] := hD
  exact k_RF_readOperations_226 (s := s) C0 hA hrec45 hf hP hD hS (lv_sub hl [0, 1, 2] rfl)
set_option maxHeartbeats 4000000 in
set_option maxRecDepth 100000 in
theorem k_RF_readOperations_175 {p : Program} {l : Launch} {e : Env} {s : State} {m : MethodId} {args : Array Value} {below : List Frame} {meth : Method} {c : Code} {D : va_G} {cI cB cJ : ClassId} {A : Nat → Prop} (C0 : CX p s m args meth c D [(cI, .int), (cB, .byte), (cJ, .long)] R_RF b_RF_readOperations 7 (some .boolean) "readOperations") (hA : ∀ q, s.heap.size ≤ q → A q) {h_t h_t_tape h_t_newCounts h_t_newOperations : Nat} {v_t_thrown v_t_words v_t_bits v_t_cells v_t_sense v_t_kinds v_t_victims v_t_others v_t_faults v_t_toldKinds v_t_toldVictims v_t_toldOthers v_t_told v_t_ground v_t_ports v_t_scrambled v_t_places v_t_sorts v_t_counts v_t_operations v_t_elements v_t_newSorts v_t_failed v_t_failedCount v_t_keeps v_t_some v_t_repairedRows v_t_repairedColumns v_t_proof : Value} {res : Int32 × Int32 × (Nat → Int32) × (Nat → Int32)} {rec45 : (Int32 × (Nat → Int32) × (Nat → Int32) × Int32 × Int32) → Option (Int32 × Int32 × (Nat → Int32) × (Nat → Int32))} {n_t_tape : Nat} {n_t_newCounts : Nat} {n_t_newOperations : Nat} {t_tapeSize : Int32} {t_place : Int32} {t_tape_a : Nat → Int32} {t_newCounts_a : Nat → Int32} {t_newOperations_a : Nat → Int32} {s1 : Int32} {x1 : Int32} {x3 : Int32} {x4 : Int32} {x5 : Int32}
    (hrec45 : ∀ (st : (Int32 × (Nat → Int32) × (Nat → Int32) × Int32 × Int32)), rec45 st = some res → ∀  (H : Heap) (locs : List Loc) (ls : Array Slot), va_P D classes [(h_t, .inr (1, [v_t_thrown, v_t_words, v_t_bits, v_t_cells, v_t_sense, v_t_kinds, v_t_victims, v_t_others, v_t_faults, v_t_toldKinds, v_t_toldVictims, v_t_toldOthers, v_t_told, v_t_ground, v_t_ports, v_t_scrambled, v_t_places, v_t_sorts, v_t_counts, v_t_operations, v_t_elements, v_t_newSorts, .ref h_t_newCounts, .ref h_t_newOperations, .ref h_t_tape, .int t_tapeSize, .int st.1, v_t_failed, v_t_failedCount, v_t_keeps, v_t_some, v_t_repairedRows, v_t_repairedColumns, v_t_proof])), (h_t_tape, .inl (cI, n_t_tape, .inl t_tape_a)), (h_t_newCounts, .inl (cI, n_t_newCounts, .inl st.2.1)), (h_t_newOperations, .inl (cI, n_t_newOperations, .inl st.2.2.1))] H → va_D A [(h_t, .inr (1, [v_t_thrown, v_t_words, v_t_bits, v_t_cells, v_t_sense, v_t_kinds, v_t_victims, v_t_others, v_t_faults, v_t_toldKinds, v_t_toldVictims, v_t_toldOthers, v_t_told, v_t_ground, v_t_ports, v_t_scrambled, v_t_places, v_t_sorts, v_t_counts, v_t_operations, v_t_elements, v_t_newSorts, .ref h_t_newCounts, .ref h_t_newOperations, .ref h_t_tape, .int t_tapeSize, .int st.1, v_t_failed, v_t_failedCount, v_t_keeps, v_t_some, v_t_repairedRows, v_t_repairedColumns, v_t_proof])), (h_t_tape, .inl (cI, n_t_tape, .inl t_tape_a)), (h_t_newCounts, .inl (cI, n_t_newCounts, .inl st.2.1)), (h_t_newOperations, .inl (cI, n_t_newOperations, .inl st.2.2.1))] → va_S A s.heap H locs → lv_has ls 7 [(0, .ref h_t), (1, .int x1), (2, .int st.2.2.2.1), (3, .int st.2.2.2.2)] → W p l e rm_RF_readOperations s m args below meth c H locs 0 0 (MQ below (QW D (post_RF_readOperations h_t h_t_tape h_t_newCounts h_t_newOperations v_t_thrown v_t_words v_t_bits v_t_cells v_t_sense v_t_kinds v_t_victims v_t_others v_t_faults v_t_toldKinds v_t_toldVictims v_t_toldOthers v_t_told v_t_ground v_t_ports v_t_scrambled v_t_places v_t_sorts v_t_counts v_t_operations v_t_elements v_t_newSorts v_t_failed v_t_failedCount v_t_keeps v_t_some v_t_repairedRows v_t_repairedColumns v_t_proof n_t_tape n_t_newCounts n_t_newOperations t_tapeSize t_tape_a cI cB cJ res) A) args s 0 0 A) (F0 m 45 ls []))
    (hf : f_RF_readOperations_175 n_t_tape n_t_newCounts n_t_newOperations t_tapeSize t_tape_a t_newCounts_a t_newOperations_a s1 x1 x3 x4 x5 rec45 = some res) {H : Heap} {locs : List Loc} {ls : Array Slot} (hP : va_P D classes [(h_t, .inr (1, [v_t_thrown, v_t_words, v_t_bits, v_t_cells, v_t_sense, v_t_kinds, v_t_victims, v_t_others, v_t_faults, v_t_toldKinds, v_t_toldVictims, v_t_toldOthers, v_t_told, v_t_ground, v_t_ports, v_t_scrambled, v_t_places, v_t_sorts, v_t_counts, v_t_operations, v_t_elements, v_t_newSorts, .ref h_t_newCounts, .ref h_t_newOperations, .ref h_t_tape, .int t_tapeSize, .int t_place, v_t_failed, v_t_failedCount, v_t_keeps, v_t_some, v_t_repairedRows, v_t_repairedColumns, v_t_proof])), (h_t_tape, .inl (cI, n_t_tape, .inl t_tape_a)), (h_t_newCounts, .inl (cI, n_t_newCounts, .inl t_newCounts_a)), (h_t_newOperations, .inl (cI, n_t_newOperations, .inl t_newOperations_a))] H) (hD : va_D A [(h_t, .inr (1, [v_t_thrown, v_t_words, v_t_bits, v_t_cells, v_t_sense, v_t_kinds, v_t_victims, v_t_others, v_t_faults, v_t_toldKinds, v_t_toldVictims, v_t_toldOthers, v_t_told, v_t_ground, v_t_ports, v_t_scrambled, v_t_places, v_t_sorts, v_t_counts, v_t_operations, v_t_elements, v_t_newSorts, .ref h_t_newCounts, .ref h_t_newOperations, .ref h_t_tape, .int t_tapeSize, .int t_place, v_t_failed, v_t_failedCount, v_t_keeps, v_t_some, v_t_repairedRows, v_t_repairedColumns, v_t_proof])), (h_t_tape, .inl (cI, n_t_tape, .inl t_tape_a)), (h_t_newCounts, .inl (cI, n_t_newCounts, .inl t_newCounts_a)), (h_t_newOperations, .inl (cI, n_t_newOperations, .inl t_newOperations_a))]) (hS : va_S A s.heap H locs) (hl : lv_has ls 7 [(0, .ref h_t), (1, .int x1), (3, .int x3), (4, .int x4), (5, .int x5)]) : W p l e rm_RF_readOperations s m args below meth c H locs 0 0 (MQ below (QW D (post_RF_readOperations h_t h_t_tape h_t_newCounts h_t_newOperations v_t_thrown v_t_words v_t_bits v_t_cells v_t_sense v_t_kinds v_t_victims v_t_others v_t_faults v_t_toldKinds v_t_toldVictims v_t_toldOthers v_t_told v_t_ground v_t_ports v_t_scrambled v_t_places v_t_sorts v_t_counts v_t_operations v_t_elements v_t_newSorts v_t_failed v_t_failedCount v_t_keeps v_t_some v_t_repairedRows v_t_repairedColumns v_t_proof n_t_tape n_t_newCounts n_t_newOperations t_tapeSize t_tape_a cI cB cJ res) A) args s 0 0 A) (F0 m 175 ls [.int s1, .ref h_t]) := by
  obtain ⟨hx, hb, hml, hr, hlocks, hts, hown, hK, hin⟩ := id C0
  have hf : (((
  (if x3 = 0 then
    (f_RF_readOperations_226 n_t_tape t_tapeSize s1 t_tape_a t_newCounts_a t_newOperations_a x3 rec45)
  else
    (if inB x1 n_t_newCounts = true then
    (if x4 = 114 then
      (f_RF_readOperations_209 n_t_tape n_t_newCounts n_t_newOperations t_tapeSize s1 t_tape_a t_newCounts_a t_newOperations_a ((8 * x1) + (t_newCounts_a (Int32.toNatClampNeg x1))) 2 x1 x3 x5 rec45)
    else
      (f_RF_readOperations_209 n_t_tape n_t_newCounts n_t_newOperations t_tapeSize s1 t_tape_a t_newCounts_a t_newOperations_a ((8 * x1) + (t_newCounts_a (Int32.toNatClampNeg x1))) 0 x1 x3 x5 rec45))
    else none)))) : Option (Int32 × Int32 × (Nat → Int32) × (Nat → Int32))) = some res := hf
  refine va_put (D := D) (ci := 1) (v := .int s1) (ty := .int) (C := R_RF) (T := F_RF) (N := 34) hx hb hts i_RF t_RF t_RF_ok n_RF hown hK.1 hP hD hS 0 rfl rfl 26 (by decide) (hts _ w_389) (fun _ h9 => h9) rfl (t_RF_ok 26 (by decide)) rfl rfl (Nat.le_of_ble_eq_true rfl) d_RF_readOperations_175 (fun H locs hP hD hS => ?_)
  have hP : va_P D classes [(h_t, .inr (1, [v_t_thrown, v_t_words, v_t_bits, v_t_cells, v_t_sense, v_t_kinds, v_t_victims, v_t_others, v_t_faults, v_t_toldKinds, v_t_toldVictims, v_t_toldOthers, v_t_told, v_t_ground, v_t_ports, v_t_scrambled, v_t_places, v_t_sorts, v_t_counts, v_t_operations, v_t_elements, v_t_newSorts, .ref h_t_newCounts, .ref h_t_newOperations, .ref h_t_tape, .int t_tapeSize, .int s1, v_t_failed, v_t_failedCount, v_t_keeps, v_t_some, v_t_repairedRows, v_t_repairedColumns, v_t_proof])), (h_t_tape, .inl (cI, n_t_tape, .inl t_tape_a)), (h_t_newCounts, .inl (cI, n_t_newCounts, .inl t_newCounts_a)), (h_t_newOperations, .inl (cI, n_t_newOperations, .inl t_newOperations_a))] H := hP
  have hD : va_D A [(h_t, .inr (1, [v_t_thrown, v_t_words, v_t_bits, v_t_cells, v_t_sense, v_t_kinds, v_t_victims, v_t_others, v_t_faults, v_t_toldKinds, v_t_toldVictims, v_t_toldOthers, v_t_told, v_t_ground, v_t_ports, v_t_scrambled, v_t_places, v_t_sorts, v_t_counts, v_t_operations, v_t_elements, v_t_newSorts, .ref h_t_newCounts, .ref h_t_newOperations, .ref h_t_tape, .int t_tapeSize, .int s1, v_t_failed, v_t_failedCount, v_t_keeps, v_t_some, v_t_repairedRows, v_t_repairedColumns, v_t_proof])), (h_t_tape, .inl (cI, n_t_tape, .inl t_tape_a)), (h_t_newCounts, .inl (cI, n_t_newCounts, .inl t_newCounts_a)), (h_t_newOperations, .inl (cI, n_t_newOperations, .inl t_newOperations_a))] := hD
  refine lv_iload_n hx hb d_RF_readOperations_178 rfl (lv_at hl 2 rfl) ?_
  refine lv_if_eq (tgt := 226) hx hb d_RF_readOperations_179 (by decide) (fun cc179 => ?_) (fun cc179 => ?_)
  · have hf := ifT cc179 hf
    exact k_RF_readOperations_226 (s := s) C0 hA hrec45 hf hP hD hS (lv_sub hl [0, 1, 2] rfl)
  · have hf := ifF cc179 hf
    refine lv_aload_n hx hb d_RF_readOperations_182 rfl (lv_at hl 0 rfl) ?_
    refine va_get (D := D) (ci := 1) (v := .ref h_t_newOperations) (C := R_RF) (T := F_RF) (N := 34) hx hb hts i_RF hown hK.1 hP 0 rfl rfl 23 (by decide) (hts _ w_381) (fun _ h9 => h9) rfl d_RF_readOperations_183 ?_
    refine lv_bipush (v := 8) hx hb d_RF_readOperations_186 (by decide) ?_
    refine lv_iload_n hx hb d_RF_readOperations_188 rfl (lv_at hl 1 rfl) ?_
    refine lv_imul hx hb d_RF_readOperations_189 ?_
    refine lv_aload_n hx hb d_RF_readOperations_190 rfl (lv_at hl 0 rfl) ?_
    refine va_get (D := D) (ci := 1) (v := .ref h_t_newCounts) (C := R_RF) (T := F_RF) (N := 34) hx hb hts i_RF hown hK.1 hP 0 rfl rfl 22 (by decide) (hts _ w_380) (fun _ h9 => h9) rfl d_RF_readOperations_191 ?_
    refine lv_iload_n hx hb d_RF_readOperations_194 rfl (lv_at hl 1 rfl) ?_
    obtain ⟨hin1, hf⟩ := ifG hf
    refine va_iald hx hb hK.1 hP 2 0 rfl rfl (inB_in hin1) d_RF_readOperations_195 ?_
    refine lv_iadd hx hb d_RF_readOperations_196 ?_
    refine lv_iload hx hb d_RF_readOperations_197 (lv_at hl 3 rfl) ?_
    refine lv_bipush (v := 114) hx hb d_RF_readOperations_199 (by decide) ?_
    refine lv_icmp_ne (tgt := 208) hx hb d_RF_readOperations_201 (by decide) (fun cc201 => ?_) (fun cc201 => ?_)
    · have hf := ifF cc201 hf
      refine lv_iconst (v := 0) hx hb d_RF_readOperations_208 (by decide) ?_
      exact k_RF_readOperations_209 (s := s) C0 hA hrec45 hf hP hD hS (lv_sub hl [0, 1, 2, 4] rfl)
    · have hf := ifT cc201 hf
      refine lv_iconst (v := 2) hx hb d_RF_readOperations_204 (by decide) ?_
      refine lv_goto (tgt := 209) hx hb d_RF_readOperations_205 (by decide) ?_
      exact k_RF_readOperations_209 (s := s) C0 hA hrec45 hf hP hD hS (lv_sub hl [0, 1, 2, 4] rfl)
set_option maxHeartbeats 4000000 in
set_option maxRecDepth 100000 in
theorem k_RF_readOperations_156 {p : Program} {l : Launch} {e : Env} {s : State} {m : MethodId} {args : Array Value} {below : List Frame} {meth : Method} {c : Code} {D : va_G} {cI cB cJ : ClassId} {A : Nat → Prop} (C0 : CX p s m args meth c D [(cI, .int), (cB, .byte), (cJ, .long)] R_RF b_RF_readOperations 7 (some .boolean) "readOperations") (hA : ∀ q, s.heap.size ≤ q → A q) {h_t h_t_tape h_t_newCounts h_t_newOperations : Nat} {v_t_thrown v_t_words v_t_bits v_t_cells v_t_sense v_t_kinds v_t_victims v_t_others v_t_faults v_t_toldKinds v_t_toldVictims v_t_toldOthers v_t_told v_t_ground v_t_ports v_t_scrambled v_t_places v_t_sorts v_t_counts v_t_operations v_t_elements v_t_newSorts v_t_failed v_t_failedCount v_t_keeps v_t_some v_t_repairedRows v_t_repairedColumns v_t_proof : Value} {res : Int32 × Int32 × (Nat → Int32) × (Nat → Int32)} {rec45 : (Int32 × (Nat → Int32) × (Nat → Int32) × Int32 × Int32) → Option (Int32 × Int32 × (Nat → Int32) × (Nat → Int32))} {n_t_tape : Nat} {n_t_newCounts : Nat} {n_t_newOperations : Nat} {t_tapeSize : Int32} {t_place : Int32} {t_tape_a : Nat → Int32} {t_newCounts_a : Nat → Int32} {t_newOperations_a : Nat → Int32} {s0 : Int32} {x1 : Int32} {x4 : Int32} {x5 : Int32}
    (hrec45 : ∀ (st : (Int32 × (Nat → Int32) × (Nat → Int32) × Int32 × Int32)), rec45 st = some res → ∀  (H : Heap) (locs : List Loc) (ls : Array Slot), va_P D classes [(h_t, .inr (1, [v_t_thrown, v_t_words, v_t_bits, v_t_cells, v_t_sense, v_t_kinds, v_t_victims, v_t_others, v_t_faults, v_t_toldKinds, v_t_toldVictims, v_t_toldOthers, v_t_told, v_t_ground, v_t_ports, v_t_scrambled, v_t_places, v_t_sorts, v_t_counts, v_t_operations, v_t_elements, v_t_newSorts, .ref h_t_newCounts, .ref h_t_newOperations, .ref h_t_tape, .int t_tapeSize, .int st.1, v_t_failed, v_t_failedCount, v_t_keeps, v_t_some, v_t_repairedRows, v_t_repairedColumns, v_t_proof])), (h_t_tape, .inl (cI, n_t_tape, .inl t_tape_a)), (h_t_newCounts, .inl (cI, n_t_newCounts, .inl st.2.1)), (h_t_newOperations, .inl (cI, n_t_newOperations, .inl st.2.2.1))] H → va_D A [(h_t, .inr (1, [v_t_thrown, v_t_words, v_t_bits, v_t_cells, v_t_sense, v_t_kinds, v_t_victims, v_t_others, v_t_faults, v_t_toldKinds, v_t_toldVictims, v_t_toldOthers, v_t_told, v_t_ground, v_t_ports, v_t_scrambled, v_t_places, v_t_sorts, v_t_counts, v_t_operations, v_t_elements, v_t_newSorts, .ref h_t_newCounts, .ref h_t_newOperations, .ref h_t_tape, .int t_tapeSize, .int st.1, v_t_failed, v_t_failedCount, v_t_keeps, v_t_some, v_t_repairedRows, v_t_repairedColumns, v_t_proof])), (h_t_tape, .inl (cI, n_t_tape, .inl t_tape_a)), (h_t_newCounts, .inl (cI, n_t_newCounts, .inl st.2.1)), (h_t_newOperations, .inl (cI, n_t_newOperations, .inl st.2.2.1))] → va_S A s.heap H locs → lv_has ls 7 [(0, .ref h_t), (1, .int x1), (2, .int st.2.2.2.1), (3, .int st.2.2.2.2)] → W p l e rm_RF_readOperations s m args below meth c H locs 0 0 (MQ below (QW D (post_RF_readOperations h_t h_t_tape h_t_newCounts h_t_newOperations v_t_thrown v_t_words v_t_bits v_t_cells v_t_sense v_t_kinds v_t_victims v_t_others v_t_faults v_t_toldKinds v_t_toldVictims v_t_toldOthers v_t_told v_t_ground v_t_ports v_t_scrambled v_t_places v_t_sorts v_t_counts v_t_operations v_t_elements v_t_newSorts v_t_failed v_t_failedCount v_t_keeps v_t_some v_t_repairedRows v_t_repairedColumns v_t_proof n_t_tape n_t_newCounts n_t_newOperations t_tapeSize t_tape_a cI cB cJ res) A) args s 0 0 A) (F0 m 45 ls []))
    (hf : f_RF_readOperations_156 n_t_tape n_t_newCounts n_t_newOperations t_tapeSize t_place t_tape_a t_newCounts_a t_newOperations_a s0 x1 x4 x5 rec45 = some res) {H : Heap} {locs : List Loc} {ls : Array Slot} (hP : va_P D classes [(h_t, .inr (1, [v_t_thrown, v_t_words, v_t_bits, v_t_cells, v_t_sense, v_t_kinds, v_t_victims, v_t_others, v_t_faults, v_t_toldKinds, v_t_toldVictims, v_t_toldOthers, v_t_told, v_t_ground, v_t_ports, v_t_scrambled, v_t_places, v_t_sorts, v_t_counts, v_t_operations, v_t_elements, v_t_newSorts, .ref h_t_newCounts, .ref h_t_newOperations, .ref h_t_tape, .int t_tapeSize, .int t_place, v_t_failed, v_t_failedCount, v_t_keeps, v_t_some, v_t_repairedRows, v_t_repairedColumns, v_t_proof])), (h_t_tape, .inl (cI, n_t_tape, .inl t_tape_a)), (h_t_newCounts, .inl (cI, n_t_newCounts, .inl t_newCounts_a)), (h_t_newOperations, .inl (cI, n_t_newOperations, .inl t_newOperations_a))] H) (hD : va_D A [(h_t, .inr (1, [v_t_thrown, v_t_words, v_t_bits, v_t_cells, v_t_sense, v_t_kinds, v_t_victims, v_t_others, v_t_faults, v_t_toldKinds, v_t_toldVictims, v_t_toldOthers, v_t_told, v_t_ground, v_t_ports, v_t_scrambled, v_t_places, v_t_sorts, v_t_counts, v_t_operations, v_t_elements, v_t_newSorts, .ref h_t_newCounts, .ref h_t_newOperations, .ref h_t_tape, .int t_tapeSize, .int t_place, v_t_failed, v_t_failedCount, v_t_keeps, v_t_some, v_t_repairedRows, v_t_repairedColumns, v_t_proof])), (h_t_tape, .inl (cI, n_t_tape, .inl t_tape_a)), (h_t_newCounts, .inl (cI, n_t_newCounts, .inl t_newCounts_a)), (h_t_newOperations, .inl (cI, n_t_newOperations, .inl t_newOperations_a))]) (hS : va_S A s.heap H locs) (hl : lv_has ls 7 [(0, .ref h_t), (1, .int x1), (4, .int x4), (5, .int x5)]) : W p l e rm_RF_readOperations s m args below meth c H locs 0 0 (MQ below (QW D (post_RF_readOperations h_t h_t_tape h_t_newCounts h_t_newOperations v_t_thrown v_t_words v_t_bits v_t_cells v_t_sense v_t_kinds v_t_victims v_t_others v_t_faults v_t_toldKinds v_t_toldVictims v_t_toldOthers v_t_told v_t_ground v_t_ports v_t_scrambled v_t_places v_t_sorts v_t_counts v_t_operations v_t_elements v_t_newSorts v_t_failed v_t_failedCount v_t_keeps v_t_some v_t_repairedRows v_t_repairedColumns v_t_proof n_t_tape n_t_newCounts n_t_newOperations t_tapeSize t_tape_a cI cB cJ res) A) args s 0 0 A) (F0 m 156 ls [.int s0]) := by
  obtain ⟨hx, hb, hml, hr, hlocks, hts, hown, hK, hin⟩ := id C0
  have hf : (((
  (if s0 = 0 then
    (f_RF_readOperations_175 n_t_tape n_t_newCounts n_t_newOperations t_tapeSize t_tape_a t_newCounts_a t_newOperations_a t_place x1 s0 x4 x5 rec45)
  else
    (f_RF_readOperations_175 n_t_tape n_t_newCounts n_t_newOperations t_tapeSize t_tape_a t_newCounts_a t_newOperations_a (t_place + 1) x1 s0 x4 x5 rec45)))) : Option (Int32 × Int32 × (Nat → Int32) × (Nat → Int32))) = some res := hf
  refine lv_istore_n (lv' := [(3, .int s0), (0, .ref h_t), (1, .int x1), (4, .int x4), (5, .int x5)]) hx hb d_RF_readOperations_156 rfl hl (by decide) rfl (fun ls hl => ?_)
  refine lv_aload_n hx hb d_RF_readOperations_157 rfl (lv_at hl 1 rfl) ?_
  refine lv_iload_n hx hb d_RF_readOperations_158 rfl (lv_at hl 0 rfl) ?_
  refine lv_if_eq (tgt := 171) hx hb d_RF_readOperations_159 (by decide) (fun cc159 => ?_) (fun cc159 => ?_)
  · have hf := ifT cc159 hf
    refine lv_aload_n hx hb d_RF_readOperations_171 rfl (lv_at hl 1 rfl) ?_
    refine va_get (D := D) (ci := 1) (v := .int t_place) (C := R_RF) (T := F_RF) (N := 34) hx hb hts i_RF hown hK.1 hP 0 rfl rfl 26 (by decide) (hts _ w_389) (fun _ h9 => h9) rfl d_RF_readOperations_172 ?_
    exact k_RF_readOperations_175 (s := s) C0 hA hrec45 hf hP hD hS (lv_sub hl [1, 2, 0, 3, 4] rfl)
  · have hf := ifF cc159 hf
    refine lv_aload_n hx hb d_RF_readOperations_162 rfl (lv_at hl 1 rfl) ?_
    refine va_get (D := D) (ci := 1) (v := .int t_place) (C := R_RF) (T := F_RF) (N := 34) hx hb hts i_RF hown hK.1 hP 0 rfl rfl 26 (by decide) (hts _ w_389) (fun _ h9 => h9) rfl d_RF_readOperations_163 ?_
    refine lv_iconst (v := 1) hx hb d_RF_readOperations_166 (by decide) ?_
    refine lv_iadd hx hb d_RF_readOperations_167 ?_
    refine lv_goto (tgt := 175) hx hb d_RF_readOperations_168 (by decide) ?_
    exact k_RF_readOperations_175 (s := s) C0 hA hrec45 hf hP hD hS (lv_sub hl [1, 2, 0, 3, 4] rfl)
set_option maxHeartbeats 4000000 in
set_option maxRecDepth 100000 in
theorem k_RF_readOperations_155 {p : Program} {l : Launch} {e : Env} {s : State} {m : MethodId} {args : Array Value} {below : List Frame} {meth : Method} {c : Code} {D : va_G} {cI cB cJ : ClassId} {A : Nat → Prop} (C0 : CX p s m args meth c D [(cI, .int), (cB, .byte), (cJ, .long)] R_RF b_RF_readOperations 7 (some .boolean) "readOperations") (hA : ∀ q, s.heap.size ≤ q → A q) {h_t h_t_tape h_t_newCounts h_t_newOperations : Nat} {v_t_thrown v_t_words v_t_bits v_t_cells v_t_sense v_t_kinds v_t_victims v_t_others v_t_faults v_t_toldKinds v_t_toldVictims v_t_toldOthers v_t_told v_t_ground v_t_ports v_t_scrambled v_t_places v_t_sorts v_t_counts v_t_operations v_t_elements v_t_newSorts v_t_failed v_t_failedCount v_t_keeps v_t_some v_t_repairedRows v_t_repairedColumns v_t_proof : Value} {res : Int32 × Int32 × (Nat → Int32) × (Nat → Int32)} {rec45 : (Int32 × (Nat → Int32) × (Nat → Int32) × Int32 × Int32) → Option (Int32 × Int32 × (Nat → Int32) × (Nat → Int32))} {n_t_tape : Nat} {n_t_newCounts : Nat} {n_t_newOperations : Nat} {t_tapeSize : Int32} {t_place : Int32} {t_tape_a : Nat → Int32} {t_newCounts_a : Nat → Int32} {t_newOperations_a : Nat → Int32} {x1 : Int32} {x4 : Int32} {x5 : Int32}
    (hrec45 : ∀ (st : (Int32 × (Nat → Int32) × (Nat → Int32) × Int32 × Int32)), rec45 st = some res → ∀  (H : Heap) (locs : List Loc) (ls : Array Slot), va_P D classes [(h_t, .inr (1, [v_t_thrown, v_t_words, v_t_bits, v_t_cells, v_t_sense, v_t_kinds, v_t_victims, v_t_others, v_t_faults, v_t_toldKinds, v_t_toldVictims, v_t_toldOthers, v_t_told, v_t_ground, v_t_ports, v_t_scrambled, v_t_places, v_t_sorts, v_t_counts, v_t_operations, v_t_elements, v_t_newSorts, .ref h_t_newCounts, .ref h_t_newOperations, .ref h_t_tape, .int t_tapeSize, .int st.1, v_t_failed, v_t_failedCount, v_t_keeps, v_t_some, v_t_repairedRows, v_t_repairedColumns, v_t_proof])), (h_t_tape, .inl (cI, n_t_tape, .inl t_tape_a)), (h_t_newCounts, .inl (cI, n_t_newCounts, .inl st.2.1)), (h_t_newOperations, .inl (cI, n_t_newOperations, .inl st.2.2.1))] H → va_D A [(h_t, .inr (1, [v_t_thrown, v_t_words, v_t_bits, v_t_cells, v_t_sense, v_t_kinds, v_t_victims, v_t_others, v_t_faults, v_t_toldKinds, v_t_toldVictims, v_t_toldOthers, v_t_told, v_t_ground, v_t_ports, v_t_scrambled, v_t_places, v_t_sorts, v_t_counts, v_t_operations, v_t_elements, v_t_newSorts, .ref h_t_newCounts, .ref h_t_newOperations, .ref h_t_tape, .int t_tapeSize, .int st.1, v_t_failed, v_t_failedCount, v_t_keeps, v_t_some, v_t_repairedRows, v_t_repairedColumns, v_t_proof])), (h_t_tape, .inl (cI, n_t_tape, .inl t_tape_a)), (h_t_newCounts, .inl (cI, n_t_newCounts, .inl st.2.1)), (h_t_newOperations, .inl (cI, n_t_newOperations, .inl st.2.2.1))] → va_S A s.heap H locs → lv_has ls 7 [(0, .ref h_t), (1, .int x1), (2, .int st.2.2.2.1), (3, .int st.2.2.2.2)] → W p l e rm_RF_readOperations s m args below meth c H locs 0 0 (MQ below (QW D (post_RF_readOperations h_t h_t_tape h_t_newCounts h_t_newOperations v_t_thrown v_t_words v_t_bits v_t_cells v_t_sense v_t_kinds v_t_victims v_t_others v_t_faults v_t_toldKinds v_t_toldVictims v_t_toldOthers v_t_told v_t_ground v_t_ports v_t_scrambled v_t_places v_t_sorts v_t_counts v_t_operations v_t_elements v_t_newSorts v_t_failed v_t_failedCount v_t_keeps v_t_some v_t_repairedRows v_t_repairedColumns v_t_proof n_t_tape n_t_newCounts n_t_newOperations t_tapeSize t_tape_a cI cB cJ res) A) args s 0 0 A) (F0 m 45 ls []))
    (hf : f_RF_readOperations_155 n_t_tape n_t_newCounts n_t_newOperations t_tapeSize t_place t_tape_a t_newCounts_a t_newOperations_a x1 x4 x5 rec45 = some res) {H : Heap} {locs : List Loc} {ls : Array Slot} (hP : va_P D classes [(h_t, .inr (1, [v_t_thrown, v_t_words, v_t_bits, v_t_cells, v_t_sense, v_t_kinds, v_t_victims, v_t_others, v_t_faults, v_t_toldKinds, v_t_toldVictims, v_t_toldOthers, v_t_told, v_t_ground, v_t_ports, v_t_scrambled, v_t_places, v_t_sorts, v_t_counts, v_t_operations, v_t_elements, v_t_newSorts, .ref h_t_newCounts, .ref h_t_newOperations, .ref h_t_tape, .int t_tapeSize, .int t_place, v_t_failed, v_t_failedCount, v_t_keeps, v_t_some, v_t_repairedRows, v_t_repairedColumns, v_t_proof])), (h_t_tape, .inl (cI, n_t_tape, .inl t_tape_a)), (h_t_newCounts, .inl (cI, n_t_newCounts, .inl t_newCounts_a)), (h_t_newOperations, .inl (cI, n_t_newOperations, .inl t_newOperations_a))] H) (hD : va_D A [(h_t, .inr (1, [v_t_thrown, v_t_words, v_t_bits, v_t_cells, v_t_sense, v_t_kinds, v_t_victims, v_t_others, v_t_faults, v_t_toldKinds, v_t_toldVictims, v_t_toldOthers, v_t_told, v_t_ground, v_t_ports, v_t_scrambled, v_t_places, v_t_sorts, v_t_counts, v_t_operations, v_t_elements, v_t_newSorts, .ref h_t_newCounts, .ref h_t_newOperations, .ref h_t_tape, .int t_tapeSize, .int t_place, v_t_failed, v_t_failedCount, v_t_keeps, v_t_some, v_t_repairedRows, v_t_repairedColumns, v_t_proof])), (h_t_tape, .inl (cI, n_t_tape, .inl t_tape_a)), (h_t_newCounts, .inl (cI, n_t_newCounts, .inl t_newCounts_a)), (h_t_newOperations, .inl (cI, n_t_newOperations, .inl t_newOperations_a))]) (hS : va_S A s.heap H locs) (hl : lv_has ls 7 [(0, .ref h_t), (1, .int x1), (4, .int x4), (5, .int x5)]) : W p l e rm_RF_readOperations s m args below meth c H locs 0 0 (MQ below (QW D (post_RF_readOperations h_t h_t_tape h_t_newCounts h_t_newOperations v_t_thrown v_t_words v_t_bits v_t_cells v_t_sense v_t_kinds v_t_victims v_t_others v_t_faults v_t_toldKinds v_t_toldVictims v_t_toldOthers v_t_told v_t_ground v_t_ports v_t_scrambled v_t_places v_t_sorts v_t_counts v_t_operations v_t_elements v_t_newSorts v_t_failed v_t_failedCount v_t_keeps v_t_some v_t_repairedRows v_t_repairedColumns v_t_proof n_t_tape n_t_newCounts n_t_newOperations t_tapeSize t_tape_a cI cB cJ res) A) args s 0 0 A) (F0 m 155 ls []) := by
  obtain ⟨hx, hb, hml, hr, hlocks, hts, hown, hK, hin⟩ := id C0
  have hf : (((
  (f_RF_readOperations_156 n_t_tape n_t_newCounts n_t_newOperations t_tapeSize t_place t_tape_a t_newCounts_a t_newOperations_a 0 x1 x4 x5 rec45))) : Option (Int32 × Int32 × (Nat → Int32) × (Nat → Int32))) = some res := hf
  refine lv_iconst (v := 0) hx hb d_RF_readOperations_155 (by decide) ?_
  exact k_RF_readOperations_156 (s := s) C0 hA hrec45 hf hP hD hS (lv_sub hl [0, 1, 2, 3] rfl)
set_option maxHeartbeats 4000000 in
set_option maxRecDepth 100000 in
theorem k_RF_readOperations_140 {p : Program} {l : Launch} {e : Env} {s : State} {m : MethodId} {args : Array Value} {below : List Frame} {meth : Method} {c : Code} {D : va_G} {cI cB cJ : ClassId} {A : Nat → Prop} (C0 : CX p s m args meth c D [(cI, .int), (cB, .byte), (cJ, .long)] R_RF b_RF_readOperations 7 (some .boolean) "readOperations") (hA : ∀ q, s.heap.size ≤ q → A q) {h_t h_t_tape h_t_newCounts h_t_newOperations : Nat} {v_t_thrown v_t_words v_t_bits v_t_cells v_t_sense v_t_kinds v_t_victims v_t_others v_t_faults v_t_toldKinds v_t_toldVictims v_t_toldOthers v_t_told v_t_ground v_t_ports v_t_scrambled v_t_places v_t_sorts v_t_counts v_t_operations v_t_elements v_t_newSorts v_t_failed v_t_failedCount v_t_keeps v_t_some v_t_repairedRows v_t_repairedColumns v_t_proof : Value} {res : Int32 × Int32 × (Nat → Int32) × (Nat → Int32)} {rec45 : (Int32 × (Nat → Int32) × (Nat → Int32) × Int32 × Int32) → Option (Int32 × Int32 × (Nat → Int32) × (Nat → Int32))} {n_t_tape : Nat} {n_t_newCounts : Nat} {n_t_newOperations : Nat} {t_tapeSize : Int32} {t_place : Int32} {t_tape_a : Nat → Int32} {t_newCounts_a : Nat → Int32} {t_newOperations_a : Nat → Int32} {s0 : Int32} {x1 : Int32} {x3 : Int32} {x4 : Int32} {x5 : Int32}
    (hrec45 : ∀ (st : (Int32 × (Nat → Int32) × (Nat → Int32) × Int32 × Int32)), rec45 st = some res → ∀  (H : Heap) (locs : List Loc) (ls : Array Slot), va_P D classes [(h_t, .inr (1, [v_t_thrown, v_t_words, v_t_bits, v_t_cells, v_t_sense, v_t_kinds, v_t_victims, v_t_others, v_t_faults, v_t_toldKinds, v_t_toldVictims, v_t_toldOthers, v_t_told, v_t_ground, v_t_ports, v_t_scrambled, v_t_places, v_t_sorts, v_t_counts, v_t_operations, v_t_elements, v_t_newSorts, .ref h_t_newCounts, .ref h_t_newOperations, .ref h_t_tape, .int t_tapeSize, .int st.1, v_t_failed, v_t_failedCount, v_t_keeps, v_t_some, v_t_repairedRows, v_t_repairedColumns, v_t_proof])), (h_t_tape, .inl (cI, n_t_tape, .inl t_tape_a)), (h_t_newCounts, .inl (cI, n_t_newCounts, .inl st.2.1)), (h_t_newOperations, .inl (cI, n_t_newOperations, .inl st.2.2.1))] H → va_D A [(h_t, .inr (1, [v_t_thrown, v_t_words, v_t_bits, v_t_cells, v_t_sense, v_t_kinds, v_t_victims, v_t_others, v_t_faults, v_t_toldKinds, v_t_toldVictims, v_t_toldOthers, v_t_told, v_t_ground, v_t_ports, v_t_scrambled, v_t_places, v_t_sorts, v_t_counts, v_t_operations, v_t_elements, v_t_newSorts, .ref h_t_newCounts, .ref h_t_newOperations, .ref h_t_tape, .int t_tapeSize, .int st.1, v_t_failed, v_t_failedCount, v_t_keeps, v_t_some, v_t_repairedRows, v_t_repairedColumns, v_t_proof])), (h_t_tape, .inl (cI, n_t_tape, .inl t_tape_a)), (h_t_newCounts, .inl (cI, n_t_newCounts, .inl st.2.1)), (h_t_newOperations, .inl (cI, n_t_newOperations, .inl st.2.2.1))] → va_S A s.heap H locs → lv_has ls 7 [(0, .ref h_t), (1, .int x1), (2, .int st.2.2.2.1), (3, .int st.2.2.2.2)] → W p l e rm_RF_readOperations s m args below meth c H locs 0 0 (MQ below (QW D (post_RF_readOperations h_t h_t_tape h_t_newCounts h_t_newOperations v_t_thrown v_t_words v_t_bits v_t_cells v_t_sense v_t_kinds v_t_victims v_t_others v_t_faults v_t_toldKinds v_t_toldVictims v_t_toldOthers v_t_told v_t_ground v_t_ports v_t_scrambled v_t_places v_t_sorts v_t_counts v_t_operations v_t_elements v_t_newSorts v_t_failed v_t_failedCount v_t_keeps v_t_some v_t_repairedRows v_t_repairedColumns v_t_proof n_t_tape n_t_newCounts n_t_newOperations t_tapeSize t_tape_a cI cB cJ res) A) args s 0 0 A) (F0 m 45 ls []))
    (hf : f_RF_readOperations_140 n_t_tape n_t_newCounts n_t_newOperations t_tapeSize t_place t_tape_a t_newCounts_a t_newOperations_a s0 x1 x3 x4 x5 rec45 = some res) {H : Heap} {locs : List Loc} {ls : Array Slot} (hP : va_P D classes [(h_t, .inr (1, [v_t_thrown, v_t_words, v_t_bits, v_t_cells, v_t_sense, v_t_kinds, v_t_victims, v_t_others, v_t_faults, v_t_toldKinds, v_t_toldVictims, v_t_toldOthers, v_t_told, v_t_ground, v_t_ports, v_t_scrambled, v_t_places, v_t_sorts, v_t_counts, v_t_operations, v_t_elements, v_t_newSorts, .ref h_t_newCounts, .ref h_t_newOperations, .ref h_t_tape, .int t_tapeSize, .int t_place, v_t_failed, v_t_failedCount, v_t_keeps, v_t_some, v_t_repairedRows, v_t_repairedColumns, v_t_proof])), (h_t_tape, .inl (cI, n_t_tape, .inl t_tape_a)), (h_t_newCounts, .inl (cI, n_t_newCounts, .inl t_newCounts_a)), (h_t_newOperations, .inl (cI, n_t_newOperations, .inl t_newOperations_a))] H) (hD : va_D A [(h_t, .inr (1, [v_t_thrown, v_t_words, v_t_bits, v_t_cells, v_t_sense, v_t_kinds, v_t_victims, v_t_others, v_t_faults, v_t_toldKinds, v_t_toldVictims, v_t_toldOthers, v_t_told, v_t_ground, v_t_ports, v_t_scrambled, v_t_places, v_t_sorts, v_t_counts, v_t_operations, v_t_elements, v_t_newSorts, .ref h_t_newCounts, .ref h_t_newOperations, .ref h_t_tape, .int t_tapeSize, .int t_place, v_t_failed, v_t_failedCount, v_t_keeps, v_t_some, v_t_repairedRows, v_t_repairedColumns, v_t_proof])), (h_t_tape, .inl (cI, n_t_tape, .inl t_tape_a)), (h_t_newCounts, .inl (cI, n_t_newCounts, .inl t_newCounts_a)), (h_t_newOperations, .inl (cI, n_t_newOperations, .inl t_newOperations_a))]) (hS : va_S A s.heap H locs) (hl : lv_has ls 7 [(0, .ref h_t), (1, .int x1), (3, .int x3), (4, .int x4), (5, .int x5)]) : W p l e rm_RF_readOperations s m args below meth c H locs 0 0 (MQ below (QW D (post_RF_readOperations h_t h_t_tape h_t_newCounts h_t_newOperations v_t_thrown v_t_words v_t_bits v_t_cells v_t_sense v_t_kinds v_t_victims v_t_others v_t_faults v_t_toldKinds v_t_toldVictims v_t_toldOthers v_t_told v_t_ground v_t_ports v_t_scrambled v_t_places v_t_sorts v_t_counts v_t_operations v_t_elements v_t_newSorts v_t_failed v_t_failedCount v_t_keeps v_t_some v_t_repairedRows v_t_repairedColumns v_t_proof n_t_tape n_t_newCounts n_t_newOperations t_tapeSize t_tape_a cI cB cJ res) A) args s 0 0 A) (F0 m 140 ls [.int s0]) := by
  obtain ⟨hx, hb, hml, hr, hlocks, hts, hown, hK, hin⟩ := id C0
  have hf : (((
  (if x3 = 0 then
    (f_RF_readOperations_155 n_t_tape n_t_newCounts n_t_newOperations t_tapeSize t_place t_tape_a t_newCounts_a t_newOperations_a x1 x4 x5 rec45)
  else
    (if s0 = 0 then
      (f_RF_readOperations_155 n_t_tape n_t_newCounts n_t_newOperations t_tapeSize t_place t_tape_a t_newCounts_a t_newOperations_a x1 x4 x5 rec45)
    else
      (f_RF_readOperations_156 n_t_tape n_t_newCounts n_t_newOperations t_tapeSize t_place t_tape_a t_newCounts_a t_newOperations_a 1 x1 x4 x5 rec45))))) : Option (Int32 × Int32 × (Nat → Int32) × (Nat → Int32))) = some res := hf
  refine lv_istore (lv' := [(6, .int s0), (0, .ref h_t), (1, .int x1), (3, .int x3), (4, .int x4), (5, .int x5)]) hx hb d_RF_readOperations_140 hl (by decide) rfl (fun ls hl => ?_)
  refine lv_iload_n hx hb d_RF_readOperations_142 rfl (lv_at hl 3 rfl) ?_
  refine lv_if_eq (tgt := 155) hx hb d_RF_readOperations_143 (by decide) (fun cc143 => ?_) (fun cc143 => ?_)
  · have hf := ifT cc143 hf
    exact k_RF_readOperations_155 (s := s) C0 hA hrec45 hf hP hD hS (lv_sub hl [1, 2, 4, 5] rfl)
  · have hf := ifF cc143 hf
    refine lv_iload hx hb d_RF_readOperations_146 (lv_at hl 0 rfl) ?_
    refine lv_if_eq (tgt := 155) hx hb d_RF_readOperations_148 (by decide) (fun cc148 => ?_) (fun cc148 => ?_)
    · have hf := ifT cc148 hf
      exact k_RF_readOperations_155 (s := s) C0 hA hrec45 hf hP hD hS (lv_sub hl [1, 2, 4, 5] rfl)
    · have hf := ifF cc148 hf
      refine lv_iconst (v := 1) hx hb d_RF_readOperations_151 (by decide) ?_
      refine lv_goto (tgt := 156) hx hb d_RF_readOperations_152 (by decide) ?_
      exact k_RF_readOperations_156 (s := s) C0 hA hrec45 hf hP hD hS (lv_sub hl [1, 2, 4, 5] rfl)
set_option maxHeartbeats 4000000 in
set_option maxRecDepth 100000 in
theorem k_RF_readOperations_135 {p : Program} {l : Launch} {e : Env} {s : State} {m : MethodId} {args : Array Value} {below : List Frame} {meth : Method} {c : Code} {D : va_G} {cI cB cJ : ClassId} {A : Nat → Prop} (C0 : CX p s m args meth c D [(cI, .int), (cB, .byte), (cJ, .long)] R_RF b_RF_readOperations 7 (some .boolean) "readOperations") (hA : ∀ q, s.heap.size ≤ q → A q) {h_t h_t_tape h_t_newCounts h_t_newOperations : Nat} {v_t_thrown v_t_words v_t_bits v_t_cells v_t_sense v_t_kinds v_t_victims v_t_others v_t_faults v_t_toldKinds v_t_toldVictims v_t_toldOthers v_t_told v_t_ground v_t_ports v_t_scrambled v_t_places v_t_sorts v_t_counts v_t_operations v_t_elements v_t_newSorts v_t_failed v_t_failedCount v_t_keeps v_t_some v_t_repairedRows v_t_repairedColumns v_t_proof : Value} {res : Int32 × Int32 × (Nat → Int32) × (Nat → Int32)} {rec45 : (Int32 × (Nat → Int32) × (Nat → Int32) × Int32 × Int32) → Option (Int32 × Int32 × (Nat → Int32) × (Nat → Int32))} {n_t_tape : Nat} {n_t_newCounts : Nat} {n_t_newOperations : Nat} {t_tapeSize : Int32} {t_place : Int32} {t_tape_a : Nat → Int32} {t_newCounts_a : Nat → Int32} {t_newOperations_a : Nat → Int32} {x1 : Int32} {x3 : Int32} {x4 : Int32} {x5 : Int32}
    (hrec45 : ∀ (st : (Int32 × (Nat → Int32) × (Nat → Int32) × Int32 × Int32)), rec45 st = some res → ∀  (H : Heap) (locs : List Loc) (ls : Array Slot), va_P D classes [(h_t, .inr (1, [v_t_thrown, v_t_words, v_t_bits, v_t_cells, v_t_sense, v_t_kinds, v_t_victims, v_t_others, v_t_faults, v_t_toldKinds, v_t_toldVictims, v_t_toldOthers, v_t_told, v_t_ground, v_t_ports, v_t_scrambled, v_t_places, v_t_sorts, v_t_counts, v_t_operations, v_t_elements, v_t_newSorts, .ref h_t_newCounts, .ref h_t_newOperations, .ref h_t_tape, .int t_tapeSize, .int st.1, v_t_failed, v_t_failedCount, v_t_keeps, v_t_some, v_t_repairedRows, v_t_repairedColumns, v_t_proof])), (h_t_tape, .inl (cI, n_t_tape, .inl t_tape_a)), (h_t_newCounts, .inl (cI, n_t_newCounts, .inl st.2.1)), (h_t_newOperations, .inl (cI, n_t_newOperations, .inl st.2.2.1))] H → va_D A [(h_t, .inr (1, [v_t_thrown, v_t_words, v_t_bits, v_t_cells, v_t_sense, v_t_kinds, v_t_victims, v_t_others, v_t_faults, v_t_toldKinds, v_t_toldVictims, v_t_toldOthers, v_t_told, v_t_ground, v_t_ports, v_t_scrambled, v_t_places, v_t_sorts, v_t_counts, v_t_operations, v_t_elements, v_t_newSorts, .ref h_t_newCounts, .ref h_t_newOperations, .ref h_t_tape, .int t_tapeSize, .int st.1, v_t_failed, v_t_failedCount, v_t_keeps, v_t_some, v_t_repairedRows, v_t_repairedColumns, v_t_proof])), (h_t_tape, .inl (cI, n_t_tape, .inl t_tape_a)), (h_t_newCounts, .inl (cI, n_t_newCounts, .inl st.2.1)), (h_t_newOperations, .inl (cI, n_t_newOperations, .inl st.2.2.1))] → va_S A s.heap H locs → lv_has ls 7 [(0, .ref h_t), (1, .int x1), (2, .int st.2.2.2.1), (3, .int st.2.2.2.2)] → W p l e rm_RF_readOperations s m args below meth c H locs 0 0 (MQ below (QW D (post_RF_readOperations h_t h_t_tape h_t_newCounts h_t_newOperations v_t_thrown v_t_words v_t_bits v_t_cells v_t_sense v_t_kinds v_t_victims v_t_others v_t_faults v_t_toldKinds v_t_toldVictims v_t_toldOthers v_t_told v_t_ground v_t_ports v_t_scrambled v_t_places v_t_sorts v_t_counts v_t_operations v_t_elements v_t_newSorts v_t_failed v_t_failedCount v_t_keeps v_t_some v_t_repairedRows v_t_repairedColumns v_t_proof n_t_tape n_t_newCounts n_t_newOperations t_tapeSize t_tape_a cI cB cJ res) A) args s 0 0 A) (F0 m 45 ls []))
    (hf : f_RF_readOperations_135 n_t_tape n_t_newCounts n_t_newOperations t_tapeSize t_place t_tape_a t_newCounts_a t_newOperations_a x1 x3 x4 x5 rec45 = some res) {H : Heap} {locs : List Loc} {ls : Array Slot} (hP : va_P D classes [(h_t, .inr (1, [v_t_thrown, v_t_words, v_t_bits, v_t_cells, v_t_sense, v_t_kinds, v_t_victims, v_t_others, v_t_faults, v_t_toldKinds, v_t_toldVictims, v_t_toldOthers, v_t_told, v_t_ground, v_t_ports, v_t_scrambled, v_t_places, v_t_sorts, v_t_counts, v_t_operations, v_t_elements, v_t_newSorts, .ref h_t_newCounts, .ref h_t_newOperations, .ref h_t_tape, .int t_tapeSize, .int t_place, v_t_failed, v_t_failedCount, v_t_keeps, v_t_some, v_t_repairedRows, v_t_repairedColumns, v_t_proof])), (h_t_tape, .inl (cI, n_t_tape, .inl t_tape_a)), (h_t_newCounts, .inl (cI, n_t_newCounts, .inl t_newCounts_a)), (h_t_newOperations, .inl (cI, n_t_newOperations, .inl t_newOperations_a))] H) (hD : va_D A [(h_t, .inr (1, [v_t_thrown, v_t_words, v_t_bits, v_t_cells, v_t_sense, v_t_kinds, v_t_victims, v_t_others, v_t_faults, v_t_toldKinds, v_t_toldVictims, v_t_toldOthers, v_t_told, v_t_ground, v_t_ports, v_t_scrambled, v_t_places, v_t_sorts, v_t_counts, v_t_operations, v_t_elements, v_t_newSorts, .ref h_t_newCounts, .ref h_t_newOperations, .ref h_t_tape, .int t_tapeSize, .int t_place, v_t_failed, v_t_failedCount, v_t_keeps, v_t_some, v_t_repairedRows, v_t_repairedColumns, v_t_proof])), (h_t_tape, .inl (cI, n_t_tape, .inl t_tape_a)), (h_t_newCounts, .inl (cI, n_t_newCounts, .inl t_newCounts_a)), (h_t_newOperations, .inl (cI, n_t_newOperations, .inl t_newOperations_a))]) (hS : va_S A s.heap H locs) (hl : lv_has ls 7 [(0, .ref h_t), (1, .int x1), (3, .int x3), (4, .int x4), (5, .int x5)]) : W p l e rm_RF_readOperations s m args below meth c H locs 0 0 (MQ below (QW D (post_RF_readOperations h_t h_t_tape h_t_newCounts h_t_newOperations v_t_thrown v_t_words v_t_bits v_t_cells v_t_sense v_t_kinds v_t_victims v_t_others v_t_faults v_t_toldKinds v_t_toldVictims v_t_toldOthers v_t_told v_t_ground v_t_ports v_t_scrambled v_t_places v_t_sorts v_t_counts v_t_operations v_t_elements v_t_newSorts v_t_failed v_t_failedCount v_t_keeps v_t_some v_t_repairedRows v_t_repairedColumns v_t_proof n_t_tape n_t_newCounts n_t_newOperations t_tapeSize t_tape_a cI cB cJ res) A) args s 0 0 A) (F0 m 135 ls []) := by
  obtain ⟨hx, hb, hml, hr, hlocks, hts, hown, hK, hin⟩ := id C0
  have hf : (((
  (f_RF_readOperations_140 n_t_tape n_t_newCounts n_t_newOperations t_tapeSize t_place t_tape_a t_newCounts_a t_newOperations_a 1 x1 x3 x4 x5 rec45))) : Option (Int32 × Int32 × (Nat → Int32) × (Nat → Int32))) = some res := hf
  refine lv_iconst (v := 1) hx hb d_RF_readOperations_135 (by decide) ?_
  refine lv_goto (tgt := 140) hx hb d_RF_readOperations_136 (by decide) ?_
  exact k_RF_readOperations_140 (s := s) C0 hA hrec45 hf hP hD hS (lv_sub hl [0, 1, 2, 3, 4] rfl)
set_option maxHeartbeats 4000000 in
set_option maxRecDepth 100000 in
theorem k_RF_readOperations_119 {p : Program} {l : Launch} {e : Env} {s : State} {m : MethodId} {args : Array Value} {below : List Frame} {meth : Method} {c : Code} {D : va_G} {cI cB cJ : ClassId} {A : Nat → Prop} (C0 : CX p s m args meth c D [(cI, .int), (cB, .byte), (cJ, .long)] R_RF b_RF_readOperations 7 (some .boolean) "readOperations") (hA : ∀ q, s.heap.size ≤ q → A q) {h_t h_t_tape h_t_newCounts h_t_newOperations : Nat} {v_t_thrown v_t_words v_t_bits v_t_cells v_t_sense v_t_kinds v_t_victims v_t_others v_t_faults v_t_toldKinds v_t_toldVictims v_t_toldOthers v_t_told v_t_ground v_t_ports v_t_scrambled v_t_places v_t_sorts v_t_counts v_t_operations v_t_elements v_t_newSorts v_t_failed v_t_failedCount v_t_keeps v_t_some v_t_repairedRows v_t_repairedColumns v_t_proof : Value} {res : Int32 × Int32 × (Nat → Int32) × (Nat → Int32)} {rec45 : (Int32 × (Nat → Int32) × (Nat → Int32) × Int32 × Int32) → Option (Int32 × Int32 × (Nat → Int32) × (Nat → Int32))} {n_t_tape : Nat} {n_t_newCounts : Nat} {n_t_newOperations : Nat} {t_tapeSize : Int32} {t_place : Int32} {t_tape_a : Nat → Int32} {t_newCounts_a : Nat → Int32} {t_newOperations_a : Nat → Int32} {s0 : Int32} {x1 : Int32} {x3 : Int32} {x4 : Int32}
    (hrec45 : ∀ (st : (Int32 × (Nat → Int32) × (Nat → Int32) × Int32 × Int32)), rec45 st = some res → ∀  (H : Heap) (locs : List Loc) (ls : Array Slot), va_P D classes [(h_t, .inr (1, [v_t_thrown, v_t_words, v_t_bits, v_t_cells, v_t_sense, v_t_kinds, v_t_victims, v_t_others, v_t_faults, v_t_toldKinds, v_t_toldVictims, v_t_toldOthers, v_t_told, v_t_ground, v_t_ports, v_t_scrambled, v_t_places, v_t_sorts, v_t_counts, v_t_operations, v_t_elements, v_t_newSorts, .ref h_t_newCounts, .ref h_t_newOperations, .ref h_t_tape, .int t_tapeSize, .int st.1, v_t_failed, v_t_failedCount, v_t_keeps, v_t_some, v_t_repairedRows, v_t_repairedColumns, v_t_proof])), (h_t_tape, .inl (cI, n_t_tape, .inl t_tape_a)), (h_t_newCounts, .inl (cI, n_t_newCounts, .inl st.2.1)), (h_t_newOperations, .inl (cI, n_t_newOperations, .inl st.2.2.1))] H → va_D A [(h_t, .inr (1, [v_t_thrown, v_t_words, v_t_bits, v_t_cells, v_t_sense, v_t_kinds, v_t_victims, v_t_others, v_t_faults, v_t_toldKinds, v_t_toldVictims, v_t_toldOthers, v_t_told, v_t_ground, v_t_ports, v_t_scrambled, v_t_places, v_t_sorts, v_t_counts, v_t_operations, v_t_elements, v_t_newSorts, .ref h_t_newCounts, .ref h_t_newOperations, .ref h_t_tape, .int t_tapeSize, .int st.1, v_t_failed, v_t_failedCount, v_t_keeps, v_t_some, v_t_repairedRows, v_t_repairedColumns, v_t_proof])), (h_t_tape, .inl (cI, n_t_tape, .inl t_tape_a)), (h_t_newCounts, .inl (cI, n_t_newCounts, .inl st.2.1)), (h_t_newOperations, .inl (cI, n_t_newOperations, .inl st.2.2.1))] → va_S A s.heap H locs → lv_has ls 7 [(0, .ref h_t), (1, .int x1), (2, .int st.2.2.2.1), (3, .int st.2.2.2.2)] → W p l e rm_RF_readOperations s m args below meth c H locs 0 0 (MQ below (QW D (post_RF_readOperations h_t h_t_tape h_t_newCounts h_t_newOperations v_t_thrown v_t_words v_t_bits v_t_cells v_t_sense v_t_kinds v_t_victims v_t_others v_t_faults v_t_toldKinds v_t_toldVictims v_t_toldOthers v_t_told v_t_ground v_t_ports v_t_scrambled v_t_places v_t_sorts v_t_counts v_t_operations v_t_elements v_t_newSorts v_t_failed v_t_failedCount v_t_keeps v_t_some v_t_repairedRows v_t_repairedColumns v_t_proof n_t_tape n_t_newCounts n_t_newOperations t_tapeSize t_tape_a cI cB cJ res) A) args s 0 0 A) (F0 m 45 ls []))
    (hf : f_RF_readOperations_119 n_t_tape n_t_newCounts n_t_newOperations t_tapeSize t_place t_tape_a t_newCounts_a t_newOperations_a s0 x1 x3 x4 rec45 = some res) {H : Heap} {locs : List Loc} {ls : Array Slot} (hP : va_P D classes [(h_t, .inr (1, [v_t_thrown, v_t_words, v_t_bits, v_t_cells, v_t_sense, v_t_kinds, v_t_victims, v_t_others, v_t_faults, v_t_toldKinds, v_t_toldVictims, v_t_toldOthers, v_t_told, v_t_ground, v_t_ports, v_t_scrambled, v_t_places, v_t_sorts, v_t_counts, v_t_operations, v_t_elements, v_t_newSorts, .ref h_t_newCounts, .ref h_t_newOperations, .ref h_t_tape, .int t_tapeSize, .int t_place, v_t_failed, v_t_failedCount, v_t_keeps, v_t_some, v_t_repairedRows, v_t_repairedColumns, v_t_proof])), (h_t_tape, .inl (cI, n_t_tape, .inl t_tape_a)), (h_t_newCounts, .inl (cI, n_t_newCounts, .inl t_newCounts_a)), (h_t_newOperations, .inl (cI, n_t_newOperations, .inl t_newOperations_a))] H) (hD : va_D A [(h_t, .inr (1, [v_t_thrown, v_t_words, v_t_bits, v_t_cells, v_t_sense, v_t_kinds, v_t_victims, v_t_others, v_t_faults, v_t_toldKinds, v_t_toldVictims, v_t_toldOthers, v_t_told, v_t_ground, v_t_ports, v_t_scrambled, v_t_places, v_t_sorts, v_t_counts, v_t_operations, v_t_elements, v_t_newSorts, .ref h_t_newCounts, .ref h_t_newOperations, .ref h_t_tape, .int t_tapeSize, .int t_place, v_t_failed, v_t_failedCount, v_t_keeps, v_t_some, v_t_repairedRows, v_t_repairedColumns, v_t_proof])), (h_t_tape, .inl (cI, n_t_tape, .inl t_tape_a)), (h_t_newCounts, .inl (cI, n_t_newCounts, .inl t_newCounts_a)), (h_t_newOperations, .inl (cI, n_t_newOperations, .inl t_newOperations_a))]) (hS : va_S A s.heap H locs) (hl : lv_has ls 7 [(0, .ref h_t), (1, .int x1), (3, .int x3), (4, .int x4)]) : W p l e rm_RF_readOperations s m args below meth c H locs 0 0 (MQ below (QW D (post_RF_readOperations h_t h_t_tape h_t_newCounts h_t_newOperations v_t_thrown v_t_words v_t_bits v_t_cells v_t_sense v_t_kinds v_t_victims v_t_others v_t_faults v_t_toldKinds v_t_toldVictims v_t_toldOthers v_t_told v_t_ground v_t_ports v_t_scrambled v_t_places v_t_sorts v_t_counts v_t_operations v_t_elements v_t_newSorts v_t_failed v_t_failedCount v_t_keeps v_t_some v_t_repairedRows v_t_repairedColumns v_t_proof n_t_tape n_t_newCounts n_t_newOperations t_tapeSize t_tape_a cI cB cJ res) A) args s 0 0 A) (F0 m 119 ls [.int s0]) := by
  obtain ⟨hx, hb, hml, hr, hlocks, hts, hown, hK, hin⟩ := id C0
  have hf : (((
  (if s0 = 48 then
    (f_RF_readOperations_135 n_t_tape n_t_newCounts n_t_newOperations t_tapeSize t_place t_tape_a t_newCounts_a t_newOperations_a x1 x3 x4 s0 rec45)
  else
    (if s0 = 49 then
      (f_RF_readOperations_135 n_t_tape n_t_newCounts n_t_newOperations t_tapeSize t_place t_tape_a t_newCounts_a t_newOperations_a x1 x3 x4 s0 rec45)
    else
      (f_RF_readOperations_140 n_t_tape n_t_newCounts n_t_newOperations t_tapeSize t_place t_tape_a t_newCounts_a t_newOperations_a 0 x1 x3 x4 s0 rec45))))) : Option (Int32 × Int32 × (Nat → Int32) × (Nat → Int32))) = some res := hf
  refine lv_istore (lv' := [(5, .int s0), (0, .ref h_t), (1, .int x1), (3, .int x3), (4, .int x4)]) hx hb d_RF_readOperations_119 hl (by decide) rfl (fun ls hl => ?_)
  refine lv_iload hx hb d_RF_readOperations_121 (lv_at hl 0 rfl) ?_
  refine lv_bipush (v := 48) hx hb d_RF_readOperations_123 (by decide) ?_
  refine lv_icmp_eq (tgt := 135) hx hb d_RF_readOperations_125 (by decide) (fun cc125 => ?_) (fun cc125 => ?_)
  · have hf := ifT cc125 hf
    exact k_RF_readOperations_135 (s := s) C0 hA hrec45 hf hP hD hS (lv_sub hl [1, 2, 3, 4, 0] rfl)
  · have hf := ifF cc125 hf
    refine lv_iload hx hb d_RF_readOperations_128 (lv_at hl 0 rfl) ?_
    refine lv_bipush (v := 49) hx hb d_RF_readOperations_130 (by decide) ?_
    refine lv_icmp_ne (tgt := 139) hx hb d_RF_readOperations_132 (by decide) (fun cc132 => ?_) (fun cc132 => ?_)
    · have hf := ifF cc132 hf
      refine lv_iconst (v := 0) hx hb d_RF_readOperations_139 (by decide) ?_
      exact k_RF_readOperations_140 (s := s) C0 hA hrec45 hf hP hD hS (lv_sub hl [1, 2, 3, 4, 0] rfl)
    · have hf := ifT cc132 hf
      exact k_RF_readOperations_135 (s := s) C0 hA hrec45 hf hP hD hS (lv_sub hl [1, 2, 3, 4, 0] rfl)
set_option maxHeartbeats 4000000 in
set_option maxRecDepth 100000 in
theorem k_RF_readOperations_104 {p : Program} {l : Launch} {e : Env} {s : State} {m : MethodId} {args : Array Value} {below : List Frame} {meth : Method} {c : Code} {D : va_G} {cI cB cJ : ClassId} {A : Nat → Prop} (C0 : CX p s m args meth c D [(cI, .int), (cB, .byte), (cJ, .long)] R_RF b_RF_readOperations 7 (some .boolean) "readOperations") (hA : ∀ q, s.heap.size ≤ q → A q) {h_t h_t_tape h_t_newCounts h_t_newOperations : Nat} {v_t_thrown v_t_words v_t_bits v_t_cells v_t_sense v_t_kinds v_t_victims v_t_others v_t_faults v_t_toldKinds v_t_toldVictims v_t_toldOthers v_t_told v_t_ground v_t_ports v_t_scrambled v_t_places v_t_sorts v_t_counts v_t_operations v_t_elements v_t_newSorts v_t_failed v_t_failedCount v_t_keeps v_t_some v_t_repairedRows v_t_repairedColumns v_t_proof : Value} {res : Int32 × Int32 × (Nat → Int32) × (Nat → Int32)} {rec45 : (Int32 × (Nat → Int32) × (Nat → Int32) × Int32 × Int32) → Option (Int32 × Int32 × (Nat → Int32) × (Nat → Int32))} {n_t_tape : Nat} {n_t_newCounts : Nat} {n_t_newOperations : Nat} {t_tapeSize : Int32} {t_place : Int32} {t_tape_a : Nat → Int32} {t_newCounts_a : Nat → Int32} {t_newOperations_a : Nat → Int32} {s1 : Int32} {x1 : Int32} {x3 : Int32} {x4 : Int32}
    (hrec45 : ∀ (st : (Int32 × (Nat → Int32) × (Nat → Int32) × Int32 × Int32)), rec45 st = some res → ∀  (H : Heap) (locs : List Loc) (ls : Array Slot), va_P D classes [(h_t, .inr (1, [v_t_thrown, v_t_words, v_t_bits, v_t_cells, v_t_sense, v_t_kinds, v_t_victims, v_t_others, v_t_faults, v_t_toldKinds, v_t_toldVictims, v_t_toldOthers, v_t_told, v_t_ground, v_t_ports, v_t_scrambled, v_t_places, v_t_sorts, v_t_counts, v_t_operations, v_t_elements, v_t_newSorts, .ref h_t_newCounts, .ref h_t_newOperations, .ref h_t_tape, .int t_tapeSize, .int st.1, v_t_failed, v_t_failedCount, v_t_keeps, v_t_some, v_t_repairedRows, v_t_repairedColumns, v_t_proof])), (h_t_tape, .inl (cI, n_t_tape, .inl t_tape_a)), (h_t_newCounts, .inl (cI, n_t_newCounts, .inl st.2.1)), (h_t_newOperations, .inl (cI, n_t_newOperations, .inl st.2.2.1))] H → va_D A [(h_t, .inr (1, [v_t_thrown, v_t_words, v_t_bits, v_t_cells, v_t_sense, v_t_kinds, v_t_victims, v_t_others, v_t_faults, v_t_toldKinds, v_t_toldVictims, v_t_toldOthers, v_t_told, v_t_ground, v_t_ports, v_t_scrambled, v_t_places, v_t_sorts, v_t_counts, v_t_operations, v_t_elements, v_t_newSorts, .ref h_t_newCounts, .ref h_t_newOperations, .ref h_t_tape, .int t_tapeSize, .int st.1, v_t_failed, v_t_failedCount, v_t_keeps, v_t_some, v_t_repairedRows, v_t_repairedColumns, v_t_proof])), (h_t_tape, .inl (cI, n_t_tape, .inl t_tape_a)), (h_t_newCounts, .inl (cI, n_t_newCounts, .inl st.2.1)), (h_t_newOperations, .inl (cI, n_t_newOperations, .inl st.2.2.1))] → va_S A s.heap H locs → lv_has ls 7 [(0, .ref h_t), (1, .int x1), (2, .int st.2.2.2.1), (3, .int st.2.2.2.2)] → W p l e rm_RF_readOperations s m args below meth c H locs 0 0 (MQ below (QW D (post_RF_readOperations h_t h_t_tape h_t_newCounts h_t_newOperations v_t_thrown v_t_words v_t_bits v_t_cells v_t_sense v_t_kinds v_t_victims v_t_others v_t_faults v_t_toldKinds v_t_toldVictims v_t_toldOthers v_t_told v_t_ground v_t_ports v_t_scrambled v_t_places v_t_sorts v_t_counts v_t_operations v_t_elements v_t_newSorts v_t_failed v_t_failedCount v_t_keeps v_t_some v_t_repairedRows v_t_repairedColumns v_t_proof n_t_tape n_t_newCounts n_t_newOperations t_tapeSize t_tape_a cI cB cJ res) A) args s 0 0 A) (F0 m 45 ls []))
    (hf : f_RF_readOperations_104 n_t_tape n_t_newCounts n_t_newOperations t_tapeSize t_tape_a t_newCounts_a t_newOperations_a s1 x1 x3 x4 rec45 = some res) {H : Heap} {locs : List Loc} {ls : Array Slot} (hP : va_P D classes [(h_t, .inr (1, [v_t_thrown, v_t_words, v_t_bits, v_t_cells, v_t_sense, v_t_kinds, v_t_victims, v_t_others, v_t_faults, v_t_toldKinds, v_t_toldVictims, v_t_toldOthers, v_t_told, v_t_ground, v_t_ports, v_t_scrambled, v_t_places, v_t_sorts, v_t_counts, v_t_operations, v_t_elements, v_t_newSorts, .ref h_t_newCounts, .ref h_t_newOperations, .ref h_t_tape, .int t_tapeSize, .int t_place, v_t_failed, v_t_failedCount, v_t_keeps, v_t_some, v_t_repairedRows, v_t_repairedColumns, v_t_proof])), (h_t_tape, .inl (cI, n_t_tape, .inl t_tape_a)), (h_t_newCounts, .inl (cI, n_t_newCounts, .inl t_newCounts_a)), (h_t_newOperations, .inl (cI, n_t_newOperations, .inl t_newOperations_a))] H) (hD : va_D A [(h_t, .inr (1, [v_t_thrown, v_t_words, v_t_bits, v_t_cells, v_t_sense, v_t_kinds, v_t_victims, v_t_others, v_t_faults, v_t_toldKinds, v_t_toldVictims, v_t_toldOthers, v_t_told, v_t_ground, v_t_ports, v_t_scrambled, v_t_places, v_t_sorts, v_t_counts, v_t_operations, v_t_elements, v_t_newSorts, .ref h_t_newCounts, .ref h_t_newOperations, .ref h_t_tape, .int t_tapeSize, .int t_place, v_t_failed, v_t_failedCount, v_t_keeps, v_t_some, v_t_repairedRows, v_t_repairedColumns, v_t_proof])), (h_t_tape, .inl (cI, n_t_tape, .inl t_tape_a)), (h_t_newCounts, .inl (cI, n_t_newCounts, .inl t_newCounts_a)), (h_t_newOperations, .inl (cI, n_t_newOperations, .inl t_newOperations_a))]) (hS : va_S A s.heap H locs) (hl : lv_has ls 7 [(0, .ref h_t), (1, .int x1), (3, .int x3), (4, .int x4)]) : W p l e rm_RF_readOperations s m args below meth c H locs 0 0 (MQ below (QW D (post_RF_readOperations h_t h_t_tape h_t_newCounts h_t_newOperations v_t_thrown v_t_words v_t_bits v_t_cells v_t_sense v_t_kinds v_t_victims v_t_others v_t_faults v_t_toldKinds v_t_toldVictims v_t_toldOthers v_t_told v_t_ground v_t_ports v_t_scrambled v_t_places v_t_sorts v_t_counts v_t_operations v_t_elements v_t_newSorts v_t_failed v_t_failedCount v_t_keeps v_t_some v_t_repairedRows v_t_repairedColumns v_t_proof n_t_tape n_t_newCounts n_t_newOperations t_tapeSize t_tape_a cI cB cJ res) A) args s 0 0 A) (F0 m 104 ls [.int s1, .ref h_t]) := by
  obtain ⟨hx, hb, hml, hr, hlocks, hts, hown, hK, hin⟩ := id C0
  have hf : (((
  (if x3 = 0 then
    (f_RF_readOperations_119 n_t_tape n_t_newCounts n_t_newOperations t_tapeSize s1 t_tape_a t_newCounts_a t_newOperations_a 0 x1 x3 x4 rec45)
  else
    (Option.bind (f_RF_next n_t_tape t_tapeSize s1 t_tape_a) fun q112_5 =>
    (f_RF_readOperations_119 n_t_tape n_t_newCounts n_t_newOperations t_tapeSize q112_5.2 t_tape_a t_newCounts_a t_newOperations_a q112_5.1 x1 x3 x4 rec45))))) : Option (Int32 × Int32 × (Nat → Int32) × (Nat → Int32))) = some res := hf
  refine va_put (D := D) (ci := 1) (v := .int s1) (ty := .int) (C := R_RF) (T := F_RF) (N := 34) hx hb hts i_RF t_RF t_RF_ok n_RF hown hK.1 hP hD hS 0 rfl rfl 26 (by decide) (hts _ w_389) (fun _ h9 => h9) rfl (t_RF_ok 26 (by decide)) rfl rfl (Nat.le_of_ble_eq_true rfl) d_RF_readOperations_104 (fun H locs hP hD hS => ?_)
  have hP : va_P D classes [(h_t, .inr (1, [v_t_thrown, v_t_words, v_t_bits, v_t_cells, v_t_sense, v_t_kinds, v_t_victims, v_t_others, v_t_faults, v_t_toldKinds, v_t_toldVictims, v_t_toldOthers, v_t_told, v_t_ground, v_t_ports, v_t_scrambled, v_t_places, v_t_sorts, v_t_counts, v_t_operations, v_t_elements, v_t_newSorts, .ref h_t_newCounts, .ref h_t_newOperations, .ref h_t_tape, .int t_tapeSize, .int s1, v_t_failed, v_t_failedCount, v_t_keeps, v_t_some, v_t_repairedRows, v_t_repairedColumns, v_t_proof])), (h_t_tape, .inl (cI, n_t_tape, .inl t_tape_a)), (h_t_newCounts, .inl (cI, n_t_newCounts, .inl t_newCounts_a)), (h_t_newOperations, .inl (cI, n_t_newOperations, .inl t_newOperations_a))] H := hP
  have hD : va_D A [(h_t, .inr (1, [v_t_thrown, v_t_words, v_t_bits, v_t_cells, v_t_sense, v_t_kinds, v_t_victims, v_t_others, v_t_faults, v_t_toldKinds, v_t_toldVictims, v_t_toldOthers, v_t_told, v_t_ground, v_t_ports, v_t_scrambled, v_t_places, v_t_sorts, v_t_counts, v_t_operations, v_t_elements, v_t_newSorts, .ref h_t_newCounts, .ref h_t_newOperations, .ref h_t_tape, .int t_tapeSize, .int s1, v_t_failed, v_t_failedCount, v_t_keeps, v_t_some, v_t_repairedRows, v_t_repairedColumns, v_t_proof])), (h_t_tape, .inl (cI, n_t_tape, .inl t_tape_a)), (h_t_newCounts, .inl (cI, n_t_newCounts, .inl t_newCounts_a)), (h_t_newOperations, .inl (cI, n_t_newOperations, .inl t_newOperations_a))] := hD
  refine lv_iload_n hx hb d_RF_readOperations_107 rfl (lv_at hl 2 rfl) ?_
  refine lv_if_eq (tgt := 118) hx hb d_RF_readOperations_108 (by decide) (fun cc108 => ?_) (fun cc108 => ?_)
  · have hf := ifT cc108 hf
    refine lv_iconst (v := 0) hx hb d_RF_readOperations_118 (by decide) ?_
    exact k_RF_readOperations_119 (s := s) C0 hA hrec45 hf hP hD hS (lv_sub hl [0, 1, 2, 3] rfl)
  · have hf := ifF cc108 hf
    refine lv_aload_n hx hb d_RF_readOperations_111 rfl (lv_at hl 0 rfl) ?_
    obtain ⟨q112_5, hc, hf⟩ := bindS hf
    refine mcV (n := 0) (As := []) (rest := []) (wr := [(h_t_newCounts, .inl (cI, n_t_newCounts, .inl t_newCounts_a)), (h_t_newOperations, .inl (cI, n_t_newOperations, .inl t_newOperations_a))]) hx hb hml hown hts hK (c_RF_next (l := l) (D := D) (cI := cI) (cB := cB) (cJ := cJ) (h_t := h_t) (h_t_tape := h_t_tape) (v_t_thrown := v_t_thrown) (v_t_words := v_t_words) (v_t_bits := v_t_bits) (v_t_cells := v_t_cells) (v_t_sense := v_t_sense) (v_t_kinds := v_t_kinds) (v_t_victims := v_t_victims) (v_t_others := v_t_others) (v_t_faults := v_t_faults) (v_t_toldKinds := v_t_toldKinds) (v_t_toldVictims := v_t_toldVictims) (v_t_toldOthers := v_t_toldOthers) (v_t_told := v_t_told) (v_t_ground := v_t_ground) (v_t_ports := v_t_ports) (v_t_scrambled := v_t_scrambled) (v_t_places := v_t_places) (v_t_sorts := v_t_sorts) (v_t_counts := v_t_counts) (v_t_operations := v_t_operations) (v_t_elements := v_t_elements) (v_t_newSorts := v_t_newSorts) (v_t_newCounts := (.ref h_t_newCounts)) (v_t_newOperations := (.ref h_t_newOperations)) (v_t_failed := v_t_failed) (v_t_failedCount := v_t_failedCount) (v_t_keeps := v_t_keeps) (v_t_some := v_t_some) (v_t_repairedRows := v_t_repairedRows) (v_t_repairedColumns := v_t_repairedColumns) (v_t_proof := v_t_proof) (n_t_tape := n_t_tape) (t_tapeSize := t_tapeSize) (t_place := s1) (t_tape_a := t_tape_a) (sz := H.size) (res := q112_5) (hf := hc)) w_390 w_391 w_392 w_393 w_394 (by decide +kernel) rfl rfl ⟨Nat.le_of_ble_eq_true rfl, Nat.le_of_ble_eq_true rfl⟩ hP hD hS hA [0, 1] [2, 3] rfl rfl (by decide) (by decide) (by decide) (ci := 1) 0 rfl rfl hl.1 rfl rfl (lv_room (Nat.le_of_ble_eq_true rfl)) d_RF_readOperations_112 ⟨Nat.le_of_ble_eq_true rfl, Nat.le_of_ble_eq_true rfl⟩ (fun o ws' H locs hp hP hD hS => ?_)
    obtain ⟨rfl, rfl⟩ := hp
    have hP : va_P D classes [(h_t, .inr (1, [v_t_thrown, v_t_words, v_t_bits, v_t_cells, v_t_sense, v_t_kinds, v_t_victims, v_t_others, v_t_faults, v_t_toldKinds, v_t_toldVictims, v_t_toldOthers, v_t_told, v_t_ground, v_t_ports, v_t_scrambled, v_t_places, v_t_sorts, v_t_counts, v_t_operations, v_t_elements, v_t_newSorts, .ref h_t_newCounts, .ref h_t_newOperations, .ref h_t_tape, .int t_tapeSize, .int q112_5.2, v_t_failed, v_t_failedCount, v_t_keeps, v_t_some, v_t_repairedRows, v_t_repairedColumns, v_t_proof])), (h_t_tape, .inl (cI, n_t_tape, .inl t_tape_a)), (h_t_newCounts, .inl (cI, n_t_newCounts, .inl t_newCounts_a)), (h_t_newOperations, .inl (cI, n_t_newOperations, .inl t_newOperations_a))] H := hP.sub [2, 3, 0, 1] rfl
    have hD : va_D A [(h_t, .inr (1, [v_t_thrown, v_t_words, v_t_bits, v_t_cells, v_t_sense, v_t_kinds, v_t_victims, v_t_others, v_t_faults, v_t_toldKinds, v_t_toldVictims, v_t_toldOthers, v_t_told, v_t_ground, v_t_ports, v_t_scrambled, v_t_places, v_t_sorts, v_t_counts, v_t_operations, v_t_elements, v_t_newSorts, .ref h_t_newCounts, .ref h_t_newOperations, .ref h_t_tape, .int t_tapeSize, .int q112_5.2, v_t_failed, v_t_failedCount, v_t_keeps, v_t_some, v_t_repairedRows, v_t_repairedColumns, v_t_proof])), (h_t_tape, .inl (cI, n_t_tape, .inl t_tape_a)), (h_t_newCounts, .inl (cI, n_t_newCounts, .inl t_newCounts_a)), (h_t_newOperations, .inl (cI, n_t_newOperations, .inl t_newOperations_a))] := hD.sub [2, 3, 0, 1] (by decide) rfl
    refine lv_goto (tgt := 119) hx hb d_RF_readOperations_115 (by decide) ?_
    exact k_RF_readOperations_119 (s := s) C0 hA hrec45 hf hP hD hS (lv_sub hl [0, 1, 2, 3] rfl)
set_option maxHeartbeats 4000000 in
set_option maxRecDepth 100000 in
theorem k_RF_readOperations_85 {p : Program} {l : Launch} {e : Env} {s : State} {m : MethodId} {args : Array Value} {below : List Frame} {meth : Method} {c : Code} {D : va_G} {cI cB cJ : ClassId} {A : Nat → Prop} (C0 : CX p s m args meth c D [(cI, .int), (cB, .byte), (cJ, .long)] R_RF b_RF_readOperations 7 (some .boolean) "readOperations") (hA : ∀ q, s.heap.size ≤ q → A q) {h_t h_t_tape h_t_newCounts h_t_newOperations : Nat} {v_t_thrown v_t_words v_t_bits v_t_cells v_t_sense v_t_kinds v_t_victims v_t_others v_t_faults v_t_toldKinds v_t_toldVictims v_t_toldOthers v_t_told v_t_ground v_t_ports v_t_scrambled v_t_places v_t_sorts v_t_counts v_t_operations v_t_elements v_t_newSorts v_t_failed v_t_failedCount v_t_keeps v_t_some v_t_repairedRows v_t_repairedColumns v_t_proof : Value} {res : Int32 × Int32 × (Nat → Int32) × (Nat → Int32)} {rec45 : (Int32 × (Nat → Int32) × (Nat → Int32) × Int32 × Int32) → Option (Int32 × Int32 × (Nat → Int32) × (Nat → Int32))} {n_t_tape : Nat} {n_t_newCounts : Nat} {n_t_newOperations : Nat} {t_tapeSize : Int32} {t_place : Int32} {t_tape_a : Nat → Int32} {t_newCounts_a : Nat → Int32} {t_newOperations_a : Nat → Int32} {s0 : Int32} {x1 : Int32} {x4 : Int32}
    (hrec45 : ∀ (st : (Int32 × (Nat → Int32) × (Nat → Int32) × Int32 × Int32)), rec45 st = some res → ∀  (H : Heap) (locs : List Loc) (ls : Array Slot), va_P D classes [(h_t, .inr (1, [v_t_thrown, v_t_words, v_t_bits, v_t_cells, v_t_sense, v_t_kinds, v_t_victims, v_t_others, v_t_faults, v_t_toldKinds, v_t_toldVictims, v_t_toldOthers, v_t_told, v_t_ground, v_t_ports, v_t_scrambled, v_t_places, v_t_sorts, v_t_counts, v_t_operations, v_t_elements, v_t_newSorts, .ref h_t_newCounts, .ref h_t_newOperations, .ref h_t_tape, .int t_tapeSize, .int st.1, v_t_failed, v_t_failedCount, v_t_keeps, v_t_some, v_t_repairedRows, v_t_repairedColumns, v_t_proof])), (h_t_tape, .inl (cI, n_t_tape, .inl t_tape_a)), (h_t_newCounts, .inl (cI, n_t_newCounts, .inl st.2.1)), (h_t_newOperations, .inl (cI, n_t_newOperations, .inl st.2.2.1))] H → va_D A [(h_t, .inr (1, [v_t_thrown, v_t_words, v_t_bits, v_t_cells, v_t_sense, v_t_kinds, v_t_victims, v_t_others, v_t_faults, v_t_toldKinds, v_t_toldVictims, v_t_toldOthers, v_t_told, v_t_ground, v_t_ports, v_t_scrambled, v_t_places, v_t_sorts, v_t_counts, v_t_operations, v_t_elements, v_t_newSorts, .ref h_t_newCounts, .ref h_t_newOperations, .ref h_t_tape, .int t_tapeSize, .int st.1, v_t_failed, v_t_failedCount, v_t_keeps, v_t_some, v_t_repairedRows, v_t_repairedColumns, v_t_proof])), (h_t_tape, .inl (cI, n_t_tape, .inl t_tape_a)), (h_t_newCounts, .inl (cI, n_t_newCounts, .inl st.2.1)), (h_t_newOperations, .inl (cI, n_t_newOperations, .inl st.2.2.1))] → va_S A s.heap H locs → lv_has ls 7 [(0, .ref h_t), (1, .int x1), (2, .int st.2.2.2.1), (3, .int st.2.2.2.2)] → W p l e rm_RF_readOperations s m args below meth c H locs 0 0 (MQ below (QW D (post_RF_readOperations h_t h_t_tape h_t_newCounts h_t_newOperations v_t_thrown v_t_words v_t_bits v_t_cells v_t_sense v_t_kinds v_t_victims v_t_others v_t_faults v_t_toldKinds v_t_toldVictims v_t_toldOthers v_t_told v_t_ground v_t_ports v_t_scrambled v_t_places v_t_sorts v_t_counts v_t_operations v_t_elements v_t_newSorts v_t_failed v_t_failedCount v_t_keeps v_t_some v_t_repairedRows v_t_repairedColumns v_t_proof n_t_tape n_t_newCounts n_t_newOperations t_tapeSize t_tape_a cI cB cJ res) A) args s 0 0 A) (F0 m 45 ls []))
    (hf : f_RF_readOperations_85 n_t_tape n_t_newCounts n_t_newOperations t_tapeSize t_place t_tape_a t_newCounts_a t_newOperations_a s0 x1 x4 rec45 = some res) {H : Heap} {locs : List Loc} {ls : Array Slot} (hP : va_P D classes [(h_t, .inr (1, [v_t_thrown, v_t_words, v_t_bits, v_t_cells, v_t_sense, v_t_kinds, v_t_victims, v_t_others, v_t_faults, v_t_toldKinds, v_t_toldVictims, v_t_toldOthers, v_t_told, v_t_ground, v_t_ports, v_t_scrambled, v_t_places, v_t_sorts, v_t_counts, v_t_operations, v_t_elements, v_t_newSorts, .ref h_t_newCounts, .ref h_t_newOperations, .ref h_t_tape, .int t_tapeSize, .int t_place, v_t_failed, v_t_failedCount, v_t_keeps, v_t_some, v_t_repairedRows, v_t_repairedColumns, v_t_proof])), (h_t_tape, .inl (cI, n_t_tape, .inl t_tape_a)), (h_t_newCounts, .inl (cI, n_t_newCounts, .inl t_newCounts_a)), (h_t_newOperations, .inl (cI, n_t_newOperations, .inl t_newOperations_a))] H) (hD : va_D A [(h_t, .inr (1, [v_t_thrown, v_t_words, v_t_bits, v_t_cells, v_t_sense, v_t_kinds, v_t_victims, v_t_others, v_t_faults, v_t_toldKinds, v_t_toldVictims, v_t_toldOthers, v_t_told, v_t_ground, v_t_ports, v_t_scrambled, v_t_places, v_t_sorts, v_t_counts, v_t_operations, v_t_elements, v_t_newSorts, .ref h_t_newCounts, .ref h_t_newOperations, .ref h_t_tape, .int t_tapeSize, .int t_place, v_t_failed, v_t_failedCount, v_t_keeps, v_t_some, v_t_repairedRows, v_t_repairedColumns, v_t_proof])), (h_t_tape, .inl (cI, n_t_tape, .inl t_tape_a)), (h_t_newCounts, .inl (cI, n_t_newCounts, .inl t_newCounts_a)), (h_t_newOperations, .inl (cI, n_t_newOperations, .inl t_newOperations_a))]) (hS : va_S A s.heap H locs) (hl : lv_has ls 7 [(0, .ref h_t), (1, .int x1), (4, .int x4)]) : W p l e rm_RF_readOperations s m args below meth c H locs 0 0 (MQ below (QW D (post_RF_readOperations h_t h_t_tape h_t_newCounts h_t_newOperations v_t_thrown v_t_words v_t_bits v_t_cells v_t_sense v_t_kinds v_t_victims v_t_others v_t_faults v_t_toldKinds v_t_toldVictims v_t_toldOthers v_t_told v_t_ground v_t_ports v_t_scrambled v_t_places v_t_sorts v_t_counts v_t_operations v_t_elements v_t_newSorts v_t_failed v_t_failedCount v_t_keeps v_t_some v_t_repairedRows v_t_repairedColumns v_t_proof n_t_tape n_t_newCounts n_t_newOperations t_tapeSize t_tape_a cI cB cJ res) A) args s 0 0 A) (F0 m 85 ls [.int s0]) := by
  obtain ⟨hx, hb, hml, hr, hlocks, hts, hown, hK, hin⟩ := id C0
  have hf : (((
  (if s0 = 0 then
    (f_RF_readOperations_104 n_t_tape n_t_newCounts n_t_newOperations t_tapeSize t_tape_a t_newCounts_a t_newOperations_a t_place x1 s0 x4 rec45)
  else
    (f_RF_readOperations_104 n_t_tape n_t_newCounts n_t_newOperations t_tapeSize t_tape_a t_newCounts_a t_newOperations_a (t_place + 1) x1 s0 x4 rec45)))) : Option (Int32 × Int32 × (Nat → Int32) × (Nat → Int32))) = some res := hf
  refine lv_istore_n (lv' := [(3, .int s0), (0, .ref h_t), (1, .int x1), (4, .int x4)]) hx hb d_RF_readOperations_85 rfl hl (by decide) rfl (fun ls hl => ?_)
  refine lv_aload_n hx hb d_RF_readOperations_86 rfl (lv_at hl 1 rfl) ?_
  refine lv_iload_n hx hb d_RF_readOperations_87 rfl (lv_at hl 0 rfl) ?_
  refine lv_if_eq (tgt := 100) hx hb d_RF_readOperations_88 (by decide) (fun cc88 => ?_) (fun cc88 => ?_)
  · have hf := ifT cc88 hf
    refine lv_aload_n hx hb d_RF_readOperations_100 rfl (lv_at hl 1 rfl) ?_
    refine va_get (D := D) (ci := 1) (v := .int t_place) (C := R_RF) (T := F_RF) (N := 34) hx hb hts i_RF hown hK.1 hP 0 rfl rfl 26 (by decide) (hts _ w_389) (fun _ h9 => h9) rfl d_RF_readOperations_101 ?_
    exact k_RF_readOperations_104 (s := s) C0 hA hrec45 hf hP hD hS (lv_sub hl [1, 2, 0, 3] rfl)
  · have hf := ifF cc88 hf
    refine lv_aload_n hx hb d_RF_readOperations_91 rfl (lv_at hl 1 rfl) ?_
    refine va_get (D := D) (ci := 1) (v := .int t_place) (C := R_RF) (T := F_RF) (N := 34) hx hb hts i_RF hown hK.1 hP 0 rfl rfl 26 (by decide) (hts _ w_389) (fun _ h9 => h9) rfl d_RF_readOperations_92 ?_
    refine lv_iconst (v := 1) hx hb d_RF_readOperations_95 (by decide) ?_
    refine lv_iadd hx hb d_RF_readOperations_96 ?_
    refine lv_goto (tgt := 104) hx hb d_RF_readOperations_97 (by decide) ?_
    exact k_RF_readOperations_104 (s := s) C0 hA hrec45 hf hP hD hS (lv_sub hl [1, 2, 0, 3] rfl)
set_option maxHeartbeats 4000000 in
set_option maxRecDepth 100000 in
theorem k_RF_readOperations_84 {p : Program} {l : Launch} {e : Env} {s : State} {m : MethodId} {args : Array Value} {below : List Frame} {meth : Method} {c : Code} {D : va_G} {cI cB cJ : ClassId} {A : Nat → Prop} (C0 : CX p s m args meth c D [(cI, .int), (cB, .byte), (cJ, .long)] R_RF b_RF_readOperations 7 (some .boolean) "readOperations") (hA : ∀ q, s.heap.size ≤ q → A q) {h_t h_t_tape h_t_newCounts h_t_newOperations : Nat} {v_t_thrown v_t_words v_t_bits v_t_cells v_t_sense v_t_kinds v_t_victims v_t_others v_t_faults v_t_toldKinds v_t_toldVictims v_t_toldOthers v_t_told v_t_ground v_t_ports v_t_scrambled v_t_places v_t_sorts v_t_counts v_t_operations v_t_elements v_t_newSorts v_t_failed v_t_failedCount v_t_keeps v_t_some v_t_repairedRows v_t_repairedColumns v_t_proof : Value} {res : Int32 × Int32 × (Nat → Int32) × (Nat → Int32)} {rec45 : (Int32 × (Nat → Int32) × (Nat → Int32) × Int32 × Int32) → Option (Int32 × Int32 × (Nat → Int32) × (Nat → Int32))} {n_t_tape : Nat} {n_t_newCounts : Nat} {n_t_newOperations : Nat} {t_tapeSize : Int32} {t_place : Int32} {t_tape_a : Nat → Int32} {t_newCounts_a : Nat → Int32} {t_newOperations_a : Nat → Int32} {x1 : Int32} {x4 : Int32}
    (hrec45 : ∀ (st : (Int32 × (Nat → Int32) × (Nat → Int32) × Int32 × Int32)), rec45 st = some res → ∀  (H : Heap) (locs : List Loc) (ls : Array Slot), va_P D classes [(h_t, .inr (1, [v_t_thrown, v_t_words, v_t_bits, v_t_cells, v_t_sense, v_t_kinds, v_t_victims, v_t_others, v_t_faults, v_t_toldKinds, v_t_toldVictims, v_t_toldOthers, v_t_told, v_t_ground, v_t_ports, v_t_scrambled, v_t_places, v_t_sorts, v_t_counts, v_t_operations, v_t_elements, v_t_newSorts, .ref h_t_newCounts, .ref h_t_newOperations, .ref h_t_tape, .int t_tapeSize, .int st.1, v_t_failed, v_t_failedCount, v_t_keeps, v_t_some, v_t_repairedRows, v_t_repairedColumns, v_t_proof])), (h_t_tape, .inl (cI, n_t_tape, .inl t_tape_a)), (h_t_newCounts, .inl (cI, n_t_newCounts, .inl st.2.1)), (h_t_newOperations, .inl (cI, n_t_newOperations, .inl st.2.2.1))] H → va_D A [(h_t, .inr (1, [v_t_thrown, v_t_words, v_t_bits, v_t_cells, v_t_sense, v_t_kinds, v_t_victims, v_t_others, v_t_faults, v_t_toldKinds, v_t_toldVictims, v_t_toldOthers, v_t_told, v_t_ground, v_t_ports, v_t_scrambled, v_t_places, v_t_sorts, v_t_counts, v_t_operations, v_t_elements, v_t_newSorts, .ref h_t_newCounts, .ref h_t_newOperations, .ref h_t_tape, .int t_tapeSize, .int st.1, v_t_failed, v_t_failedCount, v_t_keeps, v_t_some, v_t_repairedRows, v_t_repairedColumns, v_t_proof])), (h_t_tape, .inl (cI, n_t_tape, .inl t_tape_a)), (h_t_newCounts, .inl (cI, n_t_newCounts, .inl st.2.1)), (h_t_newOperations, .inl (cI, n_t_newOperations, .inl st.2.2.1))] → va_S A s.heap H locs → lv_has ls 7 [(0, .ref h_t), (1, .int x1), (2, .int st.2.2.2.1), (3, .int st.2.2.2.2)] → W p l e rm_RF_readOperations s m args below meth c H locs 0 0 (MQ below (QW D (post_RF_readOperations h_t h_t_tape h_t_newCounts h_t_newOperations v_t_thrown v_t_words v_t_bits v_t_cells v_t_sense v_t_kinds v_t_victims v_t_others v_t_faults v_t_toldKinds v_t_toldVictims v_t_toldOthers v_t_told v_t_ground v_t_ports v_t_scrambled v_t_places v_t_sorts v_t_counts v_t_operations v_t_elements v_t_newSorts v_t_failed v_t_failedCount v_t_keeps v_t_some v_t_repairedRows v_t_repairedColumns v_t_proof n_t_tape n_t_newCounts n_t_newOperations t_tapeSize t_tape_a cI cB cJ res) A) args s 0 0 A) (F0 m 45 ls []))
    (hf : f_RF_readOperations_84 n_t_tape n_t_newCounts n_t_newOperations t_tapeSize t_place t_tape_a t_newCounts_a t_newOperations_a x1 x4 rec45 = some res) {H : Heap} {locs : List Loc} {ls : Array Slot} (hP : va_P D classes [(h_t, .inr (1, [v_t_thrown, v_t_words, v_t_bits, v_t_cells, v_t_sense, v_t_kinds, v_t_victims, v_t_others, v_t_faults, v_t_toldKinds, v_t_toldVictims, v_t_toldOthers, v_t_told, v_t_ground, v_t_ports, v_t_scrambled, v_t_places, v_t_sorts, v_t_counts, v_t_operations, v_t_elements, v_t_newSorts, .ref h_t_newCounts, .ref h_t_newOperations, .ref h_t_tape, .int t_tapeSize, .int t_place, v_t_failed, v_t_failedCount, v_t_keeps, v_t_some, v_t_repairedRows, v_t_repairedColumns, v_t_proof])), (h_t_tape, .inl (cI, n_t_tape, .inl t_tape_a)), (h_t_newCounts, .inl (cI, n_t_newCounts, .inl t_newCounts_a)), (h_t_newOperations, .inl (cI, n_t_newOperations, .inl t_newOperations_a))] H) (hD : va_D A [(h_t, .inr (1, [v_t_thrown, v_t_words, v_t_bits, v_t_cells, v_t_sense, v_t_kinds, v_t_victims, v_t_others, v_t_faults, v_t_toldKinds, v_t_toldVictims, v_t_toldOthers, v_t_told, v_t_ground, v_t_ports, v_t_scrambled, v_t_places, v_t_sorts, v_t_counts, v_t_operations, v_t_elements, v_t_newSorts, .ref h_t_newCounts, .ref h_t_newOperations, .ref h_t_tape, .int t_tapeSize, .int t_place, v_t_failed, v_t_failedCount, v_t_keeps, v_t_some, v_t_repairedRows, v_t_repairedColumns, v_t_proof])), (h_t_tape, .inl (cI, n_t_tape, .inl t_tape_a)), (h_t_newCounts, .inl (cI, n_t_newCounts, .inl t_newCounts_a)), (h_t_newOperations, .inl (cI, n_t_newOperations, .inl t_newOperations_a))]) (hS : va_S A s.heap H locs) (hl : lv_has ls 7 [(0, .ref h_t), (1, .int x1), (4, .int x4)]) : W p l e rm_RF_readOperations s m args below meth c H locs 0 0 (MQ below (QW D (post_RF_readOperations h_t h_t_tape h_t_newCounts h_t_newOperations v_t_thrown v_t_words v_t_bits v_t_cells v_t_sense v_t_kinds v_t_victims v_t_others v_t_faults v_t_toldKinds v_t_toldVictims v_t_toldOthers v_t_told v_t_ground v_t_ports v_t_scrambled v_t_places v_t_sorts v_t_counts v_t_operations v_t_elements v_t_newSorts v_t_failed v_t_failedCount v_t_keeps v_t_some v_t_repairedRows v_t_repairedColumns v_t_proof n_t_tape n_t_newCounts n_t_newOperations t_tapeSize t_tape_a cI cB cJ res) A) args s 0 0 A) (F0 m 84 ls []) := by
  obtain ⟨hx, hb, hml, hr, hlocks, hts, hown, hK, hin⟩ := id C0
  have hf : (((
  (f_RF_readOperations_85 n_t_tape n_t_newCounts n_t_newOperations t_tapeSize t_place t_tape_a t_newCounts_a t_newOperations_a 0 x1 x4 rec45))) : Option (Int32 × Int32 × (Nat → Int32) × (Nat → Int32))) = some res := hf
  refine lv_iconst (v := 0) hx hb d_RF_readOperations_84 (by decide) ?_
  exact k_RF_readOperations_85 (s := s) C0 hA hrec45 hf hP hD hS (lv_sub hl [0, 1, 2] rfl)
set_option maxHeartbeats 4000000 in
set_option maxRecDepth 100000 in
theorem k_RF_readOperations_69 {p : Program} {l : Launch} {e : Env} {s : State} {m : MethodId} {args : Array Value} {below : List Frame} {meth : Method} {c : Code} {D : va_G} {cI cB cJ : ClassId} {A : Nat → Prop} (C0 : CX p s m args meth c D [(cI, .int), (cB, .byte), (cJ, .long)] R_RF b_RF_readOperations 7 (some .boolean) "readOperations") (hA : ∀ q, s.heap.size ≤ q → A q) {h_t h_t_tape h_t_newCounts h_t_newOperations : Nat} {v_t_thrown v_t_words v_t_bits v_t_cells v_t_sense v_t_kinds v_t_victims v_t_others v_t_faults v_t_toldKinds v_t_toldVictims v_t_toldOthers v_t_told v_t_ground v_t_ports v_t_scrambled v_t_places v_t_sorts v_t_counts v_t_operations v_t_elements v_t_newSorts v_t_failed v_t_failedCount v_t_keeps v_t_some v_t_repairedRows v_t_repairedColumns v_t_proof : Value} {res : Int32 × Int32 × (Nat → Int32) × (Nat → Int32)} {rec45 : (Int32 × (Nat → Int32) × (Nat → Int32) × Int32 × Int32) → Option (Int32 × Int32 × (Nat → Int32) × (Nat → Int32))} {n_t_tape : Nat} {n_t_newCounts : Nat} {n_t_newOperations : Nat} {t_tapeSize : Int32} {t_place : Int32} {t_tape_a : Nat → Int32} {t_newCounts_a : Nat → Int32} {t_newOperations_a : Nat → Int32} {x1 : Int32} {x4 : Int32}
    (hrec45 : ∀ (st : (Int32 × (Nat → Int32) × (Nat → Int32) × Int32 × Int32)), rec45 st = some res → ∀  (H : Heap) (locs : List Loc) (ls : Array Slot), va_P D classes [(h_t, .inr (1, [v_t_thrown, v_t_words, v_t_bits, v_t_cells, v_t_sense, v_t_kinds, v_t_victims, v_t_others, v_t_faults, v_t_toldKinds, v_t_toldVictims, v_t_toldOthers, v_t_told, v_t_ground, v_t_ports, v_t_scrambled, v_t_places, v_t_sorts, v_t_counts, v_t_operations, v_t_elements, v_t_newSorts, .ref h_t_newCounts, .ref h_t_newOperations, .ref h_t_tape, .int t_tapeSize, .int st.1, v_t_failed, v_t_failedCount, v_t_keeps, v_t_some, v_t_repairedRows, v_t_repairedColumns, v_t_proof])), (h_t_tape, .inl (cI, n_t_tape, .inl t_tape_a)), (h_t_newCounts, .inl (cI, n_t_newCounts, .inl st.2.1)), (h_t_newOperations, .inl (cI, n_t_newOperations, .inl st.2.2.1))] H → va_D A [(h_t, .inr (1, [v_t_thrown, v_t_words, v_t_bits, v_t_cells, v_t_sense, v_t_kinds, v_t_victims, v_t_others, v_t_faults, v_t_toldKinds, v_t_toldVictims, v_t_toldOthers, v_t_told, v_t_ground, v_t_ports, v_t_scrambled, v_t_places, v_t_sorts, v_t_counts, v_t_operations, v_t_elements, v_t_newSorts, .ref h_t_newCounts, .ref h_t_newOperations, .ref h_t_tape, .int t_tapeSize, .int st.1, v_t_failed, v_t_failedCount, v_t_keeps, v_t_some, v_t_repairedRows, v_t_repairedColumns, v_t_proof])), (h_t_tape, .inl (cI, n_t_tape, .inl t_tape_a)), (h_t_newCounts, .inl (cI, n_t_newCounts, .inl st.2.1)), (h_t_newOperations, .inl (cI, n_t_newOperations, .inl st.2.2.1))] → va_S A s.heap H locs → lv_has ls 7 [(0, .ref h_t), (1, .int x1), (2, .int st.2.2.2.1), (3, .int st.2.2.2.2)] → W p l e rm_RF_readOperations s m args below meth c H locs 0 0 (MQ below (QW D (post_RF_readOperations h_t h_t_tape h_t_newCounts h_t_newOperations v_t_thrown v_t_words v_t_bits v_t_cells v_t_sense v_t_kinds v_t_victims v_t_others v_t_faults v_t_toldKinds v_t_toldVictims v_t_toldOthers v_t_told v_t_ground v_t_ports v_t_scrambled v_t_places v_t_sorts v_t_counts v_t_operations v_t_elements v_t_newSorts v_t_failed v_t_failedCount v_t_keeps v_t_some v_t_repairedRows v_t_repairedColumns v_t_proof n_t_tape n_t_newCounts n_t_newOperations t_tapeSize t_tape_a cI cB cJ res) A) args s 0 0 A) (F0 m 45 ls []))
    (hf : f_RF_readOperations_69 n_t_tape n_t_newCounts n_t_newOperations t_tapeSize t_place t_tape_a t_newCounts_a t_newOperations_a x1 x4 rec45 = some res) {H : Heap} {locs : List Loc} {ls : Array Slot} (hP : va_P D classes [(h_t, .inr (1, [v_t_thrown, v_t_words, v_t_bits, v_t_cells, v_t_sense, v_t_kinds, v_t_victims, v_t_others, v_t_faults, v_t_toldKinds, v_t_toldVictims, v_t_toldOthers, v_t_told, v_t_ground, v_t_ports, v_t_scrambled, v_t_places, v_t_sorts, v_t_counts, v_t_operations, v_t_elements, v_t_newSorts, .ref h_t_newCounts, .ref h_t_newOperations, .ref h_t_tape, .int t_tapeSize, .int t_place, v_t_failed, v_t_failedCount, v_t_keeps, v_t_some, v_t_repairedRows, v_t_repairedColumns, v_t_proof])), (h_t_tape, .inl (cI, n_t_tape, .inl t_tape_a)), (h_t_newCounts, .inl (cI, n_t_newCounts, .inl t_newCounts_a)), (h_t_newOperations, .inl (cI, n_t_newOperations, .inl t_newOperations_a))] H) (hD : va_D A [(h_t, .inr (1, [v_t_thrown, v_t_words, v_t_bits, v_t_cells, v_t_sense, v_t_kinds, v_t_victims, v_t_others, v_t_faults, v_t_toldKinds, v_t_toldVictims, v_t_toldOthers, v_t_told, v_t_ground, v_t_ports, v_t_scrambled, v_t_places, v_t_sorts, v_t_counts, v_t_operations, v_t_elements, v_t_newSorts, .ref h_t_newCounts, .ref h_t_newOperations, .ref h_t_tape, .int t_tapeSize, .int t_place, v_t_failed, v_t_failedCount, v_t_keeps, v_t_some, v_t_repairedRows, v_t_repairedColumns, v_t_proof])), (h_t_tape, .inl (cI, n_t_tape, .inl t_tape_a)), (h_t_newCounts, .inl (cI, n_t_newCounts, .inl t_newCounts_a)), (h_t_newOperations, .inl (cI, n_t_newOperations, .inl t_newOperations_a))]) (hS : va_S A s.heap H locs) (hl : lv_has ls 7 [(0, .ref h_t), (1, .int x1), (4, .int x4)]) : W p l e rm_RF_readOperations s m args below meth c H locs 0 0 (MQ below (QW D (post_RF_readOperations h_t h_t_tape h_t_newCounts h_t_newOperations v_t_thrown v_t_words v_t_bits v_t_cells v_t_sense v_t_kinds v_t_victims v_t_others v_t_faults v_t_toldKinds v_t_toldVictims v_t_toldOthers v_t_told v_t_ground v_t_ports v_t_scrambled v_t_places v_t_sorts v_t_counts v_t_operations v_t_elements v_t_newSorts v_t_failed v_t_failedCount v_t_keeps v_t_some v_t_repairedRows v_t_repairedColumns v_t_proof n_t_tape n_t_newCounts n_t_newOperations t_tapeSize t_tape_a cI cB cJ res) A) args s 0 0 A) (F0 m 69 ls []) := by
  obtain ⟨hx, hb, hml, hr, hlocks, hts, hown, hK, hin⟩ := id C0
  have hf : (((
  (if inB x1 n_t_newCounts = true then
  (if 8 ≤ (t_newCounts_a (Int32.toNatClampNeg x1)) then
    (f_RF_readOperations_84 n_t_tape n_t_newCounts n_t_newOperations t_tapeSize t_place t_tape_a t_newCounts_a t_newOperations_a x1 x4 rec45)
  else
    (f_RF_readOperations_85 n_t_tape n_t_newCounts n_t_newOperations t_tapeSize t_place t_tape_a t_newCounts_a t_newOperations_a 1 x1 x4 rec45))
  else none))) : Option (Int32 × Int32 × (Nat → Int32) × (Nat → Int32))) = some res := hf
  refine lv_aload_n hx hb d_RF_readOperations_69 rfl (lv_at hl 0 rfl) ?_
  refine va_get (D := D) (ci := 1) (v := .ref h_t_newCounts) (C := R_RF) (T := F_RF) (N := 34) hx hb hts i_RF hown hK.1 hP 0 rfl rfl 22 (by decide) (hts _ w_380) (fun _ h9 => h9) rfl d_RF_readOperations_70 ?_
  refine lv_iload_n hx hb d_RF_readOperations_73 rfl (lv_at hl 1 rfl) ?_
  obtain ⟨hin1, hf⟩ := ifG hf
  refine va_iald hx hb hK.1 hP 2 0 rfl rfl (inB_in hin1) d_RF_readOperations_74 ?_
  refine lv_bipush (v := 8) hx hb d_RF_readOperations_75 (by decide) ?_
  refine lv_icmp_ge (tgt := 84) hx hb d_RF_readOperations_77 (by decide) (fun cc77 => ?_) (fun cc77 => ?_)
  · have hf := ifT cc77 hf
    exact k_RF_readOperations_84 (s := s) C0 hA hrec45 hf hP hD hS (lv_sub hl [0, 1, 2] rfl)
  · have hf := ifF cc77 hf
    refine lv_iconst (v := 1) hx hb d_RF_readOperations_80 (by decide) ?_
    refine lv_goto (tgt := 85) hx hb d_RF_readOperations_81 (by decide) ?_
    exact k_RF_readOperations_85 (s := s) C0 hA hrec45 hf hP hD hS (lv_sub hl [0, 1, 2] rfl)
set_option maxHeartbeats 4000000 in
set_option maxRecDepth 100000 in
theorem kb_RF_readOperations_45 {p : Program} {l : Launch} {e : Env} {s : State} {m : MethodId} {args : Array Value} {below : List Frame} {meth : Method} {c : Code} {D : va_G} {cI cB cJ : ClassId} {A : Nat → Prop} (C0 : CX p s m args meth c D [(cI, .int), (cB, .byte), (cJ, .long)] R_RF b_RF_readOperations 7 (some .boolean) "readOperations") (hA : ∀ q, s.heap.size ≤ q → A q) {h_t h_t_tape h_t_newCounts h_t_newOperations : Nat} {v_t_thrown v_t_words v_t_bits v_t_cells v_t_sense v_t_kinds v_t_victims v_t_others v_t_faults v_t_toldKinds v_t_toldVictims v_t_toldOthers v_t_told v_t_ground v_t_ports v_t_scrambled v_t_places v_t_sorts v_t_counts v_t_operations v_t_elements v_t_newSorts v_t_failed v_t_failedCount v_t_keeps v_t_some v_t_repairedRows v_t_repairedColumns v_t_proof : Value} {res : Int32 × Int32 × (Nat → Int32) × (Nat → Int32)} {rec45 : (Int32 × (Nat → Int32) × (Nat → Int32) × Int32 × Int32) → Option (Int32 × Int32 × (Nat → Int32) × (Nat → Int32))} {n_t_tape : Nat} {n_t_newCounts : Nat} {n_t_newOperations : Nat} {t_tapeSize : Int32} {t_place : Int32} {t_tape_a : Nat → Int32} {t_newCounts_a : Nat → Int32} {t_newOperations_a : Nat → Int32} {x1 : Int32} {x2 : Int32} {x3 : Int32}
    (hrec45 : ∀ (st : (Int32 × (Nat → Int32) × (Nat → Int32) × Int32 × Int32)), rec45 st = some res → ∀  (H : Heap) (locs : List Loc) (ls : Array Slot), va_P D classes [(h_t, .inr (1, [v_t_thrown, v_t_words, v_t_bits, v_t_cells, v_t_sense, v_t_kinds, v_t_victims, v_t_others, v_t_faults, v_t_toldKinds, v_t_toldVictims, v_t_toldOthers, v_t_told, v_t_ground, v_t_ports, v_t_scrambled, v_t_places, v_t_sorts, v_t_counts, v_t_operations, v_t_elements, v_t_newSorts, .ref h_t_newCounts, .ref h_t_newOperations, .ref h_t_tape, .int t_tapeSize, .int st.1, v_t_failed, v_t_failedCount, v_t_keeps, v_t_some, v_t_repairedRows, v_t_repairedColumns, v_t_proof])), (h_t_tape, .inl (cI, n_t_tape, .inl t_tape_a)), (h_t_newCounts, .inl (cI, n_t_newCounts, .inl st.2.1)), (h_t_newOperations, .inl (cI, n_t_newOperations, .inl st.2.2.1))] H → va_D A [(h_t, .inr (1, [v_t_thrown, v_t_words, v_t_bits, v_t_cells, v_t_sense, v_t_kinds, v_t_victims, v_t_others, v_t_faults, v_t_toldKinds, v_t_toldVictims, v_t_toldOthers, v_t_told, v_t_ground, v_t_ports, v_t_scrambled, v_t_places, v_t_sorts, v_t_counts, v_t_operations, v_t_elements, v_t_newSorts, .ref h_t_newCounts, .ref h_t_newOperations, .ref h_t_tape, .int t_tapeSize, .int st.1, v_t_failed, v_t_failedCount, v_t_keeps, v_t_some, v_t_repairedRows, v_t_repairedColumns, v_t_proof])), (h_t_tape, .inl (cI, n_t_tape, .inl t_tape_a)), (h_t_newCounts, .inl (cI, n_t_newCounts, .inl st.2.1)), (h_t_newOperations, .inl (cI, n_t_newOperations, .inl st.2.2.1))] → va_S A s.heap H locs → lv_has ls 7 [(0, .ref h_t), (1, .int x1), (2, .int st.2.2.2.1), (3, .int st.2.2.2.2)] → W p l e rm_RF_readOperations s m args below meth c H locs 0 0 (MQ below (QW D (post_RF_readOperations h_t h_t_tape h_t_newCounts h_t_newOperations v_t_thrown v_t_words v_t_bits v_t_cells v_t_sense v_t_kinds v_t_victims v_t_others v_t_faults v_t_toldKinds v_t_toldVictims v_t_toldOthers v_t_told v_t_ground v_t_ports v_t_scrambled v_t_places v_t_sorts v_t_counts v_t_operations v_t_elements v_t_newSorts v_t_failed v_t_failedCount v_t_keeps v_t_some v_t_repairedRows v_t_repairedColumns v_t_proof n_t_tape n_t_newCounts n_t_newOperations t_tapeSize t_tape_a cI cB cJ res) A) args s 0 0 A) (F0 m 45 ls []))
    (hf : g_RF_readOperations_45 n_t_tape n_t_newCounts n_t_newOperations t_tapeSize t_tape_a x1 rec45 (t_place, t_newCounts_a, t_newOperations_a, x2, x3) = some res) {H : Heap} {locs : List Loc} {ls : Array Slot} (hP : va_P D classes [(h_t, .inr (1, [v_t_thrown, v_t_words, v_t_bits, v_t_cells, v_t_sense, v_t_kinds, v_t_victims, v_t_others, v_t_faults, v_t_toldKinds, v_t_toldVictims, v_t_toldOthers, v_t_told, v_t_ground, v_t_ports, v_t_scrambled, v_t_places, v_t_sorts, v_t_counts, v_t_operations, v_t_elements, v_t_newSorts, .ref h_t_newCounts, .ref h_t_newOperations, .ref h_t_tape, .int t_tapeSize, .int t_place, v_t_failed, v_t_failedCount, v_t_keeps, v_t_some, v_t_repairedRows, v_t_repairedColumns, v_t_proof])), (h_t_tape, .inl (cI, n_t_tape, .inl t_tape_a)), (h_t_newCounts, .inl (cI, n_t_newCounts, .inl t_newCounts_a)), (h_t_newOperations, .inl (cI, n_t_newOperations, .inl t_newOperations_a))] H) (hD : va_D A [(h_t, .inr (1, [v_t_thrown, v_t_words, v_t_bits, v_t_cells, v_t_sense, v_t_kinds, v_t_victims, v_t_others, v_t_faults, v_t_toldKinds, v_t_toldVictims, v_t_toldOthers, v_t_told, v_t_ground, v_t_ports, v_t_scrambled, v_t_places, v_t_sorts, v_t_counts, v_t_operations, v_t_elements, v_t_newSorts, .ref h_t_newCounts, .ref h_t_newOperations, .ref h_t_tape, .int t_tapeSize, .int t_place, v_t_failed, v_t_failedCount, v_t_keeps, v_t_some, v_t_repairedRows, v_t_repairedColumns, v_t_proof])), (h_t_tape, .inl (cI, n_t_tape, .inl t_tape_a)), (h_t_newCounts, .inl (cI, n_t_newCounts, .inl t_newCounts_a)), (h_t_newOperations, .inl (cI, n_t_newOperations, .inl t_newOperations_a))]) (hS : va_S A s.heap H locs) (hl : lv_has ls 7 [(0, .ref h_t), (1, .int x1), (2, .int x2), (3, .int x3)]) : W p l e rm_RF_readOperations s m args below meth c H locs 0 0 (MQ below (QW D (post_RF_readOperations h_t h_t_tape h_t_newCounts h_t_newOperations v_t_thrown v_t_words v_t_bits v_t_cells v_t_sense v_t_kinds v_t_victims v_t_others v_t_faults v_t_toldKinds v_t_toldVictims v_t_toldOthers v_t_told v_t_ground v_t_ports v_t_scrambled v_t_places v_t_sorts v_t_counts v_t_operations v_t_elements v_t_newSorts v_t_failed v_t_failedCount v_t_keeps v_t_some v_t_repairedRows v_t_repairedColumns v_t_proof n_t_tape n_t_newCounts n_t_newOperations t_tapeSize t_tape_a cI cB cJ res) A) args s 0 0 A) (F0 m 45 ls []) := by
  obtain ⟨hx, hb, hml, hr, hlocks, hts, hown, hK, hin⟩ := id C0
  have hf : (((
  (if x2 = 0 then
    (if x3 = 0 then
      (f_RF_readOperations_286 t_place t_newCounts_a t_newOperations_a)
    else
      (Option.bind (f_RF_next n_t_tape t_tapeSize t_place t_tape_a) fun q274_2 =>
      (if q274_2.1 = 41 then
        some (1, (q274_2.2 + 1), t_newCounts_a, t_newOperations_a)
      else
        (f_RF_readOperations_286 q274_2.2 t_newCounts_a t_newOperations_a))))
  else
    (Option.bind (f_RF_next n_t_tape t_tapeSize t_place t_tape_a) fun q50_3 =>
    (if q50_3.1 = 119 then
      (f_RF_readOperations_69 n_t_tape n_t_newCounts n_t_newOperations t_tapeSize q50_3.2 t_tape_a t_newCounts_a t_newOperations_a x1 q50_3.1 rec45)
    else
      (if q50_3.1 = 114 then
        (f_RF_readOperations_69 n_t_tape n_t_newCounts n_t_newOperations t_tapeSize q50_3.2 t_tape_a t_newCounts_a t_newOperations_a x1 q50_3.1 rec45)
      else
        (f_RF_readOperations_84 n_t_tape n_t_newCounts n_t_newOperations t_tapeSize q50_3.2 t_tape_a t_newCounts_a t_newOperations_a x1 q50_3.1 rec45))))))) : Option (Int32 × Int32 × (Nat → Int32) × (Nat → Int32))) = some res := hf
  refine lv_iload_n hx hb d_RF_readOperations_45 rfl (lv_at hl 2 rfl) ?_
  refine lv_if_eq (tgt := 269) hx hb d_RF_readOperations_46 (by decide) (fun cc46 => ?_) (fun cc46 => ?_)
  · have hf := ifT cc46 hf
    refine lv_iload_n hx hb d_RF_readOperations_269 rfl (lv_at hl 3 rfl) ?_
    refine lv_if_eq (tgt := 286) hx hb d_RF_readOperations_270 (by decide) (fun cc270 => ?_) (fun cc270 => ?_)
    · have hf := ifT cc270 hf
      exact k_RF_readOperations_286 (s := s) C0 hA hf hP hD hS (lv_sub hl [0] rfl)
    · have hf := ifF cc270 hf
      refine lv_aload_n hx hb d_RF_readOperations_273 rfl (lv_at hl 0 rfl) ?_
      obtain ⟨q274_2, hc, hf⟩ := bindS hf
      refine mcV (n := 0) (As := []) (rest := []) (wr := [(h_t_newCounts, .inl (cI, n_t_newCounts, .inl t_newCounts_a)), (h_t_newOperations, .inl (cI, n_t_newOperations, .inl t_newOperations_a))]) hx hb hml hown hts hK (c_RF_next (l := l) (D := D) (cI := cI) (cB := cB) (cJ := cJ) (h_t := h_t) (h_t_tape := h_t_tape) (v_t_thrown := v_t_thrown) (v_t_words := v_t_words) (v_t_bits := v_t_bits) (v_t_cells := v_t_cells) (v_t_sense := v_t_sense) (v_t_kinds := v_t_kinds) (v_t_victims := v_t_victims) (v_t_others := v_t_others) (v_t_faults := v_t_faults) (v_t_toldKinds := v_t_toldKinds) (v_t_toldVictims := v_t_toldVictims) (v_t_toldOthers := v_t_toldOthers) (v_t_told := v_t_told) (v_t_ground := v_t_ground) (v_t_ports := v_t_ports) (v_t_scrambled := v_t_scrambled) (v_t_places := v_t_places) (v_t_sorts := v_t_sorts) (v_t_counts := v_t_counts) (v_t_operations := v_t_operations) (v_t_elements := v_t_elements) (v_t_newSorts := v_t_newSorts) (v_t_newCounts := (.ref h_t_newCounts)) (v_t_newOperations := (.ref h_t_newOperations)) (v_t_failed := v_t_failed) (v_t_failedCount := v_t_failedCount) (v_t_keeps := v_t_keeps) (v_t_some := v_t_some) (v_t_repairedRows := v_t_repairedRows) (v_t_repairedColumns := v_t_repairedColumns) (v_t_proof := v_t_proof) (n_t_tape := n_t_tape) (t_tapeSize := t_tapeSize) (t_place := t_place) (t_tape_a := t_tape_a) (sz := H.size) (res := q274_2) (hf := hc)) w_390 w_391 w_392 w_393 w_394 (by decide +kernel) rfl rfl ⟨Nat.le_of_ble_eq_true rfl, Nat.le_of_ble_eq_true rfl⟩ hP hD hS hA [0, 1] [2, 3] rfl rfl (by decide) (by decide) (by decide) (ci := 1) 0 rfl rfl hl.1 rfl rfl (lv_room (Nat.le_of_ble_eq_true rfl)) d_RF_readOperations_274 ⟨Nat.le_of_ble_eq_true rfl, Nat.le_of_ble_eq_true rfl⟩ (fun o ws' H locs hp hP hD hS => ?_)
      obtain ⟨rfl, rfl⟩ := hp
      have hP : va_P D classes [(h_t, .inr (1, [v_t_thrown, v_t_words, v_t_bits, v_t_cells, v_t_sense, v_t_kinds, v_t_victims, v_t_others, v_t_faults, v_t_toldKinds, v_t_toldVictims, v_t_toldOthers, v_t_told, v_t_ground, v_t_ports, v_t_scrambled, v_t_places, v_t_sorts, v_t_counts, v_t_operations, v_t_elements, v_t_newSorts, .ref h_t_newCounts, .ref h_t_newOperations, .ref h_t_tape, .int t_tapeSize, .int q274_2.2, v_t_failed, v_t_failedCount, v_t_keeps, v_t_some, v_t_repairedRows, v_t_repairedColumns, v_t_proof])), (h_t_tape, .inl (cI, n_t_tape, .inl t_tape_a)), (h_t_newCounts, .inl (cI, n_t_newCounts, .inl t_newCounts_a)), (h_t_newOperations, .inl (cI, n_t_newOperations, .inl t_newOperations_a))] H := hP.sub [2, 3, 0, 1] rfl
      have hD : va_D A [(h_t, .inr (1, [v_t_thrown, v_t_words, v_t_bits, v_t_cells, v_t_sense, v_t_kinds, v_t_victims, v_t_others, v_t_faults, v_t_toldKinds, v_t_toldVictims, v_t_toldOthers, v_t_told, v_t_ground, v_t_ports, v_t_scrambled, v_t_places, v_t_sorts, v_t_counts, v_t_operations, v_t_elements, v_t_newSorts, .ref h_t_newCounts, .ref h_t_newOperations, .ref h_t_tape, .int t_tapeSize, .int q274_2.2, v_t_failed, v_t_failedCount, v_t_keeps, v_t_some, v_t_repairedRows, v_t_repairedColumns, v_t_proof])), (h_t_tape, .inl (cI, n_t_tape, .inl t_tape_a)), (h_t_newCounts, .inl (cI, n_t_newCounts, .inl t_newCounts_a)), (h_t_newOperations, .inl (cI, n_t_newOperations, .inl t_newOperations_a))] := hD.sub [2, 3, 0, 1] (by decide) rfl
      refine lv_bipush (v := 41) hx hb d_RF_readOperations_277 (by decide) ?_
      refine lv_icmp_ne (tgt := 286) hx hb d_RF_readOperations_279 (by decide) (fun cc279 => ?_) (fun cc279 => ?_)
      · have hf := ifF cc279 hf
        exact k_RF_readOperations_286 (s := s) C0 hA hf hP hD hS (lv_sub hl [0] rfl)
      · have hf := ifT cc279 hf
        refine lv_iconst (v := 1) hx hb d_RF_readOperations_282 (by decide) ?_
        refine lv_goto (tgt := 287) hx hb d_RF_readOperations_283 (by decide) ?_
        refine lv_istore_n (lv' := [(3, .int 1), (0, .ref h_t), (1, .int x1), (2, .int x2)]) hx hb d_RF_readOperations_287 rfl hl (by decide) rfl (fun ls hl => ?_)
        refine lv_aload_n hx hb d_RF_readOperations_288 rfl (lv_at hl 1 rfl) ?_
        refine lv_iload_n hx hb d_RF_readOperations_289 rfl (lv_at hl 0 rfl) ?_
        refine lv_if_eq (tgt := 302) hx hb d_RF_readOperations_290 (by decide) (fun cc290 => absurd cc290 (by decide)) (fun cc290 => ?_)
        refine lv_aload_n hx hb d_RF_readOperations_293 rfl (lv_at hl 1 rfl) ?_
        refine va_get (D := D) (ci := 1) (v := .int q274_2.2) (C := R_RF) (T := F_RF) (N := 34) hx hb hts i_RF hown hK.1 hP 0 rfl rfl 26 (by decide) (hts _ w_389) (fun _ h9 => h9) rfl d_RF_readOperations_294 ?_
        refine lv_iconst (v := 1) hx hb d_RF_readOperations_297 (by decide) ?_
        refine lv_iadd hx hb d_RF_readOperations_298 ?_
        refine lv_goto (tgt := 306) hx hb d_RF_readOperations_299 (by decide) ?_
        refine va_put (D := D) (ci := 1) (v := .int (q274_2.2 + 1)) (ty := .int) (C := R_RF) (T := F_RF) (N := 34) hx hb hts i_RF t_RF t_RF_ok n_RF hown hK.1 hP hD hS 0 rfl rfl 26 (by decide) (hts _ w_389) (fun _ h9 => h9) rfl (t_RF_ok 26 (by decide)) rfl rfl (Nat.le_of_ble_eq_true rfl) d_RF_readOperations_306 (fun H locs hP hD hS => ?_)
        have hP : va_P D classes [(h_t, .inr (1, [v_t_thrown, v_t_words, v_t_bits, v_t_cells, v_t_sense, v_t_kinds, v_t_victims, v_t_others, v_t_faults, v_t_toldKinds, v_t_toldVictims, v_t_toldOthers, v_t_told, v_t_ground, v_t_ports, v_t_scrambled, v_t_places, v_t_sorts, v_t_counts, v_t_operations, v_t_elements, v_t_newSorts, .ref h_t_newCounts, .ref h_t_newOperations, .ref h_t_tape, .int t_tapeSize, .int (q274_2.2 + 1), v_t_failed, v_t_failedCount, v_t_keeps, v_t_some, v_t_repairedRows, v_t_repairedColumns, v_t_proof])), (h_t_tape, .inl (cI, n_t_tape, .inl t_tape_a)), (h_t_newCounts, .inl (cI, n_t_newCounts, .inl t_newCounts_a)), (h_t_newOperations, .inl (cI, n_t_newOperations, .inl t_newOperations_a))] H := hP
        have hD : va_D A [(h_t, .inr (1, [v_t_thrown, v_t_words, v_t_bits, v_t_cells, v_t_sense, v_t_kinds, v_t_victims, v_t_others, v_t_faults, v_t_toldKinds, v_t_toldVictims, v_t_toldOthers, v_t_told, v_t_ground, v_t_ports, v_t_scrambled, v_t_places, v_t_sorts, v_t_counts, v_t_operations, v_t_elements, v_t_newSorts, .ref h_t_newCounts, .ref h_t_newOperations, .ref h_t_tape, .int t_tapeSize, .int (q274_2.2 + 1), v_t_failed, v_t_failedCount, v_t_keeps, v_t_some, v_t_repairedRows, v_t_repairedColumns, v_t_proof])), (h_t_tape, .inl (cI, n_t_tape, .inl t_tape_a)), (h_t_newCounts, .inl (cI, n_t_newCounts, .inl t_newCounts_a)), (h_t_newOperations, .inl (cI, n_t_newOperations, .inl t_newOperations_a))] := hD
        refine lv_iload_n hx hb d_RF_readOperations_309 rfl (lv_at hl 0 rfl) ?_
        obtain rfl := Option.some.inj hf
        exact ret_z hx hb hr rfl hlocks hP hD hS ⟨rfl, rfl⟩ d_RF_readOperations_310
  · have hf := ifF cc46 hf
    refine lv_aload_n hx hb d_RF_readOperations_49 rfl (lv_at hl 0 rfl) ?_
    obtain ⟨q50_3, hc, hf⟩ := bindS hf
    refine mcV (n := 0) (As := []) (rest := []) (wr := [(h_t_newCounts, .inl (cI, n_t_newCounts, .inl t_newCounts_a)), (h_t_newOperations, .inl (cI, n_t_newOperations, .inl t_newOperations_a))]) hx hb hml hown hts hK (c_RF_next (l := l) (D := D) (cI := cI) (cB := cB) (cJ := cJ) (h_t := h_t) (h_t_tape := h_t_tape) (v_t_thrown := v_t_thrown) (v_t_words := v_t_words) (v_t_bits := v_t_bits) (v_t_cells := v_t_cells) (v_t_sense := v_t_sense) (v_t_kinds := v_t_kinds) (v_t_victims := v_t_victims) (v_t_others := v_t_others) (v_t_faults := v_t_faults) (v_t_toldKinds := v_t_toldKinds) (v_t_toldVictims := v_t_toldVictims) (v_t_toldOthers := v_t_toldOthers) (v_t_told := v_t_told) (v_t_ground := v_t_ground) (v_t_ports := v_t_ports) (v_t_scrambled := v_t_scrambled) (v_t_places := v_t_places) (v_t_sorts := v_t_sorts) (v_t_counts := v_t_counts) (v_t_operations := v_t_operations) (v_t_elements := v_t_elements) (v_t_newSorts := v_t_newSorts) (v_t_newCounts := (.ref h_t_newCounts)) (v_t_newOperations := (.ref h_t_newOperations)) (v_t_failed := v_t_failed) (v_t_failedCount := v_t_failedCount) (v_t_keeps := v_t_keeps) (v_t_some := v_t_some) (v_t_repairedRows := v_t_repairedRows) (v_t_repairedColumns := v_t_repairedColumns) (v_t_proof := v_t_proof) (n_t_tape := n_t_tape) (t_tapeSize := t_tapeSize) (t_place := t_place) (t_tape_a := t_tape_a) (sz := H.size) (res := q50_3) (hf := hc)) w_390 w_391 w_392 w_393 w_394 (by decide +kernel) rfl rfl ⟨Nat.le_of_ble_eq_true rfl, Nat.le_of_ble_eq_true rfl⟩ hP hD hS hA [0, 1] [2, 3] rfl rfl (by decide) (by decide) (by decide) (ci := 1) 0 rfl rfl hl.1 rfl rfl (lv_room (Nat.le_of_ble_eq_true rfl)) d_RF_readOperations_50 ⟨Nat.le_of_ble_eq_true rfl, Nat.le_of_ble_eq_true rfl⟩ (fun o ws' H locs hp hP hD hS => ?_)
    obtain ⟨rfl, rfl⟩ := hp
    have hP : va_P D classes [(h_t, .inr (1, [v_t_thrown, v_t_words, v_t_bits, v_t_cells, v_t_sense, v_t_kinds, v_t_victims, v_t_others, v_t_faults, v_t_toldKinds, v_t_toldVictims, v_t_toldOthers, v_t_told, v_t_ground, v_t_ports, v_t_scrambled, v_t_places, v_t_sorts, v_t_counts, v_t_operations, v_t_elements, v_t_newSorts, .ref h_t_newCounts, .ref h_t_newOperations, .ref h_t_tape, .int t_tapeSize, .int q50_3.2, v_t_failed, v_t_failedCount, v_t_keeps, v_t_some, v_t_repairedRows, v_t_repairedColumns, v_t_proof])), (h_t_tape, .inl (cI, n_t_tape, .inl t_tape_a)), (h_t_newCounts, .inl (cI, n_t_newCounts, .inl t_newCounts_a)), (h_t_newOperations, .inl (cI, n_t_newOperations, .inl t_newOperations_a))] H := hP.sub [2, 3, 0, 1] rfl
    have hD : va_D A [(h_t, .inr (1, [v_t_thrown, v_t_words, v_t_bits, v_t_cells, v_t_sense, v_t_kinds, v_t_victims, v_t_others, v_t_faults, v_t_toldKinds, v_t_toldVictims, v_t_toldOthers, v_t_told, v_t_ground, v_t_ports, v_t_scrambled, v_t_places, v_t_sorts, v_t_counts, v_t_operations, v_t_elements, v_t_newSorts, .ref h_t_newCounts, .ref h_t_newOperations, .ref h_t_tape, .int t_tapeSize, .int q50_3.2, v_t_failed, v_t_failedCount, v_t_keeps, v_t_some, v_t_repairedRows, v_t_repairedColumns, v_t_proof])), (h_t_tape, .inl (cI, n_t_tape, .inl t_tape_a)), (h_t_newCounts, .inl (cI, n_t_newCounts, .inl t_newCounts_a)), (h_t_newOperations, .inl (cI, n_t_newOperations, .inl t_newOperations_a))] := hD.sub [2, 3, 0, 1] (by decide) rfl
    refine lv_istore (lv' := [(4, .int q50_3.1), (0, .ref h_t), (1, .int x1), (2, .int x2), (3, .int x3)]) hx hb d_RF_readOperations_53 hl (by decide) rfl (fun ls hl => ?_)
    refine lv_iload hx hb d_RF_readOperations_55 (lv_at hl 0 rfl) ?_
    refine lv_bipush (v := 119) hx hb d_RF_readOperations_57 (by decide) ?_
    refine lv_icmp_eq (tgt := 69) hx hb d_RF_readOperations_59 (by decide) (fun cc59 => ?_) (fun cc59 => ?_)
    · have hf := ifT cc59 hf
      exact k_RF_readOperations_69 (s := s) C0 hA hrec45 hf hP hD hS (lv_sub hl [1, 2, 0] rfl)
    · have hf := ifF cc59 hf
      refine lv_iload hx hb d_RF_readOperations_62 (lv_at hl 0 rfl) ?_
      refine lv_bipush (v := 114) hx hb d_RF_readOperations_64 (by decide) ?_
      refine lv_icmp_ne (tgt := 84) hx hb d_RF_readOperations_66 (by decide) (fun cc66 => ?_) (fun cc66 => ?_)
      · have hf := ifF cc66 hf
        exact k_RF_readOperations_84 (s := s) C0 hA hrec45 hf hP hD hS (lv_sub hl [1, 2, 0] rfl)
      · have hf := ifT cc66 hf
        exact k_RF_readOperations_69 (s := s) C0 hA hrec45 hf hP hD hS (lv_sub hl [1, 2, 0] rfl)
set_option maxHeartbeats 4000000 in
set_option maxRecDepth 100000 in
theorem k_RF_readOperations_45 {p : Program} {l : Launch} {e : Env} {s : State} {m : MethodId} {args : Array Value} {below : List Frame} {meth : Method} {c : Code} {D : va_G} {cI cB cJ : ClassId} {A : Nat → Prop} (C0 : CX p s m args meth c D [(cI, .int), (cB, .byte), (cJ, .long)] R_RF b_RF_readOperations 7 (some .boolean) "readOperations") (hA : ∀ q, s.heap.size ≤ q → A q) {h_t h_t_tape h_t_newCounts h_t_newOperations : Nat} {v_t_thrown v_t_words v_t_bits v_t_cells v_t_sense v_t_kinds v_t_victims v_t_others v_t_faults v_t_toldKinds v_t_toldVictims v_t_toldOthers v_t_told v_t_ground v_t_ports v_t_scrambled v_t_places v_t_sorts v_t_counts v_t_operations v_t_elements v_t_newSorts v_t_failed v_t_failedCount v_t_keeps v_t_some v_t_repairedRows v_t_repairedColumns v_t_proof : Value} {res : Int32 × Int32 × (Nat → Int32) × (Nat → Int32)} {n_t_tape : Nat} {n_t_newCounts : Nat} {n_t_newOperations : Nat} {t_tapeSize : Int32} {t_tape_a : Nat → Int32} {x1 : Int32}
    : ∀ (n : Nat) (st : (Int32 × (Nat → Int32) × (Nat → Int32) × Int32 × Int32)), lp (g_RF_readOperations_45 n_t_tape n_t_newCounts n_t_newOperations t_tapeSize t_tape_a x1) n st = some res → ∀  (H : Heap) (locs : List Loc) (ls : Array Slot), va_P D classes [(h_t, .inr (1, [v_t_thrown, v_t_words, v_t_bits, v_t_cells, v_t_sense, v_t_kinds, v_t_victims, v_t_others, v_t_faults, v_t_toldKinds, v_t_toldVictims, v_t_toldOthers, v_t_told, v_t_ground, v_t_ports, v_t_scrambled, v_t_places, v_t_sorts, v_t_counts, v_t_operations, v_t_elements, v_t_newSorts, .ref h_t_newCounts, .ref h_t_newOperations, .ref h_t_tape, .int t_tapeSize, .int st.1, v_t_failed, v_t_failedCount, v_t_keeps, v_t_some, v_t_repairedRows, v_t_repairedColumns, v_t_proof])), (h_t_tape, .inl (cI, n_t_tape, .inl t_tape_a)), (h_t_newCounts, .inl (cI, n_t_newCounts, .inl st.2.1)), (h_t_newOperations, .inl (cI, n_t_newOperations, .inl st.2.2.1))] H → va_D A [(h_t, .inr (1, [v_t_thrown, v_t_words, v_t_bits, v_t_cells, v_t_sense, v_t_kinds, v_t_victims, v_t_others, v_t_faults, v_t_toldKinds, v_t_toldVictims, v_t_toldOthers, v_t_told, v_t_ground, v_t_ports, v_t_scrambled, v_t_places, v_t_sorts, v_t_counts, v_t_operations, v_t_elements, v_t_newSorts, .ref h_t_newCounts, .ref h_t_newOperations, .ref h_t_tape, .int t_tapeSize, .int st.1, v_t_failed, v_t_failedCount, v_t_keeps, v_t_some, v_t_repairedRows, v_t_repairedColumns, v_t_proof])), (h_t_tape, .inl (cI, n_t_tape, .inl t_tape_a)), (h_t_newCounts, .inl (cI, n_t_newCounts, .inl st.2.1)), (h_t_newOperations, .inl (cI, n_t_newOperations, .inl st.2.2.1))] → va_S A s.heap H locs → lv_has ls 7 [(0, .ref h_t), (1, .int x1), (2, .int st.2.2.2.1), (3, .int st.2.2.2.2)] → W p l e rm_RF_readOperations s m args below meth c H locs 0 0 (MQ below (QW D (post_RF_readOperations h_t h_t_tape h_t_newCounts h_t_newOperations v_t_thrown v_t_words v_t_bits v_t_cells v_t_sense v_t_kinds v_t_victims v_t_others v_t_faults v_t_toldKinds v_t_toldVictims v_t_toldOthers v_t_told v_t_ground v_t_ports v_t_scrambled v_t_places v_t_sorts v_t_counts v_t_operations v_t_elements v_t_newSorts v_t_failed v_t_failedCount v_t_keeps v_t_some v_t_repairedRows v_t_repairedColumns v_t_proof n_t_tape n_t_newCounts n_t_newOperations t_tapeSize t_tape_a cI cB cJ res) A) args s 0 0 A) (F0 m 45 ls []) := by
  intro n
  induction n with
  | zero => intro st hf; exact absurd hf (by simp [lp])
  | succ n ih =>
    intro st hf  H locs ls hP hD hS hl
    exact kb_RF_readOperations_45 C0 hA (rec45 := lp (g_RF_readOperations_45 n_t_tape n_t_newCounts n_t_newOperations t_tapeSize t_tape_a x1) n) (t_place := st.1) (t_newCounts_a := st.2.1) (t_newOperations_a := st.2.2.1) (x2 := st.2.2.2.1) (x3 := st.2.2.2.2)  (fun st hf  H locs ls hP hD hS hl => ih st hf  H locs ls hP hD hS hl) hf hP hD hS hl
set_option maxHeartbeats 4000000 in
set_option maxRecDepth 100000 in
theorem k_RF_readOperations_14 {p : Program} {l : Launch} {e : Env} {s : State} {m : MethodId} {args : Array Value} {below : List Frame} {meth : Method} {c : Code} {D : va_G} {cI cB cJ : ClassId} {A : Nat → Prop} (C0 : CX p s m args meth c D [(cI, .int), (cB, .byte), (cJ, .long)] R_RF b_RF_readOperations 7 (some .boolean) "readOperations") (hA : ∀ q, s.heap.size ≤ q → A q) {h_t h_t_tape h_t_newCounts h_t_newOperations : Nat} {v_t_thrown v_t_words v_t_bits v_t_cells v_t_sense v_t_kinds v_t_victims v_t_others v_t_faults v_t_toldKinds v_t_toldVictims v_t_toldOthers v_t_told v_t_ground v_t_ports v_t_scrambled v_t_places v_t_sorts v_t_counts v_t_operations v_t_elements v_t_newSorts v_t_failed v_t_failedCount v_t_keeps v_t_some v_t_repairedRows v_t_repairedColumns v_t_proof : Value} {res : Int32 × Int32 × (Nat → Int32) × (Nat → Int32)} {n_t_tape : Nat} {n_t_newCounts : Nat} {n_t_newOperations : Nat} {t_tapeSize : Int32} {t_place : Int32} {t_tape_a : Nat → Int32} {t_newCounts_a : Nat → Int32} {t_newOperations_a : Nat → Int32} {s0 : Int32} {x1 : Int32}
    (hf : f_RF_readOperations_14 n_t_tape n_t_newCounts n_t_newOperations t_tapeSize t_place t_tape_a t_newCounts_a t_newOperations_a s0 x1 = some res) {H : Heap} {locs : List Loc} {ls : Array Slot} (hP : va_P D classes [(h_t, .inr (1, [v_t_thrown, v_t_words, v_t_bits, v_t_cells, v_t_sense, v_t_kinds, v_t_victims, v_t_others, v_t_faults, v_t_toldKinds, v_t_toldVictims, v_t_toldOthers, v_t_told, v_t_ground, v_t_ports, v_t_scrambled, v_t_places, v_t_sorts, v_t_counts, v_t_operations, v_t_elements, v_t_newSorts, .ref h_t_newCounts, .ref h_t_newOperations, .ref h_t_tape, .int t_tapeSize, .int t_place, v_t_failed, v_t_failedCount, v_t_keeps, v_t_some, v_t_repairedRows, v_t_repairedColumns, v_t_proof])), (h_t_tape, .inl (cI, n_t_tape, .inl t_tape_a)), (h_t_newCounts, .inl (cI, n_t_newCounts, .inl t_newCounts_a)), (h_t_newOperations, .inl (cI, n_t_newOperations, .inl t_newOperations_a))] H) (hD : va_D A [(h_t, .inr (1, [v_t_thrown, v_t_words, v_t_bits, v_t_cells, v_t_sense, v_t_kinds, v_t_victims, v_t_others, v_t_faults, v_t_toldKinds, v_t_toldVictims, v_t_toldOthers, v_t_told, v_t_ground, v_t_ports, v_t_scrambled, v_t_places, v_t_sorts, v_t_counts, v_t_operations, v_t_elements, v_t_newSorts, .ref h_t_newCounts, .ref h_t_newOperations, .ref h_t_tape, .int t_tapeSize, .int t_place, v_t_failed, v_t_failedCount, v_t_keeps, v_t_some, v_t_repairedRows, v_t_repairedColumns, v_t_proof])), (h_t_tape, .inl (cI, n_t_tape, .inl t_tape_a)), (h_t_newCounts, .inl (cI, n_t_newCounts, .inl t_newCounts_a)), (h_t_newOperations, .inl (cI, n_t_newOperations, .inl t_newOperations_a))]) (hS : va_S A s.heap H locs) (hl : lv_has ls 7 [(0, .ref h_t), (1, .int x1)]) : W p l e rm_RF_readOperations s m args below meth c H locs 0 0 (MQ below (QW D (post_RF_readOperations h_t h_t_tape h_t_newCounts h_t_newOperations v_t_thrown v_t_words v_t_bits v_t_cells v_t_sense v_t_kinds v_t_victims v_t_others v_t_faults v_t_toldKinds v_t_toldVictims v_t_toldOthers v_t_told v_t_ground v_t_ports v_t_scrambled v_t_places v_t_sorts v_t_counts v_t_operations v_t_elements v_t_newSorts v_t_failed v_t_failedCount v_t_keeps v_t_some v_t_repairedRows v_t_repairedColumns v_t_proof n_t_tape n_t_newCounts n_t_newOperations t_tapeSize t_tape_a cI cB cJ res) A) args s 0 0 A) (F0 m 14 ls [.int s0]) := by
  obtain ⟨hx, hb, hml, hr, hlocks, hts, hown, hK, hin⟩ := id C0
  have hf : (((
  (if inB x1 n_t_newCounts = true then
  (if s0 = 0 then
    (lp (g_RF_readOperations_45 n_t_tape n_t_newCounts n_t_newOperations t_tapeSize t_tape_a x1) 100000 (t_place, (upd t_newCounts_a (Int32.toNatClampNeg x1) 0), t_newOperations_a, s0, s0))
  else
    (lp (g_RF_readOperations_45 n_t_tape n_t_newCounts n_t_newOperations t_tapeSize t_tape_a x1) 100000 ((t_place + 1), (upd t_newCounts_a (Int32.toNatClampNeg x1) 0), t_newOperations_a, s0, s0)))
  else none))) : Option (Int32 × Int32 × (Nat → Int32) × (Nat → Int32))) = some res := hf
  refine lv_istore_n (lv' := [(2, .int s0), (0, .ref h_t), (1, .int x1)]) hx hb d_RF_readOperations_14 rfl hl (by decide) rfl (fun ls hl => ?_)
  refine lv_iload_n hx hb d_RF_readOperations_15 rfl (lv_at hl 0 rfl) ?_
  refine lv_istore_n (lv' := [(3, .int s0), (2, .int s0), (0, .ref h_t), (1, .int x1)]) hx hb d_RF_readOperations_16 rfl hl (by decide) rfl (fun ls hl => ?_)
  refine lv_aload_n hx hb d_RF_readOperations_17 rfl (lv_at hl 2 rfl) ?_
  refine va_get (D := D) (ci := 1) (v := .ref h_t_newCounts) (C := R_RF) (T := F_RF) (N := 34) hx hb hts i_RF hown hK.1 hP 0 rfl rfl 22 (by decide) (hts _ w_380) (fun _ h9 => h9) rfl d_RF_readOperations_18 ?_
  refine lv_iload_n hx hb d_RF_readOperations_21 rfl (lv_at hl 3 rfl) ?_
  refine lv_iconst (v := 0) hx hb d_RF_readOperations_22 (by decide) ?_
  obtain ⟨hin1, hf⟩ := ifG hf
  refine va_iast hx hb hK.1 hP hD hS 2 0 rfl rfl (inB_in hin1) d_RF_readOperations_23 (fun H locs hP hD hS => ?_)
  have hP : va_P D classes [(h_t, .inr (1, [v_t_thrown, v_t_words, v_t_bits, v_t_cells, v_t_sense, v_t_kinds, v_t_victims, v_t_others, v_t_faults, v_t_toldKinds, v_t_toldVictims, v_t_toldOthers, v_t_told, v_t_ground, v_t_ports, v_t_scrambled, v_t_places, v_t_sorts, v_t_counts, v_t_operations, v_t_elements, v_t_newSorts, .ref h_t_newCounts, .ref h_t_newOperations, .ref h_t_tape, .int t_tapeSize, .int t_place, v_t_failed, v_t_failedCount, v_t_keeps, v_t_some, v_t_repairedRows, v_t_repairedColumns, v_t_proof])), (h_t_tape, .inl (cI, n_t_tape, .inl t_tape_a)), (h_t_newCounts, .inl (cI, n_t_newCounts, .inl (upd t_newCounts_a (Int32.toNatClampNeg x1) 0))), (h_t_newOperations, .inl (cI, n_t_newOperations, .inl t_newOperations_a))] H := hP
  have hD : va_D A [(h_t, .inr (1, [v_t_thrown, v_t_words, v_t_bits, v_t_cells, v_t_sense, v_t_kinds, v_t_victims, v_t_others, v_t_faults, v_t_toldKinds, v_t_toldVictims, v_t_toldOthers, v_t_told, v_t_ground, v_t_ports, v_t_scrambled, v_t_places, v_t_sorts, v_t_counts, v_t_operations, v_t_elements, v_t_newSorts, .ref h_t_newCounts, .ref h_t_newOperations, .ref h_t_tape, .int t_tapeSize, .int t_place, v_t_failed, v_t_failedCount, v_t_keeps, v_t_some, v_t_repairedRows, v_t_repairedColumns, v_t_proof])), (h_t_tape, .inl (cI, n_t_tape, .inl t_tape_a)), (h_t_newCounts, .inl (cI, n_t_newCounts, .inl (upd t_newCounts_a (Int32.toNatClampNeg x1) 0))), (h_t_newOperations, .inl (cI, n_t_newOperations, .inl t_newOperations_a))] := hD
  refine lv_aload_n hx hb d_RF_readOperations_24 rfl (lv_at hl 2 rfl) ?_
  refine lv_iload_n hx hb d_RF_readOperations_25 rfl (lv_at hl 0 rfl) ?_
  refine lv_if_eq (tgt := 38) hx hb d_RF_readOperations_26 (by decide) (fun cc26 => ?_) (fun cc26 => ?_)
  · have hf := ifT cc26 hf
    refine lv_aload_n hx hb d_RF_readOperations_38 rfl (lv_at hl 2 rfl) ?_
    refine va_get (D := D) (ci := 1) (v := .int t_place) (C := R_RF) (T := F_RF) (N := 34) hx hb hts i_RF hown hK.1 hP 0 rfl rfl 26 (by decide) (hts _ w_389) (fun _ h9 => h9) rfl d_RF_readOperations_39 ?_
    refine va_put (D := D) (ci := 1) (v := .int t_place) (ty := .int) (C := R_RF) (T := F_RF) (N := 34) hx hb hts i_RF t_RF t_RF_ok n_RF hown hK.1 hP hD hS 0 rfl rfl 26 (by decide) (hts _ w_389) (fun _ h9 => h9) rfl (t_RF_ok 26 (by decide)) rfl rfl (Nat.le_of_ble_eq_true rfl) d_RF_readOperations_42 (fun H locs hP hD hS => ?_)
    have hP : va_P D classes [(h_t, .inr (1, [v_t_thrown, v_t_words, v_t_bits, v_t_cells, v_t_sense, v_t_kinds, v_t_victims, v_t_others, v_t_faults, v_t_toldKinds, v_t_toldVictims, v_t_toldOthers, v_t_told, v_t_ground, v_t_ports, v_t_scrambled, v_t_places, v_t_sorts, v_t_counts, v_t_operations, v_t_elements, v_t_newSorts, .ref h_t_newCounts, .ref h_t_newOperations, .ref h_t_tape, .int t_tapeSize, .int t_place, v_t_failed, v_t_failedCount, v_t_keeps, v_t_some, v_t_repairedRows, v_t_repairedColumns, v_t_proof])), (h_t_tape, .inl (cI, n_t_tape, .inl t_tape_a)), (h_t_newCounts, .inl (cI, n_t_newCounts, .inl (upd t_newCounts_a (Int32.toNatClampNeg x1) 0))), (h_t_newOperations, .inl (cI, n_t_newOperations, .inl t_newOperations_a))] H := hP
    have hD : va_D A [(h_t, .inr (1, [v_t_thrown, v_t_words, v_t_bits, v_t_cells, v_t_sense, v_t_kinds, v_t_victims, v_t_others, v_t_faults, v_t_toldKinds, v_t_toldVictims, v_t_toldOthers, v_t_told, v_t_ground, v_t_ports, v_t_scrambled, v_t_places, v_t_sorts, v_t_counts, v_t_operations, v_t_elements, v_t_newSorts, .ref h_t_newCounts, .ref h_t_newOperations, .ref h_t_tape, .int t_tapeSize, .int t_place, v_t_failed, v_t_failedCount, v_t_keeps, v_t_some, v_t_repairedRows, v_t_repairedColumns, v_t_proof])), (h_t_tape, .inl (cI, n_t_tape, .inl t_tape_a)), (h_t_newCounts, .inl (cI, n_t_newCounts, .inl (upd t_newCounts_a (Int32.toNatClampNeg x1) 0))), (h_t_newOperations, .inl (cI, n_t_newOperations, .inl t_newOperations_a))] := hD
    exact k_RF_readOperations_45 (s := s) C0 hA _ (t_place, (upd t_newCounts_a (Int32.toNatClampNeg x1) 0), t_newOperations_a, s0, s0) hf  H locs ls hP hD hS (lv_sub hl [2, 3, 1, 0] rfl)
  · have hf := ifF cc26 hf
    refine lv_aload_n hx hb d_RF_readOperations_29 rfl (lv_at hl 2 rfl) ?_
    refine va_get (D := D) (ci := 1) (v := .int t_place) (C := R_RF) (T := F_RF) (N := 34) hx hb hts i_RF hown hK.1 hP 0 rfl rfl 26 (by decide) (hts _ w_389) (fun _ h9 => h9) rfl d_RF_readOperations_30 ?_
    refine lv_iconst (v := 1) hx hb d_RF_readOperations_33 (by decide) ?_
    refine lv_iadd hx hb d_RF_readOperations_34 ?_
    refine lv_goto (tgt := 42) hx hb d_RF_readOperations_35 (by decide) ?_
    refine va_put (D := D) (ci := 1) (v := .int (t_place + 1)) (ty := .int) (C := R_RF) (T := F_RF) (N := 34) hx hb hts i_RF t_RF t_RF_ok n_RF hown hK.1 hP hD hS 0 rfl rfl 26 (by decide) (hts _ w_389) (fun _ h9 => h9) rfl (t_RF_ok 26 (by decide)) rfl rfl (Nat.le_of_ble_eq_true rfl) d_RF_readOperations_42 (fun H locs hP hD hS => ?_)
    have hP : va_P D classes [(h_t, .inr (1, [v_t_thrown, v_t_words, v_t_bits, v_t_cells, v_t_sense, v_t_kinds, v_t_victims, v_t_others, v_t_faults, v_t_toldKinds, v_t_toldVictims, v_t_toldOthers, v_t_told, v_t_ground, v_t_ports, v_t_scrambled, v_t_places, v_t_sorts, v_t_counts, v_t_operations, v_t_elements, v_t_newSorts, .ref h_t_newCounts, .ref h_t_newOperations, .ref h_t_tape, .int t_tapeSize, .int (t_place + 1), v_t_failed, v_t_failedCount, v_t_keeps, v_t_some, v_t_repairedRows, v_t_repairedColumns, v_t_proof])), (h_t_tape, .inl (cI, n_t_tape, .inl t_tape_a)), (h_t_newCounts, .inl (cI, n_t_newCounts, .inl (upd t_newCounts_a (Int32.toNatClampNeg x1) 0))), (h_t_newOperations, .inl (cI, n_t_newOperations, .inl t_newOperations_a))] H := hP
    have hD : va_D A [(h_t, .inr (1, [v_t_thrown, v_t_words, v_t_bits, v_t_cells, v_t_sense, v_t_kinds, v_t_victims, v_t_others, v_t_faults, v_t_toldKinds, v_t_toldVictims, v_t_toldOthers, v_t_told, v_t_ground, v_t_ports, v_t_scrambled, v_t_places, v_t_sorts, v_t_counts, v_t_operations, v_t_elements, v_t_newSorts, .ref h_t_newCounts, .ref h_t_newOperations, .ref h_t_tape, .int t_tapeSize, .int (t_place + 1), v_t_failed, v_t_failedCount, v_t_keeps, v_t_some, v_t_repairedRows, v_t_repairedColumns, v_t_proof])), (h_t_tape, .inl (cI, n_t_tape, .inl t_tape_a)), (h_t_newCounts, .inl (cI, n_t_newCounts, .inl (upd t_newCounts_a (Int32.toNatClampNeg x1) 0))), (h_t_newOperations, .inl (cI, n_t_newOperations, .inl t_newOperations_a))] := hD
    exact k_RF_readOperations_45 (s := s) C0 hA _ ((t_place + 1), (upd t_newCounts_a (Int32.toNatClampNeg x1) 0), t_newOperations_a, s0, s0) hf  H locs ls hP hD hS (lv_sub hl [2, 3, 1, 0] rfl)
set_option maxHeartbeats 4000000 in
set_option maxRecDepth 100000 in
theorem c_RF_readOperations (l : Launch) (D : va_G) (cI cB cJ : ClassId) (h_t h_t_tape h_t_newCounts h_t_newOperations : Nat) (v_t_thrown v_t_words v_t_bits v_t_cells v_t_sense v_t_kinds v_t_victims v_t_others v_t_faults v_t_toldKinds v_t_toldVictims v_t_toldOthers v_t_told v_t_ground v_t_ports v_t_scrambled v_t_places v_t_sorts v_t_counts v_t_operations v_t_elements v_t_newSorts v_t_failed v_t_failedCount v_t_keeps v_t_some v_t_repairedRows v_t_repairedColumns v_t_proof : Value) (n_t_tape : Nat) (n_t_newCounts : Nat) (n_t_newOperations : Nat) (t_tapeSize : Int32) (t_place : Int32) (t_tape_a : Nat → Int32) (t_newCounts_a : Nat → Int32) (t_newOperations_a : Nat → Int32) (a1 : Int32) (sz : Nat) (res : Int32 × Int32 × (Nat → Int32) × (Nat → Int32)) (hf : f_RF_readOperations n_t_tape n_t_newCounts n_t_newOperations t_tapeSize t_place t_tape_a t_newCounts_a t_newOperations_a a1 = some res) : Met l y_RF_readOperations (.code y_RF_readOperations b_RF_readOperations 7 (some .boolean) :: TB) rm_RF_readOperations (PcW D [(cI, .int), (cB, .byte), (cJ, .long)] [.ref h_t, .int a1] [(h_t, .inr (1, [v_t_thrown, v_t_words, v_t_bits, v_t_cells, v_t_sense, v_t_kinds, v_t_victims, v_t_others, v_t_faults, v_t_toldKinds, v_t_toldVictims, v_t_toldOthers, v_t_told, v_t_ground, v_t_ports, v_t_scrambled, v_t_places, v_t_sorts, v_t_counts, v_t_operations, v_t_elements, v_t_newSorts, .ref h_t_newCounts, .ref h_t_newOperations, .ref h_t_tape, .int t_tapeSize, .int t_place, v_t_failed, v_t_failedCount, v_t_keeps, v_t_some, v_t_repairedRows, v_t_repairedColumns, v_t_proof])), (h_t_tape, .inl (cI, n_t_tape, .inl t_tape_a)), (h_t_newCounts, .inl (cI, n_t_newCounts, .inl t_newCounts_a)), (h_t_newOperations, .inl (cI, n_t_newOperations, .inl t_newOperations_a))] sz) (QW D (post_RF_readOperations h_t h_t_tape h_t_newCounts h_t_newOperations v_t_thrown v_t_words v_t_bits v_t_cells v_t_sense v_t_kinds v_t_victims v_t_others v_t_faults v_t_toldKinds v_t_toldVictims v_t_toldOthers v_t_told v_t_ground v_t_ports v_t_scrambled v_t_places v_t_sorts v_t_counts v_t_operations v_t_elements v_t_newSorts v_t_failed v_t_failedCount v_t_keeps v_t_some v_t_repairedRows v_t_repairedColumns v_t_proof n_t_tape n_t_newCounts n_t_newOperations t_tapeSize t_tape_a cI cB cJ res) (va_A [(h_t, .inr (1, [v_t_thrown, v_t_words, v_t_bits, v_t_cells, v_t_sense, v_t_kinds, v_t_victims, v_t_others, v_t_faults, v_t_toldKinds, v_t_toldVictims, v_t_toldOthers, v_t_told, v_t_ground, v_t_ports, v_t_scrambled, v_t_places, v_t_sorts, v_t_counts, v_t_operations, v_t_elements, v_t_newSorts, .ref h_t_newCounts, .ref h_t_newOperations, .ref h_t_tape, .int t_tapeSize, .int t_place, v_t_failed, v_t_failedCount, v_t_keeps, v_t_some, v_t_repairedRows, v_t_repairedColumns, v_t_proof])), (h_t_tape, .inl (cI, n_t_tape, .inl t_tape_a)), (h_t_newCounts, .inl (cI, n_t_newCounts, .inl t_newCounts_a)), (h_t_newOperations, .inl (cI, n_t_newOperations, .inl t_newOperations_a))] sz)) 0 0 (va_A [(h_t, .inr (1, [v_t_thrown, v_t_words, v_t_bits, v_t_cells, v_t_sense, v_t_kinds, v_t_victims, v_t_others, v_t_faults, v_t_toldKinds, v_t_toldVictims, v_t_toldOthers, v_t_told, v_t_ground, v_t_ports, v_t_scrambled, v_t_places, v_t_sorts, v_t_counts, v_t_operations, v_t_elements, v_t_newSorts, .ref h_t_newCounts, .ref h_t_newOperations, .ref h_t_tape, .int t_tapeSize, .int t_place, v_t_failed, v_t_failedCount, v_t_keeps, v_t_some, v_t_repairedRows, v_t_repairedColumns, v_t_proof])), (h_t_tape, .inl (cI, n_t_tape, .inl t_tape_a)), (h_t_newCounts, .inl (cI, n_t_newCounts, .inl t_newCounts_a)), (h_t_newOperations, .inl (cI, n_t_newOperations, .inl t_newOperations_a))] sz) := by
  refine entW ⟨by decide +kernel, rfl⟩ fun p e s m below meth c C0 hP hD hsz ls hl => ?_
  subst hsz
  generalize hAe : va_A [(h_t, .inr (1, [v_t_thrown, v_t_words, v_t_bits, v_t_cells, v_t_sense, v_t_kinds, v_t_victims, v_t_others, v_t_faults, v_t_toldKinds, v_t_toldVictims, v_t_toldOthers, v_t_told, v_t_ground, v_t_ports, v_t_scrambled, v_t_places, v_t_sorts, v_t_counts, v_t_operations, v_t_elements, v_t_newSorts, .ref h_t_newCounts, .ref h_t_newOperations, .ref h_t_tape, .int t_tapeSize, .int t_place, v_t_failed, v_t_failedCount, v_t_keeps, v_t_some, v_t_repairedRows, v_t_repairedColumns, v_t_proof])), (h_t_tape, .inl (cI, n_t_tape, .inl t_tape_a)), (h_t_newCounts, .inl (cI, n_t_newCounts, .inl t_newCounts_a)), (h_t_newOperations, .inl (cI, n_t_newOperations, .inl t_newOperations_a))] s.heap.size = A at hD ⊢
  have hA : ∀ q : Nat, s.heap.size ≤ q → A q := fun q h => by rw [← hAe]; exact Or.inr h
  clear hAe
  have hS : va_S A s.heap s.heap [] := va_S.rf
  have hl : lv_has ls 7 [(0, .ref h_t), (1, .int a1)] := hl
  obtain ⟨hx, hb, hml, hr, hlocks, hts, hown, hK, hin⟩ := id C0
  have hf : (((
  (Option.bind (f_RF_next n_t_tape t_tapeSize t_place t_tape_a) fun q1_1 =>
  (if q1_1.1 = 40 then
    (f_RF_readOperations_14 n_t_tape n_t_newCounts n_t_newOperations t_tapeSize q1_1.2 t_tape_a t_newCounts_a t_newOperations_a 1 a1)
  else
    (f_RF_readOperations_14 n_t_tape n_t_newCounts n_t_newOperations t_tapeSize q1_1.2 t_tape_a t_newCounts_a t_newOperations_a 0 a1))))) : Option (Int32 × Int32 × (Nat → Int32) × (Nat → Int32))) = some res := hf
  obtain ⟨H, hH⟩ : ∃ H, H = s.heap := ⟨_, rfl⟩
  obtain ⟨locs, hlo⟩ : ∃ x : List Loc, x = [] := ⟨_, rfl⟩
  rw [← hlo] at hS ⊢
  have hP : va_P D classes [(h_t, .inr (1, [v_t_thrown, v_t_words, v_t_bits, v_t_cells, v_t_sense, v_t_kinds, v_t_victims, v_t_others, v_t_faults, v_t_toldKinds, v_t_toldVictims, v_t_toldOthers, v_t_told, v_t_ground, v_t_ports, v_t_scrambled, v_t_places, v_t_sorts, v_t_counts, v_t_operations, v_t_elements, v_t_newSorts, .ref h_t_newCounts, .ref h_t_newOperations, .ref h_t_tape, .int t_tapeSize, .int t_place, v_t_failed, v_t_failedCount, v_t_keeps, v_t_some, v_t_repairedRows, v_t_repairedColumns, v_t_proof])), (h_t_tape, .inl (cI, n_t_tape, .inl t_tape_a)), (h_t_newCounts, .inl (cI, n_t_newCounts, .inl t_newCounts_a)), (h_t_newOperations, .inl (cI, n_t_newOperations, .inl t_newOperations_a))] H := by rw [hH]; exact hP
  have hS : va_S A s.heap H locs := by rw [hH]; exact hS
  show W p l e rm_RF_readOperations s m _ below meth c s.heap locs 0 0 (MQ below (QW D (post_RF_readOperations h_t h_t_tape h_t_newCounts h_t_newOperations v_t_thrown v_t_words v_t_bits v_t_cells v_t_sense v_t_kinds v_t_victims v_t_others v_t_faults v_t_toldKinds v_t_toldVictims v_t_toldOthers v_t_told v_t_ground v_t_ports v_t_scrambled v_t_places v_t_sorts v_t_counts v_t_operations v_t_elements v_t_newSorts v_t_failed v_t_failedCount v_t_keeps v_t_some v_t_repairedRows v_t_repairedColumns v_t_proof n_t_tape n_t_newCounts n_t_newOperations t_tapeSize t_tape_a cI cB cJ res) A) _ s 0 0 A) (F0 m 0 ls [])
  refine wheap hH ?_
  clear hH hlo
  refine lv_aload_n hx hb d_RF_readOperations_0 rfl (lv_at hl 0 rfl) ?_
  obtain ⟨q1_1, hc, hf⟩ := bindS hf
  refine mcV (n := 0) (As := []) (rest := []) (wr := [(h_t_newCounts, .inl (cI, n_t_newCounts, .inl t_newCounts_a)), (h_t_newOperations, .inl (cI, n_t_newOperations, .inl t_newOperations_a))]) hx hb hml hown hts hK (c_RF_next (l := l) (D := D) (cI := cI) (cB := cB) (cJ := cJ) (h_t := h_t) (h_t_tape := h_t_tape) (v_t_thrown := v_t_thrown) (v_t_words := v_t_words) (v_t_bits := v_t_bits) (v_t_cells := v_t_cells) (v_t_sense := v_t_sense) (v_t_kinds := v_t_kinds) (v_t_victims := v_t_victims) (v_t_others := v_t_others) (v_t_faults := v_t_faults) (v_t_toldKinds := v_t_toldKinds) (v_t_toldVictims := v_t_toldVictims) (v_t_toldOthers := v_t_toldOthers) (v_t_told := v_t_told) (v_t_ground := v_t_ground) (v_t_ports := v_t_ports) (v_t_scrambled := v_t_scrambled) (v_t_places := v_t_places) (v_t_sorts := v_t_sorts) (v_t_counts := v_t_counts) (v_t_operations := v_t_operations) (v_t_elements := v_t_elements) (v_t_newSorts := v_t_newSorts) (v_t_newCounts := (.ref h_t_newCounts)) (v_t_newOperations := (.ref h_t_newOperations)) (v_t_failed := v_t_failed) (v_t_failedCount := v_t_failedCount) (v_t_keeps := v_t_keeps) (v_t_some := v_t_some) (v_t_repairedRows := v_t_repairedRows) (v_t_repairedColumns := v_t_repairedColumns) (v_t_proof := v_t_proof) (n_t_tape := n_t_tape) (t_tapeSize := t_tapeSize) (t_place := t_place) (t_tape_a := t_tape_a) (sz := H.size) (res := q1_1) (hf := hc)) w_390 w_391 w_392 w_393 w_394 (by decide +kernel) rfl rfl ⟨Nat.le_of_ble_eq_true rfl, Nat.le_of_ble_eq_true rfl⟩ hP hD hS hA [0, 1] [2, 3] rfl rfl (by decide) (by decide) (by decide) (ci := 1) 0 rfl rfl hl.1 rfl rfl (lv_room (Nat.le_of_ble_eq_true rfl)) d_RF_readOperations_1 ⟨Nat.le_of_ble_eq_true rfl, Nat.le_of_ble_eq_true rfl⟩ (fun o ws' H locs hp hP hD hS => ?_)
  obtain ⟨rfl, rfl⟩ := hp
  have hP : va_P D classes [(h_t, .inr (1, [v_t_thrown, v_t_words, v_t_bits, v_t_cells, v_t_sense, v_t_kinds, v_t_victims, v_t_others, v_t_faults, v_t_toldKinds, v_t_toldVictims, v_t_toldOthers, v_t_told, v_t_ground, v_t_ports, v_t_scrambled, v_t_places, v_t_sorts, v_t_counts, v_t_operations, v_t_elements, v_t_newSorts, .ref h_t_newCounts, .ref h_t_newOperations, .ref h_t_tape, .int t_tapeSize, .int q1_1.2, v_t_failed, v_t_failedCount, v_t_keeps, v_t_some, v_t_repairedRows, v_t_repairedColumns, v_t_proof])), (h_t_tape, .inl (cI, n_t_tape, .inl t_tape_a)), (h_t_newCounts, .inl (cI, n_t_newCounts, .inl t_newCounts_a)), (h_t_newOperations, .inl (cI, n_t_newOperations, .inl t_newOperations_a))] H := hP.sub [2, 3, 0, 1] rfl
  have hD : va_D A [(h_t, .inr (1, [v_t_thrown, v_t_words, v_t_bits, v_t_cells, v_t_sense, v_t_kinds, v_t_victims, v_t_others, v_t_faults, v_t_toldKinds, v_t_toldVictims, v_t_toldOthers, v_t_told, v_t_ground, v_t_ports, v_t_scrambled, v_t_places, v_t_sorts, v_t_counts, v_t_operations, v_t_elements, v_t_newSorts, .ref h_t_newCounts, .ref h_t_newOperations, .ref h_t_tape, .int t_tapeSize, .int q1_1.2, v_t_failed, v_t_failedCount, v_t_keeps, v_t_some, v_t_repairedRows, v_t_repairedColumns, v_t_proof])), (h_t_tape, .inl (cI, n_t_tape, .inl t_tape_a)), (h_t_newCounts, .inl (cI, n_t_newCounts, .inl t_newCounts_a)), (h_t_newOperations, .inl (cI, n_t_newOperations, .inl t_newOperations_a))] := hD.sub [2, 3, 0, 1] (by decide) rfl
  refine lv_bipush (v := 40) hx hb d_RF_readOperations_4 (by decide) ?_
  refine lv_icmp_ne (tgt := 13) hx hb d_RF_readOperations_6 (by decide) (fun cc6 => ?_) (fun cc6 => ?_)
  · have hf := ifF cc6 hf
    refine lv_iconst (v := 0) hx hb d_RF_readOperations_13 (by decide) ?_
    exact k_RF_readOperations_14 (s := s) C0 hA hf hP hD hS (lv_sub hl [0, 1] rfl)
  · have hf := ifT cc6 hf
    refine lv_iconst (v := 1) hx hb d_RF_readOperations_9 (by decide) ?_
    refine lv_goto (tgt := 14) hx hb d_RF_readOperations_10 (by decide) ?_
    exact k_RF_readOperations_14 (s := s) C0 hA hf hP hD hS (lv_sub hl [0, 1] rfl)
