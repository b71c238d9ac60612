def f_RF_fault_129 (n_t_toldKinds : Nat) (n_t_toldVictims : Nat) (n_t_toldOthers : Nat) (t_told : Int32) (t_toldKinds_a : Nat → Int32) (t_toldVictims_a : Nat → Int32) (t_toldOthers_a : Nat → Int32) (s1 : Int32) (x1 : Int32) (x2 : Int32) (x3 : Int32) (x4 : Int32) : Option (Int32 × Int32 × Int32 × (Nat → Int32) × (Nat → Int32) × (Nat → Int32)) :=
  (if s1 ≤ 0 then
    (if inB t_told n_t_toldKinds = true then
    (if inB t_told n_t_toldVictims = true then
    (if x4 = 0 then
      (if inB t_told n_t_toldOthers = true then
      some ((t_told + 1), s1, (t_told + 1), (upd t_toldKinds_a (Int32.toNatClampNeg t_told) x1), (upd t_toldVictims_a (Int32.toNatClampNeg t_told) x2), (upd t_toldOthers_a (Int32.toNatClampNeg t_told) (-1)))
      else none)
    else
      (if inB t_told n_t_toldOthers = true then
      some ((t_told + 1), s1, (t_told + 1), (upd t_toldKinds_a (Int32.toNatClampNeg t_told) x1), (upd t_toldVictims_a (Int32.toNatClampNeg t_told) x2), (upd t_toldOthers_a (Int32.toNatClampNeg t_told) x3))
      else none))
    else none)
    else none)
  else
    some (0, s1, t_told, t_toldKinds_a, t_toldVictims_a, t_toldOthers_a))
def f_RF_fault_124 (n_t_toldKinds : Nat) (n_t_toldVictims : Nat) (n_t_toldOthers : Nat) (t_told : Int32) (t_toldKinds_a : Nat → Int32) (t_toldVictims_a : Nat → Int32) (t_toldOthers_a : Nat → Int32) (x1 : Int32) (x2 : Int32) (x3 : Int32) (x4 : Int32) : Option (Int32 × Int32 × Int32 × (Nat → Int32) × (Nat → Int32) × (Nat → Int32)) :=
  (f_RF_fault_129 n_t_toldKinds n_t_toldVictims n_t_toldOthers t_told t_toldKinds_a t_toldVictims_a t_toldOthers_a 3 x1 x2 x3 x4)
def f_RF_fault_128 (n_t_toldKinds : Nat) (n_t_toldVictims : Nat) (n_t_toldOthers : Nat) (t_told : Int32) (t_toldKinds_a : Nat → Int32) (t_toldVictims_a : Nat → Int32) (t_toldOthers_a : Nat → Int32) (x1 : Int32) (x2 : Int32) (x3 : Int32) (x4 : Int32) : Option (Int32 × Int32 × Int32 × (Nat → Int32) × (Nat → Int32) × (Nat → Int32)) :=
  (f_RF_fault_129 n_t_toldKinds n_t_toldVictims n_t_toldOthers t_told t_toldKinds_a t_toldVictims_a t_toldOthers_a 0 x1 x2 x3 x4)
def f_RF_fault_80 (n_t_toldKinds : Nat) (n_t_toldVictims : Nat) (n_t_toldOthers : Nat) (t_told : Int32) (t_toldKinds_a : Nat → Int32) (t_toldVictims_a : Nat → Int32) (t_toldOthers_a : Nat → Int32) (s0 : Int32) (x1 : Int32) (x2 : Int32) (x3 : Int32) (x4 : Int32) : Option (Int32 × Int32 × Int32 × (Nat → Int32) × (Nat → Int32) × (Nat → Int32)) :=
  (if s0 = 0 then
    (f_RF_fault_129 n_t_toldKinds n_t_toldVictims n_t_toldOthers t_told t_toldKinds_a t_toldVictims_a t_toldOthers_a 1 x1 x2 x3 x4)
  else
    (if t_told = 4 then
      (f_RF_fault_129 n_t_toldKinds n_t_toldVictims n_t_toldOthers t_told t_toldKinds_a t_toldVictims_a t_toldOthers_a 2 x1 x2 x3 x4)
    else
      (if x1 < 0 then
        (f_RF_fault_124 n_t_toldKinds n_t_toldVictims n_t_toldOthers t_told t_toldKinds_a t_toldVictims_a t_toldOthers_a x1 x2 x3 x4)
      else
        (if 13 < x1 then
          (f_RF_fault_124 n_t_toldKinds n_t_toldVictims n_t_toldOthers t_told t_toldKinds_a t_toldVictims_a t_toldOthers_a x1 x2 x3 x4)
        else
          (if x4 = 0 then
            (f_RF_fault_128 n_t_toldKinds n_t_toldVictims n_t_toldOthers t_told t_toldKinds_a t_toldVictims_a t_toldOthers_a x1 x2 x3 x4)
          else
            (if x2 = x3 then
              (f_RF_fault_124 n_t_toldKinds n_t_toldVictims n_t_toldOthers t_told t_toldKinds_a t_toldVictims_a t_toldOthers_a x1 x2 x3 x4)
            else
              (f_RF_fault_128 n_t_toldKinds n_t_toldVictims n_t_toldOthers t_told t_toldKinds_a t_toldVictims_a t_toldOthers_a x1 x2 x3 x4)))))))
def f_RF_fault_79 (n_t_toldKinds : Nat) (n_t_toldVictims : Nat) (n_t_toldOthers : Nat) (t_told : Int32) (t_toldKinds_a : Nat → Int32) (t_toldVictims_a : Nat → Int32) (t_toldOthers_a : Nat → Int32) (x1 : Int32) (x2 : Int32) (x3 : Int32) (x4 : Int32) : Option (Int32 × Int32 × Int32 × (Nat → Int32) × (Nat → Int32) × (Nat → Int32)) :=
  (f_RF_fault_80 n_t_toldKinds n_t_toldVictims n_t_toldOthers t_told t_toldKinds_a t_toldVictims_a t_toldOthers_a 0 x1 x2 x3 x4)
def f_RF_fault_75 (n_t_toldKinds : Nat) (n_t_toldVictims : Nat) (n_t_toldOthers : Nat) (t_told : Int32) (t_toldKinds_a : Nat → Int32) (t_toldVictims_a : Nat → Int32) (t_toldOthers_a : Nat → Int32) (x1 : Int32) (x2 : Int32) (x3 : Int32) (x4 : Int32) : Option (Int32 × Int32 × Int32 × (Nat → Int32) × (Nat → Int32) × (Nat → Int32)) :=
  (f_RF_fault_80 n_t_toldKinds n_t_toldVictims n_t_toldOthers t_told t_toldKinds_a t_toldVictims_a t_toldOthers_a 1 x1 x2 x3 x4)
def f_RF_fault_34 (n_t_toldKinds : Nat) (n_t_toldVictims : Nat) (n_t_toldOthers : Nat) (t_words : Int32) (t_bits : Int32) (t_told : Int32) (t_toldKinds_a : Nat → Int32) (t_toldVictims_a : Nat → Int32) (t_toldOthers_a : Nat → Int32) (s0 : Int32) (x1 : Int32) (x2 : Int32) (x3 : Int32) : Option (Int32 × Int32 × Int32 × (Nat → Int32) × (Nat → Int32) × (Nat → Int32)) :=
  (if x2 < 0 then
    (f_RF_fault_79 n_t_toldKinds n_t_toldVictims n_t_toldOthers t_told t_toldKinds_a t_toldVictims_a t_toldOthers_a x1 x2 x3 s0)
  else
    (if (t_words * t_bits) ≤ x2 then
      (f_RF_fault_79 n_t_toldKinds n_t_toldVictims n_t_toldOthers t_told t_toldKinds_a t_toldVictims_a t_toldOthers_a x1 x2 x3 s0)
    else
      (if s0 = 0 then
        (f_RF_fault_75 n_t_toldKinds n_t_toldVictims n_t_toldOthers t_told t_toldKinds_a t_toldVictims_a t_toldOthers_a x1 x2 x3 s0)
      else
        (if x3 < 0 then
          (f_RF_fault_79 n_t_toldKinds n_t_toldVictims n_t_toldOthers t_told t_toldKinds_a t_toldVictims_a t_toldOthers_a x1 x2 x3 s0)
        else
          (if (t_words * t_bits) ≤ x3 then
            (f_RF_fault_79 n_t_toldKinds n_t_toldVictims n_t_toldOthers t_told t_toldKinds_a t_toldVictims_a t_toldOthers_a x1 x2 x3 s0)
          else
            (f_RF_fault_75 n_t_toldKinds n_t_toldVictims n_t_toldOthers t_told t_toldKinds_a t_toldVictims_a t_toldOthers_a x1 x2 x3 s0))))))
def f_RF_fault_33 (n_t_toldKinds : Nat) (n_t_toldVictims : Nat) (n_t_toldOthers : Nat) (t_words : Int32) (t_bits : Int32) (t_told : Int32) (t_toldKinds_a : Nat → Int32) (t_toldVictims_a : Nat → Int32) (t_toldOthers_a : Nat → Int32) (x1 : Int32) (x2 : Int32) (x3 : Int32) : Option (Int32 × Int32 × Int32 × (Nat → Int32) × (Nat → Int32) × (Nat → Int32)) :=
  (f_RF_fault_34 n_t_toldKinds n_t_toldVictims n_t_toldOthers t_words t_bits t_told t_toldKinds_a t_toldVictims_a t_toldOthers_a 0 x1 x2 x3)
def f_RF_fault (n_t_toldKinds : Nat) (n_t_toldVictims : Nat) (n_t_toldOthers : Nat) (t_words : Int32) (t_bits : Int32) (t_told : Int32) (t_toldKinds_a : Nat → Int32) (t_toldVictims_a : Nat → Int32) (t_toldOthers_a : Nat → Int32) (a1 : Int32) (a2 : Int32) (a3 : Int32) : Option (Int32 × Int32 × Int32 × (Nat → Int32) × (Nat → Int32) × (Nat → Int32)) :=
  (if a1 = (-1) then
    some (0, 0, 0, t_toldKinds_a, t_toldVictims_a, t_toldOthers_a)
  else
    (if a1 < 10 then
      (f_RF_fault_33 n_t_toldKinds n_t_toldVictims n_t_toldOthers t_words t_bits t_told t_toldKinds_a t_toldVictims_a t_toldOthers_a a1 a2 a3)
    else
      (if 13 < a1 then
        (f_RF_fault_33 n_t_toldKinds n_t_toldVictims n_t_toldOthers t_words t_bits t_told t_toldKinds_a t_toldVictims_a t_toldOthers_a a1 a2 a3)
      else
        (f_RF_fault_34 n_t_toldKinds n_t_toldVictims n_t_toldOthers t_words t_bits t_told t_toldKinds_a t_toldVictims_a t_toldOthers_a 1 a1 a2 a3))))
def post_RF_fault (h_t h_t_toldKinds h_t_toldVictims h_t_toldOthers : Nat) (v_t_cells v_t_sense v_t_kinds v_t_victims v_t_others v_t_faults v_t_ground v_t_ports v_t_scrambled v_t_places v_t_sorts v_t_counts v_t_operations v_t_elements v_t_newSorts v_t_newCounts v_t_newOperations v_t_tape v_t_tapeSize v_t_place v_t_failed v_t_failedCount v_t_keeps v_t_some v_t_repairedRows v_t_repairedColumns v_t_proof : Value) (n_t_toldKinds : Nat) (n_t_toldVictims : Nat) (n_t_toldOthers : Nat) (t_words : Int32) (t_bits : Int32) (cI cB cJ : ClassId) (res : Int32 × Int32 × Int32 × (Nat → Int32) × (Nat → Int32) × (Nat → Int32)) : Option Value → va_W → Prop := fun o ws' => o = some (.int res.1) ∧ ws' = [(h_t, .inr (1, [.int res.2.1, .int t_words, .int t_bits, v_t_cells, v_t_sense, v_t_kinds, v_t_victims, v_t_others, v_t_faults, .ref h_t_toldKinds, .ref h_t_toldVictims, .ref h_t_toldOthers, .int res.2.2.1, v_t_ground, v_t_ports, v_t_scrambled, v_t_places, v_t_sorts, v_t_counts, v_t_operations, v_t_elements, v_t_newSorts, v_t_newCounts, v_t_newOperations, v_t_tape, v_t_tapeSize, v_t_place, v_t_failed, v_t_failedCount, v_t_keeps, v_t_some, v_t_repairedRows, v_t_repairedColumns, v_t_proof])), (h_t_toldKinds, .inl (cI, n_t_toldKinds, .inl res.2.2.2.1)), (h_t_toldVictims, .inl (cI, n_t_toldVictims, .inl res.2.2.2.2.1)), (h_t_toldOthers, .inl (cI, n_t_toldOthers, .inl res.2.2.2.2.2))]
abbrev rm_RF_fault : Room := { frames := 0, cells := 0, slots := 0, locals := 0 }
set_option maxHeartbeats 4000000 in
set_option maxRecDepth 100000 in
theorem k_RF_fault_129 {p : Program} {l : Launch} {e : Env} {s : State} {m : MethodId} {args : Array Value} {below : List Frame} {meth : Method} {c : Code} {D : va_G} {cI cB cJ : ClassId} {A : Nat → Prop} (C0 : CX p s m args meth c D [(cI, .int), (cB, .byte), (cJ, .long)] R_RF b_RF_fault 6 (some .int) "fault") (hA : ∀ q, s.heap.size ≤ q → A q) {h_t h_t_toldKinds h_t_toldVictims h_t_toldOthers : Nat} {v_t_cells v_t_sense v_t_kinds v_t_victims v_t_others v_t_faults v_t_ground v_t_ports v_t_scrambled v_t_places v_t_sorts v_t_counts v_t_operations v_t_elements v_t_newSorts v_t_newCounts v_t_newOperations v_t_tape v_t_tapeSize v_t_place v_t_failed v_t_failedCount v_t_keeps v_t_some v_t_repairedRows v_t_repairedColumns v_t_proof : Value} {res : Int32 × Int32 × Int32 × (Nat → Int32) × (Nat → Int32) × (Nat → Int32)} {n_t_toldKinds : Nat} {n_t_toldVictims : Nat} {n_t_toldOthers : Nat} {t_thrown : Int32} {t_words : Int32} {t_bits : Int32} {t_told : Int32} {t_toldKinds_a : Nat → Int32} {t_toldVictims_a : Nat → Int32} {t_toldOthers_a : Nat → Int32} {s1 : Int32} {x1 : Int32} {x2 : Int32} {x3 : Int32} {x4 : Int32}
    (hf : f_RF_fault_129 n_t_toldKinds n_t_toldVictims n_t_toldOthers t_told t_toldKinds_a t_toldVictims_a t_toldOthers_a s1 x1 x2 x3 x4 = some res) {H : Heap} {locs : List Loc} {ls : Array Slot} (hP : va_P D classes [(h_t, .inr (1, [.int t_thrown, .int t_words, .int t_bits, v_t_cells, v_t_sense, v_t_kinds, v_t_victims, v_t_others, v_t_faults, .ref h_t_toldKinds, .ref h_t_toldVictims, .ref h_t_toldOthers, .int t_told, v_t_ground, v_t_ports, v_t_scrambled, v_t_places, v_t_sorts, v_t_counts, v_t_operations, v_t_elements, v_t_newSorts, v_t_newCounts, v_t_newOperations, v_t_tape, v_t_tapeSize, v_t_place, v_t_failed, v_t_failedCount, v_t_keeps, v_t_some, v_t_repairedRows, v_t_repairedColumns, v_t_proof])), (h_t_toldKinds, .inl (cI, n_t_toldKinds, .inl t_toldKinds_a)), (h_t_toldVictims, .inl (cI, n_t_toldVictims, .inl t_toldVictims_a)), (h_t_toldOthers, .inl (cI, n_t_toldOthers, .inl t_toldOthers_a))] H) (hD : va_D A [(h_t, .inr (1, [.int t_thrown, .int t_words, .int t_bits, v_t_cells, v_t_sense, v_t_kinds, v_t_victims, v_t_others, v_t_faults, .ref h_t_toldKinds, .ref h_t_toldVictims, .ref h_t_toldOthers, .int t_told, v_t_ground, v_t_ports, v_t_scrambled, v_t_places, v_t_sorts, v_t_counts, v_t_operations, v_t_elements, v_t_newSorts, v_t_newCounts, v_t_newOperations, v_t_tape, v_t_tapeSize, v_t_place, v_t_failed, v_t_failedCount, v_t_keeps, v_t_some, v_t_repairedRows, v_t_repairedColumns, v_t_proof])), (h_t_toldKinds, .inl (cI, n_t_toldKinds, .inl t_toldKinds_a)), (h_t_toldVictims, .inl (cI, n_t_toldVictims, .inl t_toldVictims_a)), (h_t_toldOthers, .inl (cI, n_t_toldOthers, .inl t_toldOthers_a))]) (hS : va_S A s.heap H locs) (hl : lv_has ls 6 [(0, .ref h_t), (1, .int x1), (2, .int x2), (3, .int x3), (4, .int x4)]) : W p l e rm_RF_fault s m args below meth c H locs 0 0 (MQ below (QW D (post_RF_fault h_t h_t_toldKinds h_t_toldVictims h_t_toldOthers v_t_cells v_t_sense v_t_kinds v_t_victims v_t_others v_t_faults v_t_ground v_t_ports v_t_scrambled v_t_places v_t_sorts v_t_counts v_t_operations v_t_elements v_t_newSorts v_t_newCounts v_t_newOperations v_t_tape v_t_tapeSize v_t_place v_t_failed v_t_failedCount v_t_keeps v_t_some v_t_repairedRows v_t_repairedColumns v_t_proof n_t_toldKinds n_t_toldVictims n_t_toldOthers t_words t_bits cI cB cJ res) A) args s 0 0 A) (F0 m 129 ls [.int s1, .ref h_t]) := by
  obtain ⟨hx, hb, hml, hr, hlocks, hts, hown, hK, hin⟩ := id C0
  have hf : (((
  (if s1 ≤ 0 then
    (if inB t_told n_t_toldKinds = true then
    (if inB t_told n_t_toldVictims = true then
    (if x4 = 0 then
      (if inB t_told n_t_toldOthers = true then
      some ((t_told + 1), s1, (t_told + 1), (upd t_toldKinds_a (Int32.toNatClampNeg t_told) x1), (upd t_toldVictims_a (Int32.toNatClampNeg t_told) x2), (upd t_toldOthers_a (Int32.toNatClampNeg t_told) (-1)))
      else none)
    else
      (if inB t_told n_t_toldOthers = true then
      some ((t_told + 1), s1, (t_told + 1), (upd t_toldKinds_a (Int32.toNatClampNeg t_told) x1), (upd t_toldVictims_a (Int32.toNatClampNeg t_told) x2), (upd t_toldOthers_a (Int32.toNatClampNeg t_told) x3))
      else none))
    else none)
    else none)
  else
    some (0, s1, t_told, t_toldKinds_a, t_toldVictims_a, t_toldOthers_a)))) : Option (Int32 × Int32 × Int32 × (Nat → Int32) × (Nat → Int32) × (Nat → Int32))) = some res := hf
  refine va_put (D := D) (ci := 1) (v := .int s1) (ty := .int) (C := R_RF) (T := F_RF) (N := 34) hx hb hts i_RF t_RF t_RF_ok n_RF hown hK.1 hP hD hS 0 rfl rfl 0 (by decide) (hts _ w_387) (fun _ h9 => h9) rfl (t_RF_ok 0 (by decide)) rfl rfl (Nat.le_of_ble_eq_true rfl) d_RF_fault_129 (fun H locs hP hD hS => ?_)
  have hP : va_P D classes [(h_t, .inr (1, [.int s1, .int t_words, .int t_bits, v_t_cells, v_t_sense, v_t_kinds, v_t_victims, v_t_others, v_t_faults, .ref h_t_toldKinds, .ref h_t_toldVictims, .ref h_t_toldOthers, .int t_told, v_t_ground, v_t_ports, v_t_scrambled, v_t_places, v_t_sorts, v_t_counts, v_t_operations, v_t_elements, v_t_newSorts, v_t_newCounts, v_t_newOperations, v_t_tape, v_t_tapeSize, v_t_place, v_t_failed, v_t_failedCount, v_t_keeps, v_t_some, v_t_repairedRows, v_t_repairedColumns, v_t_proof])), (h_t_toldKinds, .inl (cI, n_t_toldKinds, .inl t_toldKinds_a)), (h_t_toldVictims, .inl (cI, n_t_toldVictims, .inl t_toldVictims_a)), (h_t_toldOthers, .inl (cI, n_t_toldOthers, .inl t_toldOthers_a))] H := hP
  have hD : va_D A [(h_t, .inr (1, [.int s1, .int t_words, .int t_bits, v_t_cells, v_t_sense, v_t_kinds, v_t_victims, v_t_others, v_t_faults, .ref h_t_toldKinds, .ref h_t_toldVictims, .ref h_t_toldOthers, .int t_told, v_t_ground, v_t_ports, v_t_scrambled, v_t_places, v_t_sorts, v_t_counts, v_t_operations, v_t_elements, v_t_newSorts, v_t_newCounts, v_t_newOperations, v_t_tape, v_t_tapeSize, v_t_place, v_t_failed, v_t_failedCount, v_t_keeps, v_t_some, v_t_repairedRows, v_t_repairedColumns, v_t_proof])), (h_t_toldKinds, .inl (cI, n_t_toldKinds, .inl t_toldKinds_a)), (h_t_toldVictims, .inl (cI, n_t_toldVictims, .inl t_toldVictims_a)), (h_t_toldOthers, .inl (cI, n_t_toldOthers, .inl t_toldOthers_a))] := hD
  refine lv_aload_n hx hb d_RF_fault_132 rfl (lv_at hl 0 rfl) ?_
  refine va_get (D := D) (ci := 1) (v := .int s1) (C := R_RF) (T := F_RF) (N := 34) hx hb hts i_RF hown hK.1 hP 0 rfl rfl 0 (by decide) (hts _ w_387) (fun _ h9 => h9) rfl d_RF_fault_133 ?_
  refine lv_if_le (tgt := 141) hx hb d_RF_fault_136 (by decide) (fun cc136 => ?_) (fun cc136 => ?_)
  · have hf := ifT cc136 hf
    refine lv_aload_n hx hb d_RF_fault_141 rfl (lv_at hl 0 rfl) ?_
    refine va_get (D := D) (ci := 1) (v := .ref h_t_toldKinds) (C := R_RF) (T := F_RF) (N := 34) hx hb hts i_RF hown hK.1 hP 0 rfl rfl 9 (by decide) (hts _ w_371) (fun _ h9 => h9) rfl d_RF_fault_142 ?_
    refine lv_aload_n hx hb d_RF_fault_145 rfl (lv_at hl 0 rfl) ?_
    refine va_get (D := D) (ci := 1) (v := .int t_told) (C := R_RF) (T := F_RF) (N := 34) hx hb hts i_RF hown hK.1 hP 0 rfl rfl 12 (by decide) (hts _ w_437) (fun _ h9 => h9) rfl d_RF_fault_146 ?_
    refine lv_iload_n hx hb d_RF_fault_149 rfl (lv_at hl 1 rfl) ?_
    obtain ⟨hin1, hf⟩ := ifG hf
    refine va_iast hx hb hK.1 hP hD hS 1 0 rfl rfl (inB_in hin1) d_RF_fault_150 (fun H locs hP hD hS => ?_)
    have hP : va_P D classes [(h_t, .inr (1, [.int s1, .int t_words, .int t_bits, v_t_cells, v_t_sense, v_t_kinds, v_t_victims, v_t_others, v_t_faults, .ref h_t_toldKinds, .ref h_t_toldVictims, .ref h_t_toldOthers, .int t_told, v_t_ground, v_t_ports, v_t_scrambled, v_t_places, v_t_sorts, v_t_counts, v_t_operations, v_t_elements, v_t_newSorts, v_t_newCounts, v_t_newOperations, v_t_tape, v_t_tapeSize, v_t_place, v_t_failed, v_t_failedCount, v_t_keeps, v_t_some, v_t_repairedRows, v_t_repairedColumns, v_t_proof])), (h_t_toldKinds, .inl (cI, n_t_toldKinds, .inl (upd t_toldKinds_a (Int32.toNatClampNeg t_told) x1))), (h_t_toldVictims, .inl (cI, n_t_toldVictims, .inl t_toldVictims_a)), (h_t_toldOthers, .inl (cI, n_t_toldOthers, .inl t_toldOthers_a))] H := hP
    have hD : va_D A [(h_t, .inr (1, [.int s1, .int t_words, .int t_bits, v_t_cells, v_t_sense, v_t_kinds, v_t_victims, v_t_others, v_t_faults, .ref h_t_toldKinds, .ref h_t_toldVictims, .ref h_t_toldOthers, .int t_told, v_t_ground, v_t_ports, v_t_scrambled, v_t_places, v_t_sorts, v_t_counts, v_t_operations, v_t_elements, v_t_newSorts, v_t_newCounts, v_t_newOperations, v_t_tape, v_t_tapeSize, v_t_place, v_t_failed, v_t_failedCount, v_t_keeps, v_t_some, v_t_repairedRows, v_t_repairedColumns, v_t_proof])), (h_t_toldKinds, .inl (cI, n_t_toldKinds, .inl (upd t_toldKinds_a (Int32.toNatClampNeg t_told) x1))), (h_t_toldVictims, .inl (cI, n_t_toldVictims, .inl t_toldVictims_a)), (h_t_toldOthers, .inl (cI, n_t_toldOthers, .inl t_toldOthers_a))] := hD
    refine lv_aload_n hx hb d_RF_fault_151 rfl (lv_at hl 0 rfl) ?_
    refine va_get (D := D) (ci := 1) (v := .ref h_t_toldVictims) (C := R_RF) (T := F_RF) (N := 34) hx hb hts i_RF hown hK.1 hP 0 rfl rfl 10 (by decide) (hts _ w_372) (fun _ h9 => h9) rfl d_RF_fault_152 ?_
    refine lv_aload_n hx hb d_RF_fault_155 rfl (lv_at hl 0 rfl) ?_
    refine va_get (D := D) (ci := 1) (v := .int t_told) (C := R_RF) (T := F_RF) (N := 34) hx hb hts i_RF hown hK.1 hP 0 rfl rfl 12 (by decide) (hts _ w_437) (fun _ h9 => h9) rfl d_RF_fault_156 ?_
    refine lv_iload_n hx hb d_RF_fault_159 rfl (lv_at hl 2 rfl) ?_
    obtain ⟨hin1, hf⟩ := ifG hf
    refine va_iast hx hb hK.1 hP hD hS 2 0 rfl rfl (inB_in hin1) d_RF_fault_160 (fun H locs hP hD hS => ?_)
    have hP : va_P D classes [(h_t, .inr (1, [.int s1, .int t_words, .int t_bits, v_t_cells, v_t_sense, v_t_kinds, v_t_victims, v_t_others, v_t_faults, .ref h_t_toldKinds, .ref h_t_toldVictims, .ref h_t_toldOthers, .int t_told, v_t_ground, v_t_ports, v_t_scrambled, v_t_places, v_t_sorts, v_t_counts, v_t_operations, v_t_elements, v_t_newSorts, v_t_newCounts, v_t_newOperations, v_t_tape, v_t_tapeSize, v_t_place, v_t_failed, v_t_failedCount, v_t_keeps, v_t_some, v_t_repairedRows, v_t_repairedColumns, v_t_proof])), (h_t_toldKinds, .inl (cI, n_t_toldKinds, .inl (upd t_toldKinds_a (Int32.toNatClampNeg t_told) x1))), (h_t_toldVictims, .inl (cI, n_t_toldVictims, .inl (upd t_toldVictims_a (Int32.toNatClampNeg t_told) x2))), (h_t_toldOthers, .inl (cI, n_t_toldOthers, .inl t_toldOthers_a))] H := hP
    have hD : va_D A [(h_t, .inr (1, [.int s1, .int t_words, .int t_bits, v_t_cells, v_t_sense, v_t_kinds, v_t_victims, v_t_others, v_t_faults, .ref h_t_toldKinds, .ref h_t_toldVictims, .ref h_t_toldOthers, .int t_told, v_t_ground, v_t_ports, v_t_scrambled, v_t_places, v_t_sorts, v_t_counts, v_t_operations, v_t_elements, v_t_newSorts, v_t_newCounts, v_t_newOperations, v_t_tape, v_t_tapeSize, v_t_place, v_t_failed, v_t_failedCount, v_t_keeps, v_t_some, v_t_repairedRows, v_t_repairedColumns, v_t_proof])), (h_t_toldKinds, .inl (cI, n_t_toldKinds, .inl (upd t_toldKinds_a (Int32.toNatClampNeg t_told) x1))), (h_t_toldVictims, .inl (cI, n_t_toldVictims, .inl (upd t_toldVictims_a (Int32.toNatClampNeg t_told) x2))), (h_t_toldOthers, .inl (cI, n_t_toldOthers, .inl t_toldOthers_a))] := hD
    refine lv_aload_n hx hb d_RF_fault_161 rfl (lv_at hl 0 rfl) ?_
    refine va_get (D := D) (ci := 1) (v := .ref h_t_toldOthers) (C := R_RF) (T := F_RF) (N := 34) hx hb hts i_RF hown hK.1 hP 0 rfl rfl 11 (by decide) (hts _ w_373) (fun _ h9 => h9) rfl d_RF_fault_162 ?_
    refine lv_aload_n hx hb d_RF_fault_165 rfl (lv_at hl 0 rfl) ?_
    refine va_get (D := D) (ci := 1) (v := .int t_told) (C := R_RF) (T := F_RF) (N := 34) hx hb hts i_RF hown hK.1 hP 0 rfl rfl 12 (by decide) (hts _ w_437) (fun _ h9 => h9) rfl d_RF_fault_166 ?_
    refine lv_iload hx hb d_RF_fault_169 (lv_at hl 4 rfl) ?_
    refine lv_if_eq (tgt := 178) hx hb d_RF_fault_171 (by decide) (fun cc171 => ?_) (fun cc171 => ?_)
    · have hf := ifT cc171 hf
      refine lv_iconst (v := (-1)) hx hb d_RF_fault_178 (by decide) ?_
      obtain ⟨hin1, hf⟩ := ifG hf
      refine va_iast hx hb hK.1 hP hD hS 3 0 rfl rfl (inB_in hin1) d_RF_fault_179 (fun H locs hP hD hS => ?_)
      have hP : va_P D classes [(h_t, .inr (1, [.int s1, .int t_words, .int t_bits, v_t_cells, v_t_sense, v_t_kinds, v_t_victims, v_t_others, v_t_faults, .ref h_t_toldKinds, .ref h_t_toldVictims, .ref h_t_toldOthers, .int t_told, v_t_ground, v_t_ports, v_t_scrambled, v_t_places, v_t_sorts, v_t_counts, v_t_operations, v_t_elements, v_t_newSorts, v_t_newCounts, v_t_newOperations, v_t_tape, v_t_tapeSize, v_t_place, v_t_failed, v_t_failedCount, v_t_keeps, v_t_some, v_t_repairedRows, v_t_repairedColumns, v_t_proof])), (h_t_toldKinds, .inl (cI, n_t_toldKinds, .inl (upd t_toldKinds_a (Int32.toNatClampNeg t_told) x1))), (h_t_toldVictims, .inl (cI, n_t_toldVictims, .inl (upd t_toldVictims_a (Int32.toNatClampNeg t_told) x2))), (h_t_toldOthers, .inl (cI, n_t_toldOthers, .inl (upd t_toldOthers_a (Int32.toNatClampNeg t_told) (-1))))] H := hP
      have hD : va_D A [(h_t, .inr (1, [.int s1, .int t_words, .int t_bits, v_t_cells, v_t_sense, v_t_kinds, v_t_victims, v_t_others, v_t_faults, .ref h_t_toldKinds, .ref h_t_toldVictims, .ref h_t_toldOthers, .int t_told, v_t_ground, v_t_ports, v_t_scrambled, v_t_places, v_t_sorts, v_t_counts, v_t_operations, v_t_elements, v_t_newSorts, v_t_newCounts, v_t_newOperations, v_t_tape, v_t_tapeSize, v_t_place, v_t_failed, v_t_failedCount, v_t_keeps, v_t_some, v_t_repairedRows, v_t_repairedColumns, v_t_proof])), (h_t_toldKinds, .inl (cI, n_t_toldKinds, .inl (upd t_toldKinds_a (Int32.toNatClampNeg t_told) x1))), (h_t_toldVictims, .inl (cI, n_t_toldVictims, .inl (upd t_toldVictims_a (Int32.toNatClampNeg t_told) x2))), (h_t_toldOthers, .inl (cI, n_t_toldOthers, .inl (upd t_toldOthers_a (Int32.toNatClampNeg t_told) (-1))))] := hD
      refine lv_aload_n hx hb d_RF_fault_180 rfl (lv_at hl 0 rfl) ?_
      refine lv_dup hx hb d_RF_fault_181 rfl ?_
      refine va_get (D := D) (ci := 1) (v := .int t_told) (C := R_RF) (T := F_RF) (N := 34) hx hb hts i_RF hown hK.1 hP 0 rfl rfl 12 (by decide) (hts _ w_437) (fun _ h9 => h9) rfl d_RF_fault_182 ?_
      refine lv_iconst (v := 1) hx hb d_RF_fault_185 (by decide) ?_
      refine lv_iadd hx hb d_RF_fault_186 ?_
      refine va_put (D := D) (ci := 1) (v := .int (t_told + 1)) (ty := .int) (C := R_RF) (T := F_RF) (N := 34) hx hb hts i_RF t_RF t_RF_ok n_RF hown hK.1 hP hD hS 0 rfl rfl 12 (by decide) (hts _ w_437) (fun _ h9 => h9) rfl (t_RF_ok 12 (by decide)) rfl rfl (Nat.le_of_ble_eq_true rfl) d_RF_fault_187 (fun H locs hP hD hS => ?_)
      have hP : va_P D classes [(h_t, .inr (1, [.int s1, .int t_words, .int t_bits, v_t_cells, v_t_sense, v_t_kinds, v_t_victims, v_t_others, v_t_faults, .ref h_t_toldKinds, .ref h_t_toldVictims, .ref h_t_toldOthers, .int (t_told + 1), v_t_ground, v_t_ports, v_t_scrambled, v_t_places, v_t_sorts, v_t_counts, v_t_operations, v_t_elements, v_t_newSorts, v_t_newCounts, v_t_newOperations, v_t_tape, v_t_tapeSize, v_t_place, v_t_failed, v_t_failedCount, v_t_keeps, v_t_some, v_t_repairedRows, v_t_repairedColumns, v_t_proof])), (h_t_toldKinds, .inl (cI, n_t_toldKinds, .inl (upd t_toldKinds_a (Int32.toNatClampNeg t_told) x1))), (h_t_toldVictims, .inl (cI, n_t_toldVictims, .inl (upd t_toldVictims_a (Int32.toNatClampNeg t_told) x2))), (h_t_toldOthers, .inl (cI, n_t_toldOthers, .inl (upd t_toldOthers_a (Int32.toNatClampNeg t_told) (-1))))] H := hP
      have hD : va_D A [(h_t, .inr (1, [.int s1, .int t_words, .int t_bits, v_t_cells, v_t_sense, v_t_kinds, v_t_victims, v_t_others, v_t_faults, .ref h_t_toldKinds, .ref h_t_toldVictims, .ref h_t_toldOthers, .int (t_told + 1), v_t_ground, v_t_ports, v_t_scrambled, v_t_places, v_t_sorts, v_t_counts, v_t_operations, v_t_elements, v_t_newSorts, v_t_newCounts, v_t_newOperations, v_t_tape, v_t_tapeSize, v_t_place, v_t_failed, v_t_failedCount, v_t_keeps, v_t_some, v_t_repairedRows, v_t_repairedColumns, v_t_proof])), (h_t_toldKinds, .inl (cI, n_t_toldKinds, .inl (upd t_toldKinds_a (Int32.toNatClampNeg t_told) x1))), (h_t_toldVictims, .inl (cI, n_t_toldVictims, .inl (upd t_toldVictims_a (Int32.toNatClampNeg t_told) x2))), (h_t_toldOthers, .inl (cI, n_t_toldOthers, .inl (upd t_toldOthers_a (Int32.toNatClampNeg t_told) (-1))))] := hD
      refine lv_aload_n hx hb d_RF_fault_190 rfl (lv_at hl 0 rfl) ?_
      refine va_get (D := D) (ci := 1) (v := .int (t_told + 1)) (C := R_RF) (T := F_RF) (N := 34) hx hb hts i_RF hown hK.1 hP 0 rfl rfl 12 (by decide) (hts _ w_437) (fun _ h9 => h9) rfl d_RF_fault_191 ?_
      obtain rfl := Option.some.inj hf
      exact ret_i hx hb hr hlocks hP hD hS ⟨rfl, rfl⟩ d_RF_fault_194
    · have hf := ifF cc171 hf
      refine lv_iload_n hx hb d_RF_fault_174 rfl (lv_at hl 3 rfl) ?_
      refine lv_goto (tgt := 179) hx hb d_RF_fault_175 (by decide) ?_
      obtain ⟨hin1, hf⟩ := ifG hf
      refine va_iast hx hb hK.1 hP hD hS 3 0 rfl rfl (inB_in hin1) d_RF_fault_179 (fun H locs hP hD hS => ?_)
      have hP : va_P D classes [(h_t, .inr (1, [.int s1, .int t_words, .int t_bits, v_t_cells, v_t_sense, v_t_kinds, v_t_victims, v_t_others, v_t_faults, .ref h_t_toldKinds, .ref h_t_toldVictims, .ref h_t_toldOthers, .int t_told, v_t_ground, v_t_ports, v_t_scrambled, v_t_places, v_t_sorts, v_t_counts, v_t_operations, v_t_elements, v_t_newSorts, v_t_newCounts, v_t_newOperations, v_t_tape, v_t_tapeSize, v_t_place, v_t_failed, v_t_failedCount, v_t_keeps, v_t_some, v_t_repairedRows, v_t_repairedColumns, v_t_proof])), (h_t_toldKinds, .inl (cI, n_t_toldKinds, .inl (upd t_toldKinds_a (Int32.toNatClampNeg t_told) x1))), (h_t_toldVictims, .inl (cI, n_t_toldVictims, .inl (upd t_toldVictims_a (Int32.toNatClampNeg t_told) x2))), (h_t_toldOthers, .inl (cI, n_t_toldOthers, .inl (upd t_toldOthers_a (Int32.toNatClampNeg t_told) x3)))] H := hP
      have hD : va_D A [(h_t, .inr (1, [.int s1, .int t_words, .int t_bits, v_t_cells, v_t_sense, v_t_kinds, v_t_victims, v_t_others, v_t_faults, .ref h_t_toldKinds, .ref h_t_toldVictims, .ref h_t_toldOthers, .int t_told, v_t_ground, v_t_ports, v_t_scrambled, v_t_places, v_t_sorts, v_t_counts, v_t_operations, v_t_elements, v_t_newSorts, v_t_newCounts, v_t_newOperations, v_t_tape, v_t_tapeSize, v_t_place, v_t_failed, v_t_failedCount, v_t_keeps, v_t_some, v_t_repairedRows, v_t_repairedColumns, v_t_proof])), (h_t_toldKinds, .inl (cI, n_t_toldKinds, .inl (upd t_toldKinds_a (Int32.toNatClampNeg t_told) x1))), (h_t_toldVictims, .inl (cI, n_t_toldVictims, .inl (upd t_toldVictims_a (Int32.toNatClampNeg t_told) x2))), (h_t_toldOthers, .inl (cI, n_t_toldOthers, .inl (upd t_toldOthers_a (Int32.toNatClampNeg t_told) x3)))] := hD
      refine lv_aload_n hx hb d_RF_fault_180 rfl (lv_at hl 0 rfl) ?_
      refine lv_dup hx hb d_RF_fault_181 rfl ?_
      refine va_get (D := D) (ci := 1) (v := .int t_told) (C := R_RF) (T := F_RF) (N := 34) hx hb hts i_RF hown hK.1 hP 0 rfl rfl 12 (by decide) (hts _ w_437) (fun _ h9 => h9) rfl d_RF_fault_182 ?_
      refine lv_iconst (v := 1) hx hb d_RF_fault_185 (by decide) ?_
      refine lv_iadd hx hb d_RF_fault_186 ?_
      refine va_put (D := D) (ci := 1) (v := .int (t_told + 1)) (ty := .int) (C := R_RF) (T := F_RF) (N := 34) hx hb hts i_RF t_RF t_RF_ok n_RF hown hK.1 hP hD hS 0 rfl rfl 12 (by decide) (hts _ w_437) (fun _ h9 => h9) rfl (t_RF_ok 12 (by decide)) rfl rfl (Nat.le_of_ble_eq_true rfl) d_RF_fault_187 (fun H locs hP hD hS => ?_)
      have hP : va_P D classes [(h_t, .inr (1, [.int s1, .int t_words, .int t_bits, v_t_cells, v_t_sense, v_t_kinds, v_t_victims, v_t_others, v_t_faults, .ref h_t_toldKinds, .ref h_t_toldVictims, .ref h_t_toldOthers, .int (t_told + 1), v_t_ground, v_t_ports, v_t_scrambled, v_t_places, v_t_sorts, v_t_counts, v_t_operations, v_t_elements, v_t_newSorts, v_t_newCounts, v_t_newOperations, v_t_tape, v_t_tapeSize, v_t_place, v_t_failed, v_t_failedCount, v_t_keeps, v_t_some, v_t_repairedRows, v_t_repairedColumns, v_t_proof])), (h_t_toldKinds, .inl (cI, n_t_toldKinds, .inl (upd t_toldKinds_a (Int32.toNatClampNeg t_told) x1))), (h_t_toldVictims, .inl (cI, n_t_toldVictims, .inl (upd t_toldVictims_a (Int32.toNatClampNeg t_told) x2))), (h_t_toldOthers, .inl (cI, n_t_toldOthers, .inl (upd t_toldOthers_a (Int32.toNatClampNeg t_told) x3)))] H := hP
      have hD : va_D A [(h_t, .inr (1, [.int s1, .int t_words, .int t_bits, v_t_cells, v_t_sense, v_t_kinds, v_t_victims, v_t_others, v_t_faults, .ref h_t_toldKinds, .ref h_t_toldVictims, .ref h_t_toldOthers, .int (t_told + 1), v_t_ground, v_t_ports, v_t_scrambled, v_t_places, v_t_sorts, v_t_counts, v_t_operations, v_t_elements, v_t_newSorts, v_t_newCounts, v_t_newOperations, v_t_tape, v_t_tapeSize, v_t_place, v_t_failed, v_t_failedCount, v_t_keeps, v_t_some, v_t_repairedRows, v_t_repairedColumns, v_t_proof])), (h_t_toldKinds, .inl (cI, n_t_toldKinds, .inl (upd t_toldKinds_a (Int32.toNatClampNeg t_told) x1))), (h_t_toldVictims, .inl (cI, n_t_toldVictims, .inl (upd t_toldVictims_a (Int32.toNatClampNeg t_told) x2))), (h_t_toldOthers, .inl (cI, n_t_toldOthers, .inl (upd t_toldOthers_a (Int32.toNatClampNeg t_told) x3)))] := hD
      refine lv_aload_n hx hb d_RF_fault_190 rfl (lv_at hl 0 rfl) ?_
      refine va_get (D := D) (ci := 1) (v := .int (t_told + 1)) (C := R_RF) (T := F_RF) (N := 34) hx hb hts i_RF hown hK.1 hP 0 rfl rfl 12 (by decide) (hts _ w_437) (fun _ h9 => h9) rfl d_RF_fault_191 ?_
      obtain rfl := Option.some.inj hf
      exact ret_i hx hb hr hlocks hP hD hS ⟨rfl, rfl⟩ d_RF_fault_194
  · have hf := ifF cc136 hf
    refine lv_iconst (v := 0) hx hb d_RF_fault_139 (by decide) ?_
    obtain rfl := Option.some.inj hf
    exact ret_i hx hb hr hlocks hP hD hS ⟨rfl, rfl⟩ d_RF_fault_140
set_option maxHeartbeats 4000000 in
set_option maxRecDepth 100000 in
theorem k_RF_fault_124 {p : Program} {l : Launch} {e : Env} {s : State} {m : MethodId} {args : Array Value} {below : List Frame} {meth : Method} {c : Code} {D : va_G} {cI cB cJ : ClassId} {A : Nat → Prop} (C0 : CX p s m args meth c D [(cI, .int), (cB, .byte), (cJ, .long)] R_RF b_RF_fault 6 (some .int) "fault") (hA : ∀ q, s.heap.size ≤ q → A q) {h_t h_t_toldKinds h_t_toldVictims h_t_toldOthers : Nat} {v_t_cells v_t_sense v_t_kinds v_t_victims v_t_others v_t_faults v_t_ground v_t_ports v_t_scrambled v_t_places v_t_sorts v_t_counts v_t_operations v_t_elements v_t_newSorts v_t_newCounts v_t_newOperations v_t_tape v_t_tapeSize v_t_place v_t_failed v_t_failedCount v_t_keeps v_t_some v_t_repairedRows v_t_repairedColumns v_t_proof : Value} {res : Int32 × Int32 × Int32 × (Nat → Int32) × (Nat → Int32) × (Nat → Int32)} {n_t_toldKinds : Nat} {n_t_toldVictims : Nat} {n_t_toldOthers : Nat} {t_thrown : Int32} {t_words : Int32} {t_bits : Int32} {t_told : Int32} {t_toldKinds_a : Nat → Int32} {t_toldVictims_a : Nat → Int32} {t_toldOthers_a : Nat → Int32} {x1 : Int32} {x2 : Int32} {x3 : Int32} {x4 : Int32}
    (hf : f_RF_fault_124 n_t_toldKinds n_t_toldVictims n_t_toldOthers t_told t_toldKinds_a t_toldVictims_a t_toldOthers_a x1 x2 x3 x4 = some res) {H : Heap} {locs : List Loc} {ls : Array Slot} (hP : va_P D classes [(h_t, .inr (1, [.int t_thrown, .int t_words, .int t_bits, v_t_cells, v_t_sense, v_t_kinds, v_t_victims, v_t_others, v_t_faults, .ref h_t_toldKinds, .ref h_t_toldVictims, .ref h_t_toldOthers, .int t_told, v_t_ground, v_t_ports, v_t_scrambled, v_t_places, v_t_sorts, v_t_counts, v_t_operations, v_t_elements, v_t_newSorts, v_t_newCounts, v_t_newOperations, v_t_tape, v_t_tapeSize, v_t_place, v_t_failed, v_t_failedCount, v_t_keeps, v_t_some, v_t_repairedRows, v_t_repairedColumns, v_t_proof])), (h_t_toldKinds, .inl (cI, n_t_toldKinds, .inl t_toldKinds_a)), (h_t_toldVictims, .inl (cI, n_t_toldVictims, .inl t_toldVictims_a)), (h_t_toldOthers, .inl (cI, n_t_toldOthers, .inl t_toldOthers_a))] H) (hD : va_D A [(h_t, .inr (1, [.int t_thrown, .int t_words, .int t_bits, v_t_cells, v_t_sense, v_t_kinds, v_t_victims, v_t_others, v_t_faults, .ref h_t_toldKinds, .ref h_t_toldVictims, .ref h_t_toldOthers, .int t_told, v_t_ground, v_t_ports, v_t_scrambled, v_t_places, v_t_sorts, v_t_counts, v_t_operations, v_t_elements, v_t_newSorts, v_t_newCounts, v_t_newOperations, v_t_tape, v_t_tapeSize, v_t_place, v_t_failed, v_t_failedCount, v_t_keeps, v_t_some, v_t_repairedRows, v_t_repairedColumns, v_t_proof])), (h_t_toldKinds, .inl (cI, n_t_toldKinds, .inl t_toldKinds_a)), (h_t_toldVictims, .inl (cI, n_t_toldVictims, .inl t_toldVictims_a)), (h_t_toldOthers, .inl (cI, n_t_toldOthers, .inl t_toldOthers_a))]) (hS : va_S A s.heap H locs) (hl : lv_has ls 6 [(0, .ref h_t), (1, .int x1), (2, .int x2), (3, .int x3), (4, .int x4)]) : W p l e rm_RF_fault s m args below meth c H locs 0 0 (MQ below (QW D (post_RF_fault h_t h_t_toldKinds h_t_toldVictims h_t_toldOthers v_t_cells v_t_sense v_t_kinds v_t_victims v_t_others v_t_faults v_t_ground v_t_ports v_t_scrambled v_t_places v_t_sorts v_t_counts v_t_operations v_t_elements v_t_newSorts v_t_newCounts v_t_newOperations v_t_tape v_t_tapeSize v_t_place v_t_failed v_t_failedCount v_t_keeps v_t_some v_t_repairedRows v_t_repairedColumns v_t_proof n_t_toldKinds n_t_toldVictims n_t_toldOthers t_words t_bits cI cB cJ res) A) args s 0 0 A) (F0 m 124 ls [.ref h_t]) := by
  obtain ⟨hx, hb, hml, hr, hlocks, hts, hown, hK, hin⟩ := id C0
  have hf : (((
  (f_RF_fault_129 n_t_toldKinds n_t_toldVictims n_t_toldOthers t_told t_toldKinds_a t_toldVictims_a t_toldOthers_a 3 x1 x2 x3 x4))) : Option (Int32 × Int32 × Int32 × (Nat → Int32) × (Nat → Int32) × (Nat → Int32))) = some res := hf
  refine lv_iconst (v := 3) hx hb d_RF_fault_124 (by decide) ?_
  refine lv_goto (tgt := 129) hx hb d_RF_fault_125 (by decide) ?_
  exact k_RF_fault_129 (s := s) C0 hA hf hP hD hS (lv_sub hl [0, 1, 2, 3, 4] rfl)
set_option maxHeartbeats 4000000 in
set_option maxRecDepth 100000 in
theorem k_RF_fault_128 {p : Program} {l : Launch} {e : Env} {s : State} {m : MethodId} {args : Array Value} {below : List Frame} {meth : Method} {c : Code} {D : va_G} {cI cB cJ : ClassId} {A : Nat → Prop} (C0 : CX p s m args meth c D [(cI, .int), (cB, .byte), (cJ, .long)] R_RF b_RF_fault 6 (some .int) "fault") (hA : ∀ q, s.heap.size ≤ q → A q) {h_t h_t_toldKinds h_t_toldVictims h_t_toldOthers : Nat} {v_t_cells v_t_sense v_t_kinds v_t_victims v_t_others v_t_faults v_t_ground v_t_ports v_t_scrambled v_t_places v_t_sorts v_t_counts v_t_operations v_t_elements v_t_newSorts v_t_newCounts v_t_newOperations v_t_tape v_t_tapeSize v_t_place v_t_failed v_t_failedCount v_t_keeps v_t_some v_t_repairedRows v_t_repairedColumns v_t_proof : Value} {res : Int32 × Int32 × Int32 × (Nat → Int32) × (Nat → Int32) × (Nat → Int32)} {n_t_toldKinds : Nat} {n_t_toldVictims : Nat} {n_t_toldOthers : Nat} {t_thrown : Int32} {t_words : Int32} {t_bits : Int32} {t_told : Int32} {t_toldKinds_a : Nat → Int32} {t_toldVictims_a : Nat → Int32} {t_toldOthers_a : Nat → Int32} {x1 : Int32} {x2 : Int32} {x3 : Int32} {x4 : Int32}
    (hf : f_RF_fault_128 n_t_toldKinds n_t_toldVictims n_t_toldOthers t_told t_toldKinds_a t_toldVictims_a t_toldOthers_a x1 x2 x3 x4 = some res) {H : Heap} {locs : List Loc} {ls : Array Slot} (hP : va_P D classes [(h_t, .inr (1, [.int t_thrown, .int t_words, .int t_bits, v_t_cells, v_t_sense, v_t_kinds, v_t_victims, v_t_others, v_t_faults, .ref h_t_toldKinds, .ref h_t_toldVictims, .ref h_t_toldOthers, .int t_told, v_t_ground, v_t_ports, v_t_scrambled, v_t_places, v_t_sorts, v_t_counts, v_t_operations, v_t_elements, v_t_newSorts, v_t_newCounts, v_t_newOperations, v_t_tape, v_t_tapeSize, v_t_place, v_t_failed, v_t_failedCount, v_t_keeps, v_t_some, v_t_repairedRows, v_t_repairedColumns, v_t_proof])), (h_t_toldKinds, .inl (cI, n_t_toldKinds, .inl t_toldKinds_a)), (h_t_toldVictims, .inl (cI, n_t_toldVictims, .inl t_toldVictims_a)), (h_t_toldOthers, .inl (cI, n_t_toldOthers, .inl t_toldOthers_a))] H) (hD : va_D A [(h_t, .inr (1, [.int t_thrown, .int t_words, .int t_bits, v_t_cells, v_t_sense, v_t_kinds, v_t_victims, v_t_others, v_t_faults, .ref h_t_toldKinds, .ref h_t_toldVictims, .ref h_t_toldOthers, .int t_told, v_t_ground, v_t_ports, v_t_scrambled, v_t_places, v_t_sorts, v_t_counts, v_t_operations, v_t_elements, v_t_newSorts, v_t_newCounts, v_t_newOperations, v_t_tape, v_t_tapeSize, v_t_place, v_t_failed, v_t_failedCount, v_t_keeps, v_t_some, v_t_repairedRows, v_t_repairedColumns, v_t_proof])), (h_t_toldKinds, .inl (cI, n_t_toldKinds, .inl t_toldKinds_a)), (h_t_toldVictims, .inl (cI, n_t_toldVictims, .inl t_toldVictims_a)), (h_t_toldOthers, .inl (cI, n_t_toldOthers, .inl t_toldOthers_a))]) (hS : va_S A s.heap H locs) (hl : lv_has ls 6 [(0, .ref h_t), (1, .int x1), (2, .int x2), (3, .int x3), (4, .int x4)]) : W p l e rm_RF_fault s m args below meth c H locs 0 0 (MQ below (QW D (post_RF_fault h_t h_t_toldKinds h_t_toldVictims h_t_toldOthers v_t_cells v_t_sense v_t_kinds v_t_victims v_t_others v_t_faults v_t_ground v_t_ports v_t_scrambled v_t_places v_t_sorts v_t_counts v_t_operations v_t_elements v_t_newSorts v_t_newCounts v_t_newOperations v_t_tape v_t_tapeSize v_t_place v_t_failed v_t_failedCount v_t_keeps v_t_some v_t_repairedRows v_t_repairedColumns v_t_proof n_t_toldKinds n_t_toldVictims n_t_toldOthers t_words t_bits cI cB cJ res) A) args s 0 0 A) (F0 m 128 ls [.ref h_t]) := by
  obtain ⟨hx, hb, hml, hr, hlocks, hts, hown, hK, hin⟩ := id C0
  have hf : (((
  (f_RF_fault_129 n_t_toldKinds n_t_toldVictims n_t_toldOthers t_told t_toldKinds_a t_toldVictims_a t_toldOthers_a 0 x1 x2 x3 x4))) : Option (Int32 × Int32 × Int32 × (Nat → Int32) × (Nat → Int32) × (Nat → Int32))) = some res := hf
  refine lv_iconst (v := 0) hx hb d_RF_fault_128 (by decide) ?_
  exact k_RF_fault_129 (s := s) C0 hA hf hP hD hS (lv_sub hl [0, 1, 2, 3, 4] rfl)
set_option maxHeartbeats 4000000 in
set_option maxRecDepth 100000 in
theorem k_RF_fault_80 {p : Program} {l : Launch} {e : Env} {s : State} {m : MethodId} {args : Array Value} {below : List Frame} {meth : Method} {c : Code} {D : va_G} {cI cB cJ : ClassId} {A : Nat → Prop} (C0 : CX p s m args meth c D [(cI, .int), (cB, .byte), (cJ, .long)] R_RF b_RF_fault 6 (some .int) "fault") (hA : ∀ q, s.heap.size ≤ q → A q) {h_t h_t_toldKinds h_t_toldVictims h_t_toldOthers : Nat} {v_t_cells v_t_sense v_t_kinds v_t_victims v_t_others v_t_faults v_t_ground v_t_ports v_t_scrambled v_t_places v_t_sorts v_t_counts v_t_operations v_t_elements v_t_newSorts v_t_newCounts v_t_newOperations v_t_tape v_t_tapeSize v_t_place v_t_failed v_t_failedCount v_t_keeps v_t_some v_t_repairedRows v_t_repairedColumns v_t_proof : Value} {res : Int32 × Int32 × Int32 × (Nat → Int32) × (Nat → Int32) × (Nat → Int32)} {n_t_toldKinds : Nat} {n_t_toldVictims : Nat} {n_t_toldOthers : Nat} {t_thrown : Int32} {t_words : Int32} {t_bits : Int32} {t_told : Int32} {t_toldKinds_a : Nat → Int32} {t_toldVictims_a : Nat → Int32} {t_toldOthers_a : Nat → Int32} {s0 : Int32} {x1 : Int32} {x2 : Int32} {x3 : Int32} {x4 : Int32}
    (hf : f_RF_fault_80 n_t_toldKinds n_t_toldVictims n_t_toldOthers t_told t_toldKinds_a t_toldVictims_a t_toldOthers_a s0 x1 x2 x3 x4 = some res) {H : Heap} {locs : List Loc} {ls : Array Slot} (hP : va_P D classes [(h_t, .inr (1, [.int t_thrown, .int t_words, .int t_bits, v_t_cells, v_t_sense, v_t_kinds, v_t_victims, v_t_others, v_t_faults, .ref h_t_toldKinds, .ref h_t_toldVictims, .ref h_t_toldOthers, .int t_told, v_t_ground, v_t_ports, v_t_scrambled, v_t_places, v_t_sorts, v_t_counts, v_t_operations, v_t_elements, v_t_newSorts, v_t_newCounts, v_t_newOperations, v_t_tape, v_t_tapeSize, v_t_place, v_t_failed, v_t_failedCount, v_t_keeps, v_t_some, v_t_repairedRows, v_t_repairedColumns, v_t_proof])), (h_t_toldKinds, .inl (cI, n_t_toldKinds, .inl t_toldKinds_a)), (h_t_toldVictims, .inl (cI, n_t_toldVictims, .inl t_toldVictims_a)), (h_t_toldOthers, .inl (cI, n_t_toldOthers, .inl t_toldOthers_a))] H) (hD : va_D A [(h_t, .inr (1, [.int t_thrown, .int t_words, .int t_bits, v_t_cells, v_t_sense, v_t_kinds, v_t_victims, v_t_others, v_t_faults, .ref h_t_toldKinds, .ref h_t_toldVictims, .ref h_t_toldOthers, .int t_told, v_t_ground, v_t_ports, v_t_scrambled, v_t_places, v_t_sorts, v_t_counts, v_t_operations, v_t_elements, v_t_newSorts, v_t_newCounts, v_t_newOperations, v_t_tape, v_t_tapeSize, v_t_place, v_t_failed, v_t_failedCount, v_t_keeps, v_t_some, v_t_repairedRows, v_t_repairedColumns, v_t_proof])), (h_t_toldKinds, .inl (cI, n_t_toldKinds, .inl t_toldKinds_a)), (h_t_toldVictims, .inl (cI, n_t_toldVictims, .inl t_toldVictims_a)), (h_t_toldOthers, .inl (cI, n_t_toldOthers, .inl t_toldOthers_a))]) (hS : va_S A s.heap H locs) (hl : lv_has ls 6 [(0, .ref h_t), (1, .int x1), (2, .int x2), (3, .int x3), (4, .int x4)]) : W p l e rm_RF_fault s m args below meth c H locs 0 0 (MQ below (QW D (post_RF_fault h_t h_t_toldKinds h_t_toldVictims h_t_toldOthers v_t_cells v_t_sense v_t_kinds v_t_victims v_t_others v_t_faults v_t_ground v_t_ports v_t_scrambled v_t_places v_t_sorts v_t_counts v_t_operations v_t_elements v_t_newSorts v_t_newCounts v_t_newOperations v_t_tape v_t_tapeSize v_t_place v_t_failed v_t_failedCount v_t_keeps v_t_some v_t_repairedRows v_t_repairedColumns v_t_proof n_t_toldKinds n_t_toldVictims n_t_toldOthers t_words t_bits cI cB cJ res) A) args s 0 0 A) (F0 m 80 ls [.int s0]) := by
  obtain ⟨hx, hb, hml, hr, hlocks, hts, hown, hK, hin⟩ := id C0
  have hf : (((
  (if s0 = 0 then
    (f_RF_fault_129 n_t_toldKinds n_t_toldVictims n_t_toldOthers t_told t_toldKinds_a t_toldVictims_a t_toldOthers_a 1 x1 x2 x3 x4)
  else
    (if t_told = 4 then
      (f_RF_fault_129 n_t_toldKinds n_t_toldVictims n_t_toldOthers t_told t_toldKinds_a t_toldVictims_a t_toldOthers_a 2 x1 x2 x3 x4)
    else
      (if x1 < 0 then
        (f_RF_fault_124 n_t_toldKinds n_t_toldVictims n_t_toldOthers t_told t_toldKinds_a t_toldVictims_a t_toldOthers_a x1 x2 x3 x4)
      else
        (if 13 < x1 then
          (f_RF_fault_124 n_t_toldKinds n_t_toldVictims n_t_toldOthers t_told t_toldKinds_a t_toldVictims_a t_toldOthers_a x1 x2 x3 x4)
        else
          (if x4 = 0 then
            (f_RF_fault_128 n_t_toldKinds n_t_toldVictims n_t_toldOthers t_told t_toldKinds_a t_toldVictims_a t_toldOthers_a x1 x2 x3 x4)
          else
            (if x2 = x3 then
              (f_RF_fault_124 n_t_toldKinds n_t_toldVictims n_t_toldOthers t_told t_toldKinds_a t_toldVictims_a t_toldOthers_a x1 x2 x3 x4)
            else
              (f_RF_fault_128 n_t_toldKinds n_t_toldVictims n_t_toldOthers t_told t_toldKinds_a t_toldVictims_a t_toldOthers_a x1 x2 x3 x4))))))))) : Option (Int32 × Int32 × Int32 × (Nat → Int32) × (Nat → Int32) × (Nat → Int32))) = some res := hf
  refine lv_istore (lv' := [(5, .int s0), (0, .ref h_t), (1, .int x1), (2, .int x2), (3, .int x3), (4, .int x4)]) hx hb d_RF_fault_80 hl (by decide) rfl (fun ls hl => ?_)
  refine lv_aload_n hx hb d_RF_fault_82 rfl (lv_at hl 1 rfl) ?_
  refine lv_iload hx hb d_RF_fault_83 (lv_at hl 0 rfl) ?_
  refine lv_if_ne (tgt := 92) hx hb d_RF_fault_85 (by decide) (fun cc85 => ?_) (fun cc85 => ?_)
  · have hf := ifF cc85 hf
    refine lv_aload_n hx hb d_RF_fault_92 rfl (lv_at hl 1 rfl) ?_
    refine va_get (D := D) (ci := 1) (v := .int t_told) (C := R_RF) (T := F_RF) (N := 34) hx hb hts i_RF hown hK.1 hP 0 rfl rfl 12 (by decide) (hts _ w_437) (fun _ h9 => h9) rfl d_RF_fault_93 ?_
    refine lv_iconst (v := 4) hx hb d_RF_fault_96 (by decide) ?_
    refine lv_icmp_ne (tgt := 104) hx hb d_RF_fault_97 (by decide) (fun cc97 => ?_) (fun cc97 => ?_)
    · have hf := ifF cc97 hf
      refine lv_iload_n hx hb d_RF_fault_104 rfl (lv_at hl 2 rfl) ?_
      refine lv_if_lt (tgt := 124) hx hb d_RF_fault_105 (by decide) (fun cc105 => ?_) (fun cc105 => ?_)
      · have hf := ifT cc105 hf
        exact k_RF_fault_124 (s := s) C0 hA hf hP hD hS (lv_sub hl [1, 2, 3, 4, 5] rfl)
      · have hf := ifF cc105 hf
        refine lv_iload_n hx hb d_RF_fault_108 rfl (lv_at hl 2 rfl) ?_
        refine lv_bipush (v := 13) hx hb d_RF_fault_109 (by decide) ?_
        refine lv_icmp_gt (tgt := 124) hx hb d_RF_fault_111 (by decide) (fun cc111 => ?_) (fun cc111 => ?_)
        · have hf := ifT cc111 hf
          exact k_RF_fault_124 (s := s) C0 hA hf hP hD hS (lv_sub hl [1, 2, 3, 4, 5] rfl)
        · have hf := ifF cc111 hf
          refine lv_iload hx hb d_RF_fault_114 (lv_at hl 5 rfl) ?_
          refine lv_if_eq (tgt := 128) hx hb d_RF_fault_116 (by decide) (fun cc116 => ?_) (fun cc116 => ?_)
          · have hf := ifT cc116 hf
            exact k_RF_fault_128 (s := s) C0 hA hf hP hD hS (lv_sub hl [1, 2, 3, 4, 5] rfl)
          · have hf := ifF cc116 hf
            refine lv_iload_n hx hb d_RF_fault_119 rfl (lv_at hl 3 rfl) ?_
            refine lv_iload_n hx hb d_RF_fault_120 rfl (lv_at hl 4 rfl) ?_
            refine lv_icmp_ne (tgt := 128) hx hb d_RF_fault_121 (by decide) (fun cc121 => ?_) (fun cc121 => ?_)
            · have hf := ifF cc121 hf
              exact k_RF_fault_128 (s := s) C0 hA hf hP hD hS (lv_sub hl [1, 2, 3, 4, 5] rfl)
            · have hf := ifT cc121 hf
              exact k_RF_fault_124 (s := s) C0 hA hf hP hD hS (lv_sub hl [1, 2, 3, 4, 5] rfl)
    · have hf := ifT cc97 hf
      refine lv_iconst (v := 2) hx hb d_RF_fault_100 (by decide) ?_
      refine lv_goto (tgt := 129) hx hb d_RF_fault_101 (by decide) ?_
      exact k_RF_fault_129 (s := s) C0 hA hf hP hD hS (lv_sub hl [1, 2, 3, 4, 5] rfl)
  · have hf := ifT cc85 hf
    refine lv_iconst (v := 1) hx hb d_RF_fault_88 (by decide) ?_
    refine lv_goto (tgt := 129) hx hb d_RF_fault_89 (by decide) ?_
    exact k_RF_fault_129 (s := s) C0 hA hf hP hD hS (lv_sub hl [1, 2, 3, 4, 5] rfl)
set_option maxHeartbeats 4000000 in
set_option maxRecDepth 100000 in
theorem k_RF_fault_79 {p : Program} {l : Launch} {e : Env} {s : State} {m : MethodId} {args : Array Value} {below : List Frame} {meth : Method} {c : Code} {D : va_G} {cI cB cJ : ClassId} {A : Nat → Prop} (C0 : CX p s m args meth c D [(cI, .int), (cB, .byte), (cJ, .long)] R_RF b_RF_fault 6 (some .int) "fault") (hA : ∀ q, s.heap.size ≤ q → A q) {h_t h_t_toldKinds h_t_toldVictims h_t_toldOthers : Nat} {v_t_cells v_t_sense v_t_kinds v_t_victims v_t_others v_t_faults v_t_ground v_t_ports v_t_scrambled v_t_places v_t_sorts v_t_counts v_t_operations v_t_elements v_t_newSorts v_t_newCounts v_t_newOperations v_t_tape v_t_tapeSize v_t_place v_t_failed v_t_failedCount v_t_keeps v_t_some v_t_repairedRows v_t_repairedColumns v_t_proof : Value} {res : Int32 × Int32 × Int32 × (Nat → Int32) × (Nat → Int32) × (Nat → Int32)} {n_t_toldKinds : Nat} {n_t_toldVictims : Nat} {n_t_toldOthers : Nat} {t_thrown : Int32} {t_words : Int32} {t_bits : Int32} {t_told : Int32} {t_toldKinds_a : Nat → Int32} {t_toldVictims_a : Nat → Int32} {t_toldOthers_a : Nat → Int32} {x1 : Int32} {x2 : Int32} {x3 : Int32} {x4 : Int32}
    (hf : f_RF_fault_79 n_t_toldKinds n_t_toldVictims n_t_toldOthers t_told t_toldKinds_a t_toldVictims_a t_toldOthers_a x1 x2 x3 x4 = some res) {H : Heap} {locs : List Loc} {ls : Array Slot} (hP : va_P D classes [(h_t, .inr (1, [.int t_thrown, .int t_words, .int t_bits, v_t_cells, v_t_sense, v_t_kinds, v_t_victims, v_t_others, v_t_faults, .ref h_t_toldKinds, .ref h_t_toldVictims, .ref h_t_toldOthers, .int t_told, v_t_ground, v_t_ports, v_t_scrambled, v_t_places, v_t_sorts, v_t_counts, v_t_operations, v_t_elements, v_t_newSorts, v_t_newCounts, v_t_newOperations, v_t_tape, v_t_tapeSize, v_t_place, v_t_failed, v_t_failedCount, v_t_keeps, v_t_some, v_t_repairedRows, v_t_repairedColumns, v_t_proof])), (h_t_toldKinds, .inl (cI, n_t_toldKinds, .inl t_toldKinds_a)), (h_t_toldVictims, .inl (cI, n_t_toldVictims, .inl t_toldVictims_a)), (h_t_toldOthers, .inl (cI, n_t_toldOthers, .inl t_toldOthers_a))] H) (hD : va_D A [(h_t, .inr (1, [.int t_thrown, .int t_words, .int t_bits, v_t_cells, v_t_sense, v_t_kinds, v_t_victims, v_t_others, v_t_faults, .ref h_t_toldKinds, .ref h_t_toldVictims, .ref h_t_toldOthers, .int t_told, v_t_ground, v_t_ports, v_t_scrambled, v_t_places, v_t_sorts, v_t_counts, v_t_operations, v_t_elements, v_t_newSorts, v_t_newCounts, v_t_newOperations, v_t_tape, v_t_tapeSize, v_t_place, v_t_failed, v_t_failedCount, v_t_keeps, v_t_some, v_t_repairedRows, v_t_repairedColumns, v_t_proof])), (h_t_toldKinds, .inl (cI, n_t_toldKinds, .inl t_toldKinds_a)), (h_t_toldVictims, .inl (cI, n_t_toldVictims, .inl t_toldVictims_a)), (h_t_toldOthers, .inl (cI, n_t_toldOthers, .inl t_toldOthers_a))]) (hS : va_S A s.heap H locs) (hl : lv_has ls 6 [(0, .ref h_t), (1, .int x1), (2, .int x2), (3, .int x3), (4, .int x4)]) : W p l e rm_RF_fault s m args below meth c H locs 0 0 (MQ below (QW D (post_RF_fault h_t h_t_toldKinds h_t_toldVictims h_t_toldOthers v_t_cells v_t_sense v_t_kinds v_t_victims v_t_others v_t_faults v_t_ground v_t_ports v_t_scrambled v_t_places v_t_sorts v_t_counts v_t_operations v_t_elements v_t_newSorts v_t_newCounts v_t_newOperations v_t_tape v_t_tapeSize v_t_place v_t_failed v_t_failedCount v_t_keeps v_t_some v_t_repairedRows v_t_repairedColumns v_t_proof n_t_toldKinds n_t_toldVictims n_t_toldOthers t_words t_bits cI cB cJ res) A) args s 0 0 A) (F0 m 79 ls []) := by
  obtain ⟨hx, hb, hml, hr, hlocks, hts, hown, hK, hin⟩ := id C0
  have hf : (((
  (f_RF_fault_80 n_t_toldKinds n_t_toldVictims n_t_toldOthers t_told t_toldKinds_a t_toldVictims_a t_toldOthers_a 0 x1 x2 x3 x4))) : Option (Int32 × Int32 × Int32 × (Nat → Int32) × (Nat → Int32) × (Nat → Int32))) = some res := hf
  refine lv_iconst (v := 0) hx hb d_RF_fault_79 (by decide) ?_
  exact k_RF_fault_80 (s := s) C0 hA hf hP hD hS (lv_sub hl [0, 1, 2, 3, 4] rfl)
set_option maxHeartbeats 4000000 in
set_option maxRecDepth 100000 in
theorem k_RF_fault_75 {p : Program} {l : Launch} {e : Env} {s : State} {m : MethodId} {args : Array Value} {below : List Frame} {meth : Method} {c : Code} {D : va_G} {cI cB cJ : ClassId} {A : Nat → Prop} (C0 : CX p s m args meth c D [(cI, .int), (cB, .byte), (cJ, .long)] R_RF b_RF_fault 6 (some .int) "fault") (hA : ∀ q, s.heap.size ≤ q → A q) {h_t h_t_toldKinds h_t_toldVictims h_t_toldOthers : Nat} {v_t_cells v_t_sense v_t_kinds v_t_victims v_t_others v_t_faults v_t_ground v_t_ports v_t_scrambled v_t_places v_t_sorts v_t_counts v_t_operations v_t_elements v_t_newSorts v_t_newCounts v_t_newOperations v_t_tape v_t_tapeSize v_t_place v_t_failed v_t_failedCount v_t_keeps v_t_some v_t_repairedRows v_t_repairedColumns v_t_proof : Value} {res : Int32 × Int32 × Int32 × (Nat → Int32) × (Nat → Int32) × (Nat → Int32)} {n_t_toldKinds : Nat} {n_t_toldVictims : Nat} {n_t_toldOthers : Nat} {t_thrown : Int32} {t_words : Int32} {t_bits : Int32} {t_told : Int32} {t_toldKinds_a : Nat → Int32} {t_toldVictims_a : Nat → Int32} {t_toldOthers_a : Nat → Int32} {x1 : Int32} {x2 : Int32} {x3 : Int32} {x4 : Int32}
    (hf : f_RF_fault_75 n_t_toldKinds n_t_toldVictims n_t_toldOthers t_told t_toldKinds_a t_toldVictims_a t_toldOthers_a x1 x2 x3 x4 = some res) {H : Heap} {locs : List Loc} {ls : Array Slot} (hP : va_P D classes [(h_t, .inr (1, [.int t_thrown, .int t_words, .int t_bits, v_t_cells, v_t_sense, v_t_kinds, v_t_victims, v_t_others, v_t_faults, .ref h_t_toldKinds, .ref h_t_toldVictims, .ref h_t_toldOthers, .int t_told, v_t_ground, v_t_ports, v_t_scrambled, v_t_places, v_t_sorts, v_t_counts, v_t_operations, v_t_elements, v_t_newSorts, v_t_newCounts, v_t_newOperations, v_t_tape, v_t_tapeSize, v_t_place, v_t_failed, v_t_failedCount, v_t_keeps, v_t_some, v_t_repairedRows, v_t_repairedColumns, v_t_proof])), (h_t_toldKinds, .inl (cI, n_t_toldKinds, .inl t_toldKinds_a)), (h_t_toldVictims, .inl (cI, n_t_toldVictims, .inl t_toldVictims_a)), (h_t_toldOthers, .inl (cI, n_t_toldOthers, .inl t_toldOthers_a))] H) (hD : va_D A [(h_t, .inr (1, [.int t_thrown, .int t_words, .int t_bits, v_t_cells, v_t_sense, v_t_kinds, v_t_victims, v_t_others, v_t_faults, .ref h_t_toldKinds, .ref h_t_toldVictims, .ref h_t_toldOthers, .int t_told, v_t_ground, v_t_ports, v_t_scrambled, v_t_places, v_t_sorts, v_t_counts, v_t_operations, v_t_elements, v_t_newSorts, v_t_newCounts, v_t_newOperations, v_t_tape, v_t_tapeSize, v_t_place, v_t_failed, v_t_failedCount, v_t_keeps, v_t_some, v_t_repairedRows, v_t_repairedColumns, v_t_proof])), (h_t_toldKinds, .inl (cI, n_t_toldKinds, .inl t_toldKinds_a)), (h_t_toldVictims, .inl (cI, n_t_toldVictims, .inl t_toldVictims_a)), (h_t_toldOthers, .inl (cI, n_t_toldOthers, .inl t_toldOthers_a))]) (hS : va_S A s.heap H locs) (hl : lv_has ls 6 [(0, .ref h_t), (1, .int x1), (2, .int x2), (3, .int x3), (4, .int x4)]) : W p l e rm_RF_fault s m args below meth c H locs 0 0 (MQ below (QW D (post_RF_fault h_t h_t_toldKinds h_t_toldVictims h_t_toldOthers v_t_cells v_t_sense v_t_kinds v_t_victims v_t_others v_t_faults v_t_ground v_t_ports v_t_scrambled v_t_places v_t_sorts v_t_counts v_t_operations v_t_elements v_t_newSorts v_t_newCounts v_t_newOperations v_t_tape v_t_tapeSize v_t_place v_t_failed v_t_failedCount v_t_keeps v_t_some v_t_repairedRows v_t_repairedColumns v_t_proof n_t_toldKinds n_t_toldVictims n_t_toldOthers t_words t_bits cI cB cJ res) A) args s 0 0 A) (F0 m 75 ls []) := by
  obtain ⟨hx, hb, hml, hr, hlocks, hts, hown, hK, hin⟩ := id C0
  have hf : (((
  (f_RF_fault_80 n_t_toldKinds n_t_toldVictims n_t_toldOthers t_told t_toldKinds_a t_toldVictims_a t_toldOthers_a 1 x1 x2 x3 x4))) : Option (Int32 × Int32 × Int32 × (Nat → Int32) × (Nat → Int32) × (Nat → Int32))) = some res := hf
  refine lv_iconst (v := 1) hx hb d_RF_fault_75 (by decide) ?_
  refine lv_goto (tgt := 80) hx hb d_RF_fault_76 (by decide) ?_
  exact k_RF_fault_80 (s := s) C0 hA hf hP hD hS (lv_sub hl [0, 1, 2, 3, 4] rfl)
set_option maxHeartbeats 4000000 in
set_option maxRecDepth 100000 in
theorem k_RF_fault_34 {p : Program} {l : Launch} {e : Env} {s : State} {m : MethodId} {args : Array Value} {below : List Frame} {meth : Method} {c : Code} {D : va_G} {cI cB cJ : ClassId} {A : Nat → Prop} (C0 : CX p s m args meth c D [(cI, .int), (cB, .byte), (cJ, .long)] R_RF b_RF_fault 6 (some .int) "fault") (hA : ∀ q, s.heap.size ≤ q → A q) {h_t h_t_toldKinds h_t_toldVictims h_t_toldOthers : Nat} {v_t_cells v_t_sense v_t_kinds v_t_victims v_t_others v_t_faults v_t_ground v_t_ports v_t_scrambled v_t_places v_t_sorts v_t_counts v_t_operations v_t_elements v_t_newSorts v_t_newCounts v_t_newOperations v_t_tape v_t_tapeSize v_t_place v_t_failed v_t_failedCount v_t_keeps v_t_some v_t_repairedRows v_t_repairedColumns v_t_proof : Value} {res : Int32 × Int32 × Int32 × (Nat → Int32) × (Nat → Int32) × (Nat → Int32)} {n_t_toldKinds : Nat} {n_t_toldVictims : Nat} {n_t_toldOthers : Nat} {t_thrown : Int32} {t_words : Int32} {t_bits : Int32} {t_told : Int32} {t_toldKinds_a : Nat → Int32} {t_toldVictims_a : Nat → Int32} {t_toldOthers_a : Nat → Int32} {s0 : Int32} {x1 : Int32} {x2 : Int32} {x3 : Int32}
    (hf : f_RF_fault_34 n_t_toldKinds n_t_toldVictims n_t_toldOthers t_words t_bits t_told t_toldKinds_a t_toldVictims_a t_toldOthers_a s0 x1 x2 x3 = some res) {H : Heap} {locs : List Loc} {ls : Array Slot} (hP : va_P D classes [(h_t, .inr (1, [.int t_thrown, .int t_words, .int t_bits, v_t_cells, v_t_sense, v_t_kinds, v_t_victims, v_t_others, v_t_faults, .ref h_t_toldKinds, .ref h_t_toldVictims, .ref h_t_toldOthers, .int t_told, v_t_ground, v_t_ports, v_t_scrambled, v_t_places, v_t_sorts, v_t_counts, v_t_operations, v_t_elements, v_t_newSorts, v_t_newCounts, v_t_newOperations, v_t_tape, v_t_tapeSize, v_t_place, v_t_failed, v_t_failedCount, v_t_keeps, v_t_some, v_t_repairedRows, v_t_repairedColumns, v_t_proof])), (h_t_toldKinds, .inl (cI, n_t_toldKinds, .inl t_toldKinds_a)), (h_t_toldVictims, .inl (cI, n_t_toldVictims, .inl t_toldVictims_a)), (h_t_toldOthers, .inl (cI, n_t_toldOthers, .inl t_toldOthers_a))] H) (hD : va_D A [(h_t, .inr (1, [.int t_thrown, .int t_words, .int t_bits, v_t_cells, v_t_sense, v_t_kinds, v_t_victims, v_t_others, v_t_faults, .ref h_t_toldKinds, .ref h_t_toldVictims, .ref h_t_toldOthers, .int t_told, v_t_ground, v_t_ports, v_t_scrambled, v_t_places, v_t_sorts, v_t_counts, v_t_operations, v_t_elements, v_t_newSorts, v_t_newCounts, v_t_newOperations, v_t_tape, v_t_tapeSize, v_t_place, v_t_failed, v_t_failedCount, v_t_keeps, v_t_some, v_t_repairedRows, v_t_repairedColumns, v_t_proof])), (h_t_toldKinds, .inl (cI, n_t_toldKinds, .inl t_toldKinds_a)), (h_t_toldVictims, .inl (cI, n_t_toldVictims, .inl t_toldVictims_a)), (h_t_toldOthers, .inl (cI, n_t_toldOthers, .inl t_toldOthers_a))]) (hS : va_S A s.heap H locs) (hl : lv_has ls 6 [(0, .ref h_t), (1, .int x1), (2, .int x2), (3, .int x3)]) : W p l e rm_RF_fault s m args below meth c H locs 0 0 (MQ below (QW D (post_RF_fault h_t h_t_toldKinds h_t_toldVictims h_t_toldOthers v_t_cells v_t_sense v_t_kinds v_t_victims v_t_others v_t_faults v_t_ground v_t_ports v_t_scrambled v_t_places v_t_sorts v_t_counts v_t_operations v_t_elements v_t_newSorts v_t_newCounts v_t_newOperations v_t_tape v_t_tapeSize v_t_place v_t_failed v_t_failedCount v_t_keeps v_t_some v_t_repairedRows v_t_repairedColumns v_t_proof n_t_toldKinds n_t_toldVictims n_t_toldOthers t_words t_bits cI cB cJ res) A) args s 0 0 A) (F0 m 34 ls [.int s0]) := by
  obtain ⟨hx, hb, hml, hr, hlocks, hts, hown, hK, hin⟩ := id C0
  have hf : (((
  (if x2 < 0 then
    (f_RF_fault_79 n_t_toldKinds n_t_toldVictims n_t_toldOthers t_told t_toldKinds_a t_toldVictims_a t_toldOthers_a x1 x2 x3 s0)
  else
    (if (t_words * t_bits) ≤ x2 then
      (f_RF_fault_79 n_t_toldKinds n_t_toldVictims n_t_toldOthers t_told t_toldKinds_a t_toldVictims_a t_toldOthers_a x1 x2 x3 s0)
    else
      (if s0 = 0 then
        (f_RF_fault_75 n_t_toldKinds n_t_toldVictims n_t_toldOthers t_told t_toldKinds_a t_toldVictims_a t_toldOthers_a x1 x2 x3 s0)
      else
        (if x3 < 0 then
          (f_RF_fault_79 n_t_toldKinds n_t_toldVictims n_t_toldOthers t_told t_toldKinds_a t_toldVictims_a t_toldOthers_a x1 x2 x3 s0)
        else
          (if (t_words * t_bits) ≤ x3 then
            (f_RF_fault_79 n_t_toldKinds n_t_toldVictims n_t_toldOthers t_told t_toldKinds_a t_toldVictims_a t_toldOthers_a x1 x2 x3 s0)
          else
            (f_RF_fault_75 n_t_toldKinds n_t_toldVictims n_t_toldOthers t_told t_toldKinds_a t_toldVictims_a t_toldOthers_a x1 x2 x3 s0)))))))) : Option (Int32 × Int32 × Int32 × (Nat → Int32) × (Nat → Int32) × (Nat → Int32))) = some res := hf
  refine lv_istore (lv' := [(4, .int s0), (0, .ref h_t), (1, .int x1), (2, .int x2), (3, .int x3)]) hx hb d_RF_fault_34 hl (by decide) rfl (fun ls hl => ?_)
  refine lv_iload_n hx hb d_RF_fault_36 rfl (lv_at hl 3 rfl) ?_
  refine lv_if_lt (tgt := 79) hx hb d_RF_fault_37 (by decide) (fun cc37 => ?_) (fun cc37 => ?_)
  · have hf := ifT cc37 hf
    exact k_RF_fault_79 (s := s) C0 hA hf hP hD hS (lv_sub hl [1, 2, 3, 4, 0] rfl)
  · have hf := ifF cc37 hf
    refine lv_iload_n hx hb d_RF_fault_40 rfl (lv_at hl 3 rfl) ?_
    refine lv_aload_n hx hb d_RF_fault_41 rfl (lv_at hl 1 rfl) ?_
    refine va_get (D := D) (ci := 1) (v := .int t_words) (C := R_RF) (T := F_RF) (N := 34) hx hb hts i_RF hown hK.1 hP 0 rfl rfl 1 (by decide) (hts _ w_384) (fun _ h9 => h9) rfl d_RF_fault_42 ?_
    refine lv_aload_n hx hb d_RF_fault_45 rfl (lv_at hl 1 rfl) ?_
    refine va_get (D := D) (ci := 1) (v := .int t_bits) (C := R_RF) (T := F_RF) (N := 34) hx hb hts i_RF hown hK.1 hP 0 rfl rfl 2 (by decide) (hts _ w_385) (fun _ h9 => h9) rfl d_RF_fault_46 ?_
    refine lv_imul hx hb d_RF_fault_49 ?_
    refine lv_icmp_ge (tgt := 79) hx hb d_RF_fault_50 (by decide) (fun cc50 => ?_) (fun cc50 => ?_)
    · have hf := ifT cc50 hf
      exact k_RF_fault_79 (s := s) C0 hA hf hP hD hS (lv_sub hl [1, 2, 3, 4, 0] rfl)
    · have hf := ifF cc50 hf
      refine lv_iload hx hb d_RF_fault_53 (lv_at hl 0 rfl) ?_
      refine lv_if_eq (tgt := 75) hx hb d_RF_fault_55 (by decide) (fun cc55 => ?_) (fun cc55 => ?_)
      · have hf := ifT cc55 hf
        exact k_RF_fault_75 (s := s) C0 hA hf hP hD hS (lv_sub hl [1, 2, 3, 4, 0] rfl)
      · have hf := ifF cc55 hf
        refine lv_iload_n hx hb d_RF_fault_58 rfl (lv_at hl 4 rfl) ?_
        refine lv_if_lt (tgt := 79) hx hb d_RF_fault_59 (by decide) (fun cc59 => ?_) (fun cc59 => ?_)
        · have hf := ifT cc59 hf
          exact k_RF_fault_79 (s := s) C0 hA hf hP hD hS (lv_sub hl [1, 2, 3, 4, 0] rfl)
        · have hf := ifF cc59 hf
          refine lv_iload_n hx hb d_RF_fault_62 rfl (lv_at hl 4 rfl) ?_
          refine lv_aload_n hx hb d_RF_fault_63 rfl (lv_at hl 1 rfl) ?_
          refine va_get (D := D) (ci := 1) (v := .int t_words) (C := R_RF) (T := F_RF) (N := 34) hx hb hts i_RF hown hK.1 hP 0 rfl rfl 1 (by decide) (hts _ w_384) (fun _ h9 => h9) rfl d_RF_fault_64 ?_
          refine lv_aload_n hx hb d_RF_fault_67 rfl (lv_at hl 1 rfl) ?_
          refine va_get (D := D) (ci := 1) (v := .int t_bits) (C := R_RF) (T := F_RF) (N := 34) hx hb hts i_RF hown hK.1 hP 0 rfl rfl 2 (by decide) (hts _ w_385) (fun _ h9 => h9) rfl d_RF_fault_68 ?_
          refine lv_imul hx hb d_RF_fault_71 ?_
          refine lv_icmp_ge (tgt := 79) hx hb d_RF_fault_72 (by decide) (fun cc72 => ?_) (fun cc72 => ?_)
          · have hf := ifT cc72 hf
            exact k_RF_fault_79 (s := s) C0 hA hf hP hD hS (lv_sub hl [1, 2, 3, 4, 0] rfl)
          · have hf := ifF cc72 hf
            exact k_RF_fault_75 (s := s) C0 hA hf hP hD hS (lv_sub hl [1, 2, 3, 4, 0] rfl)
set_option maxHeartbeats 4000000 in
set_option maxRecDepth 100000 in
theorem k_RF_fault_33 {p : Program} {l : Launch} {e : Env} {s : State} {m : MethodId} {args : Array Value} {below : List Frame} {meth : Method} {c : Code} {D : va_G} {cI cB cJ : ClassId} {A : Nat → Prop} (C0 : CX p s m args meth c D [(cI, .int), (cB, .byte), (cJ, .long)] R_RF b_RF_fault 6 (some .int) "fault") (hA : ∀ q, s.heap.size ≤ q → A q) {h_t h_t_toldKinds h_t_toldVictims h_t_toldOthers : Nat} {v_t_cells v_t_sense v_t_kinds v_t_victims v_t_others v_t_faults v_t_ground v_t_ports v_t_scrambled v_t_places v_t_sorts v_t_counts v_t_operations v_t_elements v_t_newSorts v_t_newCounts v_t_newOperations v_t_tape v_t_tapeSize v_t_place v_t_failed v_t_failedCount v_t_keeps v_t_some v_t_repairedRows v_t_repairedColumns v_t_proof : Value} {res : Int32 × Int32 × Int32 × (Nat → Int32) × (Nat → Int32) × (Nat → Int32)} {n_t_toldKinds : Nat} {n_t_toldVictims : Nat} {n_t_toldOthers : Nat} {t_thrown : Int32} {t_words : Int32} {t_bits : Int32} {t_told : Int32} {t_toldKinds_a : Nat → Int32} {t_toldVictims_a : Nat → Int32} {t_toldOthers_a : Nat → Int32} {x1 : Int32} {x2 : Int32} {x3 : Int32}
    (hf : f_RF_fault_33 n_t_toldKinds n_t_toldVictims n_t_toldOthers t_words t_bits t_told t_toldKinds_a t_toldVictims_a t_toldOthers_a x1 x2 x3 = some res) {H : Heap} {locs : List Loc} {ls : Array Slot} (hP : va_P D classes [(h_t, .inr (1, [.int t_thrown, .int t_words, .int t_bits, v_t_cells, v_t_sense, v_t_kinds, v_t_victims, v_t_others, v_t_faults, .ref h_t_toldKinds, .ref h_t_toldVictims, .ref h_t_toldOthers, .int t_told, v_t_ground, v_t_ports, v_t_scrambled, v_t_places, v_t_sorts, v_t_counts, v_t_operations, v_t_elements, v_t_newSorts, v_t_newCounts, v_t_newOperations, v_t_tape, v_t_tapeSize, v_t_place, v_t_failed, v_t_failedCount, v_t_keeps, v_t_some, v_t_repairedRows, v_t_repairedColumns, v_t_proof])), (h_t_toldKinds, .inl (cI, n_t_toldKinds, .inl t_toldKinds_a)), (h_t_toldVictims, .inl (cI, n_t_toldVictims, .inl t_toldVictims_a)), (h_t_toldOthers, .inl (cI, n_t_toldOthers, .inl t_toldOthers_a))] H) (hD : va_D A [(h_t, .inr (1, [.int t_thrown, .int t_words, .int t_bits, v_t_cells, v_t_sense, v_t_kinds, v_t_victims, v_t_others, v_t_faults, .ref h_t_toldKinds, .ref h_t_toldVictims, .ref h_t_toldOthers, .int t_told, v_t_ground, v_t_ports, v_t_scrambled, v_t_places, v_t_sorts, v_t_counts, v_t_operations, v_t_elements, v_t_newSorts, v_t_newCounts, v_t_newOperations, v_t_tape, v_t_tapeSize, v_t_place, v_t_failed, v_t_failedCount, v_t_keeps, v_t_some, v_t_repairedRows, v_t_repairedColumns, v_t_proof])), (h_t_toldKinds, .inl (cI, n_t_toldKinds, .inl t_toldKinds_a)), (h_t_toldVictims, .inl (cI, n_t_toldVictims, .inl t_toldVictims_a)), (h_t_toldOthers, .inl (cI, n_t_toldOthers, .inl t_toldOthers_a))]) (hS : va_S A s.heap H locs) (hl : lv_has ls 6 [(0, .ref h_t), (1, .int x1), (2, .int x2), (3, .int x3)]) : W p l e rm_RF_fault s m args below meth c H locs 0 0 (MQ below (QW D (post_RF_fault h_t h_t_toldKinds h_t_toldVictims h_t_toldOthers v_t_cells v_t_sense v_t_kinds v_t_victims v_t_others v_t_faults v_t_ground v_t_ports v_t_scrambled v_t_places v_t_sorts v_t_counts v_t_operations v_t_elements v_t_newSorts v_t_newCounts v_t_newOperations v_t_tape v_t_tapeSize v_t_place v_t_failed v_t_failedCount v_t_keeps v_t_some v_t_repairedRows v_t_repairedColumns v_t_proof n_t_toldKinds n_t_toldVictims n_t_toldOthers t_words t_bits cI cB cJ res) A) args s 0 0 A) (F0 m 33 ls []) := by
  obtain ⟨hx, hb, hml, hr, hlocks, hts, hown, hK, hin⟩ := id C0
  have hf : (((
  (f_RF_fault_34 n_t_toldKinds n_t_toldVictims n_t_toldOthers t_words t_bits t_told t_toldKinds_a t_toldVictims_a t_toldOthers_a 0 x1 x2 x3))) : Option (Int32 × Int32 × Int32 × (Nat → Int32) × (Nat → Int32) × (Nat → Int32))) = some res := hf
  refine lv_iconst (v := 0) hx hb d_RF_fault_33 (by decide) ?_
  exact k_RF_fault_34 (s := s) C0 hA hf hP hD hS (lv_sub hl [0, 1, 2, 3] rfl)
set_option maxHeartbeats 4000000 in
set_option maxRecDepth 100000 in
theorem c_RF_fault (l : Launch) (D : va_G) (cI cB cJ : ClassId) (h_t h_t_toldKinds h_t_toldVictims h_t_toldOthers : Nat) (v_t_cells v_t_sense v_t_kinds v_t_victims v_t_others v_t_faults v_t_ground v_t_ports v_t_scrambled v_t_places v_t_sorts v_t_counts v_t_operations v_t_elements v_t_newSorts v_t_newCounts v_t_newOperations v_t_tape v_t_tapeSize v_t_place v_t_failed v_t_failedCount v_t_keeps v_t_some v_t_repairedRows v_t_repairedColumns v_t_proof : Value) (n_t_toldKinds : Nat) (n_t_toldVictims : Nat) (n_t_toldOthers : Nat) (t_thrown : Int32) (t_words : Int32) (t_bits : Int32) (t_told : Int32) (t_toldKinds_a : Nat → Int32) (t_toldVictims_a : Nat → Int32) (t_toldOthers_a : Nat → Int32) (a1 : Int32) (a2 : Int32) (a3 : Int32) (sz : Nat) (res : Int32 × Int32 × Int32 × (Nat → Int32) × (Nat → Int32) × (Nat → Int32)) (hf : f_RF_fault n_t_toldKinds n_t_toldVictims n_t_toldOthers t_words t_bits t_told t_toldKinds_a t_toldVictims_a t_toldOthers_a a1 a2 a3 = some res) : Met l y_RF_fault (.code y_RF_fault b_RF_fault 6 (some .int) :: TB) rm_RF_fault (PcW D [(cI, .int), (cB, .byte), (cJ, .long)] [.ref h_t, .int a1, .int a2, .int a3] [(h_t, .inr (1, [.int t_thrown, .int t_words, .int t_bits, v_t_cells, v_t_sense, v_t_kinds, v_t_victims, v_t_others, v_t_faults, .ref h_t_toldKinds, .ref h_t_toldVictims, .ref h_t_toldOthers, .int t_told, v_t_ground, v_t_ports, v_t_scrambled, v_t_places, v_t_sorts, v_t_counts, v_t_operations, v_t_elements, v_t_newSorts, v_t_newCounts, v_t_newOperations, v_t_tape, v_t_tapeSize, v_t_place, v_t_failed, v_t_failedCount, v_t_keeps, v_t_some, v_t_repairedRows, v_t_repairedColumns, v_t_proof])), (h_t_toldKinds, .inl (cI, n_t_toldKinds, .inl t_toldKinds_a)), (h_t_toldVictims, .inl (cI, n_t_toldVictims, .inl t_toldVictims_a)), (h_t_toldOthers, .inl (cI, n_t_toldOthers, .inl t_toldOthers_a))] sz) (QW D (post_RF_fault h_t h_t_toldKinds h_t_toldVictims h_t_toldOthers v_t_cells v_t_sense v_t_kinds v_t_victims v_t_others v_t_faults v_t_ground v_t_ports v_t_scrambled v_t_places v_t_sorts v_t_counts v_t_operations v_t_elements v_t_newSorts v_t_newCounts v_t_newOperations v_t_tape v_t_tapeSize v_t_place v_t_failed v_t_failedCount v_t_keeps v_t_some v_t_repairedRows v_t_repairedColumns v_t_proof n_t_toldKinds n_t_toldVictims n_t_toldOthers t_words t_bits cI cB cJ res) (va_A [(h_t, .inr (1, [.int t_thrown, .int t_words, .int t_bits, v_t_cells, v_t_sense, v_t_kinds, v_t_victims, v_t_others, v_t_faults, .ref h_t_toldKinds, .ref h_t_toldVictims, .ref h_t_toldOthers, .int t_told, v_t_ground, v_t_ports, v_t_scrambled, v_t_places, v_t_sorts, v_t_counts, v_t_operations, v_t_elements, v_t_newSorts, v_t_newCounts, v_t_newOperations, v_t_tape, v_t_tapeSize, v_t_place, v_t_failed, v_t_failedCount, v_t_keeps, v_t_some, v_t_repairedRows, v_t_repairedColumns, v_t_proof])), (h_t_toldKinds, .inl (cI, n_t_toldKinds, .inl t_toldKinds_a)), (h_t_toldVictims, .inl (cI, n_t_toldVictims, .inl t_toldVictims_a)), (h_t_toldOthers, .inl (cI, n_t_toldOthers, .inl t_toldOthers_a))] sz)) 0 0 (va_A [(h_t, .inr (1, [.int t_thrown, .int t_words, .int t_bits, v_t_cells, v_t_sense, v_t_kinds, v_t_victims, v_t_others, v_t_faults, .ref h_t_toldKinds, .ref h_t_toldVictims, .ref h_t_toldOthers, .int t_told, v_t_ground, v_t_ports, v_t_scrambled, v_t_places, v_t_sorts, v_t_counts, v_t_operations, v_t_elements, v_t_newSorts, v_t_newCounts, v_t_newOperations, v_t_tape, v_t_tapeSize, v_t_place, v_t_failed, v_t_failedCount, v_t_keeps, v_t_some, v_t_repairedRows, v_t_repairedColumns, v_t_proof])), (h_t_toldKinds, .inl (cI, n_t_toldKinds, .inl t_toldKinds_a)), (h_t_toldVictims, .inl (cI, n_t_toldVictims, .inl t_toldVictims_a)), (h_t_toldOthers, .inl (cI, n_t_toldOthers, .inl t_toldOthers_a))] sz) := by
  refine entW ⟨by decide +kernel, rfl⟩ fun p e s m below meth c C0 hP hD hsz ls hl => ?_
  subst hsz
  generalize hAe : va_A [(h_t, .inr (1, [.int t_thrown, .int t_words, .int t_bits, v_t_cells, v_t_sense, v_t_kinds, v_t_victims, v_t_others, v_t_faults, .ref h_t_toldKinds, .ref h_t_toldVictims, .ref h_t_toldOthers, .int t_told, v_t_ground, v_t_ports, v_t_scrambled, v_t_places, v_t_sorts, v_t_counts, v_t_operations, v_t_elements, v_t_newSorts, v_t_newCounts, v_t_newOperations, v_t_tape, v_t_tapeSize, v_t_place, v_t_failed, v_t_failedCount, v_t_keeps, v_t_some, v_t_repairedRows, v_t_repairedColumns, v_t_proof])), (h_t_toldKinds, .inl (cI, n_t_toldKinds, .inl t_toldKinds_a)), (h_t_toldVictims, .inl (cI, n_t_toldVictims, .inl t_toldVictims_a)), (h_t_toldOthers, .inl (cI, n_t_toldOthers, .inl t_toldOthers_a))] s.heap.size = A at hD ⊢
  have hA : ∀ q : Nat, s.heap.size ≤ q → A q := fun q h => by rw [← hAe]; exact Or.inr h
  clear hAe
  have hS : va_S A s.heap s.heap [] := va_S.rf
  have hl : lv_has ls 6 [(0, .ref h_t), (1, .int a1), (2, .int a2), (3, .int a3)] := hl
  obtain ⟨hx, hb, hml, hr, hlocks, hts, hown, hK, hin⟩ := id C0
  have hf : (((
  (if a1 = (-1) then
    some (0, 0, 0, t_toldKinds_a, t_toldVictims_a, t_toldOthers_a)
  else
    (if a1 < 10 then
      (f_RF_fault_33 n_t_toldKinds n_t_toldVictims n_t_toldOthers t_words t_bits t_told t_toldKinds_a t_toldVictims_a t_toldOthers_a a1 a2 a3)
    else
      (if 13 < a1 then
        (f_RF_fault_33 n_t_toldKinds n_t_toldVictims n_t_toldOthers t_words t_bits t_told t_toldKinds_a t_toldVictims_a t_toldOthers_a a1 a2 a3)
      else
        (f_RF_fault_34 n_t_toldKinds n_t_toldVictims n_t_toldOthers t_words t_bits t_told t_toldKinds_a t_toldVictims_a t_toldOthers_a 1 a1 a2 a3)))))) : Option (Int32 × Int32 × Int32 × (Nat → Int32) × (Nat → Int32) × (Nat → Int32))) = some res := hf
  obtain ⟨H, hH⟩ : ∃ H, H = s.heap := ⟨_, rfl⟩
  obtain ⟨locs, hlo⟩ : ∃ x : List Loc, x = [] := ⟨_, rfl⟩
  rw [← hlo] at hS ⊢
  have hP : va_P D classes [(h_t, .inr (1, [.int t_thrown, .int t_words, .int t_bits, v_t_cells, v_t_sense, v_t_kinds, v_t_victims, v_t_others, v_t_faults, .ref h_t_toldKinds, .ref h_t_toldVictims, .ref h_t_toldOthers, .int t_told, v_t_ground, v_t_ports, v_t_scrambled, v_t_places, v_t_sorts, v_t_counts, v_t_operations, v_t_elements, v_t_newSorts, v_t_newCounts, v_t_newOperations, v_t_tape, v_t_tapeSize, v_t_place, v_t_failed, v_t_failedCount, v_t_keeps, v_t_some, v_t_repairedRows, v_t_repairedColumns, v_t_proof])), (h_t_toldKinds, .inl (cI, n_t_toldKinds, .inl t_toldKinds_a)), (h_t_toldVictims, .inl (cI, n_t_toldVictims, .inl t_toldVictims_a)), (h_t_toldOthers, .inl (cI, n_t_toldOthers, .inl t_toldOthers_a))] H := by rw [hH]; exact hP
  have hS : va_S A s.heap H locs := by rw [hH]; exact hS
  show W p l e rm_RF_fault s m _ below meth c s.heap locs 0 0 (MQ below (QW D (post_RF_fault h_t h_t_toldKinds h_t_toldVictims h_t_toldOthers v_t_cells v_t_sense v_t_kinds v_t_victims v_t_others v_t_faults v_t_ground v_t_ports v_t_scrambled v_t_places v_t_sorts v_t_counts v_t_operations v_t_elements v_t_newSorts v_t_newCounts v_t_newOperations v_t_tape v_t_tapeSize v_t_place v_t_failed v_t_failedCount v_t_keeps v_t_some v_t_repairedRows v_t_repairedColumns v_t_proof n_t_toldKinds n_t_toldVictims n_t_toldOthers t_words t_bits cI cB cJ res) A) _ s 0 0 A) (F0 m 0 ls [])
  refine wheap hH ?_
  clear hH hlo
  refine lv_iload_n hx hb d_RF_fault_0 rfl (lv_at hl 1 rfl) ?_
  refine lv_iconst (v := (-1)) hx hb d_RF_fault_1 (by decide) ?_
  refine lv_icmp_ne (tgt := 17) hx hb d_RF_fault_2 (by decide) (fun cc2 => ?_) (fun cc2 => ?_)
  · have hf := ifF cc2 hf
    refine lv_iload_n hx hb d_RF_fault_17 rfl (lv_at hl 1 rfl) ?_
    refine lv_bipush (v := 10) hx hb d_RF_fault_18 (by decide) ?_
    refine lv_icmp_lt (tgt := 33) hx hb d_RF_fault_20 (by decide) (fun cc20 => ?_) (fun cc20 => ?_)
    · have hf := ifT cc20 hf
      exact k_RF_fault_33 (s := s) C0 hA hf hP hD hS (lv_sub hl [0, 1, 2, 3] rfl)
    · have hf := ifF cc20 hf
      refine lv_iload_n hx hb d_RF_fault_23 rfl (lv_at hl 1 rfl) ?_
      refine lv_bipush (v := 13) hx hb d_RF_fault_24 (by decide) ?_
      refine lv_icmp_gt (tgt := 33) hx hb d_RF_fault_26 (by decide) (fun cc26 => ?_) (fun cc26 => ?_)
      · have hf := ifT cc26 hf
        exact k_RF_fault_33 (s := s) C0 hA hf hP hD hS (lv_sub hl [0, 1, 2, 3] rfl)
      · have hf := ifF cc26 hf
        refine lv_iconst (v := 1) hx hb d_RF_fault_29 (by decide) ?_
        refine lv_goto (tgt := 34) hx hb d_RF_fault_30 (by decide) ?_
        exact k_RF_fault_34 (s := s) C0 hA hf hP hD hS (lv_sub hl [0, 1, 2, 3] rfl)
  · have hf := ifT cc2 hf
    refine lv_aload_n hx hb d_RF_fault_5 rfl (lv_at hl 0 rfl) ?_
    refine lv_iconst (v := 0) hx hb d_RF_fault_6 (by decide) ?_
    refine va_put (D := D) (ci := 1) (v := .int 0) (ty := .int) (C := R_RF) (T := F_RF) (N := 34) hx hb hts i_RF t_RF t_RF_ok n_RF hown hK.1 hP hD hS 0 rfl rfl 0 (by decide) (hts _ w_387) (fun _ h9 => h9) rfl (t_RF_ok 0 (by decide)) rfl rfl (Nat.le_of_ble_eq_true rfl) d_RF_fault_7 (fun H locs hP hD hS => ?_)
    have hP : va_P D classes [(h_t, .inr (1, [.int 0, .int t_words, .int t_bits, v_t_cells, v_t_sense, v_t_kinds, v_t_victims, v_t_others, v_t_faults, .ref h_t_toldKinds, .ref h_t_toldVictims, .ref h_t_toldOthers, .int t_told, v_t_ground, v_t_ports, v_t_scrambled, v_t_places, v_t_sorts, v_t_counts, v_t_operations, v_t_elements, v_t_newSorts, v_t_newCounts, v_t_newOperations, v_t_tape, v_t_tapeSize, v_t_place, v_t_failed, v_t_failedCount, v_t_keeps, v_t_some, v_t_repairedRows, v_t_repairedColumns, v_t_proof])), (h_t_toldKinds, .inl (cI, n_t_toldKinds, .inl t_toldKinds_a)), (h_t_toldVictims, .inl (cI, n_t_toldVictims, .inl t_toldVictims_a)), (h_t_toldOthers, .inl (cI, n_t_toldOthers, .inl t_toldOthers_a))] H := hP
    have hD : va_D A [(h_t, .inr (1, [.int 0, .int t_words, .int t_bits, v_t_cells, v_t_sense, v_t_kinds, v_t_victims, v_t_others, v_t_faults, .ref h_t_toldKinds, .ref h_t_toldVictims, .ref h_t_toldOthers, .int t_told, v_t_ground, v_t_ports, v_t_scrambled, v_t_places, v_t_sorts, v_t_counts, v_t_operations, v_t_elements, v_t_newSorts, v_t_newCounts, v_t_newOperations, v_t_tape, v_t_tapeSize, v_t_place, v_t_failed, v_t_failedCount, v_t_keeps, v_t_some, v_t_repairedRows, v_t_repairedColumns, v_t_proof])), (h_t_toldKinds, .inl (cI, n_t_toldKinds, .inl t_toldKinds_a)), (h_t_toldVictims, .inl (cI, n_t_toldVictims, .inl t_toldVictims_a)), (h_t_toldOthers, .inl (cI, n_t_toldOthers, .inl t_toldOthers_a))] := hD
    refine lv_aload_n hx hb d_RF_fault_10 rfl (lv_at hl 0 rfl) ?_
    refine lv_iconst (v := 0) hx hb d_RF_fault_11 (by decide) ?_
    refine va_put (D := D) (ci := 1) (v := .int 0) (ty := .int) (C := R_RF) (T := F_RF) (N := 34) hx hb hts i_RF t_RF t_RF_ok n_RF hown hK.1 hP hD hS 0 rfl rfl 12 (by decide) (hts _ w_437) (fun _ h9 => h9) rfl (t_RF_ok 12 (by decide)) rfl rfl (Nat.le_of_ble_eq_true rfl) d_RF_fault_12 (fun H locs hP hD hS => ?_)
    have hP : va_P D classes [(h_t, .inr (1, [.int 0, .int t_words, .int t_bits, v_t_cells, v_t_sense, v_t_kinds, v_t_victims, v_t_others, v_t_faults, .ref h_t_toldKinds, .ref h_t_toldVictims, .ref h_t_toldOthers, .int 0, v_t_ground, v_t_ports, v_t_scrambled, v_t_places, v_t_sorts, v_t_counts, v_t_operations, v_t_elements, v_t_newSorts, v_t_newCounts, v_t_newOperations, v_t_tape, v_t_tapeSize, v_t_place, v_t_failed, v_t_failedCount, v_t_keeps, v_t_some, v_t_repairedRows, v_t_repairedColumns, v_t_proof])), (h_t_toldKinds, .inl (cI, n_t_toldKinds, .inl t_toldKinds_a)), (h_t_toldVictims, .inl (cI, n_t_toldVictims, .inl t_toldVictims_a)), (h_t_toldOthers, .inl (cI, n_t_toldOthers, .inl t_toldOthers_a))] H := hP
    have hD : va_D A [(h_t, .inr (1, [.int 0, .int t_words, .int t_bits, v_t_cells, v_t_sense, v_t_kinds, v_t_victims, v_t_others, v_t_faults, .ref h_t_toldKinds, .ref h_t_toldVictims, .ref h_t_toldOthers, .int 0, v_t_ground, v_t_ports, v_t_scrambled, v_t_places, v_t_sorts, v_t_counts, v_t_operations, v_t_elements, v_t_newSorts, v_t_newCounts, v_t_newOperations, v_t_tape, v_t_tapeSize, v_t_place, v_t_failed, v_t_failedCount, v_t_keeps, v_t_some, v_t_repairedRows, v_t_repairedColumns, v_t_proof])), (h_t_toldKinds, .inl (cI, n_t_toldKinds, .inl t_toldKinds_a)), (h_t_toldVictims, .inl (cI, n_t_toldVictims, .inl t_toldVictims_a)), (h_t_toldOthers, .inl (cI, n_t_toldOthers, .inl t_toldOthers_a))] := hD
    refine lv_iconst (v := 0) hx hb d_RF_fault_15 (by decide) ?_
    obtain rfl := Option.some.inj hf
    exact ret_i hx hb hr hlocks hP hD hS ⟨rfl, rfl⟩ d_RF_fault_16
def f_RF_scramble_30 (n_t_scrambled : Nat) (t_scrambled_a : Nat → Int32) (s1 : Int32) (x1 : Int32) (x2 : Int32) : Option (Int32 × Int32 × (Nat → Int32)) :=
  (if s1 ≤ 0 then
    (if inB x1 n_t_scrambled = true then
    (if inB x2 n_t_scrambled = true then
    (if inB x1 n_t_scrambled = true then
    (if inB x2 n_t_scrambled = true then
    (if x1 = x2 then
      some (0, s1, (upd (upd t_scrambled_a (Int32.toNatClampNeg x1) (t_scrambled_a (Int32.toNatClampNeg x2))) (Int32.toNatClampNeg x2) (t_scrambled_a (Int32.toNatClampNeg x1))))
    else
      some (1, s1, (upd (upd t_scrambled_a (Int32.toNatClampNeg x1) (t_scrambled_a (Int32.toNatClampNeg x2))) (Int32.toNatClampNeg x2) (t_scrambled_a (Int32.toNatClampNeg x1)))))
    else none)
    else none)
    else none)
    else none)
  else
    some (0, s1, t_scrambled_a))
def f_RF_scramble_29 (n_t_scrambled : Nat) (t_scrambled_a : Nat → Int32) (x1 : Int32) (x2 : Int32) : Option (Int32 × Int32 × (Nat → Int32)) :=
  (f_RF_scramble_30 n_t_scrambled t_scrambled_a 1 x1 x2)
def f_RF_scramble (n_t_scrambled : Nat) (t_words : Int32) (t_scrambled_a : Nat → Int32) (a1 : Int32) (a2 : Int32) : Option (Int32 × Int32 × (Nat → Int32)) :=
  (if a1 < 0 then
    (f_RF_scramble_29 n_t_scrambled t_scrambled_a a1 a2)
  else
    (if t_words ≤ a1 then
      (f_RF_scramble_29 n_t_scrambled t_scrambled_a a1 a2)
    else
      (if a2 < 0 then
        (f_RF_scramble_29 n_t_scrambled t_scrambled_a a1 a2)
      else
        (if t_words ≤ a2 then
          (f_RF_scramble_29 n_t_scrambled t_scrambled_a a1 a2)
        else
          (f_RF_scramble_30 n_t_scrambled t_scrambled_a 0 a1 a2)))))
def post_RF_scramble (h_t h_t_scrambled : Nat) (v_t_bits v_t_cells v_t_sense v_t_kinds v_t_victims v_t_others v_t_faults v_t_toldKinds v_t_toldVictims v_t_toldOthers v_t_told v_t_ground v_t_ports v_t_places v_t_sorts v_t_counts v_t_operations v_t_elements v_t_newSorts v_t_newCounts v_t_newOperations v_t_tape v_t_tapeSize v_t_place v_t_failed v_t_failedCount v_t_keeps v_t_some v_t_repairedRows v_t_repairedColumns v_t_proof : Value) (n_t_scrambled : Nat) (t_words : Int32) (cI cB cJ : ClassId) (res : Int32 × Int32 × (Nat → Int32)) : Option Value → va_W → Prop := fun o ws' => o = some (.int res.1) ∧ ws' = [(h_t, .inr (1, [.int res.2.1, .int t_words, v_t_bits, v_t_cells, v_t_sense, v_t_kinds, v_t_victims, v_t_others, v_t_faults, v_t_toldKinds, v_t_toldVictims, v_t_toldOthers, v_t_told, v_t_ground, v_t_ports, .ref h_t_scrambled, v_t_places, v_t_sorts, v_t_counts, v_t_operations, v_t_elements, v_t_newSorts, v_t_newCounts, v_t_newOperations, v_t_tape, v_t_tapeSize, v_t_place, v_t_failed, v_t_failedCount, v_t_keeps, v_t_some, v_t_repairedRows, v_t_repairedColumns, v_t_proof])), (h_t_scrambled, .inl (cI, n_t_scrambled, .inl res.2.2))]
abbrev rm_RF_scramble : Room := { frames := 0, cells := 0, slots := 0, locals := 0 }
set_option maxHeartbeats 4000000 in
set_option maxRecDepth 100000 in
theorem k_RF_scramble_30 {p : Program} {l : Launch} {e : Env} {s : State} {m : MethodId} {args : Array Value} {below : List Frame} {meth : Method} {c : Code} {D : va_G} {cI cB cJ : ClassId} {A : Nat → Prop} (C0 : CX p s m args meth c D [(cI, .int), (cB, .byte), (cJ, .long)] R_RF b_RF_scramble 4 (some .boolean) "scramble") (hA : ∀ q, s.heap.size ≤ q → A q) {h_t h_t_scrambled : Nat} {v_t_bits v_t_cells v_t_sense v_t_kinds v_t_victims v_t_others v_t_faults v_t_toldKinds v_t_toldVictims v_t_toldOthers v_t_told v_t_ground v_t_ports v_t_places v_t_sorts v_t_counts v_t_operations v_t_elements v_t_newSorts v_t_newCounts v_t_newOperations v_t_tape v_t_tapeSize v_t_place v_t_failed v_t_failedCount v_t_keeps v_t_some v_t_repairedRows v_t_repairedColumns v_t_proof : Value} {res : Int32 × Int32 × (Nat → Int32)} {n_t_scrambled : Nat} {t_thrown : Int32} {t_words : Int32} {t_scrambled_a : Nat → Int32} {s1 : Int32} {x1 : Int32} {x2 : Int32}
    (hf : f_RF_scramble_30 n_t_scrambled t_scrambled_a s1 x1 x2 = some res) {H : Heap} {locs : List Loc} {ls : Array Slot} (hP : va_P D classes [(h_t, .inr (1, [.int t_thrown, .int t_words, v_t_bits, v_t_cells, v_t_sense, v_t_kinds, v_t_victims, v_t_others, v_t_faults, v_t_toldKinds, v_t_toldVictims, v_t_toldOthers, v_t_told, v_t_ground, v_t_ports, .ref h_t_scrambled, v_t_places, v_t_sorts, v_t_counts, v_t_operations, v_t_elements, v_t_newSorts, v_t_newCounts, v_t_newOperations, v_t_tape, v_t_tapeSize, v_t_place, v_t_failed, v_t_failedCount, v_t_keeps, v_t_some, v_t_repairedRows, v_t_repairedColumns, v_t_proof])), (h_t_scrambled, .inl (cI, n_t_scrambled, .inl t_scrambled_a))] H) (hD : va_D A [(h_t, .inr (1, [.int t_thrown, .int t_words, v_t_bits, v_t_cells, v_t_sense, v_t_kinds, v_t_victims, v_t_others, v_t_faults, v_t_toldKinds, v_t_toldVictims, v_t_toldOthers, v_t_told, v_t_ground, v_t_ports, .ref h_t_scrambled, v_t_places, v_t_sorts, v_t_counts, v_t_operations, v_t_elements, v_t_newSorts, v_t_newCounts, v_t_newOperations, v_t_tape, v_t_tapeSize, v_t_place, v_t_failed, v_t_failedCount, v_t_keeps, v_t_some, v_t_repairedRows, v_t_repairedColumns, v_t_proof])), (h_t_scrambled, .inl (cI, n_t_scrambled, .inl t_scrambled_a))]) (hS : va_S A s.heap H locs) (hl : lv_has ls 4 [(0, .ref h_t), (1, .int x1), (2, .int x2)]) : W p l e rm_RF_scramble s m args below meth c H locs 0 0 (MQ below (QW D (post_RF_scramble h_t h_t_scrambled v_t_bits v_t_cells v_t_sense v_t_kinds v_t_victims v_t_others v_t_faults v_t_toldKinds v_t_toldVictims v_t_toldOthers v_t_told v_t_ground v_t_ports v_t_places v_t_sorts v_t_counts v_t_operations v_t_elements v_t_newSorts v_t_newCounts v_t_newOperations v_t_tape v_t_tapeSize v_t_place v_t_failed v_t_failedCount v_t_keeps v_t_some v_t_repairedRows v_t_repairedColumns v_t_proof n_t_scrambled t_words cI cB cJ res) A) args s 0 0 A) (F0 m 30 ls [.int s1, .ref h_t]) := by
  obtain ⟨hx, hb, hml, hr, hlocks, hts, hown, hK, hin⟩ := id C0
  have hf : (((
  (if s1 ≤ 0 then
    (if inB x1 n_t_scrambled = true then
    (if inB x2 n_t_scrambled = true then
    (if inB x1 n_t_scrambled = true then
    (if inB x2 n_t_scrambled = true then
    (if x1 = x2 then
      some (0, s1, (upd (upd t_scrambled_a (Int32.toNatClampNeg x1) (t_scrambled_a (Int32.toNatClampNeg x2))) (Int32.toNatClampNeg x2) (t_scrambled_a (Int32.toNatClampNeg x1))))
    else
      some (1, s1, (upd (upd t_scrambled_a (Int32.toNatClampNeg x1) (t_scrambled_a (Int32.toNatClampNeg x2))) (Int32.toNatClampNeg x2) (t_scrambled_a (Int32.toNatClampNeg x1)))))
    else none)
    else none)
    else none)
    else none)
  else
    some (0, s1, t_scrambled_a)))) : Option (Int32 × Int32 × (Nat → Int32))) = some res := hf
  refine va_put (D := D) (ci := 1) (v := .int s1) (ty := .int) (C := R_RF) (T := F_RF) (N := 34) hx hb hts i_RF t_RF t_RF_ok n_RF hown hK.1 hP hD hS 0 rfl rfl 0 (by decide) (hts _ w_387) (fun _ h9 => h9) rfl (t_RF_ok 0 (by decide)) rfl rfl (Nat.le_of_ble_eq_true rfl) d_RF_scramble_30 (fun H locs hP hD hS => ?_)
  have hP : va_P D classes [(h_t, .inr (1, [.int s1, .int t_words, v_t_bits, v_t_cells, v_t_sense, v_t_kinds, v_t_victims, v_t_others, v_t_faults, v_t_toldKinds, v_t_toldVictims, v_t_toldOthers, v_t_told, v_t_ground, v_t_ports, .ref h_t_scrambled, v_t_places, v_t_sorts, v_t_counts, v_t_operations, v_t_elements, v_t_newSorts, v_t_newCounts, v_t_newOperations, v_t_tape, v_t_tapeSize, v_t_place, v_t_failed, v_t_failedCount, v_t_keeps, v_t_some, v_t_repairedRows, v_t_repairedColumns, v_t_proof])), (h_t_scrambled, .inl (cI, n_t_scrambled, .inl t_scrambled_a))] H := hP
  have hD : va_D A [(h_t, .inr (1, [.int s1, .int t_words, v_t_bits, v_t_cells, v_t_sense, v_t_kinds, v_t_victims, v_t_others, v_t_faults, v_t_toldKinds, v_t_toldVictims, v_t_toldOthers, v_t_told, v_t_ground, v_t_ports, .ref h_t_scrambled, v_t_places, v_t_sorts, v_t_counts, v_t_operations, v_t_elements, v_t_newSorts, v_t_newCounts, v_t_newOperations, v_t_tape, v_t_tapeSize, v_t_place, v_t_failed, v_t_failedCount, v_t_keeps, v_t_some, v_t_repairedRows, v_t_repairedColumns, v_t_proof])), (h_t_scrambled, .inl (cI, n_t_scrambled, .inl t_scrambled_a))] := hD
  refine lv_aload_n hx hb d_RF_scramble_33 rfl (lv_at hl 0 rfl) ?_
  refine va_get (D := D) (ci := 1) (v := .int s1) (C := R_RF) (T := F_RF) (N := 34) hx hb hts i_RF hown hK.1 hP 0 rfl rfl 0 (by decide) (hts _ w_387) (fun _ h9 => h9) rfl d_RF_scramble_34 ?_
  refine lv_if_le (tgt := 42) hx hb d_RF_scramble_37 (by decide) (fun cc37 => ?_) (fun cc37 => ?_)
  · have hf := ifT cc37 hf
    refine lv_aload_n hx hb d_RF_scramble_42 rfl (lv_at hl 0 rfl) ?_
    refine va_get (D := D) (ci := 1) (v := .ref h_t_scrambled) (C := R_RF) (T := F_RF) (N := 34) hx hb hts i_RF hown hK.1 hP 0 rfl rfl 15 (by decide) (hts _ w_374) (fun _ h9 => h9) rfl d_RF_scramble_43 ?_
    refine lv_iload_n hx hb d_RF_scramble_46 rfl (lv_at hl 1 rfl) ?_
    obtain ⟨hin1, hf⟩ := ifG hf
    refine va_iald hx hb hK.1 hP 1 0 rfl rfl (inB_in hin1) d_RF_scramble_47 ?_
    refine lv_istore_n (lv' := [(3, .int (t_scrambled_a (Int32.toNatClampNeg x1))), (0, .ref h_t), (1, .int x1), (2, .int x2)]) hx hb d_RF_scramble_48 rfl hl (by decide) rfl (fun ls hl => ?_)
    refine lv_aload_n hx hb d_RF_scramble_49 rfl (lv_at hl 1 rfl) ?_
    refine va_get (D := D) (ci := 1) (v := .ref h_t_scrambled) (C := R_RF) (T := F_RF) (N := 34) hx hb hts i_RF hown hK.1 hP 0 rfl rfl 15 (by decide) (hts _ w_374) (fun _ h9 => h9) rfl d_RF_scramble_50 ?_
    refine lv_iload_n hx hb d_RF_scramble_53 rfl (lv_at hl 2 rfl) ?_
    refine lv_aload_n hx hb d_RF_scramble_54 rfl (lv_at hl 1 rfl) ?_
    refine va_get (D := D) (ci := 1) (v := .ref h_t_scrambled) (C := R_RF) (T := F_RF) (N := 34) hx hb hts i_RF hown hK.1 hP 0 rfl rfl 15 (by decide) (hts _ w_374) (fun _ h9 => h9) rfl d_RF_scramble_55 ?_
    refine lv_iload_n hx hb d_RF_scramble_58 rfl (lv_at hl 3 rfl) ?_
    obtain ⟨hin1, hf⟩ := ifG hf
    refine va_iald hx hb hK.1 hP 1 0 rfl rfl (inB_in hin1) d_RF_scramble_59 ?_
    obtain ⟨hin1, hf⟩ := ifG hf
    refine va_iast hx hb hK.1 hP hD hS 1 0 rfl rfl (inB_in hin1) d_RF_scramble_60 (fun H locs hP hD hS => ?_)
    have hP : va_P D classes [(h_t, .inr (1, [.int s1, .int t_words, v_t_bits, v_t_cells, v_t_sense, v_t_kinds, v_t_victims, v_t_others, v_t_faults, v_t_toldKinds, v_t_toldVictims, v_t_toldOthers, v_t_told, v_t_ground, v_t_ports, .ref h_t_scrambled, v_t_places, v_t_sorts, v_t_counts, v_t_operations, v_t_elements, v_t_newSorts, v_t_newCounts, v_t_newOperations, v_t_tape, v_t_tapeSize, v_t_place, v_t_failed, v_t_failedCount, v_t_keeps, v_t_some, v_t_repairedRows, v_t_repairedColumns, v_t_proof])), (h_t_scrambled, .inl (cI, n_t_scrambled, .inl (upd t_scrambled_a (Int32.toNatClampNeg x1) (t_scrambled_a (Int32.toNatClampNeg x2)))))] H := hP
    have hD : va_D A [(h_t, .inr (1, [.int s1, .int t_words, v_t_bits, v_t_cells, v_t_sense, v_t_kinds, v_t_victims, v_t_others, v_t_faults, v_t_toldKinds, v_t_toldVictims, v_t_toldOthers, v_t_told, v_t_ground, v_t_ports, .ref h_t_scrambled, v_t_places, v_t_sorts, v_t_counts, v_t_operations, v_t_elements, v_t_newSorts, v_t_newCounts, v_t_newOperations, v_t_tape, v_t_tapeSize, v_t_place, v_t_failed, v_t_failedCount, v_t_keeps, v_t_some, v_t_repairedRows, v_t_repairedColumns, v_t_proof])), (h_t_scrambled, .inl (cI, n_t_scrambled, .inl (upd t_scrambled_a (Int32.toNatClampNeg x1) (t_scrambled_a (Int32.toNatClampNeg x2)))))] := hD
    refine lv_aload_n hx hb d_RF_scramble_61 rfl (lv_at hl 1 rfl) ?_
    refine va_get (D := D) (ci := 1) (v := .ref h_t_scrambled) (C := R_RF) (T := F_RF) (N := 34) hx hb hts i_RF hown hK.1 hP 0 rfl rfl 15 (by decide) (hts _ w_374) (fun _ h9 => h9) rfl d_RF_scramble_62 ?_
    refine lv_iload_n hx hb d_RF_scramble_65 rfl (lv_at hl 3 rfl) ?_
    refine lv_iload_n hx hb d_RF_scramble_66 rfl (lv_at hl 0 rfl) ?_
    obtain ⟨hin1, hf⟩ := ifG hf
    refine va_iast hx hb hK.1 hP hD hS 1 0 rfl rfl (inB_in hin1) d_RF_scramble_67 (fun H locs hP hD hS => ?_)
    have hP : va_P D classes [(h_t, .inr (1, [.int s1, .int t_words, v_t_bits, v_t_cells, v_t_sense, v_t_kinds, v_t_victims, v_t_others, v_t_faults, v_t_toldKinds, v_t_toldVictims, v_t_toldOthers, v_t_told, v_t_ground, v_t_ports, .ref h_t_scrambled, v_t_places, v_t_sorts, v_t_counts, v_t_operations, v_t_elements, v_t_newSorts, v_t_newCounts, v_t_newOperations, v_t_tape, v_t_tapeSize, v_t_place, v_t_failed, v_t_failedCount, v_t_keeps, v_t_some, v_t_repairedRows, v_t_repairedColumns, v_t_proof])), (h_t_scrambled, .inl (cI, n_t_scrambled, .inl (upd (upd t_scrambled_a (Int32.toNatClampNeg x1) (t_scrambled_a (Int32.toNatClampNeg x2))) (Int32.toNatClampNeg x2) (t_scrambled_a (Int32.toNatClampNeg x1)))))] H := hP
    have hD : va_D A [(h_t, .inr (1, [.int s1, .int t_words, v_t_bits, v_t_cells, v_t_sense, v_t_kinds, v_t_victims, v_t_others, v_t_faults, v_t_toldKinds, v_t_toldVictims, v_t_toldOthers, v_t_told, v_t_ground, v_t_ports, .ref h_t_scrambled, v_t_places, v_t_sorts, v_t_counts, v_t_operations, v_t_elements, v_t_newSorts, v_t_newCounts, v_t_newOperations, v_t_tape, v_t_tapeSize, v_t_place, v_t_failed, v_t_failedCount, v_t_keeps, v_t_some, v_t_repairedRows, v_t_repairedColumns, v_t_proof])), (h_t_scrambled, .inl (cI, n_t_scrambled, .inl (upd (upd t_scrambled_a (Int32.toNatClampNeg x1) (t_scrambled_a (Int32.toNatClampNeg x2))) (Int32.toNatClampNeg x2) (t_scrambled_a (Int32.toNatClampNeg x1)))))] := hD
    refine lv_iload_n hx hb d_RF_scramble_68 rfl (lv_at hl 2 rfl) ?_
    refine lv_iload_n hx hb d_RF_scramble_69 rfl (lv_at hl 3 rfl) ?_
    refine lv_icmp_eq (tgt := 77) hx hb d_RF_scramble_70 (by decide) (fun cc70 => ?_) (fun cc70 => ?_)
    · have hf := ifT cc70 hf
      refine lv_iconst (v := 0) hx hb d_RF_scramble_77 (by decide) ?_
      obtain rfl := Option.some.inj hf
      exact ret_z hx hb hr rfl hlocks hP hD hS ⟨rfl, rfl⟩ d_RF_scramble_78
    · have hf := ifF cc70 hf
      refine lv_iconst (v := 1) hx hb d_RF_scramble_73 (by decide) ?_
      refine lv_goto (tgt := 78) hx hb d_RF_scramble_74 (by decide) ?_
      obtain rfl := Option.some.inj hf
      exact ret_z hx hb hr rfl hlocks hP hD hS ⟨rfl, rfl⟩ d_RF_scramble_78
  · have hf := ifF cc37 hf
    refine lv_iconst (v := 0) hx hb d_RF_scramble_40 (by decide) ?_
    obtain rfl := Option.some.inj hf
    exact ret_z hx hb hr rfl hlocks hP hD hS ⟨rfl, rfl⟩ d_RF_scramble_41
set_option maxHeartbeats 4000000 in
set_option maxRecDepth 100000 in
theorem k_RF_scramble_29 {p : Program} {l : Launch} {e : Env} {s : State} {m : MethodId} {args : Array Value} {below : List Frame} {meth : Method} {c : Code} {D : va_G} {cI cB cJ : ClassId} {A : Nat → Prop} (C0 : CX p s m args meth c D [(cI, .int), (cB, .byte), (cJ, .long)] R_RF b_RF_scramble 4 (some .boolean) "scramble") (hA : ∀ q, s.heap.size ≤ q → A q) {h_t h_t_scrambled : Nat} {v_t_bits v_t_cells v_t_sense v_t_kinds v_t_victims v_t_others v_t_faults v_t_toldKinds v_t_toldVictims v_t_toldOthers v_t_told v_t_ground v_t_ports v_t_places v_t_sorts v_t_counts v_t_operations v_t_elements v_t_newSorts v_t_newCounts v_t_newOperations v_t_tape v_t_tapeSize v_t_place v_t_failed v_t_failedCount v_t_keeps v_t_some v_t_repairedRows v_t_repairedColumns v_t_proof : Value} {res : Int32 × Int32 × (Nat → Int32)} {n_t_scrambled : Nat} {t_thrown : Int32} {t_words : Int32} {t_scrambled_a : Nat → Int32} {x1 : Int32} {x2 : Int32}
    (hf : f_RF_scramble_29 n_t_scrambled t_scrambled_a x1 x2 = some res) {H : Heap} {locs : List Loc} {ls : Array Slot} (hP : va_P D classes [(h_t, .inr (1, [.int t_thrown, .int t_words, v_t_bits, v_t_cells, v_t_sense, v_t_kinds, v_t_victims, v_t_others, v_t_faults, v_t_toldKinds, v_t_toldVictims, v_t_toldOthers, v_t_told, v_t_ground, v_t_ports, .ref h_t_scrambled, v_t_places, v_t_sorts, v_t_counts, v_t_operations, v_t_elements, v_t_newSorts, v_t_newCounts, v_t_newOperations, v_t_tape, v_t_tapeSize, v_t_place, v_t_failed, v_t_failedCount, v_t_keeps, v_t_some, v_t_repairedRows, v_t_repairedColumns, v_t_proof])), (h_t_scrambled, .inl (cI, n_t_scrambled, .inl t_scrambled_a))] H) (hD : va_D A [(h_t, .inr (1, [.int t_thrown, .int t_words, v_t_bits, v_t_cells, v_t_sense, v_t_kinds, v_t_victims, v_t_others, v_t_faults, v_t_toldKinds, v_t_toldVictims, v_t_toldOthers, v_t_told, v_t_ground, v_t_ports, .ref h_t_scrambled, v_t_places, v_t_sorts, v_t_counts, v_t_operations, v_t_elements, v_t_newSorts, v_t_newCounts, v_t_newOperations, v_t_tape, v_t_tapeSize, v_t_place, v_t_failed, v_t_failedCount, v_t_keeps, v_t_some, v_t_repairedRows, v_t_repairedColumns, v_t_proof])), (h_t_scrambled, .inl (cI, n_t_scrambled, .inl t_scrambled_a))]) (hS : va_S A s.heap H locs) (hl : lv_has ls 4 [(0, .ref h_t), (1, .int x1), (2, .int x2)]) : W p l e rm_RF_scramble s m args below meth c H locs 0 0 (MQ below (QW D (post_RF_scramble h_t h_t_scrambled v_t_bits v_t_cells v_t_sense v_t_kinds v_t_victims v_t_others v_t_faults v_t_toldKinds v_t_toldVictims v_t_toldOthers v_t_told v_t_ground v_t_ports v_t_places v_t_sorts v_t_counts v_t_operations v_t_elements v_t_newSorts v_t_newCounts v_t_newOperations v_t_tape v_t_tapeSize v_t_place v_t_failed v_t_failedCount v_t_keeps v_t_some v_t_repairedRows v_t_repairedColumns v_t_proof n_t_scrambled t_words cI cB cJ res) A) args s 0 0 A) (F0 m 29 ls [.ref h_t]) := by
  obtain ⟨hx, hb, hml, hr, hlocks, hts, hown, hK, hin⟩ := id C0
  have hf : (((
  (f_RF_scramble_30 n_t_scrambled t_scrambled_a 1 x1 x2))) : Option (Int32 × Int32 × (Nat → Int32))) = some res := hf
  refine lv_iconst (v := 1) hx hb d_RF_scramble_29 (by decide) ?_
  exact k_RF_scramble_30 (s := s) C0 hA hf hP hD hS (lv_sub hl [0, 1, 2] rfl)
set_option maxHeartbeats 4000000 in
set_option maxRecDepth 100000 in
theorem c_RF_scramble (l : Launch) (D : va_G) (cI cB cJ : ClassId) (h_t h_t_scrambled : Nat) (v_t_bits v_t_cells v_t_sense v_t_kinds v_t_victims v_t_others v_t_faults v_t_toldKinds v_t_toldVictims v_t_toldOthers v_t_told v_t_ground v_t_ports v_t_places v_t_sorts v_t_counts v_t_operations v_t_elements v_t_newSorts v_t_newCounts v_t_newOperations v_t_tape v_t_tapeSize v_t_place v_t_failed v_t_failedCount v_t_keeps v_t_some v_t_repairedRows v_t_repairedColumns v_t_proof : Value) (n_t_scrambled : Nat) (t_thrown : Int32) (t_words : Int32) (t_scrambled_a : Nat → Int32) (a1 : Int32) (a2 : Int32) (sz : Nat) (res : Int32 × Int32 × (Nat → Int32)) (hf : f_RF_scramble n_t_scrambled t_words t_scrambled_a a1 a2 = some res) : Met l y_RF_scramble (.code y_RF_scramble b_RF_scramble 4 (some .boolean) :: TB) rm_RF_scramble (PcW D [(cI, .int), (cB, .byte), (cJ, .long)] [.ref h_t, .int a1, .int a2] [(h_t, .inr (1, [.int t_thrown, .int t_words, v_t_bits, v_t_cells, v_t_sense, v_t_kinds, v_t_victims, v_t_others, v_t_faults, v_t_toldKinds, v_t_toldVictims, v_t_toldOthers, v_t_told, v_t_ground, v_t_ports, .ref h_t_scrambled, v_t_places, v_t_sorts, v_t_counts, v_t_operations, v_t_elements, v_t_newSorts, v_t_newCounts, v_t_newOperations, v_t_tape, v_t_tapeSize, v_t_place, v_t_failed, v_t_failedCount, v_t_keeps, v_t_some, v_t_repairedRows, v_t_repairedColumns, v_t_proof])), (h_t_scrambled, .inl (cI, n_t_scrambled, .inl t_scrambled_a))] sz) (QW D (post_RF_scramble h_t h_t_scrambled v_t_bits v_t_cells v_t_sense v_t_kinds v_t_victims v_t_others v_t_faults v_t_toldKinds v_t_toldVictims v_t_toldOthers v_t_told v_t_ground v_t_ports v_t_places v_t_sorts v_t_counts v_t_operations v_t_elements v_t_newSorts v_t_newCounts v_t_newOperations v_t_tape v_t_tapeSize v_t_place v_t_failed v_t_failedCount v_t_keeps v_t_some v_t_repairedRows v_t_repairedColumns v_t_proof n_t_scrambled t_words cI cB cJ res) (va_A [(h_t, .inr (1, [.int t_thrown, .int t_words, v_t_bits, v_t_cells, v_t_sense, v_t_kinds, v_t_victims, v_t_others, v_t_faults, v_t_toldKinds, v_t_toldVictims, v_t_toldOthers, v_t_told, v_t_ground, v_t_ports, .ref h_t_scrambled, v_t_places, v_t_sorts, v_t_counts, v_t_operations, v_t_elements, v_t_newSorts, v_t_newCounts, v_t_newOperations, v_t_tape, v_t_tapeSize, v_t_place, v_t_failed, v_t_failedCount, v_t_keeps, v_t_some, v_t_repairedRows, v_t_repairedColumns, v_t_proof])), (h_t_scrambled, .inl (cI, n_t_scrambled, .inl t_scrambled_a))] sz)) 0 0 (va_A [(h_t, .inr (1, [.int t_thrown, .int t_words, v_t_bits, v_t_cells, v_t_sense, v_t_kinds, v_t_victims, v_t_others, v_t_faults, v_t_toldKinds, v_t_toldVictims, v_t_toldOthers, v_t_told, v_t_ground, v_t_ports, .ref h_t_scrambled, v_t_places, v_t_sorts, v_t_counts, v_t_operations, v_t_elements, v_t_newSorts, v_t_newCounts, v_t_newOperations, v_t_tape, v_t_tapeSize, v_t_place, v_t_failed, v_t_failedCount, v_t_keeps, v_t_some, v_t_repairedRows, v_t_repairedColumns, v_t_proof])), (h_t_scrambled, .inl (cI, n_t_scrambled, .inl t_scrambled_a))] sz) := by
  refine entW ⟨by decide +kernel, rfl⟩ fun p e s m below meth c C0 hP hD hsz ls hl => ?_
  subst hsz
  generalize hAe : va_A [(h_t, .inr (1, [.int t_thrown, .int t_words, v_t_bits, v_t_cells, v_t_sense, v_t_kinds, v_t_victims, v_t_others, v_t_faults, v_t_toldKinds, v_t_toldVictims, v_t_toldOthers, v_t_told, v_t_ground, v_t_ports, .ref h_t_scrambled, v_t_places, v_t_sorts, v_t_counts, v_t_operations, v_t_elements, v_t_newSorts, v_t_newCounts, v_t_newOperations, v_t_tape, v_t_tapeSize, v_t_place, v_t_failed, v_t_failedCount, v_t_keeps, v_t_some, v_t_repairedRows, v_t_repairedColumns, v_t_proof])), (h_t_scrambled, .inl (cI, n_t_scrambled, .inl t_scrambled_a))] s.heap.size = A at hD ⊢
  have hA : ∀ q : Nat, s.heap.size ≤ q → A q := fun q h => by rw [← hAe]; exact Or.inr h
  clear hAe
  have hS : va_S A s.heap s.heap [] := va_S.rf
  have hl : lv_has ls 4 [(0, .ref h_t), (1, .int a1), (2, .int a2)] := hl
  obtain ⟨hx, hb, hml, hr, hlocks, hts, hown, hK, hin⟩ := id C0
  have hf : (((
  (if a1 < 0 then
    (f_RF_scramble_29 n_t_scrambled t_scrambled_a a1 a2)
  else
    (if t_words ≤ a1 then
      (f_RF_scramble_29 n_t_scrambled t_scrambled_a a1 a2)
    else
      (if a2 < 0 then
        (f_RF_scramble_29 n_t_scrambled t_scrambled_a a1 a2)
      else
        (if t_words ≤ a2 then
          (f_RF_scramble_29 n_t_scrambled t_scrambled_a a1 a2)
        else
          (f_RF_scramble_30 n_t_scrambled t_scrambled_a 0 a1 a2))))))) : Option (Int32 × Int32 × (Nat → Int32))) = some res := hf
  obtain ⟨H, hH⟩ : ∃ H, H = s.heap := ⟨_, rfl⟩
  obtain ⟨locs, hlo⟩ : ∃ x : List Loc, x = [] := ⟨_, rfl⟩
  rw [← hlo] at hS ⊢
  have hP : va_P D classes [(h_t, .inr (1, [.int t_thrown, .int t_words, v_t_bits, v_t_cells, v_t_sense, v_t_kinds, v_t_victims, v_t_others, v_t_faults, v_t_toldKinds, v_t_toldVictims, v_t_toldOthers, v_t_told, v_t_ground, v_t_ports, .ref h_t_scrambled, v_t_places, v_t_sorts, v_t_counts, v_t_operations, v_t_elements, v_t_newSorts, v_t_newCounts, v_t_newOperations, v_t_tape, v_t_tapeSize, v_t_place, v_t_failed, v_t_failedCount, v_t_keeps, v_t_some, v_t_repairedRows, v_t_repairedColumns, v_t_proof])), (h_t_scrambled, .inl (cI, n_t_scrambled, .inl t_scrambled_a))] H := by rw [hH]; exact hP
  have hS : va_S A s.heap H locs := by rw [hH]; exact hS
  show W p l e rm_RF_scramble s m _ below meth c s.heap locs 0 0 (MQ below (QW D (post_RF_scramble h_t h_t_scrambled v_t_bits v_t_cells v_t_sense v_t_kinds v_t_victims v_t_others v_t_faults v_t_toldKinds v_t_toldVictims v_t_toldOthers v_t_told v_t_ground v_t_ports v_t_places v_t_sorts v_t_counts v_t_operations v_t_elements v_t_newSorts v_t_newCounts v_t_newOperations v_t_tape v_t_tapeSize v_t_place v_t_failed v_t_failedCount v_t_keeps v_t_some v_t_repairedRows v_t_repairedColumns v_t_proof n_t_scrambled t_words cI cB cJ res) A) _ s 0 0 A) (F0 m 0 ls [])
  refine wheap hH ?_
  clear hH hlo
  refine lv_aload_n hx hb d_RF_scramble_0 rfl (lv_at hl 0 rfl) ?_
  refine lv_iload_n hx hb d_RF_scramble_1 rfl (lv_at hl 1 rfl) ?_
  refine lv_if_lt (tgt := 29) hx hb d_RF_scramble_2 (by decide) (fun cc2 => ?_) (fun cc2 => ?_)
  · have hf := ifT cc2 hf
    exact k_RF_scramble_29 (s := s) C0 hA hf hP hD hS (lv_sub hl [0, 1, 2] rfl)
  · have hf := ifF cc2 hf
    refine lv_iload_n hx hb d_RF_scramble_5 rfl (lv_at hl 1 rfl) ?_
    refine lv_aload_n hx hb d_RF_scramble_6 rfl (lv_at hl 0 rfl) ?_
    refine va_get (D := D) (ci := 1) (v := .int t_words) (C := R_RF) (T := F_RF) (N := 34) hx hb hts i_RF hown hK.1 hP 0 rfl rfl 1 (by decide) (hts _ w_384) (fun _ h9 => h9) rfl d_RF_scramble_7 ?_
    refine lv_icmp_ge (tgt := 29) hx hb d_RF_scramble_10 (by decide) (fun cc10 => ?_) (fun cc10 => ?_)
    · have hf := ifT cc10 hf
      exact k_RF_scramble_29 (s := s) C0 hA hf hP hD hS (lv_sub hl [0, 1, 2] rfl)
    · have hf := ifF cc10 hf
      refine lv_iload_n hx hb d_RF_scramble_13 rfl (lv_at hl 2 rfl) ?_
      refine lv_if_lt (tgt := 29) hx hb d_RF_scramble_14 (by decide) (fun cc14 => ?_) (fun cc14 => ?_)
      · have hf := ifT cc14 hf
        exact k_RF_scramble_29 (s := s) C0 hA hf hP hD hS (lv_sub hl [0, 1, 2] rfl)
      · have hf := ifF cc14 hf
        refine lv_iload_n hx hb d_RF_scramble_17 rfl (lv_at hl 2 rfl) ?_
        refine lv_aload_n hx hb d_RF_scramble_18 rfl (lv_at hl 0 rfl) ?_
        refine va_get (D := D) (ci := 1) (v := .int t_words) (C := R_RF) (T := F_RF) (N := 34) hx hb hts i_RF hown hK.1 hP 0 rfl rfl 1 (by decide) (hts _ w_384) (fun _ h9 => h9) rfl d_RF_scramble_19 ?_
        refine lv_icmp_ge (tgt := 29) hx hb d_RF_scramble_22 (by decide) (fun cc22 => ?_) (fun cc22 => ?_)
        · have hf := ifT cc22 hf
          exact k_RF_scramble_29 (s := s) C0 hA hf hP hD hS (lv_sub hl [0, 1, 2] rfl)
        · have hf := ifF cc22 hf
          refine lv_iconst (v := 0) hx hb d_RF_scramble_25 (by decide) ?_
          refine lv_goto (tgt := 30) hx hb d_RF_scramble_26 (by decide) ?_
          exact k_RF_scramble_30 (s := s) C0 hA hf hP hD hS (lv_sub hl [0, 1, 2] rfl)
def f_RF_port_16 (t_ports : Int32) (s1 : Int32) (x1 : Int32) : Option (Int32 × Int32 × Int32) :=
  (if s1 ≤ 0 then
    (if s1 ≤ 0 then
      some (t_ports, s1, x1)
    else
      some (0, s1, x1))
  else
    (if s1 ≤ 0 then
      some (t_ports, s1, t_ports)
    else
      some (0, s1, t_ports)))
def f_RF_port_11 (t_ports : Int32) (x1 : Int32) : Option (Int32 × Int32 × Int32) :=
  (f_RF_port_16 t_ports 0 x1)
def f_RF_port (t_ports : Int32) (a1 : Int32) : Option (Int32 × Int32 × Int32) :=
  (if a1 = 1 then
    (f_RF_port_11 t_ports a1)
  else
    (if a1 = 2 then
      (f_RF_port_11 t_ports a1)
    else
      (f_RF_port_16 t_ports 1 a1)))
def post_RF_port (h_t : Nat) (v_t_words v_t_bits v_t_cells v_t_sense v_t_kinds v_t_victims v_t_others v_t_faults v_t_toldKinds v_t_toldVictims v_t_toldOthers v_t_told v_t_ground v_t_scrambled v_t_places v_t_sorts v_t_counts v_t_operations v_t_elements v_t_newSorts v_t_newCounts v_t_newOperations v_t_tape v_t_tapeSize v_t_place v_t_failed v_t_failedCount v_t_keeps v_t_some v_t_repairedRows v_t_repairedColumns v_t_proof : Value) (cI cB cJ : ClassId) (res : Int32 × Int32 × Int32) : Option Value → va_W → Prop := fun o ws' => o = some (.int res.1) ∧ ws' = [(h_t, .inr (1, [.int res.2.1, v_t_words, v_t_bits, v_t_cells, v_t_sense, v_t_kinds, v_t_victims, v_t_others, v_t_faults, v_t_toldKinds, v_t_toldVictims, v_t_toldOthers, v_t_told, v_t_ground, .int res.2.2, v_t_scrambled, v_t_places, v_t_sorts, v_t_counts, v_t_operations, v_t_elements, v_t_newSorts, v_t_newCounts, v_t_newOperations, v_t_tape, v_t_tapeSize, v_t_place, v_t_failed, v_t_failedCount, v_t_keeps, v_t_some, v_t_repairedRows, v_t_repairedColumns, v_t_proof]))]
abbrev rm_RF_port : Room := { frames := 0, cells := 0, slots := 0, locals := 0 }
set_option maxHeartbeats 4000000 in
set_option maxRecDepth 100000 in
theorem k_RF_port_16 {p : Program} {l : Launch} {e : Env} {s : State} {m : MethodId} {args : Array Value} {below : List Frame} {meth : Method} {c : Code} {D : va_G} {cI cB cJ : ClassId} {A : Nat → Prop} (C0 : CX p s m args meth c D [(cI, .int), (cB, .byte), (cJ, .long)] R_RF b_RF_port 3 (some .int) "port") (hA : ∀ q, s.heap.size ≤ q → A q) {h_t : Nat} {v_t_words v_t_bits v_t_cells v_t_sense v_t_kinds v_t_victims v_t_others v_t_faults v_t_toldKinds v_t_toldVictims v_t_toldOthers v_t_told v_t_ground v_t_scrambled v_t_places v_t_sorts v_t_counts v_t_operations v_t_elements v_t_newSorts v_t_newCounts v_t_newOperations v_t_tape v_t_tapeSize v_t_place v_t_failed v_t_failedCount v_t_keeps v_t_some v_t_repairedRows v_t_repairedColumns v_t_proof : Value} {res : Int32 × Int32 × Int32} {t_thrown : Int32} {t_ports : Int32} {s1 : Int32} {x1 : Int32}
    (hf : f_RF_port_16 t_ports s1 x1 = some res) {H : Heap} {locs : List Loc} {ls : Array Slot} (hP : va_P D classes [(h_t, .inr (1, [.int t_thrown, v_t_words, v_t_bits, v_t_cells, v_t_sense, v_t_kinds, v_t_victims, v_t_others, v_t_faults, v_t_toldKinds, v_t_toldVictims, v_t_toldOthers, v_t_told, v_t_ground, .int t_ports, v_t_scrambled, v_t_places, v_t_sorts, v_t_counts, v_t_operations, v_t_elements, v_t_newSorts, v_t_newCounts, v_t_newOperations, v_t_tape, v_t_tapeSize, v_t_place, v_t_failed, v_t_failedCount, v_t_keeps, v_t_some, v_t_repairedRows, v_t_repairedColumns, v_t_proof]))] H) (hD : va_D A [(h_t, .inr (1, [.int t_thrown, v_t_words, v_t_bits, v_t_cells, v_t_sense, v_t_kinds, v_t_victims, v_t_others, v_t_faults, v_t_toldKinds, v_t_toldVictims, v_t_toldOthers, v_t_told, v_t_ground, .int t_ports, v_t_scrambled, v_t_places, v_t_sorts, v_t_counts, v_t_operations, v_t_elements, v_t_newSorts, v_t_newCounts, v_t_newOperations, v_t_tape, v_t_tapeSize, v_t_place, v_t_failed, v_t_failedCount, v_t_keeps, v_t_some, v_t_repairedRows, v_t_repairedColumns, v_t_proof]))]) (hS : va_S A s.heap H locs) (hl : lv_has ls 3 [(0, .ref h_t), (1, .int x1)]) : W p l e rm_RF_port s m args below meth c H locs 0 0 (MQ below (QW D (post_RF_port h_t v_t_words v_t_bits v_t_cells v_t_sense v_t_kinds v_t_victims v_t_others v_t_faults v_t_toldKinds v_t_toldVictims v_t_toldOthers v_t_told v_t_ground v_t_scrambled v_t_places v_t_sorts v_t_counts v_t_operations v_t_elements v_t_newSorts v_t_newCounts v_t_newOperations v_t_tape v_t_tapeSize v_t_place v_t_failed v_t_failedCount v_t_keeps v_t_some v_t_repairedRows v_t_repairedColumns v_t_proof cI cB cJ res) A) args s 0 0 A) (F0 m 16 ls [.int s1, .ref h_t]) := by
  obtain ⟨hx, hb, hml, hr, hlocks, hts, hown, hK, hin⟩ := id C0
  have hf : (((
  (if s1 ≤ 0 then
    (if s1 ≤ 0 then
      some (t_ports, s1, x1)
    else
      some (0, s1, x1))
  else
    (if s1 ≤ 0 then
      some (t_ports, s1, t_ports)
    else
      some (0, s1, t_ports))))) : Option (Int32 × Int32 × Int32)) = some res := hf
  refine va_put (D := D) (ci := 1) (v := .int s1) (ty := .int) (C := R_RF) (T := F_RF) (N := 34) hx hb hts i_RF t_RF t_RF_ok n_RF hown hK.1 hP hD hS 0 rfl rfl 0 (by decide) (hts _ w_387) (fun _ h9 => h9) rfl (t_RF_ok 0 (by decide)) rfl rfl (Nat.le_of_ble_eq_true rfl) d_RF_port_16 (fun H locs hP hD hS => ?_)
  have hP : va_P D classes [(h_t, .inr (1, [.int s1, v_t_words, v_t_bits, v_t_cells, v_t_sense, v_t_kinds, v_t_victims, v_t_others, v_t_faults, v_t_toldKinds, v_t_toldVictims, v_t_toldOthers, v_t_told, v_t_ground, .int t_ports, v_t_scrambled, v_t_places, v_t_sorts, v_t_counts, v_t_operations, v_t_elements, v_t_newSorts, v_t_newCounts, v_t_newOperations, v_t_tape, v_t_tapeSize, v_t_place, v_t_failed, v_t_failedCount, v_t_keeps, v_t_some, v_t_repairedRows, v_t_repairedColumns, v_t_proof]))] H := hP
  have hD : va_D A [(h_t, .inr (1, [.int s1, v_t_words, v_t_bits, v_t_cells, v_t_sense, v_t_kinds, v_t_victims, v_t_others, v_t_faults, v_t_toldKinds, v_t_toldVictims, v_t_toldOthers, v_t_told, v_t_ground, .int t_ports, v_t_scrambled, v_t_places, v_t_sorts, v_t_counts, v_t_operations, v_t_elements, v_t_newSorts, v_t_newCounts, v_t_newOperations, v_t_tape, v_t_tapeSize, v_t_place, v_t_failed, v_t_failedCount, v_t_keeps, v_t_some, v_t_repairedRows, v_t_repairedColumns, v_t_proof]))] := hD
  refine lv_aload_n hx hb d_RF_port_19 rfl (lv_at hl 0 rfl) ?_
  refine va_get (D := D) (ci := 1) (v := .int t_ports) (C := R_RF) (T := F_RF) (N := 34) hx hb hts i_RF hown hK.1 hP 0 rfl rfl 14 (by decide) (hts _ w_386) (fun _ h9 => h9) rfl d_RF_port_20 ?_
  refine lv_istore_n (lv' := [(2, .int t_ports), (0, .ref h_t), (1, .int x1)]) hx hb d_RF_port_23 rfl hl (by decide) rfl (fun ls hl => ?_)
  refine lv_aload_n hx hb d_RF_port_24 rfl (lv_at hl 1 rfl) ?_
  refine lv_aload_n hx hb d_RF_port_25 rfl (lv_at hl 1 rfl) ?_
  refine va_get (D := D) (ci := 1) (v := .int s1) (C := R_RF) (T := F_RF) (N := 34) hx hb hts i_RF hown hK.1 hP 0 rfl rfl 0 (by decide) (hts _ w_387) (fun _ h9 => h9) rfl d_RF_port_26 ?_
  refine lv_if_le (tgt := 39) hx hb d_RF_port_29 (by decide) (fun cc29 => ?_) (fun cc29 => ?_)
  · have hf := ifT cc29 hf
    refine lv_iload_n hx hb d_RF_port_39 rfl (lv_at hl 2 rfl) ?_
    refine va_put (D := D) (ci := 1) (v := .int x1) (ty := .int) (C := R_RF) (T := F_RF) (N := 34) hx hb hts i_RF t_RF t_RF_ok n_RF hown hK.1 hP hD hS 0 rfl rfl 14 (by decide) (hts _ w_386) (fun _ h9 => h9) rfl (t_RF_ok 14 (by decide)) rfl rfl (Nat.le_of_ble_eq_true rfl) d_RF_port_40 (fun H locs hP hD hS => ?_)
    have hP : va_P D classes [(h_t, .inr (1, [.int s1, v_t_words, v_t_bits, v_t_cells, v_t_sense, v_t_kinds, v_t_victims, v_t_others, v_t_faults, v_t_toldKinds, v_t_toldVictims, v_t_toldOthers, v_t_told, v_t_ground, .int x1, v_t_scrambled, v_t_places, v_t_sorts, v_t_counts, v_t_operations, v_t_elements, v_t_newSorts, v_t_newCounts, v_t_newOperations, v_t_tape, v_t_tapeSize, v_t_place, v_t_failed, v_t_failedCount, v_t_keeps, v_t_some, v_t_repairedRows, v_t_repairedColumns, v_t_proof]))] H := hP
    have hD : va_D A [(h_t, .inr (1, [.int s1, v_t_words, v_t_bits, v_t_cells, v_t_sense, v_t_kinds, v_t_victims, v_t_others, v_t_faults, v_t_toldKinds, v_t_toldVictims, v_t_toldOthers, v_t_told, v_t_ground, .int x1, v_t_scrambled, v_t_places, v_t_sorts, v_t_counts, v_t_operations, v_t_elements, v_t_newSorts, v_t_newCounts, v_t_newOperations, v_t_tape, v_t_tapeSize, v_t_place, v_t_failed, v_t_failedCount, v_t_keeps, v_t_some, v_t_repairedRows, v_t_repairedColumns, v_t_proof]))] := hD
    refine lv_aload_n hx hb d_RF_port_43 rfl (lv_at hl 1 rfl) ?_
    refine va_get (D := D) (ci := 1) (v := .int s1) (C := R_RF) (T := F_RF) (N := 34) hx hb hts i_RF hown hK.1 hP 0 rfl rfl 0 (by decide) (hts _ w_387) (fun _ h9 => h9) rfl d_RF_port_44 ?_
    refine lv_if_le (tgt := 54) hx hb d_RF_port_47 (by decide) (fun cc47 => ?_) (fun cc47 => ?_)
    · have hf := ifT cc47 hf
      refine lv_iload_n hx hb d_RF_port_54 rfl (lv_at hl 0 rfl) ?_
      obtain rfl := Option.some.inj hf
      exact ret_i hx hb hr hlocks hP hD hS ⟨rfl, rfl⟩ d_RF_port_55
    · have hf := ifF cc47 hf
      refine lv_iconst (v := 0) hx hb d_RF_port_50 (by decide) ?_
      refine lv_goto (tgt := 55) hx hb d_RF_port_51 (by decide) ?_
      obtain rfl := Option.some.inj hf
      exact ret_i hx hb hr hlocks hP hD hS ⟨rfl, rfl⟩ d_RF_port_55
  · have hf := ifF cc29 hf
    refine lv_aload_n hx hb d_RF_port_32 rfl (lv_at hl 1 rfl) ?_
    refine va_get (D := D) (ci := 1) (v := .int t_ports) (C := R_RF) (T := F_RF) (N := 34) hx hb hts i_RF hown hK.1 hP 0 rfl rfl 14 (by decide) (hts _ w_386) (fun _ h9 => h9) rfl d_RF_port_33 ?_
    refine lv_goto (tgt := 40) hx hb d_RF_port_36 (by decide) ?_
    refine va_put (D := D) (ci := 1) (v := .int t_ports) (ty := .int) (C := R_RF) (T := F_RF) (N := 34) hx hb hts i_RF t_RF t_RF_ok n_RF hown hK.1 hP hD hS 0 rfl rfl 14 (by decide) (hts _ w_386) (fun _ h9 => h9) rfl (t_RF_ok 14 (by decide)) rfl rfl (Nat.le_of_ble_eq_true rfl) d_RF_port_40 (fun H locs hP hD hS => ?_)
    have hP : va_P D classes [(h_t, .inr (1, [.int s1, v_t_words, v_t_bits, v_t_cells, v_t_sense, v_t_kinds, v_t_victims, v_t_others, v_t_faults, v_t_toldKinds, v_t_toldVictims, v_t_toldOthers, v_t_told, v_t_ground, .int t_ports, v_t_scrambled, v_t_places, v_t_sorts, v_t_counts, v_t_operations, v_t_elements, v_t_newSorts, v_t_newCounts, v_t_newOperations, v_t_tape, v_t_tapeSize, v_t_place, v_t_failed, v_t_failedCount, v_t_keeps, v_t_some, v_t_repairedRows, v_t_repairedColumns, v_t_proof]))] H := hP
    have hD : va_D A [(h_t, .inr (1, [.int s1, v_t_words, v_t_bits, v_t_cells, v_t_sense, v_t_kinds, v_t_victims, v_t_others, v_t_faults, v_t_toldKinds, v_t_toldVictims, v_t_toldOthers, v_t_told, v_t_ground, .int t_ports, v_t_scrambled, v_t_places, v_t_sorts, v_t_counts, v_t_operations, v_t_elements, v_t_newSorts, v_t_newCounts, v_t_newOperations, v_t_tape, v_t_tapeSize, v_t_place, v_t_failed, v_t_failedCount, v_t_keeps, v_t_some, v_t_repairedRows, v_t_repairedColumns, v_t_proof]))] := hD
    refine lv_aload_n hx hb d_RF_port_43 rfl (lv_at hl 1 rfl) ?_
    refine va_get (D := D) (ci := 1) (v := .int s1) (C := R_RF) (T := F_RF) (N := 34) hx hb hts i_RF hown hK.1 hP 0 rfl rfl 0 (by decide) (hts _ w_387) (fun _ h9 => h9) rfl d_RF_port_44 ?_
    refine lv_if_le (tgt := 54) hx hb d_RF_port_47 (by decide) (fun cc47 => ?_) (fun cc47 => ?_)
    · have hf := ifT cc47 hf
      refine lv_iload_n hx hb d_RF_port_54 rfl (lv_at hl 0 rfl) ?_
      obtain rfl := Option.some.inj hf
      exact ret_i hx hb hr hlocks hP hD hS ⟨rfl, rfl⟩ d_RF_port_55
    · have hf := ifF cc47 hf
      refine lv_iconst (v := 0) hx hb d_RF_port_50 (by decide) ?_
      refine lv_goto (tgt := 55) hx hb d_RF_port_51 (by decide) ?_
      obtain rfl := Option.some.inj hf
      exact ret_i hx hb hr hlocks hP hD hS ⟨rfl, rfl⟩ d_RF_port_55
set_option maxHeartbeats 4000000 in
set_option maxRecDepth 100000 in
theorem k_RF_port_11 {p : Program} {l : Launch} {e : Env} {s : State} {m : MethodId} {args : Array Value} {below : List Frame} {meth : Method} {c : Code} {D : va_G} {cI cB cJ : ClassId} {A : Nat → Prop} (C0 : CX p s m args meth c D [(cI, .int), (cB, .byte), (cJ, .long)] R_RF b_RF_port 3 (some .int) "port") (hA : ∀ q, s.heap.size ≤ q → A q) {h_t : Nat} {v_t_words v_t_bits v_t_cells v_t_sense v_t_kinds v_t_victims v_t_others v_t_faults v_t_toldKinds v_t_toldVictims v_t_toldOthers v_t_told v_t_ground v_t_scrambled v_t_places v_t_sorts v_t_counts v_t_operations v_t_elements v_t_newSorts v_t_newCounts v_t_newOperations v_t_tape v_t_tapeSize v_t_place v_t_failed v_t_failedCount v_t_keeps v_t_some v_t_repairedRows v_t_repairedColumns v_t_proof : Value} {res : Int32 × Int32 × Int32} {t_thrown : Int32} {t_ports : Int32} {x1 : Int32}
    (hf : f_RF_port_11 t_ports x1 = some res) {H : Heap} {locs : List Loc} {ls : Array Slot} (hP : va_P D classes [(h_t, .inr (1, [.int t_thrown, v_t_words, v_t_bits, v_t_cells, v_t_sense, v_t_kinds, v_t_victims, v_t_others, v_t_faults, v_t_toldKinds, v_t_toldVictims, v_t_toldOthers, v_t_told, v_t_ground, .int t_ports, v_t_scrambled, v_t_places, v_t_sorts, v_t_counts, v_t_operations, v_t_elements, v_t_newSorts, v_t_newCounts, v_t_newOperations, v_t_tape, v_t_tapeSize, v_t_place, v_t_failed, v_t_failedCount, v_t_keeps, v_t_some, v_t_repairedRows, v_t_repairedColumns, v_t_proof]))] H) (hD : va_D A [(h_t, .inr (1, [.int t_thrown, v_t_words, v_t_bits, v_t_cells, v_t_sense, v_t_kinds, v_t_victims, v_t_others, v_t_faults, v_t_toldKinds, v_t_toldVictims, v_t_toldOthers, v_t_told, v_t_ground, .int t_ports, v_t_scrambled, v_t_places, v_t_sorts, v_t_counts, v_t_operations, v_t_elements, v_t_newSorts, v_t_newCounts, v_t_newOperations, v_t_tape, v_t_tapeSize, v_t_place, v_t_failed, v_t_failedCount, v_t_keeps, v_t_some, v_t_repairedRows, v_t_repairedColumns, v_t_proof]))]) (hS : va_S A s.heap H locs) (hl : lv_has ls 3 [(0, .ref h_t), (1, .int x1)]) : W p l e rm_RF_port s m args below meth c H locs 0 0 (MQ below (QW D (post_RF_port h_t v_t_words v_t_bits v_t_cells v_t_sense v_t_kinds v_t_victims v_t_others v_t_faults v_t_toldKinds v_t_toldVictims v_t_toldOthers v_t_told v_t_ground v_t_scrambled v_t_places v_t_sorts v_t_counts v_t_operations v_t_elements v_t_newSorts v_t_newCounts v_t_newOperations v_t_tape v_t_tapeSize v_t_place v_t_failed v_t_failedCount v_t_keeps v_t_some v_t_repairedRows v_t_repairedColumns v_t_proof cI cB cJ res) A) args s 0 0 A) (F0 m 11 ls [.ref h_t]) := by
  obtain ⟨hx, hb, hml, hr, hlocks, hts, hown, hK, hin⟩ := id C0
  have hf : (((
  (f_RF_port_16 t_ports 0 x1))) : Option (Int32 × Int32 × Int32)) = some res := hf
  refine lv_iconst (v := 0) hx hb d_RF_port_11 (by decide) ?_
  refine lv_goto (tgt := 16) hx hb d_RF_port_12 (by decide) ?_
  exact k_RF_port_16 (s := s) C0 hA hf hP hD hS (lv_sub hl [0, 1] rfl)
set_option maxHeartbeats 4000000 in
set_option maxRecDepth 100000 in
theorem c_RF_port (l : Launch) (D : va_G) (cI cB cJ : ClassId) (h_t : Nat) (v_t_words v_t_bits v_t_cells v_t_sense v_t_kinds v_t_victims v_t_others v_t_faults v_t_toldKinds v_t_toldVictims v_t_toldOthers v_t_told v_t_ground v_t_scrambled v_t_places v_t_sorts v_t_counts v_t_operations v_t_elements v_t_newSorts v_t_newCounts v_t_newOperations v_t_tape v_t_tapeSize v_t_place v_t_failed v_t_failedCount v_t_keeps v_t_some v_t_repairedRows v_t_repairedColumns v_t_proof : Value) (t_thrown : Int32) (t_ports : Int32) (a1 : Int32) (sz : Nat) (res : Int32 × Int32 × Int32) (hf : f_RF_port t_ports a1 = some res) : Met l y_RF_port (.code y_RF_port b_RF_port 3 (some .int) :: TB) rm_RF_port (PcW D [(cI, .int), (cB, .byte), (cJ, .long)] [.ref h_t, .int a1] [(h_t, .inr (1, [.int t_thrown, v_t_words, v_t_bits, v_t_cells, v_t_sense, v_t_kinds, v_t_victims, v_t_others, v_t_faults, v_t_toldKinds, v_t_toldVictims, v_t_toldOthers, v_t_told, v_t_ground, .int t_ports, v_t_scrambled, v_t_places, v_t_sorts, v_t_counts, v_t_operations, v_t_elements, v_t_newSorts, v_t_newCounts, v_t_newOperations, v_t_tape, v_t_tapeSize, v_t_place, v_t_failed, v_t_failedCount, v_t_keeps, v_t_some, v_t_repairedRows, v_t_repairedColumns, v_t_proof]))] sz) (QW D (post_RF_port h_t v_t_words v_t_bits v_t_cells v_t_sense v_t_kinds v_t_victims v_t_others v_t_faults v_t_toldKinds v_t_toldVictims v_t_toldOthers v_t_told v_t_ground v_t_scrambled v_t_places v_t_sorts v_t_counts v_t_operations v_t_elements v_t_newSorts v_t_newCounts v_t_newOperations v_t_tape v_t_tapeSize v_t_place v_t_failed v_t_failedCount v_t_keeps v_t_some v_t_repairedRows v_t_repairedColumns v_t_proof cI cB cJ res) (va_A [(h_t, .inr (1, [.int t_thrown, v_t_words, v_t_bits, v_t_cells, v_t_sense, v_t_kinds, v_t_victims, v_t_others, v_t_faults, v_t_toldKinds, v_t_toldVictims, v_t_toldOthers, v_t_told, v_t_ground, .int t_ports, v_t_scrambled, v_t_places, v_t_sorts, v_t_counts, v_t_operations, v_t_elements, v_t_newSorts, v_t_newCounts, v_t_newOperations, v_t_tape, v_t_tapeSize, v_t_place, v_t_failed, v_t_failedCount, v_t_keeps, v_t_some, v_t_repairedRows, v_t_repairedColumns, v_t_proof]))] sz)) 0 0 (va_A [(h_t, .inr (1, [.int t_thrown, v_t_words, v_t_bits, v_t_cells, v_t_sense, v_t_kinds, v_t_victims, v_t_others, v_t_faults, v_t_toldKinds, v_t_toldVictims, v_t_toldOthers, v_t_told, v_t_ground, .int t_ports, v_t_scrambled, v_t_places, v_t_sorts, v_t_counts, v_t_operations, v_t_elements, v_t_newSorts, v_t_newCounts, v_t_newOperations, v_t_tape, v_t_tapeSize, v_t_place, v_t_failed, v_t_failedCount, v_t_keeps, v_t_some, v_t_repairedRows, v_t_repairedColumns, v_t_proof]))] sz) := by
  refine entW ⟨by decide +kernel, rfl⟩ fun p e s m below meth c C0 hP hD hsz ls hl => ?_
  subst hsz
  generalize hAe : va_A [(h_t, .inr (1, [.int t_thrown, v_t_words, v_t_bits, v_t_cells, v_t_sense, v_t_kinds, v_t_victims, v_t_others, v_t_faults, v_t_toldKinds, v_t_toldVictims, v_t_toldOthers, v_t_told, v_t_ground, .int t_ports, v_t_scrambled, v_t_places, v_t_sorts, v_t_counts, v_t_operations, v_t_elements, v_t_newSorts, v_t_newCounts, v_t_newOperations, v_t_tape, v_t_tapeSize, v_t_place, v_t_failed, v_t_failedCount, v_t_keeps, v_t_some, v_t_repairedRows, v_t_repairedColumns, v_t_proof]))] s.heap.size = A at hD ⊢
  have hA : ∀ q : Nat, s.heap.size ≤ q → A q := fun q h => by rw [← hAe]; exact Or.inr h
  clear hAe
  have hS : va_S A s.heap s.heap [] := va_S.rf
  have hl : lv_has ls 3 [(0, .ref h_t), (1, .int a1)] := hl
  obtain ⟨hx, hb, hml, hr, hlocks, hts, hown, hK, hin⟩ := id C0
  have hf : (((
  (if a1 = 1 then
    (f_RF_port_11 t_ports a1)
  else
    (if a1 = 2 then
      (f_RF_port_11 t_ports a1)
    else
      (f_RF_port_16 t_ports 1 a1))))) : Option (Int32 × Int32 × Int32)) = some res := hf
  obtain ⟨H, hH⟩ : ∃ H, H = s.heap := ⟨_, rfl⟩
  obtain ⟨locs, hlo⟩ : ∃ x : List Loc, x = [] := ⟨_, rfl⟩
  rw [← hlo] at hS ⊢
  have hP : va_P D classes [(h_t, .inr (1, [.int t_thrown, v_t_words, v_t_bits, v_t_cells, v_t_sense, v_t_kinds, v_t_victims, v_t_others, v_t_faults, v_t_toldKinds, v_t_toldVictims, v_t_toldOthers, v_t_told, v_t_ground, .int t_ports, v_t_scrambled, v_t_places, v_t_sorts, v_t_counts, v_t_operations, v_t_elements, v_t_newSorts, v_t_newCounts, v_t_newOperations, v_t_tape, v_t_tapeSize, v_t_place, v_t_failed, v_t_failedCount, v_t_keeps, v_t_some, v_t_repairedRows, v_t_repairedColumns, v_t_proof]))] H := by rw [hH]; exact hP
  have hS : va_S A s.heap H locs := by rw [hH]; exact hS
  show W p l e rm_RF_port s m _ below meth c s.heap locs 0 0 (MQ below (QW D (post_RF_port h_t v_t_words v_t_bits v_t_cells v_t_sense v_t_kinds v_t_victims v_t_others v_t_faults v_t_toldKinds v_t_toldVictims v_t_toldOthers v_t_told v_t_ground v_t_scrambled v_t_places v_t_sorts v_t_counts v_t_operations v_t_elements v_t_newSorts v_t_newCounts v_t_newOperations v_t_tape v_t_tapeSize v_t_place v_t_failed v_t_failedCount v_t_keeps v_t_some v_t_repairedRows v_t_repairedColumns v_t_proof cI cB cJ res) A) _ s 0 0 A) (F0 m 0 ls [])
  refine wheap hH ?_
  clear hH hlo
  refine lv_aload_n hx hb d_RF_port_0 rfl (lv_at hl 0 rfl) ?_
  refine lv_iload_n hx hb d_RF_port_1 rfl (lv_at hl 1 rfl) ?_
  refine lv_iconst (v := 1) hx hb d_RF_port_2 (by decide) ?_
  refine lv_icmp_eq (tgt := 11) hx hb d_RF_port_3 (by decide) (fun cc3 => ?_) (fun cc3 => ?_)
  · have hf := ifT cc3 hf
    exact k_RF_port_11 (s := s) C0 hA hf hP hD hS (lv_sub hl [0, 1] rfl)
  · have hf := ifF cc3 hf
    refine lv_iload_n hx hb d_RF_port_6 rfl (lv_at hl 1 rfl) ?_
    refine lv_iconst (v := 2) hx hb d_RF_port_7 (by decide) ?_
    refine lv_icmp_ne (tgt := 15) hx hb d_RF_port_8 (by decide) (fun cc8 => ?_) (fun cc8 => ?_)
    · have hf := ifF cc8 hf
      refine lv_iconst (v := 1) hx hb d_RF_port_15 (by decide) ?_
      exact k_RF_port_16 (s := s) C0 hA hf hP hD hS (lv_sub hl [0, 1] rfl)
    · have hf := ifT cc8 hf
      exact k_RF_port_11 (s := s) C0 hA hf hP hD hS (lv_sub hl [0, 1] rfl)
def f_RF_ground_15 (t_ground : Int32) (s1 : Int32) (x1 : Int32) : Option (Int32 × Int32 × Int32) :=
  (if s1 = 0 then
    (if x1 = t_ground then
      (if s1 ≤ 0 then
        some (0, s1, x1)
      else
        some (0, s1, t_ground))
    else
      (if s1 ≤ 0 then
        some (1, s1, x1)
      else
        some (1, s1, t_ground)))
  else
    (if s1 ≤ 0 then
      some (0, s1, x1)
    else
      some (0, s1, t_ground)))
def f_RF_ground_14 (t_ground : Int32) (x1 : Int32) : Option (Int32 × Int32 × Int32) :=
  (f_RF_ground_15 t_ground 1 x1)
def f_RF_ground (t_ground : Int32) (a1 : Int32) : Option (Int32 × Int32 × Int32) :=
  (if a1 < 0 then
    (f_RF_ground_14 t_ground a1)
  else
    (if 3 < a1 then
      (f_RF_ground_14 t_ground a1)
    else
      (f_RF_ground_15 t_ground 0 a1)))
def post_RF_ground (h_t : Nat) (v_t_words v_t_bits v_t_cells v_t_sense v_t_kinds v_t_victims v_t_others v_t_faults v_t_toldKinds v_t_toldVictims v_t_toldOthers v_t_told v_t_ports v_t_scrambled v_t_places v_t_sorts v_t_counts v_t_operations v_t_elements v_t_newSorts v_t_newCounts v_t_newOperations v_t_tape v_t_tapeSize v_t_place v_t_failed v_t_failedCount v_t_keeps v_t_some v_t_repairedRows v_t_repairedColumns v_t_proof : Value) (cI cB cJ : ClassId) (res : Int32 × Int32 × Int32) : Option Value → va_W → Prop := fun o ws' => o = some (.int res.1) ∧ ws' = [(h_t, .inr (1, [.int res.2.1, v_t_words, v_t_bits, v_t_cells, v_t_sense, v_t_kinds, v_t_victims, v_t_others, v_t_faults, v_t_toldKinds, v_t_toldVictims, v_t_toldOthers, v_t_told, .int res.2.2, v_t_ports, v_t_scrambled, v_t_places, v_t_sorts, v_t_counts, v_t_operations, v_t_elements, v_t_newSorts, v_t_newCounts, v_t_newOperations, v_t_tape, v_t_tapeSize, v_t_place, v_t_failed, v_t_failedCount, v_t_keeps, v_t_some, v_t_repairedRows, v_t_repairedColumns, v_t_proof]))]
abbrev rm_RF_ground : Room := { frames := 0, cells := 0, slots := 0, locals := 0 }
set_option maxHeartbeats 4000000 in
set_option maxRecDepth 100000 in
theorem k_RF_ground_15 {p : Program} {l : Launch} {e : Env} {s : State} {m : MethodId} {args : Array Value} {below : List Frame} {meth : Method} {c : Code} {D : va_G} {cI cB cJ : ClassId} {A : Nat → Prop} (C0 : CX p s m args meth c D [(cI, .int), (cB, .byte), (cJ, .long)] R_RF b_RF_ground 3 (some .boolean) "ground") (hA : ∀ q, s.heap.size ≤ q → A q) {h_t : Nat} {v_t_words v_t_bits v_t_cells v_t_sense v_t_kinds v_t_victims v_t_others v_t_faults v_t_toldKinds v_t_toldVictims v_t_toldOthers v_t_told v_t_ports v_t_scrambled v_t_places v_t_sorts v_t_counts v_t_operations v_t_elements v_t_newSorts v_t_newCounts v_t_newOperations v_t_tape v_t_tapeSize v_t_place v_t_failed v_t_failedCount v_t_keeps v_t_some v_t_repairedRows v_t_repairedColumns v_t_proof : Value} {res : Int32 × Int32 × Int32} {t_thrown : Int32} {t_ground : Int32} {s1 : Int32} {x1 : Int32}
    (hf : f_RF_ground_15 t_ground s1 x1 = some res) {H : Heap} {locs : List Loc} {ls : Array Slot} (hP : va_P D classes [(h_t, .inr (1, [.int t_thrown, v_t_words, v_t_bits, v_t_cells, v_t_sense, v_t_kinds, v_t_victims, v_t_others, v_t_faults, v_t_toldKinds, v_t_toldVictims, v_t_toldOthers, v_t_told, .int t_ground, v_t_ports, v_t_scrambled, v_t_places, v_t_sorts, v_t_counts, v_t_operations, v_t_elements, v_t_newSorts, v_t_newCounts, v_t_newOperations, v_t_tape, v_t_tapeSize, v_t_place, v_t_failed, v_t_failedCount, v_t_keeps, v_t_some, v_t_repairedRows, v_t_repairedColumns, v_t_proof]))] H) (hD : va_D A [(h_t, .inr (1, [.int t_thrown, v_t_words, v_t_bits, v_t_cells, v_t_sense, v_t_kinds, v_t_victims, v_t_others, v_t_faults, v_t_toldKinds, v_t_toldVictims, v_t_toldOthers, v_t_told, .int t_ground, v_t_ports, v_t_scrambled, v_t_places, v_t_sorts, v_t_counts, v_t_operations, v_t_elements, v_t_newSorts, v_t_newCounts, v_t_newOperations, v_t_tape, v_t_tapeSize, v_t_place, v_t_failed, v_t_failedCount, v_t_keeps, v_t_some, v_t_repairedRows, v_t_repairedColumns, v_t_proof]))]) (hS : va_S A s.heap H locs) (hl : lv_has ls 3 [(0, .ref h_t), (1, .int x1)]) : W p l e rm_RF_ground s m args below meth c H locs 0 0 (MQ below (QW D (post_RF_ground h_t v_t_words v_t_bits v_t_cells v_t_sense v_t_kinds v_t_victims v_t_others v_t_faults v_t_toldKinds v_t_toldVictims v_t_toldOthers v_t_told v_t_ports v_t_scrambled v_t_places v_t_sorts v_t_counts v_t_operations v_t_elements v_t_newSorts v_t_newCounts v_t_newOperations v_t_tape v_t_tapeSize v_t_place v_t_failed v_t_failedCount v_t_keeps v_t_some v_t_repairedRows v_t_repairedColumns v_t_proof cI cB cJ res) A) args s 0 0 A) (F0 m 15 ls [.int s1, .ref h_t]) := by
  obtain ⟨hx, hb, hml, hr, hlocks, hts, hown, hK, hin⟩ := id C0
  have hf : (((
  (if s1 = 0 then
    (if x1 = t_ground then
      (if s1 ≤ 0 then
        some (0, s1, x1)
      else
        some (0, s1, t_ground))
    else
      (if s1 ≤ 0 then
        some (1, s1, x1)
      else
        some (1, s1, t_ground)))
  else
    (if s1 ≤ 0 then
      some (0, s1, x1)
    else
      some (0, s1, t_ground))))) : Option (Int32 × Int32 × Int32)) = some res := hf
  refine va_put (D := D) (ci := 1) (v := .int s1) (ty := .int) (C := R_RF) (T := F_RF) (N := 34) hx hb hts i_RF t_RF t_RF_ok n_RF hown hK.1 hP hD hS 0 rfl rfl 0 (by decide) (hts _ w_387) (fun _ h9 => h9) rfl (t_RF_ok 0 (by decide)) rfl rfl (Nat.le_of_ble_eq_true rfl) d_RF_ground_15 (fun H locs hP hD hS => ?_)
  have hP : va_P D classes [(h_t, .inr (1, [.int s1, v_t_words, v_t_bits, v_t_cells, v_t_sense, v_t_kinds, v_t_victims, v_t_others, v_t_faults, v_t_toldKinds, v_t_toldVictims, v_t_toldOthers, v_t_told, .int t_ground, v_t_ports, v_t_scrambled, v_t_places, v_t_sorts, v_t_counts, v_t_operations, v_t_elements, v_t_newSorts, v_t_newCounts, v_t_newOperations, v_t_tape, v_t_tapeSize, v_t_place, v_t_failed, v_t_failedCount, v_t_keeps, v_t_some, v_t_repairedRows, v_t_repairedColumns, v_t_proof]))] H := hP
  have hD : va_D A [(h_t, .inr (1, [.int s1, v_t_words, v_t_bits, v_t_cells, v_t_sense, v_t_kinds, v_t_victims, v_t_others, v_t_faults, v_t_toldKinds, v_t_toldVictims, v_t_toldOthers, v_t_told, .int t_ground, v_t_ports, v_t_scrambled, v_t_places, v_t_sorts, v_t_counts, v_t_operations, v_t_elements, v_t_newSorts, v_t_newCounts, v_t_newOperations, v_t_tape, v_t_tapeSize, v_t_place, v_t_failed, v_t_failedCount, v_t_keeps, v_t_some, v_t_repairedRows, v_t_repairedColumns, v_t_proof]))] := hD
  refine lv_aload_n hx hb d_RF_ground_18 rfl (lv_at hl 0 rfl) ?_
  refine va_get (D := D) (ci := 1) (v := .int s1) (C := R_RF) (T := F_RF) (N := 34) hx hb hts i_RF hown hK.1 hP 0 rfl rfl 0 (by decide) (hts _ w_387) (fun _ h9 => h9) rfl d_RF_ground_19 ?_
  refine lv_if_ne (tgt := 37) hx hb d_RF_ground_22 (by decide) (fun cc22 => ?_) (fun cc22 => ?_)
  · have hf := ifF cc22 hf
    refine lv_iconst (v := 0) hx hb d_RF_ground_37 (by decide) ?_
    refine lv_istore_n (lv' := [(2, .int 0), (0, .ref h_t), (1, .int x1)]) hx hb d_RF_ground_38 rfl hl (by decide) rfl (fun ls hl => ?_)
    refine lv_aload_n hx hb d_RF_ground_39 rfl (lv_at hl 1 rfl) ?_
    refine lv_aload_n hx hb d_RF_ground_40 rfl (lv_at hl 1 rfl) ?_
    refine va_get (D := D) (ci := 1) (v := .int s1) (C := R_RF) (T := F_RF) (N := 34) hx hb hts i_RF hown hK.1 hP 0 rfl rfl 0 (by decide) (hts _ w_387) (fun _ h9 => h9) rfl d_RF_ground_41 ?_
    refine lv_if_le (tgt := 54) hx hb d_RF_ground_44 (by decide) (fun cc44 => ?_) (fun cc44 => ?_)
    · have hf := ifT cc44 hf
      refine lv_iload_n hx hb d_RF_ground_54 rfl (lv_at hl 2 rfl) ?_
      refine va_put (D := D) (ci := 1) (v := .int x1) (ty := .int) (C := R_RF) (T := F_RF) (N := 34) hx hb hts i_RF t_RF t_RF_ok n_RF hown hK.1 hP hD hS 0 rfl rfl 13 (by decide) (hts _ w_401) (fun _ h9 => h9) rfl (t_RF_ok 13 (by decide)) rfl rfl (Nat.le_of_ble_eq_true rfl) d_RF_ground_55 (fun H locs hP hD hS => ?_)
      have hP : va_P D classes [(h_t, .inr (1, [.int s1, v_t_words, v_t_bits, v_t_cells, v_t_sense, v_t_kinds, v_t_victims, v_t_others, v_t_faults, v_t_toldKinds, v_t_toldVictims, v_t_toldOthers, v_t_told, .int x1, v_t_ports, v_t_scrambled, v_t_places, v_t_sorts, v_t_counts, v_t_operations, v_t_elements, v_t_newSorts, v_t_newCounts, v_t_newOperations, v_t_tape, v_t_tapeSize, v_t_place, v_t_failed, v_t_failedCount, v_t_keeps, v_t_some, v_t_repairedRows, v_t_repairedColumns, v_t_proof]))] H := hP
      have hD : va_D A [(h_t, .inr (1, [.int s1, v_t_words, v_t_bits, v_t_cells, v_t_sense, v_t_kinds, v_t_victims, v_t_others, v_t_faults, v_t_toldKinds, v_t_toldVictims, v_t_toldOthers, v_t_told, .int x1, v_t_ports, v_t_scrambled, v_t_places, v_t_sorts, v_t_counts, v_t_operations, v_t_elements, v_t_newSorts, v_t_newCounts, v_t_newOperations, v_t_tape, v_t_tapeSize, v_t_place, v_t_failed, v_t_failedCount, v_t_keeps, v_t_some, v_t_repairedRows, v_t_repairedColumns, v_t_proof]))] := hD
      refine lv_iload_n hx hb d_RF_ground_58 rfl (lv_at hl 0 rfl) ?_
      obtain rfl := Option.some.inj hf
      exact ret_z hx hb hr rfl hlocks hP hD hS ⟨rfl, rfl⟩ d_RF_ground_59
    · have hf := ifF cc44 hf
      refine lv_aload_n hx hb d_RF_ground_47 rfl (lv_at hl 1 rfl) ?_
      refine va_get (D := D) (ci := 1) (v := .int t_ground) (C := R_RF) (T := F_RF) (N := 34) hx hb hts i_RF hown hK.1 hP 0 rfl rfl 13 (by decide) (hts _ w_401) (fun _ h9 => h9) rfl d_RF_ground_48 ?_
      refine lv_goto (tgt := 55) hx hb d_RF_ground_51 (by decide) ?_
      refine va_put (D := D) (ci := 1) (v := .int t_ground) (ty := .int) (C := R_RF) (T := F_RF) (N := 34) hx hb hts i_RF t_RF t_RF_ok n_RF hown hK.1 hP hD hS 0 rfl rfl 13 (by decide) (hts _ w_401) (fun _ h9 => h9) rfl (t_RF_ok 13 (by decide)) rfl rfl (Nat.le_of_ble_eq_true rfl) d_RF_ground_55 (fun H locs hP hD hS => ?_)
      have hP : va_P D classes [(h_t, .inr (1, [.int s1, v_t_words, v_t_bits, v_t_cells, v_t_sense, v_t_kinds, v_t_victims, v_t_others, v_t_faults, v_t_toldKinds, v_t_toldVictims, v_t_toldOthers, v_t_told, .int t_ground, v_t_ports, v_t_scrambled, v_t_places, v_t_sorts, v_t_counts, v_t_operations, v_t_elements, v_t_newSorts, v_t_newCounts, v_t_newOperations, v_t_tape, v_t_tapeSize, v_t_place, v_t_failed, v_t_failedCount, v_t_keeps, v_t_some, v_t_repairedRows, v_t_repairedColumns, v_t_proof]))] H := hP
      have hD : va_D A [(h_t, .inr (1, [.int s1, v_t_words, v_t_bits, v_t_cells, v_t_sense, v_t_kinds, v_t_victims, v_t_others, v_t_faults, v_t_toldKinds, v_t_toldVictims, v_t_toldOthers, v_t_told, .int t_ground, v_t_ports, v_t_scrambled, v_t_places, v_t_sorts, v_t_counts, v_t_operations, v_t_elements, v_t_newSorts, v_t_newCounts, v_t_newOperations, v_t_tape, v_t_tapeSize, v_t_place, v_t_failed, v_t_failedCount, v_t_keeps, v_t_some, v_t_repairedRows, v_t_repairedColumns, v_t_proof]))] := hD
      refine lv_iload_n hx hb d_RF_ground_58 rfl (lv_at hl 0 rfl) ?_
      obtain rfl := Option.some.inj hf
      exact ret_z hx hb hr rfl hlocks hP hD hS ⟨rfl, rfl⟩ d_RF_ground_59
  · have hf := ifT cc22 hf
    refine lv_iload_n hx hb d_RF_ground_25 rfl (lv_at hl 1 rfl) ?_
    refine lv_aload_n hx hb d_RF_ground_26 rfl (lv_at hl 0 rfl) ?_
    refine va_get (D := D) (ci := 1) (v := .int t_ground) (C := R_RF) (T := F_RF) (N := 34) hx hb hts i_RF hown hK.1 hP 0 rfl rfl 13 (by decide) (hts _ w_401) (fun _ h9 => h9) rfl d_RF_ground_27 ?_
    refine lv_icmp_eq (tgt := 37) hx hb d_RF_ground_30 (by decide) (fun cc30 => ?_) (fun cc30 => ?_)
    · have hf := ifT cc30 hf
      refine lv_iconst (v := 0) hx hb d_RF_ground_37 (by decide) ?_
      refine lv_istore_n (lv' := [(2, .int 0), (0, .ref h_t), (1, .int x1)]) hx hb d_RF_ground_38 rfl hl (by decide) rfl (fun ls hl => ?_)
      refine lv_aload_n hx hb d_RF_ground_39 rfl (lv_at hl 1 rfl) ?_
      refine lv_aload_n hx hb d_RF_ground_40 rfl (lv_at hl 1 rfl) ?_
      refine va_get (D := D) (ci := 1) (v := .int s1) (C := R_RF) (T := F_RF) (N := 34) hx hb hts i_RF hown hK.1 hP 0 rfl rfl 0 (by decide) (hts _ w_387) (fun _ h9 => h9) rfl d_RF_ground_41 ?_
      refine lv_if_le (tgt := 54) hx hb d_RF_ground_44 (by decide) (fun cc44 => ?_) (fun cc44 => ?_)
      · have hf := ifT cc44 hf
        refine lv_iload_n hx hb d_RF_ground_54 rfl (lv_at hl 2 rfl) ?_
        refine va_put (D := D) (ci := 1) (v := .int x1) (ty := .int) (C := R_RF) (T := F_RF) (N := 34) hx hb hts i_RF t_RF t_RF_ok n_RF hown hK.1 hP hD hS 0 rfl rfl 13 (by decide) (hts _ w_401) (fun _ h9 => h9) rfl (t_RF_ok 13 (by decide)) rfl rfl (Nat.le_of_ble_eq_true rfl) d_RF_ground_55 (fun H locs hP hD hS => ?_)
        have hP : va_P D classes [(h_t, .inr (1, [.int s1, v_t_words, v_t_bits, v_t_cells, v_t_sense, v_t_kinds, v_t_victims, v_t_others, v_t_faults, v_t_toldKinds, v_t_toldVictims, v_t_toldOthers, v_t_told, .int x1, v_t_ports, v_t_scrambled, v_t_places, v_t_sorts, v_t_counts, v_t_operations, v_t_elements, v_t_newSorts, v_t_newCounts, v_t_newOperations, v_t_tape, v_t_tapeSize, v_t_place, v_t_failed, v_t_failedCount, v_t_keeps, v_t_some, v_t_repairedRows, v_t_repairedColumns, v_t_proof]))] H := hP
        have hD : va_D A [(h_t, .inr (1, [.int s1, v_t_words, v_t_bits, v_t_cells, v_t_sense, v_t_kinds, v_t_victims, v_t_others, v_t_faults, v_t_toldKinds, v_t_toldVictims, v_t_toldOthers, v_t_told, .int x1, v_t_ports, v_t_scrambled, v_t_places, v_t_sorts, v_t_counts, v_t_operations, v_t_elements, v_t_newSorts, v_t_newCounts, v_t_newOperations, v_t_tape, v_t_tapeSize, v_t_place, v_t_failed, v_t_failedCount, v_t_keeps, v_t_some, v_t_repairedRows, v_t_repairedColumns, v_t_proof]))] := hD
        refine lv_iload_n hx hb d_RF_ground_58 rfl (lv_at hl 0 rfl) ?_
        obtain rfl := Option.some.inj hf
        exact ret_z hx hb hr rfl hlocks hP hD hS ⟨rfl, rfl⟩ d_RF_ground_59
      · have hf := ifF cc44 hf
        refine lv_aload_n hx hb d_RF_ground_47 rfl (lv_at hl 1 rfl) ?_
        refine va_get (D := D) (ci := 1) (v := .int t_ground) (C := R_RF) (T := F_RF) (N := 34) hx hb hts i_RF hown hK.1 hP 0 rfl rfl 13 (by decide) (hts _ w_401) (fun _ h9 => h9) rfl d_RF_ground_48 ?_
        refine lv_goto (tgt := 55) hx hb d_RF_ground_51 (by decide) ?_
        refine va_put (D := D) (ci := 1) (v := .int t_ground) (ty := .int) (C := R_RF) (T := F_RF) (N := 34) hx hb hts i_RF t_RF t_RF_ok n_RF hown hK.1 hP hD hS 0 rfl rfl 13 (by decide) (hts _ w_401) (fun _ h9 => h9) rfl (t_RF_ok 13 (by decide)) rfl rfl (Nat.le_of_ble_eq_true rfl) d_RF_ground_55 (fun H locs hP hD hS => ?_)
        have hP : va_P D classes [(h_t, .inr (1, [.int s1, v_t_words, v_t_bits, v_t_cells, v_t_sense, v_t_kinds, v_t_victims, v_t_others, v_t_faults, v_t_toldKinds, v_t_toldVictims, v_t_toldOthers, v_t_told, .int t_ground, v_t_ports, v_t_scrambled, v_t_places, v_t_sorts, v_t_counts, v_t_operations, v_t_elements, v_t_newSorts, v_t_newCounts, v_t_newOperations, v_t_tape, v_t_tapeSize, v_t_place, v_t_failed, v_t_failedCount, v_t_keeps, v_t_some, v_t_repairedRows, v_t_repairedColumns, v_t_proof]))] H := hP
        have hD : va_D A [(h_t, .inr (1, [.int s1, v_t_words, v_t_bits, v_t_cells, v_t_sense, v_t_kinds, v_t_victims, v_t_others, v_t_faults, v_t_toldKinds, v_t_toldVictims, v_t_toldOthers, v_t_told, .int t_ground, v_t_ports, v_t_scrambled, v_t_places, v_t_sorts, v_t_counts, v_t_operations, v_t_elements, v_t_newSorts, v_t_newCounts, v_t_newOperations, v_t_tape, v_t_tapeSize, v_t_place, v_t_failed, v_t_failedCount, v_t_keeps, v_t_some, v_t_repairedRows, v_t_repairedColumns, v_t_proof]))] := hD
        refine lv_iload_n hx hb d_RF_ground_58 rfl (lv_at hl 0 rfl) ?_
        obtain rfl := Option.some.inj hf
        exact ret_z hx hb hr rfl hlocks hP hD hS ⟨rfl, rfl⟩ d_RF_ground_59
    · have hf := ifF cc30 hf
      refine lv_iconst (v := 1) hx hb d_RF_ground_33 (by decide) ?_
      refine lv_goto (tgt := 38) hx hb d_RF_ground_34 (by decide) ?_
      refine lv_istore_n (lv' := [(2, .int 1), (0, .ref h_t), (1, .int x1)]) hx hb d_RF_ground_38 rfl hl (by decide) rfl (fun ls hl => ?_)
      refine lv_aload_n hx hb d_RF_ground_39 rfl (lv_at hl 1 rfl) ?_
      refine lv_aload_n hx hb d_RF_ground_40 rfl (lv_at hl 1 rfl) ?_
      refine va_get (D := D) (ci := 1) (v := .int s1) (C := R_RF) (T := F_RF) (N := 34) hx hb hts i_RF hown hK.1 hP 0 rfl rfl 0 (by decide) (hts _ w_387) (fun _ h9 => h9) rfl d_RF_ground_41 ?_
      refine lv_if_le (tgt := 54) hx hb d_RF_ground_44 (by decide) (fun cc44 => ?_) (fun cc44 => ?_)
      · have hf := ifT cc44 hf
        refine lv_iload_n hx hb d_RF_ground_54 rfl (lv_at hl 2 rfl) ?_
        refine va_put (D := D) (ci := 1) (v := .int x1) (ty := .int) (C := R_RF) (T := F_RF) (N := 34) hx hb hts i_RF t_RF t_RF_ok n_RF hown hK.1 hP hD hS 0 rfl rfl 13 (by decide) (hts _ w_401) (fun _ h9 => h9) rfl (t_RF_ok 13 (by decide)) rfl rfl (Nat.le_of_ble_eq_true rfl) d_RF_ground_55 (fun H locs hP hD hS => ?_)
        have hP : va_P D classes [(h_t, .inr (1, [.int s1, v_t_words, v_t_bits, v_t_cells, v_t_sense, v_t_kinds, v_t_victims, v_t_others, v_t_faults, v_t_toldKinds, v_t_toldVictims, v_t_toldOthers, v_t_told, .int x1, v_t_ports, v_t_scrambled, v_t_places, v_t_sorts, v_t_counts, v_t_operations, v_t_elements, v_t_newSorts, v_t_newCounts, v_t_newOperations, v_t_tape, v_t_tapeSize, v_t_place, v_t_failed, v_t_failedCount, v_t_keeps, v_t_some, v_t_repairedRows, v_t_repairedColumns, v_t_proof]))] H := hP
        have hD : va_D A [(h_t, .inr (1, [.int s1, v_t_words, v_t_bits, v_t_cells, v_t_sense, v_t_kinds, v_t_victims, v_t_others, v_t_faults, v_t_toldKinds, v_t_toldVictims, v_t_toldOthers, v_t_told, .int x1, v_t_ports, v_t_scrambled, v_t_places, v_t_sorts, v_t_counts, v_t_operations, v_t_elements, v_t_newSorts, v_t_newCounts, v_t_newOperations, v_t_tape, v_t_tapeSize, v_t_place, v_t_failed, v_t_failedCount, v_t_keeps, v_t_some, v_t_repairedRows, v_t_repairedColumns, v_t_proof]))] := hD
        refine lv_iload_n hx hb d_RF_ground_58 rfl (lv_at hl 0 rfl) ?_
        obtain rfl := Option.some.inj hf
        exact ret_z hx hb hr rfl hlocks hP hD hS ⟨rfl, rfl⟩ d_RF_ground_59
      · have hf := ifF cc44 hf
        refine lv_aload_n hx hb d_RF_ground_47 rfl (lv_at hl 1 rfl) ?_
        refine va_get (D := D) (ci := 1) (v := .int t_ground) (C := R_RF) (T := F_RF) (N := 34) hx hb hts i_RF hown hK.1 hP 0 rfl rfl 13 (by decide) (hts _ w_401) (fun _ h9 => h9) rfl d_RF_ground_48 ?_
        refine lv_goto (tgt := 55) hx hb d_RF_ground_51 (by decide) ?_
        refine va_put (D := D) (ci := 1) (v := .int t_ground) (ty := .int) (C := R_RF) (T := F_RF) (N := 34) hx hb hts i_RF t_RF t_RF_ok n_RF hown hK.1 hP hD hS 0 rfl rfl 13 (by decide) (hts _ w_401) (fun _ h9 => h9) rfl (t_RF_ok 13 (by decide)) rfl rfl (Nat.le_of_ble_eq_true rfl) d_RF_ground_55 (fun H locs hP hD hS => ?_)
        have hP : va_P D classes [(h_t, .inr (1, [.int s1, v_t_words, v_t_bits, v_t_cells, v_t_sense, v_t_kinds, v_t_victims, v_t_others, v_t_faults, v_t_toldKinds, v_t_toldVictims, v_t_toldOthers, v_t_told, .int t_ground, v_t_ports, v_t_scrambled, v_t_places, v_t_sorts, v_t_counts, v_t_operations, v_t_elements, v_t_newSorts, v_t_newCounts, v_t_newOperations, v_t_tape, v_t_tapeSize, v_t_place, v_t_failed, v_t_failedCount, v_t_keeps, v_t_some, v_t_repairedRows, v_t_repairedColumns, v_t_proof]))] H := hP
        have hD : va_D A [(h_t, .inr (1, [.int s1, v_t_words, v_t_bits, v_t_cells, v_t_sense, v_t_kinds, v_t_victims, v_t_others, v_t_faults, v_t_toldKinds, v_t_toldVictims, v_t_toldOthers, v_t_told, .int t_ground, v_t_ports, v_t_scrambled, v_t_places, v_t_sorts, v_t_counts, v_t_operations, v_t_elements, v_t_newSorts, v_t_newCounts, v_t_newOperations, v_t_tape, v_t_tapeSize, v_t_place, v_t_failed, v_t_failedCount, v_t_keeps, v_t_some, v_t_repairedRows, v_t_repairedColumns, v_t_proof]))] := hD
        refine lv_iload_n hx hb d_RF_ground_58 rfl (lv_at hl 0 rfl) ?_
        obtain rfl := Option.some.inj hf
        exact ret_z hx hb hr rfl hlocks hP hD hS ⟨rfl, rfl⟩ d_RF_ground_59
set_option maxHeartbeats 4000000 in
set_option maxRecDepth 100000 in
theorem k_RF_ground_14 {p : Program} {l : Launch} {e : Env} {s : State} {m : MethodId} {args : Array Value} {below : List Frame} {meth : Method} {c : Code} {D : va_G} {cI cB cJ : ClassId} {A : Nat → Prop} (C0 : CX p s m args meth c D [(cI, .int), (cB, .byte), (cJ, .long)] R_RF b_RF_ground 3 (some .boolean) "ground") (hA : ∀ q, s.heap.size ≤ q → A q) {h_t : Nat} {v_t_words v_t_bits v_t_cells v_t_sense v_t_kinds v_t_victims v_t_others v_t_faults v_t_toldKinds v_t_toldVictims v_t_toldOthers v_t_told v_t_ports v_t_scrambled v_t_places v_t_sorts v_t_counts v_t_operations v_t_elements v_t_newSorts v_t_newCounts v_t_newOperations v_t_tape v_t_tapeSize v_t_place v_t_failed v_t_failedCount v_t_keeps v_t_some v_t_repairedRows v_t_repairedColumns v_t_proof : Value} {res : Int32 × Int32 × Int32} {t_thrown : Int32} {t_ground : Int32} {x1 : Int32}
    (hf : f_RF_ground_14 t_ground x1 = some res) {H : Heap} {locs : List Loc} {ls : Array Slot} (hP : va_P D classes [(h_t, .inr (1, [.int t_thrown, v_t_words, v_t_bits, v_t_cells, v_t_sense, v_t_kinds, v_t_victims, v_t_others, v_t_faults, v_t_toldKinds, v_t_toldVictims, v_t_toldOthers, v_t_told, .int t_ground, v_t_ports, v_t_scrambled, v_t_places, v_t_sorts, v_t_counts, v_t_operations, v_t_elements, v_t_newSorts, v_t_newCounts, v_t_newOperations, v_t_tape, v_t_tapeSize, v_t_place, v_t_failed, v_t_failedCount, v_t_keeps, v_t_some, v_t_repairedRows, v_t_repairedColumns, v_t_proof]))] H) (hD : va_D A [(h_t, .inr (1, [.int t_thrown, v_t_words, v_t_bits, v_t_cells, v_t_sense, v_t_kinds, v_t_victims, v_t_others, v_t_faults, v_t_toldKinds, v_t_toldVictims, v_t_toldOthers, v_t_told, .int t_ground, v_t_ports, v_t_scrambled, v_t_places, v_t_sorts, v_t_counts, v_t_operations, v_t_elements, v_t_newSorts, v_t_newCounts, v_t_newOperations, v_t_tape, v_t_tapeSize, v_t_place, v_t_failed, v_t_failedCount, v_t_keeps, v_t_some, v_t_repairedRows, v_t_repairedColumns, v_t_proof]))]) (hS : va_S A s.heap H locs) (hl : lv_has ls 3 [(0, .ref h_t), (1, .int x1)]) : W p l e rm_RF_ground s m args below meth c H locs 0 0 (MQ below (QW D (post_RF_ground h_t v_t_words v_t_bits v_t_cells v_t_sense v_t_kinds v_t_victims v_t_others v_t_faults v_t_toldKinds v_t_toldVictims v_t_toldOthers v_t_told v_t_ports v_t_scrambled v_t_places v_t_sorts v_t_counts v_t_operations v_t_elements v_t_newSorts v_t_newCounts v_t_newOperations v_t_tape v_t_tapeSize v_t_place v_t_failed v_t_failedCount v_t_keeps v_t_some v_t_repairedRows v_t_repairedColumns v_t_proof cI cB cJ res) A) args s 0 0 A) (F0 m 14 ls [.ref h_t]) := by
  obtain ⟨hx, hb, hml, hr, hlocks, hts, hown, hK, hin⟩ := id C0
  have hf : (((
  (f_RF_ground_15 t_ground 1 x1))) : Option (Int32 × Int32 × Int32)) = some res := hf
  refine lv_iconst (v := 1) hx hb d_RF_ground_14 (by decide) ?_
  exact k_RF_ground_15 (s := s) C0 hA hf hP hD hS (lv_sub hl [0, 1] rfl)
set_option maxHeartbeats 4000000 in
set_option maxRecDepth 100000 in
theorem c_RF_ground (l : Launch) (D : va_G) (cI cB cJ : ClassId) (h_t : Nat) (v_t_words v_t_bits v_t_cells v_t_sense v_t_kinds v_t_victims v_t_others v_t_faults v_t_toldKinds v_t_toldVictims v_t_toldOthers v_t_told v_t_ports v_t_scrambled v_t_places v_t_sorts v_t_counts v_t_operations v_t_elements v_t_newSorts v_t_newCounts v_t_newOperations v_t_tape v_t_tapeSize v_t_place v_t_failed v_t_failedCount v_t_keeps v_t_some v_t_repairedRows v_t_repairedColumns v_t_proof : Value) (t_thrown : Int32) (t_ground : Int32) (a1 : Int32) (sz : Nat) (res : Int32 × Int32 × Int32) (hf : f_RF_ground t_ground a1 = some res) : Met l y_RF_ground (.code y_RF_ground b_RF_ground 3 (some .boolean) :: TB) rm_RF_ground (PcW D [(cI, .int), (cB, .byte), (cJ, .long)] [.ref h_t, .int a1] [(h_t, .inr (1, [.int t_thrown, v_t_words, v_t_bits, v_t_cells, v_t_sense, v_t_kinds, v_t_victims, v_t_others, v_t_faults, v_t_toldKinds, v_t_toldVictims, v_t_toldOthers, v_t_told, .int t_ground, v_t_ports, v_t_scrambled, v_t_places, v_t_sorts, v_t_counts, v_t_operations, v_t_elements, v_t_newSorts, v_t_newCounts, v_t_newOperations, v_t_tape, v_t_tapeSize, v_t_place, v_t_failed, v_t_failedCount, v_t_keeps, v_t_some, v_t_repairedRows, v_t_repairedColumns, v_t_proof]))] sz) (QW D (post_RF_ground h_t v_t_words v_t_bits v_t_cells v_t_sense v_t_kinds v_t_victims v_t_others v_t_faults v_t_toldKinds v_t_toldVictims v_t_toldOthers v_t_told v_t_ports v_t_scrambled v_t_places v_t_sorts v_t_counts v_t_operations v_t_elements v_t_newSorts v_t_newCounts v_t_newOperations v_t_tape v_t_tapeSize v_t_place v_t_failed v_t_failedCount v_t_keeps v_t_some v_t_repairedRows v_t_repairedColumns v_t_proof cI cB cJ res) (va_A [(h_t, .inr (1, [.int t_thrown, v_t_words, v_t_bits, v_t_cells, v_t_sense, v_t_kinds, v_t_victims, v_t_others, v_t_faults, v_t_toldKinds, v_t_toldVictims, v_t_toldOthers, v_t_told, .int t_ground, v_t_ports, v_t_scrambled, v_t_places, v_t_sorts, v_t_counts, v_t_operations, v_t_elements, v_t_newSorts, v_t_newCounts, v_t_newOperations, v_t_tape, v_t_tapeSize, v_t_place, v_t_failed, v_t_failedCount, v_t_keeps, v_t_some, v_t_repairedRows, v_t_repairedColumns, v_t_proof]))] sz)) 0 0 (va_A [(h_t, .inr (1, [.int t_thrown, v_t_words, v_t_bits, v_t_cells, v_t_sense, v_t_kinds, v_t_victims, v_t_others, v_t_faults, v_t_toldKinds, v_t_toldVictims, v_t_toldOthers, v_t_told, .int t_ground, v_t_ports, v_t_scrambled, v_t_places, v_t_sorts, v_t_counts, v_t_operations, v_t_elements, v_t_newSorts, v_t_newCounts, v_t_newOperations, v_t_tape, v_t_tapeSize, v_t_place, v_t_failed, v_t_failedCount, v_t_keeps, v_t_some, v_t_repairedRows, v_t_repairedColumns, v_t_proof]))] sz) := by
  refine entW ⟨by decide +kernel, rfl⟩ fun p e s m below meth c C0 hP hD hsz ls hl => ?_
  subst hsz
  generalize hAe : va_A [(h_t, .inr (1, [.int t_thrown, v_t_words, v_t_bits, v_t_cells, v_t_sense, v_t_kinds, v_t_victims, v_t_others, v_t_faults, v_t_toldKinds, v_t_toldVictims, v_t_toldOthers, v_t_told, .int t_ground, v_t_ports, v_t_scrambled, v_t_places, v_t_sorts, v_t_counts, v_t_operations, v_t_elements, v_t_newSorts, v_t_newCounts, v_t_newOperations, v_t_tape, v_t_tapeSize, v_t_place, v_t_failed, v_t_failedCount, v_t_keeps, v_t_some, v_t_repairedRows, v_t_repairedColumns, v_t_proof]))] s.heap.size = A at hD ⊢
  have hA : ∀ q : Nat, s.heap.size ≤ q → A q := fun q h => by rw [← hAe]; exact Or.inr h
  clear hAe
  have hS : va_S A s.heap s.heap [] := va_S.rf
  have hl : lv_has ls 3 [(0, .ref h_t), (1, .int a1)] := hl
  obtain ⟨hx, hb, hml, hr, hlocks, hts, hown, hK, hin⟩ := id C0
  have hf : (((
  (if a1 < 0 then
    (f_RF_ground_14 t_ground a1)
  else
    (if 3 < a1 then
      (f_RF_ground_14 t_ground a1)
    else
      (f_RF_ground_15 t_ground 0 a1))))) : Option (Int32 × Int32 × Int32)) = some res := hf
  obtain ⟨H, hH⟩ : ∃ H, H = s.heap := ⟨_, rfl⟩
  obtain ⟨locs, hlo⟩ : ∃ x : List Loc, x = [] := ⟨_, rfl⟩
  rw [← hlo] at hS ⊢
  have hP : va_P D classes [(h_t, .inr (1, [.int t_thrown, v_t_words, v_t_bits, v_t_cells, v_t_sense, v_t_kinds, v_t_victims, v_t_others, v_t_faults, v_t_toldKinds, v_t_toldVictims, v_t_toldOthers, v_t_told, .int t_ground, v_t_ports, v_t_scrambled, v_t_places, v_t_sorts, v_t_counts, v_t_operations, v_t_elements, v_t_newSorts, v_t_newCounts, v_t_newOperations, v_t_tape, v_t_tapeSize, v_t_place, v_t_failed, v_t_failedCount, v_t_keeps, v_t_some, v_t_repairedRows, v_t_repairedColumns, v_t_proof]))] H := by rw [hH]; exact hP
  have hS : va_S A s.heap H locs := by rw [hH]; exact hS
  show W p l e rm_RF_ground s m _ below meth c s.heap locs 0 0 (MQ below (QW D (post_RF_ground h_t v_t_words v_t_bits v_t_cells v_t_sense v_t_kinds v_t_victims v_t_others v_t_faults v_t_toldKinds v_t_toldVictims v_t_toldOthers v_t_told v_t_ports v_t_scrambled v_t_places v_t_sorts v_t_counts v_t_operations v_t_elements v_t_newSorts v_t_newCounts v_t_newOperations v_t_tape v_t_tapeSize v_t_place v_t_failed v_t_failedCount v_t_keeps v_t_some v_t_repairedRows v_t_repairedColumns v_t_proof cI cB cJ res) A) _ s 0 0 A) (F0 m 0 ls [])
  refine wheap hH ?_
  clear hH hlo
  refine lv_aload_n hx hb d_RF_ground_0 rfl (lv_at hl 0 rfl) ?_
  refine lv_iload_n hx hb d_RF_ground_1 rfl (lv_at hl 1 rfl) ?_
  refine lv_if_lt (tgt := 14) hx hb d_RF_ground_2 (by decide) (fun cc2 => ?_) (fun cc2 => ?_)
  · have hf := ifT cc2 hf
    exact k_RF_ground_14 (s := s) C0 hA hf hP hD hS (lv_sub hl [0, 1] rfl)
  · have hf := ifF cc2 hf
    refine lv_iload_n hx hb d_RF_ground_5 rfl (lv_at hl 1 rfl) ?_
    refine lv_iconst (v := 3) hx hb d_RF_ground_6 (by decide) ?_
    refine lv_icmp_gt (tgt := 14) hx hb d_RF_ground_7 (by decide) (fun cc7 => ?_) (fun cc7 => ?_)
    · have hf := ifT cc7 hf
      exact k_RF_ground_14 (s := s) C0 hA hf hP hD hS (lv_sub hl [0, 1] rfl)
    · have hf := ifF cc7 hf
      refine lv_iconst (v := 0) hx hb d_RF_ground_10 (by decide) ?_
      refine lv_goto (tgt := 15) hx hb d_RF_ground_11 (by decide) ?_
      exact k_RF_ground_15 (s := s) C0 hA hf hP hD hS (lv_sub hl [0, 1] rfl)
def f_RF_machine_114 (t_thrown : Int32) (s0 : Int32) (s1 : Int32) (x2 : Int32) (x4 : Int32) (x5 : Int32) : Option (Int32 × Int32) :=
  (if x2 = (x4 - 1) then
    some ((((s0 + s1) + ((x5 - x5 / 2 * 2) * 4)) + 8), t_thrown)
  else
    some ((((s0 + s1) + ((x5 - x5 / 2 * 2) * 4)) + 0), t_thrown))
def f_RF_machine_61 (n_t_sorts : Nat) (n_t_operations : Nat) (t_thrown : Int32) (t_sorts_a : Nat → Int32) (t_operations_a : Nat → Int32) (s0 : Int32) (x2 : Int32) (x3 : Int32) (rec29 : (Int32 × Int32) → Option (Int32 × Int32)) : Option (Int32 × Int32) :=
  (if s0 ≤ x2 then
    (rec29 ((x2 - s0), (x3 + 1)))
  else
    (if inB ((8 * x3) + x2) n_t_operations = true then
    (if inB x3 n_t_sorts = true then
    (if (t_sorts_a (Int32.toNatClampNeg x3)) = 2 then
      some (24, t_thrown)
    else
      (if inB x3 n_t_sorts = true then
      (if (t_operations_a (Int32.toNatClampNeg ((8 * x3) + x2))) < 2 then
        (f_RF_machine_114 t_thrown (t_sorts_a (Int32.toNatClampNeg x3)) 0 x2 s0 (t_operations_a (Int32.toNatClampNeg ((8 * x3) + x2))))
      else
        (f_RF_machine_114 t_thrown (t_sorts_a (Int32.toNatClampNeg x3)) 2 x2 s0 (t_operations_a (Int32.toNatClampNeg ((8 * x3) + x2)))))
      else none))
    else none)
    else none))
def g_RF_machine_29 (n_t_sorts : Nat) (n_t_counts : Nat) (n_t_operations : Nat) (t_thrown : Int32) (t_elements : Int32) (t_sorts_a : Nat → Int32) (t_counts_a : Nat → Int32) (t_operations_a : Nat → Int32) (rec29 : (Int32 × Int32) → Option (Int32 × Int32)) (st : (Int32 × Int32)) : Option (Int32 × Int32) :=
  (if t_elements ≤ st.2 then
    some (0, 2)
  else
    (if st.1 < 0 then
      some (0, 2)
    else
      (if inB st.2 n_t_sorts = true then
      (if (t_sorts_a (Int32.toNatClampNeg st.2)) = 2 then
        (f_RF_machine_61 n_t_sorts n_t_operations t_thrown t_sorts_a t_operations_a 1 st.1 st.2 rec29)
      else
        (if inB st.2 n_t_counts = true then
        (f_RF_machine_61 n_t_sorts n_t_operations t_thrown t_sorts_a t_operations_a (t_counts_a (Int32.toNatClampNeg st.2)) st.1 st.2 rec29)
        else none))
      else none)))
def f_RF_machine_13 (n_t_sorts : Nat) (n_t_counts : Nat) (n_t_operations : Nat) (t_elements : Int32) (t_sorts_a : Nat → Int32) (t_counts_a : Nat → Int32) (t_operations_a : Nat → Int32) (s1 : Int32) (x1 : Int32) : Option (Int32 × Int32) :=
  (if s1 ≤ 0 then
    (lp (g_RF_machine_29 n_t_sorts n_t_counts n_t_operations s1 t_elements t_sorts_a t_counts_a t_operations_a) 100000 (x1, 0))
  else
    some (0, s1))
def f_RF_machine (n_t_sorts : Nat) (n_t_counts : Nat) (n_t_operations : Nat) (t_elements : Int32) (t_sorts_a : Nat → Int32) (t_counts_a : Nat → Int32) (t_operations_a : Nat → Int32) (a1 : Int32) : Option (Int32 × Int32) :=
  (if t_elements = 0 then
    (f_RF_machine_13 n_t_sorts n_t_counts n_t_operations t_elements t_sorts_a t_counts_a t_operations_a 1 a1)
  else
    (f_RF_machine_13 n_t_sorts n_t_counts n_t_operations t_elements t_sorts_a t_counts_a t_operations_a 0 a1))
def post_RF_machine (h_t h_t_sorts h_t_counts h_t_operations : Nat) (v_t_words v_t_bits v_t_cells v_t_sense v_t_kinds v_t_victims v_t_others v_t_faults v_t_toldKinds v_t_toldVictims v_t_toldOthers v_t_told v_t_ground v_t_ports v_t_scrambled v_t_places v_t_newSorts v_t_newCounts v_t_newOperations v_t_tape v_t_tapeSize v_t_place v_t_failed v_t_failedCount v_t_keeps v_t_some v_t_repairedRows v_t_repairedColumns v_t_proof : Value) (n_t_sorts : Nat) (n_t_counts : Nat) (n_t_operations : Nat) (t_elements : Int32) (t_sorts_a : Nat → Int32) (t_counts_a : Nat → Int32) (t_operations_a : Nat → Int32) (cI cB cJ : ClassId) (res : Int32 × Int32) : Option Value → va_W → Prop := fun o ws' => o = some (.int res.1) ∧ ws' = [(h_t, .inr (1, [.int res.2, v_t_words, v_t_bits, v_t_cells, v_t_sense, v_t_kinds, v_t_victims, v_t_others, v_t_faults, v_t_toldKinds, v_t_toldVictims, v_t_toldOthers, v_t_told, v_t_ground, v_t_ports, v_t_scrambled, v_t_places, .ref h_t_sorts, .ref h_t_counts, .ref h_t_operations, .int t_elements, v_t_newSorts, v_t_newCounts, v_t_newOperations, v_t_tape, v_t_tapeSize, v_t_place, v_t_failed, v_t_failedCount, v_t_keeps, v_t_some, v_t_repairedRows, v_t_repairedColumns, v_t_proof])), (h_t_sorts, .inl (cI, n_t_sorts, .inl t_sorts_a)), (h_t_counts, .inl (cI, n_t_counts, .inl t_counts_a)), (h_t_operations, .inl (cI, n_t_operations, .inl t_operations_a))]
abbrev rm_RF_machine : Room := { frames := 0, cells := 0, slots := 0, locals := 0 }
set_option maxHeartbeats 4000000 in
set_option maxRecDepth 100000 in
theorem k_RF_machine_114 {p : Program} {l : Launch} {e : Env} {s : State} {m : MethodId} {args : Array Value} {below : List Frame} {meth : Method} {c : Code} {D : va_G} {cI cB cJ : ClassId} {A : Nat → Prop} (C0 : CX p s m args meth c D [(cI, .int), (cB, .byte), (cJ, .long)] R_RF b_RF_machine 6 (some .int) "machine") (hA : ∀ q, s.heap.size ≤ q → A q) {h_t h_t_sorts h_t_counts h_t_operations : Nat} {v_t_words v_t_bits v_t_cells v_t_sense v_t_kinds v_t_victims v_t_others v_t_faults v_t_toldKinds v_t_toldVictims v_t_toldOthers v_t_told v_t_ground v_t_ports v_t_scrambled v_t_places v_t_newSorts v_t_newCounts v_t_newOperations v_t_tape v_t_tapeSize v_t_place v_t_failed v_t_failedCount v_t_keeps v_t_some v_t_repairedRows v_t_repairedColumns v_t_proof : Value} {res : Int32 × Int32} {n_t_sorts : Nat} {n_t_counts : Nat} {n_t_operations : Nat} {t_thrown : Int32} {t_elements : Int32} {t_sorts_a : Nat → Int32} {t_counts_a : Nat → Int32} {t_operations_a : Nat → Int32} {s0 : Int32} {s1 : Int32} {x2 : Int32} {x4 : Int32} {x5 : Int32}
    (hf : f_RF_machine_114 t_thrown s0 s1 x2 x4 x5 = some res) {H : Heap} {locs : List Loc} {ls : Array Slot} (hP : va_P D classes [(h_t, .inr (1, [.int t_thrown, v_t_words, v_t_bits, v_t_cells, v_t_sense, v_t_kinds, v_t_victims, v_t_others, v_t_faults, v_t_toldKinds, v_t_toldVictims, v_t_toldOthers, v_t_told, v_t_ground, v_t_ports, v_t_scrambled, v_t_places, .ref h_t_sorts, .ref h_t_counts, .ref h_t_operations, .int t_elements, v_t_newSorts, v_t_newCounts, v_t_newOperations, v_t_tape, v_t_tapeSize, v_t_place, v_t_failed, v_t_failedCount, v_t_keeps, v_t_some, v_t_repairedRows, v_t_repairedColumns, v_t_proof])), (h_t_sorts, .inl (cI, n_t_sorts, .inl t_sorts_a)), (h_t_counts, .inl (cI, n_t_counts, .inl t_counts_a)), (h_t_operations, .inl (cI, n_t_operations, .inl t_operations_a))] H) (hD : va_D A [(h_t, .inr (1, [.int t_thrown, v_t_words, v_t_bits, v_t_cells, v_t_sense, v_t_kinds, v_t_victims, v_t_others, v_t_faults, v_t_toldKinds, v_t_toldVictims, v_t_toldOthers, v_t_told, v_t_ground, v_t_ports, v_t_scrambled, v_t_places, .ref h_t_sorts, .ref h_t_counts, .ref h_t_operations, .int t_elements, v_t_newSorts, v_t_newCounts, v_t_newOperations, v_t_tape, v_t_tapeSize, v_t_place, v_t_failed, v_t_failedCount, v_t_keeps, v_t_some, v_t_repairedRows, v_t_repairedColumns, v_t_proof])), (h_t_sorts, .inl (cI, n_t_sorts, .inl t_sorts_a)), (h_t_counts, .inl (cI, n_t_counts, .inl t_counts_a)), (h_t_operations, .inl (cI, n_t_operations, .inl t_operations_a))]) (hS : va_S A s.heap H locs) (hl : lv_has ls 6 [(2, .int x2), (4, .int x4), (5, .int x5)]) : W p l e rm_RF_machine s m args below meth c H locs 0 0 (MQ below (QW D (post_RF_machine h_t h_t_sorts h_t_counts h_t_operations v_t_words v_t_bits v_t_cells v_t_sense v_t_kinds v_t_victims v_t_others v_t_faults v_t_toldKinds v_t_toldVictims v_t_toldOthers v_t_told v_t_ground v_t_ports v_t_scrambled v_t_places v_t_newSorts v_t_newCounts v_t_newOperations v_t_tape v_t_tapeSize v_t_place v_t_failed v_t_failedCount v_t_keeps v_t_some v_t_repairedRows v_t_repairedColumns v_t_proof n_t_sorts n_t_counts n_t_operations t_elements t_sorts_a t_counts_a t_operations_a cI cB cJ res) A) args s 0 0 A) (F0 m 114 ls [.int s1, .int s0]) := by
  obtain ⟨hx, hb, hml, hr, hlocks, hts, hown, hK, hin⟩ := id C0
  have hf : (((
  (if x2 = (x4 - 1) then
    some ((((s0 + s1) + ((x5 - x5 / 2 * 2) * 4)) + 8), t_thrown)
  else
    some ((((s0 + s1) + ((x5 - x5 / 2 * 2) * 4)) + 0), t_thrown)))) : Option (Int32 × Int32)) = some res := hf
  refine lv_iadd hx hb d_RF_machine_114 ?_
  refine lv_iload hx hb d_RF_machine_115 (lv_at hl 2 rfl) ?_
  refine lv_iconst (v := 2) hx hb d_RF_machine_117 (by decide) ?_
  refine lv_irem hx hb d_RF_machine_118 (by decide) ?_
  refine lv_iconst (v := 4) hx hb d_RF_machine_119 (by decide) ?_
  refine lv_imul hx hb d_RF_machine_120 ?_
  refine lv_iadd hx hb d_RF_machine_121 ?_
  refine lv_iload_n hx hb d_RF_machine_122 rfl (lv_at hl 0 rfl) ?_
  refine lv_iload hx hb d_RF_machine_123 (lv_at hl 1 rfl) ?_
  refine lv_iconst (v := 1) hx hb d_RF_machine_125 (by decide) ?_
  refine lv_isub hx hb d_RF_machine_126 ?_
  refine lv_icmp_ne (tgt := 135) hx hb d_RF_machine_127 (by decide) (fun cc127 => ?_) (fun cc127 => ?_)
  · have hf := ifF cc127 hf
    refine lv_iconst (v := 0) hx hb d_RF_machine_135 (by decide) ?_
    refine lv_iadd hx hb d_RF_machine_136 ?_
    obtain rfl := Option.some.inj hf
    exact ret_i hx hb hr hlocks hP hD hS ⟨rfl, rfl⟩ d_RF_machine_137
  · have hf := ifT cc127 hf
    refine lv_bipush (v := 8) hx hb d_RF_machine_130 (by decide) ?_
    refine lv_goto (tgt := 136) hx hb d_RF_machine_132 (by decide) ?_
    refine lv_iadd hx hb d_RF_machine_136 ?_
    obtain rfl := Option.some.inj hf
    exact ret_i hx hb hr hlocks hP hD hS ⟨rfl, rfl⟩ d_RF_machine_137
set_option maxHeartbeats 4000000 in
set_option maxRecDepth 100000 in
theorem k_RF_machine_61 {p : Program} {l : Launch} {e : Env} {s : State} {m : MethodId} {args : Array Value} {below : List Frame} {meth : Method} {c : Code} {D : va_G} {cI cB cJ : ClassId} {A : Nat → Prop} (C0 : CX p s m args meth c D [(cI, .int), (cB, .byte), (cJ, .long)] R_RF b_RF_machine 6 (some .int) "machine") (hA : ∀ q, s.heap.size ≤ q → A q) {h_t h_t_sorts h_t_counts h_t_operations : Nat} {v_t_words v_t_bits v_t_cells v_t_sense v_t_kinds v_t_victims v_t_others v_t_faults v_t_toldKinds v_t_toldVictims v_t_toldOthers v_t_told v_t_ground v_t_ports v_t_scrambled v_t_places v_t_newSorts v_t_newCounts v_t_newOperations v_t_tape v_t_tapeSize v_t_place v_t_failed v_t_failedCount v_t_keeps v_t_some v_t_repairedRows v_t_repairedColumns v_t_proof : Value} {res : Int32 × Int32} {rec29 : (Int32 × Int32) → Option (Int32 × Int32)} {n_t_sorts : Nat} {n_t_counts : Nat} {n_t_operations : Nat} {t_thrown : Int32} {t_elements : Int32} {t_sorts_a : Nat → Int32} {t_counts_a : Nat → Int32} {t_operations_a : Nat → Int32} {s0 : Int32} {x2 : Int32} {x3 : Int32}
    (hrec29 : ∀ (st : (Int32 × Int32)), rec29 st = some res → ∀  (H : Heap) (locs : List Loc) (ls : Array Slot), va_P D classes [(h_t, .inr (1, [.int t_thrown, v_t_words, v_t_bits, v_t_cells, v_t_sense, v_t_kinds, v_t_victims, v_t_others, v_t_faults, v_t_toldKinds, v_t_toldVictims, v_t_toldOthers, v_t_told, v_t_ground, v_t_ports, v_t_scrambled, v_t_places, .ref h_t_sorts, .ref h_t_counts, .ref h_t_operations, .int t_elements, v_t_newSorts, v_t_newCounts, v_t_newOperations, v_t_tape, v_t_tapeSize, v_t_place, v_t_failed, v_t_failedCount, v_t_keeps, v_t_some, v_t_repairedRows, v_t_repairedColumns, v_t_proof])), (h_t_sorts, .inl (cI, n_t_sorts, .inl t_sorts_a)), (h_t_counts, .inl (cI, n_t_counts, .inl t_counts_a)), (h_t_operations, .inl (cI, n_t_operations, .inl t_operations_a))] H → va_D A [(h_t, .inr (1, [.int t_thrown, v_t_words, v_t_bits, v_t_cells, v_t_sense, v_t_kinds, v_t_victims, v_t_others, v_t_faults, v_t_toldKinds, v_t_toldVictims, v_t_toldOthers, v_t_told, v_t_ground, v_t_ports, v_t_scrambled, v_t_places, .ref h_t_sorts, .ref h_t_counts, .ref h_t_operations, .int t_elements, v_t_newSorts, v_t_newCounts, v_t_newOperations, v_t_tape, v_t_tapeSize, v_t_place, v_t_failed, v_t_failedCount, v_t_keeps, v_t_some, v_t_repairedRows, v_t_repairedColumns, v_t_proof])), (h_t_sorts, .inl (cI, n_t_sorts, .inl t_sorts_a)), (h_t_counts, .inl (cI, n_t_counts, .inl t_counts_a)), (h_t_operations, .inl (cI, n_t_operations, .inl t_operations_a))] → va_S A s.heap H locs → lv_has ls 6 [(0, .ref h_t), (2, .int st.1), (3, .int st.2)] → W p l e rm_RF_machine s m args below meth c H locs 0 0 (MQ below (QW D (post_RF_machine h_t h_t_sorts h_t_counts h_t_operations v_t_words v_t_bits v_t_cells v_t_sense v_t_kinds v_t_victims v_t_others v_t_faults v_t_toldKinds v_t_toldVictims v_t_toldOthers v_t_told v_t_ground v_t_ports v_t_scrambled v_t_places v_t_newSorts v_t_newCounts v_t_newOperations v_t_tape v_t_tapeSize v_t_place v_t_failed v_t_failedCount v_t_keeps v_t_some v_t_repairedRows v_t_repairedColumns v_t_proof n_t_sorts n_t_counts n_t_operations t_elements t_sorts_a t_counts_a t_operations_a cI cB cJ res) A) args s 0 0 A) (F0 m 29 ls []))
    (hf : f_RF_machine_61 n_t_sorts n_t_operations t_thrown t_sorts_a t_operations_a s0 x2 x3 rec29 = some res) {H : Heap} {locs : List Loc} {ls : Array Slot} (hP : va_P D classes [(h_t, .inr (1, [.int t_thrown, v_t_words, v_t_bits, v_t_cells, v_t_sense, v_t_kinds, v_t_victims, v_t_others, v_t_faults, v_t_toldKinds, v_t_toldVictims, v_t_toldOthers, v_t_told, v_t_ground, v_t_ports, v_t_scrambled, v_t_places, .ref h_t_sorts, .ref h_t_counts, .ref h_t_operations, .int t_elements, v_t_newSorts, v_t_newCounts, v_t_newOperations, v_t_tape, v_t_tapeSize, v_t_place, v_t_failed, v_t_failedCount, v_t_keeps, v_t_some, v_t_repairedRows, v_t_repairedColumns, v_t_proof])), (h_t_sorts, .inl (cI, n_t_sorts, .inl t_sorts_a)), (h_t_counts, .inl (cI, n_t_counts, .inl t_counts_a)), (h_t_operations, .inl (cI, n_t_operations, .inl t_operations_a))] H) (hD : va_D A [(h_t, .inr (1, [.int t_thrown, v_t_words, v_t_bits, v_t_cells, v_t_sense, v_t_kinds, v_t_victims, v_t_others, v_t_faults, v_t_toldKinds, v_t_toldVictims, v_t_toldOthers, v_t_told, v_t_ground, v_t_ports, v_t_scrambled, v_t_places, .ref h_t_sorts, .ref h_t_counts, .ref h_t_operations, .int t_elements, v_t_newSorts, v_t_newCounts, v_t_newOperations, v_t_tape, v_t_tapeSize, v_t_place, v_t_failed, v_t_failedCount, v_t_keeps, v_t_some, v_t_repairedRows, v_t_repairedColumns, v_t_proof])), (h_t_sorts, .inl (cI, n_t_sorts, .inl t_sorts_a)), (h_t_counts, .inl (cI, n_t_counts, .inl t_counts_a)), (h_t_operations, .inl (cI, n_t_operations, .inl t_operations_a))]) (hS : va_S A s.heap H locs) (hl : lv_has ls 6 [(0, .ref h_t), (2, .int x2), (3, .int x3)]) : W p l e rm_RF_machine s m args below meth c H locs 0 0 (MQ below (QW D (post_RF_machine h_t h_t_sorts h_t_counts h_t_operations v_t_words v_t_bits v_t_cells v_t_sense v_t_kinds v_t_victims v_t_others v_t_faults v_t_toldKinds v_t_toldVictims v_t_toldOthers v_t_told v_t_ground v_t_ports v_t_scrambled v_t_places v_t_newSorts v_t_newCounts v_t_newOperations v_t_tape v_t_tapeSize v_t_place v_t_failed v_t_failedCount v_t_keeps v_t_some v_t_repairedRows v_t_repairedColumns v_t_proof n_t_sorts n_t_counts n_t_operations t_elements t_sorts_a t_counts_a t_operations_a cI cB cJ res) A) args s 0 0 A) (F0 m 61 ls [.int s0]) := by
  obtain ⟨hx, hb, hml, hr, hlocks, hts, hown, hK, hin⟩ := id C0
  have hf : (((
  (if s0 ≤ x2 then
    (rec29 ((x2 - s0), (x3 + 1)))
  else
    (if inB ((8 * x3) + x2) n_t_operations = true then
    (if inB x3 n_t_sorts = true then
    (if (t_sorts_a (Int32.toNatClampNeg x3)) = 2 then
      some (24, t_thrown)
    else
      (if inB x3 n_t_sorts = true then
      (if (t_operations_a (Int32.toNatClampNeg ((8 * x3) + x2))) < 2 then
        (f_RF_machine_114 t_thrown (t_sorts_a (Int32.toNatClampNeg x3)) 0 x2 s0 (t_operations_a (Int32.toNatClampNeg ((8 * x3) + x2))))
      else
        (f_RF_machine_114 t_thrown (t_sorts_a (Int32.toNatClampNeg x3)) 2 x2 s0 (t_operations_a (Int32.toNatClampNeg ((8 * x3) + x2)))))
      else none))
    else none)
    else none)))) : Option (Int32 × Int32)) = some res := hf
  refine lv_istore (lv' := [(4, .int s0), (0, .ref h_t), (2, .int x2), (3, .int x3)]) hx hb d_RF_machine_61 hl (by decide) rfl (fun ls hl => ?_)
  refine lv_iload_n hx hb d_RF_machine_63 rfl (lv_at hl 2 rfl) ?_
  refine lv_iload hx hb d_RF_machine_64 (lv_at hl 0 rfl) ?_
  refine lv_icmp_ge (tgt := 138) hx hb d_RF_machine_66 (by decide) (fun cc66 => ?_) (fun cc66 => ?_)
  · have hf := ifT cc66 hf
    refine lv_iload_n hx hb d_RF_machine_138 rfl (lv_at hl 2 rfl) ?_
    refine lv_iload hx hb d_RF_machine_139 (lv_at hl 0 rfl) ?_
    refine lv_isub hx hb d_RF_machine_141 ?_
    refine lv_istore_n (lv' := [(2, .int (x2 - s0)), (4, .int s0), (0, .ref h_t), (3, .int x3)]) hx hb d_RF_machine_142 rfl hl (by decide) rfl (fun ls hl => ?_)
    refine lv_iinc (v := (x3 + 1)) (lv' := [(3, .int (x3 + 1)), (2, .int (x2 - s0)), (4, .int s0), (0, .ref h_t)]) hx hb d_RF_machine_143 hl (k := 3) rfl rfl (by decide) rfl (fun ls hl => ?_)
    refine lv_goto (tgt := 29) hx hb d_RF_machine_146 (by decide) ?_
    exact hrec29 ((x2 - s0), (x3 + 1)) hf  H locs ls hP hD hS (lv_sub hl [3, 1, 0] rfl)
  · have hf := ifF cc66 hf
    refine lv_aload_n hx hb d_RF_machine_69 rfl (lv_at hl 1 rfl) ?_
    refine va_get (D := D) (ci := 1) (v := .ref h_t_operations) (C := R_RF) (T := F_RF) (N := 34) hx hb hts i_RF hown hK.1 hP 0 rfl rfl 19 (by decide) (hts _ w_378) (fun _ h9 => h9) rfl d_RF_machine_70 ?_
    refine lv_bipush (v := 8) hx hb d_RF_machine_73 (by decide) ?_
    refine lv_iload_n hx hb d_RF_machine_75 rfl (lv_at hl 3 rfl) ?_
    refine lv_imul hx hb d_RF_machine_76 ?_
    refine lv_iload_n hx hb d_RF_machine_77 rfl (lv_at hl 2 rfl) ?_
    refine lv_iadd hx hb d_RF_machine_78 ?_
    obtain ⟨hin1, hf⟩ := ifG hf
    refine va_iald hx hb hK.1 hP 3 0 rfl rfl (inB_in hin1) d_RF_machine_79 ?_
    refine lv_istore (lv' := [(5, .int (t_operations_a (Int32.toNatClampNeg ((8 * x3) + x2)))), (4, .int s0), (0, .ref h_t), (2, .int x2), (3, .int x3)]) hx hb d_RF_machine_80 hl (by decide) rfl (fun ls hl => ?_)
    refine lv_aload_n hx hb d_RF_machine_82 rfl (lv_at hl 2 rfl) ?_
    refine va_get (D := D) (ci := 1) (v := .ref h_t_sorts) (C := R_RF) (T := F_RF) (N := 34) hx hb hts i_RF hown hK.1 hP 0 rfl rfl 17 (by decide) (hts _ w_376) (fun _ h9 => h9) rfl d_RF_machine_83 ?_
    refine lv_iload_n hx hb d_RF_machine_86 rfl (lv_at hl 4 rfl) ?_
    obtain ⟨hin1, hf⟩ := ifG hf
    refine va_iald hx hb hK.1 hP 1 0 rfl rfl (inB_in hin1) d_RF_machine_87 ?_
    refine lv_iconst (v := 2) hx hb d_RF_machine_88 (by decide) ?_
    refine lv_icmp_ne (tgt := 97) hx hb d_RF_machine_89 (by decide) (fun cc89 => ?_) (fun cc89 => ?_)
    · have hf := ifF cc89 hf
      refine lv_aload_n hx hb d_RF_machine_97 rfl (lv_at hl 2 rfl) ?_
      refine va_get (D := D) (ci := 1) (v := .ref h_t_sorts) (C := R_RF) (T := F_RF) (N := 34) hx hb hts i_RF hown hK.1 hP 0 rfl rfl 17 (by decide) (hts _ w_376) (fun _ h9 => h9) rfl d_RF_machine_98 ?_
      refine lv_iload_n hx hb d_RF_machine_101 rfl (lv_at hl 4 rfl) ?_
      obtain ⟨hin1, hf⟩ := ifG hf
      refine va_iald hx hb hK.1 hP 1 0 rfl rfl (inB_in hin1) d_RF_machine_102 ?_
      refine lv_iload hx hb d_RF_machine_103 (lv_at hl 0 rfl) ?_
      refine lv_iconst (v := 2) hx hb d_RF_machine_105 (by decide) ?_
      refine lv_icmp_lt (tgt := 113) hx hb d_RF_machine_106 (by decide) (fun cc106 => ?_) (fun cc106 => ?_)
      · have hf := ifT cc106 hf
        refine lv_iconst (v := 0) hx hb d_RF_machine_113 (by decide) ?_
        exact k_RF_machine_114 (s := s) C0 hA hf hP hD hS (lv_sub hl [3, 1, 0] rfl)
      · have hf := ifF cc106 hf
        refine lv_iconst (v := 2) hx hb d_RF_machine_109 (by decide) ?_
        refine lv_goto (tgt := 114) hx hb d_RF_machine_110 (by decide) ?_
        exact k_RF_machine_114 (s := s) C0 hA hf hP hD hS (lv_sub hl [3, 1, 0] rfl)
    · have hf := ifT cc89 hf
      refine lv_bipush (v := 24) hx hb d_RF_machine_92 (by decide) ?_
      refine lv_goto (tgt := 137) hx hb d_RF_machine_94 (by decide) ?_
      obtain rfl := Option.some.inj hf
      exact ret_i hx hb hr hlocks hP hD hS ⟨rfl, rfl⟩ d_RF_machine_137
set_option maxHeartbeats 4000000 in
set_option maxRecDepth 100000 in
theorem kb_RF_machine_29 {p : Program} {l : Launch} {e : Env} {s : State} {m : MethodId} {args : Array Value} {below : List Frame} {meth : Method} {c : Code} {D : va_G} {cI cB cJ : ClassId} {A : Nat → Prop} (C0 : CX p s m args meth c D [(cI, .int), (cB, .byte), (cJ, .long)] R_RF b_RF_machine 6 (some .int) "machine") (hA : ∀ q, s.heap.size ≤ q → A q) {h_t h_t_sorts h_t_counts h_t_operations : Nat} {v_t_words v_t_bits v_t_cells v_t_sense v_t_kinds v_t_victims v_t_others v_t_faults v_t_toldKinds v_t_toldVictims v_t_toldOthers v_t_told v_t_ground v_t_ports v_t_scrambled v_t_places v_t_newSorts v_t_newCounts v_t_newOperations v_t_tape v_t_tapeSize v_t_place v_t_failed v_t_failedCount v_t_keeps v_t_some v_t_repairedRows v_t_repairedColumns v_t_proof : Value} {res : Int32 × Int32} {rec29 : (Int32 × Int32) → Option (Int32 × Int32)} {n_t_sorts : Nat} {n_t_counts : Nat} {n_t_operations : Nat} {t_thrown : Int32} {t_elements : Int32} {t_sorts_a : Nat → Int32} {t_counts_a : Nat → Int32} {t_operations_a : Nat → Int32} {x2 : Int32} {x3 : Int32}
    (hrec29 : ∀ (st : (Int32 × Int32)), rec29 st = some res → ∀  (H : Heap) (locs : List Loc) (ls : Array Slot), va_P D classes [(h_t, .inr (1, [.int t_thrown, v_t_words, v_t_bits, v_t_cells, v_t_sense, v_t_kinds, v_t_victims, v_t_others, v_t_faults, v_t_toldKinds, v_t_toldVictims, v_t_toldOthers, v_t_told, v_t_ground, v_t_ports, v_t_scrambled, v_t_places, .ref h_t_sorts, .ref h_t_counts, .ref h_t_operations, .int t_elements, v_t_newSorts, v_t_newCounts, v_t_newOperations, v_t_tape, v_t_tapeSize, v_t_place, v_t_failed, v_t_failedCount, v_t_keeps, v_t_some, v_t_repairedRows, v_t_repairedColumns, v_t_proof])), (h_t_sorts, .inl (cI, n_t_sorts, .inl t_sorts_a)), (h_t_counts, .inl (cI, n_t_counts, .inl t_counts_a)), (h_t_operations, .inl (cI, n_t_operations, .inl t_operations_a))] H → va_D A [(h_t, .inr (1, [.int t_thrown, v_t_words, v_t_bits, v_t_cells, v_t_sense, v_t_kinds, v_t_victims, v_t_others, v_t_faults, v_t_toldKinds, v_t_toldVictims, v_t_toldOthers, v_t_told, v_t_ground, v_t_ports, v_t_scrambled, v_t_places, .ref h_t_sorts, .ref h_t_counts, .ref h_t_operations, .int t_elements, v_t_newSorts, v_t_newCounts, v_t_newOperations, v_t_tape, v_t_tapeSize, v_t_place, v_t_failed, v_t_failedCount, v_t_keeps, v_t_some, v_t_repairedRows, v_t_repairedColumns, v_t_proof])), (h_t_sorts, .inl (cI, n_t_sorts, .inl t_sorts_a)), (h_t_counts, .inl (cI, n_t_counts, .inl t_counts_a)), (h_t_operations, .inl (cI, n_t_operations, .inl t_operations_a))] → va_S A s.heap H locs → lv_has ls 6 [(0, .ref h_t), (2, .int st.1), (3, .int st.2)] → W p l e rm_RF_machine s m args below meth c H locs 0 0 (MQ below (QW D (post_RF_machine h_t h_t_sorts h_t_counts h_t_operations v_t_words v_t_bits v_t_cells v_t_sense v_t_kinds v_t_victims v_t_others v_t_faults v_t_toldKinds v_t_toldVictims v_t_toldOthers v_t_told v_t_ground v_t_ports v_t_scrambled v_t_places v_t_newSorts v_t_newCounts v_t_newOperations v_t_tape v_t_tapeSize v_t_place v_t_failed v_t_failedCount v_t_keeps v_t_some v_t_repairedRows v_t_repairedColumns v_t_proof n_t_sorts n_t_counts n_t_operations t_elements t_sorts_a t_counts_a t_operations_a cI cB cJ res) A) args s 0 0 A) (F0 m 29 ls []))
    (hf : g_RF_machine_29 n_t_sorts n_t_counts n_t_operations t_thrown t_elements t_sorts_a t_counts_a t_operations_a rec29 (x2, x3) = some res) {H : Heap} {locs : List Loc} {ls : Array Slot} (hP : va_P D classes [(h_t, .inr (1, [.int t_thrown, v_t_words, v_t_bits, v_t_cells, v_t_sense, v_t_kinds, v_t_victims, v_t_others, v_t_faults, v_t_toldKinds, v_t_toldVictims, v_t_toldOthers, v_t_told, v_t_ground, v_t_ports, v_t_scrambled, v_t_places, .ref h_t_sorts, .ref h_t_counts, .ref h_t_operations, .int t_elements, v_t_newSorts, v_t_newCounts, v_t_newOperations, v_t_tape, v_t_tapeSize, v_t_place, v_t_failed, v_t_failedCount, v_t_keeps, v_t_some, v_t_repairedRows, v_t_repairedColumns, v_t_proof])), (h_t_sorts, .inl (cI, n_t_sorts, .inl t_sorts_a)), (h_t_counts, .inl (cI, n_t_counts, .inl t_counts_a)), (h_t_operations, .inl (cI, n_t_operations, .inl t_operations_a))] H) (hD : va_D A [(h_t, .inr (1, [.int t_thrown, v_t_words, v_t_bits, v_t_cells, v_t_sense, v_t_kinds, v_t_victims, v_t_others, v_t_faults, v_t_toldKinds, v_t_toldVictims, v_t_toldOthers, v_t_told, v_t_ground, v_t_ports, v_t_scrambled, v_t_places, .ref h_t_sorts, .ref h_t_counts, .ref h_t_operations, .int t_elements, v_t_newSorts, v_t_newCounts, v_t_newOperations, v_t_tape, v_t_tapeSize, v_t_place, v_t_failed, v_t_failedCount, v_t_keeps, v_t_some, v_t_repairedRows, v_t_repairedColumns, v_t_proof])), (h_t_sorts, .inl (cI, n_t_sorts, .inl t_sorts_a)), (h_t_counts, .inl (cI, n_t_counts, .inl t_counts_a)), (h_t_operations, .inl (cI, n_t_operations, .inl t_operations_a))]) (hS : va_S A s.heap H locs) (hl : lv_has ls 6 [(0, .ref h_t), (2, .int x2), (3, .int x3)]) : W p l e rm_RF_machine s m args below meth c H locs 0 0 (MQ below (QW D (post_RF_machine h_t h_t_sorts h_t_counts h_t_operations v_t_words v_t_bits v_t_cells v_t_sense v_t_kinds v_t_victims v_t_others v_t_faults v_t_toldKinds v_t_toldVictims v_t_toldOthers v_t_told v_t_ground v_t_ports v_t_scrambled v_t_places v_t_newSorts v_t_newCounts v_t_newOperations v_t_tape v_t_tapeSize v_t_place v_t_failed v_t_failedCount v_t_keeps v_t_some v_t_repairedRows v_t_repairedColumns v_t_proof n_t_sorts n_t_counts n_t_operations t_elements t_sorts_a t_counts_a t_operations_a cI cB cJ res) A) args s 0 0 A) (F0 m 29 ls []) := by
  obtain ⟨hx, hb, hml, hr, hlocks, hts, hown, hK, hin⟩ := id C0
  have hf : (((
  (if t_elements ≤ x3 then
    some (0, 2)
  else
    (if x2 < 0 then
      some (0, 2)
    else
      (if inB x3 n_t_sorts = true then
      (if (t_sorts_a (Int32.toNatClampNeg x3)) = 2 then
        (f_RF_machine_61 n_t_sorts n_t_operations t_thrown t_sorts_a t_operations_a 1 x2 x3 rec29)
      else
        (if inB x3 n_t_counts = true then
        (f_RF_machine_61 n_t_sorts n_t_operations t_thrown t_sorts_a t_operations_a (t_counts_a (Int32.toNatClampNeg x3)) x2 x3 rec29)
        else none))
      else none))))) : Option (Int32 × Int32)) = some res := hf
  refine lv_iload_n hx hb d_RF_machine_29 rfl (lv_at hl 2 rfl) ?_
  refine lv_aload_n hx hb d_RF_machine_30 rfl (lv_at hl 0 rfl) ?_
  refine va_get (D := D) (ci := 1) (v := .int t_elements) (C := R_RF) (T := F_RF) (N := 34) hx hb hts i_RF hown hK.1 hP 0 rfl rfl 20 (by decide) (hts _ w_395) (fun _ h9 => h9) rfl d_RF_machine_31 ?_
  refine lv_icmp_ge (tgt := 149) hx hb d_RF_machine_34 (by decide) (fun cc34 => ?_) (fun cc34 => ?_)
  · have hf := ifT cc34 hf
    refine lv_aload_n hx hb d_RF_machine_149 rfl (lv_at hl 0 rfl) ?_
    refine lv_iconst (v := 2) hx hb d_RF_machine_150 (by decide) ?_
    refine va_put (D := D) (ci := 1) (v := .int 2) (ty := .int) (C := R_RF) (T := F_RF) (N := 34) hx hb hts i_RF t_RF t_RF_ok n_RF hown hK.1 hP hD hS 0 rfl rfl 0 (by decide) (hts _ w_387) (fun _ h9 => h9) rfl (t_RF_ok 0 (by decide)) rfl rfl (Nat.le_of_ble_eq_true rfl) d_RF_machine_151 (fun H locs hP hD hS => ?_)
    have hP : va_P D classes [(h_t, .inr (1, [.int 2, v_t_words, v_t_bits, v_t_cells, v_t_sense, v_t_kinds, v_t_victims, v_t_others, v_t_faults, v_t_toldKinds, v_t_toldVictims, v_t_toldOthers, v_t_told, v_t_ground, v_t_ports, v_t_scrambled, v_t_places, .ref h_t_sorts, .ref h_t_counts, .ref h_t_operations, .int t_elements, v_t_newSorts, v_t_newCounts, v_t_newOperations, v_t_tape, v_t_tapeSize, v_t_place, v_t_failed, v_t_failedCount, v_t_keeps, v_t_some, v_t_repairedRows, v_t_repairedColumns, v_t_proof])), (h_t_sorts, .inl (cI, n_t_sorts, .inl t_sorts_a)), (h_t_counts, .inl (cI, n_t_counts, .inl t_counts_a)), (h_t_operations, .inl (cI, n_t_operations, .inl t_operations_a))] H := hP
    have hD : va_D A [(h_t, .inr (1, [.int 2, v_t_words, v_t_bits, v_t_cells, v_t_sense, v_t_kinds, v_t_victims, v_t_others, v_t_faults, v_t_toldKinds, v_t_toldVictims, v_t_toldOthers, v_t_told, v_t_ground, v_t_ports, v_t_scrambled, v_t_places, .ref h_t_sorts, .ref h_t_counts, .ref h_t_operations, .int t_elements, v_t_newSorts, v_t_newCounts, v_t_newOperations, v_t_tape, v_t_tapeSize, v_t_place, v_t_failed, v_t_failedCount, v_t_keeps, v_t_some, v_t_repairedRows, v_t_repairedColumns, v_t_proof])), (h_t_sorts, .inl (cI, n_t_sorts, .inl t_sorts_a)), (h_t_counts, .inl (cI, n_t_counts, .inl t_counts_a)), (h_t_operations, .inl (cI, n_t_operations, .inl t_operations_a))] := hD
    refine lv_iconst (v := 0) hx hb d_RF_machine_154 (by decide) ?_
    obtain rfl := Option.some.inj hf
    exact ret_i hx hb hr hlocks hP hD hS ⟨rfl, rfl⟩ d_RF_machine_155
  · have hf := ifF cc34 hf
    refine lv_iload_n hx hb d_RF_machine_37 rfl (lv_at hl 1 rfl) ?_
    refine lv_if_lt (tgt := 149) hx hb d_RF_machine_38 (by decide) (fun cc38 => ?_) (fun cc38 => ?_)
    · have hf := ifT cc38 hf
      refine lv_aload_n hx hb d_RF_machine_149 rfl (lv_at hl 0 rfl) ?_
      refine lv_iconst (v := 2) hx hb d_RF_machine_150 (by decide) ?_
      refine va_put (D := D) (ci := 1) (v := .int 2) (ty := .int) (C := R_RF) (T := F_RF) (N := 34) hx hb hts i_RF t_RF t_RF_ok n_RF hown hK.1 hP hD hS 0 rfl rfl 0 (by decide) (hts _ w_387) (fun _ h9 => h9) rfl (t_RF_ok 0 (by decide)) rfl rfl (Nat.le_of_ble_eq_true rfl) d_RF_machine_151 (fun H locs hP hD hS => ?_)
      have hP : va_P D classes [(h_t, .inr (1, [.int 2, v_t_words, v_t_bits, v_t_cells, v_t_sense, v_t_kinds, v_t_victims, v_t_others, v_t_faults, v_t_toldKinds, v_t_toldVictims, v_t_toldOthers, v_t_told, v_t_ground, v_t_ports, v_t_scrambled, v_t_places, .ref h_t_sorts, .ref h_t_counts, .ref h_t_operations, .int t_elements, v_t_newSorts, v_t_newCounts, v_t_newOperations, v_t_tape, v_t_tapeSize, v_t_place, v_t_failed, v_t_failedCount, v_t_keeps, v_t_some, v_t_repairedRows, v_t_repairedColumns, v_t_proof])), (h_t_sorts, .inl (cI, n_t_sorts, .inl t_sorts_a)), (h_t_counts, .inl (cI, n_t_counts, .inl t_counts_a)), (h_t_operations, .inl (cI, n_t_operations, .inl t_operations_a))] H := hP
      have hD : va_D A [(h_t, .inr (1, [.int 2, v_t_words, v_t_bits, v_t_cells, v_t_sense, v_t_kinds, v_t_victims, v_t_others, v_t_faults, v_t_toldKinds, v_t_toldVictims, v_t_toldOthers, v_t_told, v_t_ground, v_t_ports, v_t_scrambled, v_t_places, .ref h_t_sorts, .ref h_t_counts, .ref h_t_operations, .int t_elements, v_t_newSorts, v_t_newCounts, v_t_newOperations, v_t_tape, v_t_tapeSize, v_t_place, v_t_failed, v_t_failedCount, v_t_keeps, v_t_some, v_t_repairedRows, v_t_repairedColumns, v_t_proof])), (h_t_sorts, .inl (cI, n_t_sorts, .inl t_sorts_a)), (h_t_counts, .inl (cI, n_t_counts, .inl t_counts_a)), (h_t_operations, .inl (cI, n_t_operations, .inl t_operations_a))] := hD
      refine lv_iconst (v := 0) hx hb d_RF_machine_154 (by decide) ?_
      obtain rfl := Option.some.inj hf
      exact ret_i hx hb hr hlocks hP hD hS ⟨rfl, rfl⟩ d_RF_machine_155
    · have hf := ifF cc38 hf
      refine lv_aload_n hx hb d_RF_machine_41 rfl (lv_at hl 0 rfl) ?_
      refine va_get (D := D) (ci := 1) (v := .ref h_t_sorts) (C := R_RF) (T := F_RF) (N := 34) hx hb hts i_RF hown hK.1 hP 0 rfl rfl 17 (by decide) (hts _ w_376) (fun _ h9 => h9) rfl d_RF_machine_42 ?_
      refine lv_iload_n hx hb d_RF_machine_45 rfl (lv_at hl 2 rfl) ?_
      obtain ⟨hin1, hf⟩ := ifG hf
      refine va_iald hx hb hK.1 hP 1 0 rfl rfl (inB_in hin1) d_RF_machine_46 ?_
      refine lv_iconst (v := 2) hx hb d_RF_machine_47 (by decide) ?_
      refine lv_icmp_ne (tgt := 55) hx hb d_RF_machine_48 (by decide) (fun cc48 => ?_) (fun cc48 => ?_)
      · have hf := ifF cc48 hf
        refine lv_aload_n hx hb d_RF_machine_55 rfl (lv_at hl 0 rfl) ?_
        refine va_get (D := D) (ci := 1) (v := .ref h_t_counts) (C := R_RF) (T := F_RF) (N := 34) hx hb hts i_RF hown hK.1 hP 0 rfl rfl 18 (by decide) (hts _ w_377) (fun _ h9 => h9) rfl d_RF_machine_56 ?_
        refine lv_iload_n hx hb d_RF_machine_59 rfl (lv_at hl 2 rfl) ?_
        obtain ⟨hin1, hf⟩ := ifG hf
        refine va_iald hx hb hK.1 hP 2 0 rfl rfl (inB_in hin1) d_RF_machine_60 ?_
        exact k_RF_machine_61 (s := s) C0 hA hrec29 hf hP hD hS (lv_sub hl [0, 1, 2] rfl)
      · have hf := ifT cc48 hf
        refine lv_iconst (v := 1) hx hb d_RF_machine_51 (by decide) ?_
        refine lv_goto (tgt := 61) hx hb d_RF_machine_52 (by decide) ?_
        exact k_RF_machine_61 (s := s) C0 hA hrec29 hf hP hD hS (lv_sub hl [0, 1, 2] rfl)
set_option maxHeartbeats 4000000 in
set_option maxRecDepth 100000 in
theorem k_RF_machine_29 {p : Program} {l : Launch} {e : Env} {s : State} {m : MethodId} {args : Array Value} {below : List Frame} {meth : Method} {c : Code} {D : va_G} {cI cB cJ : ClassId} {A : Nat → Prop} (C0 : CX p s m args meth c D [(cI, .int), (cB, .byte), (cJ, .long)] R_RF b_RF_machine 6 (some .int) "machine") (hA : ∀ q, s.heap.size ≤ q → A q) {h_t h_t_sorts h_t_counts h_t_operations : Nat} {v_t_words v_t_bits v_t_cells v_t_sense v_t_kinds v_t_victims v_t_others v_t_faults v_t_toldKinds v_t_toldVictims v_t_toldOthers v_t_told v_t_ground v_t_ports v_t_scrambled v_t_places v_t_newSorts v_t_newCounts v_t_newOperations v_t_tape v_t_tapeSize v_t_place v_t_failed v_t_failedCount v_t_keeps v_t_some v_t_repairedRows v_t_repairedColumns v_t_proof : Value} {res : Int32 × Int32} {n_t_sorts : Nat} {n_t_counts : Nat} {n_t_operations : Nat} {t_thrown : Int32} {t_elements : Int32} {t_sorts_a : Nat → Int32} {t_counts_a : Nat → Int32} {t_operations_a : Nat → Int32}
    : ∀ (n : Nat) (st : (Int32 × Int32)), lp (g_RF_machine_29 n_t_sorts n_t_counts n_t_operations t_thrown t_elements t_sorts_a t_counts_a t_operations_a) n st = some res → ∀  (H : Heap) (locs : List Loc) (ls : Array Slot), va_P D classes [(h_t, .inr (1, [.int t_thrown, v_t_words, v_t_bits, v_t_cells, v_t_sense, v_t_kinds, v_t_victims, v_t_others, v_t_faults, v_t_toldKinds, v_t_toldVictims, v_t_toldOthers, v_t_told, v_t_ground, v_t_ports, v_t_scrambled, v_t_places, .ref h_t_sorts, .ref h_t_counts, .ref h_t_operations, .int t_elements, v_t_newSorts, v_t_newCounts, v_t_newOperations, v_t_tape, v_t_tapeSize, v_t_place, v_t_failed, v_t_failedCount, v_t_keeps, v_t_some, v_t_repairedRows, v_t_repairedColumns, v_t_proof])), (h_t_sorts, .inl (cI, n_t_sorts, .inl t_sorts_a)), (h_t_counts, .inl (cI, n_t_counts, .inl t_counts_a)), (h_t_operations, .inl (cI, n_t_operations, .inl t_operations_a))] H → va_D A [(h_t, .inr (1, [.int t_thrown, v_t_words, v_t_bits, v_t_cells, v_t_sense, v_t_kinds, v_t_victims, v_t_others, v_t_faults, v_t_toldKinds, v_t_toldVictims, v_t_toldOthers, v_t_told, v_t_ground, v_t_ports, v_t_scrambled, v_t_places, .ref h_t_sorts, .ref h_t_counts, .ref h_t_operations, .int t_elements, v_t_newSorts, v_t_newCounts, v_t_newOperations, v_t_tape, v_t_tapeSize, v_t_place, v_t_failed, v_t_failedCount, v_t_keeps, v_t_some, v_t_repairedRows, v_t_repairedColumns, v_t_proof])), (h_t_sorts, .inl (cI, n_t_sorts, .inl t_sorts_a)), (h_t_counts, .inl (cI, n_t_counts, .inl t_counts_a)), (h_t_operations, .inl (cI, n_t_operations, .inl t_operations_a))] → va_S A s.heap H locs → lv_has ls 6 [(0, .ref h_t), (2, .int st.1), (3, .int st.2)] → W p l e rm_RF_machine s m args below meth c H locs 0 0 (MQ below (QW D (post_RF_machine h_t h_t_sorts h_t_counts h_t_operations v_t_words v_t_bits v_t_cells v_t_sense v_t_kinds v_t_victims v_t_others v_t_faults v_t_toldKinds v_t_toldVictims v_t_toldOthers v_t_told v_t_ground v_t_ports v_t_scrambled v_t_places v_t_newSorts v_t_newCounts v_t_newOperations v_t_tape v_t_tapeSize v_t_place v_t_failed v_t_failedCount v_t_keeps v_t_some v_t_repairedRows v_t_repairedColumns v_t_proof n_t_sorts n_t_counts n_t_operations t_elements t_sorts_a t_counts_a t_operations_a cI cB cJ res) A) args s 0 0 A) (F0 m 29 ls []) := by
  intro n
  induction n with
  | zero => intro st hf; exact absurd hf (by simp [lp])
  | succ n ih =>
    intro st hf  H locs ls hP hD hS hl
    exact kb_RF_machine_29 C0 hA (rec29 := lp (g_RF_machine_29 n_t_sorts n_t_counts n_t_operations t_thrown t_elements t_sorts_a t_counts_a t_operations_a) n) (x2 := st.1) (x3 := st.2)  (fun st hf  H locs ls hP hD hS hl => ih st hf  H locs ls hP hD hS hl) hf hP hD hS hl
set_option maxHeartbeats 4000000 in
set_option maxRecDepth 100000 in
theorem k_RF_machine_13 {p : Program} {l : Launch} {e : Env} {s : State} {m : MethodId} {args : Array Value} {below : List Frame} {meth : Method} {c : Code} {D : va_G} {cI cB cJ : ClassId} {A : Nat → Prop} (C0 : CX p s m args meth c D [(cI, .int), (cB, .byte), (cJ, .long)] R_RF b_RF_machine 6 (some .int) "machine") (hA : ∀ q, s.heap.size ≤ q → A q) {h_t h_t_sorts h_t_counts h_t_operations : Nat} {v_t_words v_t_bits v_t_cells v_t_sense v_t_kinds v_t_victims v_t_others v_t_faults v_t_toldKinds v_t_toldVictims v_t_toldOthers v_t_told v_t_ground v_t_ports v_t_scrambled v_t_places v_t_newSorts v_t_newCounts v_t_newOperations v_t_tape v_t_tapeSize v_t_place v_t_failed v_t_failedCount v_t_keeps v_t_some v_t_repairedRows v_t_repairedColumns v_t_proof : Value} {res : Int32 × Int32} {n_t_sorts : Nat} {n_t_counts : Nat} {n_t_operations : Nat} {t_thrown : Int32} {t_elements : Int32} {t_sorts_a : Nat → Int32} {t_counts_a : Nat → Int32} {t_operations_a : Nat → Int32} {s1 : Int32} {x1 : Int32}
    (hf : f_RF_machine_13 n_t_sorts n_t_counts n_t_operations t_elements t_sorts_a t_counts_a t_operations_a s1 x1 = some res) {H : Heap} {locs : List Loc} {ls : Array Slot} (hP : va_P D classes [(h_t, .inr (1, [.int t_thrown, v_t_words, v_t_bits, v_t_cells, v_t_sense, v_t_kinds, v_t_victims, v_t_others, v_t_faults, v_t_toldKinds, v_t_toldVictims, v_t_toldOthers, v_t_told, v_t_ground, v_t_ports, v_t_scrambled, v_t_places, .ref h_t_sorts, .ref h_t_counts, .ref h_t_operations, .int t_elements, v_t_newSorts, v_t_newCounts, v_t_newOperations, v_t_tape, v_t_tapeSize, v_t_place, v_t_failed, v_t_failedCount, v_t_keeps, v_t_some, v_t_repairedRows, v_t_repairedColumns, v_t_proof])), (h_t_sorts, .inl (cI, n_t_sorts, .inl t_sorts_a)), (h_t_counts, .inl (cI, n_t_counts, .inl t_counts_a)), (h_t_operations, .inl (cI, n_t_operations, .inl t_operations_a))] H) (hD : va_D A [(h_t, .inr (1, [.int t_thrown, v_t_words, v_t_bits, v_t_cells, v_t_sense, v_t_kinds, v_t_victims, v_t_others, v_t_faults, v_t_toldKinds, v_t_toldVictims, v_t_toldOthers, v_t_told, v_t_ground, v_t_ports, v_t_scrambled, v_t_places, .ref h_t_sorts, .ref h_t_counts, .ref h_t_operations, .int t_elements, v_t_newSorts, v_t_newCounts, v_t_newOperations, v_t_tape, v_t_tapeSize, v_t_place, v_t_failed, v_t_failedCount, v_t_keeps, v_t_some, v_t_repairedRows, v_t_repairedColumns, v_t_proof])), (h_t_sorts, .inl (cI, n_t_sorts, .inl t_sorts_a)), (h_t_counts, .inl (cI, n_t_counts, .inl t_counts_a)), (h_t_operations, .inl (cI, n_t_operations, .inl t_operations_a))]) (hS : va_S A s.heap H locs) (hl : lv_has ls 6 [(0, .ref h_t), (1, .int x1)]) : W p l e rm_RF_machine s m args below meth c H locs 0 0 (MQ below (QW D (post_RF_machine h_t h_t_sorts h_t_counts h_t_operations v_t_words v_t_bits v_t_cells v_t_sense v_t_kinds v_t_victims v_t_others v_t_faults v_t_toldKinds v_t_toldVictims v_t_toldOthers v_t_told v_t_ground v_t_ports v_t_scrambled v_t_places v_t_newSorts v_t_newCounts v_t_newOperations v_t_tape v_t_tapeSize v_t_place v_t_failed v_t_failedCount v_t_keeps v_t_some v_t_repairedRows v_t_repairedColumns v_t_proof n_t_sorts n_t_counts n_t_operations t_elements t_sorts_a t_counts_a t_operations_a cI cB cJ res) A) args s 0 0 A) (F0 m 13 ls [.int s1, .ref h_t]) := by
  obtain ⟨hx, hb, hml, hr, hlocks, hts, hown, hK, hin⟩ := id C0
  have hf : (((
  (if s1 ≤ 0 then
    (lp (g_RF_machine_29 n_t_sorts n_t_counts n_t_operations s1 t_elements t_sorts_a t_counts_a t_operations_a) 100000 (x1, 0))
  else
    some (0, s1)))) : Option (Int32 × Int32)) = some res := hf
  refine va_put (D := D) (ci := 1) (v := .int s1) (ty := .int) (C := R_RF) (T := F_RF) (N := 34) hx hb hts i_RF t_RF t_RF_ok n_RF hown hK.1 hP hD hS 0 rfl rfl 0 (by decide) (hts _ w_387) (fun _ h9 => h9) rfl (t_RF_ok 0 (by decide)) rfl rfl (Nat.le_of_ble_eq_true rfl) d_RF_machine_13 (fun H locs hP hD hS => ?_)
  have hP : va_P D classes [(h_t, .inr (1, [.int s1, v_t_words, v_t_bits, v_t_cells, v_t_sense, v_t_kinds, v_t_victims, v_t_others, v_t_faults, v_t_toldKinds, v_t_toldVictims, v_t_toldOthers, v_t_told, v_t_ground, v_t_ports, v_t_scrambled, v_t_places, .ref h_t_sorts, .ref h_t_counts, .ref h_t_operations, .int t_elements, v_t_newSorts, v_t_newCounts, v_t_newOperations, v_t_tape, v_t_tapeSize, v_t_place, v_t_failed, v_t_failedCount, v_t_keeps, v_t_some, v_t_repairedRows, v_t_repairedColumns, v_t_proof])), (h_t_sorts, .inl (cI, n_t_sorts, .inl t_sorts_a)), (h_t_counts, .inl (cI, n_t_counts, .inl t_counts_a)), (h_t_operations, .inl (cI, n_t_operations, .inl t_operations_a))] H := hP
  have hD : va_D A [(h_t, .inr (1, [.int s1, v_t_words, v_t_bits, v_t_cells, v_t_sense, v_t_kinds, v_t_victims, v_t_others, v_t_faults, v_t_toldKinds, v_t_toldVictims, v_t_toldOthers, v_t_told, v_t_ground, v_t_ports, v_t_scrambled, v_t_places, .ref h_t_sorts, .ref h_t_counts, .ref h_t_operations, .int t_elements, v_t_newSorts, v_t_newCounts, v_t_newOperations, v_t_tape, v_t_tapeSize, v_t_place, v_t_failed, v_t_failedCount, v_t_keeps, v_t_some, v_t_repairedRows, v_t_repairedColumns, v_t_proof])), (h_t_sorts, .inl (cI, n_t_sorts, .inl t_sorts_a)), (h_t_counts, .inl (cI, n_t_counts, .inl t_counts_a)), (h_t_operations, .inl (cI, n_t_operations, .inl t_operations_a))] := hD
  refine lv_aload_n hx hb d_RF_machine_16 rfl (lv_at hl 0 rfl) ?_
  refine va_get (D := D) (ci := 1) (v := .int s1) (C := R_RF) (T := F_RF) (N := 34) hx hb hts i_RF hown hK.1 hP 0 rfl rfl 0 (by decide) (hts _ w_387) (fun _ h9 => h9) rfl d_RF_machine_17 ?_
  refine lv_if_le (tgt := 25) hx hb d_RF_machine_20 (by decide) (fun cc20 => ?_) (fun cc20 => ?_)
  · have hf := ifT cc20 hf
    refine lv_iload_n hx hb d_RF_machine_25 rfl (lv_at hl 1 rfl) ?_
    refine lv_istore_n (lv' := [(2, .int x1), (0, .ref h_t), (1, .int x1)]) hx hb d_RF_machine_26 rfl hl (by decide) rfl (fun ls hl => ?_)
    refine lv_iconst (v := 0) hx hb d_RF_machine_27 (by decide) ?_
    refine lv_istore_n (lv' := [(3, .int 0), (2, .int x1), (0, .ref h_t), (1, .int x1)]) hx hb d_RF_machine_28 rfl hl (by decide) rfl (fun ls hl => ?_)
    exact k_RF_machine_29 (s := s) C0 hA _ (x1, 0) hf  H locs ls hP hD hS (lv_sub hl [2, 1, 0] rfl)
  · have hf := ifF cc20 hf
    refine lv_iconst (v := 0) hx hb d_RF_machine_23 (by decide) ?_
    obtain rfl := Option.some.inj hf
    exact ret_i hx hb hr hlocks hP hD hS ⟨rfl, rfl⟩ d_RF_machine_24
set_option maxHeartbeats 4000000 in
set_option maxRecDepth 100000 in
theorem c_RF_machine (l : Launch) (D : va_G) (cI cB cJ : ClassId) (h_t h_t_sorts h_t_counts h_t_operations : Nat) (v_t_words v_t_bits v_t_cells v_t_sense v_t_kinds v_t_victims v_t_others v_t_faults v_t_toldKinds v_t_toldVictims v_t_toldOthers v_t_told v_t_ground v_t_ports v_t_scrambled v_t_places v_t_newSorts v_t_newCounts v_t_newOperations v_t_tape v_t_tapeSize v_t_place v_t_failed v_t_failedCount v_t_keeps v_t_some v_t_repairedRows v_t_repairedColumns v_t_proof : Value) (n_t_sorts : Nat) (n_t_counts : Nat) (n_t_operations : Nat) (t_thrown : Int32) (t_elements : Int32) (t_sorts_a : Nat → Int32) (t_counts_a : Nat → Int32) (t_operations_a : Nat → Int32) (a1 : Int32) (sz : Nat) (res : Int32 × Int32) (hf : f_RF_machine n_t_sorts n_t_counts n_t_operations t_elements t_sorts_a t_counts_a t_operations_a a1 = some res) : Met l y_RF_machine (.code y_RF_machine b_RF_machine 6 (some .int) :: TB) rm_RF_machine (PcW D [(cI, .int), (cB, .byte), (cJ, .long)] [.ref h_t, .int a1] [(h_t, .inr (1, [.int t_thrown, v_t_words, v_t_bits, v_t_cells, v_t_sense, v_t_kinds, v_t_victims, v_t_others, v_t_faults, v_t_toldKinds, v_t_toldVictims, v_t_toldOthers, v_t_told, v_t_ground, v_t_ports, v_t_scrambled, v_t_places, .ref h_t_sorts, .ref h_t_counts, .ref h_t_operations, .int t_elements, v_t_newSorts, v_t_newCounts, v_t_newOperations, v_t_tape, v_t_tapeSize, v_t_place, v_t_failed, v_t_failedCount, v_t_keeps, v_t_some, v_t_repairedRows, v_t_repairedColumns, v_t_proof])), (h_t_sorts, .inl (cI, n_t_sorts, .inl t_sorts_a)), (h_t_counts, .inl (cI, n_t_counts, .inl t_counts_a)), (h_t_operations, .inl (cI, n_t_operations, .inl t_operations_a))] sz) (QW D (post_RF_machine h_t h_t_sorts h_t_counts h_t_operations v_t_words v_t_bits v_t_cells v_t_sense v_t_kinds v_t_victims v_t_others v_t_faults v_t_toldKinds v_t_toldVictims v_t_toldOthers v_t_told v_t_ground v_t_ports v_t_scrambled v_t_places v_t_newSorts v_t_newCounts v_t_newOperations v_t_tape v_t_tapeSize v_t_place v_t_failed v_t_failedCount v_t_keeps v_t_some v_t_repairedRows v_t_repairedColumns v_t_proof n_t_sorts n_t_counts n_t_operations t_elements t_sorts_a t_counts_a t_operations_a cI cB cJ res) (va_A [(h_t, .inr (1, [.int t_thrown, v_t_words, v_t_bits, v_t_cells, v_t_sense, v_t_kinds, v_t_victims, v_t_others, v_t_faults, v_t_toldKinds, v_t_toldVictims, v_t_toldOthers, v_t_told, v_t_ground, v_t_ports, v_t_scrambled, v_t_places, .ref h_t_sorts, .ref h_t_counts, .ref h_t_operations, .int t_elements, v_t_newSorts, v_t_newCounts, v_t_newOperations, v_t_tape, v_t_tapeSize, v_t_place, v_t_failed, v_t_failedCount, v_t_keeps, v_t_some, v_t_repairedRows, v_t_repairedColumns, v_t_proof])), (h_t_sorts, .inl (cI, n_t_sorts, .inl t_sorts_a)), (h_t_counts, .inl (cI, n_t_counts, .inl t_counts_a)), (h_t_operations, .inl (cI, n_t_operations, .inl t_operations_a))] sz)) 0 0 (va_A [(h_t, .inr (1, [.int t_thrown, v_t_words, v_t_bits, v_t_cells, v_t_sense, v_t_kinds, v_t_victims, v_t_others, v_t_faults, v_t_toldKinds, v_t_toldVictims, v_t_toldOthers, v_t_told, v_t_ground, v_t_ports, v_t_scrambled, v_t_places, .ref h_t_sorts, .ref h_t_counts, .ref h_t_operations, .int t_elements, v_t_newSorts, v_t_newCounts, v_t_newOperations, v_t_tape, v_t_tapeSize, v_t_place, v_t_failed, v_t_failedCount, v_t_keeps, v_t_some, v_t_repairedRows, v_t_repairedColumns, v_t_proof])), (h_t_sorts, .inl (cI, n_t_sorts, .inl t_sorts_a)), (h_t_counts, .inl (cI, n_t_counts, .inl t_counts_a)), (h_t_operations, .inl (cI, n_t_operations, .inl t_operations_a))] sz) := by
  refine entW ⟨by decide +kernel, rfl⟩ fun p e s m below meth c C0 hP hD hsz ls hl => ?_
  subst hsz
  generalize hAe : va_A [(h_t, .inr (1, [.int t_thrown, v_t_words, v_t_bits, v_t_cells, v_t_sense, v_t_kinds, v_t_victims, v_t_others, v_t_faults, v_t_toldKinds, v_t_toldVictims, v_t_toldOthers, v_t_told, v_t_ground, v_t_ports, v_t_scrambled, v_t_places, .ref h_t_sorts, .ref h_t_counts, .ref h_t_operations, .int t_elements, v_t_newSorts, v_t_newCounts, v_t_newOperations, v_t_tape, v_t_tapeSize, v_t_place, v_t_failed, v_t_failedCount, v_t_keeps, v_t_some, v_t_repairedRows, v_t_repairedColumns, v_t_proof])), (h_t_sorts, .inl (cI, n_t_sorts, .inl t_sorts_a)), (h_t_counts, .inl (cI, n_t_counts, .inl t_counts_a)), (h_t_operations, .inl (cI, n_t_operations, .inl t_operations_a))] s.heap.size = A at hD ⊢
  have hA : ∀ q : Nat, s.heap.size ≤ q → A q := fun q h => by rw [← hAe]; exact Or.inr h
  clear hAe
  have hS : va_S A s.heap s.heap [] := va_S.rf
  have hl : lv_has ls 6 [(0, .ref h_t), (1, .int a1)] := hl
  obtain ⟨hx, hb, hml, hr, hlocks, hts, hown, hK, hin⟩ := id C0
  have hf : (((
  (if t_elements = 0 then
    (f_RF_machine_13 n_t_sorts n_t_counts n_t_operations t_elements t_sorts_a t_counts_a t_operations_a 1 a1)
  else
    (f_RF_machine_13 n_t_sorts n_t_counts n_t_operations t_elements t_sorts_a t_counts_a t_operations_a 0 a1)))) : Option (Int32 × Int32)) = some res := hf
  obtain ⟨H, hH⟩ : ∃ H, H = s.heap := ⟨_, rfl⟩
  obtain ⟨locs, hlo⟩ : ∃ x : List Loc, x = [] := ⟨_, rfl⟩
  rw [← hlo] at hS ⊢
  have hP : va_P D classes [(h_t, .inr (1, [.int t_thrown, v_t_words, v_t_bits, v_t_cells, v_t_sense, v_t_kinds, v_t_victims, v_t_others, v_t_faults, v_t_toldKinds, v_t_toldVictims, v_t_toldOthers, v_t_told, v_t_ground, v_t_ports, v_t_scrambled, v_t_places, .ref h_t_sorts, .ref h_t_counts, .ref h_t_operations, .int t_elements, v_t_newSorts, v_t_newCounts, v_t_newOperations, v_t_tape, v_t_tapeSize, v_t_place, v_t_failed, v_t_failedCount, v_t_keeps, v_t_some, v_t_repairedRows, v_t_repairedColumns, v_t_proof])), (h_t_sorts, .inl (cI, n_t_sorts, .inl t_sorts_a)), (h_t_counts, .inl (cI, n_t_counts, .inl t_counts_a)), (h_t_operations, .inl (cI, n_t_operations, .inl t_operations_a))] H := by rw [hH]; exact hP
  have hS : va_S A s.heap H locs := by rw [hH]; exact hS
  show W p l e rm_RF_machine s m _ below meth c s.heap locs 0 0 (MQ below (QW D (post_RF_machine h_t h_t_sorts h_t_counts h_t_operations v_t_words v_t_bits v_t_cells v_t_sense v_t_kinds v_t_victims v_t_others v_t_faults v_t_toldKinds v_t_toldVictims v_t_toldOthers v_t_told v_t_ground v_t_ports v_t_scrambled v_t_places v_t_newSorts v_t_newCounts v_t_newOperations v_t_tape v_t_tapeSize v_t_place v_t_failed v_t_failedCount v_t_keeps v_t_some v_t_repairedRows v_t_repairedColumns v_t_proof n_t_sorts n_t_counts n_t_operations t_elements t_sorts_a t_counts_a t_operations_a cI cB cJ res) A) _ s 0 0 A) (F0 m 0 ls [])
  refine wheap hH ?_
  clear hH hlo
  refine lv_aload_n hx hb d_RF_machine_0 rfl (lv_at hl 0 rfl) ?_
  refine lv_aload_n hx hb d_RF_machine_1 rfl (lv_at hl 0 rfl) ?_
  refine va_get (D := D) (ci := 1) (v := .int t_elements) (C := R_RF) (T := F_RF) (N := 34) hx hb hts i_RF hown hK.1 hP 0 rfl rfl 20 (by decide) (hts _ w_395) (fun _ h9 => h9) rfl d_RF_machine_2 ?_
  refine lv_if_ne (tgt := 12) hx hb d_RF_machine_5 (by decide) (fun cc5 => ?_) (fun cc5 => ?_)
  · have hf := ifF cc5 hf
    refine lv_iconst (v := 0) hx hb d_RF_machine_12 (by decide) ?_
    exact k_RF_machine_13 (s := s) C0 hA hf hP hD hS (lv_sub hl [0, 1] rfl)
  · have hf := ifT cc5 hf
    refine lv_iconst (v := 1) hx hb d_RF_machine_8 (by decide) ?_
    refine lv_goto (tgt := 13) hx hb d_RF_machine_9 (by decide) ?_
    exact k_RF_machine_13 (s := s) C0 hA hf hP hD hS (lv_sub hl [0, 1] rfl)
