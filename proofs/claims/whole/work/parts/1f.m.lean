def f_RF_failing_50 (n_t_failed : Nat) (t_failedCount : Int32) (t_failed_a : Nat → Int32) (s1 : Int32) (x1 : Int32) (x2 : Int32) : Option (Int32 × Int32) :=
  (if s1 ≤ 0 then
    (if x2 = 4 then
      some (t_failedCount, s1)
    else
      (if inB ((4 * x1) + x2) n_t_failed = true then
      some ((t_failed_a (Int32.toNatClampNeg ((4 * x1) + x2))), s1)
      else none))
  else
    some (0, s1))
def f_RF_failing_49 (n_t_failed : Nat) (t_failedCount : Int32) (t_failed_a : Nat → Int32) (x1 : Int32) (x2 : Int32) : Option (Int32 × Int32) :=
  (f_RF_failing_50 n_t_failed t_failedCount t_failed_a 1 x1 x2)
def f_RF_failing_45 (n_t_failed : Nat) (t_failedCount : Int32) (t_failed_a : Nat → Int32) (x1 : Int32) (x2 : Int32) : Option (Int32 × Int32) :=
  (f_RF_failing_50 n_t_failed t_failedCount t_failed_a 0 x1 x2)
def f_RF_failing_32 (n_t_failed : Nat) (t_failedCount : Int32) (t_failed_a : Nat → Int32) (x1 : Int32) (x2 : Int32) (x3 : Int32) : Option (Int32 × Int32) :=
  (if x3 = 0 then
    (f_RF_failing_49 n_t_failed t_failedCount t_failed_a x1 x2)
  else
    (if x2 < 0 then
      (f_RF_failing_49 n_t_failed t_failedCount t_failed_a x1 x2)
    else
      (if 3 < x2 then
        (f_RF_failing_49 n_t_failed t_failedCount t_failed_a x1 x2)
      else
        (f_RF_failing_45 n_t_failed t_failedCount t_failed_a x1 x2))))
def f_RF_failing_17 (n_t_failed : Nat) (t_failedCount : Int32) (t_failed_a : Nat → Int32) (s0 : Int32) (x1 : Int32) (x2 : Int32) : Option (Int32 × Int32) :=
  (if x2 = 4 then
    (if s0 = 0 then
      (if x1 = 0 then
        (f_RF_failing_45 n_t_failed t_failedCount t_failed_a x1 x2)
      else
        (f_RF_failing_32 n_t_failed t_failedCount t_failed_a x1 x2 s0))
    else
      (f_RF_failing_45 n_t_failed t_failedCount t_failed_a x1 x2))
  else
    (f_RF_failing_32 n_t_failed t_failedCount t_failed_a x1 x2 s0))
def f_RF_failing_16 (n_t_failed : Nat) (t_failedCount : Int32) (t_failed_a : Nat → Int32) (x1 : Int32) (x2 : Int32) : Option (Int32 × Int32) :=
  (f_RF_failing_17 n_t_failed t_failedCount t_failed_a 0 x1 x2)
def f_RF_failing (n_t_failed : Nat) (t_failedCount : Int32) (t_failed_a : Nat → Int32) (a1 : Int32) (a2 : Int32) : Option (Int32 × Int32) :=
  (if a1 < 0 then
    (f_RF_failing_16 n_t_failed t_failedCount t_failed_a a1 a2)
  else
    (if t_failedCount ≤ a1 then
      (f_RF_failing_16 n_t_failed t_failedCount t_failed_a a1 a2)
    else
      (f_RF_failing_17 n_t_failed t_failedCount t_failed_a 1 a1 a2)))
def post_RF_failing (h_t h_t_failed : Nat) (v_t_words v_t_bits v_t_cells v_t_sense v_t_kinds v_t_victims v_t_others v_t_faults v_t_toldKinds v_t_toldVictims v_t_toldOthers v_t_told v_t_ground v_t_ports v_t_scrambled v_t_places v_t_sorts v_t_counts v_t_operations v_t_elements v_t_newSorts v_t_newCounts v_t_newOperations v_t_tape v_t_tapeSize v_t_place v_t_keeps v_t_some v_t_repairedRows v_t_repairedColumns v_t_proof : Value) (n_t_failed : Nat) (t_failedCount : Int32) (t_failed_a : Nat → Int32) (cI cB cJ : ClassId) (res : Int32 × Int32) : Option Value → va_W → Prop := fun o ws' => o = some (.int res.1) ∧ ws' = [(h_t, .inr (1, [.int res.2, v_t_words, v_t_bits, v_t_cells, v_t_sense, v_t_kinds, v_t_victims, v_t_others, v_t_faults, v_t_toldKinds, v_t_toldVictims, v_t_toldOthers, v_t_told, v_t_ground, v_t_ports, v_t_scrambled, v_t_places, v_t_sorts, v_t_counts, v_t_operations, v_t_elements, v_t_newSorts, v_t_newCounts, v_t_newOperations, v_t_tape, v_t_tapeSize, v_t_place, .ref h_t_failed, .int t_failedCount, v_t_keeps, v_t_some, v_t_repairedRows, v_t_repairedColumns, v_t_proof])), (h_t_failed, .inl (cI, n_t_failed, .inl t_failed_a))]
abbrev rm_RF_failing : Room := { frames := 0, cells := 0, slots := 0, locals := 0 }
set_option maxHeartbeats 4000000 in
set_option maxRecDepth 100000 in
theorem k_RF_failing_50 {p : Program} {l : Launch} {e : Env} {s : State} {m : MethodId} {args : Array Value} {below : List Frame} {meth : Method} {c : Code} {D : va_G} {cI cB cJ : ClassId} {A : Nat → Prop} (C0 : CX p s m args meth c D [(cI, .int), (cB, .byte), (cJ, .long)] R_RF b_RF_failing 4 (some .int) "failing") (hA : ∀ q, s.heap.size ≤ q → A q) {h_t h_t_failed : Nat} {v_t_words v_t_bits v_t_cells v_t_sense v_t_kinds v_t_victims v_t_others v_t_faults v_t_toldKinds v_t_toldVictims v_t_toldOthers v_t_told v_t_ground v_t_ports v_t_scrambled v_t_places v_t_sorts v_t_counts v_t_operations v_t_elements v_t_newSorts v_t_newCounts v_t_newOperations v_t_tape v_t_tapeSize v_t_place v_t_keeps v_t_some v_t_repairedRows v_t_repairedColumns v_t_proof : Value} {res : Int32 × Int32} {n_t_failed : Nat} {t_thrown : Int32} {t_failedCount : Int32} {t_failed_a : Nat → Int32} {s1 : Int32} {x1 : Int32} {x2 : Int32}
    (hf : f_RF_failing_50 n_t_failed t_failedCount t_failed_a s1 x1 x2 = some res) {H : Heap} {locs : List Loc} {ls : Array Slot} (hP : va_P D classes [(h_t, .inr (1, [.int t_thrown, v_t_words, v_t_bits, v_t_cells, v_t_sense, v_t_kinds, v_t_victims, v_t_others, v_t_faults, v_t_toldKinds, v_t_toldVictims, v_t_toldOthers, v_t_told, v_t_ground, v_t_ports, v_t_scrambled, v_t_places, v_t_sorts, v_t_counts, v_t_operations, v_t_elements, v_t_newSorts, v_t_newCounts, v_t_newOperations, v_t_tape, v_t_tapeSize, v_t_place, .ref h_t_failed, .int t_failedCount, v_t_keeps, v_t_some, v_t_repairedRows, v_t_repairedColumns, v_t_proof])), (h_t_failed, .inl (cI, n_t_failed, .inl t_failed_a))] H) (hD : va_D A [(h_t, .inr (1, [.int t_thrown, v_t_words, v_t_bits, v_t_cells, v_t_sense, v_t_kinds, v_t_victims, v_t_others, v_t_faults, v_t_toldKinds, v_t_toldVictims, v_t_toldOthers, v_t_told, v_t_ground, v_t_ports, v_t_scrambled, v_t_places, v_t_sorts, v_t_counts, v_t_operations, v_t_elements, v_t_newSorts, v_t_newCounts, v_t_newOperations, v_t_tape, v_t_tapeSize, v_t_place, .ref h_t_failed, .int t_failedCount, v_t_keeps, v_t_some, v_t_repairedRows, v_t_repairedColumns, v_t_proof])), (h_t_failed, .inl (cI, n_t_failed, .inl t_failed_a))]) (hS : va_S A s.heap H locs) (hl : lv_has ls 4 [(0, .ref h_t), (1, .int x1), (2, .int x2)]) : W p l e rm_RF_failing s m args below meth c H locs 0 0 (MQ below (QW D (post_RF_failing h_t h_t_failed v_t_words v_t_bits v_t_cells v_t_sense v_t_kinds v_t_victims v_t_others v_t_faults v_t_toldKinds v_t_toldVictims v_t_toldOthers v_t_told v_t_ground v_t_ports v_t_scrambled v_t_places v_t_sorts v_t_counts v_t_operations v_t_elements v_t_newSorts v_t_newCounts v_t_newOperations v_t_tape v_t_tapeSize v_t_place v_t_keeps v_t_some v_t_repairedRows v_t_repairedColumns v_t_proof n_t_failed t_failedCount t_failed_a cI cB cJ res) A) args s 0 0 A) (F0 m 50 ls [.int s1, .ref h_t]) := by
  obtain ⟨hx, hb, hml, hr, hlocks, hts, hown, hK, hin⟩ := id C0
  have hf : (((
  (if s1 ≤ 0 then
    (if x2 = 4 then
      some (t_failedCount, s1)
    else
      (if inB ((4 * x1) + x2) n_t_failed = true then
      some ((t_failed_a (Int32.toNatClampNeg ((4 * x1) + x2))), s1)
      else none))
  else
    some (0, s1)))) : Option (Int32 × Int32)) = some res := hf
  refine va_put (D := D) (ci := 1) (v := .int s1) (ty := .int) (C := R_RF) (T := F_RF) (N := 34) hx hb hts i_RF t_RF t_RF_ok n_RF hown hK.1 hP hD hS 0 rfl rfl 0 (by decide) (hts _ w_387) (fun _ h9 => h9) rfl (t_RF_ok 0 (by decide)) rfl rfl (Nat.le_of_ble_eq_true rfl) d_RF_failing_50 (fun H locs hP hD hS => ?_)
  have hP : va_P D classes [(h_t, .inr (1, [.int s1, v_t_words, v_t_bits, v_t_cells, v_t_sense, v_t_kinds, v_t_victims, v_t_others, v_t_faults, v_t_toldKinds, v_t_toldVictims, v_t_toldOthers, v_t_told, v_t_ground, v_t_ports, v_t_scrambled, v_t_places, v_t_sorts, v_t_counts, v_t_operations, v_t_elements, v_t_newSorts, v_t_newCounts, v_t_newOperations, v_t_tape, v_t_tapeSize, v_t_place, .ref h_t_failed, .int t_failedCount, v_t_keeps, v_t_some, v_t_repairedRows, v_t_repairedColumns, v_t_proof])), (h_t_failed, .inl (cI, n_t_failed, .inl t_failed_a))] H := hP
  have hD : va_D A [(h_t, .inr (1, [.int s1, v_t_words, v_t_bits, v_t_cells, v_t_sense, v_t_kinds, v_t_victims, v_t_others, v_t_faults, v_t_toldKinds, v_t_toldVictims, v_t_toldOthers, v_t_told, v_t_ground, v_t_ports, v_t_scrambled, v_t_places, v_t_sorts, v_t_counts, v_t_operations, v_t_elements, v_t_newSorts, v_t_newCounts, v_t_newOperations, v_t_tape, v_t_tapeSize, v_t_place, .ref h_t_failed, .int t_failedCount, v_t_keeps, v_t_some, v_t_repairedRows, v_t_repairedColumns, v_t_proof])), (h_t_failed, .inl (cI, n_t_failed, .inl t_failed_a))] := hD
  refine lv_aload_n hx hb d_RF_failing_53 rfl (lv_at hl 0 rfl) ?_
  refine va_get (D := D) (ci := 1) (v := .int s1) (C := R_RF) (T := F_RF) (N := 34) hx hb hts i_RF hown hK.1 hP 0 rfl rfl 0 (by decide) (hts _ w_387) (fun _ h9 => h9) rfl d_RF_failing_54 ?_
  refine lv_if_le (tgt := 64) hx hb d_RF_failing_57 (by decide) (fun cc57 => ?_) (fun cc57 => ?_)
  · have hf := ifT cc57 hf
    refine lv_iload_n hx hb d_RF_failing_64 rfl (lv_at hl 2 rfl) ?_
    refine lv_iconst (v := 4) hx hb d_RF_failing_65 (by decide) ?_
    refine lv_icmp_ne (tgt := 76) hx hb d_RF_failing_66 (by decide) (fun cc66 => ?_) (fun cc66 => ?_)
    · have hf := ifF cc66 hf
      refine lv_aload_n hx hb d_RF_failing_76 rfl (lv_at hl 0 rfl) ?_
      refine va_get (D := D) (ci := 1) (v := .ref h_t_failed) (C := R_RF) (T := F_RF) (N := 34) hx hb hts i_RF hown hK.1 hP 0 rfl rfl 27 (by decide) (hts _ w_383) (fun _ h9 => h9) rfl d_RF_failing_77 ?_
      refine lv_iconst (v := 4) hx hb d_RF_failing_80 (by decide) ?_
      refine lv_iload_n hx hb d_RF_failing_81 rfl (lv_at hl 1 rfl) ?_
      refine lv_imul hx hb d_RF_failing_82 ?_
      refine lv_iload_n hx hb d_RF_failing_83 rfl (lv_at hl 2 rfl) ?_
      refine lv_iadd hx hb d_RF_failing_84 ?_
      obtain ⟨hin1, hf⟩ := ifG hf
      refine va_iald hx hb hK.1 hP 1 0 rfl rfl (inB_in hin1) d_RF_failing_85 ?_
      obtain rfl := Option.some.inj hf
      exact ret_i hx hb hr hlocks hP hD hS ⟨rfl, rfl⟩ d_RF_failing_86
    · have hf := ifT cc66 hf
      refine lv_aload_n hx hb d_RF_failing_69 rfl (lv_at hl 0 rfl) ?_
      refine va_get (D := D) (ci := 1) (v := .int t_failedCount) (C := R_RF) (T := F_RF) (N := 34) hx hb hts i_RF hown hK.1 hP 0 rfl rfl 28 (by decide) (hts _ w_416) (fun _ h9 => h9) rfl d_RF_failing_70 ?_
      refine lv_goto (tgt := 86) hx hb d_RF_failing_73 (by decide) ?_
      obtain rfl := Option.some.inj hf
      exact ret_i hx hb hr hlocks hP hD hS ⟨rfl, rfl⟩ d_RF_failing_86
  · have hf := ifF cc57 hf
    refine lv_iconst (v := 0) hx hb d_RF_failing_60 (by decide) ?_
    refine lv_goto (tgt := 86) hx hb d_RF_failing_61 (by decide) ?_
    obtain rfl := Option.some.inj hf
    exact ret_i hx hb hr hlocks hP hD hS ⟨rfl, rfl⟩ d_RF_failing_86
set_option maxHeartbeats 4000000 in
set_option maxRecDepth 100000 in
theorem k_RF_failing_49 {p : Program} {l : Launch} {e : Env} {s : State} {m : MethodId} {args : Array Value} {below : List Frame} {meth : Method} {c : Code} {D : va_G} {cI cB cJ : ClassId} {A : Nat → Prop} (C0 : CX p s m args meth c D [(cI, .int), (cB, .byte), (cJ, .long)] R_RF b_RF_failing 4 (some .int) "failing") (hA : ∀ q, s.heap.size ≤ q → A q) {h_t h_t_failed : Nat} {v_t_words v_t_bits v_t_cells v_t_sense v_t_kinds v_t_victims v_t_others v_t_faults v_t_toldKinds v_t_toldVictims v_t_toldOthers v_t_told v_t_ground v_t_ports v_t_scrambled v_t_places v_t_sorts v_t_counts v_t_operations v_t_elements v_t_newSorts v_t_newCounts v_t_newOperations v_t_tape v_t_tapeSize v_t_place v_t_keeps v_t_some v_t_repairedRows v_t_repairedColumns v_t_proof : Value} {res : Int32 × Int32} {n_t_failed : Nat} {t_thrown : Int32} {t_failedCount : Int32} {t_failed_a : Nat → Int32} {x1 : Int32} {x2 : Int32}
    (hf : f_RF_failing_49 n_t_failed t_failedCount t_failed_a x1 x2 = some res) {H : Heap} {locs : List Loc} {ls : Array Slot} (hP : va_P D classes [(h_t, .inr (1, [.int t_thrown, v_t_words, v_t_bits, v_t_cells, v_t_sense, v_t_kinds, v_t_victims, v_t_others, v_t_faults, v_t_toldKinds, v_t_toldVictims, v_t_toldOthers, v_t_told, v_t_ground, v_t_ports, v_t_scrambled, v_t_places, v_t_sorts, v_t_counts, v_t_operations, v_t_elements, v_t_newSorts, v_t_newCounts, v_t_newOperations, v_t_tape, v_t_tapeSize, v_t_place, .ref h_t_failed, .int t_failedCount, v_t_keeps, v_t_some, v_t_repairedRows, v_t_repairedColumns, v_t_proof])), (h_t_failed, .inl (cI, n_t_failed, .inl t_failed_a))] H) (hD : va_D A [(h_t, .inr (1, [.int t_thrown, v_t_words, v_t_bits, v_t_cells, v_t_sense, v_t_kinds, v_t_victims, v_t_others, v_t_faults, v_t_toldKinds, v_t_toldVictims, v_t_toldOthers, v_t_told, v_t_ground, v_t_ports, v_t_scrambled, v_t_places, v_t_sorts, v_t_counts, v_t_operations, v_t_elements, v_t_newSorts, v_t_newCounts, v_t_newOperations, v_t_tape, v_t_tapeSize, v_t_place, .ref h_t_failed, .int t_failedCount, v_t_keeps, v_t_some, v_t_repairedRows, v_t_repairedColumns, v_t_proof])), (h_t_failed, .inl (cI, n_t_failed, .inl t_failed_a))]) (hS : va_S A s.heap H locs) (hl : lv_has ls 4 [(0, .ref h_t), (1, .int x1), (2, .int x2)]) : W p l e rm_RF_failing s m args below meth c H locs 0 0 (MQ below (QW D (post_RF_failing h_t h_t_failed v_t_words v_t_bits v_t_cells v_t_sense v_t_kinds v_t_victims v_t_others v_t_faults v_t_toldKinds v_t_toldVictims v_t_toldOthers v_t_told v_t_ground v_t_ports v_t_scrambled v_t_places v_t_sorts v_t_counts v_t_operations v_t_elements v_t_newSorts v_t_newCounts v_t_newOperations v_t_tape v_t_tapeSize v_t_place v_t_keeps v_t_some v_t_repairedRows v_t_repairedColumns v_t_proof n_t_failed t_failedCount t_failed_a cI cB cJ res) A) args s 0 0 A) (F0 m 49 ls [.ref h_t]) := by
  obtain ⟨hx, hb, hml, hr, hlocks, hts, hown, hK, hin⟩ := id C0
  have hf : (((
  (f_RF_failing_50 n_t_failed t_failedCount t_failed_a 1 x1 x2))) : Option (Int32 × Int32)) = some res := hf
  refine lv_iconst (v := 1) hx hb d_RF_failing_49 (by decide) ?_
  exact k_RF_failing_50 (s := s) C0 hA hf hP hD hS (lv_sub hl [0, 1, 2] rfl)
set_option maxHeartbeats 4000000 in
set_option maxRecDepth 100000 in
theorem k_RF_failing_45 {p : Program} {l : Launch} {e : Env} {s : State} {m : MethodId} {args : Array Value} {below : List Frame} {meth : Method} {c : Code} {D : va_G} {cI cB cJ : ClassId} {A : Nat → Prop} (C0 : CX p s m args meth c D [(cI, .int), (cB, .byte), (cJ, .long)] R_RF b_RF_failing 4 (some .int) "failing") (hA : ∀ q, s.heap.size ≤ q → A q) {h_t h_t_failed : Nat} {v_t_words v_t_bits v_t_cells v_t_sense v_t_kinds v_t_victims v_t_others v_t_faults v_t_toldKinds v_t_toldVictims v_t_toldOthers v_t_told v_t_ground v_t_ports v_t_scrambled v_t_places v_t_sorts v_t_counts v_t_operations v_t_elements v_t_newSorts v_t_newCounts v_t_newOperations v_t_tape v_t_tapeSize v_t_place v_t_keeps v_t_some v_t_repairedRows v_t_repairedColumns v_t_proof : Value} {res : Int32 × Int32} {n_t_failed : Nat} {t_thrown : Int32} {t_failedCount : Int32} {t_failed_a : Nat → Int32} {x1 : Int32} {x2 : Int32}
    (hf : f_RF_failing_45 n_t_failed t_failedCount t_failed_a x1 x2 = some res) {H : Heap} {locs : List Loc} {ls : Array Slot} (hP : va_P D classes [(h_t, .inr (1, [.int t_thrown, v_t_words, v_t_bits, v_t_cells, v_t_sense, v_t_kinds, v_t_victims, v_t_others, v_t_faults, v_t_toldKinds, v_t_toldVictims, v_t_toldOthers, v_t_told, v_t_ground, v_t_ports, v_t_scrambled, v_t_places, v_t_sorts, v_t_counts, v_t_operations, v_t_elements, v_t_newSorts, v_t_newCounts, v_t_newOperations, v_t_tape, v_t_tapeSize, v_t_place, .ref h_t_failed, .int t_failedCount, v_t_keeps, v_t_some, v_t_repairedRows, v_t_repairedColumns, v_t_proof])), (h_t_failed, .inl (cI, n_t_failed, .inl t_failed_a))] H) (hD : va_D A [(h_t, .inr (1, [.int t_thrown, v_t_words, v_t_bits, v_t_cells, v_t_sense, v_t_kinds, v_t_victims, v_t_others, v_t_faults, v_t_toldKinds, v_t_toldVictims, v_t_toldOthers, v_t_told, v_t_ground, v_t_ports, v_t_scrambled, v_t_places, v_t_sorts, v_t_counts, v_t_operations, v_t_elements, v_t_newSorts, v_t_newCounts, v_t_newOperations, v_t_tape, v_t_tapeSize, v_t_place, .ref h_t_failed, .int t_failedCount, v_t_keeps, v_t_some, v_t_repairedRows, v_t_repairedColumns, v_t_proof])), (h_t_failed, .inl (cI, n_t_failed, .inl t_failed_a))]) (hS : va_S A s.heap H locs) (hl : lv_has ls 4 [(0, .ref h_t), (1, .int x1), (2, .int x2)]) : W p l e rm_RF_failing s m args below meth c H locs 0 0 (MQ below (QW D (post_RF_failing h_t h_t_failed v_t_words v_t_bits v_t_cells v_t_sense v_t_kinds v_t_victims v_t_others v_t_faults v_t_toldKinds v_t_toldVictims v_t_toldOthers v_t_told v_t_ground v_t_ports v_t_scrambled v_t_places v_t_sorts v_t_counts v_t_operations v_t_elements v_t_newSorts v_t_newCounts v_t_newOperations v_t_tape v_t_tapeSize v_t_place v_t_keeps v_t_some v_t_repairedRows v_t_repairedColumns v_t_proof n_t_failed t_failedCount t_failed_a cI cB cJ res) A) args s 0 0 A) (F0 m 45 ls [.ref h_t]) := by
  obtain ⟨hx, hb, hml, hr, hlocks, hts, hown, hK, hin⟩ := id C0
  have hf : (((
  (f_RF_failing_50 n_t_failed t_failedCount t_failed_a 0 x1 x2))) : Option (Int32 × Int32)) = some res := hf
  refine lv_iconst (v := 0) hx hb d_RF_failing_45 (by decide) ?_
  refine lv_goto (tgt := 50) hx hb d_RF_failing_46 (by decide) ?_
  exact k_RF_failing_50 (s := s) C0 hA hf hP hD hS (lv_sub hl [0, 1, 2] rfl)
set_option maxHeartbeats 4000000 in
set_option maxRecDepth 100000 in
theorem k_RF_failing_32 {p : Program} {l : Launch} {e : Env} {s : State} {m : MethodId} {args : Array Value} {below : List Frame} {meth : Method} {c : Code} {D : va_G} {cI cB cJ : ClassId} {A : Nat → Prop} (C0 : CX p s m args meth c D [(cI, .int), (cB, .byte), (cJ, .long)] R_RF b_RF_failing 4 (some .int) "failing") (hA : ∀ q, s.heap.size ≤ q → A q) {h_t h_t_failed : Nat} {v_t_words v_t_bits v_t_cells v_t_sense v_t_kinds v_t_victims v_t_others v_t_faults v_t_toldKinds v_t_toldVictims v_t_toldOthers v_t_told v_t_ground v_t_ports v_t_scrambled v_t_places v_t_sorts v_t_counts v_t_operations v_t_elements v_t_newSorts v_t_newCounts v_t_newOperations v_t_tape v_t_tapeSize v_t_place v_t_keeps v_t_some v_t_repairedRows v_t_repairedColumns v_t_proof : Value} {res : Int32 × Int32} {n_t_failed : Nat} {t_thrown : Int32} {t_failedCount : Int32} {t_failed_a : Nat → Int32} {x1 : Int32} {x2 : Int32} {x3 : Int32}
    (hf : f_RF_failing_32 n_t_failed t_failedCount t_failed_a x1 x2 x3 = some res) {H : Heap} {locs : List Loc} {ls : Array Slot} (hP : va_P D classes [(h_t, .inr (1, [.int t_thrown, v_t_words, v_t_bits, v_t_cells, v_t_sense, v_t_kinds, v_t_victims, v_t_others, v_t_faults, v_t_toldKinds, v_t_toldVictims, v_t_toldOthers, v_t_told, v_t_ground, v_t_ports, v_t_scrambled, v_t_places, v_t_sorts, v_t_counts, v_t_operations, v_t_elements, v_t_newSorts, v_t_newCounts, v_t_newOperations, v_t_tape, v_t_tapeSize, v_t_place, .ref h_t_failed, .int t_failedCount, v_t_keeps, v_t_some, v_t_repairedRows, v_t_repairedColumns, v_t_proof])), (h_t_failed, .inl (cI, n_t_failed, .inl t_failed_a))] H) (hD : va_D A [(h_t, .inr (1, [.int t_thrown, v_t_words, v_t_bits, v_t_cells, v_t_sense, v_t_kinds, v_t_victims, v_t_others, v_t_faults, v_t_toldKinds, v_t_toldVictims, v_t_toldOthers, v_t_told, v_t_ground, v_t_ports, v_t_scrambled, v_t_places, v_t_sorts, v_t_counts, v_t_operations, v_t_elements, v_t_newSorts, v_t_newCounts, v_t_newOperations, v_t_tape, v_t_tapeSize, v_t_place, .ref h_t_failed, .int t_failedCount, v_t_keeps, v_t_some, v_t_repairedRows, v_t_repairedColumns, v_t_proof])), (h_t_failed, .inl (cI, n_t_failed, .inl t_failed_a))]) (hS : va_S A s.heap H locs) (hl : lv_has ls 4 [(0, .ref h_t), (1, .int x1), (2, .int x2), (3, .int x3)]) : W p l e rm_RF_failing s m args below meth c H locs 0 0 (MQ below (QW D (post_RF_failing h_t h_t_failed v_t_words v_t_bits v_t_cells v_t_sense v_t_kinds v_t_victims v_t_others v_t_faults v_t_toldKinds v_t_toldVictims v_t_toldOthers v_t_told v_t_ground v_t_ports v_t_scrambled v_t_places v_t_sorts v_t_counts v_t_operations v_t_elements v_t_newSorts v_t_newCounts v_t_newOperations v_t_tape v_t_tapeSize v_t_place v_t_keeps v_t_some v_t_repairedRows v_t_repairedColumns v_t_proof n_t_failed t_failedCount t_failed_a cI cB cJ res) A) args s 0 0 A) (F0 m 32 ls [.ref h_t]) := by
  obtain ⟨hx, hb, hml, hr, hlocks, hts, hown, hK, hin⟩ := id C0
  have hf : (((
  (if x3 = 0 then
    (f_RF_failing_49 n_t_failed t_failedCount t_failed_a x1 x2)
  else
    (if x2 < 0 then
      (f_RF_failing_49 n_t_failed t_failedCount t_failed_a x1 x2)
    else
      (if 3 < x2 then
        (f_RF_failing_49 n_t_failed t_failedCount t_failed_a x1 x2)
      else
        (f_RF_failing_45 n_t_failed t_failedCount t_failed_a x1 x2)))))) : Option (Int32 × Int32)) = some res := hf
  refine lv_iload_n hx hb d_RF_failing_32 rfl (lv_at hl 3 rfl) ?_
  refine lv_if_eq (tgt := 49) hx hb d_RF_failing_33 (by decide) (fun cc33 => ?_) (fun cc33 => ?_)
  · have hf := ifT cc33 hf
    exact k_RF_failing_49 (s := s) C0 hA hf hP hD hS (lv_sub hl [0, 1, 2] rfl)
  · have hf := ifF cc33 hf
    refine lv_iload_n hx hb d_RF_failing_36 rfl (lv_at hl 2 rfl) ?_
    refine lv_if_lt (tgt := 49) hx hb d_RF_failing_37 (by decide) (fun cc37 => ?_) (fun cc37 => ?_)
    · have hf := ifT cc37 hf
      exact k_RF_failing_49 (s := s) C0 hA hf hP hD hS (lv_sub hl [0, 1, 2] rfl)
    · have hf := ifF cc37 hf
      refine lv_iload_n hx hb d_RF_failing_40 rfl (lv_at hl 2 rfl) ?_
      refine lv_iconst (v := 3) hx hb d_RF_failing_41 (by decide) ?_
      refine lv_icmp_gt (tgt := 49) hx hb d_RF_failing_42 (by decide) (fun cc42 => ?_) (fun cc42 => ?_)
      · have hf := ifT cc42 hf
        exact k_RF_failing_49 (s := s) C0 hA hf hP hD hS (lv_sub hl [0, 1, 2] rfl)
      · have hf := ifF cc42 hf
        exact k_RF_failing_45 (s := s) C0 hA hf hP hD hS (lv_sub hl [0, 1, 2] rfl)
set_option maxHeartbeats 4000000 in
set_option maxRecDepth 100000 in
theorem k_RF_failing_17 {p : Program} {l : Launch} {e : Env} {s : State} {m : MethodId} {args : Array Value} {below : List Frame} {meth : Method} {c : Code} {D : va_G} {cI cB cJ : ClassId} {A : Nat → Prop} (C0 : CX p s m args meth c D [(cI, .int), (cB, .byte), (cJ, .long)] R_RF b_RF_failing 4 (some .int) "failing") (hA : ∀ q, s.heap.size ≤ q → A q) {h_t h_t_failed : Nat} {v_t_words v_t_bits v_t_cells v_t_sense v_t_kinds v_t_victims v_t_others v_t_faults v_t_toldKinds v_t_toldVictims v_t_toldOthers v_t_told v_t_ground v_t_ports v_t_scrambled v_t_places v_t_sorts v_t_counts v_t_operations v_t_elements v_t_newSorts v_t_newCounts v_t_newOperations v_t_tape v_t_tapeSize v_t_place v_t_keeps v_t_some v_t_repairedRows v_t_repairedColumns v_t_proof : Value} {res : Int32 × Int32} {n_t_failed : Nat} {t_thrown : Int32} {t_failedCount : Int32} {t_failed_a : Nat → Int32} {s0 : Int32} {x1 : Int32} {x2 : Int32}
    (hf : f_RF_failing_17 n_t_failed t_failedCount t_failed_a s0 x1 x2 = some res) {H : Heap} {locs : List Loc} {ls : Array Slot} (hP : va_P D classes [(h_t, .inr (1, [.int t_thrown, v_t_words, v_t_bits, v_t_cells, v_t_sense, v_t_kinds, v_t_victims, v_t_others, v_t_faults, v_t_toldKinds, v_t_toldVictims, v_t_toldOthers, v_t_told, v_t_ground, v_t_ports, v_t_scrambled, v_t_places, v_t_sorts, v_t_counts, v_t_operations, v_t_elements, v_t_newSorts, v_t_newCounts, v_t_newOperations, v_t_tape, v_t_tapeSize, v_t_place, .ref h_t_failed, .int t_failedCount, v_t_keeps, v_t_some, v_t_repairedRows, v_t_repairedColumns, v_t_proof])), (h_t_failed, .inl (cI, n_t_failed, .inl t_failed_a))] H) (hD : va_D A [(h_t, .inr (1, [.int t_thrown, v_t_words, v_t_bits, v_t_cells, v_t_sense, v_t_kinds, v_t_victims, v_t_others, v_t_faults, v_t_toldKinds, v_t_toldVictims, v_t_toldOthers, v_t_told, v_t_ground, v_t_ports, v_t_scrambled, v_t_places, v_t_sorts, v_t_counts, v_t_operations, v_t_elements, v_t_newSorts, v_t_newCounts, v_t_newOperations, v_t_tape, v_t_tapeSize, v_t_place, .ref h_t_failed, .int t_failedCount, v_t_keeps, v_t_some, v_t_repairedRows, v_t_repairedColumns, v_t_proof])), (h_t_failed, .inl (cI, n_t_failed, .inl t_failed_a))]) (hS : va_S A s.heap H locs) (hl : lv_has ls 4 [(0, .ref h_t), (1, .int x1), (2, .int x2)]) : W p l e rm_RF_failing s m args below meth c H locs 0 0 (MQ below (QW D (post_RF_failing h_t h_t_failed v_t_words v_t_bits v_t_cells v_t_sense v_t_kinds v_t_victims v_t_others v_t_faults v_t_toldKinds v_t_toldVictims v_t_toldOthers v_t_told v_t_ground v_t_ports v_t_scrambled v_t_places v_t_sorts v_t_counts v_t_operations v_t_elements v_t_newSorts v_t_newCounts v_t_newOperations v_t_tape v_t_tapeSize v_t_place v_t_keeps v_t_some v_t_repairedRows v_t_repairedColumns v_t_proof n_t_failed t_failedCount t_failed_a cI cB cJ res) A) args s 0 0 A) (F0 m 17 ls [.int s0]) := by
  obtain ⟨hx, hb, hml, hr, hlocks, hts, hown, hK, hin⟩ := id C0
  have hf : (((
  (if x2 = 4 then
    (if s0 = 0 then
      (if x1 = 0 then
        (f_RF_failing_45 n_t_failed t_failedCount t_failed_a x1 x2)
      else
        (f_RF_failing_32 n_t_failed t_failedCount t_failed_a x1 x2 s0))
    else
      (f_RF_failing_45 n_t_failed t_failedCount t_failed_a x1 x2))
  else
    (f_RF_failing_32 n_t_failed t_failedCount t_failed_a x1 x2 s0)))) : Option (Int32 × Int32)) = some res := hf
  refine lv_istore_n (lv' := [(3, .int s0), (0, .ref h_t), (1, .int x1), (2, .int x2)]) hx hb d_RF_failing_17 rfl hl (by decide) rfl (fun ls hl => ?_)
  refine lv_aload_n hx hb d_RF_failing_18 rfl (lv_at hl 1 rfl) ?_
  refine lv_iload_n hx hb d_RF_failing_19 rfl (lv_at hl 3 rfl) ?_
  refine lv_iconst (v := 4) hx hb d_RF_failing_20 (by decide) ?_
  refine lv_icmp_ne (tgt := 32) hx hb d_RF_failing_21 (by decide) (fun cc21 => ?_) (fun cc21 => ?_)
  · have hf := ifF cc21 hf
    exact k_RF_failing_32 (s := s) C0 hA hf hP hD hS (lv_sub hl [1, 2, 3, 0] rfl)
  · have hf := ifT cc21 hf
    refine lv_iload_n hx hb d_RF_failing_24 rfl (lv_at hl 0 rfl) ?_
    refine lv_if_ne (tgt := 45) hx hb d_RF_failing_25 (by decide) (fun cc25 => ?_) (fun cc25 => ?_)
    · have hf := ifF cc25 hf
      exact k_RF_failing_45 (s := s) C0 hA hf hP hD hS (lv_sub hl [1, 2, 3] rfl)
    · have hf := ifT cc25 hf
      refine lv_iload_n hx hb d_RF_failing_28 rfl (lv_at hl 2 rfl) ?_
      refine lv_if_eq (tgt := 45) hx hb d_RF_failing_29 (by decide) (fun cc29 => ?_) (fun cc29 => ?_)
      · have hf := ifT cc29 hf
        exact k_RF_failing_45 (s := s) C0 hA hf hP hD hS (lv_sub hl [1, 2, 3] rfl)
      · have hf := ifF cc29 hf
        exact k_RF_failing_32 (s := s) C0 hA hf hP hD hS (lv_sub hl [1, 2, 3, 0] rfl)
set_option maxHeartbeats 4000000 in
set_option maxRecDepth 100000 in
theorem k_RF_failing_16 {p : Program} {l : Launch} {e : Env} {s : State} {m : MethodId} {args : Array Value} {below : List Frame} {meth : Method} {c : Code} {D : va_G} {cI cB cJ : ClassId} {A : Nat → Prop} (C0 : CX p s m args meth c D [(cI, .int), (cB, .byte), (cJ, .long)] R_RF b_RF_failing 4 (some .int) "failing") (hA : ∀ q, s.heap.size ≤ q → A q) {h_t h_t_failed : Nat} {v_t_words v_t_bits v_t_cells v_t_sense v_t_kinds v_t_victims v_t_others v_t_faults v_t_toldKinds v_t_toldVictims v_t_toldOthers v_t_told v_t_ground v_t_ports v_t_scrambled v_t_places v_t_sorts v_t_counts v_t_operations v_t_elements v_t_newSorts v_t_newCounts v_t_newOperations v_t_tape v_t_tapeSize v_t_place v_t_keeps v_t_some v_t_repairedRows v_t_repairedColumns v_t_proof : Value} {res : Int32 × Int32} {n_t_failed : Nat} {t_thrown : Int32} {t_failedCount : Int32} {t_failed_a : Nat → Int32} {x1 : Int32} {x2 : Int32}
    (hf : f_RF_failing_16 n_t_failed t_failedCount t_failed_a x1 x2 = some res) {H : Heap} {locs : List Loc} {ls : Array Slot} (hP : va_P D classes [(h_t, .inr (1, [.int t_thrown, v_t_words, v_t_bits, v_t_cells, v_t_sense, v_t_kinds, v_t_victims, v_t_others, v_t_faults, v_t_toldKinds, v_t_toldVictims, v_t_toldOthers, v_t_told, v_t_ground, v_t_ports, v_t_scrambled, v_t_places, v_t_sorts, v_t_counts, v_t_operations, v_t_elements, v_t_newSorts, v_t_newCounts, v_t_newOperations, v_t_tape, v_t_tapeSize, v_t_place, .ref h_t_failed, .int t_failedCount, v_t_keeps, v_t_some, v_t_repairedRows, v_t_repairedColumns, v_t_proof])), (h_t_failed, .inl (cI, n_t_failed, .inl t_failed_a))] H) (hD : va_D A [(h_t, .inr (1, [.int t_thrown, v_t_words, v_t_bits, v_t_cells, v_t_sense, v_t_kinds, v_t_victims, v_t_others, v_t_faults, v_t_toldKinds, v_t_toldVictims, v_t_toldOthers, v_t_told, v_t_ground, v_t_ports, v_t_scrambled, v_t_places, v_t_sorts, v_t_counts, v_t_operations, v_t_elements, v_t_newSorts, v_t_newCounts, v_t_newOperations, v_t_tape, v_t_tapeSize, v_t_place, .ref h_t_failed, .int t_failedCount, v_t_keeps, v_t_some, v_t_repairedRows, v_t_repairedColumns, v_t_proof])), (h_t_failed, .inl (cI, n_t_failed, .inl t_failed_a))]) (hS : va_S A s.heap H locs) (hl : lv_has ls 4 [(0, .ref h_t), (1, .int x1), (2, .int x2)]) : W p l e rm_RF_failing s m args below meth c H locs 0 0 (MQ below (QW D (post_RF_failing h_t h_t_failed v_t_words v_t_bits v_t_cells v_t_sense v_t_kinds v_t_victims v_t_others v_t_faults v_t_toldKinds v_t_toldVictims v_t_toldOthers v_t_told v_t_ground v_t_ports v_t_scrambled v_t_places v_t_sorts v_t_counts v_t_operations v_t_elements v_t_newSorts v_t_newCounts v_t_newOperations v_t_tape v_t_tapeSize v_t_place v_t_keeps v_t_some v_t_repairedRows v_t_repairedColumns v_t_proof n_t_failed t_failedCount t_failed_a cI cB cJ res) A) args s 0 0 A) (F0 m 16 ls []) := by
  obtain ⟨hx, hb, hml, hr, hlocks, hts, hown, hK, hin⟩ := id C0
  have hf : (((
  (f_RF_failing_17 n_t_failed t_failedCount t_failed_a 0 x1 x2))) : Option (Int32 × Int32)) = some res := hf
  refine lv_iconst (v := 0) hx hb d_RF_failing_16 (by decide) ?_
  exact k_RF_failing_17 (s := s) C0 hA hf hP hD hS (lv_sub hl [0, 1, 2] rfl)
set_option maxHeartbeats 4000000 in
set_option maxRecDepth 100000 in
theorem c_RF_failing (l : Launch) (D : va_G) (cI cB cJ : ClassId) (h_t h_t_failed : Nat) (v_t_words v_t_bits v_t_cells v_t_sense v_t_kinds v_t_victims v_t_others v_t_faults v_t_toldKinds v_t_toldVictims v_t_toldOthers v_t_told v_t_ground v_t_ports v_t_scrambled v_t_places v_t_sorts v_t_counts v_t_operations v_t_elements v_t_newSorts v_t_newCounts v_t_newOperations v_t_tape v_t_tapeSize v_t_place v_t_keeps v_t_some v_t_repairedRows v_t_repairedColumns v_t_proof : Value) (n_t_failed : Nat) (t_thrown : Int32) (t_failedCount : Int32) (t_failed_a : Nat → Int32) (a1 : Int32) (a2 : Int32) (sz : Nat) (res : Int32 × Int32) (hf : f_RF_failing n_t_failed t_failedCount t_failed_a a1 a2 = some res) : Met l y_RF_failing (.code y_RF_failing b_RF_failing 4 (some .int) :: TB) rm_RF_failing (PcW D [(cI, .int), (cB, .byte), (cJ, .long)] [.ref h_t, .int a1, .int a2] [(h_t, .inr (1, [.int t_thrown, v_t_words, v_t_bits, v_t_cells, v_t_sense, v_t_kinds, v_t_victims, v_t_others, v_t_faults, v_t_toldKinds, v_t_toldVictims, v_t_toldOthers, v_t_told, v_t_ground, v_t_ports, v_t_scrambled, v_t_places, v_t_sorts, v_t_counts, v_t_operations, v_t_elements, v_t_newSorts, v_t_newCounts, v_t_newOperations, v_t_tape, v_t_tapeSize, v_t_place, .ref h_t_failed, .int t_failedCount, v_t_keeps, v_t_some, v_t_repairedRows, v_t_repairedColumns, v_t_proof])), (h_t_failed, .inl (cI, n_t_failed, .inl t_failed_a))] sz) (QW D (post_RF_failing h_t h_t_failed v_t_words v_t_bits v_t_cells v_t_sense v_t_kinds v_t_victims v_t_others v_t_faults v_t_toldKinds v_t_toldVictims v_t_toldOthers v_t_told v_t_ground v_t_ports v_t_scrambled v_t_places v_t_sorts v_t_counts v_t_operations v_t_elements v_t_newSorts v_t_newCounts v_t_newOperations v_t_tape v_t_tapeSize v_t_place v_t_keeps v_t_some v_t_repairedRows v_t_repairedColumns v_t_proof n_t_failed t_failedCount t_failed_a cI cB cJ res) (va_A [(h_t, .inr (1, [.int t_thrown, v_t_words, v_t_bits, v_t_cells, v_t_sense, v_t_kinds, v_t_victims, v_t_others, v_t_faults, v_t_toldKinds, v_t_toldVictims, v_t_toldOthers, v_t_told, v_t_ground, v_t_ports, v_t_scrambled, v_t_places, v_t_sorts, v_t_counts, v_t_operations, v_t_elements, v_t_newSorts, v_t_newCounts, v_t_newOperations, v_t_tape, v_t_tapeSize, v_t_place, .ref h_t_failed, .int t_failedCount, v_t_keeps, v_t_some, v_t_repairedRows, v_t_repairedColumns, v_t_proof])), (h_t_failed, .inl (cI, n_t_failed, .inl t_failed_a))] sz)) 0 0 (va_A [(h_t, .inr (1, [.int t_thrown, v_t_words, v_t_bits, v_t_cells, v_t_sense, v_t_kinds, v_t_victims, v_t_others, v_t_faults, v_t_toldKinds, v_t_toldVictims, v_t_toldOthers, v_t_told, v_t_ground, v_t_ports, v_t_scrambled, v_t_places, v_t_sorts, v_t_counts, v_t_operations, v_t_elements, v_t_newSorts, v_t_newCounts, v_t_newOperations, v_t_tape, v_t_tapeSize, v_t_place, .ref h_t_failed, .int t_failedCount, v_t_keeps, v_t_some, v_t_repairedRows, v_t_repairedColumns, v_t_proof])), (h_t_failed, .inl (cI, n_t_failed, .inl t_failed_a))] sz) := by
  refine entW ⟨by decide +kernel, rfl⟩ fun p e s m below meth c C0 hP hD hsz ls hl => ?_
  subst hsz
  generalize hAe : va_A [(h_t, .inr (1, [.int t_thrown, v_t_words, v_t_bits, v_t_cells, v_t_sense, v_t_kinds, v_t_victims, v_t_others, v_t_faults, v_t_toldKinds, v_t_toldVictims, v_t_toldOthers, v_t_told, v_t_ground, v_t_ports, v_t_scrambled, v_t_places, v_t_sorts, v_t_counts, v_t_operations, v_t_elements, v_t_newSorts, v_t_newCounts, v_t_newOperations, v_t_tape, v_t_tapeSize, v_t_place, .ref h_t_failed, .int t_failedCount, v_t_keeps, v_t_some, v_t_repairedRows, v_t_repairedColumns, v_t_proof])), (h_t_failed, .inl (cI, n_t_failed, .inl t_failed_a))] s.heap.size = A at hD ⊢
  have hA : ∀ q : Nat, s.heap.size ≤ q → A q := fun q h => by rw [← hAe]; exact Or.inr h
  clear hAe
  have hS : va_S A s.heap s.heap [] := va_S.rf
  have hl : lv_has ls 4 [(0, .ref h_t), (1, .int a1), (2, .int a2)] := hl
  obtain ⟨hx, hb, hml, hr, hlocks, hts, hown, hK, hin⟩ := id C0
  have hf : (((
  (if a1 < 0 then
    (f_RF_failing_16 n_t_failed t_failedCount t_failed_a a1 a2)
  else
    (if t_failedCount ≤ a1 then
      (f_RF_failing_16 n_t_failed t_failedCount t_failed_a a1 a2)
    else
      (f_RF_failing_17 n_t_failed t_failedCount t_failed_a 1 a1 a2))))) : Option (Int32 × Int32)) = some res := hf
  obtain ⟨H, hH⟩ : ∃ H, H = s.heap := ⟨_, rfl⟩
  obtain ⟨locs, hlo⟩ : ∃ x : List Loc, x = [] := ⟨_, rfl⟩
  rw [← hlo] at hS ⊢
  have hP : va_P D classes [(h_t, .inr (1, [.int t_thrown, v_t_words, v_t_bits, v_t_cells, v_t_sense, v_t_kinds, v_t_victims, v_t_others, v_t_faults, v_t_toldKinds, v_t_toldVictims, v_t_toldOthers, v_t_told, v_t_ground, v_t_ports, v_t_scrambled, v_t_places, v_t_sorts, v_t_counts, v_t_operations, v_t_elements, v_t_newSorts, v_t_newCounts, v_t_newOperations, v_t_tape, v_t_tapeSize, v_t_place, .ref h_t_failed, .int t_failedCount, v_t_keeps, v_t_some, v_t_repairedRows, v_t_repairedColumns, v_t_proof])), (h_t_failed, .inl (cI, n_t_failed, .inl t_failed_a))] H := by rw [hH]; exact hP
  have hS : va_S A s.heap H locs := by rw [hH]; exact hS
  show W p l e rm_RF_failing s m _ below meth c s.heap locs 0 0 (MQ below (QW D (post_RF_failing h_t h_t_failed v_t_words v_t_bits v_t_cells v_t_sense v_t_kinds v_t_victims v_t_others v_t_faults v_t_toldKinds v_t_toldVictims v_t_toldOthers v_t_told v_t_ground v_t_ports v_t_scrambled v_t_places v_t_sorts v_t_counts v_t_operations v_t_elements v_t_newSorts v_t_newCounts v_t_newOperations v_t_tape v_t_tapeSize v_t_place v_t_keeps v_t_some v_t_repairedRows v_t_repairedColumns v_t_proof n_t_failed t_failedCount t_failed_a cI cB cJ res) A) _ s 0 0 A) (F0 m 0 ls [])
  refine wheap hH ?_
  clear hH hlo
  refine lv_iload_n hx hb d_RF_failing_0 rfl (lv_at hl 1 rfl) ?_
  refine lv_if_lt (tgt := 16) hx hb d_RF_failing_1 (by decide) (fun cc1 => ?_) (fun cc1 => ?_)
  · have hf := ifT cc1 hf
    exact k_RF_failing_16 (s := s) C0 hA hf hP hD hS (lv_sub hl [0, 1, 2] rfl)
  · have hf := ifF cc1 hf
    refine lv_iload_n hx hb d_RF_failing_4 rfl (lv_at hl 1 rfl) ?_
    refine lv_aload_n hx hb d_RF_failing_5 rfl (lv_at hl 0 rfl) ?_
    refine va_get (D := D) (ci := 1) (v := .int t_failedCount) (C := R_RF) (T := F_RF) (N := 34) hx hb hts i_RF hown hK.1 hP 0 rfl rfl 28 (by decide) (hts _ w_416) (fun _ h9 => h9) rfl d_RF_failing_6 ?_
    refine lv_icmp_ge (tgt := 16) hx hb d_RF_failing_9 (by decide) (fun cc9 => ?_) (fun cc9 => ?_)
    · have hf := ifT cc9 hf
      exact k_RF_failing_16 (s := s) C0 hA hf hP hD hS (lv_sub hl [0, 1, 2] rfl)
    · have hf := ifF cc9 hf
      refine lv_iconst (v := 1) hx hb d_RF_failing_12 (by decide) ?_
      refine lv_goto (tgt := 17) hx hb d_RF_failing_13 (by decide) ?_
      exact k_RF_failing_17 (s := s) C0 hA hf hP hD hS (lv_sub hl [0, 1, 2] rfl)
def g_RF_ones_4 (x0 : Int32) (rec4 : (Int32 × Int32) → Option (Int32)) (st : (Int32 × Int32)) : Option (Int32) :=
  (if 16 ≤ st.2 then
    some st.1
  else
    (rec4 ((st.1 + ((x0 >>> (st.2 &&& 31)) &&& 1)), (st.2 + 1))))
def f_RF_ones (a1 : Int32) : Option (Int32) :=
  (lp (g_RF_ones_4 a1) 100000 (0, 0))
def post_RF_ones (cI cB cJ : ClassId) (res : Int32) : Option Value → va_W → Prop := fun o ws' => o = some (.int res) ∧ ws' = []
abbrev rm_RF_ones : Room := { frames := 0, cells := 0, slots := 0, locals := 0 }
set_option maxHeartbeats 4000000 in
set_option maxRecDepth 100000 in
theorem kb_RF_ones_4 {p : Program} {l : Launch} {e : Env} {s : State} {m : MethodId} {args : Array Value} {below : List Frame} {meth : Method} {c : Code} {D : va_G} {cI cB cJ : ClassId} {A : Nat → Prop} (C0 : CX p s m args meth c D [(cI, .int), (cB, .byte), (cJ, .long)] R_RF b_RF_ones 3 (some .int) "ones") (hA : ∀ q, s.heap.size ≤ q → A q)  {res : Int32} {rec4 : (Int32 × Int32) → Option (Int32)} {x0 : Int32} {x1 : Int32} {x2 : Int32}
    (hrec4 : ∀ (st : (Int32 × Int32)), rec4 st = some res → ∀  (H : Heap) (locs : List Loc) (ls : Array Slot), va_P D classes [] H → va_D A [] → va_S A s.heap H locs → lv_has ls 3 [(0, .int x0), (1, .int st.1), (2, .int st.2)] → W p l e rm_RF_ones s m args below meth c H locs 0 0 (MQ below (QW D (post_RF_ones cI cB cJ res) A) args s 0 0 A) (F0 m 4 ls []))
    (hf : g_RF_ones_4 x0 rec4 (x1, x2) = some res) {H : Heap} {locs : List Loc} {ls : Array Slot} (hP : va_P D classes [] H) (hD : va_D A []) (hS : va_S A s.heap H locs) (hl : lv_has ls 3 [(0, .int x0), (1, .int x1), (2, .int x2)]) : W p l e rm_RF_ones s m args below meth c H locs 0 0 (MQ below (QW D (post_RF_ones cI cB cJ res) A) args s 0 0 A) (F0 m 4 ls []) := by
  obtain ⟨hx, hb, hml, hr, hlocks, hts, hown, hK, hin⟩ := id C0
  have hf : (((
  (if 16 ≤ x2 then
    some x1
  else
    (rec4 ((x1 + ((x0 >>> (x2 &&& 31)) &&& 1)), (x2 + 1)))))) : Option (Int32)) = some res := hf
  refine lv_iload_n hx hb d_RF_ones_4 rfl (lv_at hl 2 rfl) ?_
  refine lv_bipush (v := 16) hx hb d_RF_ones_5 (by decide) ?_
  refine lv_icmp_ge (tgt := 24) hx hb d_RF_ones_7 (by decide) (fun cc7 => ?_) (fun cc7 => ?_)
  · have hf := ifT cc7 hf
    refine lv_iload_n hx hb d_RF_ones_24 rfl (lv_at hl 1 rfl) ?_
    obtain rfl := Option.some.inj hf
    exact ret_i hx hb hr hlocks hP hD hS ⟨rfl, rfl⟩ d_RF_ones_25
  · have hf := ifF cc7 hf
    refine lv_iload_n hx hb d_RF_ones_10 rfl (lv_at hl 1 rfl) ?_
    refine lv_iload_n hx hb d_RF_ones_11 rfl (lv_at hl 0 rfl) ?_
    refine lv_iload_n hx hb d_RF_ones_12 rfl (lv_at hl 2 rfl) ?_
    refine lv_ishr hx hb d_RF_ones_13 ?_
    refine lv_iconst (v := 1) hx hb d_RF_ones_14 (by decide) ?_
    refine lv_iand hx hb d_RF_ones_15 ?_
    refine lv_iadd hx hb d_RF_ones_16 ?_
    refine lv_istore_n (lv' := [(1, .int (x1 + ((x0 >>> (x2 &&& 31)) &&& 1))), (0, .int x0), (2, .int x2)]) hx hb d_RF_ones_17 rfl hl (by decide) rfl (fun ls hl => ?_)
    refine lv_iinc (v := (x2 + 1)) (lv' := [(2, .int (x2 + 1)), (1, .int (x1 + ((x0 >>> (x2 &&& 31)) &&& 1))), (0, .int x0)]) hx hb d_RF_ones_18 hl (k := 2) rfl rfl (by decide) rfl (fun ls hl => ?_)
    refine lv_goto (tgt := 4) hx hb d_RF_ones_21 (by decide) ?_
    exact hrec4 ((x1 + ((x0 >>> (x2 &&& 31)) &&& 1)), (x2 + 1)) hf  H locs ls hP hD hS (lv_sub hl [2, 1, 0] rfl)
set_option maxHeartbeats 4000000 in
set_option maxRecDepth 100000 in
theorem k_RF_ones_4 {p : Program} {l : Launch} {e : Env} {s : State} {m : MethodId} {args : Array Value} {below : List Frame} {meth : Method} {c : Code} {D : va_G} {cI cB cJ : ClassId} {A : Nat → Prop} (C0 : CX p s m args meth c D [(cI, .int), (cB, .byte), (cJ, .long)] R_RF b_RF_ones 3 (some .int) "ones") (hA : ∀ q, s.heap.size ≤ q → A q)  {res : Int32} {x0 : Int32}
    : ∀ (n : Nat) (st : (Int32 × Int32)), lp (g_RF_ones_4 x0) n st = some res → ∀  (H : Heap) (locs : List Loc) (ls : Array Slot), va_P D classes [] H → va_D A [] → va_S A s.heap H locs → lv_has ls 3 [(0, .int x0), (1, .int st.1), (2, .int st.2)] → W p l e rm_RF_ones s m args below meth c H locs 0 0 (MQ below (QW D (post_RF_ones cI cB cJ res) A) args s 0 0 A) (F0 m 4 ls []) := by
  intro n
  induction n with
  | zero => intro st hf; exact absurd hf (by simp [lp])
  | succ n ih =>
    intro st hf  H locs ls hP hD hS hl
    exact kb_RF_ones_4 C0 hA (rec4 := lp (g_RF_ones_4 x0) n) (x1 := st.1) (x2 := st.2)  (fun st hf  H locs ls hP hD hS hl => ih st hf  H locs ls hP hD hS hl) hf hP hD hS hl
set_option maxHeartbeats 4000000 in
set_option maxRecDepth 100000 in
theorem c_RF_ones (l : Launch) (D : va_G) (cI cB cJ : ClassId)   (a1 : Int32) (sz : Nat) (res : Int32) (hf : f_RF_ones a1 = some res) : Met l y_RF_ones (.code y_RF_ones b_RF_ones 3 (some .int) :: TB) rm_RF_ones (PcW D [(cI, .int), (cB, .byte), (cJ, .long)] [.int a1] [] sz) (QW D (post_RF_ones cI cB cJ res) (va_A [] sz)) 0 0 (va_A [] sz) := by
  refine entW ⟨by decide +kernel, rfl⟩ fun p e s m below meth c C0 hP hD hsz ls hl => ?_
  subst hsz
  generalize hAe : va_A [] s.heap.size = A at hD ⊢
  have hA : ∀ q : Nat, s.heap.size ≤ q → A q := fun q h => by rw [← hAe]; exact Or.inr h
  clear hAe
  have hS : va_S A s.heap s.heap [] := va_S.rf
  have hl : lv_has ls 3 [(0, .int a1)] := hl
  obtain ⟨hx, hb, hml, hr, hlocks, hts, hown, hK, hin⟩ := id C0
  have hf : (((
  (lp (g_RF_ones_4 a1) 100000 (0, 0)))) : Option (Int32)) = some res := hf
  obtain ⟨H, hH⟩ : ∃ H, H = s.heap := ⟨_, rfl⟩
  obtain ⟨locs, hlo⟩ : ∃ x : List Loc, x = [] := ⟨_, rfl⟩
  rw [← hlo] at hS ⊢
  have hP : va_P D classes [] H := by rw [hH]; exact hP
  have hS : va_S A s.heap H locs := by rw [hH]; exact hS
  show W p l e rm_RF_ones s m _ below meth c s.heap locs 0 0 (MQ below (QW D (post_RF_ones cI cB cJ res) A) _ s 0 0 A) (F0 m 0 ls [])
  refine wheap hH ?_
  clear hH hlo
  refine lv_iconst (v := 0) hx hb d_RF_ones_0 (by decide) ?_
  refine lv_istore_n (lv' := [(1, .int 0), (0, .int a1)]) hx hb d_RF_ones_1 rfl hl (by decide) rfl (fun ls hl => ?_)
  refine lv_iconst (v := 0) hx hb d_RF_ones_2 (by decide) ?_
  refine lv_istore_n (lv' := [(2, .int 0), (1, .int 0), (0, .int a1)]) hx hb d_RF_ones_3 rfl hl (by decide) rfl (fun ls hl => ?_)
  exact k_RF_ones_4 (s := s) C0 hA _ (0, 0) hf  H locs ls hP hD hS (lv_sub hl [2, 1, 0] rfl)
def g_RF_columnsFor_4 (n_t_failed : Nat) (t_failedCount : Int32) (t_failed_a : Nat → Int32) (x1 : Int32) (rec4 : (Int32 × Int32) → Option (Int32)) (st : (Int32 × Int32)) : Option (Int32) :=
  (if t_failedCount ≤ st.2 then
    some st.1
  else
    (if inB ((4 * st.2) + 2) n_t_failed = true then
    (if ((x1 >>> ((t_failed_a (Int32.toNatClampNeg ((4 * st.2) + 2))) &&& 31)) &&& 1) = 1 then
      (rec4 (st.1, (st.2 + 1)))
    else
      (if inB ((4 * st.2) + 3) n_t_failed = true then
      (rec4 ((st.1 ||| (t_failed_a (Int32.toNatClampNeg ((4 * st.2) + 3)))), (st.2 + 1)))
      else none))
    else none))
def f_RF_columnsFor (n_t_failed : Nat) (t_failedCount : Int32) (t_failed_a : Nat → Int32) (a1 : Int32) : Option (Int32) :=
  (lp (g_RF_columnsFor_4 n_t_failed t_failedCount t_failed_a a1) 100000 (0, 0))
def post_RF_columnsFor (h_t h_t_failed : Nat) (v_t_thrown v_t_words v_t_bits v_t_cells v_t_sense v_t_kinds v_t_victims v_t_others v_t_faults v_t_toldKinds v_t_toldVictims v_t_toldOthers v_t_told v_t_ground v_t_ports v_t_scrambled v_t_places v_t_sorts v_t_counts v_t_operations v_t_elements v_t_newSorts v_t_newCounts v_t_newOperations v_t_tape v_t_tapeSize v_t_place v_t_keeps v_t_some v_t_repairedRows v_t_repairedColumns v_t_proof : Value) (n_t_failed : Nat) (t_failedCount : Int32) (t_failed_a : Nat → Int32) (cI cB cJ : ClassId) (res : Int32) : Option Value → va_W → Prop := fun o ws' => o = some (.int res) ∧ ws' = [(h_t, .inr (1, [v_t_thrown, v_t_words, v_t_bits, v_t_cells, v_t_sense, v_t_kinds, v_t_victims, v_t_others, v_t_faults, v_t_toldKinds, v_t_toldVictims, v_t_toldOthers, v_t_told, v_t_ground, v_t_ports, v_t_scrambled, v_t_places, v_t_sorts, v_t_counts, v_t_operations, v_t_elements, v_t_newSorts, v_t_newCounts, v_t_newOperations, v_t_tape, v_t_tapeSize, v_t_place, .ref h_t_failed, .int t_failedCount, v_t_keeps, v_t_some, v_t_repairedRows, v_t_repairedColumns, v_t_proof])), (h_t_failed, .inl (cI, n_t_failed, .inl t_failed_a))]
abbrev rm_RF_columnsFor : Room := { frames := 0, cells := 0, slots := 0, locals := 0 }
set_option maxHeartbeats 4000000 in
set_option maxRecDepth 100000 in
theorem kb_RF_columnsFor_4 {p : Program} {l : Launch} {e : Env} {s : State} {m : MethodId} {args : Array Value} {below : List Frame} {meth : Method} {c : Code} {D : va_G} {cI cB cJ : ClassId} {A : Nat → Prop} (C0 : CX p s m args meth c D [(cI, .int), (cB, .byte), (cJ, .long)] R_RF b_RF_columnsFor 4 (some .int) "columnsFor") (hA : ∀ q, s.heap.size ≤ q → A q) {h_t h_t_failed : Nat} {v_t_thrown v_t_words v_t_bits v_t_cells v_t_sense v_t_kinds v_t_victims v_t_others v_t_faults v_t_toldKinds v_t_toldVictims v_t_toldOthers v_t_told v_t_ground v_t_ports v_t_scrambled v_t_places v_t_sorts v_t_counts v_t_operations v_t_elements v_t_newSorts v_t_newCounts v_t_newOperations v_t_tape v_t_tapeSize v_t_place v_t_keeps v_t_some v_t_repairedRows v_t_repairedColumns v_t_proof : Value} {res : Int32} {rec4 : (Int32 × Int32) → Option (Int32)} {n_t_failed : Nat} {t_failedCount : Int32} {t_failed_a : Nat → Int32} {x1 : Int32} {x2 : Int32} {x3 : Int32}
    (hrec4 : ∀ (st : (Int32 × Int32)), rec4 st = some res → ∀  (H : Heap) (locs : List Loc) (ls : Array Slot), va_P D classes [(h_t, .inr (1, [v_t_thrown, v_t_words, v_t_bits, v_t_cells, v_t_sense, v_t_kinds, v_t_victims, v_t_others, v_t_faults, v_t_toldKinds, v_t_toldVictims, v_t_toldOthers, v_t_told, v_t_ground, v_t_ports, v_t_scrambled, v_t_places, v_t_sorts, v_t_counts, v_t_operations, v_t_elements, v_t_newSorts, v_t_newCounts, v_t_newOperations, v_t_tape, v_t_tapeSize, v_t_place, .ref h_t_failed, .int t_failedCount, v_t_keeps, v_t_some, v_t_repairedRows, v_t_repairedColumns, v_t_proof])), (h_t_failed, .inl (cI, n_t_failed, .inl t_failed_a))] H → va_D A [(h_t, .inr (1, [v_t_thrown, v_t_words, v_t_bits, v_t_cells, v_t_sense, v_t_kinds, v_t_victims, v_t_others, v_t_faults, v_t_toldKinds, v_t_toldVictims, v_t_toldOthers, v_t_told, v_t_ground, v_t_ports, v_t_scrambled, v_t_places, v_t_sorts, v_t_counts, v_t_operations, v_t_elements, v_t_newSorts, v_t_newCounts, v_t_newOperations, v_t_tape, v_t_tapeSize, v_t_place, .ref h_t_failed, .int t_failedCount, v_t_keeps, v_t_some, v_t_repairedRows, v_t_repairedColumns, v_t_proof])), (h_t_failed, .inl (cI, n_t_failed, .inl t_failed_a))] → va_S A s.heap H locs → lv_has ls 4 [(0, .ref h_t), (1, .int x1), (2, .int st.1), (3, .int st.2)] → W p l e rm_RF_columnsFor s m args below meth c H locs 0 0 (MQ below (QW D (post_RF_columnsFor h_t h_t_failed v_t_thrown v_t_words v_t_bits v_t_cells v_t_sense v_t_kinds v_t_victims v_t_others v_t_faults v_t_toldKinds v_t_toldVictims v_t_toldOthers v_t_told v_t_ground v_t_ports v_t_scrambled v_t_places v_t_sorts v_t_counts v_t_operations v_t_elements v_t_newSorts v_t_newCounts v_t_newOperations v_t_tape v_t_tapeSize v_t_place v_t_keeps v_t_some v_t_repairedRows v_t_repairedColumns v_t_proof n_t_failed t_failedCount t_failed_a cI cB cJ res) A) args s 0 0 A) (F0 m 4 ls []))
    (hf : g_RF_columnsFor_4 n_t_failed t_failedCount t_failed_a x1 rec4 (x2, x3) = some res) {H : Heap} {locs : List Loc} {ls : Array Slot} (hP : va_P D classes [(h_t, .inr (1, [v_t_thrown, v_t_words, v_t_bits, v_t_cells, v_t_sense, v_t_kinds, v_t_victims, v_t_others, v_t_faults, v_t_toldKinds, v_t_toldVictims, v_t_toldOthers, v_t_told, v_t_ground, v_t_ports, v_t_scrambled, v_t_places, v_t_sorts, v_t_counts, v_t_operations, v_t_elements, v_t_newSorts, v_t_newCounts, v_t_newOperations, v_t_tape, v_t_tapeSize, v_t_place, .ref h_t_failed, .int t_failedCount, v_t_keeps, v_t_some, v_t_repairedRows, v_t_repairedColumns, v_t_proof])), (h_t_failed, .inl (cI, n_t_failed, .inl t_failed_a))] H) (hD : va_D A [(h_t, .inr (1, [v_t_thrown, v_t_words, v_t_bits, v_t_cells, v_t_sense, v_t_kinds, v_t_victims, v_t_others, v_t_faults, v_t_toldKinds, v_t_toldVictims, v_t_toldOthers, v_t_told, v_t_ground, v_t_ports, v_t_scrambled, v_t_places, v_t_sorts, v_t_counts, v_t_operations, v_t_elements, v_t_newSorts, v_t_newCounts, v_t_newOperations, v_t_tape, v_t_tapeSize, v_t_place, .ref h_t_failed, .int t_failedCount, v_t_keeps, v_t_some, v_t_repairedRows, v_t_repairedColumns, v_t_proof])), (h_t_failed, .inl (cI, n_t_failed, .inl t_failed_a))]) (hS : va_S A s.heap H locs) (hl : lv_has ls 4 [(0, .ref h_t), (1, .int x1), (2, .int x2), (3, .int x3)]) : W p l e rm_RF_columnsFor s m args below meth c H locs 0 0 (MQ below (QW D (post_RF_columnsFor h_t h_t_failed v_t_thrown v_t_words v_t_bits v_t_cells v_t_sense v_t_kinds v_t_victims v_t_others v_t_faults v_t_toldKinds v_t_toldVictims v_t_toldOthers v_t_told v_t_ground v_t_ports v_t_scrambled v_t_places v_t_sorts v_t_counts v_t_operations v_t_elements v_t_newSorts v_t_newCounts v_t_newOperations v_t_tape v_t_tapeSize v_t_place v_t_keeps v_t_some v_t_repairedRows v_t_repairedColumns v_t_proof n_t_failed t_failedCount t_failed_a cI cB cJ res) A) args s 0 0 A) (F0 m 4 ls []) := by
  obtain ⟨hx, hb, hml, hr, hlocks, hts, hown, hK, hin⟩ := id C0
  have hf : (((
  (if t_failedCount ≤ x3 then
    some x2
  else
    (if inB ((4 * x3) + 2) n_t_failed = true then
    (if ((x1 >>> ((t_failed_a (Int32.toNatClampNeg ((4 * x3) + 2))) &&& 31)) &&& 1) = 1 then
      (rec4 (x2, (x3 + 1)))
    else
      (if inB ((4 * x3) + 3) n_t_failed = true then
      (rec4 ((x2 ||| (t_failed_a (Int32.toNatClampNeg ((4 * x3) + 3)))), (x3 + 1)))
      else none))
    else none)))) : Option (Int32)) = some res := hf
  refine lv_iload_n hx hb d_RF_columnsFor_4 rfl (lv_at hl 3 rfl) ?_
  refine lv_aload_n hx hb d_RF_columnsFor_5 rfl (lv_at hl 0 rfl) ?_
  refine va_get (D := D) (ci := 1) (v := .int t_failedCount) (C := R_RF) (T := F_RF) (N := 34) hx hb hts i_RF hown hK.1 hP 0 rfl rfl 28 (by decide) (hts _ w_416) (fun _ h9 => h9) rfl d_RF_columnsFor_6 ?_
  refine lv_icmp_ge (tgt := 53) hx hb d_RF_columnsFor_9 (by decide) (fun cc9 => ?_) (fun cc9 => ?_)
  · have hf := ifT cc9 hf
    refine lv_iload_n hx hb d_RF_columnsFor_53 rfl (lv_at hl 2 rfl) ?_
    obtain rfl := Option.some.inj hf
    exact ret_i hx hb hr hlocks hP hD hS ⟨rfl, rfl⟩ d_RF_columnsFor_54
  · have hf := ifF cc9 hf
    refine lv_iload_n hx hb d_RF_columnsFor_12 rfl (lv_at hl 1 rfl) ?_
    refine lv_aload_n hx hb d_RF_columnsFor_13 rfl (lv_at hl 0 rfl) ?_
    refine va_get (D := D) (ci := 1) (v := .ref h_t_failed) (C := R_RF) (T := F_RF) (N := 34) hx hb hts i_RF hown hK.1 hP 0 rfl rfl 27 (by decide) (hts _ w_383) (fun _ h9 => h9) rfl d_RF_columnsFor_14 ?_
    refine lv_iconst (v := 4) hx hb d_RF_columnsFor_17 (by decide) ?_
    refine lv_iload_n hx hb d_RF_columnsFor_18 rfl (lv_at hl 3 rfl) ?_
    refine lv_imul hx hb d_RF_columnsFor_19 ?_
    refine lv_iconst (v := 2) hx hb d_RF_columnsFor_20 (by decide) ?_
    refine lv_iadd hx hb d_RF_columnsFor_21 ?_
    obtain ⟨hin1, hf⟩ := ifG hf
    refine va_iald hx hb hK.1 hP 1 0 rfl rfl (inB_in hin1) d_RF_columnsFor_22 ?_
    refine lv_ishr hx hb d_RF_columnsFor_23 ?_
    refine lv_iconst (v := 1) hx hb d_RF_columnsFor_24 (by decide) ?_
    refine lv_iand hx hb d_RF_columnsFor_25 ?_
    refine lv_iconst (v := 1) hx hb d_RF_columnsFor_26 (by decide) ?_
    refine lv_icmp_ne (tgt := 34) hx hb d_RF_columnsFor_27 (by decide) (fun cc27 => ?_) (fun cc27 => ?_)
    · have hf := ifF cc27 hf
      refine lv_iload_n hx hb d_RF_columnsFor_34 rfl (lv_at hl 2 rfl) ?_
      refine lv_aload_n hx hb d_RF_columnsFor_35 rfl (lv_at hl 0 rfl) ?_
      refine va_get (D := D) (ci := 1) (v := .ref h_t_failed) (C := R_RF) (T := F_RF) (N := 34) hx hb hts i_RF hown hK.1 hP 0 rfl rfl 27 (by decide) (hts _ w_383) (fun _ h9 => h9) rfl d_RF_columnsFor_36 ?_
      refine lv_iconst (v := 4) hx hb d_RF_columnsFor_39 (by decide) ?_
      refine lv_iload_n hx hb d_RF_columnsFor_40 rfl (lv_at hl 3 rfl) ?_
      refine lv_imul hx hb d_RF_columnsFor_41 ?_
      refine lv_iconst (v := 3) hx hb d_RF_columnsFor_42 (by decide) ?_
      refine lv_iadd hx hb d_RF_columnsFor_43 ?_
      obtain ⟨hin1, hf⟩ := ifG hf
      refine va_iald hx hb hK.1 hP 1 0 rfl rfl (inB_in hin1) d_RF_columnsFor_44 ?_
      refine lv_ior hx hb d_RF_columnsFor_45 ?_
      refine lv_istore_n (lv' := [(2, .int (x2 ||| (t_failed_a (Int32.toNatClampNeg ((4 * x3) + 3))))), (0, .ref h_t), (1, .int x1), (3, .int x3)]) hx hb d_RF_columnsFor_46 rfl hl (by decide) rfl (fun ls hl => ?_)
      refine lv_iinc (v := (x3 + 1)) (lv' := [(3, .int (x3 + 1)), (2, .int (x2 ||| (t_failed_a (Int32.toNatClampNeg ((4 * x3) + 3))))), (0, .ref h_t), (1, .int x1)]) hx hb d_RF_columnsFor_47 hl (k := 3) rfl rfl (by decide) rfl (fun ls hl => ?_)
      refine lv_goto (tgt := 4) hx hb d_RF_columnsFor_50 (by decide) ?_
      exact hrec4 ((x2 ||| (t_failed_a (Int32.toNatClampNeg ((4 * x3) + 3)))), (x3 + 1)) hf  H locs ls hP hD hS (lv_sub hl [2, 3, 1, 0] rfl)
    · have hf := ifT cc27 hf
      refine lv_iload_n hx hb d_RF_columnsFor_30 rfl (lv_at hl 2 rfl) ?_
      refine lv_goto (tgt := 46) hx hb d_RF_columnsFor_31 (by decide) ?_
      refine lv_istore_n (lv' := [(2, .int x2), (0, .ref h_t), (1, .int x1), (3, .int x3)]) hx hb d_RF_columnsFor_46 rfl hl (by decide) rfl (fun ls hl => ?_)
      refine lv_iinc (v := (x3 + 1)) (lv' := [(3, .int (x3 + 1)), (2, .int x2), (0, .ref h_t), (1, .int x1)]) hx hb d_RF_columnsFor_47 hl (k := 3) rfl rfl (by decide) rfl (fun ls hl => ?_)
      refine lv_goto (tgt := 4) hx hb d_RF_columnsFor_50 (by decide) ?_
      exact hrec4 (x2, (x3 + 1)) hf  H locs ls hP hD hS (lv_sub hl [2, 3, 1, 0] rfl)
set_option maxHeartbeats 4000000 in
set_option maxRecDepth 100000 in
theorem k_RF_columnsFor_4 {p : Program} {l : Launch} {e : Env} {s : State} {m : MethodId} {args : Array Value} {below : List Frame} {meth : Method} {c : Code} {D : va_G} {cI cB cJ : ClassId} {A : Nat → Prop} (C0 : CX p s m args meth c D [(cI, .int), (cB, .byte), (cJ, .long)] R_RF b_RF_columnsFor 4 (some .int) "columnsFor") (hA : ∀ q, s.heap.size ≤ q → A q) {h_t h_t_failed : Nat} {v_t_thrown v_t_words v_t_bits v_t_cells v_t_sense v_t_kinds v_t_victims v_t_others v_t_faults v_t_toldKinds v_t_toldVictims v_t_toldOthers v_t_told v_t_ground v_t_ports v_t_scrambled v_t_places v_t_sorts v_t_counts v_t_operations v_t_elements v_t_newSorts v_t_newCounts v_t_newOperations v_t_tape v_t_tapeSize v_t_place v_t_keeps v_t_some v_t_repairedRows v_t_repairedColumns v_t_proof : Value} {res : Int32} {n_t_failed : Nat} {t_failedCount : Int32} {t_failed_a : Nat → Int32} {x1 : Int32}
    : ∀ (n : Nat) (st : (Int32 × Int32)), lp (g_RF_columnsFor_4 n_t_failed t_failedCount t_failed_a x1) n st = some res → ∀  (H : Heap) (locs : List Loc) (ls : Array Slot), va_P D classes [(h_t, .inr (1, [v_t_thrown, v_t_words, v_t_bits, v_t_cells, v_t_sense, v_t_kinds, v_t_victims, v_t_others, v_t_faults, v_t_toldKinds, v_t_toldVictims, v_t_toldOthers, v_t_told, v_t_ground, v_t_ports, v_t_scrambled, v_t_places, v_t_sorts, v_t_counts, v_t_operations, v_t_elements, v_t_newSorts, v_t_newCounts, v_t_newOperations, v_t_tape, v_t_tapeSize, v_t_place, .ref h_t_failed, .int t_failedCount, v_t_keeps, v_t_some, v_t_repairedRows, v_t_repairedColumns, v_t_proof])), (h_t_failed, .inl (cI, n_t_failed, .inl t_failed_a))] H → va_D A [(h_t, .inr (1, [v_t_thrown, v_t_words, v_t_bits, v_t_cells, v_t_sense, v_t_kinds, v_t_victims, v_t_others, v_t_faults, v_t_toldKinds, v_t_toldVictims, v_t_toldOthers, v_t_told, v_t_ground, v_t_ports, v_t_scrambled, v_t_places, v_t_sorts, v_t_counts, v_t_operations, v_t_elements, v_t_newSorts, v_t_newCounts, v_t_newOperations, v_t_tape, v_t_tapeSize, v_t_place, .ref h_t_failed, .int t_failedCount, v_t_keeps, v_t_some, v_t_repairedRows, v_t_repairedColumns, v_t_proof])), (h_t_failed, .inl (cI, n_t_failed, .inl t_failed_a))] → va_S A s.heap H locs → lv_has ls 4 [(0, .ref h_t), (1, .int x1), (2, .int st.1), (3, .int st.2)] → W p l e rm_RF_columnsFor s m args below meth c H locs 0 0 (MQ below (QW D (post_RF_columnsFor h_t h_t_failed v_t_thrown v_t_words v_t_bits v_t_cells v_t_sense v_t_kinds v_t_victims v_t_others v_t_faults v_t_toldKinds v_t_toldVictims v_t_toldOthers v_t_told v_t_ground v_t_ports v_t_scrambled v_t_places v_t_sorts v_t_counts v_t_operations v_t_elements v_t_newSorts v_t_newCounts v_t_newOperations v_t_tape v_t_tapeSize v_t_place v_t_keeps v_t_some v_t_repairedRows v_t_repairedColumns v_t_proof n_t_failed t_failedCount t_failed_a cI cB cJ res) A) args s 0 0 A) (F0 m 4 ls []) := by
  intro n
  induction n with
  | zero => intro st hf; exact absurd hf (by simp [lp])
  | succ n ih =>
    intro st hf  H locs ls hP hD hS hl
    exact kb_RF_columnsFor_4 C0 hA (rec4 := lp (g_RF_columnsFor_4 n_t_failed t_failedCount t_failed_a x1) n) (x2 := st.1) (x3 := st.2)  (fun st hf  H locs ls hP hD hS hl => ih st hf  H locs ls hP hD hS hl) hf hP hD hS hl
set_option maxHeartbeats 4000000 in
set_option maxRecDepth 100000 in
theorem c_RF_columnsFor (l : Launch) (D : va_G) (cI cB cJ : ClassId) (h_t h_t_failed : Nat) (v_t_thrown v_t_words v_t_bits v_t_cells v_t_sense v_t_kinds v_t_victims v_t_others v_t_faults v_t_toldKinds v_t_toldVictims v_t_toldOthers v_t_told v_t_ground v_t_ports v_t_scrambled v_t_places v_t_sorts v_t_counts v_t_operations v_t_elements v_t_newSorts v_t_newCounts v_t_newOperations v_t_tape v_t_tapeSize v_t_place v_t_keeps v_t_some v_t_repairedRows v_t_repairedColumns v_t_proof : Value) (n_t_failed : Nat) (t_failedCount : Int32) (t_failed_a : Nat → Int32) (a1 : Int32) (sz : Nat) (res : Int32) (hf : f_RF_columnsFor n_t_failed t_failedCount t_failed_a a1 = some res) : Met l y_RF_columnsFor (.code y_RF_columnsFor b_RF_columnsFor 4 (some .int) :: TB) rm_RF_columnsFor (PcW D [(cI, .int), (cB, .byte), (cJ, .long)] [.ref h_t, .int a1] [(h_t, .inr (1, [v_t_thrown, v_t_words, v_t_bits, v_t_cells, v_t_sense, v_t_kinds, v_t_victims, v_t_others, v_t_faults, v_t_toldKinds, v_t_toldVictims, v_t_toldOthers, v_t_told, v_t_ground, v_t_ports, v_t_scrambled, v_t_places, v_t_sorts, v_t_counts, v_t_operations, v_t_elements, v_t_newSorts, v_t_newCounts, v_t_newOperations, v_t_tape, v_t_tapeSize, v_t_place, .ref h_t_failed, .int t_failedCount, v_t_keeps, v_t_some, v_t_repairedRows, v_t_repairedColumns, v_t_proof])), (h_t_failed, .inl (cI, n_t_failed, .inl t_failed_a))] sz) (QW D (post_RF_columnsFor h_t h_t_failed v_t_thrown v_t_words v_t_bits v_t_cells v_t_sense v_t_kinds v_t_victims v_t_others v_t_faults v_t_toldKinds v_t_toldVictims v_t_toldOthers v_t_told v_t_ground v_t_ports v_t_scrambled v_t_places v_t_sorts v_t_counts v_t_operations v_t_elements v_t_newSorts v_t_newCounts v_t_newOperations v_t_tape v_t_tapeSize v_t_place v_t_keeps v_t_some v_t_repairedRows v_t_repairedColumns v_t_proof n_t_failed t_failedCount t_failed_a cI cB cJ res) (va_A [(h_t, .inr (1, [v_t_thrown, v_t_words, v_t_bits, v_t_cells, v_t_sense, v_t_kinds, v_t_victims, v_t_others, v_t_faults, v_t_toldKinds, v_t_toldVictims, v_t_toldOthers, v_t_told, v_t_ground, v_t_ports, v_t_scrambled, v_t_places, v_t_sorts, v_t_counts, v_t_operations, v_t_elements, v_t_newSorts, v_t_newCounts, v_t_newOperations, v_t_tape, v_t_tapeSize, v_t_place, .ref h_t_failed, .int t_failedCount, v_t_keeps, v_t_some, v_t_repairedRows, v_t_repairedColumns, v_t_proof])), (h_t_failed, .inl (cI, n_t_failed, .inl t_failed_a))] sz)) 0 0 (va_A [(h_t, .inr (1, [v_t_thrown, v_t_words, v_t_bits, v_t_cells, v_t_sense, v_t_kinds, v_t_victims, v_t_others, v_t_faults, v_t_toldKinds, v_t_toldVictims, v_t_toldOthers, v_t_told, v_t_ground, v_t_ports, v_t_scrambled, v_t_places, v_t_sorts, v_t_counts, v_t_operations, v_t_elements, v_t_newSorts, v_t_newCounts, v_t_newOperations, v_t_tape, v_t_tapeSize, v_t_place, .ref h_t_failed, .int t_failedCount, v_t_keeps, v_t_some, v_t_repairedRows, v_t_repairedColumns, v_t_proof])), (h_t_failed, .inl (cI, n_t_failed, .inl t_failed_a))] sz) := by
  refine entW ⟨by decide +kernel, rfl⟩ fun p e s m below meth c C0 hP hD hsz ls hl => ?_
  subst hsz
  generalize hAe : va_A [(h_t, .inr (1, [v_t_thrown, v_t_words, v_t_bits, v_t_cells, v_t_sense, v_t_kinds, v_t_victims, v_t_others, v_t_faults, v_t_toldKinds, v_t_toldVictims, v_t_toldOthers, v_t_told, v_t_ground, v_t_ports, v_t_scrambled, v_t_places, v_t_sorts, v_t_counts, v_t_operations, v_t_elements, v_t_newSorts, v_t_newCounts, v_t_newOperations, v_t_tape, v_t_tapeSize, v_t_place, .ref h_t_failed, .int t_failedCount, v_t_keeps, v_t_some, v_t_repairedRows, v_t_repairedColumns, v_t_proof])), (h_t_failed, .inl (cI, n_t_failed, .inl t_failed_a))] s.heap.size = A at hD ⊢
  have hA : ∀ q : Nat, s.heap.size ≤ q → A q := fun q h => by rw [← hAe]; exact Or.inr h
  clear hAe
  have hS : va_S A s.heap s.heap [] := va_S.rf
  have hl : lv_has ls 4 [(0, .ref h_t), (1, .int a1)] := hl
  obtain ⟨hx, hb, hml, hr, hlocks, hts, hown, hK, hin⟩ := id C0
  have hf : (((
  (lp (g_RF_columnsFor_4 n_t_failed t_failedCount t_failed_a a1) 100000 (0, 0)))) : Option (Int32)) = some res := hf
  obtain ⟨H, hH⟩ : ∃ H, H = s.heap := ⟨_, rfl⟩
  obtain ⟨locs, hlo⟩ : ∃ x : List Loc, x = [] := ⟨_, rfl⟩
  rw [← hlo] at hS ⊢
  have hP : va_P D classes [(h_t, .inr (1, [v_t_thrown, v_t_words, v_t_bits, v_t_cells, v_t_sense, v_t_kinds, v_t_victims, v_t_others, v_t_faults, v_t_toldKinds, v_t_toldVictims, v_t_toldOthers, v_t_told, v_t_ground, v_t_ports, v_t_scrambled, v_t_places, v_t_sorts, v_t_counts, v_t_operations, v_t_elements, v_t_newSorts, v_t_newCounts, v_t_newOperations, v_t_tape, v_t_tapeSize, v_t_place, .ref h_t_failed, .int t_failedCount, v_t_keeps, v_t_some, v_t_repairedRows, v_t_repairedColumns, v_t_proof])), (h_t_failed, .inl (cI, n_t_failed, .inl t_failed_a))] H := by rw [hH]; exact hP
  have hS : va_S A s.heap H locs := by rw [hH]; exact hS
  show W p l e rm_RF_columnsFor s m _ below meth c s.heap locs 0 0 (MQ below (QW D (post_RF_columnsFor h_t h_t_failed v_t_thrown v_t_words v_t_bits v_t_cells v_t_sense v_t_kinds v_t_victims v_t_others v_t_faults v_t_toldKinds v_t_toldVictims v_t_toldOthers v_t_told v_t_ground v_t_ports v_t_scrambled v_t_places v_t_sorts v_t_counts v_t_operations v_t_elements v_t_newSorts v_t_newCounts v_t_newOperations v_t_tape v_t_tapeSize v_t_place v_t_keeps v_t_some v_t_repairedRows v_t_repairedColumns v_t_proof n_t_failed t_failedCount t_failed_a cI cB cJ res) A) _ s 0 0 A) (F0 m 0 ls [])
  refine wheap hH ?_
  clear hH hlo
  refine lv_iconst (v := 0) hx hb d_RF_columnsFor_0 (by decide) ?_
  refine lv_istore_n (lv' := [(2, .int 0), (0, .ref h_t), (1, .int a1)]) hx hb d_RF_columnsFor_1 rfl hl (by decide) rfl (fun ls hl => ?_)
  refine lv_iconst (v := 0) hx hb d_RF_columnsFor_2 (by decide) ?_
  refine lv_istore_n (lv' := [(3, .int 0), (2, .int 0), (0, .ref h_t), (1, .int a1)]) hx hb d_RF_columnsFor_3 rfl hl (by decide) rfl (fun ls hl => ?_)
  exact k_RF_columnsFor_4 (s := s) C0 hA _ (0, 0) hf  H locs ls hP hD hS (lv_sub hl [2, 3, 1, 0] rfl)
def g_RF_isBefore_2 (x0 : Int32) (x1 : Int32) (rec2 : (Int32) → Option (Int32)) (st : (Int32)) : Option (Int32) :=
  (if 16 ≤ st then
    some 0
  else
    (if ((x0 >>> (st &&& 31)) &&& 1) = ((x1 >>> (st &&& 31)) &&& 1) then
      (rec2 (st + 1))
    else
      (if ((x0 >>> (st &&& 31)) &&& 1) = 1 then
        some 1
      else
        some 0)))
def f_RF_isBefore (a1 : Int32) (a2 : Int32) : Option (Int32) :=
  (lp (g_RF_isBefore_2 a1 a2) 100000 0)
def post_RF_isBefore (cI cB cJ : ClassId) (res : Int32) : Option Value → va_W → Prop := fun o ws' => o = some (.int res) ∧ ws' = []
abbrev rm_RF_isBefore : Room := { frames := 0, cells := 0, slots := 0, locals := 0 }
set_option maxHeartbeats 4000000 in
set_option maxRecDepth 100000 in
theorem kb_RF_isBefore_2 {p : Program} {l : Launch} {e : Env} {s : State} {m : MethodId} {args : Array Value} {below : List Frame} {meth : Method} {c : Code} {D : va_G} {cI cB cJ : ClassId} {A : Nat → Prop} (C0 : CX p s m args meth c D [(cI, .int), (cB, .byte), (cJ, .long)] R_RF b_RF_isBefore 4 (some .boolean) "isBefore") (hA : ∀ q, s.heap.size ≤ q → A q)  {res : Int32} {rec2 : (Int32) → Option (Int32)} {x0 : Int32} {x1 : Int32} {x2 : Int32}
    (hrec2 : ∀ (st : (Int32)), rec2 st = some res → ∀  (H : Heap) (locs : List Loc) (ls : Array Slot), va_P D classes [] H → va_D A [] → va_S A s.heap H locs → lv_has ls 4 [(0, .int x0), (1, .int x1), (2, .int st)] → W p l e rm_RF_isBefore s m args below meth c H locs 0 0 (MQ below (QW D (post_RF_isBefore cI cB cJ res) A) args s 0 0 A) (F0 m 2 ls []))
    (hf : g_RF_isBefore_2 x0 x1 rec2 x2 = some res) {H : Heap} {locs : List Loc} {ls : Array Slot} (hP : va_P D classes [] H) (hD : va_D A []) (hS : va_S A s.heap H locs) (hl : lv_has ls 4 [(0, .int x0), (1, .int x1), (2, .int x2)]) : W p l e rm_RF_isBefore s m args below meth c H locs 0 0 (MQ below (QW D (post_RF_isBefore cI cB cJ res) A) args s 0 0 A) (F0 m 2 ls []) := by
  obtain ⟨hx, hb, hml, hr, hlocks, hts, hown, hK, hin⟩ := id C0
  have hf : (((
  (if 16 ≤ x2 then
    some 0
  else
    (if ((x0 >>> (x2 &&& 31)) &&& 1) = ((x1 >>> (x2 &&& 31)) &&& 1) then
      (rec2 (x2 + 1))
    else
      (if ((x0 >>> (x2 &&& 31)) &&& 1) = 1 then
        some 1
      else
        some 0))))) : Option (Int32)) = some res := hf
  refine lv_iload_n hx hb d_RF_isBefore_2 rfl (lv_at hl 2 rfl) ?_
  refine lv_bipush (v := 16) hx hb d_RF_isBefore_3 (by decide) ?_
  refine lv_icmp_ge (tgt := 40) hx hb d_RF_isBefore_5 (by decide) (fun cc5 => ?_) (fun cc5 => ?_)
  · have hf := ifT cc5 hf
    refine lv_iconst (v := 0) hx hb d_RF_isBefore_40 (by decide) ?_
    obtain rfl := Option.some.inj hf
    exact ret_z hx hb hr rfl hlocks hP hD hS ⟨rfl, rfl⟩ d_RF_isBefore_41
  · have hf := ifF cc5 hf
    refine lv_iload_n hx hb d_RF_isBefore_8 rfl (lv_at hl 0 rfl) ?_
    refine lv_iload_n hx hb d_RF_isBefore_9 rfl (lv_at hl 2 rfl) ?_
    refine lv_ishr hx hb d_RF_isBefore_10 ?_
    refine lv_iconst (v := 1) hx hb d_RF_isBefore_11 (by decide) ?_
    refine lv_iand hx hb d_RF_isBefore_12 ?_
    refine lv_istore_n (lv' := [(3, .int ((x0 >>> (x2 &&& 31)) &&& 1)), (0, .int x0), (1, .int x1), (2, .int x2)]) hx hb d_RF_isBefore_13 rfl hl (by decide) rfl (fun ls hl => ?_)
    refine lv_iload_n hx hb d_RF_isBefore_14 rfl (lv_at hl 0 rfl) ?_
    refine lv_iload_n hx hb d_RF_isBefore_15 rfl (lv_at hl 2 rfl) ?_
    refine lv_iload_n hx hb d_RF_isBefore_16 rfl (lv_at hl 3 rfl) ?_
    refine lv_ishr hx hb d_RF_isBefore_17 ?_
    refine lv_iconst (v := 1) hx hb d_RF_isBefore_18 (by decide) ?_
    refine lv_iand hx hb d_RF_isBefore_19 ?_
    refine lv_icmp_eq (tgt := 34) hx hb d_RF_isBefore_20 (by decide) (fun cc20 => ?_) (fun cc20 => ?_)
    · have hf := ifT cc20 hf
      refine lv_iinc (v := (x2 + 1)) (lv' := [(2, .int (x2 + 1)), (3, .int ((x0 >>> (x2 &&& 31)) &&& 1)), (0, .int x0), (1, .int x1)]) hx hb d_RF_isBefore_34 hl (k := 3) rfl rfl (by decide) rfl (fun ls hl => ?_)
      refine lv_goto (tgt := 2) hx hb d_RF_isBefore_37 (by decide) ?_
      exact hrec2 (x2 + 1) hf  H locs ls hP hD hS (lv_sub hl [2, 3, 0] rfl)
    · have hf := ifF cc20 hf
      refine lv_iload_n hx hb d_RF_isBefore_23 rfl (lv_at hl 0 rfl) ?_
      refine lv_iconst (v := 1) hx hb d_RF_isBefore_24 (by decide) ?_
      refine lv_icmp_ne (tgt := 32) hx hb d_RF_isBefore_25 (by decide) (fun cc25 => ?_) (fun cc25 => ?_)
      · have hf := ifF cc25 hf
        refine lv_iconst (v := 0) hx hb d_RF_isBefore_32 (by decide) ?_
        obtain rfl := Option.some.inj hf
        exact ret_z hx hb hr rfl hlocks hP hD hS ⟨rfl, rfl⟩ d_RF_isBefore_33
      · have hf := ifT cc25 hf
        refine lv_iconst (v := 1) hx hb d_RF_isBefore_28 (by decide) ?_
        refine lv_goto (tgt := 33) hx hb d_RF_isBefore_29 (by decide) ?_
        obtain rfl := Option.some.inj hf
        exact ret_z hx hb hr rfl hlocks hP hD hS ⟨rfl, rfl⟩ d_RF_isBefore_33
set_option maxHeartbeats 4000000 in
set_option maxRecDepth 100000 in
theorem k_RF_isBefore_2 {p : Program} {l : Launch} {e : Env} {s : State} {m : MethodId} {args : Array Value} {below : List Frame} {meth : Method} {c : Code} {D : va_G} {cI cB cJ : ClassId} {A : Nat → Prop} (C0 : CX p s m args meth c D [(cI, .int), (cB, .byte), (cJ, .long)] R_RF b_RF_isBefore 4 (some .boolean) "isBefore") (hA : ∀ q, s.heap.size ≤ q → A q)  {res : Int32} {x0 : Int32} {x1 : Int32}
    : ∀ (n : Nat) (st : (Int32)), lp (g_RF_isBefore_2 x0 x1) n st = some res → ∀  (H : Heap) (locs : List Loc) (ls : Array Slot), va_P D classes [] H → va_D A [] → va_S A s.heap H locs → lv_has ls 4 [(0, .int x0), (1, .int x1), (2, .int st)] → W p l e rm_RF_isBefore s m args below meth c H locs 0 0 (MQ below (QW D (post_RF_isBefore cI cB cJ res) A) args s 0 0 A) (F0 m 2 ls []) := by
  intro n
  induction n with
  | zero => intro st hf; exact absurd hf (by simp [lp])
  | succ n ih =>
    intro st hf  H locs ls hP hD hS hl
    exact kb_RF_isBefore_2 C0 hA (rec2 := lp (g_RF_isBefore_2 x0 x1) n) (x2 := st)  (fun st hf  H locs ls hP hD hS hl => ih st hf  H locs ls hP hD hS hl) hf hP hD hS hl
set_option maxHeartbeats 4000000 in
set_option maxRecDepth 100000 in
theorem c_RF_isBefore (l : Launch) (D : va_G) (cI cB cJ : ClassId)   (a1 : Int32) (a2 : Int32) (sz : Nat) (res : Int32) (hf : f_RF_isBefore a1 a2 = some res) : Met l y_RF_isBefore (.code y_RF_isBefore b_RF_isBefore 4 (some .boolean) :: TB) rm_RF_isBefore (PcW D [(cI, .int), (cB, .byte), (cJ, .long)] [.int a1, .int a2] [] sz) (QW D (post_RF_isBefore cI cB cJ res) (va_A [] sz)) 0 0 (va_A [] sz) := by
  refine entW ⟨by decide +kernel, rfl⟩ fun p e s m below meth c C0 hP hD hsz ls hl => ?_
  subst hsz
  generalize hAe : va_A [] s.heap.size = A at hD ⊢
  have hA : ∀ q : Nat, s.heap.size ≤ q → A q := fun q h => by rw [← hAe]; exact Or.inr h
  clear hAe
  have hS : va_S A s.heap s.heap [] := va_S.rf
  have hl : lv_has ls 4 [(0, .int a1), (1, .int a2)] := hl
  obtain ⟨hx, hb, hml, hr, hlocks, hts, hown, hK, hin⟩ := id C0
  have hf : (((
  (lp (g_RF_isBefore_2 a1 a2) 100000 0))) : Option (Int32)) = some res := hf
  obtain ⟨H, hH⟩ : ∃ H, H = s.heap := ⟨_, rfl⟩
  obtain ⟨locs, hlo⟩ : ∃ x : List Loc, x = [] := ⟨_, rfl⟩
  rw [← hlo] at hS ⊢
  have hP : va_P D classes [] H := by rw [hH]; exact hP
  have hS : va_S A s.heap H locs := by rw [hH]; exact hS
  show W p l e rm_RF_isBefore s m _ below meth c s.heap locs 0 0 (MQ below (QW D (post_RF_isBefore cI cB cJ res) A) _ s 0 0 A) (F0 m 0 ls [])
  refine wheap hH ?_
  clear hH hlo
  refine lv_iconst (v := 0) hx hb d_RF_isBefore_0 (by decide) ?_
  refine lv_istore_n (lv' := [(2, .int 0), (0, .int a1), (1, .int a2)]) hx hb d_RF_isBefore_1 rfl hl (by decide) rfl (fun ls hl => ?_)
  exact k_RF_isBefore_2 (s := s) C0 hA _ 0 hf  H locs ls hP hD hS (lv_sub hl [1, 2, 0] rfl)
def f_RF_repair_255 (s0 : Int32) (x11 : Int32) (x12 : Int32) (x6 : Int32) (x7 : Int32) (x8 : Int32) (rec133 : (Int32 × Int32 × Int32) → Option (Int32 × Int32 × Int32 × Int32 × Int32)) : Option (Int32 × Int32 × Int32 × Int32 × Int32) :=
  (if x12 = 0 then
    (rec133 (x6, x7, (x8 + 1)))
  else
    (if s0 = 0 then
      (rec133 (x6, x7, (x8 + 1)))
    else
      (rec133 (x8, x11, (x8 + 1)))))
def f_RF_repair_250 (x11 : Int32) (x12 : Int32) (x6 : Int32) (x7 : Int32) (x8 : Int32) (rec133 : (Int32 × Int32 × Int32) → Option (Int32 × Int32 × Int32 × Int32 × Int32)) : Option (Int32 × Int32 × Int32 × Int32 × Int32) :=
  (f_RF_repair_255 1 x11 x12 x6 x7 x8 rec133)
def f_RF_repair_254 (x11 : Int32) (x12 : Int32) (x6 : Int32) (x7 : Int32) (x8 : Int32) (rec133 : (Int32 × Int32 × Int32) → Option (Int32 × Int32 × Int32 × Int32 × Int32)) : Option (Int32 × Int32 × Int32 × Int32 × Int32) :=
  (f_RF_repair_255 0 x11 x12 x6 x7 x8 rec133)
def f_RF_repair_199 (s0 : Int32) (x11 : Int32) (x6 : Int32) (x7 : Int32) (x8 : Int32) (x9 : Int32) (rec133 : (Int32 × Int32 × Int32) → Option (Int32 × Int32 × Int32 × Int32 × Int32)) : Option (Int32 × Int32 × Int32 × Int32 × Int32) :=
  (if x6 < 0 then
    (f_RF_repair_250 x11 s0 x6 x7 x8 rec133)
  else
    (if x11 < x7 then
      (f_RF_repair_250 x11 s0 x6 x7 x8 rec133)
    else
      (if x11 = x7 then
        (Option.bind (f_RF_ones x6) fun q224_5 =>
        (if x9 < q224_5 then
          (f_RF_repair_250 x11 s0 x6 x7 x8 rec133)
        else
          (Option.bind (f_RF_ones x6) fun q234_6 =>
          (if x9 = q234_6 then
            (Option.bind (f_RF_isBefore x8 x6) fun q244_7 =>
            (if q244_7 = 0 then
              (f_RF_repair_254 x11 s0 x6 x7 x8 rec133)
            else
              (f_RF_repair_250 x11 s0 x6 x7 x8 rec133)))
          else
            (f_RF_repair_254 x11 s0 x6 x7 x8 rec133)))))
      else
        (f_RF_repair_254 x11 s0 x6 x7 x8 rec133))))
def f_RF_repair_198 (x11 : Int32) (x6 : Int32) (x7 : Int32) (x8 : Int32) (x9 : Int32) (rec133 : (Int32 × Int32 × Int32) → Option (Int32 × Int32 × Int32 × Int32 × Int32)) : Option (Int32 × Int32 × Int32 × Int32 × Int32) :=
  (f_RF_repair_199 0 x11 x6 x7 x8 x9 rec133)
def f_RF_repair_167 (s0 : Int32) (x1 : Int32) (x2 : Int32) (x6 : Int32) (x7 : Int32) (x8 : Int32) (x9 : Int32) (rec133 : (Int32 × Int32 × Int32) → Option (Int32 × Int32 × Int32 × Int32 × Int32)) : Option (Int32 × Int32 × Int32 × Int32 × Int32) :=
  (Option.bind (f_RF_ones s0) fun q173_4 =>
  (if x1 < x9 then
    (f_RF_repair_198 (x9 + q173_4) x6 x7 x8 x9 rec133)
  else
    (Option.bind (f_RF_ones s0) fun q187_8 =>
    (if x2 < q187_8 then
      (f_RF_repair_198 (x9 + q173_4) x6 x7 x8 x9 rec133)
    else
      (f_RF_repair_199 1 (x9 + q173_4) x6 x7 x8 x9 rec133)))))
def g_RF_repair_133 (n_t_failed : Nat) (t_thrown : Int32) (t_words : Int32) (t_failedCount : Int32) (t_repairedRows : Int32) (t_repairedColumns : Int32) (t_proof : Int32) (t_failed_a : Nat → Int32) (x1 : Int32) (x2 : Int32) (rec133 : (Int32 × Int32 × Int32) → Option (Int32 × Int32 × Int32 × Int32 × Int32)) (st : (Int32 × Int32 × Int32)) : Option (Int32 × Int32 × Int32 × Int32 × Int32) :=
  (if (1 <<< (t_words &&& 31)) ≤ st.2.2 then
    (if 0 ≤ st.1 then
      (Option.bind (f_RF_columnsFor n_t_failed t_failedCount t_failed_a st.1) fun q298_2 =>
      some (st.2.1, t_thrown, st.1, q298_2, t_proof))
    else
      some ((-1), t_thrown, t_repairedRows, t_repairedColumns, t_proof))
  else
    (Option.bind (f_RF_ones st.2.2) fun q146_3 =>
    (if x1 < q146_3 then
      (f_RF_repair_167 0 x1 x2 st.1 st.2.1 st.2.2 q146_3 rec133)
    else
      (Option.bind (f_RF_columnsFor n_t_failed t_failedCount t_failed_a st.2.2) fun q160_9 =>
      (f_RF_repair_167 q160_9 x1 x2 st.1 st.2.1 st.2.2 q146_3 rec133)))))
def f_RF_repair_110 (n_t_failed : Nat) (t_thrown : Int32) (t_words : Int32) (t_failedCount : Int32) (t_repairedRows : Int32) (t_repairedColumns : Int32) (t_failed_a : Nat → Int32) (s1 : Int32) (x1 : Int32) (x2 : Int32) : Option (Int32 × Int32 × Int32 × Int32 × Int32) :=
  (if isB s1 = true then
  (if s1 = 0 then
    some ((-2), t_thrown, t_repairedRows, t_repairedColumns, s1)
  else
    (lp (g_RF_repair_133 n_t_failed t_thrown t_words t_failedCount t_repairedRows t_repairedColumns s1 t_failed_a x1 x2) 100000 ((-1), 99, 0)))
  else none)
def g_RF_repair_60 (n_t_failed : Nat) (t_thrown : Int32) (t_words : Int32) (t_failedCount : Int32) (t_repairedRows : Int32) (t_repairedColumns : Int32) (t_failed_a : Nat → Int32) (x1 : Int32) (x2 : Int32) (xl3 : Int64) (rec60 : (Int32 × Int32) → Option (Int32 × Int32 × Int32 × Int32 × Int32)) (st : (Int32 × Int32)) : Option (Int32 × Int32 × Int32 × Int32 × Int32) :=
  (if t_failedCount ≤ st.2 then
    (Option.bind (f_RF_ones st.1) fun q96_1 =>
    (if 0 < (lg_cmp (Int32.toInt64 q96_1) xl3) then
      (f_RF_repair_110 n_t_failed t_thrown t_words t_failedCount t_repairedRows t_repairedColumns t_failed_a 0 x1 x2)
    else
      (f_RF_repair_110 n_t_failed t_thrown t_words t_failedCount t_repairedRows t_repairedColumns t_failed_a 1 x1 x2)))
  else
    (if inB ((4 * st.2) + 2) n_t_failed = true then
    (rec60 ((st.1 ||| (1 <<< ((t_failed_a (Int32.toNatClampNeg ((4 * st.2) + 2))) &&& 31))), (st.2 + 1)))
    else none))
def f_RF_repair_32 (n_t_failed : Nat) (t_words : Int32) (t_failedCount : Int32) (t_repairedRows : Int32) (t_repairedColumns : Int32) (t_proof : Int32) (t_failed_a : Nat → Int32) (s1 : Int32) (x1 : Int32) (x2 : Int32) (xl3 : Int64) : Option (Int32 × Int32 × Int32 × Int32 × Int32) :=
  (if s1 ≤ 0 then
    (lp (g_RF_repair_60 n_t_failed s1 t_words t_failedCount 0 0 t_failed_a x1 x2 xl3) 100000 (0, 0))
  else
    some (0, s1, t_repairedRows, t_repairedColumns, t_proof))
def f_RF_repair_27 (n_t_failed : Nat) (t_words : Int32) (t_failedCount : Int32) (t_repairedRows : Int32) (t_repairedColumns : Int32) (t_proof : Int32) (t_failed_a : Nat → Int32) (x1 : Int32) (x2 : Int32) (xl3 : Int64) : Option (Int32 × Int32 × Int32 × Int32 × Int32) :=
  (f_RF_repair_32 n_t_failed t_words t_failedCount t_repairedRows t_repairedColumns t_proof t_failed_a 1 x1 x2 xl3)
def f_RF_repair (n_t_failed : Nat) (t_words : Int32) (t_failedCount : Int32) (t_repairedRows : Int32) (t_repairedColumns : Int32) (t_proof : Int32) (t_failed_a : Nat → Int32) (a1 : Int32) (a2 : Int32) (a3 : Int64) : Option (Int32 × Int32 × Int32 × Int32 × Int32) :=
  (if a1 < 0 then
    (f_RF_repair_27 n_t_failed t_words t_failedCount t_repairedRows t_repairedColumns t_proof t_failed_a a1 a2 a3)
  else
    (if 8 < a1 then
      (f_RF_repair_27 n_t_failed t_words t_failedCount t_repairedRows t_repairedColumns t_proof t_failed_a a1 a2 a3)
    else
      (if a2 < 0 then
        (f_RF_repair_27 n_t_failed t_words t_failedCount t_repairedRows t_repairedColumns t_proof t_failed_a a1 a2 a3)
      else
        (if 8 < a2 then
          (f_RF_repair_27 n_t_failed t_words t_failedCount t_repairedRows t_repairedColumns t_proof t_failed_a a1 a2 a3)
        else
          (if 0 ≤ (lg_cmp a3 0) then
            (f_RF_repair_32 n_t_failed t_words t_failedCount t_repairedRows t_repairedColumns t_proof t_failed_a 0 a1 a2 a3)
          else
            (f_RF_repair_27 n_t_failed t_words t_failedCount t_repairedRows t_repairedColumns t_proof t_failed_a a1 a2 a3))))))
def post_RF_repair (h_t h_t_failed : Nat) (v_t_bits v_t_cells v_t_sense v_t_kinds v_t_victims v_t_others v_t_faults v_t_toldKinds v_t_toldVictims v_t_toldOthers v_t_told v_t_ground v_t_ports v_t_scrambled v_t_places v_t_sorts v_t_counts v_t_operations v_t_elements v_t_newSorts v_t_newCounts v_t_newOperations v_t_tape v_t_tapeSize v_t_place v_t_keeps v_t_some : Value) (n_t_failed : Nat) (t_words : Int32) (t_failedCount : Int32) (t_failed_a : Nat → Int32) (cI cB cJ : ClassId) (res : Int32 × Int32 × Int32 × Int32 × Int32) : Option Value → va_W → Prop := fun o ws' => o = some (.int res.1) ∧ ws' = [(h_t, .inr (1, [.int res.2.1, .int t_words, v_t_bits, v_t_cells, v_t_sense, v_t_kinds, v_t_victims, v_t_others, v_t_faults, v_t_toldKinds, v_t_toldVictims, v_t_toldOthers, v_t_told, v_t_ground, v_t_ports, v_t_scrambled, v_t_places, v_t_sorts, v_t_counts, v_t_operations, v_t_elements, v_t_newSorts, v_t_newCounts, v_t_newOperations, v_t_tape, v_t_tapeSize, v_t_place, .ref h_t_failed, .int t_failedCount, v_t_keeps, v_t_some, .int res.2.2.1, .int res.2.2.2.1, .int res.2.2.2.2])), (h_t_failed, .inl (cI, n_t_failed, .inl t_failed_a))]
abbrev rm_RF_repair : Room := { frames := 1, cells := 0, slots := 0, locals := 23 }
set_option maxHeartbeats 4000000 in
set_option maxRecDepth 100000 in
theorem k_RF_repair_255 {p : Program} {l : Launch} {e : Env} {s : State} {m : MethodId} {args : Array Value} {below : List Frame} {meth : Method} {c : Code} {D : va_G} {cI cB cJ : ClassId} {A : Nat → Prop} (C0 : CX p s m args meth c D [(cI, .int), (cB, .byte), (cJ, .long)] R_RF b_RF_repair 14 (some .int) "repair") (hA : ∀ q, s.heap.size ≤ q → A q) {h_t h_t_failed : Nat} {v_t_bits v_t_cells v_t_sense v_t_kinds v_t_victims v_t_others v_t_faults v_t_toldKinds v_t_toldVictims v_t_toldOthers v_t_told v_t_ground v_t_ports v_t_scrambled v_t_places v_t_sorts v_t_counts v_t_operations v_t_elements v_t_newSorts v_t_newCounts v_t_newOperations v_t_tape v_t_tapeSize v_t_place v_t_keeps v_t_some : Value} {res : Int32 × Int32 × Int32 × Int32 × Int32} {rec133 : (Int32 × Int32 × Int32) → Option (Int32 × Int32 × Int32 × Int32 × Int32)} {n_t_failed : Nat} {t_thrown : Int32} {t_words : Int32} {t_failedCount : Int32} {t_repairedRows : Int32} {t_repairedColumns : Int32} {t_proof : Int32} {t_failed_a : Nat → Int32} {s0 : Int32} {x1 : Int32} {x11 : Int32} {x12 : Int32} {x2 : Int32} {x6 : Int32} {x7 : Int32} {x8 : Int32}
    (hrec133 : ∀ (st : (Int32 × Int32 × Int32)), rec133 st = some res → ∀  (H : Heap) (locs : List Loc) (ls : Array Slot), va_P D classes [(h_t, .inr (1, [.int t_thrown, .int t_words, v_t_bits, v_t_cells, v_t_sense, v_t_kinds, v_t_victims, v_t_others, v_t_faults, v_t_toldKinds, v_t_toldVictims, v_t_toldOthers, v_t_told, v_t_ground, v_t_ports, v_t_scrambled, v_t_places, v_t_sorts, v_t_counts, v_t_operations, v_t_elements, v_t_newSorts, v_t_newCounts, v_t_newOperations, v_t_tape, v_t_tapeSize, v_t_place, .ref h_t_failed, .int t_failedCount, v_t_keeps, v_t_some, .int t_repairedRows, .int t_repairedColumns, .int t_proof])), (h_t_failed, .inl (cI, n_t_failed, .inl t_failed_a))] H → va_D A [(h_t, .inr (1, [.int t_thrown, .int t_words, v_t_bits, v_t_cells, v_t_sense, v_t_kinds, v_t_victims, v_t_others, v_t_faults, v_t_toldKinds, v_t_toldVictims, v_t_toldOthers, v_t_told, v_t_ground, v_t_ports, v_t_scrambled, v_t_places, v_t_sorts, v_t_counts, v_t_operations, v_t_elements, v_t_newSorts, v_t_newCounts, v_t_newOperations, v_t_tape, v_t_tapeSize, v_t_place, .ref h_t_failed, .int t_failedCount, v_t_keeps, v_t_some, .int t_repairedRows, .int t_repairedColumns, .int t_proof])), (h_t_failed, .inl (cI, n_t_failed, .inl t_failed_a))] → va_S A s.heap H locs → lv_has ls 14 [(0, .ref h_t), (1, .int x1), (2, .int x2), (6, .int st.1), (7, .int st.2.1), (8, .int st.2.2)] → W p l e rm_RF_repair s m args below meth c H locs 0 0 (MQ below (QW D (post_RF_repair h_t h_t_failed v_t_bits v_t_cells v_t_sense v_t_kinds v_t_victims v_t_others v_t_faults v_t_toldKinds v_t_toldVictims v_t_toldOthers v_t_told v_t_ground v_t_ports v_t_scrambled v_t_places v_t_sorts v_t_counts v_t_operations v_t_elements v_t_newSorts v_t_newCounts v_t_newOperations v_t_tape v_t_tapeSize v_t_place v_t_keeps v_t_some n_t_failed t_words t_failedCount t_failed_a cI cB cJ res) A) args s 0 0 A) (F0 m 133 ls []))
    (hf : f_RF_repair_255 s0 x11 x12 x6 x7 x8 rec133 = some res) {H : Heap} {locs : List Loc} {ls : Array Slot} (hP : va_P D classes [(h_t, .inr (1, [.int t_thrown, .int t_words, v_t_bits, v_t_cells, v_t_sense, v_t_kinds, v_t_victims, v_t_others, v_t_faults, v_t_toldKinds, v_t_toldVictims, v_t_toldOthers, v_t_told, v_t_ground, v_t_ports, v_t_scrambled, v_t_places, v_t_sorts, v_t_counts, v_t_operations, v_t_elements, v_t_newSorts, v_t_newCounts, v_t_newOperations, v_t_tape, v_t_tapeSize, v_t_place, .ref h_t_failed, .int t_failedCount, v_t_keeps, v_t_some, .int t_repairedRows, .int t_repairedColumns, .int t_proof])), (h_t_failed, .inl (cI, n_t_failed, .inl t_failed_a))] H) (hD : va_D A [(h_t, .inr (1, [.int t_thrown, .int t_words, v_t_bits, v_t_cells, v_t_sense, v_t_kinds, v_t_victims, v_t_others, v_t_faults, v_t_toldKinds, v_t_toldVictims, v_t_toldOthers, v_t_told, v_t_ground, v_t_ports, v_t_scrambled, v_t_places, v_t_sorts, v_t_counts, v_t_operations, v_t_elements, v_t_newSorts, v_t_newCounts, v_t_newOperations, v_t_tape, v_t_tapeSize, v_t_place, .ref h_t_failed, .int t_failedCount, v_t_keeps, v_t_some, .int t_repairedRows, .int t_repairedColumns, .int t_proof])), (h_t_failed, .inl (cI, n_t_failed, .inl t_failed_a))]) (hS : va_S A s.heap H locs) (hl : lv_has ls 14 [(0, .ref h_t), (1, .int x1), (2, .int x2), (6, .int x6), (7, .int x7), (8, .int x8), (11, .int x11), (12, .int x12)]) : W p l e rm_RF_repair s m args below meth c H locs 0 0 (MQ below (QW D (post_RF_repair h_t h_t_failed v_t_bits v_t_cells v_t_sense v_t_kinds v_t_victims v_t_others v_t_faults v_t_toldKinds v_t_toldVictims v_t_toldOthers v_t_told v_t_ground v_t_ports v_t_scrambled v_t_places v_t_sorts v_t_counts v_t_operations v_t_elements v_t_newSorts v_t_newCounts v_t_newOperations v_t_tape v_t_tapeSize v_t_place v_t_keeps v_t_some n_t_failed t_words t_failedCount t_failed_a cI cB cJ res) A) args s 0 0 A) (F0 m 255 ls [.int s0]) := by
  obtain ⟨hx, hb, hml, hr, hlocks, hts, hown, hK, hin⟩ := id C0
  have hf : (((
  (if x12 = 0 then
    (rec133 (x6, x7, (x8 + 1)))
  else
    (if s0 = 0 then
      (rec133 (x6, x7, (x8 + 1)))
    else
      (rec133 (x8, x11, (x8 + 1))))))) : Option (Int32 × Int32 × Int32 × Int32 × Int32)) = some res := hf
  refine lv_istore (lv' := [(13, .int s0), (0, .ref h_t), (1, .int x1), (2, .int x2), (6, .int x6), (7, .int x7), (8, .int x8), (11, .int x11), (12, .int x12)]) hx hb d_RF_repair_255 hl (by decide) rfl (fun ls hl => ?_)
  refine lv_iload hx hb d_RF_repair_257 (lv_at hl 8 rfl) ?_
  refine lv_if_eq (tgt := 275) hx hb d_RF_repair_259 (by decide) (fun cc259 => ?_) (fun cc259 => ?_)
  · have hf := ifT cc259 hf
    refine lv_iinc (v := (x8 + 1)) (lv' := [(8, .int (x8 + 1)), (13, .int s0), (0, .ref h_t), (1, .int x1), (2, .int x2), (6, .int x6), (7, .int x7), (11, .int x11), (12, .int x12)]) hx hb d_RF_repair_275 hl (k := 6) rfl rfl (by decide) rfl (fun ls hl => ?_)
    refine lv_goto (tgt := 133) hx hb d_RF_repair_278 (by decide) ?_
    exact hrec133 (x6, x7, (x8 + 1)) hf  H locs ls hP hD hS (lv_sub hl [2, 3, 4, 5, 6, 0] rfl)
  · have hf := ifF cc259 hf
    refine lv_iload hx hb d_RF_repair_262 (lv_at hl 0 rfl) ?_
    refine lv_if_eq (tgt := 275) hx hb d_RF_repair_264 (by decide) (fun cc264 => ?_) (fun cc264 => ?_)
    · have hf := ifT cc264 hf
      refine lv_iinc (v := (x8 + 1)) (lv' := [(8, .int (x8 + 1)), (13, .int s0), (0, .ref h_t), (1, .int x1), (2, .int x2), (6, .int x6), (7, .int x7), (11, .int x11), (12, .int x12)]) hx hb d_RF_repair_275 hl (k := 6) rfl rfl (by decide) rfl (fun ls hl => ?_)
      refine lv_goto (tgt := 133) hx hb d_RF_repair_278 (by decide) ?_
      exact hrec133 (x6, x7, (x8 + 1)) hf  H locs ls hP hD hS (lv_sub hl [2, 3, 4, 5, 6, 0] rfl)
    · have hf := ifF cc264 hf
      refine lv_iload hx hb d_RF_repair_267 (lv_at hl 6 rfl) ?_
      refine lv_istore (lv' := [(6, .int x8), (13, .int s0), (0, .ref h_t), (1, .int x1), (2, .int x2), (7, .int x7), (8, .int x8), (11, .int x11), (12, .int x12)]) hx hb d_RF_repair_269 hl (by decide) rfl (fun ls hl => ?_)
      refine lv_iload hx hb d_RF_repair_271 (lv_at hl 7 rfl) ?_
      refine lv_istore (lv' := [(7, .int x11), (6, .int x8), (13, .int s0), (0, .ref h_t), (1, .int x1), (2, .int x2), (8, .int x8), (11, .int x11), (12, .int x12)]) hx hb d_RF_repair_273 hl (by decide) rfl (fun ls hl => ?_)
      refine lv_iinc (v := (x8 + 1)) (lv' := [(8, .int (x8 + 1)), (7, .int x11), (6, .int x8), (13, .int s0), (0, .ref h_t), (1, .int x1), (2, .int x2), (11, .int x11), (12, .int x12)]) hx hb d_RF_repair_275 hl (k := 6) rfl rfl (by decide) rfl (fun ls hl => ?_)
      refine lv_goto (tgt := 133) hx hb d_RF_repair_278 (by decide) ?_
      exact hrec133 (x8, x11, (x8 + 1)) hf  H locs ls hP hD hS (lv_sub hl [4, 5, 6, 2, 1, 0] rfl)
set_option maxHeartbeats 4000000 in
set_option maxRecDepth 100000 in
theorem k_RF_repair_250 {p : Program} {l : Launch} {e : Env} {s : State} {m : MethodId} {args : Array Value} {below : List Frame} {meth : Method} {c : Code} {D : va_G} {cI cB cJ : ClassId} {A : Nat → Prop} (C0 : CX p s m args meth c D [(cI, .int), (cB, .byte), (cJ, .long)] R_RF b_RF_repair 14 (some .int) "repair") (hA : ∀ q, s.heap.size ≤ q → A q) {h_t h_t_failed : Nat} {v_t_bits v_t_cells v_t_sense v_t_kinds v_t_victims v_t_others v_t_faults v_t_toldKinds v_t_toldVictims v_t_toldOthers v_t_told v_t_ground v_t_ports v_t_scrambled v_t_places v_t_sorts v_t_counts v_t_operations v_t_elements v_t_newSorts v_t_newCounts v_t_newOperations v_t_tape v_t_tapeSize v_t_place v_t_keeps v_t_some : Value} {res : Int32 × Int32 × Int32 × Int32 × Int32} {rec133 : (Int32 × Int32 × Int32) → Option (Int32 × Int32 × Int32 × Int32 × Int32)} {n_t_failed : Nat} {t_thrown : Int32} {t_words : Int32} {t_failedCount : Int32} {t_repairedRows : Int32} {t_repairedColumns : Int32} {t_proof : Int32} {t_failed_a : Nat → Int32} {x1 : Int32} {x11 : Int32} {x12 : Int32} {x2 : Int32} {x6 : Int32} {x7 : Int32} {x8 : Int32}
    (hrec133 : ∀ (st : (Int32 × Int32 × Int32)), rec133 st = some res → ∀  (H : Heap) (locs : List Loc) (ls : Array Slot), va_P D classes [(h_t, .inr (1, [.int t_thrown, .int t_words, v_t_bits, v_t_cells, v_t_sense, v_t_kinds, v_t_victims, v_t_others, v_t_faults, v_t_toldKinds, v_t_toldVictims, v_t_toldOthers, v_t_told, v_t_ground, v_t_ports, v_t_scrambled, v_t_places, v_t_sorts, v_t_counts, v_t_operations, v_t_elements, v_t_newSorts, v_t_newCounts, v_t_newOperations, v_t_tape, v_t_tapeSize, v_t_place, .ref h_t_failed, .int t_failedCount, v_t_keeps, v_t_some, .int t_repairedRows, .int t_repairedColumns, .int t_proof])), (h_t_failed, .inl (cI, n_t_failed, .inl t_failed_a))] H → va_D A [(h_t, .inr (1, [.int t_thrown, .int t_words, v_t_bits, v_t_cells, v_t_sense, v_t_kinds, v_t_victims, v_t_others, v_t_faults, v_t_toldKinds, v_t_toldVictims, v_t_toldOthers, v_t_told, v_t_ground, v_t_ports, v_t_scrambled, v_t_places, v_t_sorts, v_t_counts, v_t_operations, v_t_elements, v_t_newSorts, v_t_newCounts, v_t_newOperations, v_t_tape, v_t_tapeSize, v_t_place, .ref h_t_failed, .int t_failedCount, v_t_keeps, v_t_some, .int t_repairedRows, .int t_repairedColumns, .int t_proof])), (h_t_failed, .inl (cI, n_t_failed, .inl t_failed_a))] → va_S A s.heap H locs → lv_has ls 14 [(0, .ref h_t), (1, .int x1), (2, .int x2), (6, .int st.1), (7, .int st.2.1), (8, .int st.2.2)] → W p l e rm_RF_repair s m args below meth c H locs 0 0 (MQ below (QW D (post_RF_repair h_t h_t_failed v_t_bits v_t_cells v_t_sense v_t_kinds v_t_victims v_t_others v_t_faults v_t_toldKinds v_t_toldVictims v_t_toldOthers v_t_told v_t_ground v_t_ports v_t_scrambled v_t_places v_t_sorts v_t_counts v_t_operations v_t_elements v_t_newSorts v_t_newCounts v_t_newOperations v_t_tape v_t_tapeSize v_t_place v_t_keeps v_t_some n_t_failed t_words t_failedCount t_failed_a cI cB cJ res) A) args s 0 0 A) (F0 m 133 ls []))
    (hf : f_RF_repair_250 x11 x12 x6 x7 x8 rec133 = some res) {H : Heap} {locs : List Loc} {ls : Array Slot} (hP : va_P D classes [(h_t, .inr (1, [.int t_thrown, .int t_words, v_t_bits, v_t_cells, v_t_sense, v_t_kinds, v_t_victims, v_t_others, v_t_faults, v_t_toldKinds, v_t_toldVictims, v_t_toldOthers, v_t_told, v_t_ground, v_t_ports, v_t_scrambled, v_t_places, v_t_sorts, v_t_counts, v_t_operations, v_t_elements, v_t_newSorts, v_t_newCounts, v_t_newOperations, v_t_tape, v_t_tapeSize, v_t_place, .ref h_t_failed, .int t_failedCount, v_t_keeps, v_t_some, .int t_repairedRows, .int t_repairedColumns, .int t_proof])), (h_t_failed, .inl (cI, n_t_failed, .inl t_failed_a))] H) (hD : va_D A [(h_t, .inr (1, [.int t_thrown, .int t_words, v_t_bits, v_t_cells, v_t_sense, v_t_kinds, v_t_victims, v_t_others, v_t_faults, v_t_toldKinds, v_t_toldVictims, v_t_toldOthers, v_t_told, v_t_ground, v_t_ports, v_t_scrambled, v_t_places, v_t_sorts, v_t_counts, v_t_operations, v_t_elements, v_t_newSorts, v_t_newCounts, v_t_newOperations, v_t_tape, v_t_tapeSize, v_t_place, .ref h_t_failed, .int t_failedCount, v_t_keeps, v_t_some, .int t_repairedRows, .int t_repairedColumns, .int t_proof])), (h_t_failed, .inl (cI, n_t_failed, .inl t_failed_a))]) (hS : va_S A s.heap H locs) (hl : lv_has ls 14 [(0, .ref h_t), (1, .int x1), (2, .int x2), (6, .int x6), (7, .int x7), (8, .int x8), (11, .int x11), (12, .int x12)]) : W p l e rm_RF_repair s m args below meth c H locs 0 0 (MQ below (QW D (post_RF_repair h_t h_t_failed v_t_bits v_t_cells v_t_sense v_t_kinds v_t_victims v_t_others v_t_faults v_t_toldKinds v_t_toldVictims v_t_toldOthers v_t_told v_t_ground v_t_ports v_t_scrambled v_t_places v_t_sorts v_t_counts v_t_operations v_t_elements v_t_newSorts v_t_newCounts v_t_newOperations v_t_tape v_t_tapeSize v_t_place v_t_keeps v_t_some n_t_failed t_words t_failedCount t_failed_a cI cB cJ res) A) args s 0 0 A) (F0 m 250 ls []) := by
  obtain ⟨hx, hb, hml, hr, hlocks, hts, hown, hK, hin⟩ := id C0
  have hf : (((
  (f_RF_repair_255 1 x11 x12 x6 x7 x8 rec133))) : Option (Int32 × Int32 × Int32 × Int32 × Int32)) = some res := hf
  refine lv_iconst (v := 1) hx hb d_RF_repair_250 (by decide) ?_
  refine lv_goto (tgt := 255) hx hb d_RF_repair_251 (by decide) ?_
  exact k_RF_repair_255 (s := s) C0 hA hrec133 hf hP hD hS (lv_sub hl [0, 1, 2, 3, 4, 5, 6, 7] rfl)
set_option maxHeartbeats 4000000 in
set_option maxRecDepth 100000 in
theorem k_RF_repair_254 {p : Program} {l : Launch} {e : Env} {s : State} {m : MethodId} {args : Array Value} {below : List Frame} {meth : Method} {c : Code} {D : va_G} {cI cB cJ : ClassId} {A : Nat → Prop} (C0 : CX p s m args meth c D [(cI, .int), (cB, .byte), (cJ, .long)] R_RF b_RF_repair 14 (some .int) "repair") (hA : ∀ q, s.heap.size ≤ q → A q) {h_t h_t_failed : Nat} {v_t_bits v_t_cells v_t_sense v_t_kinds v_t_victims v_t_others v_t_faults v_t_toldKinds v_t_toldVictims v_t_toldOthers v_t_told v_t_ground v_t_ports v_t_scrambled v_t_places v_t_sorts v_t_counts v_t_operations v_t_elements v_t_newSorts v_t_newCounts v_t_newOperations v_t_tape v_t_tapeSize v_t_place v_t_keeps v_t_some : Value} {res : Int32 × Int32 × Int32 × Int32 × Int32} {rec133 : (Int32 × Int32 × Int32) → Option (Int32 × Int32 × Int32 × Int32 × Int32)} {n_t_failed : Nat} {t_thrown : Int32} {t_words : Int32} {t_failedCount : Int32} {t_repairedRows : Int32} {t_repairedColumns : Int32} {t_proof : Int32} {t_failed_a : Nat → Int32} {x1 : Int32} {x11 : Int32} {x12 : Int32} {x2 : Int32} {x6 : Int32} {x7 : Int32} {x8 : Int32}
    (hrec133 : ∀ (st : (Int32 × Int32 × Int32)), rec133 st = some res → ∀  (H : Heap) (locs : List Loc) (ls : Array Slot), va_P D classes [(h_t, .inr (1, [.int t_thrown, .int t_words, v_t_bits, v_t_cells, v_t_sense, v_t_kinds, v_t_victims, v_t_others, v_t_faults, v_t_toldKinds, v_t_toldVictims, v_t_toldOthers, v_t_told, v_t_ground, v_t_ports, v_t_scrambled, v_t_places, v_t_sorts, v_t_counts, v_t_operations, v_t_elements, v_t_newSorts, v_t_newCounts, v_t_newOperations, v_t_tape, v_t_tapeSize, v_t_place, .ref h_t_failed, .int t_failedCount, v_t_keeps, v_t_some, .int t_repairedRows, .int t_repairedColumns, .int t_proof])), (h_t_failed, .inl (cI, n_t_failed, .inl t_failed_a))] H → va_D A [(h_t, .inr (1, [.int t_thrown, .int t_words, v_t_bits, v_t_cells, v_t_sense, v_t_kinds, v_t_victims, v_t_others, v_t_faults, v_t_toldKinds, v_t_toldVictims, v_t_toldOthers, v_t_told, v_t_ground, v_t_ports, v_t_scrambled, v_t_places, v_t_sorts, v_t_counts, v_t_operations, v_t_elements, v_t_newSorts, v_t_newCounts, v_t_newOperations, v_t_tape, v_t_tapeSize, v_t_place, .ref h_t_failed, .int t_failedCount, v_t_keeps, v_t_some, .int t_repairedRows, .int t_repairedColumns, .int t_proof])), (h_t_failed, .inl (cI, n_t_failed, .inl t_failed_a))] → va_S A s.heap H locs → lv_has ls 14 [(0, .ref h_t), (1, .int x1), (2, .int x2), (6, .int st.1), (7, .int st.2.1), (8, .int st.2.2)] → W p l e rm_RF_repair s m args below meth c H locs 0 0 (MQ below (QW D (post_RF_repair h_t h_t_failed v_t_bits v_t_cells v_t_sense v_t_kinds v_t_victims v_t_others v_t_faults v_t_toldKinds v_t_toldVictims v_t_toldOthers v_t_told v_t_ground v_t_ports v_t_scrambled v_t_places v_t_sorts v_t_counts v_t_operations v_t_elements v_t_newSorts v_t_newCounts v_t_newOperations v_t_tape v_t_tapeSize v_t_place v_t_keeps v_t_some n_t_failed t_words t_failedCount t_failed_a cI cB cJ res) A) args s 0 0 A) (F0 m 133 ls []))
    (hf : f_RF_repair_254 x11 x12 x6 x7 x8 rec133 = some res) {H : Heap} {locs : List Loc} {ls : Array Slot} (hP : va_P D classes [(h_t, .inr (1, [.int t_thrown, .int t_words, v_t_bits, v_t_cells, v_t_sense, v_t_kinds, v_t_victims, v_t_others, v_t_faults, v_t_toldKinds, v_t_toldVictims, v_t_toldOthers, v_t_told, v_t_ground, v_t_ports, v_t_scrambled, v_t_places, v_t_sorts, v_t_counts, v_t_operations, v_t_elements, v_t_newSorts, v_t_newCounts, v_t_newOperations, v_t_tape, v_t_tapeSize, v_t_place, .ref h_t_failed, .int t_failedCount, v_t_keeps, v_t_some, .int t_repairedRows, .int t_repairedColumns, .int t_proof])), (h_t_failed, .inl (cI, n_t_failed, .inl t_failed_a))] H) (hD : va_D A [(h_t, .inr (1, [.int t_thrown, .int t_words, v_t_bits, v_t_cells, v_t_sense, v_t_kinds, v_t_victims, v_t_others, v_t_faults, v_t_toldKinds, v_t_toldVictims, v_t_toldOthers, v_t_told, v_t_ground, v_t_ports, v_t_scrambled, v_t_places, v_t_sorts, v_t_counts, v_t_operations, v_t_elements, v_t_newSorts, v_t_newCounts, v_t_newOperations, v_t_tape, v_t_tapeSize, v_t_place, .ref h_t_failed, .int t_failedCount, v_t_keeps, v_t_some, .int t_repairedRows, .int t_repairedColumns, .int t_proof])), (h_t_failed, .inl (cI, n_t_failed, .inl t_failed_a))]) (hS : va_S A s.heap H locs) (hl : lv_has ls 14 [(0, .ref h_t), (1, .int x1), (2, .int x2), (6, .int x6), (7, .int x7), (8, .int x8), (11, .int x11), (12, .int x12)]) : W p l e rm_RF_repair s m args below meth c H locs 0 0 (MQ below (QW D (post_RF_repair h_t h_t_failed v_t_bits v_t_cells v_t_sense v_t_kinds v_t_victims v_t_others v_t_faults v_t_toldKinds v_t_toldVictims v_t_toldOthers v_t_told v_t_ground v_t_ports v_t_scrambled v_t_places v_t_sorts v_t_counts v_t_operations v_t_elements v_t_newSorts v_t_newCounts v_t_newOperations v_t_tape v_t_tapeSize v_t_place v_t_keeps v_t_some n_t_failed t_words t_failedCount t_failed_a cI cB cJ res) A) args s 0 0 A) (F0 m 254 ls []) := by
  obtain ⟨hx, hb, hml, hr, hlocks, hts, hown, hK, hin⟩ := id C0
  have hf : (((
  (f_RF_repair_255 0 x11 x12 x6 x7 x8 rec133))) : Option (Int32 × Int32 × Int32 × Int32 × Int32)) = some res := hf
  refine lv_iconst (v := 0) hx hb d_RF_repair_254 (by decide) ?_
  exact k_RF_repair_255 (s := s) C0 hA hrec133 hf hP hD hS (lv_sub hl [0, 1, 2, 3, 4, 5, 6, 7] rfl)
set_option maxHeartbeats 4000000 in
set_option maxRecDepth 100000 in
theorem k_RF_repair_199 {p : Program} {l : Launch} {e : Env} {s : State} {m : MethodId} {args : Array Value} {below : List Frame} {meth : Method} {c : Code} {D : va_G} {cI cB cJ : ClassId} {A : Nat → Prop} (C0 : CX p s m args meth c D [(cI, .int), (cB, .byte), (cJ, .long)] R_RF b_RF_repair 14 (some .int) "repair") (hA : ∀ q, s.heap.size ≤ q → A q) {h_t h_t_failed : Nat} {v_t_bits v_t_cells v_t_sense v_t_kinds v_t_victims v_t_others v_t_faults v_t_toldKinds v_t_toldVictims v_t_toldOthers v_t_told v_t_ground v_t_ports v_t_scrambled v_t_places v_t_sorts v_t_counts v_t_operations v_t_elements v_t_newSorts v_t_newCounts v_t_newOperations v_t_tape v_t_tapeSize v_t_place v_t_keeps v_t_some : Value} {res : Int32 × Int32 × Int32 × Int32 × Int32} {rec133 : (Int32 × Int32 × Int32) → Option (Int32 × Int32 × Int32 × Int32 × Int32)} {n_t_failed : Nat} {t_thrown : Int32} {t_words : Int32} {t_failedCount : Int32} {t_repairedRows : Int32} {t_repairedColumns : Int32} {t_proof : Int32} {t_failed_a : Nat → Int32} {s0 : Int32} {x1 : Int32} {x11 : Int32} {x2 : Int32} {x6 : Int32} {x7 : Int32} {x8 : Int32} {x9 : Int32}
    (hrec133 : ∀ (st : (Int32 × Int32 × Int32)), rec133 st = some res → ∀  (H : Heap) (locs : List Loc) (ls : Array Slot), va_P D classes [(h_t, .inr (1, [.int t_thrown, .int t_words, v_t_bits, v_t_cells, v_t_sense, v_t_kinds, v_t_victims, v_t_others, v_t_faults, v_t_toldKinds, v_t_toldVictims, v_t_toldOthers, v_t_told, v_t_ground, v_t_ports, v_t_scrambled, v_t_places, v_t_sorts, v_t_counts, v_t_operations, v_t_elements, v_t_newSorts, v_t_newCounts, v_t_newOperations, v_t_tape, v_t_tapeSize, v_t_place, .ref h_t_failed, .int t_failedCount, v_t_keeps, v_t_some, .int t_repairedRows, .int t_repairedColumns, .int t_proof])), (h_t_failed, .inl (cI, n_t_failed, .inl t_failed_a))] H → va_D A [(h_t, .inr (1, [.int t_thrown, .int t_words, v_t_bits, v_t_cells, v_t_sense, v_t_kinds, v_t_victims, v_t_others, v_t_faults, v_t_toldKinds, v_t_toldVictims, v_t_toldOthers, v_t_told, v_t_ground, v_t_ports, v_t_scrambled, v_t_places, v_t_sorts, v_t_counts, v_t_operations, v_t_elements, v_t_newSorts, v_t_newCounts, v_t_newOperations, v_t_tape, v_t_tapeSize, v_t_place, .ref h_t_failed, .int t_failedCount, v_t_keeps, v_t_some, .int t_repairedRows, .int t_repairedColumns, .int t_proof])), (h_t_failed, .inl (cI, n_t_failed, .inl t_failed_a))] → va_S A s.heap H locs → lv_has ls 14 [(0, .ref h_t), (1, .int x1), (2, .int x2), (6, .int st.1), (7, .int st.2.1), (8, .int st.2.2)] → W p l e rm_RF_repair s m args below meth c H locs 0 0 (MQ below (QW D (post_RF_repair h_t h_t_failed v_t_bits v_t_cells v_t_sense v_t_kinds v_t_victims v_t_others v_t_faults v_t_toldKinds v_t_toldVictims v_t_toldOthers v_t_told v_t_ground v_t_ports v_t_scrambled v_t_places v_t_sorts v_t_counts v_t_operations v_t_elements v_t_newSorts v_t_newCounts v_t_newOperations v_t_tape v_t_tapeSize v_t_place v_t_keeps v_t_some n_t_failed t_words t_failedCount t_failed_a cI cB cJ res) A) args s 0 0 A) (F0 m 133 ls []))
    (hf : f_RF_repair_199 s0 x11 x6 x7 x8 x9 rec133 = some res) {H : Heap} {locs : List Loc} {ls : Array Slot} (hP : va_P D classes [(h_t, .inr (1, [.int t_thrown, .int t_words, v_t_bits, v_t_cells, v_t_sense, v_t_kinds, v_t_victims, v_t_others, v_t_faults, v_t_toldKinds, v_t_toldVictims, v_t_toldOthers, v_t_told, v_t_ground, v_t_ports, v_t_scrambled, v_t_places, v_t_sorts, v_t_counts, v_t_operations, v_t_elements, v_t_newSorts, v_t_newCounts, v_t_newOperations, v_t_tape, v_t_tapeSize, v_t_place, .ref h_t_failed, .int t_failedCount, v_t_keeps, v_t_some, .int t_repairedRows, .int t_repairedColumns, .int t_proof])), (h_t_failed, .inl (cI, n_t_failed, .inl t_failed_a))] H) (hD : va_D A [(h_t, .inr (1, [.int t_thrown, .int t_words, v_t_bits, v_t_cells, v_t_sense, v_t_kinds, v_t_victims, v_t_others, v_t_faults, v_t_toldKinds, v_t_toldVictims, v_t_toldOthers, v_t_told, v_t_ground, v_t_ports, v_t_scrambled, v_t_places, v_t_sorts, v_t_counts, v_t_operations, v_t_elements, v_t_newSorts, v_t_newCounts, v_t_newOperations, v_t_tape, v_t_tapeSize, v_t_place, .ref h_t_failed, .int t_failedCount, v_t_keeps, v_t_some, .int t_repairedRows, .int t_repairedColumns, .int t_proof])), (h_t_failed, .inl (cI, n_t_failed, .inl t_failed_a))]) (hS : va_S A s.heap H locs) (hl : lv_has ls 14 [(0, .ref h_t), (1, .int x1), (2, .int x2), (6, .int x6), (7, .int x7), (8, .int x8), (9, .int x9), (11, .int x11)]) : W p l e rm_RF_repair s m args below meth c H locs 0 0 (MQ below (QW D (post_RF_repair h_t h_t_failed v_t_bits v_t_cells v_t_sense v_t_kinds v_t_victims v_t_others v_t_faults v_t_toldKinds v_t_toldVictims v_t_toldOthers v_t_told v_t_ground v_t_ports v_t_scrambled v_t_places v_t_sorts v_t_counts v_t_operations v_t_elements v_t_newSorts v_t_newCounts v_t_newOperations v_t_tape v_t_tapeSize v_t_place v_t_keeps v_t_some n_t_failed t_words t_failedCount t_failed_a cI cB cJ res) A) args s 0 0 A) (F0 m 199 ls [.int s0]) := by
  obtain ⟨hx, hb, hml, hr, hlocks, hts, hown, hK, hin⟩ := id C0
  have hf : (((
  (if x6 < 0 then
    (f_RF_repair_250 x11 s0 x6 x7 x8 rec133)
  else
    (if x11 < x7 then
      (f_RF_repair_250 x11 s0 x6 x7 x8 rec133)
    else
      (if x11 = x7 then
        (Option.bind (f_RF_ones x6) fun q224_5 =>
        (if x9 < q224_5 then
          (f_RF_repair_250 x11 s0 x6 x7 x8 rec133)
        else
          (Option.bind (f_RF_ones x6) fun q234_6 =>
          (if x9 = q234_6 then
            (Option.bind (f_RF_isBefore x8 x6) fun q244_7 =>
            (if q244_7 = 0 then
              (f_RF_repair_254 x11 s0 x6 x7 x8 rec133)
            else
              (f_RF_repair_250 x11 s0 x6 x7 x8 rec133)))
          else
            (f_RF_repair_254 x11 s0 x6 x7 x8 rec133)))))
      else
        (f_RF_repair_254 x11 s0 x6 x7 x8 rec133)))))) : Option (Int32 × Int32 × Int32 × Int32 × Int32)) = some res := hf
  refine lv_istore (lv' := [(12, .int s0), (0, .ref h_t), (1, .int x1), (2, .int x2), (6, .int x6), (7, .int x7), (8, .int x8), (9, .int x9), (11, .int x11)]) hx hb d_RF_repair_199 hl (by decide) rfl (fun ls hl => ?_)
  refine lv_iload hx hb d_RF_repair_201 (lv_at hl 4 rfl) ?_
  refine lv_if_lt (tgt := 250) hx hb d_RF_repair_203 (by decide) (fun cc203 => ?_) (fun cc203 => ?_)
  · have hf := ifT cc203 hf
    exact k_RF_repair_250 (s := s) C0 hA hrec133 hf hP hD hS (lv_sub hl [1, 2, 3, 4, 5, 6, 8, 0] rfl)
  · have hf := ifF cc203 hf
    refine lv_iload hx hb d_RF_repair_206 (lv_at hl 8 rfl) ?_
    refine lv_iload hx hb d_RF_repair_208 (lv_at hl 5 rfl) ?_
    refine lv_icmp_lt (tgt := 250) hx hb d_RF_repair_210 (by decide) (fun cc210 => ?_) (fun cc210 => ?_)
    · have hf := ifT cc210 hf
      exact k_RF_repair_250 (s := s) C0 hA hrec133 hf hP hD hS (lv_sub hl [1, 2, 3, 4, 5, 6, 8, 0] rfl)
    · have hf := ifF cc210 hf
      refine lv_iload hx hb d_RF_repair_213 (lv_at hl 8 rfl) ?_
      refine lv_iload hx hb d_RF_repair_215 (lv_at hl 5 rfl) ?_
      refine lv_icmp_ne (tgt := 254) hx hb d_RF_repair_217 (by decide) (fun cc217 => ?_) (fun cc217 => ?_)
      · have hf := ifF cc217 hf
        exact k_RF_repair_254 (s := s) C0 hA hrec133 hf hP hD hS (lv_sub hl [1, 2, 3, 4, 5, 6, 8, 0] rfl)
      · have hf := ifT cc217 hf
        refine lv_iload hx hb d_RF_repair_220 (lv_at hl 7 rfl) ?_
        refine lv_iload hx hb d_RF_repair_222 (lv_at hl 4 rfl) ?_
        obtain ⟨q224_5, hc, hf⟩ := bindS hf
        refine mcS (n := 1) (As := [.int x6]) (rest := [.int x9]) (wr := [(h_t, .inr (1, [.int t_thrown, .int t_words, v_t_bits, v_t_cells, v_t_sense, v_t_kinds, v_t_victims, v_t_others, v_t_faults, v_t_toldKinds, v_t_toldVictims, v_t_toldOthers, v_t_told, v_t_ground, v_t_ports, v_t_scrambled, v_t_places, v_t_sorts, v_t_counts, v_t_operations, v_t_elements, v_t_newSorts, v_t_newCounts, v_t_newOperations, v_t_tape, v_t_tapeSize, v_t_place, .ref h_t_failed, .int t_failedCount, v_t_keeps, v_t_some, .int t_repairedRows, .int t_repairedColumns, .int t_proof])), (h_t_failed, .inl (cI, n_t_failed, .inl t_failed_a))]) hx hb hml hown hts hK (c_RF_ones (l := l) (D := D) (cI := cI) (cB := cB) (cJ := cJ) (a1 := x6) (sz := H.size) (res := q224_5) (hf := hc)) w_448 w_449 w_393 w_450 (by decide +kernel) rfl rfl ⟨Nat.le_of_ble_eq_true rfl, Nat.le_of_ble_eq_true rfl⟩ hP hD hS hA [] [0, 1] rfl rfl (by decide) (by decide) (by decide) hl.1 rfl rfl (lv_room (Nat.le_of_ble_eq_true rfl)) d_RF_repair_224 ⟨Nat.le_of_ble_eq_true rfl, Nat.le_of_ble_eq_true rfl⟩ (fun o ws' H locs hp hP hD hS => ?_)
        obtain ⟨rfl, rfl⟩ := hp
        have hP : va_P D classes [(h_t, .inr (1, [.int t_thrown, .int t_words, v_t_bits, v_t_cells, v_t_sense, v_t_kinds, v_t_victims, v_t_others, v_t_faults, v_t_toldKinds, v_t_toldVictims, v_t_toldOthers, v_t_told, v_t_ground, v_t_ports, v_t_scrambled, v_t_places, v_t_sorts, v_t_counts, v_t_operations, v_t_elements, v_t_newSorts, v_t_newCounts, v_t_newOperations, v_t_tape, v_t_tapeSize, v_t_place, .ref h_t_failed, .int t_failedCount, v_t_keeps, v_t_some, .int t_repairedRows, .int t_repairedColumns, .int t_proof])), (h_t_failed, .inl (cI, n_t_failed, .inl t_failed_a))] H := hP.sub [0, 1] rfl
        have hD : va_D A [(h_t, .inr (1, [.int t_thrown, .int t_words, v_t_bits, v_t_cells, v_t_sense, v_t_kinds, v_t_victims, v_t_others, v_t_faults, v_t_toldKinds, v_t_toldVictims, v_t_toldOthers, v_t_told, v_t_ground, v_t_ports, v_t_scrambled, v_t_places, v_t_sorts, v_t_counts, v_t_operations, v_t_elements, v_t_newSorts, v_t_newCounts, v_t_newOperations, v_t_tape, v_t_tapeSize, v_t_place, .ref h_t_failed, .int t_failedCount, v_t_keeps, v_t_some, .int t_repairedRows, .int t_repairedColumns, .int t_proof])), (h_t_failed, .inl (cI, n_t_failed, .inl t_failed_a))] := hD.sub [0, 1] (by decide) rfl
        refine lv_icmp_lt (tgt := 250) hx hb d_RF_repair_227 (by decide) (fun cc227 => ?_) (fun cc227 => ?_)
        · have hf := ifT cc227 hf
          exact k_RF_repair_250 (s := s) C0 hA hrec133 hf hP hD hS (lv_sub hl [1, 2, 3, 4, 5, 6, 8, 0] rfl)
        · have hf := ifF cc227 hf
          refine lv_iload hx hb d_RF_repair_230 (lv_at hl 7 rfl) ?_
          refine lv_iload hx hb d_RF_repair_232 (lv_at hl 4 rfl) ?_
          obtain ⟨q234_6, hc, hf⟩ := bindS hf
          refine mcS (n := 1) (As := [.int x6]) (rest := [.int x9]) (wr := [(h_t, .inr (1, [.int t_thrown, .int t_words, v_t_bits, v_t_cells, v_t_sense, v_t_kinds, v_t_victims, v_t_others, v_t_faults, v_t_toldKinds, v_t_toldVictims, v_t_toldOthers, v_t_told, v_t_ground, v_t_ports, v_t_scrambled, v_t_places, v_t_sorts, v_t_counts, v_t_operations, v_t_elements, v_t_newSorts, v_t_newCounts, v_t_newOperations, v_t_tape, v_t_tapeSize, v_t_place, .ref h_t_failed, .int t_failedCount, v_t_keeps, v_t_some, .int t_repairedRows, .int t_repairedColumns, .int t_proof])), (h_t_failed, .inl (cI, n_t_failed, .inl t_failed_a))]) hx hb hml hown hts hK (c_RF_ones (l := l) (D := D) (cI := cI) (cB := cB) (cJ := cJ) (a1 := x6) (sz := H.size) (res := q234_6) (hf := hc)) w_448 w_449 w_393 w_450 (by decide +kernel) rfl rfl ⟨Nat.le_of_ble_eq_true rfl, Nat.le_of_ble_eq_true rfl⟩ hP hD hS hA [] [0, 1] rfl rfl (by decide) (by decide) (by decide) hl.1 rfl rfl (lv_room (Nat.le_of_ble_eq_true rfl)) d_RF_repair_234 ⟨Nat.le_of_ble_eq_true rfl, Nat.le_of_ble_eq_true rfl⟩ (fun o ws' H locs hp hP hD hS => ?_)
          obtain ⟨rfl, rfl⟩ := hp
          have hP : va_P D classes [(h_t, .inr (1, [.int t_thrown, .int t_words, v_t_bits, v_t_cells, v_t_sense, v_t_kinds, v_t_victims, v_t_others, v_t_faults, v_t_toldKinds, v_t_toldVictims, v_t_toldOthers, v_t_told, v_t_ground, v_t_ports, v_t_scrambled, v_t_places, v_t_sorts, v_t_counts, v_t_operations, v_t_elements, v_t_newSorts, v_t_newCounts, v_t_newOperations, v_t_tape, v_t_tapeSize, v_t_place, .ref h_t_failed, .int t_failedCount, v_t_keeps, v_t_some, .int t_repairedRows, .int t_repairedColumns, .int t_proof])), (h_t_failed, .inl (cI, n_t_failed, .inl t_failed_a))] H := hP.sub [0, 1] rfl
          have hD : va_D A [(h_t, .inr (1, [.int t_thrown, .int t_words, v_t_bits, v_t_cells, v_t_sense, v_t_kinds, v_t_victims, v_t_others, v_t_faults, v_t_toldKinds, v_t_toldVictims, v_t_toldOthers, v_t_told, v_t_ground, v_t_ports, v_t_scrambled, v_t_places, v_t_sorts, v_t_counts, v_t_operations, v_t_elements, v_t_newSorts, v_t_newCounts, v_t_newOperations, v_t_tape, v_t_tapeSize, v_t_place, .ref h_t_failed, .int t_failedCount, v_t_keeps, v_t_some, .int t_repairedRows, .int t_repairedColumns, .int t_proof])), (h_t_failed, .inl (cI, n_t_failed, .inl t_failed_a))] := hD.sub [0, 1] (by decide) rfl
          refine lv_icmp_ne (tgt := 254) hx hb d_RF_repair_237 (by decide) (fun cc237 => ?_) (fun cc237 => ?_)
          · have hf := ifF cc237 hf
            exact k_RF_repair_254 (s := s) C0 hA hrec133 hf hP hD hS (lv_sub hl [1, 2, 3, 4, 5, 6, 8, 0] rfl)
          · have hf := ifT cc237 hf
            refine lv_iload hx hb d_RF_repair_240 (lv_at hl 6 rfl) ?_
            refine lv_iload hx hb d_RF_repair_242 (lv_at hl 4 rfl) ?_
            obtain ⟨q244_7, hc, hf⟩ := bindS hf
            refine mcS (n := 2) (As := [.int x8, .int x6]) (rest := []) (wr := [(h_t, .inr (1, [.int t_thrown, .int t_words, v_t_bits, v_t_cells, v_t_sense, v_t_kinds, v_t_victims, v_t_others, v_t_faults, v_t_toldKinds, v_t_toldVictims, v_t_toldOthers, v_t_told, v_t_ground, v_t_ports, v_t_scrambled, v_t_places, v_t_sorts, v_t_counts, v_t_operations, v_t_elements, v_t_newSorts, v_t_newCounts, v_t_newOperations, v_t_tape, v_t_tapeSize, v_t_place, .ref h_t_failed, .int t_failedCount, v_t_keeps, v_t_some, .int t_repairedRows, .int t_repairedColumns, .int t_proof])), (h_t_failed, .inl (cI, n_t_failed, .inl t_failed_a))]) hx hb hml hown hts hK (c_RF_isBefore (l := l) (D := D) (cI := cI) (cB := cB) (cJ := cJ) (a1 := x8) (a2 := x6) (sz := H.size) (res := q244_7) (hf := hc)) w_456 w_457 w_393 w_458 (by decide +kernel) rfl rfl ⟨Nat.le_of_ble_eq_true rfl, Nat.le_of_ble_eq_true rfl⟩ hP hD hS hA [] [0, 1] rfl rfl (by decide) (by decide) (by decide) hl.1 rfl rfl (lv_room (Nat.le_of_ble_eq_true rfl)) d_RF_repair_244 ⟨Nat.le_of_ble_eq_true rfl, Nat.le_of_ble_eq_true rfl⟩ (fun o ws' H locs hp hP hD hS => ?_)
            obtain ⟨rfl, rfl⟩ := hp
            have hP : va_P D classes [(h_t, .inr (1, [.int t_thrown, .int t_words, v_t_bits, v_t_cells, v_t_sense, v_t_kinds, v_t_victims, v_t_others, v_t_faults, v_t_toldKinds, v_t_toldVictims, v_t_toldOthers, v_t_told, v_t_ground, v_t_ports, v_t_scrambled, v_t_places, v_t_sorts, v_t_counts, v_t_operations, v_t_elements, v_t_newSorts, v_t_newCounts, v_t_newOperations, v_t_tape, v_t_tapeSize, v_t_place, .ref h_t_failed, .int t_failedCount, v_t_keeps, v_t_some, .int t_repairedRows, .int t_repairedColumns, .int t_proof])), (h_t_failed, .inl (cI, n_t_failed, .inl t_failed_a))] H := hP.sub [0, 1] rfl
            have hD : va_D A [(h_t, .inr (1, [.int t_thrown, .int t_words, v_t_bits, v_t_cells, v_t_sense, v_t_kinds, v_t_victims, v_t_others, v_t_faults, v_t_toldKinds, v_t_toldVictims, v_t_toldOthers, v_t_told, v_t_ground, v_t_ports, v_t_scrambled, v_t_places, v_t_sorts, v_t_counts, v_t_operations, v_t_elements, v_t_newSorts, v_t_newCounts, v_t_newOperations, v_t_tape, v_t_tapeSize, v_t_place, .ref h_t_failed, .int t_failedCount, v_t_keeps, v_t_some, .int t_repairedRows, .int t_repairedColumns, .int t_proof])), (h_t_failed, .inl (cI, n_t_failed, .inl t_failed_a))] := hD.sub [0, 1] (by decide) rfl
            refine lv_if_eq (tgt := 254) hx hb d_RF_repair_247 (by decide) (fun cc247 => ?_) (fun cc247 => ?_)
            · have hf := ifT cc247 hf
              exact k_RF_repair_254 (s := s) C0 hA hrec133 hf hP hD hS (lv_sub hl [1, 2, 3, 4, 5, 6, 8, 0] rfl)
            · have hf := ifF cc247 hf
              exact k_RF_repair_250 (s := s) C0 hA hrec133 hf hP hD hS (lv_sub hl [1, 2, 3, 4, 5, 6, 8, 0] rfl)
set_option maxHeartbeats 4000000 in
set_option maxRecDepth 100000 in
theorem k_RF_repair_198 {p : Program} {l : Launch} {e : Env} {s : State} {m : MethodId} {args : Array Value} {below : List Frame} {meth : Method} {c : Code} {D : va_G} {cI cB cJ : ClassId} {A : Nat → Prop} (C0 : CX p s m args meth c D [(cI, .int), (cB, .byte), (cJ, .long)] R_RF b_RF_repair 14 (some .int) "repair") (hA : ∀ q, s.heap.size ≤ q → A q) {h_t h_t_failed : Nat} {v_t_bits v_t_cells v_t_sense v_t_kinds v_t_victims v_t_others v_t_faults v_t_toldKinds v_t_toldVictims v_t_toldOthers v_t_told v_t_ground v_t_ports v_t_scrambled v_t_places v_t_sorts v_t_counts v_t_operations v_t_elements v_t_newSorts v_t_newCounts v_t_newOperations v_t_tape v_t_tapeSize v_t_place v_t_keeps v_t_some : Value} {res : Int32 × Int32 × Int32 × Int32 × Int32} {rec133 : (Int32 × Int32 × Int32) → Option (Int32 × Int32 × Int32 × Int32 × Int32)} {n_t_failed : Nat} {t_thrown : Int32} {t_words : Int32} {t_failedCount : Int32} {t_repairedRows : Int32} {t_repairedColumns : Int32} {t_proof : Int32} {t_failed_a : Nat → Int32} {x1 : Int32} {x11 : Int32} {x2 : Int32} {x6 : Int32} {x7 : Int32} {x8 : Int32} {x9 : Int32}
    (hrec133 : ∀ (st : (Int32 × Int32 × Int32)), rec133 st = some res → ∀  (H : Heap) (locs : List Loc) (ls : Array Slot), va_P D classes [(h_t, .inr (1, [.int t_thrown, .int t_words, v_t_bits, v_t_cells, v_t_sense, v_t_kinds, v_t_victims, v_t_others, v_t_faults, v_t_toldKinds, v_t_toldVictims, v_t_toldOthers, v_t_told, v_t_ground, v_t_ports, v_t_scrambled, v_t_places, v_t_sorts, v_t_counts, v_t_operations, v_t_elements, v_t_newSorts, v_t_newCounts, v_t_newOperations, v_t_tape, v_t_tapeSize, v_t_place, .ref h_t_failed, .int t_failedCount, v_t_keeps, v_t_some, .int t_repairedRows, .int t_repairedColumns, .int t_proof])), (h_t_failed, .inl (cI, n_t_failed, .inl t_failed_a))] H → va_D A [(h_t, .inr (1, [.int t_thrown, .int t_words, v_t_bits, v_t_cells, v_t_sense, v_t_kinds, v_t_victims, v_t_others, v_t_faults, v_t_toldKinds, v_t_toldVictims, v_t_toldOthers, v_t_told, v_t_ground, v_t_ports, v_t_scrambled, v_t_places, v_t_sorts, v_t_counts, v_t_operations, v_t_elements, v_t_newSorts, v_t_newCounts, v_t_newOperations, v_t_tape, v_t_tapeSize, v_t_place, .ref h_t_failed, .int t_failedCount, v_t_keeps, v_t_some, .int t_repairedRows, .int t_repairedColumns, .int t_proof])), (h_t_failed, .inl (cI, n_t_failed, .inl t_failed_a))] → va_S A s.heap H locs → lv_has ls 14 [(0, .ref h_t), (1, .int x1), (2, .int x2), (6, .int st.1), (7, .int st.2.1), (8, .int st.2.2)] → W p l e rm_RF_repair s m args below meth c H locs 0 0 (MQ below (QW D (post_RF_repair h_t h_t_failed v_t_bits v_t_cells v_t_sense v_t_kinds v_t_victims v_t_others v_t_faults v_t_toldKinds v_t_toldVictims v_t_toldOthers v_t_told v_t_ground v_t_ports v_t_scrambled v_t_places v_t_sorts v_t_counts v_t_operations v_t_elements v_t_newSorts v_t_newCounts v_t_newOperations v_t_tape v_t_tapeSize v_t_place v_t_keeps v_t_some n_t_failed t_words t_failedCount t_failed_a cI cB cJ res) A) args s 0 0 A) (F0 m 133 ls []))
    (hf : f_RF_repair_198 x11 x6 x7 x8 x9 rec133 = some res) {H : Heap} {locs : List Loc} {ls : Array Slot} (hP : va_P D classes [(h_t, .inr (1, [.int t_thrown, .int t_words, v_t_bits, v_t_cells, v_t_sense, v_t_kinds, v_t_victims, v_t_others, v_t_faults, v_t_toldKinds, v_t_toldVictims, v_t_toldOthers, v_t_told, v_t_ground, v_t_ports, v_t_scrambled, v_t_places, v_t_sorts, v_t_counts, v_t_operations, v_t_elements, v_t_newSorts, v_t_newCounts, v_t_newOperations, v_t_tape, v_t_tapeSize, v_t_place, .ref h_t_failed, .int t_failedCount, v_t_keeps, v_t_some, .int t_repairedRows, .int t_repairedColumns, .int t_proof])), (h_t_failed, .inl (cI, n_t_failed, .inl t_failed_a))] H) (hD : va_D A [(h_t, .inr (1, [.int t_thrown, .int t_words, v_t_bits, v_t_cells, v_t_sense, v_t_kinds, v_t_victims, v_t_others, v_t_faults, v_t_toldKinds, v_t_toldVictims, v_t_toldOthers, v_t_told, v_t_ground, v_t_ports, v_t_scrambled, v_t_places, v_t_sorts, v_t_counts, v_t_operations, v_t_elements, v_t_newSorts, v_t_newCounts, v_t_newOperations, v_t_tape, v_t_tapeSize, v_t_place, .ref h_t_failed, .int t_failedCount, v_t_keeps, v_t_some, .int t_repairedRows, .int t_repairedColumns, .int t_proof])), (h_t_failed, .inl (cI, n_t_failed, .inl t_failed_a))]) (hS : va_S A s.heap H locs) (hl : lv_has ls 14 [(0, .ref h_t), (1, .int x1), (2, .int x2), (6, .int x6), (7, .int x7), (8, .int x8), (9, .int x9), (11, .int x11)]) : W p l e rm_RF_repair s m args below meth c H locs 0 0 (MQ below (QW D (post_RF_repair h_t h_t_failed v_t_bits v_t_cells v_t_sense v_t_kinds v_t_victims v_t_others v_t_faults v_t_toldKinds v_t_toldVictims v_t_toldOthers v_t_told v_t_ground v_t_ports v_t_scrambled v_t_places v_t_sorts v_t_counts v_t_operations v_t_elements v_t_newSorts v_t_newCounts v_t_newOperations v_t_tape v_t_tapeSize v_t_place v_t_keeps v_t_some n_t_failed t_words t_failedCount t_failed_a cI cB cJ res) A) args s 0 0 A) (F0 m 198 ls []) := by
  obtain ⟨hx, hb, hml, hr, hlocks, hts, hown, hK, hin⟩ := id C0
  have hf : (((
  (f_RF_repair_199 0 x11 x6 x7 x8 x9 rec133))) : Option (Int32 × Int32 × Int32 × Int32 × Int32)) = some res := hf
  refine lv_iconst (v := 0) hx hb d_RF_repair_198 (by decide) ?_
  exact k_RF_repair_199 (s := s) C0 hA hrec133 hf hP hD hS (lv_sub hl [0, 1, 2, 3, 4, 5, 6, 7] rfl)
set_option maxHeartbeats 4000000 in
set_option maxRecDepth 100000 in
theorem k_RF_repair_167 {p : Program} {l : Launch} {e : Env} {s : State} {m : MethodId} {args : Array Value} {below : List Frame} {meth : Method} {c : Code} {D : va_G} {cI cB cJ : ClassId} {A : Nat → Prop} (C0 : CX p s m args meth c D [(cI, .int), (cB, .byte), (cJ, .long)] R_RF b_RF_repair 14 (some .int) "repair") (hA : ∀ q, s.heap.size ≤ q → A q) {h_t h_t_failed : Nat} {v_t_bits v_t_cells v_t_sense v_t_kinds v_t_victims v_t_others v_t_faults v_t_toldKinds v_t_toldVictims v_t_toldOthers v_t_told v_t_ground v_t_ports v_t_scrambled v_t_places v_t_sorts v_t_counts v_t_operations v_t_elements v_t_newSorts v_t_newCounts v_t_newOperations v_t_tape v_t_tapeSize v_t_place v_t_keeps v_t_some : Value} {res : Int32 × Int32 × Int32 × Int32 × Int32} {rec133 : (Int32 × Int32 × Int32) → Option (Int32 × Int32 × Int32 × Int32 × Int32)} {n_t_failed : Nat} {t_thrown : Int32} {t_words : Int32} {t_failedCount : Int32} {t_repairedRows : Int32} {t_repairedColumns : Int32} {t_proof : Int32} {t_failed_a : Nat → Int32} {s0 : Int32} {x1 : Int32} {x2 : Int32} {x6 : Int32} {x7 : Int32} {x8 : Int32} {x9 : Int32}
    (hrec133 : ∀ (st : (Int32 × Int32 × Int32)), rec133 st = some res → ∀  (H : Heap) (locs : List Loc) (ls : Array Slot), va_P D classes [(h_t, .inr (1, [.int t_thrown, .int t_words, v_t_bits, v_t_cells, v_t_sense, v_t_kinds, v_t_victims, v_t_others, v_t_faults, v_t_toldKinds, v_t_toldVictims, v_t_toldOthers, v_t_told, v_t_ground, v_t_ports, v_t_scrambled, v_t_places, v_t_sorts, v_t_counts, v_t_operations, v_t_elements, v_t_newSorts, v_t_newCounts, v_t_newOperations, v_t_tape, v_t_tapeSize, v_t_place, .ref h_t_failed, .int t_failedCount, v_t_keeps, v_t_some, .int t_repairedRows, .int t_repairedColumns, .int t_proof])), (h_t_failed, .inl (cI, n_t_failed, .inl t_failed_a))] H → va_D A [(h_t, .inr (1, [.int t_thrown, .int t_words, v_t_bits, v_t_cells, v_t_sense, v_t_kinds, v_t_victims, v_t_others, v_t_faults, v_t_toldKinds, v_t_toldVictims, v_t_toldOthers, v_t_told, v_t_ground, v_t_ports, v_t_scrambled, v_t_places, v_t_sorts, v_t_counts, v_t_operations, v_t_elements, v_t_newSorts, v_t_newCounts, v_t_newOperations, v_t_tape, v_t_tapeSize, v_t_place, .ref h_t_failed, .int t_failedCount, v_t_keeps, v_t_some, .int t_repairedRows, .int t_repairedColumns, .int t_proof])), (h_t_failed, .inl (cI, n_t_failed, .inl t_failed_a))] → va_S A s.heap H locs → lv_has ls 14 [(0, .ref h_t), (1, .int x1), (2, .int x2), (6, .int st.1), (7, .int st.2.1), (8, .int st.2.2)] → W p l e rm_RF_repair s m args below meth c H locs 0 0 (MQ below (QW D (post_RF_repair h_t h_t_failed v_t_bits v_t_cells v_t_sense v_t_kinds v_t_victims v_t_others v_t_faults v_t_toldKinds v_t_toldVictims v_t_toldOthers v_t_told v_t_ground v_t_ports v_t_scrambled v_t_places v_t_sorts v_t_counts v_t_operations v_t_elements v_t_newSorts v_t_newCounts v_t_newOperations v_t_tape v_t_tapeSize v_t_place v_t_keeps v_t_some n_t_failed t_words t_failedCount t_failed_a cI cB cJ res) A) args s 0 0 A) (F0 m 133 ls []))
    (hf : f_RF_repair_167 s0 x1 x2 x6 x7 x8 x9 rec133 = some res) {H : Heap} {locs : List Loc} {ls : Array Slot} (hP : va_P D classes [(h_t, .inr (1, [.int t_thrown, .int t_words, v_t_bits, v_t_cells, v_t_sense, v_t_kinds, v_t_victims, v_t_others, v_t_faults, v_t_toldKinds, v_t_toldVictims, v_t_toldOthers, v_t_told, v_t_ground, v_t_ports, v_t_scrambled, v_t_places, v_t_sorts, v_t_counts, v_t_operations, v_t_elements, v_t_newSorts, v_t_newCounts, v_t_newOperations, v_t_tape, v_t_tapeSize, v_t_place, .ref h_t_failed, .int t_failedCount, v_t_keeps, v_t_some, .int t_repairedRows, .int t_repairedColumns, .int t_proof])), (h_t_failed, .inl (cI, n_t_failed, .inl t_failed_a))] H) (hD : va_D A [(h_t, .inr (1, [.int t_thrown, .int t_words, v_t_bits, v_t_cells, v_t_sense, v_t_kinds, v_t_victims, v_t_others, v_t_faults, v_t_toldKinds, v_t_toldVictims, v_t_toldOthers, v_t_told, v_t_ground, v_t_ports, v_t_scrambled, v_t_places, v_t_sorts, v_t_counts, v_t_operations, v_t_elements, v_t_newSorts, v_t_newCounts, v_t_newOperations, v_t_tape, v_t_tapeSize, v_t_place, .ref h_t_failed, .int t_failedCount, v_t_keeps, v_t_some, .int t_repairedRows, .int t_repairedColumns, .int t_proof])), (h_t_failed, .inl (cI, n_t_failed, .inl t_failed_a))]) (hS : va_S A s.heap H locs) (hl : lv_has ls 14 [(0, .ref h_t), (1, .int x1), (2, .int x2), (6, .int x6), (7, .int x7), (8, .int x8), (9, .int x9)]) : W p l e rm_RF_repair s m args below meth c H locs 0 0 (MQ below (QW D (post_RF_repair h_t h_t_failed v_t_bits v_t_cells v_t_sense v_t_kinds v_t_victims v_t_others v_t_faults v_t_toldKinds v_t_toldVictims v_t_toldOthers v_t_told v_t_ground v_t_ports v_t_scrambled v_t_places v_t_sorts v_t_counts v_t_operations v_t_elements v_t_newSorts v_t_newCounts v_t_newOperations v_t_tape v_t_tapeSize v_t_place v_t_keeps v_t_some n_t_failed t_words t_failedCount t_failed_a cI cB cJ res) A) args s 0 0 A) (F0 m 167 ls [.int s0]) := by
  obtain ⟨hx, hb, hml, hr, hlocks, hts, hown, hK, hin⟩ := id C0
  have hf : (((
  (Option.bind (f_RF_ones s0) fun q173_4 =>
  (if x1 < x9 then
    (f_RF_repair_198 (x9 + q173_4) x6 x7 x8 x9 rec133)
  else
    (Option.bind (f_RF_ones s0) fun q187_8 =>
    (if x2 < q187_8 then
      (f_RF_repair_198 (x9 + q173_4) x6 x7 x8 x9 rec133)
    else
      (f_RF_repair_199 1 (x9 + q173_4) x6 x7 x8 x9 rec133))))))) : Option (Int32 × Int32 × Int32 × Int32 × Int32)) = some res := hf
  refine lv_istore (lv' := [(10, .int s0), (0, .ref h_t), (1, .int x1), (2, .int x2), (6, .int x6), (7, .int x7), (8, .int x8), (9, .int x9)]) hx hb d_RF_repair_167 hl (by decide) rfl (fun ls hl => ?_)
  refine lv_iload hx hb d_RF_repair_169 (lv_at hl 7 rfl) ?_
  refine lv_iload hx hb d_RF_repair_171 (lv_at hl 0 rfl) ?_
  obtain ⟨q173_4, hc, hf⟩ := bindS hf
  refine mcS (n := 1) (As := [.int s0]) (rest := [.int x9]) (wr := [(h_t, .inr (1, [.int t_thrown, .int t_words, v_t_bits, v_t_cells, v_t_sense, v_t_kinds, v_t_victims, v_t_others, v_t_faults, v_t_toldKinds, v_t_toldVictims, v_t_toldOthers, v_t_told, v_t_ground, v_t_ports, v_t_scrambled, v_t_places, v_t_sorts, v_t_counts, v_t_operations, v_t_elements, v_t_newSorts, v_t_newCounts, v_t_newOperations, v_t_tape, v_t_tapeSize, v_t_place, .ref h_t_failed, .int t_failedCount, v_t_keeps, v_t_some, .int t_repairedRows, .int t_repairedColumns, .int t_proof])), (h_t_failed, .inl (cI, n_t_failed, .inl t_failed_a))]) hx hb hml hown hts hK (c_RF_ones (l := l) (D := D) (cI := cI) (cB := cB) (cJ := cJ) (a1 := s0) (sz := H.size) (res := q173_4) (hf := hc)) w_448 w_449 w_393 w_450 (by decide +kernel) rfl rfl ⟨Nat.le_of_ble_eq_true rfl, Nat.le_of_ble_eq_true rfl⟩ hP hD hS hA [] [0, 1] rfl rfl (by decide) (by decide) (by decide) hl.1 rfl rfl (lv_room (Nat.le_of_ble_eq_true rfl)) d_RF_repair_173 ⟨Nat.le_of_ble_eq_true rfl, Nat.le_of_ble_eq_true rfl⟩ (fun o ws' H locs hp hP hD hS => ?_)
  obtain ⟨rfl, rfl⟩ := hp
  have hP : va_P D classes [(h_t, .inr (1, [.int t_thrown, .int t_words, v_t_bits, v_t_cells, v_t_sense, v_t_kinds, v_t_victims, v_t_others, v_t_faults, v_t_toldKinds, v_t_toldVictims, v_t_toldOthers, v_t_told, v_t_ground, v_t_ports, v_t_scrambled, v_t_places, v_t_sorts, v_t_counts, v_t_operations, v_t_elements, v_t_newSorts, v_t_newCounts, v_t_newOperations, v_t_tape, v_t_tapeSize, v_t_place, .ref h_t_failed, .int t_failedCount, v_t_keeps, v_t_some, .int t_repairedRows, .int t_repairedColumns, .int t_proof])), (h_t_failed, .inl (cI, n_t_failed, .inl t_failed_a))] H := hP.sub [0, 1] rfl
  have hD : va_D A [(h_t, .inr (1, [.int t_thrown, .int t_words, v_t_bits, v_t_cells, v_t_sense, v_t_kinds, v_t_victims, v_t_others, v_t_faults, v_t_toldKinds, v_t_toldVictims, v_t_toldOthers, v_t_told, v_t_ground, v_t_ports, v_t_scrambled, v_t_places, v_t_sorts, v_t_counts, v_t_operations, v_t_elements, v_t_newSorts, v_t_newCounts, v_t_newOperations, v_t_tape, v_t_tapeSize, v_t_place, .ref h_t_failed, .int t_failedCount, v_t_keeps, v_t_some, .int t_repairedRows, .int t_repairedColumns, .int t_proof])), (h_t_failed, .inl (cI, n_t_failed, .inl t_failed_a))] := hD.sub [0, 1] (by decide) rfl
  refine lv_iadd hx hb d_RF_repair_176 ?_
  refine lv_istore (lv' := [(11, .int (x9 + q173_4)), (10, .int s0), (0, .ref h_t), (1, .int x1), (2, .int x2), (6, .int x6), (7, .int x7), (8, .int x8), (9, .int x9)]) hx hb d_RF_repair_177 hl (by decide) rfl (fun ls hl => ?_)
  refine lv_iload hx hb d_RF_repair_179 (lv_at hl 8 rfl) ?_
  refine lv_iload_n hx hb d_RF_repair_181 rfl (lv_at hl 3 rfl) ?_
  refine lv_icmp_gt (tgt := 198) hx hb d_RF_repair_182 (by decide) (fun cc182 => ?_) (fun cc182 => ?_)
  · have hf := ifT cc182 hf
    exact k_RF_repair_198 (s := s) C0 hA hrec133 hf hP hD hS (lv_sub hl [2, 3, 4, 5, 6, 7, 8, 0] rfl)
  · have hf := ifF cc182 hf
    refine lv_iload hx hb d_RF_repair_185 (lv_at hl 1 rfl) ?_
    obtain ⟨q187_8, hc, hf⟩ := bindS hf
    refine mcS (n := 1) (As := [.int s0]) (rest := []) (wr := [(h_t, .inr (1, [.int t_thrown, .int t_words, v_t_bits, v_t_cells, v_t_sense, v_t_kinds, v_t_victims, v_t_others, v_t_faults, v_t_toldKinds, v_t_toldVictims, v_t_toldOthers, v_t_told, v_t_ground, v_t_ports, v_t_scrambled, v_t_places, v_t_sorts, v_t_counts, v_t_operations, v_t_elements, v_t_newSorts, v_t_newCounts, v_t_newOperations, v_t_tape, v_t_tapeSize, v_t_place, .ref h_t_failed, .int t_failedCount, v_t_keeps, v_t_some, .int t_repairedRows, .int t_repairedColumns, .int t_proof])), (h_t_failed, .inl (cI, n_t_failed, .inl t_failed_a))]) hx hb hml hown hts hK (c_RF_ones (l := l) (D := D) (cI := cI) (cB := cB) (cJ := cJ) (a1 := s0) (sz := H.size) (res := q187_8) (hf := hc)) w_448 w_449 w_393 w_450 (by decide +kernel) rfl rfl ⟨Nat.le_of_ble_eq_true rfl, Nat.le_of_ble_eq_true rfl⟩ hP hD hS hA [] [0, 1] rfl rfl (by decide) (by decide) (by decide) hl.1 rfl rfl (lv_room (Nat.le_of_ble_eq_true rfl)) d_RF_repair_187 ⟨Nat.le_of_ble_eq_true rfl, Nat.le_of_ble_eq_true rfl⟩ (fun o ws' H locs hp hP hD hS => ?_)
    obtain ⟨rfl, rfl⟩ := hp
    have hP : va_P D classes [(h_t, .inr (1, [.int t_thrown, .int t_words, v_t_bits, v_t_cells, v_t_sense, v_t_kinds, v_t_victims, v_t_others, v_t_faults, v_t_toldKinds, v_t_toldVictims, v_t_toldOthers, v_t_told, v_t_ground, v_t_ports, v_t_scrambled, v_t_places, v_t_sorts, v_t_counts, v_t_operations, v_t_elements, v_t_newSorts, v_t_newCounts, v_t_newOperations, v_t_tape, v_t_tapeSize, v_t_place, .ref h_t_failed, .int t_failedCount, v_t_keeps, v_t_some, .int t_repairedRows, .int t_repairedColumns, .int t_proof])), (h_t_failed, .inl (cI, n_t_failed, .inl t_failed_a))] H := hP.sub [0, 1] rfl
    have hD : va_D A [(h_t, .inr (1, [.int t_thrown, .int t_words, v_t_bits, v_t_cells, v_t_sense, v_t_kinds, v_t_victims, v_t_others, v_t_faults, v_t_toldKinds, v_t_toldVictims, v_t_toldOthers, v_t_told, v_t_ground, v_t_ports, v_t_scrambled, v_t_places, v_t_sorts, v_t_counts, v_t_operations, v_t_elements, v_t_newSorts, v_t_newCounts, v_t_newOperations, v_t_tape, v_t_tapeSize, v_t_place, .ref h_t_failed, .int t_failedCount, v_t_keeps, v_t_some, .int t_repairedRows, .int t_repairedColumns, .int t_proof])), (h_t_failed, .inl (cI, n_t_failed, .inl t_failed_a))] := hD.sub [0, 1] (by decide) rfl
    refine lv_iload_n hx hb d_RF_repair_190 rfl (lv_at hl 4 rfl) ?_
    refine lv_icmp_gt (tgt := 198) hx hb d_RF_repair_191 (by decide) (fun cc191 => ?_) (fun cc191 => ?_)
    · have hf := ifT cc191 hf
      exact k_RF_repair_198 (s := s) C0 hA hrec133 hf hP hD hS (lv_sub hl [2, 3, 4, 5, 6, 7, 8, 0] rfl)
    · have hf := ifF cc191 hf
      refine lv_iconst (v := 1) hx hb d_RF_repair_194 (by decide) ?_
      refine lv_goto (tgt := 199) hx hb d_RF_repair_195 (by decide) ?_
      exact k_RF_repair_199 (s := s) C0 hA hrec133 hf hP hD hS (lv_sub hl [2, 3, 4, 5, 6, 7, 8, 0] rfl)
set_option maxHeartbeats 4000000 in
set_option maxRecDepth 100000 in
theorem kb_RF_repair_133 {p : Program} {l : Launch} {e : Env} {s : State} {m : MethodId} {args : Array Value} {below : List Frame} {meth : Method} {c : Code} {D : va_G} {cI cB cJ : ClassId} {A : Nat → Prop} (C0 : CX p s m args meth c D [(cI, .int), (cB, .byte), (cJ, .long)] R_RF b_RF_repair 14 (some .int) "repair") (hA : ∀ q, s.heap.size ≤ q → A q) {h_t h_t_failed : Nat} {v_t_bits v_t_cells v_t_sense v_t_kinds v_t_victims v_t_others v_t_faults v_t_toldKinds v_t_toldVictims v_t_toldOthers v_t_told v_t_ground v_t_ports v_t_scrambled v_t_places v_t_sorts v_t_counts v_t_operations v_t_elements v_t_newSorts v_t_newCounts v_t_newOperations v_t_tape v_t_tapeSize v_t_place v_t_keeps v_t_some : Value} {res : Int32 × Int32 × Int32 × Int32 × Int32} {rec133 : (Int32 × Int32 × Int32) → Option (Int32 × Int32 × Int32 × Int32 × Int32)} {n_t_failed : Nat} {t_thrown : Int32} {t_words : Int32} {t_failedCount : Int32} {t_repairedRows : Int32} {t_repairedColumns : Int32} {t_proof : Int32} {t_failed_a : Nat → Int32} {x1 : Int32} {x2 : Int32} {x6 : Int32} {x7 : Int32} {x8 : Int32}
    (hrec133 : ∀ (st : (Int32 × Int32 × Int32)), rec133 st = some res → ∀  (H : Heap) (locs : List Loc) (ls : Array Slot), va_P D classes [(h_t, .inr (1, [.int t_thrown, .int t_words, v_t_bits, v_t_cells, v_t_sense, v_t_kinds, v_t_victims, v_t_others, v_t_faults, v_t_toldKinds, v_t_toldVictims, v_t_toldOthers, v_t_told, v_t_ground, v_t_ports, v_t_scrambled, v_t_places, v_t_sorts, v_t_counts, v_t_operations, v_t_elements, v_t_newSorts, v_t_newCounts, v_t_newOperations, v_t_tape, v_t_tapeSize, v_t_place, .ref h_t_failed, .int t_failedCount, v_t_keeps, v_t_some, .int t_repairedRows, .int t_repairedColumns, .int t_proof])), (h_t_failed, .inl (cI, n_t_failed, .inl t_failed_a))] H → va_D A [(h_t, .inr (1, [.int t_thrown, .int t_words, v_t_bits, v_t_cells, v_t_sense, v_t_kinds, v_t_victims, v_t_others, v_t_faults, v_t_toldKinds, v_t_toldVictims, v_t_toldOthers, v_t_told, v_t_ground, v_t_ports, v_t_scrambled, v_t_places, v_t_sorts, v_t_counts, v_t_operations, v_t_elements, v_t_newSorts, v_t_newCounts, v_t_newOperations, v_t_tape, v_t_tapeSize, v_t_place, .ref h_t_failed, .int t_failedCount, v_t_keeps, v_t_some, .int t_repairedRows, .int t_repairedColumns, .int t_proof])), (h_t_failed, .inl (cI, n_t_failed, .inl t_failed_a))] → va_S A s.heap H locs → lv_has ls 14 [(0, .ref h_t), (1, .int x1), (2, .int x2), (6, .int st.1), (7, .int st.2.1), (8, .int st.2.2)] → W p l e rm_RF_repair s m args below meth c H locs 0 0 (MQ below (QW D (post_RF_repair h_t h_t_failed v_t_bits v_t_cells v_t_sense v_t_kinds v_t_victims v_t_others v_t_faults v_t_toldKinds v_t_toldVictims v_t_toldOthers v_t_told v_t_ground v_t_ports v_t_scrambled v_t_places v_t_sorts v_t_counts v_t_operations v_t_elements v_t_newSorts v_t_newCounts v_t_newOperations v_t_tape v_t_tapeSize v_t_place v_t_keeps v_t_some n_t_failed t_words t_failedCount t_failed_a cI cB cJ res) A) args s 0 0 A) (F0 m 133 ls []))
    (hf : g_RF_repair_133 n_t_failed t_thrown t_words t_failedCount t_repairedRows t_repairedColumns t_proof t_failed_a x1 x2 rec133 (x6, x7, x8) = some res) {H : Heap} {locs : List Loc} {ls : Array Slot} (hP : va_P D classes [(h_t, .inr (1, [.int t_thrown, .int t_words, v_t_bits, v_t_cells, v_t_sense, v_t_kinds, v_t_victims, v_t_others, v_t_faults, v_t_toldKinds, v_t_toldVictims, v_t_toldOthers, v_t_told, v_t_ground, v_t_ports, v_t_scrambled, v_t_places, v_t_sorts, v_t_counts, v_t_operations, v_t_elements, v_t_newSorts, v_t_newCounts, v_t_newOperations, v_t_tape, v_t_tapeSize, v_t_place, .ref h_t_failed, .int t_failedCount, v_t_keeps, v_t_some, .int t_repairedRows, .int t_repairedColumns, .int t_proof])), (h_t_failed, .inl (cI, n_t_failed, .inl t_failed_a))] H) (hD : va_D A [(h_t, .inr (1, [.int t_thrown, .int t_words, v_t_bits, v_t_cells, v_t_sense, v_t_kinds, v_t_victims, v_t_others, v_t_faults, v_t_toldKinds, v_t_toldVictims, v_t_toldOthers, v_t_told, v_t_ground, v_t_ports, v_t_scrambled, v_t_places, v_t_sorts, v_t_counts, v_t_operations, v_t_elements, v_t_newSorts, v_t_newCounts, v_t_newOperations, v_t_tape, v_t_tapeSize, v_t_place, .ref h_t_failed, .int t_failedCount, v_t_keeps, v_t_some, .int t_repairedRows, .int t_repairedColumns, .int t_proof])), (h_t_failed, .inl (cI, n_t_failed, .inl t_failed_a))]) (hS : va_S A s.heap H locs) (hl : lv_has ls 14 [(0, .ref h_t), (1, .int x1), (2, .int x2), (6, .int x6), (7, .int x7), (8, .int x8)]) : W p l e rm_RF_repair s m args below meth c H locs 0 0 (MQ below (QW D (post_RF_repair h_t h_t_failed v_t_bits v_t_cells v_t_sense v_t_kinds v_t_victims v_t_others v_t_faults v_t_toldKinds v_t_toldVictims v_t_toldOthers v_t_told v_t_ground v_t_ports v_t_scrambled v_t_places v_t_sorts v_t_counts v_t_operations v_t_elements v_t_newSorts v_t_newCounts v_t_newOperations v_t_tape v_t_tapeSize v_t_place v_t_keeps v_t_some n_t_failed t_words t_failedCount t_failed_a cI cB cJ res) A) args s 0 0 A) (F0 m 133 ls []) := by
  obtain ⟨hx, hb, hml, hr, hlocks, hts, hown, hK, hin⟩ := id C0
  have hf : (((
  (if (1 <<< (t_words &&& 31)) ≤ x8 then
    (if 0 ≤ x6 then
      (Option.bind (f_RF_columnsFor n_t_failed t_failedCount t_failed_a x6) fun q298_2 =>
      some (x7, t_thrown, x6, q298_2, t_proof))
    else
      some ((-1), t_thrown, t_repairedRows, t_repairedColumns, t_proof))
  else
    (Option.bind (f_RF_ones x8) fun q146_3 =>
    (if x1 < q146_3 then
      (f_RF_repair_167 0 x1 x2 x6 x7 x8 q146_3 rec133)
    else
      (Option.bind (f_RF_columnsFor n_t_failed t_failedCount t_failed_a x8) fun q160_9 =>
      (f_RF_repair_167 q160_9 x1 x2 x6 x7 x8 q146_3 rec133))))))) : Option (Int32 × Int32 × Int32 × Int32 × Int32)) = some res := hf
  refine lv_iload hx hb d_RF_repair_133 (lv_at hl 5 rfl) ?_
  refine lv_iconst (v := 1) hx hb d_RF_repair_135 (by decide) ?_
  refine lv_aload_n hx hb d_RF_repair_136 rfl (lv_at hl 0 rfl) ?_
  refine va_get (D := D) (ci := 1) (v := .int t_words) (C := R_RF) (T := F_RF) (N := 34) hx hb hts i_RF hown hK.1 hP 0 rfl rfl 1 (by decide) (hts _ w_384) (fun _ h9 => h9) rfl d_RF_repair_137 ?_
  refine lv_ishl hx hb d_RF_repair_140 ?_
  refine lv_icmp_ge (tgt := 281) hx hb d_RF_repair_141 (by decide) (fun cc141 => ?_) (fun cc141 => ?_)
  · have hf := ifT cc141 hf
    refine lv_iload hx hb d_RF_repair_281 (lv_at hl 3 rfl) ?_
    refine lv_if_ge (tgt := 288) hx hb d_RF_repair_283 (by decide) (fun cc283 => ?_) (fun cc283 => ?_)
    · have hf := ifT cc283 hf
      refine lv_aload_n hx hb d_RF_repair_288 rfl (lv_at hl 0 rfl) ?_
      refine lv_iload hx hb d_RF_repair_289 (lv_at hl 3 rfl) ?_
      refine va_put (D := D) (ci := 1) (v := .int x6) (ty := .int) (C := R_RF) (T := F_RF) (N := 34) hx hb hts i_RF t_RF t_RF_ok n_RF hown hK.1 hP hD hS 0 rfl rfl 31 (by decide) (hts _ w_446) (fun _ h9 => h9) rfl (t_RF_ok 31 (by decide)) rfl rfl (Nat.le_of_ble_eq_true rfl) d_RF_repair_291 (fun H locs hP hD hS => ?_)
      have hP : va_P D classes [(h_t, .inr (1, [.int t_thrown, .int t_words, v_t_bits, v_t_cells, v_t_sense, v_t_kinds, v_t_victims, v_t_others, v_t_faults, v_t_toldKinds, v_t_toldVictims, v_t_toldOthers, v_t_told, v_t_ground, v_t_ports, v_t_scrambled, v_t_places, v_t_sorts, v_t_counts, v_t_operations, v_t_elements, v_t_newSorts, v_t_newCounts, v_t_newOperations, v_t_tape, v_t_tapeSize, v_t_place, .ref h_t_failed, .int t_failedCount, v_t_keeps, v_t_some, .int x6, .int t_repairedColumns, .int t_proof])), (h_t_failed, .inl (cI, n_t_failed, .inl t_failed_a))] H := hP
      have hD : va_D A [(h_t, .inr (1, [.int t_thrown, .int t_words, v_t_bits, v_t_cells, v_t_sense, v_t_kinds, v_t_victims, v_t_others, v_t_faults, v_t_toldKinds, v_t_toldVictims, v_t_toldOthers, v_t_told, v_t_ground, v_t_ports, v_t_scrambled, v_t_places, v_t_sorts, v_t_counts, v_t_operations, v_t_elements, v_t_newSorts, v_t_newCounts, v_t_newOperations, v_t_tape, v_t_tapeSize, v_t_place, .ref h_t_failed, .int t_failedCount, v_t_keeps, v_t_some, .int x6, .int t_repairedColumns, .int t_proof])), (h_t_failed, .inl (cI, n_t_failed, .inl t_failed_a))] := hD
      refine lv_aload_n hx hb d_RF_repair_294 rfl (lv_at hl 0 rfl) ?_
      refine lv_aload_n hx hb d_RF_repair_295 rfl (lv_at hl 0 rfl) ?_
      refine lv_iload hx hb d_RF_repair_296 (lv_at hl 3 rfl) ?_
      obtain ⟨q298_2, hc, hf⟩ := bindS hf
      refine mcV (n := 1) (As := [.int x6]) (rest := [.ref h_t]) (wr := []) hx hb hml hown hts hK (c_RF_columnsFor (l := l) (D := D) (cI := cI) (cB := cB) (cJ := cJ) (h_t := h_t) (h_t_failed := h_t_failed) (v_t_thrown := (.int t_thrown)) (v_t_words := (.int t_words)) (v_t_bits := v_t_bits) (v_t_cells := v_t_cells) (v_t_sense := v_t_sense) (v_t_kinds := v_t_kinds) (v_t_victims := v_t_victims) (v_t_others := v_t_others) (v_t_faults := v_t_faults) (v_t_toldKinds := v_t_toldKinds) (v_t_toldVictims := v_t_toldVictims) (v_t_toldOthers := v_t_toldOthers) (v_t_told := v_t_told) (v_t_ground := v_t_ground) (v_t_ports := v_t_ports) (v_t_scrambled := v_t_scrambled) (v_t_places := v_t_places) (v_t_sorts := v_t_sorts) (v_t_counts := v_t_counts) (v_t_operations := v_t_operations) (v_t_elements := v_t_elements) (v_t_newSorts := v_t_newSorts) (v_t_newCounts := v_t_newCounts) (v_t_newOperations := v_t_newOperations) (v_t_tape := v_t_tape) (v_t_tapeSize := v_t_tapeSize) (v_t_place := v_t_place) (v_t_keeps := v_t_keeps) (v_t_some := v_t_some) (v_t_repairedRows := (.int x6)) (v_t_repairedColumns := (.int t_repairedColumns)) (v_t_proof := (.int t_proof)) (n_t_failed := n_t_failed) (t_failedCount := t_failedCount) (t_failed_a := t_failed_a) (a1 := x6) (sz := H.size) (res := q298_2) (hf := hc)) w_452 w_453 w_454 w_393 w_455 (by decide +kernel) rfl rfl ⟨Nat.le_of_ble_eq_true rfl, Nat.le_of_ble_eq_true rfl⟩ hP hD hS hA [0, 1] [] rfl rfl (by decide) (by decide) (by decide) (ci := 1) 0 rfl rfl hl.1 rfl rfl (lv_room (Nat.le_of_ble_eq_true rfl)) d_RF_repair_298 ⟨Nat.le_of_ble_eq_true rfl, Nat.le_of_ble_eq_true rfl⟩ (fun o ws' H locs hp hP hD hS => ?_)
      obtain ⟨rfl, rfl⟩ := hp
      have hP : va_P D classes [(h_t, .inr (1, [.int t_thrown, .int t_words, v_t_bits, v_t_cells, v_t_sense, v_t_kinds, v_t_victims, v_t_others, v_t_faults, v_t_toldKinds, v_t_toldVictims, v_t_toldOthers, v_t_told, v_t_ground, v_t_ports, v_t_scrambled, v_t_places, v_t_sorts, v_t_counts, v_t_operations, v_t_elements, v_t_newSorts, v_t_newCounts, v_t_newOperations, v_t_tape, v_t_tapeSize, v_t_place, .ref h_t_failed, .int t_failedCount, v_t_keeps, v_t_some, .int x6, .int t_repairedColumns, .int t_proof])), (h_t_failed, .inl (cI, n_t_failed, .inl t_failed_a))] H := hP.sub [0, 1] rfl
      have hD : va_D A [(h_t, .inr (1, [.int t_thrown, .int t_words, v_t_bits, v_t_cells, v_t_sense, v_t_kinds, v_t_victims, v_t_others, v_t_faults, v_t_toldKinds, v_t_toldVictims, v_t_toldOthers, v_t_told, v_t_ground, v_t_ports, v_t_scrambled, v_t_places, v_t_sorts, v_t_counts, v_t_operations, v_t_elements, v_t_newSorts, v_t_newCounts, v_t_newOperations, v_t_tape, v_t_tapeSize, v_t_place, .ref h_t_failed, .int t_failedCount, v_t_keeps, v_t_some, .int x6, .int t_repairedColumns, .int t_proof])), (h_t_failed, .inl (cI, n_t_failed, .inl t_failed_a))] := hD.sub [0, 1] (by decide) rfl
      refine va_put (D := D) (ci := 1) (v := .int q298_2) (ty := .int) (C := R_RF) (T := F_RF) (N := 34) hx hb hts i_RF t_RF t_RF_ok n_RF hown hK.1 hP hD hS 0 rfl rfl 32 (by decide) (hts _ w_447) (fun _ h9 => h9) rfl (t_RF_ok 32 (by decide)) rfl rfl (Nat.le_of_ble_eq_true rfl) d_RF_repair_301 (fun H locs hP hD hS => ?_)
      have hP : va_P D classes [(h_t, .inr (1, [.int t_thrown, .int t_words, v_t_bits, v_t_cells, v_t_sense, v_t_kinds, v_t_victims, v_t_others, v_t_faults, v_t_toldKinds, v_t_toldVictims, v_t_toldOthers, v_t_told, v_t_ground, v_t_ports, v_t_scrambled, v_t_places, v_t_sorts, v_t_counts, v_t_operations, v_t_elements, v_t_newSorts, v_t_newCounts, v_t_newOperations, v_t_tape, v_t_tapeSize, v_t_place, .ref h_t_failed, .int t_failedCount, v_t_keeps, v_t_some, .int x6, .int q298_2, .int t_proof])), (h_t_failed, .inl (cI, n_t_failed, .inl t_failed_a))] H := hP
      have hD : va_D A [(h_t, .inr (1, [.int t_thrown, .int t_words, v_t_bits, v_t_cells, v_t_sense, v_t_kinds, v_t_victims, v_t_others, v_t_faults, v_t_toldKinds, v_t_toldVictims, v_t_toldOthers, v_t_told, v_t_ground, v_t_ports, v_t_scrambled, v_t_places, v_t_sorts, v_t_counts, v_t_operations, v_t_elements, v_t_newSorts, v_t_newCounts, v_t_newOperations, v_t_tape, v_t_tapeSize, v_t_place, .ref h_t_failed, .int t_failedCount, v_t_keeps, v_t_some, .int x6, .int q298_2, .int t_proof])), (h_t_failed, .inl (cI, n_t_failed, .inl t_failed_a))] := hD
      refine lv_iload hx hb d_RF_repair_304 (lv_at hl 4 rfl) ?_
      obtain rfl := Option.some.inj hf
      exact ret_i hx hb hr hlocks hP hD hS ⟨rfl, rfl⟩ d_RF_repair_306
    · have hf := ifF cc283 hf
      refine lv_iconst (v := (-1)) hx hb d_RF_repair_286 (by decide) ?_
      obtain rfl := Option.some.inj hf
      exact ret_i hx hb hr hlocks hP hD hS ⟨rfl, rfl⟩ d_RF_repair_287
  · have hf := ifF cc141 hf
    refine lv_iload hx hb d_RF_repair_144 (lv_at hl 5 rfl) ?_
    obtain ⟨q146_3, hc, hf⟩ := bindS hf
    refine mcS (n := 1) (As := [.int x8]) (rest := []) (wr := [(h_t, .inr (1, [.int t_thrown, .int t_words, v_t_bits, v_t_cells, v_t_sense, v_t_kinds, v_t_victims, v_t_others, v_t_faults, v_t_toldKinds, v_t_toldVictims, v_t_toldOthers, v_t_told, v_t_ground, v_t_ports, v_t_scrambled, v_t_places, v_t_sorts, v_t_counts, v_t_operations, v_t_elements, v_t_newSorts, v_t_newCounts, v_t_newOperations, v_t_tape, v_t_tapeSize, v_t_place, .ref h_t_failed, .int t_failedCount, v_t_keeps, v_t_some, .int t_repairedRows, .int t_repairedColumns, .int t_proof])), (h_t_failed, .inl (cI, n_t_failed, .inl t_failed_a))]) hx hb hml hown hts hK (c_RF_ones (l := l) (D := D) (cI := cI) (cB := cB) (cJ := cJ) (a1 := x8) (sz := H.size) (res := q146_3) (hf := hc)) w_448 w_449 w_393 w_450 (by decide +kernel) rfl rfl ⟨Nat.le_of_ble_eq_true rfl, Nat.le_of_ble_eq_true rfl⟩ hP hD hS hA [] [0, 1] rfl rfl (by decide) (by decide) (by decide) hl.1 rfl rfl (lv_room (Nat.le_of_ble_eq_true rfl)) d_RF_repair_146 ⟨Nat.le_of_ble_eq_true rfl, Nat.le_of_ble_eq_true rfl⟩ (fun o ws' H locs hp hP hD hS => ?_)
    obtain ⟨rfl, rfl⟩ := hp
    have hP : va_P D classes [(h_t, .inr (1, [.int t_thrown, .int t_words, v_t_bits, v_t_cells, v_t_sense, v_t_kinds, v_t_victims, v_t_others, v_t_faults, v_t_toldKinds, v_t_toldVictims, v_t_toldOthers, v_t_told, v_t_ground, v_t_ports, v_t_scrambled, v_t_places, v_t_sorts, v_t_counts, v_t_operations, v_t_elements, v_t_newSorts, v_t_newCounts, v_t_newOperations, v_t_tape, v_t_tapeSize, v_t_place, .ref h_t_failed, .int t_failedCount, v_t_keeps, v_t_some, .int t_repairedRows, .int t_repairedColumns, .int t_proof])), (h_t_failed, .inl (cI, n_t_failed, .inl t_failed_a))] H := hP.sub [0, 1] rfl
    have hD : va_D A [(h_t, .inr (1, [.int t_thrown, .int t_words, v_t_bits, v_t_cells, v_t_sense, v_t_kinds, v_t_victims, v_t_others, v_t_faults, v_t_toldKinds, v_t_toldVictims, v_t_toldOthers, v_t_told, v_t_ground, v_t_ports, v_t_scrambled, v_t_places, v_t_sorts, v_t_counts, v_t_operations, v_t_elements, v_t_newSorts, v_t_newCounts, v_t_newOperations, v_t_tape, v_t_tapeSize, v_t_place, .ref h_t_failed, .int t_failedCount, v_t_keeps, v_t_some, .int t_repairedRows, .int t_repairedColumns, .int t_proof])), (h_t_failed, .inl (cI, n_t_failed, .inl t_failed_a))] := hD.sub [0, 1] (by decide) rfl
    refine lv_istore (lv' := [(9, .int q146_3), (0, .ref h_t), (1, .int x1), (2, .int x2), (6, .int x6), (7, .int x7), (8, .int x8)]) hx hb d_RF_repair_149 hl (by decide) rfl (fun ls hl => ?_)
    refine lv_iload hx hb d_RF_repair_151 (lv_at hl 0 rfl) ?_
    refine lv_iload_n hx hb d_RF_repair_153 rfl (lv_at hl 2 rfl) ?_
    refine lv_icmp_gt (tgt := 166) hx hb d_RF_repair_154 (by decide) (fun cc154 => ?_) (fun cc154 => ?_)
    · have hf := ifT cc154 hf
      refine lv_iconst (v := 0) hx hb d_RF_repair_166 (by decide) ?_
      exact k_RF_repair_167 (s := s) C0 hA hrec133 hf hP hD hS (lv_sub hl [1, 2, 3, 4, 5, 6, 0] rfl)
    · have hf := ifF cc154 hf
      refine lv_aload_n hx hb d_RF_repair_157 rfl (lv_at hl 1 rfl) ?_
      refine lv_iload hx hb d_RF_repair_158 (lv_at hl 6 rfl) ?_
      obtain ⟨q160_9, hc, hf⟩ := bindS hf
      refine mcV (n := 1) (As := [.int x8]) (rest := []) (wr := []) hx hb hml hown hts hK (c_RF_columnsFor (l := l) (D := D) (cI := cI) (cB := cB) (cJ := cJ) (h_t := h_t) (h_t_failed := h_t_failed) (v_t_thrown := (.int t_thrown)) (v_t_words := (.int t_words)) (v_t_bits := v_t_bits) (v_t_cells := v_t_cells) (v_t_sense := v_t_sense) (v_t_kinds := v_t_kinds) (v_t_victims := v_t_victims) (v_t_others := v_t_others) (v_t_faults := v_t_faults) (v_t_toldKinds := v_t_toldKinds) (v_t_toldVictims := v_t_toldVictims) (v_t_toldOthers := v_t_toldOthers) (v_t_told := v_t_told) (v_t_ground := v_t_ground) (v_t_ports := v_t_ports) (v_t_scrambled := v_t_scrambled) (v_t_places := v_t_places) (v_t_sorts := v_t_sorts) (v_t_counts := v_t_counts) (v_t_operations := v_t_operations) (v_t_elements := v_t_elements) (v_t_newSorts := v_t_newSorts) (v_t_newCounts := v_t_newCounts) (v_t_newOperations := v_t_newOperations) (v_t_tape := v_t_tape) (v_t_tapeSize := v_t_tapeSize) (v_t_place := v_t_place) (v_t_keeps := v_t_keeps) (v_t_some := v_t_some) (v_t_repairedRows := (.int t_repairedRows)) (v_t_repairedColumns := (.int t_repairedColumns)) (v_t_proof := (.int t_proof)) (n_t_failed := n_t_failed) (t_failedCount := t_failedCount) (t_failed_a := t_failed_a) (a1 := x8) (sz := H.size) (res := q160_9) (hf := hc)) w_452 w_453 w_454 w_393 w_455 (by decide +kernel) rfl rfl ⟨Nat.le_of_ble_eq_true rfl, Nat.le_of_ble_eq_true rfl⟩ hP hD hS hA [0, 1] [] rfl rfl (by decide) (by decide) (by decide) (ci := 1) 0 rfl rfl hl.1 rfl rfl (lv_room (Nat.le_of_ble_eq_true rfl)) d_RF_repair_160 ⟨Nat.le_of_ble_eq_true rfl, Nat.le_of_ble_eq_true rfl⟩ (fun o ws' H locs hp hP hD hS => ?_)
      obtain ⟨rfl, rfl⟩ := hp
      have hP : va_P D classes [(h_t, .inr (1, [.int t_thrown, .int t_words, v_t_bits, v_t_cells, v_t_sense, v_t_kinds, v_t_victims, v_t_others, v_t_faults, v_t_toldKinds, v_t_toldVictims, v_t_toldOthers, v_t_told, v_t_ground, v_t_ports, v_t_scrambled, v_t_places, v_t_sorts, v_t_counts, v_t_operations, v_t_elements, v_t_newSorts, v_t_newCounts, v_t_newOperations, v_t_tape, v_t_tapeSize, v_t_place, .ref h_t_failed, .int t_failedCount, v_t_keeps, v_t_some, .int t_repairedRows, .int t_repairedColumns, .int t_proof])), (h_t_failed, .inl (cI, n_t_failed, .inl t_failed_a))] H := hP.sub [0, 1] rfl
      have hD : va_D A [(h_t, .inr (1, [.int t_thrown, .int t_words, v_t_bits, v_t_cells, v_t_sense, v_t_kinds, v_t_victims, v_t_others, v_t_faults, v_t_toldKinds, v_t_toldVictims, v_t_toldOthers, v_t_told, v_t_ground, v_t_ports, v_t_scrambled, v_t_places, v_t_sorts, v_t_counts, v_t_operations, v_t_elements, v_t_newSorts, v_t_newCounts, v_t_newOperations, v_t_tape, v_t_tapeSize, v_t_place, .ref h_t_failed, .int t_failedCount, v_t_keeps, v_t_some, .int t_repairedRows, .int t_repairedColumns, .int t_proof])), (h_t_failed, .inl (cI, n_t_failed, .inl t_failed_a))] := hD.sub [0, 1] (by decide) rfl
      refine lv_goto (tgt := 167) hx hb d_RF_repair_163 (by decide) ?_
      exact k_RF_repair_167 (s := s) C0 hA hrec133 hf hP hD hS (lv_sub hl [1, 2, 3, 4, 5, 6, 0] rfl)
set_option maxHeartbeats 4000000 in
set_option maxRecDepth 100000 in
theorem k_RF_repair_133 {p : Program} {l : Launch} {e : Env} {s : State} {m : MethodId} {args : Array Value} {below : List Frame} {meth : Method} {c : Code} {D : va_G} {cI cB cJ : ClassId} {A : Nat → Prop} (C0 : CX p s m args meth c D [(cI, .int), (cB, .byte), (cJ, .long)] R_RF b_RF_repair 14 (some .int) "repair") (hA : ∀ q, s.heap.size ≤ q → A q) {h_t h_t_failed : Nat} {v_t_bits v_t_cells v_t_sense v_t_kinds v_t_victims v_t_others v_t_faults v_t_toldKinds v_t_toldVictims v_t_toldOthers v_t_told v_t_ground v_t_ports v_t_scrambled v_t_places v_t_sorts v_t_counts v_t_operations v_t_elements v_t_newSorts v_t_newCounts v_t_newOperations v_t_tape v_t_tapeSize v_t_place v_t_keeps v_t_some : Value} {res : Int32 × Int32 × Int32 × Int32 × Int32} {n_t_failed : Nat} {t_thrown : Int32} {t_words : Int32} {t_failedCount : Int32} {t_repairedRows : Int32} {t_repairedColumns : Int32} {t_proof : Int32} {t_failed_a : Nat → Int32} {x1 : Int32} {x2 : Int32}
    : ∀ (n : Nat) (st : (Int32 × Int32 × Int32)), lp (g_RF_repair_133 n_t_failed t_thrown t_words t_failedCount t_repairedRows t_repairedColumns t_proof t_failed_a x1 x2) n st = some res → ∀  (H : Heap) (locs : List Loc) (ls : Array Slot), va_P D classes [(h_t, .inr (1, [.int t_thrown, .int t_words, v_t_bits, v_t_cells, v_t_sense, v_t_kinds, v_t_victims, v_t_others, v_t_faults, v_t_toldKinds, v_t_toldVictims, v_t_toldOthers, v_t_told, v_t_ground, v_t_ports, v_t_scrambled, v_t_places, v_t_sorts, v_t_counts, v_t_operations, v_t_elements, v_t_newSorts, v_t_newCounts, v_t_newOperations, v_t_tape, v_t_tapeSize, v_t_place, .ref h_t_failed, .int t_failedCount, v_t_keeps, v_t_some, .int t_repairedRows, .int t_repairedColumns, .int t_proof])), (h_t_failed, .inl (cI, n_t_failed, .inl t_failed_a))] H → va_D A [(h_t, .inr (1, [.int t_thrown, .int t_words, v_t_bits, v_t_cells, v_t_sense, v_t_kinds, v_t_victims, v_t_others, v_t_faults, v_t_toldKinds, v_t_toldVictims, v_t_toldOthers, v_t_told, v_t_ground, v_t_ports, v_t_scrambled, v_t_places, v_t_sorts, v_t_counts, v_t_operations, v_t_elements, v_t_newSorts, v_t_newCounts, v_t_newOperations, v_t_tape, v_t_tapeSize, v_t_place, .ref h_t_failed, .int t_failedCount, v_t_keeps, v_t_some, .int t_repairedRows, .int t_repairedColumns, .int t_proof])), (h_t_failed, .inl (cI, n_t_failed, .inl t_failed_a))] → va_S A s.heap H locs → lv_has ls 14 [(0, .ref h_t), (1, .int x1), (2, .int x2), (6, .int st.1), (7, .int st.2.1), (8, .int st.2.2)] → W p l e rm_RF_repair s m args below meth c H locs 0 0 (MQ below (QW D (post_RF_repair h_t h_t_failed v_t_bits v_t_cells v_t_sense v_t_kinds v_t_victims v_t_others v_t_faults v_t_toldKinds v_t_toldVictims v_t_toldOthers v_t_told v_t_ground v_t_ports v_t_scrambled v_t_places v_t_sorts v_t_counts v_t_operations v_t_elements v_t_newSorts v_t_newCounts v_t_newOperations v_t_tape v_t_tapeSize v_t_place v_t_keeps v_t_some n_t_failed t_words t_failedCount t_failed_a cI cB cJ res) A) args s 0 0 A) (F0 m 133 ls []) := by
  intro n
  induction n with
  | zero => intro st hf; exact absurd hf (by simp [lp])
  | succ n ih =>
    intro st hf  H locs ls hP hD hS hl
    exact kb_RF_repair_133 C0 hA (rec133 := lp (g_RF_repair_133 n_t_failed t_thrown t_words t_failedCount t_repairedRows t_repairedColumns t_proof t_failed_a x1 x2) n) (x6 := st.1) (x7 := st.2.1) (x8 := st.2.2)  (fun st hf  H locs ls hP hD hS hl => ih st hf  H locs ls hP hD hS hl) hf hP hD hS hl
set_option maxHeartbeats 4000000 in
set_option maxRecDepth 100000 in
theorem k_RF_repair_110 {p : Program} {l : Launch} {e : Env} {s : State} {m : MethodId} {args : Array Value} {below : List Frame} {meth : Method} {c : Code} {D : va_G} {cI cB cJ : ClassId} {A : Nat → Prop} (C0 : CX p s m args meth c D [(cI, .int), (cB, .byte), (cJ, .long)] R_RF b_RF_repair 14 (some .int) "repair") (hA : ∀ q, s.heap.size ≤ q → A q) {h_t h_t_failed : Nat} {v_t_bits v_t_cells v_t_sense v_t_kinds v_t_victims v_t_others v_t_faults v_t_toldKinds v_t_toldVictims v_t_toldOthers v_t_told v_t_ground v_t_ports v_t_scrambled v_t_places v_t_sorts v_t_counts v_t_operations v_t_elements v_t_newSorts v_t_newCounts v_t_newOperations v_t_tape v_t_tapeSize v_t_place v_t_keeps v_t_some : Value} {res : Int32 × Int32 × Int32 × Int32 × Int32} {n_t_failed : Nat} {t_thrown : Int32} {t_words : Int32} {t_failedCount : Int32} {t_repairedRows : Int32} {t_repairedColumns : Int32} {t_proof : Int32} {t_failed_a : Nat → Int32} {s1 : Int32} {x1 : Int32} {x2 : Int32}
    (hf : f_RF_repair_110 n_t_failed t_thrown t_words t_failedCount t_repairedRows t_repairedColumns t_failed_a s1 x1 x2 = some res) {H : Heap} {locs : List Loc} {ls : Array Slot} (hP : va_P D classes [(h_t, .inr (1, [.int t_thrown, .int t_words, v_t_bits, v_t_cells, v_t_sense, v_t_kinds, v_t_victims, v_t_others, v_t_faults, v_t_toldKinds, v_t_toldVictims, v_t_toldOthers, v_t_told, v_t_ground, v_t_ports, v_t_scrambled, v_t_places, v_t_sorts, v_t_counts, v_t_operations, v_t_elements, v_t_newSorts, v_t_newCounts, v_t_newOperations, v_t_tape, v_t_tapeSize, v_t_place, .ref h_t_failed, .int t_failedCount, v_t_keeps, v_t_some, .int t_repairedRows, .int t_repairedColumns, .int t_proof])), (h_t_failed, .inl (cI, n_t_failed, .inl t_failed_a))] H) (hD : va_D A [(h_t, .inr (1, [.int t_thrown, .int t_words, v_t_bits, v_t_cells, v_t_sense, v_t_kinds, v_t_victims, v_t_others, v_t_faults, v_t_toldKinds, v_t_toldVictims, v_t_toldOthers, v_t_told, v_t_ground, v_t_ports, v_t_scrambled, v_t_places, v_t_sorts, v_t_counts, v_t_operations, v_t_elements, v_t_newSorts, v_t_newCounts, v_t_newOperations, v_t_tape, v_t_tapeSize, v_t_place, .ref h_t_failed, .int t_failedCount, v_t_keeps, v_t_some, .int t_repairedRows, .int t_repairedColumns, .int t_proof])), (h_t_failed, .inl (cI, n_t_failed, .inl t_failed_a))]) (hS : va_S A s.heap H locs) (hl : lv_has ls 14 [(0, .ref h_t), (1, .int x1), (2, .int x2)]) : W p l e rm_RF_repair s m args below meth c H locs 0 0 (MQ below (QW D (post_RF_repair h_t h_t_failed v_t_bits v_t_cells v_t_sense v_t_kinds v_t_victims v_t_others v_t_faults v_t_toldKinds v_t_toldVictims v_t_toldOthers v_t_told v_t_ground v_t_ports v_t_scrambled v_t_places v_t_sorts v_t_counts v_t_operations v_t_elements v_t_newSorts v_t_newCounts v_t_newOperations v_t_tape v_t_tapeSize v_t_place v_t_keeps v_t_some n_t_failed t_words t_failedCount t_failed_a cI cB cJ res) A) args s 0 0 A) (F0 m 110 ls [.int s1, .ref h_t]) := by
  obtain ⟨hx, hb, hml, hr, hlocks, hts, hown, hK, hin⟩ := id C0
  have hf : (((
  (if isB s1 = true then
  (if s1 = 0 then
    some ((-2), t_thrown, t_repairedRows, t_repairedColumns, s1)
  else
    (lp (g_RF_repair_133 n_t_failed t_thrown t_words t_failedCount t_repairedRows t_repairedColumns s1 t_failed_a x1 x2) 100000 ((-1), 99, 0)))
  else none))) : Option (Int32 × Int32 × Int32 × Int32 × Int32)) = some res := hf
  obtain ⟨hbb, hf⟩ := ifG hf
  refine va_put (D := D) (ci := 1) (v := .int s1) (ty := .boolean) (C := R_RF) (T := F_RF) (N := 34) hx hb hts i_RF t_RF t_RF_ok n_RF hown hK.1 hP hD hS 0 rfl rfl 33 (by decide) (hts _ w_451) (fun _ h9 => h9) rfl (t_RF_ok 33 (by decide)) (nar_b hbb) (fit_b hbb) (Nat.le_of_ble_eq_true rfl) d_RF_repair_110 (fun H locs hP hD hS => ?_)
  have hP : va_P D classes [(h_t, .inr (1, [.int t_thrown, .int t_words, v_t_bits, v_t_cells, v_t_sense, v_t_kinds, v_t_victims, v_t_others, v_t_faults, v_t_toldKinds, v_t_toldVictims, v_t_toldOthers, v_t_told, v_t_ground, v_t_ports, v_t_scrambled, v_t_places, v_t_sorts, v_t_counts, v_t_operations, v_t_elements, v_t_newSorts, v_t_newCounts, v_t_newOperations, v_t_tape, v_t_tapeSize, v_t_place, .ref h_t_failed, .int t_failedCount, v_t_keeps, v_t_some, .int t_repairedRows, .int t_repairedColumns, .int s1])), (h_t_failed, .inl (cI, n_t_failed, .inl t_failed_a))] H := hP
  have hD : va_D A [(h_t, .inr (1, [.int t_thrown, .int t_words, v_t_bits, v_t_cells, v_t_sense, v_t_kinds, v_t_victims, v_t_others, v_t_faults, v_t_toldKinds, v_t_toldVictims, v_t_toldOthers, v_t_told, v_t_ground, v_t_ports, v_t_scrambled, v_t_places, v_t_sorts, v_t_counts, v_t_operations, v_t_elements, v_t_newSorts, v_t_newCounts, v_t_newOperations, v_t_tape, v_t_tapeSize, v_t_place, .ref h_t_failed, .int t_failedCount, v_t_keeps, v_t_some, .int t_repairedRows, .int t_repairedColumns, .int s1])), (h_t_failed, .inl (cI, n_t_failed, .inl t_failed_a))] := hD
  refine lv_aload_n hx hb d_RF_repair_113 rfl (lv_at hl 0 rfl) ?_
  refine va_get (D := D) (ci := 1) (v := .int s1) (C := R_RF) (T := F_RF) (N := 34) hx hb hts i_RF hown hK.1 hP 0 rfl rfl 33 (by decide) (hts _ w_451) (fun _ h9 => h9) rfl d_RF_repair_114 ?_
  refine lv_if_ne (tgt := 123) hx hb d_RF_repair_117 (by decide) (fun cc117 => ?_) (fun cc117 => ?_)
  · have hf := ifF cc117 hf
    refine lv_iconst (v := (-1)) hx hb d_RF_repair_123 (by decide) ?_
    refine lv_istore (lv' := [(6, .int (-1)), (0, .ref h_t), (1, .int x1), (2, .int x2)]) hx hb d_RF_repair_124 hl (by decide) rfl (fun ls hl => ?_)
    refine lv_bipush (v := 99) hx hb d_RF_repair_126 (by decide) ?_
    refine lv_istore (lv' := [(7, .int 99), (6, .int (-1)), (0, .ref h_t), (1, .int x1), (2, .int x2)]) hx hb d_RF_repair_128 hl (by decide) rfl (fun ls hl => ?_)
    refine lv_iconst (v := 0) hx hb d_RF_repair_130 (by decide) ?_
    refine lv_istore (lv' := [(8, .int 0), (7, .int 99), (6, .int (-1)), (0, .ref h_t), (1, .int x1), (2, .int x2)]) hx hb d_RF_repair_131 hl (by decide) rfl (fun ls hl => ?_)
    exact k_RF_repair_133 (s := s) C0 hA _ ((-1), 99, 0) hf  H locs ls hP hD hS (lv_sub hl [3, 4, 5, 2, 1, 0] rfl)
  · have hf := ifT cc117 hf
    refine lv_bipush (v := (-2)) hx hb d_RF_repair_120 (by decide) ?_
    obtain rfl := Option.some.inj hf
    exact ret_i hx hb hr hlocks hP hD hS ⟨rfl, rfl⟩ d_RF_repair_122
set_option maxHeartbeats 4000000 in
set_option maxRecDepth 100000 in
theorem kb_RF_repair_60 {p : Program} {l : Launch} {e : Env} {s : State} {m : MethodId} {args : Array Value} {below : List Frame} {meth : Method} {c : Code} {D : va_G} {cI cB cJ : ClassId} {A : Nat → Prop} (C0 : CX p s m args meth c D [(cI, .int), (cB, .byte), (cJ, .long)] R_RF b_RF_repair 14 (some .int) "repair") (hA : ∀ q, s.heap.size ≤ q → A q) {h_t h_t_failed : Nat} {v_t_bits v_t_cells v_t_sense v_t_kinds v_t_victims v_t_others v_t_faults v_t_toldKinds v_t_toldVictims v_t_toldOthers v_t_told v_t_ground v_t_ports v_t_scrambled v_t_places v_t_sorts v_t_counts v_t_operations v_t_elements v_t_newSorts v_t_newCounts v_t_newOperations v_t_tape v_t_tapeSize v_t_place v_t_keeps v_t_some : Value} {res : Int32 × Int32 × Int32 × Int32 × Int32} {rec60 : (Int32 × Int32) → Option (Int32 × Int32 × Int32 × Int32 × Int32)} {n_t_failed : Nat} {t_thrown : Int32} {t_words : Int32} {t_failedCount : Int32} {t_repairedRows : Int32} {t_repairedColumns : Int32} {t_proof : Int32} {t_failed_a : Nat → Int32} {x1 : Int32} {x2 : Int32} {x5 : Int32} {x6 : Int32} {xl3 : Int64}
    (hrec60 : ∀ (st : (Int32 × Int32)), rec60 st = some res → ∀ (t_proof : Int32) (H : Heap) (locs : List Loc) (ls : Array Slot), va_P D classes [(h_t, .inr (1, [.int t_thrown, .int t_words, v_t_bits, v_t_cells, v_t_sense, v_t_kinds, v_t_victims, v_t_others, v_t_faults, v_t_toldKinds, v_t_toldVictims, v_t_toldOthers, v_t_told, v_t_ground, v_t_ports, v_t_scrambled, v_t_places, v_t_sorts, v_t_counts, v_t_operations, v_t_elements, v_t_newSorts, v_t_newCounts, v_t_newOperations, v_t_tape, v_t_tapeSize, v_t_place, .ref h_t_failed, .int t_failedCount, v_t_keeps, v_t_some, .int t_repairedRows, .int t_repairedColumns, .int t_proof])), (h_t_failed, .inl (cI, n_t_failed, .inl t_failed_a))] H → va_D A [(h_t, .inr (1, [.int t_thrown, .int t_words, v_t_bits, v_t_cells, v_t_sense, v_t_kinds, v_t_victims, v_t_others, v_t_faults, v_t_toldKinds, v_t_toldVictims, v_t_toldOthers, v_t_told, v_t_ground, v_t_ports, v_t_scrambled, v_t_places, v_t_sorts, v_t_counts, v_t_operations, v_t_elements, v_t_newSorts, v_t_newCounts, v_t_newOperations, v_t_tape, v_t_tapeSize, v_t_place, .ref h_t_failed, .int t_failedCount, v_t_keeps, v_t_some, .int t_repairedRows, .int t_repairedColumns, .int t_proof])), (h_t_failed, .inl (cI, n_t_failed, .inl t_failed_a))] → va_S A s.heap H locs → lv_has ls 14 [(0, .ref h_t), (1, .int x1), (2, .int x2), (3, .long xl3), (5, .int st.1), (6, .int st.2)] → W p l e rm_RF_repair s m args below meth c H locs 0 0 (MQ below (QW D (post_RF_repair h_t h_t_failed v_t_bits v_t_cells v_t_sense v_t_kinds v_t_victims v_t_others v_t_faults v_t_toldKinds v_t_toldVictims v_t_toldOthers v_t_told v_t_ground v_t_ports v_t_scrambled v_t_places v_t_sorts v_t_counts v_t_operations v_t_elements v_t_newSorts v_t_newCounts v_t_newOperations v_t_tape v_t_tapeSize v_t_place v_t_keeps v_t_some n_t_failed t_words t_failedCount t_failed_a cI cB cJ res) A) args s 0 0 A) (F0 m 60 ls []))
    (hf : g_RF_repair_60 n_t_failed t_thrown t_words t_failedCount t_repairedRows t_repairedColumns t_failed_a x1 x2 xl3 rec60 (x5, x6) = some res) {H : Heap} {locs : List Loc} {ls : Array Slot} (hP : va_P D classes [(h_t, .inr (1, [.int t_thrown, .int t_words, v_t_bits, v_t_cells, v_t_sense, v_t_kinds, v_t_victims, v_t_others, v_t_faults, v_t_toldKinds, v_t_toldVictims, v_t_toldOthers, v_t_told, v_t_ground, v_t_ports, v_t_scrambled, v_t_places, v_t_sorts, v_t_counts, v_t_operations, v_t_elements, v_t_newSorts, v_t_newCounts, v_t_newOperations, v_t_tape, v_t_tapeSize, v_t_place, .ref h_t_failed, .int t_failedCount, v_t_keeps, v_t_some, .int t_repairedRows, .int t_repairedColumns, .int t_proof])), (h_t_failed, .inl (cI, n_t_failed, .inl t_failed_a))] H) (hD : va_D A [(h_t, .inr (1, [.int t_thrown, .int t_words, v_t_bits, v_t_cells, v_t_sense, v_t_kinds, v_t_victims, v_t_others, v_t_faults, v_t_toldKinds, v_t_toldVictims, v_t_toldOthers, v_t_told, v_t_ground, v_t_ports, v_t_scrambled, v_t_places, v_t_sorts, v_t_counts, v_t_operations, v_t_elements, v_t_newSorts, v_t_newCounts, v_t_newOperations, v_t_tape, v_t_tapeSize, v_t_place, .ref h_t_failed, .int t_failedCount, v_t_keeps, v_t_some, .int t_repairedRows, .int t_repairedColumns, .int t_proof])), (h_t_failed, .inl (cI, n_t_failed, .inl t_failed_a))]) (hS : va_S A s.heap H locs) (hl : lv_has ls 14 [(0, .ref h_t), (1, .int x1), (2, .int x2), (3, .long xl3), (5, .int x5), (6, .int x6)]) : W p l e rm_RF_repair s m args below meth c H locs 0 0 (MQ below (QW D (post_RF_repair h_t h_t_failed v_t_bits v_t_cells v_t_sense v_t_kinds v_t_victims v_t_others v_t_faults v_t_toldKinds v_t_toldVictims v_t_toldOthers v_t_told v_t_ground v_t_ports v_t_scrambled v_t_places v_t_sorts v_t_counts v_t_operations v_t_elements v_t_newSorts v_t_newCounts v_t_newOperations v_t_tape v_t_tapeSize v_t_place v_t_keeps v_t_some n_t_failed t_words t_failedCount t_failed_a cI cB cJ res) A) args s 0 0 A) (F0 m 60 ls []) := by
  obtain ⟨hx, hb, hml, hr, hlocks, hts, hown, hK, hin⟩ := id C0
  have hf : (((
  (if t_failedCount ≤ x6 then
    (Option.bind (f_RF_ones x5) fun q96_1 =>
    (if 0 < (lg_cmp (Int32.toInt64 q96_1) xl3) then
      (f_RF_repair_110 n_t_failed t_thrown t_words t_failedCount t_repairedRows t_repairedColumns t_failed_a 0 x1 x2)
    else
      (f_RF_repair_110 n_t_failed t_thrown t_words t_failedCount t_repairedRows t_repairedColumns t_failed_a 1 x1 x2)))
  else
    (if inB ((4 * x6) + 2) n_t_failed = true then
    (rec60 ((x5 ||| (1 <<< ((t_failed_a (Int32.toNatClampNeg ((4 * x6) + 2))) &&& 31))), (x6 + 1)))
    else none)))) : Option (Int32 × Int32 × Int32 × Int32 × Int32)) = some res := hf
  refine lv_iload hx hb d_RF_repair_60 (lv_at hl 5 rfl) ?_
  refine lv_aload_n hx hb d_RF_repair_62 rfl (lv_at hl 0 rfl) ?_
  refine va_get (D := D) (ci := 1) (v := .int t_failedCount) (C := R_RF) (T := F_RF) (N := 34) hx hb hts i_RF hown hK.1 hP 0 rfl rfl 28 (by decide) (hts _ w_416) (fun _ h9 => h9) rfl d_RF_repair_63 ?_
  refine lv_icmp_ge (tgt := 93) hx hb d_RF_repair_66 (by decide) (fun cc66 => ?_) (fun cc66 => ?_)
  · have hf := ifT cc66 hf
    refine lv_aload_n hx hb d_RF_repair_93 rfl (lv_at hl 0 rfl) ?_
    refine lv_iload hx hb d_RF_repair_94 (lv_at hl 4 rfl) ?_
    obtain ⟨q96_1, hc, hf⟩ := bindS hf
    refine mcS (n := 1) (As := [.int x5]) (rest := [.ref h_t]) (wr := [(h_t, .inr (1, [.int t_thrown, .int t_words, v_t_bits, v_t_cells, v_t_sense, v_t_kinds, v_t_victims, v_t_others, v_t_faults, v_t_toldKinds, v_t_toldVictims, v_t_toldOthers, v_t_told, v_t_ground, v_t_ports, v_t_scrambled, v_t_places, v_t_sorts, v_t_counts, v_t_operations, v_t_elements, v_t_newSorts, v_t_newCounts, v_t_newOperations, v_t_tape, v_t_tapeSize, v_t_place, .ref h_t_failed, .int t_failedCount, v_t_keeps, v_t_some, .int t_repairedRows, .int t_repairedColumns, .int t_proof])), (h_t_failed, .inl (cI, n_t_failed, .inl t_failed_a))]) hx hb hml hown hts hK (c_RF_ones (l := l) (D := D) (cI := cI) (cB := cB) (cJ := cJ) (a1 := x5) (sz := H.size) (res := q96_1) (hf := hc)) w_448 w_449 w_393 w_450 (by decide +kernel) rfl rfl ⟨Nat.le_of_ble_eq_true rfl, Nat.le_of_ble_eq_true rfl⟩ hP hD hS hA [] [0, 1] rfl rfl (by decide) (by decide) (by decide) hl.1 rfl rfl (lv_room (Nat.le_of_ble_eq_true rfl)) d_RF_repair_96 ⟨Nat.le_of_ble_eq_true rfl, Nat.le_of_ble_eq_true rfl⟩ (fun o ws' H locs hp hP hD hS => ?_)
    obtain ⟨rfl, rfl⟩ := hp
    have hP : va_P D classes [(h_t, .inr (1, [.int t_thrown, .int t_words, v_t_bits, v_t_cells, v_t_sense, v_t_kinds, v_t_victims, v_t_others, v_t_faults, v_t_toldKinds, v_t_toldVictims, v_t_toldOthers, v_t_told, v_t_ground, v_t_ports, v_t_scrambled, v_t_places, v_t_sorts, v_t_counts, v_t_operations, v_t_elements, v_t_newSorts, v_t_newCounts, v_t_newOperations, v_t_tape, v_t_tapeSize, v_t_place, .ref h_t_failed, .int t_failedCount, v_t_keeps, v_t_some, .int t_repairedRows, .int t_repairedColumns, .int t_proof])), (h_t_failed, .inl (cI, n_t_failed, .inl t_failed_a))] H := hP.sub [0, 1] rfl
    have hD : va_D A [(h_t, .inr (1, [.int t_thrown, .int t_words, v_t_bits, v_t_cells, v_t_sense, v_t_kinds, v_t_victims, v_t_others, v_t_faults, v_t_toldKinds, v_t_toldVictims, v_t_toldOthers, v_t_told, v_t_ground, v_t_ports, v_t_scrambled, v_t_places, v_t_sorts, v_t_counts, v_t_operations, v_t_elements, v_t_newSorts, v_t_newCounts, v_t_newOperations, v_t_tape, v_t_tapeSize, v_t_place, .ref h_t_failed, .int t_failedCount, v_t_keeps, v_t_some, .int t_repairedRows, .int t_repairedColumns, .int t_proof])), (h_t_failed, .inl (cI, n_t_failed, .inl t_failed_a))] := hD.sub [0, 1] (by decide) rfl
    refine lv_i2l (v := (Int32.toInt64 q96_1)) hx hb d_RF_repair_99 rfl ?_
    refine lv_lload_n hx hb d_RF_repair_100 rfl (lv_at hl 3 rfl) ?_
    refine W.lcmp hx hb d_RF_repair_101 ?_
    refine lv_if_gt (tgt := 109) hx hb d_RF_repair_102 (by decide) (fun cc102 => ?_) (fun cc102 => ?_)
    · have hf := ifT cc102 hf
      refine lv_iconst (v := 0) hx hb d_RF_repair_109 (by decide) ?_
      exact k_RF_repair_110 (s := s) C0 hA hf hP hD hS (lv_sub hl [0, 1, 2] rfl)
    · have hf := ifF cc102 hf
      refine lv_iconst (v := 1) hx hb d_RF_repair_105 (by decide) ?_
      refine lv_goto (tgt := 110) hx hb d_RF_repair_106 (by decide) ?_
      exact k_RF_repair_110 (s := s) C0 hA hf hP hD hS (lv_sub hl [0, 1, 2] rfl)
  · have hf := ifF cc66 hf
    refine lv_iload hx hb d_RF_repair_69 (lv_at hl 4 rfl) ?_
    refine lv_iconst (v := 1) hx hb d_RF_repair_71 (by decide) ?_
    refine lv_aload_n hx hb d_RF_repair_72 rfl (lv_at hl 0 rfl) ?_
    refine va_get (D := D) (ci := 1) (v := .ref h_t_failed) (C := R_RF) (T := F_RF) (N := 34) hx hb hts i_RF hown hK.1 hP 0 rfl rfl 27 (by decide) (hts _ w_383) (fun _ h9 => h9) rfl d_RF_repair_73 ?_
    refine lv_iconst (v := 4) hx hb d_RF_repair_76 (by decide) ?_
    refine lv_iload hx hb d_RF_repair_77 (lv_at hl 5 rfl) ?_
    refine lv_imul hx hb d_RF_repair_79 ?_
    refine lv_iconst (v := 2) hx hb d_RF_repair_80 (by decide) ?_
    refine lv_iadd hx hb d_RF_repair_81 ?_
    obtain ⟨hin1, hf⟩ := ifG hf
    refine va_iald hx hb hK.1 hP 1 0 rfl rfl (inB_in hin1) d_RF_repair_82 ?_
    refine lv_ishl hx hb d_RF_repair_83 ?_
    refine lv_ior hx hb d_RF_repair_84 ?_
    refine lv_istore (lv' := [(5, .int (x5 ||| (1 <<< ((t_failed_a (Int32.toNatClampNeg ((4 * x6) + 2))) &&& 31)))), (0, .ref h_t), (1, .int x1), (2, .int x2), (3, .long xl3), (6, .int x6)]) hx hb d_RF_repair_85 hl (by decide) rfl (fun ls hl => ?_)
    refine lv_iinc (v := (x6 + 1)) (lv' := [(6, .int (x6 + 1)), (5, .int (x5 ||| (1 <<< ((t_failed_a (Int32.toNatClampNeg ((4 * x6) + 2))) &&& 31)))), (0, .ref h_t), (1, .int x1), (2, .int x2), (3, .long xl3)]) hx hb d_RF_repair_87 hl (k := 5) rfl rfl (by decide) rfl (fun ls hl => ?_)
    refine lv_goto (tgt := 60) hx hb d_RF_repair_90 (by decide) ?_
    exact hrec60 ((x5 ||| (1 <<< ((t_failed_a (Int32.toNatClampNeg ((4 * x6) + 2))) &&& 31))), (x6 + 1)) hf t_proof H locs ls hP hD hS (lv_sub hl [2, 3, 4, 5, 1, 0] rfl)
set_option maxHeartbeats 4000000 in
set_option maxRecDepth 100000 in
theorem k_RF_repair_60 {p : Program} {l : Launch} {e : Env} {s : State} {m : MethodId} {args : Array Value} {below : List Frame} {meth : Method} {c : Code} {D : va_G} {cI cB cJ : ClassId} {A : Nat → Prop} (C0 : CX p s m args meth c D [(cI, .int), (cB, .byte), (cJ, .long)] R_RF b_RF_repair 14 (some .int) "repair") (hA : ∀ q, s.heap.size ≤ q → A q) {h_t h_t_failed : Nat} {v_t_bits v_t_cells v_t_sense v_t_kinds v_t_victims v_t_others v_t_faults v_t_toldKinds v_t_toldVictims v_t_toldOthers v_t_told v_t_ground v_t_ports v_t_scrambled v_t_places v_t_sorts v_t_counts v_t_operations v_t_elements v_t_newSorts v_t_newCounts v_t_newOperations v_t_tape v_t_tapeSize v_t_place v_t_keeps v_t_some : Value} {res : Int32 × Int32 × Int32 × Int32 × Int32} {n_t_failed : Nat} {t_thrown : Int32} {t_words : Int32} {t_failedCount : Int32} {t_repairedRows : Int32} {t_repairedColumns : Int32} {t_failed_a : Nat → Int32} {x1 : Int32} {x2 : Int32} {xl3 : Int64}
    : ∀ (n : Nat) (st : (Int32 × Int32)), lp (g_RF_repair_60 n_t_failed t_thrown t_words t_failedCount t_repairedRows t_repairedColumns t_failed_a x1 x2 xl3) n st = some res → ∀ (t_proof : Int32) (H : Heap) (locs : List Loc) (ls : Array Slot), va_P D classes [(h_t, .inr (1, [.int t_thrown, .int t_words, v_t_bits, v_t_cells, v_t_sense, v_t_kinds, v_t_victims, v_t_others, v_t_faults, v_t_toldKinds, v_t_toldVictims, v_t_toldOthers, v_t_told, v_t_ground, v_t_ports, v_t_scrambled, v_t_places, v_t_sorts, v_t_counts, v_t_operations, v_t_elements, v_t_newSorts, v_t_newCounts, v_t_newOperations, v_t_tape, v_t_tapeSize, v_t_place, .ref h_t_failed, .int t_failedCount, v_t_keeps, v_t_some, .int t_repairedRows, .int t_repairedColumns, .int t_proof])), (h_t_failed, .inl (cI, n_t_failed, .inl t_failed_a))] H → va_D A [(h_t, .inr (1, [.int t_thrown, .int t_words, v_t_bits, v_t_cells, v_t_sense, v_t_kinds, v_t_victims, v_t_others, v_t_faults, v_t_toldKinds, v_t_toldVictims, v_t_toldOthers, v_t_told, v_t_ground, v_t_ports, v_t_scrambled, v_t_places, v_t_sorts, v_t_counts, v_t_operations, v_t_elements, v_t_newSorts, v_t_newCounts, v_t_newOperations, v_t_tape, v_t_tapeSize, v_t_place, .ref h_t_failed, .int t_failedCount, v_t_keeps, v_t_some, .int t_repairedRows, .int t_repairedColumns, .int t_proof])), (h_t_failed, .inl (cI, n_t_failed, .inl t_failed_a))] → va_S A s.heap H locs → lv_has ls 14 [(0, .ref h_t), (1, .int x1), (2, .int x2), (3, .long xl3), (5, .int st.1), (6, .int st.2)] → W p l e rm_RF_repair s m args below meth c H locs 0 0 (MQ below (QW D (post_RF_repair h_t h_t_failed v_t_bits v_t_cells v_t_sense v_t_kinds v_t_victims v_t_others v_t_faults v_t_toldKinds v_t_toldVictims v_t_toldOthers v_t_told v_t_ground v_t_ports v_t_scrambled v_t_places v_t_sorts v_t_counts v_t_operations v_t_elements v_t_newSorts v_t_newCounts v_t_newOperations v_t_tape v_t_tapeSize v_t_place v_t_keeps v_t_some n_t_failed t_words t_failedCount t_failed_a cI cB cJ res) A) args s 0 0 A) (F0 m 60 ls []) := by
  intro n
  induction n with
  | zero => intro st hf; exact absurd hf (by simp [lp])
  | succ n ih =>
    intro st hf t_proof H locs ls hP hD hS hl
    exact kb_RF_repair_60 C0 hA (rec60 := lp (g_RF_repair_60 n_t_failed t_thrown t_words t_failedCount t_repairedRows t_repairedColumns t_failed_a x1 x2 xl3) n) (x5 := st.1) (x6 := st.2)  (fun st hf t_proof H locs ls hP hD hS hl => ih st hf t_proof H locs ls hP hD hS hl) hf hP hD hS hl
set_option maxHeartbeats 4000000 in
set_option maxRecDepth 100000 in
theorem k_RF_repair_32 {p : Program} {l : Launch} {e : Env} {s : State} {m : MethodId} {args : Array Value} {below : List Frame} {meth : Method} {c : Code} {D : va_G} {cI cB cJ : ClassId} {A : Nat → Prop} (C0 : CX p s m args meth c D [(cI, .int), (cB, .byte), (cJ, .long)] R_RF b_RF_repair 14 (some .int) "repair") (hA : ∀ q, s.heap.size ≤ q → A q) {h_t h_t_failed : Nat} {v_t_bits v_t_cells v_t_sense v_t_kinds v_t_victims v_t_others v_t_faults v_t_toldKinds v_t_toldVictims v_t_toldOthers v_t_told v_t_ground v_t_ports v_t_scrambled v_t_places v_t_sorts v_t_counts v_t_operations v_t_elements v_t_newSorts v_t_newCounts v_t_newOperations v_t_tape v_t_tapeSize v_t_place v_t_keeps v_t_some : Value} {res : Int32 × Int32 × Int32 × Int32 × Int32} {n_t_failed : Nat} {t_thrown : Int32} {t_words : Int32} {t_failedCount : Int32} {t_repairedRows : Int32} {t_repairedColumns : Int32} {t_proof : Int32} {t_failed_a : Nat → Int32} {s1 : Int32} {x1 : Int32} {x2 : Int32} {xl3 : Int64}
    (hf : f_RF_repair_32 n_t_failed t_words t_failedCount t_repairedRows t_repairedColumns t_proof t_failed_a s1 x1 x2 xl3 = some res) {H : Heap} {locs : List Loc} {ls : Array Slot} (hP : va_P D classes [(h_t, .inr (1, [.int t_thrown, .int t_words, v_t_bits, v_t_cells, v_t_sense, v_t_kinds, v_t_victims, v_t_others, v_t_faults, v_t_toldKinds, v_t_toldVictims, v_t_toldOthers, v_t_told, v_t_ground, v_t_ports, v_t_scrambled, v_t_places, v_t_sorts, v_t_counts, v_t_operations, v_t_elements, v_t_newSorts, v_t_newCounts, v_t_newOperations, v_t_tape, v_t_tapeSize, v_t_place, .ref h_t_failed, .int t_failedCount, v_t_keeps, v_t_some, .int t_repairedRows, .int t_repairedColumns, .int t_proof])), (h_t_failed, .inl (cI, n_t_failed, .inl t_failed_a))] H) (hD : va_D A [(h_t, .inr (1, [.int t_thrown, .int t_words, v_t_bits, v_t_cells, v_t_sense, v_t_kinds, v_t_victims, v_t_others, v_t_faults, v_t_toldKinds, v_t_toldVictims, v_t_toldOthers, v_t_told, v_t_ground, v_t_ports, v_t_scrambled, v_t_places, v_t_sorts, v_t_counts, v_t_operations, v_t_elements, v_t_newSorts, v_t_newCounts, v_t_newOperations, v_t_tape, v_t_tapeSize, v_t_place, .ref h_t_failed, .int t_failedCount, v_t_keeps, v_t_some, .int t_repairedRows, .int t_repairedColumns, .int t_proof])), (h_t_failed, .inl (cI, n_t_failed, .inl t_failed_a))]) (hS : va_S A s.heap H locs) (hl : lv_has ls 14 [(0, .ref h_t), (1, .int x1), (2, .int x2), (3, .long xl3)]) : W p l e rm_RF_repair s m args below meth c H locs 0 0 (MQ below (QW D (post_RF_repair h_t h_t_failed v_t_bits v_t_cells v_t_sense v_t_kinds v_t_victims v_t_others v_t_faults v_t_toldKinds v_t_toldVictims v_t_toldOthers v_t_told v_t_ground v_t_ports v_t_scrambled v_t_places v_t_sorts v_t_counts v_t_operations v_t_elements v_t_newSorts v_t_newCounts v_t_newOperations v_t_tape v_t_tapeSize v_t_place v_t_keeps v_t_some n_t_failed t_words t_failedCount t_failed_a cI cB cJ res) A) args s 0 0 A) (F0 m 32 ls [.int s1, .ref h_t]) := by
  obtain ⟨hx, hb, hml, hr, hlocks, hts, hown, hK, hin⟩ := id C0
  have hf : (((
  (if s1 ≤ 0 then
    (lp (g_RF_repair_60 n_t_failed s1 t_words t_failedCount 0 0 t_failed_a x1 x2 xl3) 100000 (0, 0))
  else
    some (0, s1, t_repairedRows, t_repairedColumns, t_proof)))) : Option (Int32 × Int32 × Int32 × Int32 × Int32)) = some res := hf
  refine va_put (D := D) (ci := 1) (v := .int s1) (ty := .int) (C := R_RF) (T := F_RF) (N := 34) hx hb hts i_RF t_RF t_RF_ok n_RF hown hK.1 hP hD hS 0 rfl rfl 0 (by decide) (hts _ w_387) (fun _ h9 => h9) rfl (t_RF_ok 0 (by decide)) rfl rfl (Nat.le_of_ble_eq_true rfl) d_RF_repair_32 (fun H locs hP hD hS => ?_)
  have hP : va_P D classes [(h_t, .inr (1, [.int s1, .int t_words, v_t_bits, v_t_cells, v_t_sense, v_t_kinds, v_t_victims, v_t_others, v_t_faults, v_t_toldKinds, v_t_toldVictims, v_t_toldOthers, v_t_told, v_t_ground, v_t_ports, v_t_scrambled, v_t_places, v_t_sorts, v_t_counts, v_t_operations, v_t_elements, v_t_newSorts, v_t_newCounts, v_t_newOperations, v_t_tape, v_t_tapeSize, v_t_place, .ref h_t_failed, .int t_failedCount, v_t_keeps, v_t_some, .int t_repairedRows, .int t_repairedColumns, .int t_proof])), (h_t_failed, .inl (cI, n_t_failed, .inl t_failed_a))] H := hP
  have hD : va_D A [(h_t, .inr (1, [.int s1, .int t_words, v_t_bits, v_t_cells, v_t_sense, v_t_kinds, v_t_victims, v_t_others, v_t_faults, v_t_toldKinds, v_t_toldVictims, v_t_toldOthers, v_t_told, v_t_ground, v_t_ports, v_t_scrambled, v_t_places, v_t_sorts, v_t_counts, v_t_operations, v_t_elements, v_t_newSorts, v_t_newCounts, v_t_newOperations, v_t_tape, v_t_tapeSize, v_t_place, .ref h_t_failed, .int t_failedCount, v_t_keeps, v_t_some, .int t_repairedRows, .int t_repairedColumns, .int t_proof])), (h_t_failed, .inl (cI, n_t_failed, .inl t_failed_a))] := hD
  refine lv_aload_n hx hb d_RF_repair_35 rfl (lv_at hl 0 rfl) ?_
  refine va_get (D := D) (ci := 1) (v := .int s1) (C := R_RF) (T := F_RF) (N := 34) hx hb hts i_RF hown hK.1 hP 0 rfl rfl 0 (by decide) (hts _ w_387) (fun _ h9 => h9) rfl d_RF_repair_36 ?_
  refine lv_if_le (tgt := 44) hx hb d_RF_repair_39 (by decide) (fun cc39 => ?_) (fun cc39 => ?_)
  · have hf := ifT cc39 hf
    refine lv_aload_n hx hb d_RF_repair_44 rfl (lv_at hl 0 rfl) ?_
    refine lv_iconst (v := 0) hx hb d_RF_repair_45 (by decide) ?_
    refine va_put (D := D) (ci := 1) (v := .int 0) (ty := .int) (C := R_RF) (T := F_RF) (N := 34) hx hb hts i_RF t_RF t_RF_ok n_RF hown hK.1 hP hD hS 0 rfl rfl 31 (by decide) (hts _ w_446) (fun _ h9 => h9) rfl (t_RF_ok 31 (by decide)) rfl rfl (Nat.le_of_ble_eq_true rfl) d_RF_repair_46 (fun H locs hP hD hS => ?_)
    have hP : va_P D classes [(h_t, .inr (1, [.int s1, .int t_words, v_t_bits, v_t_cells, v_t_sense, v_t_kinds, v_t_victims, v_t_others, v_t_faults, v_t_toldKinds, v_t_toldVictims, v_t_toldOthers, v_t_told, v_t_ground, v_t_ports, v_t_scrambled, v_t_places, v_t_sorts, v_t_counts, v_t_operations, v_t_elements, v_t_newSorts, v_t_newCounts, v_t_newOperations, v_t_tape, v_t_tapeSize, v_t_place, .ref h_t_failed, .int t_failedCount, v_t_keeps, v_t_some, .int 0, .int t_repairedColumns, .int t_proof])), (h_t_failed, .inl (cI, n_t_failed, .inl t_failed_a))] H := hP
    have hD : va_D A [(h_t, .inr (1, [.int s1, .int t_words, v_t_bits, v_t_cells, v_t_sense, v_t_kinds, v_t_victims, v_t_others, v_t_faults, v_t_toldKinds, v_t_toldVictims, v_t_toldOthers, v_t_told, v_t_ground, v_t_ports, v_t_scrambled, v_t_places, v_t_sorts, v_t_counts, v_t_operations, v_t_elements, v_t_newSorts, v_t_newCounts, v_t_newOperations, v_t_tape, v_t_tapeSize, v_t_place, .ref h_t_failed, .int t_failedCount, v_t_keeps, v_t_some, .int 0, .int t_repairedColumns, .int t_proof])), (h_t_failed, .inl (cI, n_t_failed, .inl t_failed_a))] := hD
    refine lv_aload_n hx hb d_RF_repair_49 rfl (lv_at hl 0 rfl) ?_
    refine lv_iconst (v := 0) hx hb d_RF_repair_50 (by decide) ?_
    refine va_put (D := D) (ci := 1) (v := .int 0) (ty := .int) (C := R_RF) (T := F_RF) (N := 34) hx hb hts i_RF t_RF t_RF_ok n_RF hown hK.1 hP hD hS 0 rfl rfl 32 (by decide) (hts _ w_447) (fun _ h9 => h9) rfl (t_RF_ok 32 (by decide)) rfl rfl (Nat.le_of_ble_eq_true rfl) d_RF_repair_51 (fun H locs hP hD hS => ?_)
    have hP : va_P D classes [(h_t, .inr (1, [.int s1, .int t_words, v_t_bits, v_t_cells, v_t_sense, v_t_kinds, v_t_victims, v_t_others, v_t_faults, v_t_toldKinds, v_t_toldVictims, v_t_toldOthers, v_t_told, v_t_ground, v_t_ports, v_t_scrambled, v_t_places, v_t_sorts, v_t_counts, v_t_operations, v_t_elements, v_t_newSorts, v_t_newCounts, v_t_newOperations, v_t_tape, v_t_tapeSize, v_t_place, .ref h_t_failed, .int t_failedCount, v_t_keeps, v_t_some, .int 0, .int 0, .int t_proof])), (h_t_failed, .inl (cI, n_t_failed, .inl t_failed_a))] H := hP
    have hD : va_D A [(h_t, .inr (1, [.int s1, .int t_words, v_t_bits, v_t_cells, v_t_sense, v_t_kinds, v_t_victims, v_t_others, v_t_faults, v_t_toldKinds, v_t_toldVictims, v_t_toldOthers, v_t_told, v_t_ground, v_t_ports, v_t_scrambled, v_t_places, v_t_sorts, v_t_counts, v_t_operations, v_t_elements, v_t_newSorts, v_t_newCounts, v_t_newOperations, v_t_tape, v_t_tapeSize, v_t_place, .ref h_t_failed, .int t_failedCount, v_t_keeps, v_t_some, .int 0, .int 0, .int t_proof])), (h_t_failed, .inl (cI, n_t_failed, .inl t_failed_a))] := hD
    refine lv_iconst (v := 0) hx hb d_RF_repair_54 (by decide) ?_
    refine lv_istore (lv' := [(5, .int 0), (0, .ref h_t), (1, .int x1), (2, .int x2), (3, .long xl3)]) hx hb d_RF_repair_55 hl (by decide) rfl (fun ls hl => ?_)
    refine lv_iconst (v := 0) hx hb d_RF_repair_57 (by decide) ?_
    refine lv_istore (lv' := [(6, .int 0), (5, .int 0), (0, .ref h_t), (1, .int x1), (2, .int x2), (3, .long xl3)]) hx hb d_RF_repair_58 hl (by decide) rfl (fun ls hl => ?_)
    exact k_RF_repair_60 (s := s) C0 hA _ (0, 0) hf t_proof H locs ls hP hD hS (lv_sub hl [2, 3, 4, 5, 1, 0] rfl)
  · have hf := ifF cc39 hf
    refine lv_iconst (v := 0) hx hb d_RF_repair_42 (by decide) ?_
    obtain rfl := Option.some.inj hf
    exact ret_i hx hb hr hlocks hP hD hS ⟨rfl, rfl⟩ d_RF_repair_43
set_option maxHeartbeats 4000000 in
set_option maxRecDepth 100000 in
theorem k_RF_repair_27 {p : Program} {l : Launch} {e : Env} {s : State} {m : MethodId} {args : Array Value} {below : List Frame} {meth : Method} {c : Code} {D : va_G} {cI cB cJ : ClassId} {A : Nat → Prop} (C0 : CX p s m args meth c D [(cI, .int), (cB, .byte), (cJ, .long)] R_RF b_RF_repair 14 (some .int) "repair") (hA : ∀ q, s.heap.size ≤ q → A q) {h_t h_t_failed : Nat} {v_t_bits v_t_cells v_t_sense v_t_kinds v_t_victims v_t_others v_t_faults v_t_toldKinds v_t_toldVictims v_t_toldOthers v_t_told v_t_ground v_t_ports v_t_scrambled v_t_places v_t_sorts v_t_counts v_t_operations v_t_elements v_t_newSorts v_t_newCounts v_t_newOperations v_t_tape v_t_tapeSize v_t_place v_t_keeps v_t_some : Value} {res : Int32 × Int32 × Int32 × Int32 × Int32} {n_t_failed : Nat} {t_thrown : Int32} {t_words : Int32} {t_failedCount : Int32} {t_repairedRows : Int32} {t_repairedColumns : Int32} {t_proof : Int32} {t_failed_a : Nat → Int32} {x1 : Int32} {x2 : Int32} {xl3 : Int64}
    (hf : f_RF_repair_27 n_t_failed t_words t_failedCount t_repairedRows t_repairedColumns t_proof t_failed_a x1 x2 xl3 = some res) {H : Heap} {locs : List Loc} {ls : Array Slot} (hP : va_P D classes [(h_t, .inr (1, [.int t_thrown, .int t_words, v_t_bits, v_t_cells, v_t_sense, v_t_kinds, v_t_victims, v_t_others, v_t_faults, v_t_toldKinds, v_t_toldVictims, v_t_toldOthers, v_t_told, v_t_ground, v_t_ports, v_t_scrambled, v_t_places, v_t_sorts, v_t_counts, v_t_operations, v_t_elements, v_t_newSorts, v_t_newCounts, v_t_newOperations, v_t_tape, v_t_tapeSize, v_t_place, .ref h_t_failed, .int t_failedCount, v_t_keeps, v_t_some, .int t_repairedRows, .int t_repairedColumns, .int t_proof])), (h_t_failed, .inl (cI, n_t_failed, .inl t_failed_a))] H) (hD : va_D A [(h_t, .inr (1, [.int t_thrown, .int t_words, v_t_bits, v_t_cells, v_t_sense, v_t_kinds, v_t_victims, v_t_others, v_t_faults, v_t_toldKinds, v_t_toldVictims, v_t_toldOthers, v_t_told, v_t_ground, v_t_ports, v_t_scrambled, v_t_places, v_t_sorts, v_t_counts, v_t_operations, v_t_elements, v_t_newSorts, v_t_newCounts, v_t_newOperations, v_t_tape, v_t_tapeSize, v_t_place, .ref h_t_failed, .int t_failedCount, v_t_keeps, v_t_some, .int t_repairedRows, .int t_repairedColumns, .int t_proof])), (h_t_failed, .inl (cI, n_t_failed, .inl t_failed_a))]) (hS : va_S A s.heap H locs) (hl : lv_has ls 14 [(0, .ref h_t), (1, .int x1), (2, .int x2), (3, .long xl3)]) : W p l e rm_RF_repair s m args below meth c H locs 0 0 (MQ below (QW D (post_RF_repair h_t h_t_failed v_t_bits v_t_cells v_t_sense v_t_kinds v_t_victims v_t_others v_t_faults v_t_toldKinds v_t_toldVictims v_t_toldOthers v_t_told v_t_ground v_t_ports v_t_scrambled v_t_places v_t_sorts v_t_counts v_t_operations v_t_elements v_t_newSorts v_t_newCounts v_t_newOperations v_t_tape v_t_tapeSize v_t_place v_t_keeps v_t_some n_t_failed t_words t_failedCount t_failed_a cI cB cJ res) A) args s 0 0 A) (F0 m 27 ls [.ref h_t]) := by
  obtain ⟨hx, hb, hml, hr, hlocks, hts, hown, hK, hin⟩ := id C0
  have hf : (((
  (f_RF_repair_32 n_t_failed t_words t_failedCount t_repairedRows t_repairedColumns t_proof t_failed_a 1 x1 x2 xl3))) : Option (Int32 × Int32 × Int32 × Int32 × Int32)) = some res := hf
  refine lv_iconst (v := 1) hx hb d_RF_repair_27 (by decide) ?_
  refine lv_goto (tgt := 32) hx hb d_RF_repair_28 (by decide) ?_
  exact k_RF_repair_32 (s := s) C0 hA hf hP hD hS (lv_sub hl [0, 1, 2, 3] rfl)
set_option maxHeartbeats 4000000 in
set_option maxRecDepth 100000 in
theorem c_RF_repair (l : Launch) (D : va_G) (cI cB cJ : ClassId) (h_t h_t_failed : Nat) (v_t_bits v_t_cells v_t_sense v_t_kinds v_t_victims v_t_others v_t_faults v_t_toldKinds v_t_toldVictims v_t_toldOthers v_t_told v_t_ground v_t_ports v_t_scrambled v_t_places v_t_sorts v_t_counts v_t_operations v_t_elements v_t_newSorts v_t_newCounts v_t_newOperations v_t_tape v_t_tapeSize v_t_place v_t_keeps v_t_some : Value) (n_t_failed : Nat) (t_thrown : Int32) (t_words : Int32) (t_failedCount : Int32) (t_repairedRows : Int32) (t_repairedColumns : Int32) (t_proof : Int32) (t_failed_a : Nat → Int32) (a1 : Int32) (a2 : Int32) (a3 : Int64) (sz : Nat) (res : Int32 × Int32 × Int32 × Int32 × Int32) (hf : f_RF_repair n_t_failed t_words t_failedCount t_repairedRows t_repairedColumns t_proof t_failed_a a1 a2 a3 = some res) : Met l y_RF_repair (.code y_RF_repair b_RF_repair 14 (some .int) :: TB) rm_RF_repair (PcW D [(cI, .int), (cB, .byte), (cJ, .long)] [.ref h_t, .int a1, .int a2, .long a3] [(h_t, .inr (1, [.int t_thrown, .int t_words, v_t_bits, v_t_cells, v_t_sense, v_t_kinds, v_t_victims, v_t_others, v_t_faults, v_t_toldKinds, v_t_toldVictims, v_t_toldOthers, v_t_told, v_t_ground, v_t_ports, v_t_scrambled, v_t_places, v_t_sorts, v_t_counts, v_t_operations, v_t_elements, v_t_newSorts, v_t_newCounts, v_t_newOperations, v_t_tape, v_t_tapeSize, v_t_place, .ref h_t_failed, .int t_failedCount, v_t_keeps, v_t_some, .int t_repairedRows, .int t_repairedColumns, .int t_proof])), (h_t_failed, .inl (cI, n_t_failed, .inl t_failed_a))] sz) (QW D (post_RF_repair h_t h_t_failed v_t_bits v_t_cells v_t_sense v_t_kinds v_t_victims v_t_others v_t_faults v_t_toldKinds v_t_toldVictims v_t_toldOthers v_t_told v_t_ground v_t_ports v_t_scrambled v_t_places v_t_sorts v_t_counts v_t_operations v_t_elements v_t_newSorts v_t_newCounts v_t_newOperations v_t_tape v_t_tapeSize v_t_place v_t_keeps v_t_some n_t_failed t_words t_failedCount t_failed_a cI cB cJ res) (va_A [(h_t, .inr (1, [.int t_thrown, .int t_words, v_t_bits, v_t_cells, v_t_sense, v_t_kinds, v_t_victims, v_t_others, v_t_faults, v_t_toldKinds, v_t_toldVictims, v_t_toldOthers, v_t_told, v_t_ground, v_t_ports, v_t_scrambled, v_t_places, v_t_sorts, v_t_counts, v_t_operations, v_t_elements, v_t_newSorts, v_t_newCounts, v_t_newOperations, v_t_tape, v_t_tapeSize, v_t_place, .ref h_t_failed, .int t_failedCount, v_t_keeps, v_t_some, .int t_repairedRows, .int t_repairedColumns, .int t_proof])), (h_t_failed, .inl (cI, n_t_failed, .inl t_failed_a))] sz)) 0 0 (va_A [(h_t, .inr (1, [.int t_thrown, .int t_words, v_t_bits, v_t_cells, v_t_sense, v_t_kinds, v_t_victims, v_t_others, v_t_faults, v_t_toldKinds, v_t_toldVictims, v_t_toldOthers, v_t_told, v_t_ground, v_t_ports, v_t_scrambled, v_t_places, v_t_sorts, v_t_counts, v_t_operations, v_t_elements, v_t_newSorts, v_t_newCounts, v_t_newOperations, v_t_tape, v_t_tapeSize, v_t_place, .ref h_t_failed, .int t_failedCount, v_t_keeps, v_t_some, .int t_repairedRows, .int t_repairedColumns, .int t_proof])), (h_t_failed, .inl (cI, n_t_failed, .inl t_failed_a))] sz) := by
  refine entW ⟨by decide +kernel, rfl⟩ fun p e s m below meth c C0 hP hD hsz ls hl => ?_
  subst hsz
  generalize hAe : va_A [(h_t, .inr (1, [.int t_thrown, .int t_words, v_t_bits, v_t_cells, v_t_sense, v_t_kinds, v_t_victims, v_t_others, v_t_faults, v_t_toldKinds, v_t_toldVictims, v_t_toldOthers, v_t_told, v_t_ground, v_t_ports, v_t_scrambled, v_t_places, v_t_sorts, v_t_counts, v_t_operations, v_t_elements, v_t_newSorts, v_t_newCounts, v_t_newOperations, v_t_tape, v_t_tapeSize, v_t_place, .ref h_t_failed, .int t_failedCount, v_t_keeps, v_t_some, .int t_repairedRows, .int t_repairedColumns, .int t_proof])), (h_t_failed, .inl (cI, n_t_failed, .inl t_failed_a))] s.heap.size = A at hD ⊢
  have hA : ∀ q : Nat, s.heap.size ≤ q → A q := fun q h => by rw [← hAe]; exact Or.inr h
  clear hAe
  have hS : va_S A s.heap s.heap [] := va_S.rf
  have hl : lv_has ls 14 [(0, .ref h_t), (1, .int a1), (2, .int a2), (3, .long a3)] := hl
  obtain ⟨hx, hb, hml, hr, hlocks, hts, hown, hK, hin⟩ := id C0
  have hf : (((
  (if a1 < 0 then
    (f_RF_repair_27 n_t_failed t_words t_failedCount t_repairedRows t_repairedColumns t_proof t_failed_a a1 a2 a3)
  else
    (if 8 < a1 then
      (f_RF_repair_27 n_t_failed t_words t_failedCount t_repairedRows t_repairedColumns t_proof t_failed_a a1 a2 a3)
    else
      (if a2 < 0 then
        (f_RF_repair_27 n_t_failed t_words t_failedCount t_repairedRows t_repairedColumns t_proof t_failed_a a1 a2 a3)
      else
        (if 8 < a2 then
          (f_RF_repair_27 n_t_failed t_words t_failedCount t_repairedRows t_repairedColumns t_proof t_failed_a a1 a2 a3)
        else
          (if 0 ≤ (lg_cmp a3 0) then
            (f_RF_repair_32 n_t_failed t_words t_failedCount t_repairedRows t_repairedColumns t_proof t_failed_a 0 a1 a2 a3)
          else
            (f_RF_repair_27 n_t_failed t_words t_failedCount t_repairedRows t_repairedColumns t_proof t_failed_a a1 a2 a3)))))))) : Option (Int32 × Int32 × Int32 × Int32 × Int32)) = some res := hf
  obtain ⟨H, hH⟩ : ∃ H, H = s.heap := ⟨_, rfl⟩
  obtain ⟨locs, hlo⟩ : ∃ x : List Loc, x = [] := ⟨_, rfl⟩
  rw [← hlo] at hS ⊢
  have hP : va_P D classes [(h_t, .inr (1, [.int t_thrown, .int t_words, v_t_bits, v_t_cells, v_t_sense, v_t_kinds, v_t_victims, v_t_others, v_t_faults, v_t_toldKinds, v_t_toldVictims, v_t_toldOthers, v_t_told, v_t_ground, v_t_ports, v_t_scrambled, v_t_places, v_t_sorts, v_t_counts, v_t_operations, v_t_elements, v_t_newSorts, v_t_newCounts, v_t_newOperations, v_t_tape, v_t_tapeSize, v_t_place, .ref h_t_failed, .int t_failedCount, v_t_keeps, v_t_some, .int t_repairedRows, .int t_repairedColumns, .int t_proof])), (h_t_failed, .inl (cI, n_t_failed, .inl t_failed_a))] H := by rw [hH]; exact hP
  have hS : va_S A s.heap H locs := by rw [hH]; exact hS
  show W p l e rm_RF_repair s m _ below meth c s.heap locs 0 0 (MQ below (QW D (post_RF_repair h_t h_t_failed v_t_bits v_t_cells v_t_sense v_t_kinds v_t_victims v_t_others v_t_faults v_t_toldKinds v_t_toldVictims v_t_toldOthers v_t_told v_t_ground v_t_ports v_t_scrambled v_t_places v_t_sorts v_t_counts v_t_operations v_t_elements v_t_newSorts v_t_newCounts v_t_newOperations v_t_tape v_t_tapeSize v_t_place v_t_keeps v_t_some n_t_failed t_words t_failedCount t_failed_a cI cB cJ res) A) _ s 0 0 A) (F0 m 0 ls [])
  refine wheap hH ?_
  clear hH hlo
  refine lv_aload_n hx hb d_RF_repair_0 rfl (lv_at hl 0 rfl) ?_
  refine lv_iload_n hx hb d_RF_repair_1 rfl (lv_at hl 1 rfl) ?_
  refine lv_if_lt (tgt := 27) hx hb d_RF_repair_2 (by decide) (fun cc2 => ?_) (fun cc2 => ?_)
  · have hf := ifT cc2 hf
    exact k_RF_repair_27 (s := s) C0 hA hf hP hD hS (lv_sub hl [0, 1, 2, 3] rfl)
  · have hf := ifF cc2 hf
    refine lv_iload_n hx hb d_RF_repair_5 rfl (lv_at hl 1 rfl) ?_
    refine lv_bipush (v := 8) hx hb d_RF_repair_6 (by decide) ?_
    refine lv_icmp_gt (tgt := 27) hx hb d_RF_repair_8 (by decide) (fun cc8 => ?_) (fun cc8 => ?_)
    · have hf := ifT cc8 hf
      exact k_RF_repair_27 (s := s) C0 hA hf hP hD hS (lv_sub hl [0, 1, 2, 3] rfl)
    · have hf := ifF cc8 hf
      refine lv_iload_n hx hb d_RF_repair_11 rfl (lv_at hl 2 rfl) ?_
      refine lv_if_lt (tgt := 27) hx hb d_RF_repair_12 (by decide) (fun cc12 => ?_) (fun cc12 => ?_)
      · have hf := ifT cc12 hf
        exact k_RF_repair_27 (s := s) C0 hA hf hP hD hS (lv_sub hl [0, 1, 2, 3] rfl)
      · have hf := ifF cc12 hf
        refine lv_iload_n hx hb d_RF_repair_15 rfl (lv_at hl 2 rfl) ?_
        refine lv_bipush (v := 8) hx hb d_RF_repair_16 (by decide) ?_
        refine lv_icmp_gt (tgt := 27) hx hb d_RF_repair_18 (by decide) (fun cc18 => ?_) (fun cc18 => ?_)
        · have hf := ifT cc18 hf
          exact k_RF_repair_27 (s := s) C0 hA hf hP hD hS (lv_sub hl [0, 1, 2, 3] rfl)
        · have hf := ifF cc18 hf
          refine lv_lload_n hx hb d_RF_repair_21 rfl (lv_at hl 3 rfl) ?_
          refine lv_lconst (v := 0) hx hb d_RF_repair_22 (by decide) ?_
          refine W.lcmp hx hb d_RF_repair_23 ?_
          refine lv_if_ge (tgt := 31) hx hb d_RF_repair_24 (by decide) (fun cc24 => ?_) (fun cc24 => ?_)
          · have hf := ifT cc24 hf
            refine lv_iconst (v := 0) hx hb d_RF_repair_31 (by decide) ?_
            exact k_RF_repair_32 (s := s) C0 hA hf hP hD hS (lv_sub hl [0, 1, 2, 3] rfl)
          · have hf := ifF cc24 hf
            exact k_RF_repair_27 (s := s) C0 hA hf hP hD hS (lv_sub hl [0, 1, 2, 3] rfl)
