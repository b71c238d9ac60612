def f_RF_spare_144 (x3 : Int32) (x4 : Int32) (x5 : Int32) (rec5 : (Int32 × Int32) → Option (Int32 × Int32)) : Option (Int32 × Int32) :=
  (if x5 = 0 then
    (rec5 (x3, (x4 + 1)))
  else
    (rec5 ((x3 - 1), (x4 + 1))))
def f_RF_spare_96 (t_words : Int32) (x2 : Int32) (x4 : Int32) : Option (Int32 × Int32) :=
  (if x2 = 0 then
    (if t_words ≤ x4 then
      some (1, 0)
    else
      some (0, 0))
  else
    (if t_words ≤ x4 then
      some ((x4 - t_words), 0)
    else
      some (x4, 0)))
def f_RF_spare_76 (t_words : Int32) (s0 : Int32) (x2 : Int32) (x3 : Int32) (x4 : Int32) (rec5 : (Int32 × Int32) → Option (Int32 × Int32)) : Option (Int32 × Int32) :=
  (if s0 = 0 then
    (f_RF_spare_144 x3 x4 s0 rec5)
  else
    (if x3 = 0 then
      (if x2 = 0 then
        (f_RF_spare_96 t_words x2 x4)
      else
        (if x2 = 1 then
          (f_RF_spare_96 t_words x2 x4)
        else
          (f_RF_spare_144 x3 x4 s0 rec5)))
    else
      (f_RF_spare_144 x3 x4 s0 rec5)))
def g_RF_spare_5 (t_words : Int32) (t_bits : Int32) (t_repairedRows : Int32) (t_repairedColumns : Int32) (x2 : Int32) (rec5 : (Int32 × Int32) → Option (Int32 × Int32)) (st : (Int32 × Int32)) : Option (Int32 × Int32) :=
  (if (t_words + t_bits) ≤ st.2 then
    some (0, 1)
  else
    (if st.1 < 0 then
      some (0, 1)
    else
      (if t_words ≤ st.2 then
        (if ((t_repairedColumns >>> ((st.2 - t_words) &&& 31)) &&& 1) = 1 then
          (f_RF_spare_76 t_words 1 x2 st.1 st.2 rec5)
        else
          (f_RF_spare_76 t_words 0 x2 st.1 st.2 rec5))
      else
        (if ((t_repairedRows >>> (st.2 &&& 31)) &&& 1) = 1 then
          (f_RF_spare_76 t_words 1 x2 st.1 st.2 rec5)
        else
          (f_RF_spare_76 t_words 0 x2 st.1 st.2 rec5)))))
def f_RF_spare (t_words : Int32) (t_bits : Int32) (t_repairedRows : Int32) (t_repairedColumns : Int32) (a1 : Int32) (a2 : Int32) : Option (Int32 × Int32) :=
  (lp (g_RF_spare_5 t_words t_bits t_repairedRows t_repairedColumns a2) 100000 (a1, 0))
def post_RF_spare (h_t : Nat) (v_t_cells v_t_sense v_t_kinds v_t_victims v_t_others v_t_faults v_t_toldKinds v_t_toldVictims v_t_toldOthers v_t_told v_t_ground v_t_ports v_t_scrambled v_t_places v_t_sorts v_t_counts v_t_operations v_t_elements v_t_newSorts v_t_newCounts v_t_newOperations v_t_tape v_t_tapeSize v_t_place v_t_failed v_t_failedCount v_t_keeps v_t_some v_t_proof : Value) (t_words : Int32) (t_bits : Int32) (t_repairedRows : Int32) (t_repairedColumns : Int32) (cI cB cJ : ClassId) (res : Int32 × Int32) : Option Value → va_W → Prop := fun o ws' => o = some (.int res.1) ∧ ws' = [(h_t, .inr (1, [.int res.2, .int t_words, .int t_bits, v_t_cells, v_t_sense, v_t_kinds, v_t_victims, v_t_others, v_t_faults, v_t_toldKinds, v_t_toldVictims, v_t_toldOthers, v_t_told, v_t_ground, v_t_ports, v_t_scrambled, v_t_places, v_t_sorts, v_t_counts, v_t_operations, v_t_elements, v_t_newSorts, v_t_newCounts, v_t_newOperations, v_t_tape, v_t_tapeSize, v_t_place, v_t_failed, v_t_failedCount, v_t_keeps, v_t_some, .int t_repairedRows, .int t_repairedColumns, v_t_proof]))]
abbrev rm_RF_spare : Room := { frames := 0, cells := 0, slots := 0, locals := 0 }
set_option maxHeartbeats 4000000 in
set_option maxRecDepth 100000 in
theorem k_RF_spare_144 {p : Program} {l : Launch} {e : Env} {s : State} {m : MethodId} {args : Array Value} {below : List Frame} {meth : Method} {c : Code} {D : va_G} {cI cB cJ : ClassId} {A : Nat → Prop} (C0 : CX p s m args meth c D [(cI, .int), (cB, .byte), (cJ, .long)] R_RF b_RF_spare 6 (some .int) "spare") (hA : ∀ q, s.heap.size ≤ q → A q) {h_t : Nat} {v_t_cells v_t_sense v_t_kinds v_t_victims v_t_others v_t_faults v_t_toldKinds v_t_toldVictims v_t_toldOthers v_t_told v_t_ground v_t_ports v_t_scrambled v_t_places v_t_sorts v_t_counts v_t_operations v_t_elements v_t_newSorts v_t_newCounts v_t_newOperations v_t_tape v_t_tapeSize v_t_place v_t_failed v_t_failedCount v_t_keeps v_t_some v_t_proof : Value} {res : Int32 × Int32} {rec5 : (Int32 × Int32) → Option (Int32 × Int32)} {t_thrown : Int32} {t_words : Int32} {t_bits : Int32} {t_repairedRows : Int32} {t_repairedColumns : Int32} {x2 : Int32} {x3 : Int32} {x4 : Int32} {x5 : Int32}
    (hrec5 : ∀ (st : (Int32 × Int32)), rec5 st = some res → ∀  (H : Heap) (locs : List Loc) (ls : Array Slot), va_P D classes [(h_t, .inr (1, [.int t_thrown, .int t_words, .int t_bits, v_t_cells, v_t_sense, v_t_kinds, v_t_victims, v_t_others, v_t_faults, v_t_toldKinds, v_t_toldVictims, v_t_toldOthers, v_t_told, v_t_ground, v_t_ports, v_t_scrambled, v_t_places, v_t_sorts, v_t_counts, v_t_operations, v_t_elements, v_t_newSorts, v_t_newCounts, v_t_newOperations, v_t_tape, v_t_tapeSize, v_t_place, v_t_failed, v_t_failedCount, v_t_keeps, v_t_some, .int t_repairedRows, .int t_repairedColumns, v_t_proof]))] H → va_D A [(h_t, .inr (1, [.int t_thrown, .int t_words, .int t_bits, v_t_cells, v_t_sense, v_t_kinds, v_t_victims, v_t_others, v_t_faults, v_t_toldKinds, v_t_toldVictims, v_t_toldOthers, v_t_told, v_t_ground, v_t_ports, v_t_scrambled, v_t_places, v_t_sorts, v_t_counts, v_t_operations, v_t_elements, v_t_newSorts, v_t_newCounts, v_t_newOperations, v_t_tape, v_t_tapeSize, v_t_place, v_t_failed, v_t_failedCount, v_t_keeps, v_t_some, .int t_repairedRows, .int t_repairedColumns, v_t_proof]))] → va_S A s.heap H locs → lv_has ls 6 [(0, .ref h_t), (2, .int x2), (3, .int st.1), (4, .int st.2)] → W p l e rm_RF_spare s m args below meth c H locs 0 0 (MQ below (QW D (post_RF_spare h_t v_t_cells v_t_sense v_t_kinds v_t_victims v_t_others v_t_faults v_t_toldKinds v_t_toldVictims v_t_toldOthers v_t_told v_t_ground v_t_ports v_t_scrambled v_t_places v_t_sorts v_t_counts v_t_operations v_t_elements v_t_newSorts v_t_newCounts v_t_newOperations v_t_tape v_t_tapeSize v_t_place v_t_failed v_t_failedCount v_t_keeps v_t_some v_t_proof t_words t_bits t_repairedRows t_repairedColumns cI cB cJ res) A) args s 0 0 A) (F0 m 5 ls []))
    (hf : f_RF_spare_144 x3 x4 x5 rec5 = some res) {H : Heap} {locs : List Loc} {ls : Array Slot} (hP : va_P D classes [(h_t, .inr (1, [.int t_thrown, .int t_words, .int t_bits, v_t_cells, v_t_sense, v_t_kinds, v_t_victims, v_t_others, v_t_faults, v_t_toldKinds, v_t_toldVictims, v_t_toldOthers, v_t_told, v_t_ground, v_t_ports, v_t_scrambled, v_t_places, v_t_sorts, v_t_counts, v_t_operations, v_t_elements, v_t_newSorts, v_t_newCounts, v_t_newOperations, v_t_tape, v_t_tapeSize, v_t_place, v_t_failed, v_t_failedCount, v_t_keeps, v_t_some, .int t_repairedRows, .int t_repairedColumns, v_t_proof]))] H) (hD : va_D A [(h_t, .inr (1, [.int t_thrown, .int t_words, .int t_bits, v_t_cells, v_t_sense, v_t_kinds, v_t_victims, v_t_others, v_t_faults, v_t_toldKinds, v_t_toldVictims, v_t_toldOthers, v_t_told, v_t_ground, v_t_ports, v_t_scrambled, v_t_places, v_t_sorts, v_t_counts, v_t_operations, v_t_elements, v_t_newSorts, v_t_newCounts, v_t_newOperations, v_t_tape, v_t_tapeSize, v_t_place, v_t_failed, v_t_failedCount, v_t_keeps, v_t_some, .int t_repairedRows, .int t_repairedColumns, v_t_proof]))]) (hS : va_S A s.heap H locs) (hl : lv_has ls 6 [(0, .ref h_t), (2, .int x2), (3, .int x3), (4, .int x4), (5, .int x5)]) : W p l e rm_RF_spare s m args below meth c H locs 0 0 (MQ below (QW D (post_RF_spare h_t v_t_cells v_t_sense v_t_kinds v_t_victims v_t_others v_t_faults v_t_toldKinds v_t_toldVictims v_t_toldOthers v_t_told v_t_ground v_t_ports v_t_scrambled v_t_places v_t_sorts v_t_counts v_t_operations v_t_elements v_t_newSorts v_t_newCounts v_t_newOperations v_t_tape v_t_tapeSize v_t_place v_t_failed v_t_failedCount v_t_keeps v_t_some v_t_proof t_words t_bits t_repairedRows t_repairedColumns cI cB cJ res) A) args s 0 0 A) (F0 m 144 ls []) := by
  obtain ⟨hx, hb, hml, hr, hlocks, hts, hown, hK, hin⟩ := id C0
  have hf : (((
  (if x5 = 0 then
    (rec5 (x3, (x4 + 1)))
  else
    (rec5 ((x3 - 1), (x4 + 1)))))) : Option (Int32 × Int32)) = some res := hf
  refine lv_iload hx hb d_RF_spare_144 (lv_at hl 4 rfl) ?_
  refine lv_if_eq (tgt := 155) hx hb d_RF_spare_146 (by decide) (fun cc146 => ?_) (fun cc146 => ?_)
  · have hf := ifT cc146 hf
    refine lv_iload_n hx hb d_RF_spare_155 rfl (lv_at hl 2 rfl) ?_
    refine lv_istore_n (lv' := [(3, .int x3), (0, .ref h_t), (2, .int x2), (4, .int x4), (5, .int x5)]) hx hb d_RF_spare_156 rfl hl (by decide) rfl (fun ls hl => ?_)
    refine lv_iinc (v := (x4 + 1)) (lv' := [(4, .int (x4 + 1)), (3, .int x3), (0, .ref h_t), (2, .int x2), (5, .int x5)]) hx hb d_RF_spare_157 hl (k := 3) rfl rfl (by decide) rfl (fun ls hl => ?_)
    refine lv_goto (tgt := 5) hx hb d_RF_spare_160 (by decide) ?_
    exact hrec5 (x3, (x4 + 1)) hf  H locs ls hP hD hS (lv_sub hl [2, 3, 1, 0] rfl)
  · have hf := ifF cc146 hf
    refine lv_iload_n hx hb d_RF_spare_149 rfl (lv_at hl 2 rfl) ?_
    refine lv_iconst (v := 1) hx hb d_RF_spare_150 (by decide) ?_
    refine lv_isub hx hb d_RF_spare_151 ?_
    refine lv_goto (tgt := 156) hx hb d_RF_spare_152 (by decide) ?_
    refine lv_istore_n (lv' := [(3, .int (x3 - 1)), (0, .ref h_t), (2, .int x2), (4, .int x4), (5, .int x5)]) hx hb d_RF_spare_156 rfl hl (by decide) rfl (fun ls hl => ?_)
    refine lv_iinc (v := (x4 + 1)) (lv' := [(4, .int (x4 + 1)), (3, .int (x3 - 1)), (0, .ref h_t), (2, .int x2), (5, .int x5)]) hx hb d_RF_spare_157 hl (k := 3) rfl rfl (by decide) rfl (fun ls hl => ?_)
    refine lv_goto (tgt := 5) hx hb d_RF_spare_160 (by decide) ?_
    exact hrec5 ((x3 - 1), (x4 + 1)) hf  H locs ls hP hD hS (lv_sub hl [2, 3, 1, 0] rfl)
set_option maxHeartbeats 4000000 in
set_option maxRecDepth 100000 in
theorem k_RF_spare_96 {p : Program} {l : Launch} {e : Env} {s : State} {m : MethodId} {args : Array Value} {below : List Frame} {meth : Method} {c : Code} {D : va_G} {cI cB cJ : ClassId} {A : Nat → Prop} (C0 : CX p s m args meth c D [(cI, .int), (cB, .byte), (cJ, .long)] R_RF b_RF_spare 6 (some .int) "spare") (hA : ∀ q, s.heap.size ≤ q → A q) {h_t : Nat} {v_t_cells v_t_sense v_t_kinds v_t_victims v_t_others v_t_faults v_t_toldKinds v_t_toldVictims v_t_toldOthers v_t_told v_t_ground v_t_ports v_t_scrambled v_t_places v_t_sorts v_t_counts v_t_operations v_t_elements v_t_newSorts v_t_newCounts v_t_newOperations v_t_tape v_t_tapeSize v_t_place v_t_failed v_t_failedCount v_t_keeps v_t_some v_t_proof : Value} {res : Int32 × Int32} {t_thrown : Int32} {t_words : Int32} {t_bits : Int32} {t_repairedRows : Int32} {t_repairedColumns : Int32} {x2 : Int32} {x4 : Int32}
    (hf : f_RF_spare_96 t_words x2 x4 = some res) {H : Heap} {locs : List Loc} {ls : Array Slot} (hP : va_P D classes [(h_t, .inr (1, [.int t_thrown, .int t_words, .int t_bits, v_t_cells, v_t_sense, v_t_kinds, v_t_victims, v_t_others, v_t_faults, v_t_toldKinds, v_t_toldVictims, v_t_toldOthers, v_t_told, v_t_ground, v_t_ports, v_t_scrambled, v_t_places, v_t_sorts, v_t_counts, v_t_operations, v_t_elements, v_t_newSorts, v_t_newCounts, v_t_newOperations, v_t_tape, v_t_tapeSize, v_t_place, v_t_failed, v_t_failedCount, v_t_keeps, v_t_some, .int t_repairedRows, .int t_repairedColumns, v_t_proof]))] H) (hD : va_D A [(h_t, .inr (1, [.int t_thrown, .int t_words, .int t_bits, v_t_cells, v_t_sense, v_t_kinds, v_t_victims, v_t_others, v_t_faults, v_t_toldKinds, v_t_toldVictims, v_t_toldOthers, v_t_told, v_t_ground, v_t_ports, v_t_scrambled, v_t_places, v_t_sorts, v_t_counts, v_t_operations, v_t_elements, v_t_newSorts, v_t_newCounts, v_t_newOperations, v_t_tape, v_t_tapeSize, v_t_place, v_t_failed, v_t_failedCount, v_t_keeps, v_t_some, .int t_repairedRows, .int t_repairedColumns, v_t_proof]))]) (hS : va_S A s.heap H locs) (hl : lv_has ls 6 [(0, .ref h_t), (2, .int x2), (4, .int x4)]) : W p l e rm_RF_spare s m args below meth c H locs 0 0 (MQ below (QW D (post_RF_spare h_t v_t_cells v_t_sense v_t_kinds v_t_victims v_t_others v_t_faults v_t_toldKinds v_t_toldVictims v_t_toldOthers v_t_told v_t_ground v_t_ports v_t_scrambled v_t_places v_t_sorts v_t_counts v_t_operations v_t_elements v_t_newSorts v_t_newCounts v_t_newOperations v_t_tape v_t_tapeSize v_t_place v_t_failed v_t_failedCount v_t_keeps v_t_some v_t_proof t_words t_bits t_repairedRows t_repairedColumns cI cB cJ res) A) args s 0 0 A) (F0 m 96 ls []) := by
  obtain ⟨hx, hb, hml, hr, hlocks, hts, hown, hK, hin⟩ := id C0
  have hf : (((
  (if x2 = 0 then
    (if t_words ≤ x4 then
      some (1, 0)
    else
      some (0, 0))
  else
    (if t_words ≤ x4 then
      some ((x4 - t_words), 0)
    else
      some (x4, 0))))) : Option (Int32 × Int32)) = some res := hf
  refine lv_aload_n hx hb d_RF_spare_96 rfl (lv_at hl 0 rfl) ?_
  refine lv_iconst (v := 0) hx hb d_RF_spare_97 (by decide) ?_
  refine va_put (D := D) (ci := 1) (v := .int 0) (ty := .int) (C := R_RF) (T := F_RF) (N := 34) hx hb hts i_RF t_RF t_RF_ok n_RF hown hK.1 hP hD hS 0 rfl rfl 0 (by decide) (hts _ w_387) (fun _ h9 => h9) rfl (t_RF_ok 0 (by decide)) rfl rfl (Nat.le_of_ble_eq_true rfl) d_RF_spare_98 (fun H locs hP hD hS => ?_)
  have hP : va_P D classes [(h_t, .inr (1, [.int 0, .int t_words, .int t_bits, v_t_cells, v_t_sense, v_t_kinds, v_t_victims, v_t_others, v_t_faults, v_t_toldKinds, v_t_toldVictims, v_t_toldOthers, v_t_told, v_t_ground, v_t_ports, v_t_scrambled, v_t_places, v_t_sorts, v_t_counts, v_t_operations, v_t_elements, v_t_newSorts, v_t_newCounts, v_t_newOperations, v_t_tape, v_t_tapeSize, v_t_place, v_t_failed, v_t_failedCount, v_t_keeps, v_t_some, .int t_repairedRows, .int t_repairedColumns, v_t_proof]))] H := hP
  have hD : va_D A [(h_t, .inr (1, [.int 0, .int t_words, .int t_bits, v_t_cells, v_t_sense, v_t_kinds, v_t_victims, v_t_others, v_t_faults, v_t_toldKinds, v_t_toldVictims, v_t_toldOthers, v_t_told, v_t_ground, v_t_ports, v_t_scrambled, v_t_places, v_t_sorts, v_t_counts, v_t_operations, v_t_elements, v_t_newSorts, v_t_newCounts, v_t_newOperations, v_t_tape, v_t_tapeSize, v_t_place, v_t_failed, v_t_failedCount, v_t_keeps, v_t_some, .int t_repairedRows, .int t_repairedColumns, v_t_proof]))] := hD
  refine lv_iload_n hx hb d_RF_spare_101 rfl (lv_at hl 1 rfl) ?_
  refine lv_if_ne (tgt := 122) hx hb d_RF_spare_102 (by decide) (fun cc102 => ?_) (fun cc102 => ?_)
  · have hf := ifF cc102 hf
    refine lv_iload hx hb d_RF_spare_122 (lv_at hl 2 rfl) ?_
    refine lv_aload_n hx hb d_RF_spare_124 rfl (lv_at hl 0 rfl) ?_
    refine va_get (D := D) (ci := 1) (v := .int t_words) (C := R_RF) (T := F_RF) (N := 34) hx hb hts i_RF hown hK.1 hP 0 rfl rfl 1 (by decide) (hts _ w_384) (fun _ h9 => h9) rfl d_RF_spare_125 ?_
    refine lv_icmp_ge (tgt := 136) hx hb d_RF_spare_128 (by decide) (fun cc128 => ?_) (fun cc128 => ?_)
    · have hf := ifT cc128 hf
      refine lv_iload hx hb d_RF_spare_136 (lv_at hl 2 rfl) ?_
      refine lv_aload_n hx hb d_RF_spare_138 rfl (lv_at hl 0 rfl) ?_
      refine va_get (D := D) (ci := 1) (v := .int t_words) (C := R_RF) (T := F_RF) (N := 34) hx hb hts i_RF hown hK.1 hP 0 rfl rfl 1 (by decide) (hts _ w_384) (fun _ h9 => h9) rfl d_RF_spare_139 ?_
      refine lv_isub hx hb d_RF_spare_142 ?_
      obtain rfl := Option.some.inj hf
      exact ret_i hx hb hr hlocks hP hD hS ⟨rfl, rfl⟩ d_RF_spare_143
    · have hf := ifF cc128 hf
      refine lv_iload hx hb d_RF_spare_131 (lv_at hl 2 rfl) ?_
      refine lv_goto (tgt := 143) hx hb d_RF_spare_133 (by decide) ?_
      obtain rfl := Option.some.inj hf
      exact ret_i hx hb hr hlocks hP hD hS ⟨rfl, rfl⟩ d_RF_spare_143
  · have hf := ifT cc102 hf
    refine lv_iload hx hb d_RF_spare_105 (lv_at hl 2 rfl) ?_
    refine lv_aload_n hx hb d_RF_spare_107 rfl (lv_at hl 0 rfl) ?_
    refine va_get (D := D) (ci := 1) (v := .int t_words) (C := R_RF) (T := F_RF) (N := 34) hx hb hts i_RF hown hK.1 hP 0 rfl rfl 1 (by decide) (hts _ w_384) (fun _ h9 => h9) rfl d_RF_spare_108 ?_
    refine lv_icmp_ge (tgt := 118) hx hb d_RF_spare_111 (by decide) (fun cc111 => ?_) (fun cc111 => ?_)
    · have hf := ifT cc111 hf
      refine lv_iconst (v := 1) hx hb d_RF_spare_118 (by decide) ?_
      refine lv_goto (tgt := 143) hx hb d_RF_spare_119 (by decide) ?_
      obtain rfl := Option.some.inj hf
      exact ret_i hx hb hr hlocks hP hD hS ⟨rfl, rfl⟩ d_RF_spare_143
    · have hf := ifF cc111 hf
      refine lv_iconst (v := 0) hx hb d_RF_spare_114 (by decide) ?_
      refine lv_goto (tgt := 143) hx hb d_RF_spare_115 (by decide) ?_
      obtain rfl := Option.some.inj hf
      exact ret_i hx hb hr hlocks hP hD hS ⟨rfl, rfl⟩ d_RF_spare_143
set_option maxHeartbeats 4000000 in
set_option maxRecDepth 100000 in
theorem k_RF_spare_76 {p : Program} {l : Launch} {e : Env} {s : State} {m : MethodId} {args : Array Value} {below : List Frame} {meth : Method} {c : Code} {D : va_G} {cI cB cJ : ClassId} {A : Nat → Prop} (C0 : CX p s m args meth c D [(cI, .int), (cB, .byte), (cJ, .long)] R_RF b_RF_spare 6 (some .int) "spare") (hA : ∀ q, s.heap.size ≤ q → A q) {h_t : Nat} {v_t_cells v_t_sense v_t_kinds v_t_victims v_t_others v_t_faults v_t_toldKinds v_t_toldVictims v_t_toldOthers v_t_told v_t_ground v_t_ports v_t_scrambled v_t_places v_t_sorts v_t_counts v_t_operations v_t_elements v_t_newSorts v_t_newCounts v_t_newOperations v_t_tape v_t_tapeSize v_t_place v_t_failed v_t_failedCount v_t_keeps v_t_some v_t_proof : Value} {res : Int32 × Int32} {rec5 : (Int32 × Int32) → Option (Int32 × Int32)} {t_thrown : Int32} {t_words : Int32} {t_bits : Int32} {t_repairedRows : Int32} {t_repairedColumns : Int32} {s0 : Int32} {x2 : Int32} {x3 : Int32} {x4 : Int32}
    (hrec5 : ∀ (st : (Int32 × Int32)), rec5 st = some res → ∀  (H : Heap) (locs : List Loc) (ls : Array Slot), va_P D classes [(h_t, .inr (1, [.int t_thrown, .int t_words, .int t_bits, v_t_cells, v_t_sense, v_t_kinds, v_t_victims, v_t_others, v_t_faults, v_t_toldKinds, v_t_toldVictims, v_t_toldOthers, v_t_told, v_t_ground, v_t_ports, v_t_scrambled, v_t_places, v_t_sorts, v_t_counts, v_t_operations, v_t_elements, v_t_newSorts, v_t_newCounts, v_t_newOperations, v_t_tape, v_t_tapeSize, v_t_place, v_t_failed, v_t_failedCount, v_t_keeps, v_t_some, .int t_repairedRows, .int t_repairedColumns, v_t_proof]))] H → va_D A [(h_t, .inr (1, [.int t_thrown, .int t_words, .int t_bits, v_t_cells, v_t_sense, v_t_kinds, v_t_victims, v_t_others, v_t_faults, v_t_toldKinds, v_t_toldVictims, v_t_toldOthers, v_t_told, v_t_ground, v_t_ports, v_t_scrambled, v_t_places, v_t_sorts, v_t_counts, v_t_operations, v_t_elements, v_t_newSorts, v_t_newCounts, v_t_newOperations, v_t_tape, v_t_tapeSize, v_t_place, v_t_failed, v_t_failedCount, v_t_keeps, v_t_some, .int t_repairedRows, .int t_repairedColumns, v_t_proof]))] → va_S A s.heap H locs → lv_has ls 6 [(0, .ref h_t), (2, .int x2), (3, .int st.1), (4, .int st.2)] → W p l e rm_RF_spare s m args below meth c H locs 0 0 (MQ below (QW D (post_RF_spare h_t v_t_cells v_t_sense v_t_kinds v_t_victims v_t_others v_t_faults v_t_toldKinds v_t_toldVictims v_t_toldOthers v_t_told v_t_ground v_t_ports v_t_scrambled v_t_places v_t_sorts v_t_counts v_t_operations v_t_elements v_t_newSorts v_t_newCounts v_t_newOperations v_t_tape v_t_tapeSize v_t_place v_t_failed v_t_failedCount v_t_keeps v_t_some v_t_proof t_words t_bits t_repairedRows t_repairedColumns cI cB cJ res) A) args s 0 0 A) (F0 m 5 ls []))
    (hf : f_RF_spare_76 t_words s0 x2 x3 x4 rec5 = some res) {H : Heap} {locs : List Loc} {ls : Array Slot} (hP : va_P D classes [(h_t, .inr (1, [.int t_thrown, .int t_words, .int t_bits, v_t_cells, v_t_sense, v_t_kinds, v_t_victims, v_t_others, v_t_faults, v_t_toldKinds, v_t_toldVictims, v_t_toldOthers, v_t_told, v_t_ground, v_t_ports, v_t_scrambled, v_t_places, v_t_sorts, v_t_counts, v_t_operations, v_t_elements, v_t_newSorts, v_t_newCounts, v_t_newOperations, v_t_tape, v_t_tapeSize, v_t_place, v_t_failed, v_t_failedCount, v_t_keeps, v_t_some, .int t_repairedRows, .int t_repairedColumns, v_t_proof]))] H) (hD : va_D A [(h_t, .inr (1, [.int t_thrown, .int t_words, .int t_bits, v_t_cells, v_t_sense, v_t_kinds, v_t_victims, v_t_others, v_t_faults, v_t_toldKinds, v_t_toldVictims, v_t_toldOthers, v_t_told, v_t_ground, v_t_ports, v_t_scrambled, v_t_places, v_t_sorts, v_t_counts, v_t_operations, v_t_elements, v_t_newSorts, v_t_newCounts, v_t_newOperations, v_t_tape, v_t_tapeSize, v_t_place, v_t_failed, v_t_failedCount, v_t_keeps, v_t_some, .int t_repairedRows, .int t_repairedColumns, v_t_proof]))]) (hS : va_S A s.heap H locs) (hl : lv_has ls 6 [(0, .ref h_t), (2, .int x2), (3, .int x3), (4, .int x4)]) : W p l e rm_RF_spare s m args below meth c H locs 0 0 (MQ below (QW D (post_RF_spare h_t v_t_cells v_t_sense v_t_kinds v_t_victims v_t_others v_t_faults v_t_toldKinds v_t_toldVictims v_t_toldOthers v_t_told v_t_ground v_t_ports v_t_scrambled v_t_places v_t_sorts v_t_counts v_t_operations v_t_elements v_t_newSorts v_t_newCounts v_t_newOperations v_t_tape v_t_tapeSize v_t_place v_t_failed v_t_failedCount v_t_keeps v_t_some v_t_proof t_words t_bits t_repairedRows t_repairedColumns cI cB cJ res) A) args s 0 0 A) (F0 m 76 ls [.int s0]) := by
  obtain ⟨hx, hb, hml, hr, hlocks, hts, hown, hK, hin⟩ := id C0
  have hf : (((
  (if s0 = 0 then
    (f_RF_spare_144 x3 x4 s0 rec5)
  else
    (if x3 = 0 then
      (if x2 = 0 then
        (f_RF_spare_96 t_words x2 x4)
      else
        (if x2 = 1 then
          (f_RF_spare_96 t_words x2 x4)
        else
          (f_RF_spare_144 x3 x4 s0 rec5)))
    else
      (f_RF_spare_144 x3 x4 s0 rec5))))) : Option (Int32 × Int32)) = some res := hf
  refine lv_istore (lv' := [(5, .int s0), (0, .ref h_t), (2, .int x2), (3, .int x3), (4, .int x4)]) hx hb d_RF_spare_76 hl (by decide) rfl (fun ls hl => ?_)
  refine lv_iload hx hb d_RF_spare_78 (lv_at hl 0 rfl) ?_
  refine lv_if_eq (tgt := 144) hx hb d_RF_spare_80 (by decide) (fun cc80 => ?_) (fun cc80 => ?_)
  · have hf := ifT cc80 hf
    exact k_RF_spare_144 (s := s) C0 hA hrec5 hf hP hD hS (lv_sub hl [1, 2, 3, 4, 0] rfl)
  · have hf := ifF cc80 hf
    refine lv_iload_n hx hb d_RF_spare_83 rfl (lv_at hl 3 rfl) ?_
    refine lv_if_ne (tgt := 144) hx hb d_RF_spare_84 (by decide) (fun cc84 => ?_) (fun cc84 => ?_)
    · have hf := ifF cc84 hf
      exact k_RF_spare_144 (s := s) C0 hA hrec5 hf hP hD hS (lv_sub hl [1, 2, 3, 4, 0] rfl)
    · have hf := ifT cc84 hf
      refine lv_iload_n hx hb d_RF_spare_87 rfl (lv_at hl 2 rfl) ?_
      refine lv_if_eq (tgt := 96) hx hb d_RF_spare_88 (by decide) (fun cc88 => ?_) (fun cc88 => ?_)
      · have hf := ifT cc88 hf
        exact k_RF_spare_96 (s := s) C0 hA hf hP hD hS (lv_sub hl [1, 2, 4] rfl)
      · have hf := ifF cc88 hf
        refine lv_iload_n hx hb d_RF_spare_91 rfl (lv_at hl 2 rfl) ?_
        refine lv_iconst (v := 1) hx hb d_RF_spare_92 (by decide) ?_
        refine lv_icmp_ne (tgt := 144) hx hb d_RF_spare_93 (by decide) (fun cc93 => ?_) (fun cc93 => ?_)
        · have hf := ifF cc93 hf
          exact k_RF_spare_144 (s := s) C0 hA hrec5 hf hP hD hS (lv_sub hl [1, 2, 3, 4, 0] rfl)
        · have hf := ifT cc93 hf
          exact k_RF_spare_96 (s := s) C0 hA hf hP hD hS (lv_sub hl [1, 2, 4] rfl)
set_option maxHeartbeats 4000000 in
set_option maxRecDepth 100000 in
theorem kb_RF_spare_5 {p : Program} {l : Launch} {e : Env} {s : State} {m : MethodId} {args : Array Value} {below : List Frame} {meth : Method} {c : Code} {D : va_G} {cI cB cJ : ClassId} {A : Nat → Prop} (C0 : CX p s m args meth c D [(cI, .int), (cB, .byte), (cJ, .long)] R_RF b_RF_spare 6 (some .int) "spare") (hA : ∀ q, s.heap.size ≤ q → A q) {h_t : Nat} {v_t_cells v_t_sense v_t_kinds v_t_victims v_t_others v_t_faults v_t_toldKinds v_t_toldVictims v_t_toldOthers v_t_told v_t_ground v_t_ports v_t_scrambled v_t_places v_t_sorts v_t_counts v_t_operations v_t_elements v_t_newSorts v_t_newCounts v_t_newOperations v_t_tape v_t_tapeSize v_t_place v_t_failed v_t_failedCount v_t_keeps v_t_some v_t_proof : Value} {res : Int32 × Int32} {rec5 : (Int32 × Int32) → Option (Int32 × Int32)} {t_thrown : Int32} {t_words : Int32} {t_bits : Int32} {t_repairedRows : Int32} {t_repairedColumns : Int32} {x2 : Int32} {x3 : Int32} {x4 : Int32}
    (hrec5 : ∀ (st : (Int32 × Int32)), rec5 st = some res → ∀  (H : Heap) (locs : List Loc) (ls : Array Slot), va_P D classes [(h_t, .inr (1, [.int t_thrown, .int t_words, .int t_bits, v_t_cells, v_t_sense, v_t_kinds, v_t_victims, v_t_others, v_t_faults, v_t_toldKinds, v_t_toldVictims, v_t_toldOthers, v_t_told, v_t_ground, v_t_ports, v_t_scrambled, v_t_places, v_t_sorts, v_t_counts, v_t_operations, v_t_elements, v_t_newSorts, v_t_newCounts, v_t_newOperations, v_t_tape, v_t_tapeSize, v_t_place, v_t_failed, v_t_failedCount, v_t_keeps, v_t_some, .int t_repairedRows, .int t_repairedColumns, v_t_proof]))] H → va_D A [(h_t, .inr (1, [.int t_thrown, .int t_words, .int t_bits, v_t_cells, v_t_sense, v_t_kinds, v_t_victims, v_t_others, v_t_faults, v_t_toldKinds, v_t_toldVictims, v_t_toldOthers, v_t_told, v_t_ground, v_t_ports, v_t_scrambled, v_t_places, v_t_sorts, v_t_counts, v_t_operations, v_t_elements, v_t_newSorts, v_t_newCounts, v_t_newOperations, v_t_tape, v_t_tapeSize, v_t_place, v_t_failed, v_t_failedCount, v_t_keeps, v_t_some, .int t_repairedRows, .int t_repairedColumns, v_t_proof]))] → va_S A s.heap H locs → lv_has ls 6 [(0, .ref h_t), (2, .int x2), (3, .int st.1), (4, .int st.2)] → W p l e rm_RF_spare s m args below meth c H locs 0 0 (MQ below (QW D (post_RF_spare h_t v_t_cells v_t_sense v_t_kinds v_t_victims v_t_others v_t_faults v_t_toldKinds v_t_toldVictims v_t_toldOthers v_t_told v_t_ground v_t_ports v_t_scrambled v_t_places v_t_sorts v_t_counts v_t_operations v_t_elements v_t_newSorts v_t_newCounts v_t_newOperations v_t_tape v_t_tapeSize v_t_place v_t_failed v_t_failedCount v_t_keeps v_t_some v_t_proof t_words t_bits t_repairedRows t_repairedColumns cI cB cJ res) A) args s 0 0 A) (F0 m 5 ls []))
    (hf : g_RF_spare_5 t_words t_bits t_repairedRows t_repairedColumns x2 rec5 (x3, x4) = some res) {H : Heap} {locs : List Loc} {ls : Array Slot} (hP : va_P D classes [(h_t, .inr (1, [.int t_thrown, .int t_words, .int t_bits, v_t_cells, v_t_sense, v_t_kinds, v_t_victims, v_t_others, v_t_faults, v_t_toldKinds, v_t_toldVictims, v_t_toldOthers, v_t_told, v_t_ground, v_t_ports, v_t_scrambled, v_t_places, v_t_sorts, v_t_counts, v_t_operations, v_t_elements, v_t_newSorts, v_t_newCounts, v_t_newOperations, v_t_tape, v_t_tapeSize, v_t_place, v_t_failed, v_t_failedCount, v_t_keeps, v_t_some, .int t_repairedRows, .int t_repairedColumns, v_t_proof]))] H) (hD : va_D A [(h_t, .inr (1, [.int t_thrown, .int t_words, .int t_bits, v_t_cells, v_t_sense, v_t_kinds, v_t_victims, v_t_others, v_t_faults, v_t_toldKinds, v_t_toldVictims, v_t_toldOthers, v_t_told, v_t_ground, v_t_ports, v_t_scrambled, v_t_places, v_t_sorts, v_t_counts, v_t_operations, v_t_elements, v_t_newSorts, v_t_newCounts, v_t_newOperations, v_t_tape, v_t_tapeSize, v_t_place, v_t_failed, v_t_failedCount, v_t_keeps, v_t_some, .int t_repairedRows, .int t_repairedColumns, v_t_proof]))]) (hS : va_S A s.heap H locs) (hl : lv_has ls 6 [(0, .ref h_t), (2, .int x2), (3, .int x3), (4, .int x4)]) : W p l e rm_RF_spare s m args below meth c H locs 0 0 (MQ below (QW D (post_RF_spare h_t v_t_cells v_t_sense v_t_kinds v_t_victims v_t_others v_t_faults v_t_toldKinds v_t_toldVictims v_t_toldOthers v_t_told v_t_ground v_t_ports v_t_scrambled v_t_places v_t_sorts v_t_counts v_t_operations v_t_elements v_t_newSorts v_t_newCounts v_t_newOperations v_t_tape v_t_tapeSize v_t_place v_t_failed v_t_failedCount v_t_keeps v_t_some v_t_proof t_words t_bits t_repairedRows t_repairedColumns cI cB cJ res) A) args s 0 0 A) (F0 m 5 ls []) := by
  obtain ⟨hx, hb, hml, hr, hlocks, hts, hown, hK, hin⟩ := id C0
  have hf : (((
  (if (t_words + t_bits) ≤ x4 then
    some (0, 1)
  else
    (if x3 < 0 then
      some (0, 1)
    else
      (if t_words ≤ x4 then
        (if ((t_repairedColumns >>> ((x4 - t_words) &&& 31)) &&& 1) = 1 then
          (f_RF_spare_76 t_words 1 x2 x3 x4 rec5)
        else
          (f_RF_spare_76 t_words 0 x2 x3 x4 rec5))
      else
        (if ((t_repairedRows >>> (x4 &&& 31)) &&& 1) = 1 then
          (f_RF_spare_76 t_words 1 x2 x3 x4 rec5)
        else
          (f_RF_spare_76 t_words 0 x2 x3 x4 rec5))))))) : Option (Int32 × Int32)) = some res := hf
  refine lv_iload hx hb d_RF_spare_5 (lv_at hl 3 rfl) ?_
  refine lv_aload_n hx hb d_RF_spare_7 rfl (lv_at hl 0 rfl) ?_
  refine va_get (D := D) (ci := 1) (v := .int t_words) (C := R_RF) (T := F_RF) (N := 34) hx hb hts i_RF hown hK.1 hP 0 rfl rfl 1 (by decide) (hts _ w_384) (fun _ h9 => h9) rfl d_RF_spare_8 ?_
  refine lv_aload_n hx hb d_RF_spare_11 rfl (lv_at hl 0 rfl) ?_
  refine va_get (D := D) (ci := 1) (v := .int t_bits) (C := R_RF) (T := F_RF) (N := 34) hx hb hts i_RF hown hK.1 hP 0 rfl rfl 2 (by decide) (hts _ w_385) (fun _ h9 => h9) rfl d_RF_spare_12 ?_
  refine lv_iadd hx hb d_RF_spare_15 ?_
  refine lv_icmp_ge (tgt := 163) hx hb d_RF_spare_16 (by decide) (fun cc16 => ?_) (fun cc16 => ?_)
  · have hf := ifT cc16 hf
    refine lv_aload_n hx hb d_RF_spare_163 rfl (lv_at hl 0 rfl) ?_
    refine lv_iconst (v := 1) hx hb d_RF_spare_164 (by decide) ?_
    refine va_put (D := D) (ci := 1) (v := .int 1) (ty := .int) (C := R_RF) (T := F_RF) (N := 34) hx hb hts i_RF t_RF t_RF_ok n_RF hown hK.1 hP hD hS 0 rfl rfl 0 (by decide) (hts _ w_387) (fun _ h9 => h9) rfl (t_RF_ok 0 (by decide)) rfl rfl (Nat.le_of_ble_eq_true rfl) d_RF_spare_165 (fun H locs hP hD hS => ?_)
    have hP : va_P D classes [(h_t, .inr (1, [.int 1, .int t_words, .int t_bits, v_t_cells, v_t_sense, v_t_kinds, v_t_victims, v_t_others, v_t_faults, v_t_toldKinds, v_t_toldVictims, v_t_toldOthers, v_t_told, v_t_ground, v_t_ports, v_t_scrambled, v_t_places, v_t_sorts, v_t_counts, v_t_operations, v_t_elements, v_t_newSorts, v_t_newCounts, v_t_newOperations, v_t_tape, v_t_tapeSize, v_t_place, v_t_failed, v_t_failedCount, v_t_keeps, v_t_some, .int t_repairedRows, .int t_repairedColumns, v_t_proof]))] H := hP
    have hD : va_D A [(h_t, .inr (1, [.int 1, .int t_words, .int t_bits, v_t_cells, v_t_sense, v_t_kinds, v_t_victims, v_t_others, v_t_faults, v_t_toldKinds, v_t_toldVictims, v_t_toldOthers, v_t_told, v_t_ground, v_t_ports, v_t_scrambled, v_t_places, v_t_sorts, v_t_counts, v_t_operations, v_t_elements, v_t_newSorts, v_t_newCounts, v_t_newOperations, v_t_tape, v_t_tapeSize, v_t_place, v_t_failed, v_t_failedCount, v_t_keeps, v_t_some, .int t_repairedRows, .int t_repairedColumns, v_t_proof]))] := hD
    refine lv_iconst (v := 0) hx hb d_RF_spare_168 (by decide) ?_
    obtain rfl := Option.some.inj hf
    exact ret_i hx hb hr hlocks hP hD hS ⟨rfl, rfl⟩ d_RF_spare_169
  · have hf := ifF cc16 hf
    refine lv_iload_n hx hb d_RF_spare_19 rfl (lv_at hl 2 rfl) ?_
    refine lv_if_lt (tgt := 163) hx hb d_RF_spare_20 (by decide) (fun cc20 => ?_) (fun cc20 => ?_)
    · have hf := ifT cc20 hf
      refine lv_aload_n hx hb d_RF_spare_163 rfl (lv_at hl 0 rfl) ?_
      refine lv_iconst (v := 1) hx hb d_RF_spare_164 (by decide) ?_
      refine va_put (D := D) (ci := 1) (v := .int 1) (ty := .int) (C := R_RF) (T := F_RF) (N := 34) hx hb hts i_RF t_RF t_RF_ok n_RF hown hK.1 hP hD hS 0 rfl rfl 0 (by decide) (hts _ w_387) (fun _ h9 => h9) rfl (t_RF_ok 0 (by decide)) rfl rfl (Nat.le_of_ble_eq_true rfl) d_RF_spare_165 (fun H locs hP hD hS => ?_)
      have hP : va_P D classes [(h_t, .inr (1, [.int 1, .int t_words, .int t_bits, v_t_cells, v_t_sense, v_t_kinds, v_t_victims, v_t_others, v_t_faults, v_t_toldKinds, v_t_toldVictims, v_t_toldOthers, v_t_told, v_t_ground, v_t_ports, v_t_scrambled, v_t_places, v_t_sorts, v_t_counts, v_t_operations, v_t_elements, v_t_newSorts, v_t_newCounts, v_t_newOperations, v_t_tape, v_t_tapeSize, v_t_place, v_t_failed, v_t_failedCount, v_t_keeps, v_t_some, .int t_repairedRows, .int t_repairedColumns, v_t_proof]))] H := hP
      have hD : va_D A [(h_t, .inr (1, [.int 1, .int t_words, .int t_bits, v_t_cells, v_t_sense, v_t_kinds, v_t_victims, v_t_others, v_t_faults, v_t_toldKinds, v_t_toldVictims, v_t_toldOthers, v_t_told, v_t_ground, v_t_ports, v_t_scrambled, v_t_places, v_t_sorts, v_t_counts, v_t_operations, v_t_elements, v_t_newSorts, v_t_newCounts, v_t_newOperations, v_t_tape, v_t_tapeSize, v_t_place, v_t_failed, v_t_failedCount, v_t_keeps, v_t_some, .int t_repairedRows, .int t_repairedColumns, v_t_proof]))] := hD
      refine lv_iconst (v := 0) hx hb d_RF_spare_168 (by decide) ?_
      obtain rfl := Option.some.inj hf
      exact ret_i hx hb hr hlocks hP hD hS ⟨rfl, rfl⟩ d_RF_spare_169
    · have hf := ifF cc20 hf
      refine lv_iload hx hb d_RF_spare_23 (lv_at hl 3 rfl) ?_
      refine lv_aload_n hx hb d_RF_spare_25 rfl (lv_at hl 0 rfl) ?_
      refine va_get (D := D) (ci := 1) (v := .int t_words) (C := R_RF) (T := F_RF) (N := 34) hx hb hts i_RF hown hK.1 hP 0 rfl rfl 1 (by decide) (hts _ w_384) (fun _ h9 => h9) rfl d_RF_spare_26 ?_
      refine lv_icmp_ge (tgt := 53) hx hb d_RF_spare_29 (by decide) (fun cc29 => ?_) (fun cc29 => ?_)
      · have hf := ifT cc29 hf
        refine lv_aload_n hx hb d_RF_spare_53 rfl (lv_at hl 0 rfl) ?_
        refine va_get (D := D) (ci := 1) (v := .int t_repairedColumns) (C := R_RF) (T := F_RF) (N := 34) hx hb hts i_RF hown hK.1 hP 0 rfl rfl 32 (by decide) (hts _ w_447) (fun _ h9 => h9) rfl d_RF_spare_54 ?_
        refine lv_iload hx hb d_RF_spare_57 (lv_at hl 3 rfl) ?_
        refine lv_aload_n hx hb d_RF_spare_59 rfl (lv_at hl 0 rfl) ?_
        refine va_get (D := D) (ci := 1) (v := .int t_words) (C := R_RF) (T := F_RF) (N := 34) hx hb hts i_RF hown hK.1 hP 0 rfl rfl 1 (by decide) (hts _ w_384) (fun _ h9 => h9) rfl d_RF_spare_60 ?_
        refine lv_isub hx hb d_RF_spare_63 ?_
        refine lv_ishr hx hb d_RF_spare_64 ?_
        refine lv_iconst (v := 1) hx hb d_RF_spare_65 (by decide) ?_
        refine lv_iand hx hb d_RF_spare_66 ?_
        refine lv_iconst (v := 1) hx hb d_RF_spare_67 (by decide) ?_
        refine lv_icmp_ne (tgt := 75) hx hb d_RF_spare_68 (by decide) (fun cc68 => ?_) (fun cc68 => ?_)
        · have hf := ifF cc68 hf
          refine lv_iconst (v := 0) hx hb d_RF_spare_75 (by decide) ?_
          exact k_RF_spare_76 (s := s) C0 hA hrec5 hf hP hD hS (lv_sub hl [0, 1, 2, 3] rfl)
        · have hf := ifT cc68 hf
          refine lv_iconst (v := 1) hx hb d_RF_spare_71 (by decide) ?_
          refine lv_goto (tgt := 76) hx hb d_RF_spare_72 (by decide) ?_
          exact k_RF_spare_76 (s := s) C0 hA hrec5 hf hP hD hS (lv_sub hl [0, 1, 2, 3] rfl)
      · have hf := ifF cc29 hf
        refine lv_aload_n hx hb d_RF_spare_32 rfl (lv_at hl 0 rfl) ?_
        refine va_get (D := D) (ci := 1) (v := .int t_repairedRows) (C := R_RF) (T := F_RF) (N := 34) hx hb hts i_RF hown hK.1 hP 0 rfl rfl 31 (by decide) (hts _ w_446) (fun _ h9 => h9) rfl d_RF_spare_33 ?_
        refine lv_iload hx hb d_RF_spare_36 (lv_at hl 3 rfl) ?_
        refine lv_ishr hx hb d_RF_spare_38 ?_
        refine lv_iconst (v := 1) hx hb d_RF_spare_39 (by decide) ?_
        refine lv_iand hx hb d_RF_spare_40 ?_
        refine lv_iconst (v := 1) hx hb d_RF_spare_41 (by decide) ?_
        refine lv_icmp_ne (tgt := 49) hx hb d_RF_spare_42 (by decide) (fun cc42 => ?_) (fun cc42 => ?_)
        · have hf := ifF cc42 hf
          refine lv_iconst (v := 0) hx hb d_RF_spare_49 (by decide) ?_
          refine lv_goto (tgt := 76) hx hb d_RF_spare_50 (by decide) ?_
          exact k_RF_spare_76 (s := s) C0 hA hrec5 hf hP hD hS (lv_sub hl [0, 1, 2, 3] rfl)
        · have hf := ifT cc42 hf
          refine lv_iconst (v := 1) hx hb d_RF_spare_45 (by decide) ?_
          refine lv_goto (tgt := 76) hx hb d_RF_spare_46 (by decide) ?_
          exact k_RF_spare_76 (s := s) C0 hA hrec5 hf hP hD hS (lv_sub hl [0, 1, 2, 3] rfl)
set_option maxHeartbeats 4000000 in
set_option maxRecDepth 100000 in
theorem k_RF_spare_5 {p : Program} {l : Launch} {e : Env} {s : State} {m : MethodId} {args : Array Value} {below : List Frame} {meth : Method} {c : Code} {D : va_G} {cI cB cJ : ClassId} {A : Nat → Prop} (C0 : CX p s m args meth c D [(cI, .int), (cB, .byte), (cJ, .long)] R_RF b_RF_spare 6 (some .int) "spare") (hA : ∀ q, s.heap.size ≤ q → A q) {h_t : Nat} {v_t_cells v_t_sense v_t_kinds v_t_victims v_t_others v_t_faults v_t_toldKinds v_t_toldVictims v_t_toldOthers v_t_told v_t_ground v_t_ports v_t_scrambled v_t_places v_t_sorts v_t_counts v_t_operations v_t_elements v_t_newSorts v_t_newCounts v_t_newOperations v_t_tape v_t_tapeSize v_t_place v_t_failed v_t_failedCount v_t_keeps v_t_some v_t_proof : Value} {res : Int32 × Int32} {t_thrown : Int32} {t_words : Int32} {t_bits : Int32} {t_repairedRows : Int32} {t_repairedColumns : Int32} {x2 : Int32}
    : ∀ (n : Nat) (st : (Int32 × Int32)), lp (g_RF_spare_5 t_words t_bits t_repairedRows t_repairedColumns x2) n st = some res → ∀  (H : Heap) (locs : List Loc) (ls : Array Slot), va_P D classes [(h_t, .inr (1, [.int t_thrown, .int t_words, .int t_bits, v_t_cells, v_t_sense, v_t_kinds, v_t_victims, v_t_others, v_t_faults, v_t_toldKinds, v_t_toldVictims, v_t_toldOthers, v_t_told, v_t_ground, v_t_ports, v_t_scrambled, v_t_places, v_t_sorts, v_t_counts, v_t_operations, v_t_elements, v_t_newSorts, v_t_newCounts, v_t_newOperations, v_t_tape, v_t_tapeSize, v_t_place, v_t_failed, v_t_failedCount, v_t_keeps, v_t_some, .int t_repairedRows, .int t_repairedColumns, v_t_proof]))] H → va_D A [(h_t, .inr (1, [.int t_thrown, .int t_words, .int t_bits, v_t_cells, v_t_sense, v_t_kinds, v_t_victims, v_t_others, v_t_faults, v_t_toldKinds, v_t_toldVictims, v_t_toldOthers, v_t_told, v_t_ground, v_t_ports, v_t_scrambled, v_t_places, v_t_sorts, v_t_counts, v_t_operations, v_t_elements, v_t_newSorts, v_t_newCounts, v_t_newOperations, v_t_tape, v_t_tapeSize, v_t_place, v_t_failed, v_t_failedCount, v_t_keeps, v_t_some, .int t_repairedRows, .int t_repairedColumns, v_t_proof]))] → va_S A s.heap H locs → lv_has ls 6 [(0, .ref h_t), (2, .int x2), (3, .int st.1), (4, .int st.2)] → W p l e rm_RF_spare s m args below meth c H locs 0 0 (MQ below (QW D (post_RF_spare h_t v_t_cells v_t_sense v_t_kinds v_t_victims v_t_others v_t_faults v_t_toldKinds v_t_toldVictims v_t_toldOthers v_t_told v_t_ground v_t_ports v_t_scrambled v_t_places v_t_sorts v_t_counts v_t_operations v_t_elements v_t_newSorts v_t_newCounts v_t_newOperations v_t_tape v_t_tapeSize v_t_place v_t_failed v_t_failedCount v_t_keeps v_t_some v_t_proof t_words t_bits t_repairedRows t_repairedColumns cI cB cJ res) A) args s 0 0 A) (F0 m 5 ls []) := by
  intro n
  induction n with
  | zero => intro st hf; exact absurd hf (by simp [lp])
  | succ n ih =>
    intro st hf  H locs ls hP hD hS hl
    exact kb_RF_spare_5 C0 hA (rec5 := lp (g_RF_spare_5 t_words t_bits t_repairedRows t_repairedColumns x2) n) (x3 := st.1) (x4 := st.2)  (fun st hf  H locs ls hP hD hS hl => ih st hf  H locs ls hP hD hS hl) hf hP hD hS hl
set_option maxHeartbeats 4000000 in
set_option maxRecDepth 100000 in
theorem c_RF_spare (l : Launch) (D : va_G) (cI cB cJ : ClassId) (h_t : Nat) (v_t_cells v_t_sense v_t_kinds v_t_victims v_t_others v_t_faults v_t_toldKinds v_t_toldVictims v_t_toldOthers v_t_told v_t_ground v_t_ports v_t_scrambled v_t_places v_t_sorts v_t_counts v_t_operations v_t_elements v_t_newSorts v_t_newCounts v_t_newOperations v_t_tape v_t_tapeSize v_t_place v_t_failed v_t_failedCount v_t_keeps v_t_some v_t_proof : Value) (t_thrown : Int32) (t_words : Int32) (t_bits : Int32) (t_repairedRows : Int32) (t_repairedColumns : Int32) (a1 : Int32) (a2 : Int32) (sz : Nat) (res : Int32 × Int32) (hf : f_RF_spare t_words t_bits t_repairedRows t_repairedColumns a1 a2 = some res) : Met l y_RF_spare (.code y_RF_spare b_RF_spare 6 (some .int) :: TB) rm_RF_spare (PcW D [(cI, .int), (cB, .byte), (cJ, .long)] [.ref h_t, .int a1, .int a2] [(h_t, .inr (1, [.int t_thrown, .int t_words, .int t_bits, v_t_cells, v_t_sense, v_t_kinds, v_t_victims, v_t_others, v_t_faults, v_t_toldKinds, v_t_toldVictims, v_t_toldOthers, v_t_told, v_t_ground, v_t_ports, v_t_scrambled, v_t_places, v_t_sorts, v_t_counts, v_t_operations, v_t_elements, v_t_newSorts, v_t_newCounts, v_t_newOperations, v_t_tape, v_t_tapeSize, v_t_place, v_t_failed, v_t_failedCount, v_t_keeps, v_t_some, .int t_repairedRows, .int t_repairedColumns, v_t_proof]))] sz) (QW D (post_RF_spare h_t v_t_cells v_t_sense v_t_kinds v_t_victims v_t_others v_t_faults v_t_toldKinds v_t_toldVictims v_t_toldOthers v_t_told v_t_ground v_t_ports v_t_scrambled v_t_places v_t_sorts v_t_counts v_t_operations v_t_elements v_t_newSorts v_t_newCounts v_t_newOperations v_t_tape v_t_tapeSize v_t_place v_t_failed v_t_failedCount v_t_keeps v_t_some v_t_proof t_words t_bits t_repairedRows t_repairedColumns cI cB cJ res) (va_A [(h_t, .inr (1, [.int t_thrown, .int t_words, .int t_bits, v_t_cells, v_t_sense, v_t_kinds, v_t_victims, v_t_others, v_t_faults, v_t_toldKinds, v_t_toldVictims, v_t_toldOthers, v_t_told, v_t_ground, v_t_ports, v_t_scrambled, v_t_places, v_t_sorts, v_t_counts, v_t_operations, v_t_elements, v_t_newSorts, v_t_newCounts, v_t_newOperations, v_t_tape, v_t_tapeSize, v_t_place, v_t_failed, v_t_failedCount, v_t_keeps, v_t_some, .int t_repairedRows, .int t_repairedColumns, v_t_proof]))] sz)) 0 0 (va_A [(h_t, .inr (1, [.int t_thrown, .int t_words, .int t_bits, v_t_cells, v_t_sense, v_t_kinds, v_t_victims, v_t_others, v_t_faults, v_t_toldKinds, v_t_toldVictims, v_t_toldOthers, v_t_told, v_t_ground, v_t_ports, v_t_scrambled, v_t_places, v_t_sorts, v_t_counts, v_t_operations, v_t_elements, v_t_newSorts, v_t_newCounts, v_t_newOperations, v_t_tape, v_t_tapeSize, v_t_place, v_t_failed, v_t_failedCount, v_t_keeps, v_t_some, .int t_repairedRows, .int t_repairedColumns, v_t_proof]))] sz) := by
  refine entW ⟨by decide +kernel, rfl⟩ fun p e s m below meth c C0 hP hD hsz ls hl => ?_
  subst hsz
  generalize hAe : va_A [(h_t, .inr (1, [.int t_thrown, .int t_words, .int t_bits, v_t_cells, v_t_sense, v_t_kinds, v_t_victims, v_t_others, v_t_faults, v_t_toldKinds, v_t_toldVictims, v_t_toldOthers, v_t_told, v_t_ground, v_t_ports, v_t_scrambled, v_t_places, v_t_sorts, v_t_counts, v_t_operations, v_t_elements, v_t_newSorts, v_t_newCounts, v_t_newOperations, v_t_tape, v_t_tapeSize, v_t_place, v_t_failed, v_t_failedCount, v_t_keeps, v_t_some, .int t_repairedRows, .int t_repairedColumns, v_t_proof]))] s.heap.size = A at hD ⊢
  have hA : ∀ q : Nat, s.heap.size ≤ q → A q := fun q h => by rw [← hAe]; exact Or.inr h
  clear hAe
  have hS : va_S A s.heap s.heap [] := va_S.rf
  have hl : lv_has ls 6 [(0, .ref h_t), (1, .int a1), (2, .int a2)] := hl
  obtain ⟨hx, hb, hml, hr, hlocks, hts, hown, hK, hin⟩ := id C0
  have hf : (((
  (lp (g_RF_spare_5 t_words t_bits t_repairedRows t_repairedColumns a2) 100000 (a1, 0)))) : Option (Int32 × Int32)) = some res := hf
  obtain ⟨H, hH⟩ : ∃ H, H = s.heap := ⟨_, rfl⟩
  obtain ⟨locs, hlo⟩ : ∃ x : List Loc, x = [] := ⟨_, rfl⟩
  rw [← hlo] at hS ⊢
  have hP : va_P D classes [(h_t, .inr (1, [.int t_thrown, .int t_words, .int t_bits, v_t_cells, v_t_sense, v_t_kinds, v_t_victims, v_t_others, v_t_faults, v_t_toldKinds, v_t_toldVictims, v_t_toldOthers, v_t_told, v_t_ground, v_t_ports, v_t_scrambled, v_t_places, v_t_sorts, v_t_counts, v_t_operations, v_t_elements, v_t_newSorts, v_t_newCounts, v_t_newOperations, v_t_tape, v_t_tapeSize, v_t_place, v_t_failed, v_t_failedCount, v_t_keeps, v_t_some, .int t_repairedRows, .int t_repairedColumns, v_t_proof]))] H := by rw [hH]; exact hP
  have hS : va_S A s.heap H locs := by rw [hH]; exact hS
  show W p l e rm_RF_spare s m _ below meth c s.heap locs 0 0 (MQ below (QW D (post_RF_spare h_t v_t_cells v_t_sense v_t_kinds v_t_victims v_t_others v_t_faults v_t_toldKinds v_t_toldVictims v_t_toldOthers v_t_told v_t_ground v_t_ports v_t_scrambled v_t_places v_t_sorts v_t_counts v_t_operations v_t_elements v_t_newSorts v_t_newCounts v_t_newOperations v_t_tape v_t_tapeSize v_t_place v_t_failed v_t_failedCount v_t_keeps v_t_some v_t_proof t_words t_bits t_repairedRows t_repairedColumns cI cB cJ res) A) _ s 0 0 A) (F0 m 0 ls [])
  refine wheap hH ?_
  clear hH hlo
  refine lv_iload_n hx hb d_RF_spare_0 rfl (lv_at hl 1 rfl) ?_
  refine lv_istore_n (lv' := [(3, .int a1), (0, .ref h_t), (1, .int a1), (2, .int a2)]) hx hb d_RF_spare_1 rfl hl (by decide) rfl (fun ls hl => ?_)
  refine lv_iconst (v := 0) hx hb d_RF_spare_2 (by decide) ?_
  refine lv_istore (lv' := [(4, .int 0), (3, .int a1), (0, .ref h_t), (1, .int a1), (2, .int a2)]) hx hb d_RF_spare_3 hl (by decide) rfl (fun ls hl => ?_)
  exact k_RF_spare_5 (s := s) C0 hA _ (a1, 0) hf  H locs ls hP hD hS (lv_sub hl [2, 4, 1, 0] rfl)
def f_RF_proved (t_proof : Int32) : Option (Int32 × Int32) :=
  (if isB t_proof = true then
  some (t_proof, 0)
  else none)
def post_RF_proved (h_t : Nat) (v_t_words v_t_bits v_t_cells v_t_sense v_t_kinds v_t_victims v_t_others v_t_faults v_t_toldKinds v_t_toldVictims v_t_toldOthers v_t_told v_t_ground v_t_ports v_t_scrambled v_t_places v_t_sorts v_t_counts v_t_operations v_t_elements v_t_newSorts v_t_newCounts v_t_newOperations v_t_tape v_t_tapeSize v_t_place v_t_failed v_t_failedCount v_t_keeps v_t_some v_t_repairedRows v_t_repairedColumns : Value) (t_proof : Int32) (cI cB cJ : ClassId) (res : Int32 × Int32) : Option Value → va_W → Prop := fun o ws' => o = some (.int res.1) ∧ ws' = [(h_t, .inr (1, [.int res.2, v_t_words, v_t_bits, v_t_cells, v_t_sense, v_t_kinds, v_t_victims, v_t_others, v_t_faults, v_t_toldKinds, v_t_toldVictims, v_t_toldOthers, v_t_told, v_t_ground, v_t_ports, v_t_scrambled, v_t_places, v_t_sorts, v_t_counts, v_t_operations, v_t_elements, v_t_newSorts, v_t_newCounts, v_t_newOperations, v_t_tape, v_t_tapeSize, v_t_place, v_t_failed, v_t_failedCount, v_t_keeps, v_t_some, v_t_repairedRows, v_t_repairedColumns, .int t_proof]))]
abbrev rm_RF_proved : Room := { frames := 0, cells := 0, slots := 0, locals := 0 }
set_option maxHeartbeats 4000000 in
set_option maxRecDepth 100000 in
theorem c_RF_proved (l : Launch) (D : va_G) (cI cB cJ : ClassId) (h_t : Nat) (v_t_words v_t_bits v_t_cells v_t_sense v_t_kinds v_t_victims v_t_others v_t_faults v_t_toldKinds v_t_toldVictims v_t_toldOthers v_t_told v_t_ground v_t_ports v_t_scrambled v_t_places v_t_sorts v_t_counts v_t_operations v_t_elements v_t_newSorts v_t_newCounts v_t_newOperations v_t_tape v_t_tapeSize v_t_place v_t_failed v_t_failedCount v_t_keeps v_t_some v_t_repairedRows v_t_repairedColumns : Value) (t_thrown : Int32) (t_proof : Int32) (sz : Nat) (res : Int32 × Int32) (hf : f_RF_proved t_proof = some res) : Met l y_RF_proved (.code y_RF_proved b_RF_proved 1 (some .boolean) :: TB) rm_RF_proved (PcW D [(cI, .int), (cB, .byte), (cJ, .long)] [.ref h_t] [(h_t, .inr (1, [.int t_thrown, v_t_words, v_t_bits, v_t_cells, v_t_sense, v_t_kinds, v_t_victims, v_t_others, v_t_faults, v_t_toldKinds, v_t_toldVictims, v_t_toldOthers, v_t_told, v_t_ground, v_t_ports, v_t_scrambled, v_t_places, v_t_sorts, v_t_counts, v_t_operations, v_t_elements, v_t_newSorts, v_t_newCounts, v_t_newOperations, v_t_tape, v_t_tapeSize, v_t_place, v_t_failed, v_t_failedCount, v_t_keeps, v_t_some, v_t_repairedRows, v_t_repairedColumns, .int t_proof]))] sz) (QW D (post_RF_proved h_t v_t_words v_t_bits v_t_cells v_t_sense v_t_kinds v_t_victims v_t_others v_t_faults v_t_toldKinds v_t_toldVictims v_t_toldOthers v_t_told v_t_ground v_t_ports v_t_scrambled v_t_places v_t_sorts v_t_counts v_t_operations v_t_elements v_t_newSorts v_t_newCounts v_t_newOperations v_t_tape v_t_tapeSize v_t_place v_t_failed v_t_failedCount v_t_keeps v_t_some v_t_repairedRows v_t_repairedColumns t_proof cI cB cJ res) (va_A [(h_t, .inr (1, [.int t_thrown, v_t_words, v_t_bits, v_t_cells, v_t_sense, v_t_kinds, v_t_victims, v_t_others, v_t_faults, v_t_toldKinds, v_t_toldVictims, v_t_toldOthers, v_t_told, v_t_ground, v_t_ports, v_t_scrambled, v_t_places, v_t_sorts, v_t_counts, v_t_operations, v_t_elements, v_t_newSorts, v_t_newCounts, v_t_newOperations, v_t_tape, v_t_tapeSize, v_t_place, v_t_failed, v_t_failedCount, v_t_keeps, v_t_some, v_t_repairedRows, v_t_repairedColumns, .int t_proof]))] sz)) 0 0 (va_A [(h_t, .inr (1, [.int t_thrown, v_t_words, v_t_bits, v_t_cells, v_t_sense, v_t_kinds, v_t_victims, v_t_others, v_t_faults, v_t_toldKinds, v_t_toldVictims, v_t_toldOthers, v_t_told, v_t_ground, v_t_ports, v_t_scrambled, v_t_places, v_t_sorts, v_t_counts, v_t_operations, v_t_elements, v_t_newSorts, v_t_newCounts, v_t_newOperations, v_t_tape, v_t_tapeSize, v_t_place, v_t_failed, v_t_failedCount, v_t_keeps, v_t_some, v_t_repairedRows, v_t_repairedColumns, .int t_proof]))] sz) := by
  refine entW ⟨by decide +kernel, rfl⟩ fun p e s m below meth c C0 hP hD hsz ls hl => ?_
  subst hsz
  generalize hAe : va_A [(h_t, .inr (1, [.int t_thrown, v_t_words, v_t_bits, v_t_cells, v_t_sense, v_t_kinds, v_t_victims, v_t_others, v_t_faults, v_t_toldKinds, v_t_toldVictims, v_t_toldOthers, v_t_told, v_t_ground, v_t_ports, v_t_scrambled, v_t_places, v_t_sorts, v_t_counts, v_t_operations, v_t_elements, v_t_newSorts, v_t_newCounts, v_t_newOperations, v_t_tape, v_t_tapeSize, v_t_place, v_t_failed, v_t_failedCount, v_t_keeps, v_t_some, v_t_repairedRows, v_t_repairedColumns, .int t_proof]))] s.heap.size = A at hD ⊢
  have hA : ∀ q : Nat, s.heap.size ≤ q → A q := fun q h => by rw [← hAe]; exact Or.inr h
  clear hAe
  have hS : va_S A s.heap s.heap [] := va_S.rf
  have hl : lv_has ls 1 [(0, .ref h_t)] := hl
  obtain ⟨hx, hb, hml, hr, hlocks, hts, hown, hK, hin⟩ := id C0
  have hf : (((
  (if isB t_proof = true then
  some (t_proof, 0)
  else none))) : Option (Int32 × Int32)) = some res := hf
  obtain ⟨H, hH⟩ : ∃ H, H = s.heap := ⟨_, rfl⟩
  obtain ⟨locs, hlo⟩ : ∃ x : List Loc, x = [] := ⟨_, rfl⟩
  rw [← hlo] at hS ⊢
  have hP : va_P D classes [(h_t, .inr (1, [.int t_thrown, v_t_words, v_t_bits, v_t_cells, v_t_sense, v_t_kinds, v_t_victims, v_t_others, v_t_faults, v_t_toldKinds, v_t_toldVictims, v_t_toldOthers, v_t_told, v_t_ground, v_t_ports, v_t_scrambled, v_t_places, v_t_sorts, v_t_counts, v_t_operations, v_t_elements, v_t_newSorts, v_t_newCounts, v_t_newOperations, v_t_tape, v_t_tapeSize, v_t_place, v_t_failed, v_t_failedCount, v_t_keeps, v_t_some, v_t_repairedRows, v_t_repairedColumns, .int t_proof]))] H := by rw [hH]; exact hP
  have hS : va_S A s.heap H locs := by rw [hH]; exact hS
  show W p l e rm_RF_proved s m _ below meth c s.heap locs 0 0 (MQ below (QW D (post_RF_proved h_t v_t_words v_t_bits v_t_cells v_t_sense v_t_kinds v_t_victims v_t_others v_t_faults v_t_toldKinds v_t_toldVictims v_t_toldOthers v_t_told v_t_ground v_t_ports v_t_scrambled v_t_places v_t_sorts v_t_counts v_t_operations v_t_elements v_t_newSorts v_t_newCounts v_t_newOperations v_t_tape v_t_tapeSize v_t_place v_t_failed v_t_failedCount v_t_keeps v_t_some v_t_repairedRows v_t_repairedColumns t_proof cI cB cJ res) A) _ s 0 0 A) (F0 m 0 ls [])
  refine wheap hH ?_
  clear hH hlo
  refine lv_aload_n hx hb d_RF_proved_0 rfl (lv_at hl 0 rfl) ?_
  refine lv_iconst (v := 0) hx hb d_RF_proved_1 (by decide) ?_
  refine va_put (D := D) (ci := 1) (v := .int 0) (ty := .int) (C := R_RF) (T := F_RF) (N := 34) hx hb hts i_RF t_RF t_RF_ok n_RF hown hK.1 hP hD hS 0 rfl rfl 0 (by decide) (hts _ w_387) (fun _ h9 => h9) rfl (t_RF_ok 0 (by decide)) rfl rfl (Nat.le_of_ble_eq_true rfl) d_RF_proved_2 (fun H locs hP hD hS => ?_)
  have hP : va_P D classes [(h_t, .inr (1, [.int 0, v_t_words, v_t_bits, v_t_cells, v_t_sense, v_t_kinds, v_t_victims, v_t_others, v_t_faults, v_t_toldKinds, v_t_toldVictims, v_t_toldOthers, v_t_told, v_t_ground, v_t_ports, v_t_scrambled, v_t_places, v_t_sorts, v_t_counts, v_t_operations, v_t_elements, v_t_newSorts, v_t_newCounts, v_t_newOperations, v_t_tape, v_t_tapeSize, v_t_place, v_t_failed, v_t_failedCount, v_t_keeps, v_t_some, v_t_repairedRows, v_t_repairedColumns, .int t_proof]))] H := hP
  have hD : va_D A [(h_t, .inr (1, [.int 0, v_t_words, v_t_bits, v_t_cells, v_t_sense, v_t_kinds, v_t_victims, v_t_others, v_t_faults, v_t_toldKinds, v_t_toldVictims, v_t_toldOthers, v_t_told, v_t_ground, v_t_ports, v_t_scrambled, v_t_places, v_t_sorts, v_t_counts, v_t_operations, v_t_elements, v_t_newSorts, v_t_newCounts, v_t_newOperations, v_t_tape, v_t_tapeSize, v_t_place, v_t_failed, v_t_failedCount, v_t_keeps, v_t_some, v_t_repairedRows, v_t_repairedColumns, .int t_proof]))] := hD
  refine lv_aload_n hx hb d_RF_proved_5 rfl (lv_at hl 0 rfl) ?_
  refine va_get (D := D) (ci := 1) (v := .int t_proof) (C := R_RF) (T := F_RF) (N := 34) hx hb hts i_RF hown hK.1 hP 0 rfl rfl 33 (by decide) (hts _ w_451) (fun _ h9 => h9) rfl d_RF_proved_6 ?_
  obtain ⟨hbb, hf⟩ := ifG hf
  obtain rfl := Option.some.inj hf
  exact ret_z hx hb hr (nar_b hbb) hlocks hP hD hS ⟨rfl, rfl⟩ d_RF_proved_9
def f_RF_fuse_23 (t_words : Int32) (t_repairedRows : Int32) (t_repairedColumns : Int32) (s1 : Int32) (x1 : Int32) : Option (Int32 × Int32) :=
  (if s1 ≤ 0 then
    (if t_words ≤ x1 then
      some (((t_repairedColumns >>> ((x1 - t_words) &&& 31)) &&& 1), s1)
    else
      some (((t_repairedRows >>> (x1 &&& 31)) &&& 1), s1))
  else
    some (0, s1))
def f_RF_fuse_22 (t_words : Int32) (t_repairedRows : Int32) (t_repairedColumns : Int32) (x1 : Int32) : Option (Int32 × Int32) :=
  (f_RF_fuse_23 t_words t_repairedRows t_repairedColumns 1 x1)
def f_RF_fuse (t_words : Int32) (t_bits : Int32) (t_repairedRows : Int32) (t_repairedColumns : Int32) (a1 : Int32) : Option (Int32 × Int32) :=
  (if a1 < 0 then
    (f_RF_fuse_22 t_words t_repairedRows t_repairedColumns a1)
  else
    (if (t_words + t_bits) ≤ a1 then
      (f_RF_fuse_22 t_words t_repairedRows t_repairedColumns a1)
    else
      (f_RF_fuse_23 t_words t_repairedRows t_repairedColumns 0 a1)))
def post_RF_fuse (h_t : Nat) (v_t_cells v_t_sense v_t_kinds v_t_victims v_t_others v_t_faults v_t_toldKinds v_t_toldVictims v_t_toldOthers v_t_told v_t_ground v_t_ports v_t_scrambled v_t_places v_t_sorts v_t_counts v_t_operations v_t_elements v_t_newSorts v_t_newCounts v_t_newOperations v_t_tape v_t_tapeSize v_t_place v_t_failed v_t_failedCount v_t_keeps v_t_some v_t_proof : Value) (t_words : Int32) (t_bits : Int32) (t_repairedRows : Int32) (t_repairedColumns : Int32) (cI cB cJ : ClassId) (res : Int32 × Int32) : Option Value → va_W → Prop := fun o ws' => o = some (.int res.1) ∧ ws' = [(h_t, .inr (1, [.int res.2, .int t_words, .int t_bits, v_t_cells, v_t_sense, v_t_kinds, v_t_victims, v_t_others, v_t_faults, v_t_toldKinds, v_t_toldVictims, v_t_toldOthers, v_t_told, v_t_ground, v_t_ports, v_t_scrambled, v_t_places, v_t_sorts, v_t_counts, v_t_operations, v_t_elements, v_t_newSorts, v_t_newCounts, v_t_newOperations, v_t_tape, v_t_tapeSize, v_t_place, v_t_failed, v_t_failedCount, v_t_keeps, v_t_some, .int t_repairedRows, .int t_repairedColumns, v_t_proof]))]
abbrev rm_RF_fuse : Room := { frames := 0, cells := 0, slots := 0, locals := 0 }
set_option maxHeartbeats 4000000 in
set_option maxRecDepth 100000 in
theorem k_RF_fuse_23 {p : Program} {l : Launch} {e : Env} {s : State} {m : MethodId} {args : Array Value} {below : List Frame} {meth : Method} {c : Code} {D : va_G} {cI cB cJ : ClassId} {A : Nat → Prop} (C0 : CX p s m args meth c D [(cI, .int), (cB, .byte), (cJ, .long)] R_RF b_RF_fuse 2 (some .int) "fuse") (hA : ∀ q, s.heap.size ≤ q → A q) {h_t : Nat} {v_t_cells v_t_sense v_t_kinds v_t_victims v_t_others v_t_faults v_t_toldKinds v_t_toldVictims v_t_toldOthers v_t_told v_t_ground v_t_ports v_t_scrambled v_t_places v_t_sorts v_t_counts v_t_operations v_t_elements v_t_newSorts v_t_newCounts v_t_newOperations v_t_tape v_t_tapeSize v_t_place v_t_failed v_t_failedCount v_t_keeps v_t_some v_t_proof : Value} {res : Int32 × Int32} {t_thrown : Int32} {t_words : Int32} {t_bits : Int32} {t_repairedRows : Int32} {t_repairedColumns : Int32} {s1 : Int32} {x1 : Int32}
    (hf : f_RF_fuse_23 t_words t_repairedRows t_repairedColumns s1 x1 = some res) {H : Heap} {locs : List Loc} {ls : Array Slot} (hP : va_P D classes [(h_t, .inr (1, [.int t_thrown, .int t_words, .int t_bits, v_t_cells, v_t_sense, v_t_kinds, v_t_victims, v_t_others, v_t_faults, v_t_toldKinds, v_t_toldVictims, v_t_toldOthers, v_t_told, v_t_ground, v_t_ports, v_t_scrambled, v_t_places, v_t_sorts, v_t_counts, v_t_operations, v_t_elements, v_t_newSorts, v_t_newCounts, v_t_newOperations, v_t_tape, v_t_tapeSize, v_t_place, v_t_failed, v_t_failedCount, v_t_keeps, v_t_some, .int t_repairedRows, .int t_repairedColumns, v_t_proof]))] H) (hD : va_D A [(h_t, .inr (1, [.int t_thrown, .int t_words, .int t_bits, v_t_cells, v_t_sense, v_t_kinds, v_t_victims, v_t_others, v_t_faults, v_t_toldKinds, v_t_toldVictims, v_t_toldOthers, v_t_told, v_t_ground, v_t_ports, v_t_scrambled, v_t_places, v_t_sorts, v_t_counts, v_t_operations, v_t_elements, v_t_newSorts, v_t_newCounts, v_t_newOperations, v_t_tape, v_t_tapeSize, v_t_place, v_t_failed, v_t_failedCount, v_t_keeps, v_t_some, .int t_repairedRows, .int t_repairedColumns, v_t_proof]))]) (hS : va_S A s.heap H locs) (hl : lv_has ls 2 [(0, .ref h_t), (1, .int x1)]) : W p l e rm_RF_fuse s m args below meth c H locs 0 0 (MQ below (QW D (post_RF_fuse h_t v_t_cells v_t_sense v_t_kinds v_t_victims v_t_others v_t_faults v_t_toldKinds v_t_toldVictims v_t_toldOthers v_t_told v_t_ground v_t_ports v_t_scrambled v_t_places v_t_sorts v_t_counts v_t_operations v_t_elements v_t_newSorts v_t_newCounts v_t_newOperations v_t_tape v_t_tapeSize v_t_place v_t_failed v_t_failedCount v_t_keeps v_t_some v_t_proof t_words t_bits t_repairedRows t_repairedColumns cI cB cJ res) A) args s 0 0 A) (F0 m 23 ls [.int s1, .ref h_t]) := by
  obtain ⟨hx, hb, hml, hr, hlocks, hts, hown, hK, hin⟩ := id C0
  have hf : (((
  (if s1 ≤ 0 then
    (if t_words ≤ x1 then
      some (((t_repairedColumns >>> ((x1 - t_words) &&& 31)) &&& 1), s1)
    else
      some (((t_repairedRows >>> (x1 &&& 31)) &&& 1), s1))
  else
    some (0, s1)))) : Option (Int32 × Int32)) = some res := hf
  refine va_put (D := D) (ci := 1) (v := .int s1) (ty := .int) (C := R_RF) (T := F_RF) (N := 34) hx hb hts i_RF t_RF t_RF_ok n_RF hown hK.1 hP hD hS 0 rfl rfl 0 (by decide) (hts _ w_387) (fun _ h9 => h9) rfl (t_RF_ok 0 (by decide)) rfl rfl (Nat.le_of_ble_eq_true rfl) d_RF_fuse_23 (fun H locs hP hD hS => ?_)
  have hP : va_P D classes [(h_t, .inr (1, [.int s1, .int t_words, .int t_bits, v_t_cells, v_t_sense, v_t_kinds, v_t_victims, v_t_others, v_t_faults, v_t_toldKinds, v_t_toldVictims, v_t_toldOthers, v_t_told, v_t_ground, v_t_ports, v_t_scrambled, v_t_places, v_t_sorts, v_t_counts, v_t_operations, v_t_elements, v_t_newSorts, v_t_newCounts, v_t_newOperations, v_t_tape, v_t_tapeSize, v_t_place, v_t_failed, v_t_failedCount, v_t_keeps, v_t_some, .int t_repairedRows, .int t_repairedColumns, v_t_proof]))] H := hP
  have hD : va_D A [(h_t, .inr (1, [.int s1, .int t_words, .int t_bits, v_t_cells, v_t_sense, v_t_kinds, v_t_victims, v_t_others, v_t_faults, v_t_toldKinds, v_t_toldVictims, v_t_toldOthers, v_t_told, v_t_ground, v_t_ports, v_t_scrambled, v_t_places, v_t_sorts, v_t_counts, v_t_operations, v_t_elements, v_t_newSorts, v_t_newCounts, v_t_newOperations, v_t_tape, v_t_tapeSize, v_t_place, v_t_failed, v_t_failedCount, v_t_keeps, v_t_some, .int t_repairedRows, .int t_repairedColumns, v_t_proof]))] := hD
  refine lv_aload_n hx hb d_RF_fuse_26 rfl (lv_at hl 0 rfl) ?_
  refine va_get (D := D) (ci := 1) (v := .int s1) (C := R_RF) (T := F_RF) (N := 34) hx hb hts i_RF hown hK.1 hP 0 rfl rfl 0 (by decide) (hts _ w_387) (fun _ h9 => h9) rfl d_RF_fuse_27 ?_
  refine lv_if_le (tgt := 37) hx hb d_RF_fuse_30 (by decide) (fun cc30 => ?_) (fun cc30 => ?_)
  · have hf := ifT cc30 hf
    refine lv_iload_n hx hb d_RF_fuse_37 rfl (lv_at hl 1 rfl) ?_
    refine lv_aload_n hx hb d_RF_fuse_38 rfl (lv_at hl 0 rfl) ?_
    refine va_get (D := D) (ci := 1) (v := .int t_words) (C := R_RF) (T := F_RF) (N := 34) hx hb hts i_RF hown hK.1 hP 0 rfl rfl 1 (by decide) (hts _ w_384) (fun _ h9 => h9) rfl d_RF_fuse_39 ?_
    refine lv_icmp_ge (tgt := 56) hx hb d_RF_fuse_42 (by decide) (fun cc42 => ?_) (fun cc42 => ?_)
    · have hf := ifT cc42 hf
      refine lv_aload_n hx hb d_RF_fuse_56 rfl (lv_at hl 0 rfl) ?_
      refine va_get (D := D) (ci := 1) (v := .int t_repairedColumns) (C := R_RF) (T := F_RF) (N := 34) hx hb hts i_RF hown hK.1 hP 0 rfl rfl 32 (by decide) (hts _ w_447) (fun _ h9 => h9) rfl d_RF_fuse_57 ?_
      refine lv_iload_n hx hb d_RF_fuse_60 rfl (lv_at hl 1 rfl) ?_
      refine lv_aload_n hx hb d_RF_fuse_61 rfl (lv_at hl 0 rfl) ?_
      refine va_get (D := D) (ci := 1) (v := .int t_words) (C := R_RF) (T := F_RF) (N := 34) hx hb hts i_RF hown hK.1 hP 0 rfl rfl 1 (by decide) (hts _ w_384) (fun _ h9 => h9) rfl d_RF_fuse_62 ?_
      refine lv_isub hx hb d_RF_fuse_65 ?_
      refine lv_ishr hx hb d_RF_fuse_66 ?_
      refine lv_iconst (v := 1) hx hb d_RF_fuse_67 (by decide) ?_
      refine lv_iand hx hb d_RF_fuse_68 ?_
      obtain rfl := Option.some.inj hf
      exact ret_i hx hb hr hlocks hP hD hS ⟨rfl, rfl⟩ d_RF_fuse_69
    · have hf := ifF cc42 hf
      refine lv_aload_n hx hb d_RF_fuse_45 rfl (lv_at hl 0 rfl) ?_
      refine va_get (D := D) (ci := 1) (v := .int t_repairedRows) (C := R_RF) (T := F_RF) (N := 34) hx hb hts i_RF hown hK.1 hP 0 rfl rfl 31 (by decide) (hts _ w_446) (fun _ h9 => h9) rfl d_RF_fuse_46 ?_
      refine lv_iload_n hx hb d_RF_fuse_49 rfl (lv_at hl 1 rfl) ?_
      refine lv_ishr hx hb d_RF_fuse_50 ?_
      refine lv_iconst (v := 1) hx hb d_RF_fuse_51 (by decide) ?_
      refine lv_iand hx hb d_RF_fuse_52 ?_
      refine lv_goto (tgt := 69) hx hb d_RF_fuse_53 (by decide) ?_
      obtain rfl := Option.some.inj hf
      exact ret_i hx hb hr hlocks hP hD hS ⟨rfl, rfl⟩ d_RF_fuse_69
  · have hf := ifF cc30 hf
    refine lv_iconst (v := 0) hx hb d_RF_fuse_33 (by decide) ?_
    refine lv_goto (tgt := 69) hx hb d_RF_fuse_34 (by decide) ?_
    obtain rfl := Option.some.inj hf
    exact ret_i hx hb hr hlocks hP hD hS ⟨rfl, rfl⟩ d_RF_fuse_69
set_option maxHeartbeats 4000000 in
set_option maxRecDepth 100000 in
theorem k_RF_fuse_22 {p : Program} {l : Launch} {e : Env} {s : State} {m : MethodId} {args : Array Value} {below : List Frame} {meth : Method} {c : Code} {D : va_G} {cI cB cJ : ClassId} {A : Nat → Prop} (C0 : CX p s m args meth c D [(cI, .int), (cB, .byte), (cJ, .long)] R_RF b_RF_fuse 2 (some .int) "fuse") (hA : ∀ q, s.heap.size ≤ q → A q) {h_t : Nat} {v_t_cells v_t_sense v_t_kinds v_t_victims v_t_others v_t_faults v_t_toldKinds v_t_toldVictims v_t_toldOthers v_t_told v_t_ground v_t_ports v_t_scrambled v_t_places v_t_sorts v_t_counts v_t_operations v_t_elements v_t_newSorts v_t_newCounts v_t_newOperations v_t_tape v_t_tapeSize v_t_place v_t_failed v_t_failedCount v_t_keeps v_t_some v_t_proof : Value} {res : Int32 × Int32} {t_thrown : Int32} {t_words : Int32} {t_bits : Int32} {t_repairedRows : Int32} {t_repairedColumns : Int32} {x1 : Int32}
    (hf : f_RF_fuse_22 t_words t_repairedRows t_repairedColumns x1 = some res) {H : Heap} {locs : List Loc} {ls : Array Slot} (hP : va_P D classes [(h_t, .inr (1, [.int t_thrown, .int t_words, .int t_bits, v_t_cells, v_t_sense, v_t_kinds, v_t_victims, v_t_others, v_t_faults, v_t_toldKinds, v_t_toldVictims, v_t_toldOthers, v_t_told, v_t_ground, v_t_ports, v_t_scrambled, v_t_places, v_t_sorts, v_t_counts, v_t_operations, v_t_elements, v_t_newSorts, v_t_newCounts, v_t_newOperations, v_t_tape, v_t_tapeSize, v_t_place, v_t_failed, v_t_failedCount, v_t_keeps, v_t_some, .int t_repairedRows, .int t_repairedColumns, v_t_proof]))] H) (hD : va_D A [(h_t, .inr (1, [.int t_thrown, .int t_words, .int t_bits, v_t_cells, v_t_sense, v_t_kinds, v_t_victims, v_t_others, v_t_faults, v_t_toldKinds, v_t_toldVictims, v_t_toldOthers, v_t_told, v_t_ground, v_t_ports, v_t_scrambled, v_t_places, v_t_sorts, v_t_counts, v_t_operations, v_t_elements, v_t_newSorts, v_t_newCounts, v_t_newOperations, v_t_tape, v_t_tapeSize, v_t_place, v_t_failed, v_t_failedCount, v_t_keeps, v_t_some, .int t_repairedRows, .int t_repairedColumns, v_t_proof]))]) (hS : va_S A s.heap H locs) (hl : lv_has ls 2 [(0, .ref h_t), (1, .int x1)]) : W p l e rm_RF_fuse s m args below meth c H locs 0 0 (MQ below (QW D (post_RF_fuse h_t v_t_cells v_t_sense v_t_kinds v_t_victims v_t_others v_t_faults v_t_toldKinds v_t_toldVictims v_t_toldOthers v_t_told v_t_ground v_t_ports v_t_scrambled v_t_places v_t_sorts v_t_counts v_t_operations v_t_elements v_t_newSorts v_t_newCounts v_t_newOperations v_t_tape v_t_tapeSize v_t_place v_t_failed v_t_failedCount v_t_keeps v_t_some v_t_proof t_words t_bits t_repairedRows t_repairedColumns cI cB cJ res) A) args s 0 0 A) (F0 m 22 ls [.ref h_t]) := by
  obtain ⟨hx, hb, hml, hr, hlocks, hts, hown, hK, hin⟩ := id C0
  have hf : (((
  (f_RF_fuse_23 t_words t_repairedRows t_repairedColumns 1 x1))) : Option (Int32 × Int32)) = some res := hf
  refine lv_iconst (v := 1) hx hb d_RF_fuse_22 (by decide) ?_
  exact k_RF_fuse_23 (s := s) C0 hA hf hP hD hS (lv_sub hl [0, 1] rfl)
set_option maxHeartbeats 4000000 in
set_option maxRecDepth 100000 in
theorem c_RF_fuse (l : Launch) (D : va_G) (cI cB cJ : ClassId) (h_t : Nat) (v_t_cells v_t_sense v_t_kinds v_t_victims v_t_others v_t_faults v_t_toldKinds v_t_toldVictims v_t_toldOthers v_t_told v_t_ground v_t_ports v_t_scrambled v_t_places v_t_sorts v_t_counts v_t_operations v_t_elements v_t_newSorts v_t_newCounts v_t_newOperations v_t_tape v_t_tapeSize v_t_place v_t_failed v_t_failedCount v_t_keeps v_t_some v_t_proof : Value) (t_thrown : Int32) (t_words : Int32) (t_bits : Int32) (t_repairedRows : Int32) (t_repairedColumns : Int32) (a1 : Int32) (sz : Nat) (res : Int32 × Int32) (hf : f_RF_fuse t_words t_bits t_repairedRows t_repairedColumns a1 = some res) : Met l y_RF_fuse (.code y_RF_fuse b_RF_fuse 2 (some .int) :: TB) rm_RF_fuse (PcW D [(cI, .int), (cB, .byte), (cJ, .long)] [.ref h_t, .int a1] [(h_t, .inr (1, [.int t_thrown, .int t_words, .int t_bits, v_t_cells, v_t_sense, v_t_kinds, v_t_victims, v_t_others, v_t_faults, v_t_toldKinds, v_t_toldVictims, v_t_toldOthers, v_t_told, v_t_ground, v_t_ports, v_t_scrambled, v_t_places, v_t_sorts, v_t_counts, v_t_operations, v_t_elements, v_t_newSorts, v_t_newCounts, v_t_newOperations, v_t_tape, v_t_tapeSize, v_t_place, v_t_failed, v_t_failedCount, v_t_keeps, v_t_some, .int t_repairedRows, .int t_repairedColumns, v_t_proof]))] sz) (QW D (post_RF_fuse h_t v_t_cells v_t_sense v_t_kinds v_t_victims v_t_others v_t_faults v_t_toldKinds v_t_toldVictims v_t_toldOthers v_t_told v_t_ground v_t_ports v_t_scrambled v_t_places v_t_sorts v_t_counts v_t_operations v_t_elements v_t_newSorts v_t_newCounts v_t_newOperations v_t_tape v_t_tapeSize v_t_place v_t_failed v_t_failedCount v_t_keeps v_t_some v_t_proof t_words t_bits t_repairedRows t_repairedColumns cI cB cJ res) (va_A [(h_t, .inr (1, [.int t_thrown, .int t_words, .int t_bits, v_t_cells, v_t_sense, v_t_kinds, v_t_victims, v_t_others, v_t_faults, v_t_toldKinds, v_t_toldVictims, v_t_toldOthers, v_t_told, v_t_ground, v_t_ports, v_t_scrambled, v_t_places, v_t_sorts, v_t_counts, v_t_operations, v_t_elements, v_t_newSorts, v_t_newCounts, v_t_newOperations, v_t_tape, v_t_tapeSize, v_t_place, v_t_failed, v_t_failedCount, v_t_keeps, v_t_some, .int t_repairedRows, .int t_repairedColumns, v_t_proof]))] sz)) 0 0 (va_A [(h_t, .inr (1, [.int t_thrown, .int t_words, .int t_bits, v_t_cells, v_t_sense, v_t_kinds, v_t_victims, v_t_others, v_t_faults, v_t_toldKinds, v_t_toldVictims, v_t_toldOthers, v_t_told, v_t_ground, v_t_ports, v_t_scrambled, v_t_places, v_t_sorts, v_t_counts, v_t_operations, v_t_elements, v_t_newSorts, v_t_newCounts, v_t_newOperations, v_t_tape, v_t_tapeSize, v_t_place, v_t_failed, v_t_failedCount, v_t_keeps, v_t_some, .int t_repairedRows, .int t_repairedColumns, v_t_proof]))] sz) := by
  refine entW ⟨by decide +kernel, rfl⟩ fun p e s m below meth c C0 hP hD hsz ls hl => ?_
  subst hsz
  generalize hAe : va_A [(h_t, .inr (1, [.int t_thrown, .int t_words, .int t_bits, v_t_cells, v_t_sense, v_t_kinds, v_t_victims, v_t_others, v_t_faults, v_t_toldKinds, v_t_toldVictims, v_t_toldOthers, v_t_told, v_t_ground, v_t_ports, v_t_scrambled, v_t_places, v_t_sorts, v_t_counts, v_t_operations, v_t_elements, v_t_newSorts, v_t_newCounts, v_t_newOperations, v_t_tape, v_t_tapeSize, v_t_place, v_t_failed, v_t_failedCount, v_t_keeps, v_t_some, .int t_repairedRows, .int t_repairedColumns, v_t_proof]))] s.heap.size = A at hD ⊢
  have hA : ∀ q : Nat, s.heap.size ≤ q → A q := fun q h => by rw [← hAe]; exact Or.inr h
  clear hAe
  have hS : va_S A s.heap s.heap [] := va_S.rf
  have hl : lv_has ls 2 [(0, .ref h_t), (1, .int a1)] := hl
  obtain ⟨hx, hb, hml, hr, hlocks, hts, hown, hK, hin⟩ := id C0
  have hf : (((
  (if a1 < 0 then
    (f_RF_fuse_22 t_words t_repairedRows t_repairedColumns a1)
  else
    (if (t_words + t_bits) ≤ a1 then
      (f_RF_fuse_22 t_words t_repairedRows t_repairedColumns a1)
    else
      (f_RF_fuse_23 t_words t_repairedRows t_repairedColumns 0 a1))))) : Option (Int32 × Int32)) = some res := hf
  obtain ⟨H, hH⟩ : ∃ H, H = s.heap := ⟨_, rfl⟩
  obtain ⟨locs, hlo⟩ : ∃ x : List Loc, x = [] := ⟨_, rfl⟩
  rw [← hlo] at hS ⊢
  have hP : va_P D classes [(h_t, .inr (1, [.int t_thrown, .int t_words, .int t_bits, v_t_cells, v_t_sense, v_t_kinds, v_t_victims, v_t_others, v_t_faults, v_t_toldKinds, v_t_toldVictims, v_t_toldOthers, v_t_told, v_t_ground, v_t_ports, v_t_scrambled, v_t_places, v_t_sorts, v_t_counts, v_t_operations, v_t_elements, v_t_newSorts, v_t_newCounts, v_t_newOperations, v_t_tape, v_t_tapeSize, v_t_place, v_t_failed, v_t_failedCount, v_t_keeps, v_t_some, .int t_repairedRows, .int t_repairedColumns, v_t_proof]))] H := by rw [hH]; exact hP
  have hS : va_S A s.heap H locs := by rw [hH]; exact hS
  show W p l e rm_RF_fuse s m _ below meth c s.heap locs 0 0 (MQ below (QW D (post_RF_fuse h_t v_t_cells v_t_sense v_t_kinds v_t_victims v_t_others v_t_faults v_t_toldKinds v_t_toldVictims v_t_toldOthers v_t_told v_t_ground v_t_ports v_t_scrambled v_t_places v_t_sorts v_t_counts v_t_operations v_t_elements v_t_newSorts v_t_newCounts v_t_newOperations v_t_tape v_t_tapeSize v_t_place v_t_failed v_t_failedCount v_t_keeps v_t_some v_t_proof t_words t_bits t_repairedRows t_repairedColumns cI cB cJ res) A) _ s 0 0 A) (F0 m 0 ls [])
  refine wheap hH ?_
  clear hH hlo
  refine lv_aload_n hx hb d_RF_fuse_0 rfl (lv_at hl 0 rfl) ?_
  refine lv_iload_n hx hb d_RF_fuse_1 rfl (lv_at hl 1 rfl) ?_
  refine lv_if_lt (tgt := 22) hx hb d_RF_fuse_2 (by decide) (fun cc2 => ?_) (fun cc2 => ?_)
  · have hf := ifT cc2 hf
    exact k_RF_fuse_22 (s := s) C0 hA hf hP hD hS (lv_sub hl [0, 1] rfl)
  · have hf := ifF cc2 hf
    refine lv_iload_n hx hb d_RF_fuse_5 rfl (lv_at hl 1 rfl) ?_
    refine lv_aload_n hx hb d_RF_fuse_6 rfl (lv_at hl 0 rfl) ?_
    refine va_get (D := D) (ci := 1) (v := .int t_words) (C := R_RF) (T := F_RF) (N := 34) hx hb hts i_RF hown hK.1 hP 0 rfl rfl 1 (by decide) (hts _ w_384) (fun _ h9 => h9) rfl d_RF_fuse_7 ?_
    refine lv_aload_n hx hb d_RF_fuse_10 rfl (lv_at hl 0 rfl) ?_
    refine va_get (D := D) (ci := 1) (v := .int t_bits) (C := R_RF) (T := F_RF) (N := 34) hx hb hts i_RF hown hK.1 hP 0 rfl rfl 2 (by decide) (hts _ w_385) (fun _ h9 => h9) rfl d_RF_fuse_11 ?_
    refine lv_iadd hx hb d_RF_fuse_14 ?_
    refine lv_icmp_ge (tgt := 22) hx hb d_RF_fuse_15 (by decide) (fun cc15 => ?_) (fun cc15 => ?_)
    · have hf := ifT cc15 hf
      exact k_RF_fuse_22 (s := s) C0 hA hf hP hD hS (lv_sub hl [0, 1] rfl)
    · have hf := ifF cc15 hf
      refine lv_iconst (v := 0) hx hb d_RF_fuse_18 (by decide) ?_
      refine lv_goto (tgt := 23) hx hb d_RF_fuse_19 (by decide) ?_
      exact k_RF_fuse_23 (s := s) C0 hA hf hP hD hS (lv_sub hl [0, 1] rfl)
