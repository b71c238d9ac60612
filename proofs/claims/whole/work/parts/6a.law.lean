set_option maxHeartbeats 4000000 in
theorem K_128 {W B L p : Nat} (hW0 : 0 < W) (hW : W ≤ 16) (hB0 : 0 < B) (hB : B ≤ 4) (hL : L ≤ 2562) (hp : p + 5 ≤ L) {xs : Nat → Int32} {m_tapeSize : Int32} {m_tape_a : Nat → Int32} {x_tape_length : Int32} {x_tape_units_a : Nat → Int32} {K : Int32 → (Nat → Int32) → Int32 → (Nat → Int32) → Int32 → Option Int32} (htape : tapeI x_tape_length x_tape_units_a m_tapeSize m_tape_a) (hK : ∀ (m_tapeSize' : Int32) (m_tape_a' : Nat → Int32) (x_tape_length' : Int32) (x_tape_units_a' : Nat → Int32), tapeI x_tape_length' x_tape_units_a' m_tapeSize' m_tape_a' → K m_tapeSize' m_tape_a' x_tape_length' x_tape_units_a' (nI (p + 5)) = some 1) : f_LW_law_128 400 400 m_tapeSize m_tape_a x_tape_length x_tape_units_a L (nI p) xs K = some 1 := by
  have a1 : nI p + 1 = nI (p + 1) := nI_1 p
  have a2 : nI p + 2 = nI (p + 2) := nI_add p 2
  have a3 : nI p + 3 = nI (p + 3) := nI_add p 3
  have a4 : nI p + 4 = nI (p + 4) := nI_add p 4
  have a5 : nI p + 5 = nI (p + 5) := nI_add p 5
  have j1 : inB (nI (p + 1)) L = true := inB_nI (by omega) (by omega)
  have j2 : inB (nI (p + 2)) L = true := inB_nI (by omega) (by omega)
  have j3 : inB (nI (p + 3)) L = true := inB_nI (by omega) (by omega)
  have j4 : inB (nI (p + 4)) L = true := inB_nI (by omega) (by omega)
  unfold f_LW_law_128
  obtain ⟨q1, q2, e1, e2, e3, e4⟩ := L_unit htape (xs (Int32.toNatClampNeg (nI (p + 1))))
  simp only [a1, j1, ↓reduceIte, e1, e2, Option.bind_some, a5]
  rw [if_pos e3]
  exact hK _ _ _ _ e4
set_option maxHeartbeats 4000000 in
theorem K_153 {W B L p : Nat} (hW0 : 0 < W) (hW : W ≤ 16) (hB0 : 0 < B) (hB : B ≤ 4) (hL : L ≤ 2562) (hp : p + 5 ≤ L) {xs : Nat → Int32} {m_elements : Int32} {m_tapeSize : Int32} {m_counts_a : Nat → Int32} {m_newCounts_a : Nat → Int32} {m_newOperations_a : Nat → Int32} {m_newSorts_a : Nat → Int32} {m_operations_a : Nat → Int32} {m_sorts_a : Nat → Int32} {m_tape_a : Nat → Int32} {x_draft_firstRows_a : Nat → Int32} {x_draft_rows_a : Nat → Int32} {x_march_elements : Int32} {x_march_rowCount : Int32} {x_march_firstRows_a : Nat → Int32} {x_march_rows_a : Nat → Int32} {x_reader_direction : Int32} {x_reader_operation : Int32} {x_tape_length : Int32} {x_tape_units_a : Nat → Int32} {K : Nat → Nat → Nat → Nat → Int32 → Int32 → (Nat → Int32) → (Nat → Int32) → (Nat → Int32) → (Nat → Int32) → (Nat → Int32) → (Nat → Int32) → (Nat → Int32) → (Nat → Int32) → Int32 → Int32 → (Nat → Int32) → (Nat → Int32) → Int32 → Int32 → Int32 → Int32 → Option Int32} (htape : tapeI x_tape_length x_tape_units_a m_tapeSize m_tape_a) (hmarch : marchI x_march_elements x_march_rowCount x_march_firstRows_a x_march_rows_a m_elements m_sorts_a m_counts_a m_operations_a) (hK : ∀ (m_elements' : Int32) (m_tapeSize' : Int32) (m_counts_a' : Nat → Int32) (m_newCounts_a' : Nat → Int32) (m_newOperations_a' : Nat → Int32) (m_newSorts_a' : Nat → Int32) (m_operations_a' : Nat → Int32) (m_sorts_a' : Nat → Int32) (x_draft_firstRows_a' : Nat → Int32) (x_draft_rows_a' : Nat → Int32) (x_march_elements' : Int32) (x_march_rowCount' : Int32) (x_march_firstRows_a' : Nat → Int32) (x_march_rows_a' : Nat → Int32) (x_reader_direction' : Int32) (x_reader_operation' : Int32) (x_tape_length' : Int32), tapeI x_tape_length' x_tape_units_a m_tapeSize' m_tape_a → marchI x_march_elements' x_march_rowCount' x_march_firstRows_a' x_march_rows_a' m_elements' m_sorts_a' m_counts_a' m_operations_a' → K 17 128 17 128 m_elements' m_tapeSize' m_counts_a' m_newCounts_a' m_newOperations_a' m_newSorts_a' m_operations_a' m_sorts_a' x_draft_firstRows_a' x_draft_rows_a' x_march_elements' x_march_rowCount' x_march_firstRows_a' x_march_rows_a' x_reader_direction' x_reader_operation' x_tape_length' (nI (p + 5)) = some 1) : f_LW_law_153 16 16 128 16 128 16 400 17 128 17 128 400 m_elements m_tapeSize m_counts_a m_newCounts_a m_newOperations_a m_newSorts_a m_operations_a m_sorts_a m_tape_a x_draft_firstRows_a x_draft_rows_a x_march_elements x_march_rowCount x_march_firstRows_a x_march_rows_a x_reader_direction x_reader_operation x_tape_length x_tape_units_a (nI p) K = some 1 := by
  have a1 : nI p + 1 = nI (p + 1) := nI_1 p
  have a2 : nI p + 2 = nI (p + 2) := nI_add p 2
  have a3 : nI p + 3 = nI (p + 3) := nI_add p 3
  have a4 : nI p + 4 = nI (p + 4) := nI_add p 4
  have a5 : nI p + 5 = nI (p + 5) := nI_add p 5
  have j1 : inB (nI (p + 1)) L = true := inB_nI (by omega) (by omega)
  have j2 : inB (nI (p + 2)) L = true := inB_nI (by omega) (by omega)
  have j3 : inB (nI (p + 3)) L = true := inB_nI (by omega) (by omega)
  have j4 : inB (nI (p + 4)) L = true := inB_nI (by omega) (by omega)
  unfold f_LW_law_153
  obtain ⟨q1, q2, e1, e2, e3, e4, e5, e6⟩ := L_read (fr := x_draft_firstRows_a) (rows := x_draft_rows_a) (ns := m_newSorts_a) (nc := m_newCounts_a) (no := m_newOperations_a) (dir := x_reader_direction) (op := x_reader_operation) htape hmarch
  simp only [e1, e2, Option.bind_some, a5]
  rcases e6 with ⟨e6, e7⟩ | ⟨e6, e7⟩
  · rw [if_pos e6, if_pos e3]
    refine hK _ _ _ _ _ _ _ _ _ _ _ _ _ _ _ _ _ ?_ e7
    rw [e4, e5]; exact tapeI_0
  · rw [if_neg e6, if_pos e3]
    refine hK _ _ _ _ _ _ _ _ _ _ _ _ _ _ _ _ _ ?_ e7
    rw [e4, e5]; exact tapeI_0
set_option maxHeartbeats 4000000 in
theorem K_166 {W B L p : Nat} (hW0 : 0 < W) (hW : W ≤ 16) (hB0 : 0 < B) (hB : B ≤ 4) (hL : L ≤ 2562) (hp : p + 5 ≤ L) {xs : Nat → Int32} {m_told : Int32} {m_toldKinds_a : Nat → Int32} {m_toldOthers_a : Nat → Int32} {m_toldVictims_a : Nat → Int32} {out_a : Nat → Int64} {x_faults_count : Int32} {x_faults_touchedWords : Int32} {x_faults_kinds_a : Nat → Int32} {x_faults_otherMasks_a : Nat → Int32} {x_faults_otherWords_a : Nat → Int32} {x_faults_victimMasks_a : Nat → Int32} {x_faults_victimWords_a : Nat → Int32} {K : Int32 → (Nat → Int32) → (Nat → Int32) → (Nat → Int32) → (Nat → Int64) → Int32 → Int32 → (Nat → Int32) → (Nat → Int32) → (Nat → Int32) → (Nat → Int32) → (Nat → Int32) → Int32 → Option Int32} (hfault : faultI W B x_faults_count x_faults_touchedWords x_faults_kinds_a x_faults_victimWords_a x_faults_victimMasks_a x_faults_otherWords_a x_faults_otherMasks_a m_told m_toldKinds_a m_toldVictims_a m_toldOthers_a) (hK : ∀ (m_told' : Int32) (m_toldKinds_a' : Nat → Int32) (m_toldOthers_a' : Nat → Int32) (m_toldVictims_a' : Nat → Int32) (out_a' : Nat → Int64) (x_faults_count' : Int32) (x_faults_touchedWords' : Int32) (x_faults_kinds_a' : Nat → Int32) (x_faults_otherMasks_a' : Nat → Int32) (x_faults_otherWords_a' : Nat → Int32) (x_faults_victimMasks_a' : Nat → Int32) (x_faults_victimWords_a' : Nat → Int32), faultI W B x_faults_count' x_faults_touchedWords' x_faults_kinds_a' x_faults_victimWords_a' x_faults_victimMasks_a' x_faults_otherWords_a' x_faults_otherMasks_a' m_told' m_toldKinds_a' m_toldVictims_a' m_toldOthers_a' → K m_told' m_toldKinds_a' m_toldOthers_a' m_toldVictims_a' out_a' x_faults_count' x_faults_touchedWords' x_faults_kinds_a' x_faults_otherMasks_a' x_faults_otherWords_a' x_faults_victimMasks_a' x_faults_victimWords_a' (nI (p + 5)) = some 1) : f_LW_law_166 4 4 4 1 4 4 4 4 4 (nI W) (nI B) m_told m_toldKinds_a m_toldOthers_a m_toldVictims_a out_a (nI (W * B)) x_faults_count x_faults_touchedWords (nI B) x_faults_kinds_a x_faults_otherMasks_a x_faults_otherWords_a x_faults_victimMasks_a x_faults_victimWords_a L (nI p) xs K = some 1 := by
  have a1 : nI p + 1 = nI (p + 1) := nI_1 p
  have a2 : nI p + 2 = nI (p + 2) := nI_add p 2
  have a3 : nI p + 3 = nI (p + 3) := nI_add p 3
  have a4 : nI p + 4 = nI (p + 4) := nI_add p 4
  have a5 : nI p + 5 = nI (p + 5) := nI_add p 5
  have j1 : inB (nI (p + 1)) L = true := inB_nI (by omega) (by omega)
  have j2 : inB (nI (p + 2)) L = true := inB_nI (by omega) (by omega)
  have j3 : inB (nI (p + 3)) L = true := inB_nI (by omega) (by omega)
  have j4 : inB (nI (p + 4)) L = true := inB_nI (by omega) (by omega)
  unfold f_LW_law_166
  obtain ⟨q1, q2, e1, e2, e3, e4, e5⟩ := L_fault hW hB0 hB (out := out_a) hfault (xs (Int32.toNatClampNeg (nI (p + 1)))) (xs (Int32.toNatClampNeg (nI (p + 2)))) (xs (Int32.toNatClampNeg (nI (p + 3))))
  simp only [a1, a2, a3, j1, j2, j3, ↓reduceIte, e1, e2, Option.bind_some, f_RF_thrown, a5]
  rw [if_pos e3]
  by_cases z : q1.1 = 0
  · rw [if_pos z, if_pos (show inB 0 1 = true by decide), show Int32.toNatClampNeg 0 = 0 from rfl, e4 z, lg_self, if_pos (show (0 : Int32) = 0 from rfl)]
    exact hK _ _ _ _ _ _ _ _ _ _ _ _ e5
  · rw [if_neg z]
    exact hK _ _ _ _ _ _ _ _ _ _ _ _ e5
set_option maxHeartbeats 4000000 in
theorem K_246 {W B L p : Nat} (hW0 : 0 < W) (hW : W ≤ 16) (hB0 : 0 < B) (hB : B ≤ 4) (hL : L ≤ 2562) (hp : p + 5 ≤ L) {xs : Nat → Int32} {m_faults : Int32} {m_told : Int32} {m_ground : Int32} {m_ports : Int32} {m_elements : Int32} {m_failedCount : Int32} {m_keeps : Int32} {m_some : Int32} {m_cells_a : Nat → Int32} {m_counts_a : Nat → Int32} {m_failed_a : Nat → Int32} {m_kinds_a : Nat → Int32} {m_operations_a : Nat → Int32} {m_others_a : Nat → Int32} {m_places_a : Nat → Int32} {m_scrambled_a : Nat → Int32} {m_sense_a : Nat → Int32} {m_sorts_a : Nat → Int32} {m_toldKinds_a : Nat → Int32} {m_toldOthers_a : Nat → Int32} {m_toldVictims_a : Nat → Int32} {m_victims_a : Nat → Int32} {out_a : Nat → Int64} {x_faults_count : Int32} {x_faults_touchedWords : Int32} {x_faults_kinds_a : Nat → Int32} {x_faults_otherMasks_a : Nat → Int32} {x_faults_otherWords_a : Nat → Int32} {x_faults_victimMasks_a : Nat → Int32} {x_faults_victimWords_a : Nat → Int32} {x_march_elements : Int32} {x_march_firstRows_a : Nat → Int32} {x_march_rows_a : Nat → Int32} {x_tester_ports : Int32} {x_tester_groundKind : Int32} {x_tester_failures_count : Int32} {x_tester_failures_parts_a : Nat → Int32} {x_tester_memory_latest : Int32} {x_tester_memory_held_a : Nat → Int32} {x_tester_scrambled_a : Nat → Int32} {x_tester_wordAt_a : Nat → Int32} {x_tester_zeroOf_a : Nat → Int32} {x_march_rowCount : Int32} {K : Int32 → Int32 → Int32 → Int32 → (Nat → Int32) → (Nat → Int32) → (Nat → Int32) → (Nat → Int32) → (Nat → Int32) → (Nat → Int32) → (Nat → Int32) → (Nat → Int64) → Int32 → (Nat → Int32) → Int32 → (Nat → Int32) → (Nat → Int32) → (Nat → Int32) → Int32 → Option Int32} (hfault : faultI W B x_faults_count x_faults_touchedWords x_faults_kinds_a x_faults_victimWords_a x_faults_victimMasks_a x_faults_otherWords_a x_faults_otherMasks_a m_told m_toldKinds_a m_toldVictims_a m_toldOthers_a) (hmarch : marchI x_march_elements x_march_rowCount x_march_firstRows_a x_march_rows_a m_elements m_sorts_a m_counts_a m_operations_a) (hscr : scrI W x_tester_scrambled_a m_scrambled_a) (hfail : failI W B x_tester_failures_count x_tester_failures_parts_a m_failedCount m_failed_a) (hport : portI x_tester_ports m_ports) (hgr : grI x_tester_groundKind m_ground) (hK : ∀ (m_faults' : Int32) (m_failedCount' : Int32) (m_keeps' : Int32) (m_some' : Int32) (m_cells_a' : Nat → Int32) (m_failed_a' : Nat → Int32) (m_kinds_a' : Nat → Int32) (m_others_a' : Nat → Int32) (m_places_a' : Nat → Int32) (m_sense_a' : Nat → Int32) (m_victims_a' : Nat → Int32) (out_a' : Nat → Int64) (x_tester_failures_count' : Int32) (x_tester_failures_parts_a' : Nat → Int32) (x_tester_memory_latest' : Int32) (x_tester_memory_held_a' : Nat → Int32) (x_tester_wordAt_a' : Nat → Int32) (x_tester_zeroOf_a' : Nat → Int32), failI W B x_tester_failures_count' x_tester_failures_parts_a' m_failedCount' m_failed_a' → K m_faults' m_failedCount' m_keeps' m_some' m_cells_a' m_failed_a' m_kinds_a' m_others_a' m_places_a' m_sense_a' m_victims_a' out_a' x_tester_failures_count' x_tester_failures_parts_a' x_tester_memory_latest' x_tester_memory_held_a' x_tester_wordAt_a' x_tester_zeroOf_a' (nI (p + 5)) = some 1) : f_LW_law_246 64 16 1200 4 128 4 16 16 4 16 4 4 4 4 1 4 4 4 4 4 17 128 1200 W W W W (nI W) (nI B) m_faults m_told m_ground m_ports m_elements m_failedCount m_keeps m_some m_cells_a m_counts_a m_failed_a m_kinds_a m_operations_a m_others_a m_places_a m_scrambled_a m_sense_a m_sorts_a m_toldKinds_a m_toldOthers_a m_toldVictims_a m_victims_a out_a x_faults_count x_faults_touchedWords x_faults_kinds_a x_faults_otherMasks_a x_faults_otherWords_a x_faults_victimMasks_a x_faults_victimWords_a x_march_elements x_march_firstRows_a x_march_rows_a x_tester_ports x_tester_groundKind (nI W) (nI (2 ^ B - 1)) x_tester_failures_count x_tester_failures_parts_a (nI W) (nI B) x_tester_memory_latest x_tester_memory_held_a x_tester_scrambled_a x_tester_wordAt_a x_tester_zeroOf_a L (nI p) xs K = some 1 := by
  have a1 : nI p + 1 = nI (p + 1) := nI_1 p
  have a2 : nI p + 2 = nI (p + 2) := nI_add p 2
  have a3 : nI p + 3 = nI (p + 3) := nI_add p 3
  have a4 : nI p + 4 = nI (p + 4) := nI_add p 4
  have a5 : nI p + 5 = nI (p + 5) := nI_add p 5
  have j1 : inB (nI (p + 1)) L = true := inB_nI (by omega) (by omega)
  have j2 : inB (nI (p + 2)) L = true := inB_nI (by omega) (by omega)
  have j3 : inB (nI (p + 3)) L = true := inB_nI (by omega) (by omega)
  have j4 : inB (nI (p + 4)) L = true := inB_nI (by omega) (by omega)
  unfold f_LW_law_246
  obtain ⟨pt, hpt, rfl, rfl⟩ := hport
  obtain ⟨g, hg, rfl, rfl⟩ := hgr
  obtain ⟨q1, q2, e1, e2, e3, e4, e5⟩ := L_run hW0 hW hB hg hpt.2 (lt := x_tester_memory_latest) (mfa := m_faults) (mke := m_keeps) (mso := m_some) (zeroOf := x_tester_zeroOf_a) (wordAt := x_tester_wordAt_a) (held := x_tester_memory_held_a) (mk := m_kinds_a) (mv := m_victims_a) (mot := m_others_a) (mpl := m_places_a) (mce := m_cells_a) (mse := m_sense_a) (out := out_a) hfault hmarch hscr hfail (xs (Int32.toNatClampNeg (nI (p + 1))))
  simp only [a1, j1, ↓reduceIte, e1, e2, Option.bind_some, f_RF_thrown, a5, ite_self]
  rw [if_pos e3]
  by_cases z : q1.1 = 0
  · rw [if_pos z, if_pos (show inB 0 1 = true by decide), show Int32.toNatClampNeg 0 = 0 from rfl, e4 z, lg_self, if_pos (show (0 : Int32) = 0 from rfl)]
    exact hK _ _ _ _ _ _ _ _ _ _ _ _ _ _ _ _ _ _ e5
  · rw [if_neg z]
    exact hK _ _ _ _ _ _ _ _ _ _ _ _ _ _ _ _ _ _ e5
set_option maxHeartbeats 4000000 in
theorem K_302 {W B L p : Nat} (hW0 : 0 < W) (hW : W ≤ 16) (hB0 : 0 < B) (hB : B ≤ 4) (hL : L ≤ 2562) (hp : p + 5 ≤ L) {xs : Nat → Int32} {m_faults : Int32} {m_ground : Int32} {m_ports : Int32} {m_elements : Int32} {m_failedCount : Int32} {m_keeps : Int32} {m_some : Int32} {m_cells_a : Nat → Int32} {m_counts_a : Nat → Int32} {m_failed_a : Nat → Int32} {m_kinds_a : Nat → Int32} {m_operations_a : Nat → Int32} {m_others_a : Nat → Int32} {m_places_a : Nat → Int32} {m_scrambled_a : Nat → Int32} {m_sense_a : Nat → Int32} {m_sorts_a : Nat → Int32} {m_victims_a : Nat → Int32} {out_a : Nat → Int64} {x_march_elements : Int32} {x_march_firstRows_a : Nat → Int32} {x_march_rows_a : Nat → Int32} {x_single_count : Int32} {x_single_touchedWords : Int32} {x_single_kinds_a : Nat → Int32} {x_single_otherMasks_a : Nat → Int32} {x_single_otherWords_a : Nat → Int32} {x_single_victimMasks_a : Nat → Int32} {x_single_victimWords_a : Nat → Int32} {x_tester_ports : Int32} {x_tester_groundKind : Int32} {x_tester_failures_count : Int32} {x_tester_failures_parts_a : Nat → Int32} {x_tester_memory_latest : Int32} {x_tester_memory_held_a : Nat → Int32} {x_tester_scrambled_a : Nat → Int32} {x_tester_wordAt_a : Nat → Int32} {x_tester_zeroOf_a : Nat → Int32} {x_march_rowCount : Int32} {K : Int32 → Int32 → Int32 → Int32 → (Nat → Int32) → (Nat → Int32) → (Nat → Int32) → (Nat → Int32) → (Nat → Int32) → (Nat → Int32) → (Nat → Int32) → (Nat → Int64) → Int32 → Int32 → (Nat → Int32) → (Nat → Int32) → (Nat → Int32) → (Nat → Int32) → (Nat → Int32) → Int32 → (Nat → Int32) → Int32 → (Nat → Int32) → (Nat → Int32) → (Nat → Int32) → Int32 → Option Int32} (hmarch : marchI x_march_elements x_march_rowCount x_march_firstRows_a x_march_rows_a m_elements m_sorts_a m_counts_a m_operations_a) (hscr : scrI W x_tester_scrambled_a m_scrambled_a) (hfail : failI W B x_tester_failures_count x_tester_failures_parts_a m_failedCount m_failed_a) (hport : portI x_tester_ports m_ports) (hgr : grI x_tester_groundKind m_ground) (hK : ∀ (m_faults' : Int32) (m_failedCount' : Int32) (m_keeps' : Int32) (m_some' : Int32) (m_cells_a' : Nat → Int32) (m_failed_a' : Nat → Int32) (m_kinds_a' : Nat → Int32) (m_others_a' : Nat → Int32) (m_places_a' : Nat → Int32) (m_sense_a' : Nat → Int32) (m_victims_a' : Nat → Int32) (out_a' : Nat → Int64) (x_single_count' : Int32) (x_single_touchedWords' : Int32) (x_single_kinds_a' : Nat → Int32) (x_single_otherMasks_a' : Nat → Int32) (x_single_otherWords_a' : Nat → Int32) (x_single_victimMasks_a' : Nat → Int32) (x_single_victimWords_a' : Nat → Int32) (x_tester_failures_count' : Int32) (x_tester_failures_parts_a' : Nat → Int32) (x_tester_memory_latest' : Int32) (x_tester_memory_held_a' : Nat → Int32) (x_tester_wordAt_a' : Nat → Int32) (x_tester_zeroOf_a' : Nat → Int32), failI W B x_tester_failures_count' x_tester_failures_parts_a' m_failedCount' m_failed_a' → K m_faults' m_failedCount' m_keeps' m_some' m_cells_a' m_failed_a' m_kinds_a' m_others_a' m_places_a' m_sense_a' m_victims_a' out_a' x_single_count' x_single_touchedWords' x_single_kinds_a' x_single_otherMasks_a' x_single_otherWords_a' x_single_victimMasks_a' x_single_victimWords_a' x_tester_failures_count' x_tester_failures_parts_a' x_tester_memory_latest' x_tester_memory_held_a' x_tester_wordAt_a' x_tester_zeroOf_a' (nI (p + 5)) = some 1) : f_LW_law_302 64 16 1200 4 128 4 16 16 4 16 4 1 17 128 4 4 4 4 4 1200 W W W W (nI W) (nI B) m_faults m_ground m_ports m_elements m_failedCount m_keeps m_some m_cells_a m_counts_a m_failed_a m_kinds_a m_operations_a m_others_a m_places_a m_scrambled_a m_sense_a m_sorts_a m_victims_a out_a (nI (W * B)) x_march_elements x_march_firstRows_a x_march_rows_a x_single_count x_single_touchedWords (nI B) x_single_kinds_a x_single_otherMasks_a x_single_otherWords_a x_single_victimMasks_a x_single_victimWords_a x_tester_ports x_tester_groundKind (nI W) (nI (2 ^ B - 1)) x_tester_failures_count x_tester_failures_parts_a (nI W) (nI B) x_tester_memory_latest x_tester_memory_held_a x_tester_scrambled_a x_tester_wordAt_a x_tester_zeroOf_a L (nI p) xs K = some 1 := by
  have a1 : nI p + 1 = nI (p + 1) := nI_1 p
  have a2 : nI p + 2 = nI (p + 2) := nI_add p 2
  have a3 : nI p + 3 = nI (p + 3) := nI_add p 3
  have a4 : nI p + 4 = nI (p + 4) := nI_add p 4
  have a5 : nI p + 5 = nI (p + 5) := nI_add p 5
  have j1 : inB (nI (p + 1)) L = true := inB_nI (by omega) (by omega)
  have j2 : inB (nI (p + 2)) L = true := inB_nI (by omega) (by omega)
  have j3 : inB (nI (p + 3)) L = true := inB_nI (by omega) (by omega)
  have j4 : inB (nI (p + 4)) L = true := inB_nI (by omega) (by omega)
  unfold f_LW_law_302
  obtain ⟨pt, hpt, rfl, rfl⟩ := hport
  obtain ⟨g, hg, rfl, rfl⟩ := hgr
  obtain ⟨q1, q2, e1, e2, e3, e4, f1, f2, f3, f4⟩ := L_covered hW0 hW hB0 hB hg hpt.2 hmarch hscr (sc := x_single_count) (st := x_single_touchedWords) (lt := x_tester_memory_latest) (xfc := x_tester_failures_count) (mfa := m_faults) (mfc := m_failedCount) (mke := m_keeps) (mso := m_some) (sk := x_single_kinds_a) (svW := x_single_victimWords_a) (svM := x_single_victimMasks_a) (soW := x_single_otherWords_a) (soM := x_single_otherMasks_a) (zeroOf := x_tester_zeroOf_a) (wordAt := x_tester_wordAt_a) (held := x_tester_memory_held_a) (xfp := x_tester_failures_parts_a) (mk := m_kinds_a) (mv := m_victims_a) (mot := m_others_a) (mpl := m_places_a) (mce := m_cells_a) (mse := m_sense_a) (mff := m_failed_a) (out := out_a) (xs (Int32.toNatClampNeg (nI (p + 1)))) (xs (Int32.toNatClampNeg (nI (p + 2))))
  have e5 := hfail
  rw [← f1, ← f2, ← f3, ← f4] at e5
  simp only [a1, a2, j1, j2, ↓reduceIte, e1, e2, Option.bind_some, f_RF_thrown, a5]
  rw [if_pos e3]
  by_cases z : q1.1 = 0
  · rw [if_pos z, if_pos (show inB 0 1 = true by decide), show Int32.toNatClampNeg 0 = 0 from rfl, e4 z, lg_self, if_pos (show (0 : Int32) = 0 from rfl)]
    exact hK _ _ _ _ _ _ _ _ _ _ _ _ _ _ _ _ _ _ _ _ _ _ _ _ _ e5
  · rw [if_neg z]
    exact hK _ _ _ _ _ _ _ _ _ _ _ _ _ _ _ _ _ _ _ _ _ _ _ _ _ e5
set_option maxHeartbeats 4000000 in
theorem K_369 {W B L p : Nat} (hW0 : 0 < W) (hW : W ≤ 16) (hB0 : 0 < B) (hB : B ≤ 4) (hL : L ≤ 2562) (hp : p + 5 ≤ L) {xs : Nat → Int32} {m_elements : Int32} {m_counts_a : Nat → Int32} {m_operations_a : Nat → Int32} {m_sorts_a : Nat → Int32} {out_a : Nat → Int64} {x_march_elements : Int32} {x_march_rowCount : Int32} {x_march_rows_a : Nat → Int32} {x_march_firstRows_a : Nat → Int32} {K : (Nat → Int64) → Int32 → Option Int32} (hmarch : marchI x_march_elements x_march_rowCount x_march_firstRows_a x_march_rows_a m_elements m_sorts_a m_counts_a m_operations_a) (hK : ∀ (out_a' : Nat → Int64), K out_a' (nI (p + 5)) = some 1) : f_LW_law_369 16 128 16 1 128 m_elements m_counts_a m_operations_a m_sorts_a out_a x_march_elements x_march_rowCount x_march_rows_a L (nI p) xs K = some 1 := by
  have a1 : nI p + 1 = nI (p + 1) := nI_1 p
  have a2 : nI p + 2 = nI (p + 2) := nI_add p 2
  have a3 : nI p + 3 = nI (p + 3) := nI_add p 3
  have a4 : nI p + 4 = nI (p + 4) := nI_add p 4
  have a5 : nI p + 5 = nI (p + 5) := nI_add p 5
  have j1 : inB (nI (p + 1)) L = true := inB_nI (by omega) (by omega)
  have j2 : inB (nI (p + 2)) L = true := inB_nI (by omega) (by omega)
  have j3 : inB (nI (p + 3)) L = true := inB_nI (by omega) (by omega)
  have j4 : inB (nI (p + 4)) L = true := inB_nI (by omega) (by omega)
  unfold f_LW_law_369
  obtain ⟨q1, q2, e1, e2, e3, e4⟩ := L_machine (out := out_a) hmarch (xs (Int32.toNatClampNeg (nI (p + 1))))
  simp only [a1, j1, ↓reduceIte, e1, e2, Option.bind_some, f_RF_thrown, a5]
  rw [if_pos e3]
  by_cases z : q1.1 = 0
  · rw [if_pos z, if_pos (show inB 0 1 = true by decide), show Int32.toNatClampNeg 0 = 0 from rfl, e4 z, lg_self, if_pos (show (0 : Int32) = 0 from rfl)]
    exact hK _
  · rw [if_neg z]
    exact hK _
set_option maxHeartbeats 4000000 in
theorem K_425 {W B L p : Nat} (hW0 : 0 < W) (hW : W ≤ 16) (hB0 : 0 < B) (hB : B ≤ 4) (hL : L ≤ 2562) (hp : p + 5 ≤ L) {xs : Nat → Int32} {m_scrambled_a : Nat → Int32} {out_a : Nat → Int64} {x_tester_scrambled_a : Nat → Int32} {K : (Nat → Int32) → (Nat → Int64) → (Nat → Int32) → Int32 → Option Int32} (hscr : scrI W x_tester_scrambled_a m_scrambled_a) (hK : ∀ (m_scrambled_a' : Nat → Int32) (out_a' : Nat → Int64) (x_tester_scrambled_a' : Nat → Int32), scrI W x_tester_scrambled_a' m_scrambled_a' → K m_scrambled_a' out_a' x_tester_scrambled_a' (nI (p + 5)) = some 1) : f_LW_law_425 16 1 W (nI W) m_scrambled_a out_a (nI W) x_tester_scrambled_a L (nI p) xs K = some 1 := by
  have a1 : nI p + 1 = nI (p + 1) := nI_1 p
  have a2 : nI p + 2 = nI (p + 2) := nI_add p 2
  have a3 : nI p + 3 = nI (p + 3) := nI_add p 3
  have a4 : nI p + 4 = nI (p + 4) := nI_add p 4
  have a5 : nI p + 5 = nI (p + 5) := nI_add p 5
  have j1 : inB (nI (p + 1)) L = true := inB_nI (by omega) (by omega)
  have j2 : inB (nI (p + 2)) L = true := inB_nI (by omega) (by omega)
  have j3 : inB (nI (p + 3)) L = true := inB_nI (by omega) (by omega)
  have j4 : inB (nI (p + 4)) L = true := inB_nI (by omega) (by omega)
  unfold f_LW_law_425
  obtain ⟨q1, q2, e1, e2, e3, e4, e5⟩ := L_scramble hW (out := out_a) hscr (xs (Int32.toNatClampNeg (nI (p + 1)))) (xs (Int32.toNatClampNeg (nI (p + 2))))
  simp only [a1, a2, j1, j2, ↓reduceIte, e1, e2, Option.bind_some, f_RF_thrown, a5]
  rw [if_pos e3]
  by_cases z : q1.1 = 0
  · rw [if_pos z, if_pos (show inB 0 1 = true by decide), show Int32.toNatClampNeg 0 = 0 from rfl]
    have e4' := e4 z
    by_cases y : q2.1 = 0
    · rw [if_pos y] at e4'
      rw [if_pos y, e4', lg_self, if_pos (show (0 : Int32) = 0 from rfl)]
      exact hK _ _ _ e5
    · rw [if_neg y] at e4'
      rw [if_neg y, e4', lg_self, if_pos (show (0 : Int32) = 0 from rfl)]
      exact hK _ _ _ e5
  · rw [if_neg z]
    exact hK _ _ _ e5
set_option maxHeartbeats 4000000 in
theorem K_500 {W B L p : Nat} (hW0 : 0 < W) (hW : W ≤ 16) (hB0 : 0 < B) (hB : B ≤ 4) (hL : L ≤ 2562) (hp : p + 5 ≤ L) {xs : Nat → Int32} {m_failedCount : Int32} {m_failed_a : Nat → Int32} {out_a : Nat → Int64} {x_tester_failures_count : Int32} {x_tester_failures_parts_a : Nat → Int32} {K : (Nat → Int64) → Int32 → Option Int32} (hfail : failI W B x_tester_failures_count x_tester_failures_parts_a m_failedCount m_failed_a) (hK : ∀ (out_a' : Nat → Int64), K out_a' (nI (p + 5)) = some 1) : f_LW_law_500 1200 1 1200 m_failedCount m_failed_a out_a x_tester_failures_count x_tester_failures_parts_a L (nI p) xs K = some 1 := by
  have a1 : nI p + 1 = nI (p + 1) := nI_1 p
  have a2 : nI p + 2 = nI (p + 2) := nI_add p 2
  have a3 : nI p + 3 = nI (p + 3) := nI_add p 3
  have a4 : nI p + 4 = nI (p + 4) := nI_add p 4
  have a5 : nI p + 5 = nI (p + 5) := nI_add p 5
  have j1 : inB (nI (p + 1)) L = true := inB_nI (by omega) (by omega)
  have j2 : inB (nI (p + 2)) L = true := inB_nI (by omega) (by omega)
  have j3 : inB (nI (p + 3)) L = true := inB_nI (by omega) (by omega)
  have j4 : inB (nI (p + 4)) L = true := inB_nI (by omega) (by omega)
  unfold f_LW_law_500
  obtain ⟨q1, q2, e1, e2, e3, e4⟩ := L_failing (out := out_a) hfail (xs (Int32.toNatClampNeg (nI (p + 1)))) (xs (Int32.toNatClampNeg (nI (p + 2))))
  simp only [a1, a2, j1, j2, ↓reduceIte, e1, e2, Option.bind_some, f_RF_thrown, a5]
  rw [if_pos e3]
  by_cases z : q1.1 = 0
  · rw [if_pos z, if_pos (show inB 0 1 = true by decide), show Int32.toNatClampNeg 0 = 0 from rfl, e4 z, lg_self, if_pos (show (0 : Int32) = 0 from rfl)]
    exact hK _
  · rw [if_neg z]
    exact hK _
set_option maxHeartbeats 4000000 in
theorem K_568 {W B L p : Nat} (hW0 : 0 < W) (hW : W ≤ 16) (hB0 : 0 < B) (hB : B ≤ 4) (hL : L ≤ 2562) (hp : p + 5 ≤ L) {xs : Nat → Int32} {m_failedCount : Int32} {m_repairedRows : Int32} {m_repairedColumns : Int32} {m_proof : Int32} {m_failed_a : Nat → Int32} {out_a : Nat → Int64} {x_plan_proven : Int32} {x_plan_solved : Int32} {x_plan_bestRows : Int32} {x_plan_bestColumns : Int32} {x_plan_wrongBits_a : Nat → Int32} {x_tester_failures_count : Int32} {x_tester_failures_parts_a : Nat → Int32} {K : Int32 → Int32 → Int32 → (Nat → Int64) → Int32 → Int32 → Int32 → Int32 → (Nat → Int32) → Int32 → Option Int32} (hfail : failI W B x_tester_failures_count x_tester_failures_parts_a m_failedCount m_failed_a) (hplan : planI W B x_plan_proven x_plan_bestRows x_plan_bestColumns m_repairedRows m_repairedColumns m_proof) (hK : ∀ (m_repairedRows' : Int32) (m_repairedColumns' : Int32) (m_proof' : Int32) (out_a' : Nat → Int64) (x_plan_proven' : Int32) (x_plan_solved' : Int32) (x_plan_bestRows' : Int32) (x_plan_bestColumns' : Int32) (x_plan_wrongBits_a' : Nat → Int32), planI W B x_plan_proven' x_plan_bestRows' x_plan_bestColumns' m_repairedRows' m_repairedColumns' m_proof' → K m_repairedRows' m_repairedColumns' m_proof' out_a' x_plan_proven' x_plan_solved' x_plan_bestRows' x_plan_bestColumns' x_plan_wrongBits_a' (nI (p + 5)) = some 1) : f_LW_law_568 1200 1 W 1200 (nI W) m_failedCount m_repairedRows m_repairedColumns m_proof m_failed_a out_a x_plan_proven (nI W) (nI (2 ^ B)) x_plan_solved x_plan_bestRows x_plan_bestColumns x_plan_wrongBits_a x_tester_failures_count x_tester_failures_parts_a L (nI p) xs K = some 1 := by
  have a1 : nI p + 1 = nI (p + 1) := nI_1 p
  have a2 : nI p + 2 = nI (p + 2) := nI_add p 2
  have a3 : nI p + 3 = nI (p + 3) := nI_add p 3
  have a4 : nI p + 4 = nI (p + 4) := nI_add p 4
  have a5 : nI p + 5 = nI (p + 5) := nI_add p 5
  have j1 : inB (nI (p + 1)) L = true := inB_nI (by omega) (by omega)
  have j2 : inB (nI (p + 2)) L = true := inB_nI (by omega) (by omega)
  have j3 : inB (nI (p + 3)) L = true := inB_nI (by omega) (by omega)
  have j4 : inB (nI (p + 4)) L = true := inB_nI (by omega) (by omega)
  unfold f_LW_law_568
  obtain ⟨q1, q2, e1, e2, e3, e4, e5⟩ := L_repair hW hB (xs := x_plan_solved) (wb := x_plan_wrongBits_a) (out := out_a) hfail hplan (xs (Int32.toNatClampNeg (nI (p + 1)))) (xs (Int32.toNatClampNeg (nI (p + 2)))) (((Int32.toInt64 (xs (Int32.toNatClampNeg (nI (p + 3))))) <<< (Int32.toInt64 32 &&& 63)) ||| ((Int32.toInt64 (xs (Int32.toNatClampNeg (nI (p + 4))))) &&& 4294967295))
  simp only [a1, a2, a3, a4, j1, j2, j3, j4, ↓reduceIte, e1, e2, Option.bind_some, f_RF_thrown, a5]
  rw [if_pos e3]
  by_cases z : q1.1 = 0
  · rw [if_pos z, if_pos (show inB 0 1 = true by decide), show Int32.toNatClampNeg 0 = 0 from rfl, e4 z, lg_self, if_pos (show (0 : Int32) = 0 from rfl)]
    exact hK _ _ _ _ _ _ _ _ _ e5
  · rw [if_neg z]
    exact hK _ _ _ _ _ _ _ _ _ e5
set_option maxHeartbeats 4000000 in
theorem K_680 {W B L p : Nat} (hW0 : 0 < W) (hW : W ≤ 16) (hB0 : 0 < B) (hB : B ≤ 4) (hL : L ≤ 2562) (hp : p + 5 ≤ L) {xs : Nat → Int32} {m_repairedRows : Int32} {m_repairedColumns : Int32} {out_a : Nat → Int64} {x_plan_bestRows : Int32} {x_plan_bestColumns : Int32} {x_plan_proven : Int32} {m_proof : Int32} {K : (Nat → Int64) → Int32 → Option Int32} (hplan : planI W B x_plan_proven x_plan_bestRows x_plan_bestColumns m_repairedRows m_repairedColumns m_proof) (hK : ∀ (out_a' : Nat → Int64), K out_a' (nI (p + 5)) = some 1) : f_LW_law_680 1 (nI W) (nI B) m_repairedRows m_repairedColumns out_a (nI W) (nI (W + B)) (nI W) x_plan_bestRows x_plan_bestColumns L (nI p) xs K = some 1 := by
  have a1 : nI p + 1 = nI (p + 1) := nI_1 p
  have a2 : nI p + 2 = nI (p + 2) := nI_add p 2
  have a3 : nI p + 3 = nI (p + 3) := nI_add p 3
  have a4 : nI p + 4 = nI (p + 4) := nI_add p 4
  have a5 : nI p + 5 = nI (p + 5) := nI_add p 5
  have j1 : inB (nI (p + 1)) L = true := inB_nI (by omega) (by omega)
  have j2 : inB (nI (p + 2)) L = true := inB_nI (by omega) (by omega)
  have j3 : inB (nI (p + 3)) L = true := inB_nI (by omega) (by omega)
  have j4 : inB (nI (p + 4)) L = true := inB_nI (by omega) (by omega)
  unfold f_LW_law_680
  obtain ⟨q1, q2, e1, e2, e3, e4⟩ := L_spare hW hB (out := out_a) hplan (xs (Int32.toNatClampNeg (nI (p + 1)))) (xs (Int32.toNatClampNeg (nI (p + 2))))
  simp only [a1, a2, j1, j2, ↓reduceIte, e1, e2, Option.bind_some, f_RF_thrown, a5]
  rw [if_pos e3]
  by_cases z : q1.1 = 0
  · rw [if_pos z, if_pos (show inB 0 1 = true by decide), show Int32.toNatClampNeg 0 = 0 from rfl, e4 z, lg_self, if_pos (show (0 : Int32) = 0 from rfl)]
    exact hK _
  · rw [if_neg z]
    exact hK _
set_option maxHeartbeats 4000000 in
theorem K_748 {W B L p : Nat} (hW0 : 0 < W) (hW : W ≤ 16) (hB0 : 0 < B) (hB : B ≤ 4) (hL : L ≤ 2562) (hp : p + 5 ≤ L) {xs : Nat → Int32} {m_proof : Int32} {x_plan_proven : Int32} {x_plan_bestRows : Int32} {x_plan_bestColumns : Int32} {m_repairedRows : Int32} {m_repairedColumns : Int32} {K : Int32 → Option Int32} (hplan : planI W B x_plan_proven x_plan_bestRows x_plan_bestColumns m_repairedRows m_repairedColumns m_proof) (hK : K (nI (p + 5)) = some 1) : f_LW_law_748 m_proof x_plan_proven (nI p) K = some 1 := by
  have a1 : nI p + 1 = nI (p + 1) := nI_1 p
  have a2 : nI p + 2 = nI (p + 2) := nI_add p 2
  have a3 : nI p + 3 = nI (p + 3) := nI_add p 3
  have a4 : nI p + 4 = nI (p + 4) := nI_add p 4
  have a5 : nI p + 5 = nI (p + 5) := nI_add p 5
  have j1 : inB (nI (p + 1)) L = true := inB_nI (by omega) (by omega)
  have j2 : inB (nI (p + 2)) L = true := inB_nI (by omega) (by omega)
  have j3 : inB (nI (p + 3)) L = true := inB_nI (by omega) (by omega)
  have j4 : inB (nI (p + 4)) L = true := inB_nI (by omega) (by omega)
  unfold f_LW_law_748
  obtain ⟨S, C, v, hS, hC, rfl, rfl, rfl, rfl, rfl, rfl⟩ := hplan
  have ib : isB (b2 v) = true := by cases v <;> decide
  unfold f_MT_proved f_RF_proved
  simp only [ib, ↓reduceIte, Option.bind_some, a5]
  exact hK
set_option maxHeartbeats 4000000 in
theorem K_761 {W B L p : Nat} (hW0 : 0 < W) (hW : W ≤ 16) (hB0 : 0 < B) (hB : B ≤ 4) (hL : L ≤ 2562) (hp : p + 5 ≤ L) {xs : Nat → Int32} {m_repairedRows : Int32} {m_repairedColumns : Int32} {out_a : Nat → Int64} {x_plan_bestRows : Int32} {x_plan_bestColumns : Int32} {x_plan_proven : Int32} {m_proof : Int32} {K : (Nat → Int64) → Int32 → Option Int32} (hplan : planI W B x_plan_proven x_plan_bestRows x_plan_bestColumns m_repairedRows m_repairedColumns m_proof) (hK : ∀ (out_a' : Nat → Int64), K out_a' (nI (p + 5)) = some 1) : f_LW_law_761 1 (nI W) (nI B) m_repairedRows m_repairedColumns out_a (nI (W + B)) (nI W) x_plan_bestRows x_plan_bestColumns L (nI p) xs K = some 1 := by
  have a1 : nI p + 1 = nI (p + 1) := nI_1 p
  have a2 : nI p + 2 = nI (p + 2) := nI_add p 2
  have a3 : nI p + 3 = nI (p + 3) := nI_add p 3
  have a4 : nI p + 4 = nI (p + 4) := nI_add p 4
  have a5 : nI p + 5 = nI (p + 5) := nI_add p 5
  have j1 : inB (nI (p + 1)) L = true := inB_nI (by omega) (by omega)
  have j2 : inB (nI (p + 2)) L = true := inB_nI (by omega) (by omega)
  have j3 : inB (nI (p + 3)) L = true := inB_nI (by omega) (by omega)
  have j4 : inB (nI (p + 4)) L = true := inB_nI (by omega) (by omega)
  unfold f_LW_law_761
  obtain ⟨q1, q2, e1, e2, e3, e4⟩ := L_fuse hW hB (out := out_a) hplan (xs (Int32.toNatClampNeg (nI (p + 1))))
  simp only [a1, j1, ↓reduceIte, e1, e2, Option.bind_some, f_RF_thrown, a5]
  rw [if_pos e3]
  by_cases z : q1.1 = 0
  · rw [if_pos z, if_pos (show inB 0 1 = true by decide), show Int32.toNatClampNeg 0 = 0 from rfl, e4 z, lg_self, if_pos (show (0 : Int32) = 0 from rfl)]
    exact hK _
  · rw [if_neg z]
    exact hK _
set_option maxHeartbeats 4000000 in
theorem K_817 {W B L p : Nat} (hW0 : 0 < W) (hW : W ≤ 16) (hB0 : 0 < B) (hB : B ≤ 4) (hL : L ≤ 2562) (hp : p + 5 ≤ L) {xs : Nat → Int32} {m_ports : Int32} {out_a : Nat → Int64} {x_tester_ports : Int32} {K : Int32 → (Nat → Int64) → Int32 → Int32 → Option Int32} (hport : portI x_tester_ports m_ports) (hK : ∀ (m_ports' : Int32) (out_a' : Nat → Int64) (x_tester_ports' : Int32), portI x_tester_ports' m_ports' → K m_ports' out_a' x_tester_ports' (nI (p + 5)) = some 1) : f_LW_law_817 1 m_ports out_a x_tester_ports L (nI p) xs K = some 1 := by
  have a1 : nI p + 1 = nI (p + 1) := nI_1 p
  have a2 : nI p + 2 = nI (p + 2) := nI_add p 2
  have a3 : nI p + 3 = nI (p + 3) := nI_add p 3
  have a4 : nI p + 4 = nI (p + 4) := nI_add p 4
  have a5 : nI p + 5 = nI (p + 5) := nI_add p 5
  have j1 : inB (nI (p + 1)) L = true := inB_nI (by omega) (by omega)
  have j2 : inB (nI (p + 2)) L = true := inB_nI (by omega) (by omega)
  have j3 : inB (nI (p + 3)) L = true := inB_nI (by omega) (by omega)
  have j4 : inB (nI (p + 4)) L = true := inB_nI (by omega) (by omega)
  unfold f_LW_law_817
  obtain ⟨pt, hpt, rfl, rfl⟩ := hport
  obtain ⟨q1, q2, e1, e2, e3, e4, p', e5, e6, e7⟩ := L_port hpt (out := out_a) (xs (Int32.toNatClampNeg (nI (p + 1))))
  simp only [a1, j1, ↓reduceIte, e1, e2, Option.bind_some, f_RF_thrown, a5]
  rw [if_pos e3]
  by_cases z : q1.1 = 0
  · rw [if_pos z, if_pos (show inB 0 1 = true by decide), show Int32.toNatClampNeg 0 = 0 from rfl, e4 z, lg_self, if_pos (show (0 : Int32) = 0 from rfl)]
    exact hK _ _ _ ⟨p', e5, e7, e6⟩
  · rw [if_neg z]
    exact hK _ _ _ ⟨p', e5, e7, e6⟩
set_option maxHeartbeats 4000000 in
theorem K_873 {W B L p : Nat} (hW0 : 0 < W) (hW : W ≤ 16) (hB0 : 0 < B) (hB : B ≤ 4) (hL : L ≤ 2562) (hp : p + 5 ≤ L) {xs : Nat → Int32} {m_ground : Int32} {out_a : Nat → Int64} {x_tester_groundKind : Int32} {K : Int32 → (Nat → Int64) → Int32 → Int32 → Option Int32} (hgr : grI x_tester_groundKind m_ground) (hK : ∀ (m_ground' : Int32) (out_a' : Nat → Int64) (x_tester_groundKind' : Int32), grI x_tester_groundKind' m_ground' → K m_ground' out_a' x_tester_groundKind' (nI (p + 5)) = some 1) : f_LW_law_873 1 m_ground out_a x_tester_groundKind L (nI p) xs K = some 1 := by
  have a1 : nI p + 1 = nI (p + 1) := nI_1 p
  have a2 : nI p + 2 = nI (p + 2) := nI_add p 2
  have a3 : nI p + 3 = nI (p + 3) := nI_add p 3
  have a4 : nI p + 4 = nI (p + 4) := nI_add p 4
  have a5 : nI p + 5 = nI (p + 5) := nI_add p 5
  have j1 : inB (nI (p + 1)) L = true := inB_nI (by omega) (by omega)
  have j2 : inB (nI (p + 2)) L = true := inB_nI (by omega) (by omega)
  have j3 : inB (nI (p + 3)) L = true := inB_nI (by omega) (by omega)
  have j4 : inB (nI (p + 4)) L = true := inB_nI (by omega) (by omega)
  unfold f_LW_law_873
  obtain ⟨g, hg, rfl, rfl⟩ := hgr
  obtain ⟨q1, q2, e1, e2, e3, e4, g', e5, e6, e7⟩ := L_ground hg (out := out_a) (xs (Int32.toNatClampNeg (nI (p + 1))))
  simp only [a1, j1, ↓reduceIte, e1, e2, Option.bind_some, f_RF_thrown, a5]
  rw [if_pos e3]
  by_cases z : q1.1 = 0
  · rw [if_pos z, if_pos (show inB 0 1 = true by decide), show Int32.toNatClampNeg 0 = 0 from rfl]
    have e4' := e4 z
    by_cases y : q2.1 = 0
    · rw [if_pos y] at e4'
      rw [if_pos y, e4', lg_self, if_pos (show (0 : Int32) = 0 from rfl)]
      exact hK _ _ _ ⟨g', e5, e7, e6⟩
    · rw [if_neg y] at e4'
      rw [if_neg y, e4', lg_self, if_pos (show (0 : Int32) = 0 from rfl)]
      exact hK _ _ _ ⟨g', e5, e7, e6⟩
  · rw [if_neg z]
    exact hK _ _ _ ⟨g', e5, e7, e6⟩
set_option maxHeartbeats 8000000 in
theorem law_step {W B L k : Nat} (hW0 : 0 < W) (hW : W ≤ 16) (hB0 : 0 < B) (hB : B ≤ 4) (hL : L ≤ 2562) {xs : Nat → Int32} (hk : k ≤ 1000) (rec43 : Nat → Nat → Nat → Nat → Int32 → Int32 → Int32 → Int32 → Int32 → Int32 → Int32 → Int32 → Int32 → Int32 → Int32 → Int32 → (Nat → Int32) → (Nat → Int32) → (Nat → Int32) → (Nat → Int32) → (Nat → Int32) → (Nat → Int32) → (Nat → Int32) → (Nat → Int32) → (Nat → Int32) → (Nat → Int32) → (Nat → Int32) → (Nat → Int32) → (Nat → Int32) → (Nat → Int32) → (Nat → Int32) → (Nat → Int32) → (Nat → Int32) → (Nat → Int32) → (Nat → Int64) → (Nat → Int32) → (Nat → Int32) → Int32 → Int32 → (Nat → Int32) → (Nat → Int32) → (Nat → Int32) → (Nat → Int32) → (Nat → Int32) → Int32 → Int32 → (Nat → Int32) → (Nat → Int32) → Int32 → Int32 → Int32 → Int32 → (Nat → Int32) → Int32 → Int32 → Int32 → Int32 → (Nat → Int32) → (Nat → Int32) → (Nat → Int32) → (Nat → Int32) → (Nat → Int32) → Int32 → (Nat → Int32) → Int32 → Int32 → Int32 → (Nat → Int32) → Int32 → (Nat → Int32) → (Nat → Int32) → (Nat → Int32) → (Nat → Int32) → Int32 → Option Int32) (hrec : 2 + 5 * k + 5 ≤ L → ∀ (m_faults : Int32) (m_told : Int32) (m_ground : Int32) (m_ports : Int32) (m_elements : Int32) (m_tapeSize : Int32) (m_failedCount : Int32) (m_keeps : Int32) (m_some : Int32) (m_repairedRows : Int32) (m_repairedColumns : Int32) (m_proof : Int32) (m_cells_a : Nat → Int32) (m_counts_a : Nat → Int32) (m_failed_a : Nat → Int32) (m_kinds_a : Nat → Int32) (m_newCounts_a : Nat → Int32) (m_newOperations_a : Nat → Int32) (m_newSorts_a : Nat → Int32) (m_operations_a : Nat → Int32) (m_others_a : Nat → Int32) (m_places_a : Nat → Int32) (m_scrambled_a : Nat → Int32) (m_sense_a : Nat → Int32) (m_sorts_a : Nat → Int32) (m_tape_a : Nat → Int32) (m_toldKinds_a : Nat → Int32) (m_toldOthers_a : Nat → Int32) (m_toldVictims_a : Nat → Int32) (m_victims_a : Nat → Int32) (out_a : Nat → Int64) (x_draft_firstRows_a : Nat → Int32) (x_draft_rows_a : Nat → Int32) (x_faults_count : Int32) (x_faults_touchedWords : Int32) (x_faults_kinds_a : Nat → Int32) (x_faults_otherMasks_a : Nat → Int32) (x_faults_otherWords_a : Nat → Int32) (x_faults_victimMasks_a : Nat → Int32) (x_faults_victimWords_a : Nat → Int32) (x_march_elements : Int32) (x_march_rowCount : Int32) (x_march_firstRows_a : Nat → Int32) (x_march_rows_a : Nat → Int32) (x_plan_proven : Int32) (x_plan_solved : Int32) (x_plan_bestRows : Int32) (x_plan_bestColumns : Int32) (x_plan_wrongBits_a : Nat → Int32) (x_reader_direction : Int32) (x_reader_operation : Int32) (x_single_count : Int32) (x_single_touchedWords : Int32) (x_single_kinds_a : Nat → Int32) (x_single_otherMasks_a : Nat → Int32) (x_single_otherWords_a : Nat → Int32) (x_single_victimMasks_a : Nat → Int32) (x_single_victimWords_a : Nat → Int32) (x_tape_length : Int32) (x_tape_units_a : Nat → Int32) (x_tester_ports : Int32) (x_tester_groundKind : Int32) (x_tester_failures_count : Int32) (x_tester_failures_parts_a : Nat → Int32) (x_tester_memory_latest : Int32) (x_tester_memory_held_a : Nat → Int32) (x_tester_scrambled_a : Nat → Int32) (x_tester_wordAt_a : Nat → Int32) (x_tester_zeroOf_a : Nat → Int32), faultI W B x_faults_count x_faults_touchedWords x_faults_kinds_a x_faults_victimWords_a x_faults_victimMasks_a x_faults_otherWords_a x_faults_otherMasks_a m_told m_toldKinds_a m_toldVictims_a m_toldOthers_a → marchI x_march_elements x_march_rowCount x_march_firstRows_a x_march_rows_a m_elements m_sorts_a m_counts_a m_operations_a → scrI W x_tester_scrambled_a m_scrambled_a → failI W B x_tester_failures_count x_tester_failures_parts_a m_failedCount m_failed_a → planI W B x_plan_proven x_plan_bestRows x_plan_bestColumns m_repairedRows m_repairedColumns m_proof → tapeI x_tape_length x_tape_units_a m_tapeSize m_tape_a → portI x_tester_ports m_ports → grI x_tester_groundKind m_ground → rec43 17 128 17 128 m_faults m_told m_ground m_ports m_elements m_tapeSize m_failedCount m_keeps m_some m_repairedRows m_repairedColumns m_proof m_cells_a m_counts_a m_failed_a m_kinds_a m_newCounts_a m_newOperations_a m_newSorts_a m_operations_a m_others_a m_places_a m_scrambled_a m_sense_a m_sorts_a m_tape_a m_toldKinds_a m_toldOthers_a m_toldVictims_a m_victims_a out_a x_draft_firstRows_a x_draft_rows_a x_faults_count x_faults_touchedWords x_faults_kinds_a x_faults_otherMasks_a x_faults_otherWords_a x_faults_victimMasks_a x_faults_victimWords_a x_march_elements x_march_rowCount x_march_firstRows_a x_march_rows_a x_plan_proven x_plan_solved x_plan_bestRows x_plan_bestColumns x_plan_wrongBits_a x_reader_direction x_reader_operation x_single_count x_single_touchedWords x_single_kinds_a x_single_otherMasks_a x_single_otherWords_a x_single_victimMasks_a x_single_victimWords_a x_tape_length x_tape_units_a x_tester_ports x_tester_groundKind x_tester_failures_count x_tester_failures_parts_a x_tester_memory_latest x_tester_memory_held_a x_tester_scrambled_a x_tester_wordAt_a x_tester_zeroOf_a (nI (2 + 5 * (k + 1))) = some 1) : ∀ (m_faults : Int32) (m_told : Int32) (m_ground : Int32) (m_ports : Int32) (m_elements : Int32) (m_tapeSize : Int32) (m_failedCount : Int32) (m_keeps : Int32) (m_some : Int32) (m_repairedRows : Int32) (m_repairedColumns : Int32) (m_proof : Int32) (m_cells_a : Nat → Int32) (m_counts_a : Nat → Int32) (m_failed_a : Nat → Int32) (m_kinds_a : Nat → Int32) (m_newCounts_a : Nat → Int32) (m_newOperations_a : Nat → Int32) (m_newSorts_a : Nat → Int32) (m_operations_a : Nat → Int32) (m_others_a : Nat → Int32) (m_places_a : Nat → Int32) (m_scrambled_a : Nat → Int32) (m_sense_a : Nat → Int32) (m_sorts_a : Nat → Int32) (m_tape_a : Nat → Int32) (m_toldKinds_a : Nat → Int32) (m_toldOthers_a : Nat → Int32) (m_toldVictims_a : Nat → Int32) (m_victims_a : Nat → Int32) (out_a : Nat → Int64) (x_draft_firstRows_a : Nat → Int32) (x_draft_rows_a : Nat → Int32) (x_faults_count : Int32) (x_faults_touchedWords : Int32) (x_faults_kinds_a : Nat → Int32) (x_faults_otherMasks_a : Nat → Int32) (x_faults_otherWords_a : Nat → Int32) (x_faults_victimMasks_a : Nat → Int32) (x_faults_victimWords_a : Nat → Int32) (x_march_elements : Int32) (x_march_rowCount : Int32) (x_march_firstRows_a : Nat → Int32) (x_march_rows_a : Nat → Int32) (x_plan_proven : Int32) (x_plan_solved : Int32) (x_plan_bestRows : Int32) (x_plan_bestColumns : Int32) (x_plan_wrongBits_a : Nat → Int32) (x_reader_direction : Int32) (x_reader_operation : Int32) (x_single_count : Int32) (x_single_touchedWords : Int32) (x_single_kinds_a : Nat → Int32) (x_single_otherMasks_a : Nat → Int32) (x_single_otherWords_a : Nat → Int32) (x_single_victimMasks_a : Nat → Int32) (x_single_victimWords_a : Nat → Int32) (x_tape_length : Int32) (x_tape_units_a : Nat → Int32) (x_tester_ports : Int32) (x_tester_groundKind : Int32) (x_tester_failures_count : Int32) (x_tester_failures_parts_a : Nat → Int32) (x_tester_memory_latest : Int32) (x_tester_memory_held_a : Nat → Int32) (x_tester_scrambled_a : Nat → Int32) (x_tester_wordAt_a : Nat → Int32) (x_tester_zeroOf_a : Nat → Int32), faultI W B x_faults_count x_faults_touchedWords x_faults_kinds_a x_faults_victimWords_a x_faults_victimMasks_a x_faults_otherWords_a x_faults_otherMasks_a m_told m_toldKinds_a m_toldVictims_a m_toldOthers_a → marchI x_march_elements x_march_rowCount x_march_firstRows_a x_march_rows_a m_elements m_sorts_a m_counts_a m_operations_a → scrI W x_tester_scrambled_a m_scrambled_a → failI W B x_tester_failures_count x_tester_failures_parts_a m_failedCount m_failed_a → planI W B x_plan_proven x_plan_bestRows x_plan_bestColumns m_repairedRows m_repairedColumns m_proof → tapeI x_tape_length x_tape_units_a m_tapeSize m_tape_a → portI x_tester_ports m_ports → grI x_tester_groundKind m_ground → g_LW_law 64 16 1200 4 16 128 16 128 4 16 16 4 16 400 4 4 4 4 1 4 4 4 4 4 W 4 4 4 4 4 400 1200 W W W W (nI W) (nI B) (nI W) (nI (W * B)) (nI B) (nI (W + B)) (nI W) (nI (2 ^ B)) (nI B) (nI W) (nI (2 ^ B - 1)) (nI W) (nI B) L xs rec43 17 128 17 128 m_faults m_told m_ground m_ports m_elements m_tapeSize m_failedCount m_keeps m_some m_repairedRows m_repairedColumns m_proof m_cells_a m_counts_a m_failed_a m_kinds_a m_newCounts_a m_newOperations_a m_newSorts_a m_operations_a m_others_a m_places_a m_scrambled_a m_sense_a m_sorts_a m_tape_a m_toldKinds_a m_toldOthers_a m_toldVictims_a m_victims_a out_a x_draft_firstRows_a x_draft_rows_a x_faults_count x_faults_touchedWords x_faults_kinds_a x_faults_otherMasks_a x_faults_otherWords_a x_faults_victimMasks_a x_faults_victimWords_a x_march_elements x_march_rowCount x_march_firstRows_a x_march_rows_a x_plan_proven x_plan_solved x_plan_bestRows x_plan_bestColumns x_plan_wrongBits_a x_reader_direction x_reader_operation x_single_count x_single_touchedWords x_single_kinds_a x_single_otherMasks_a x_single_otherWords_a x_single_victimMasks_a x_single_victimWords_a x_tape_length x_tape_units_a x_tester_ports x_tester_groundKind x_tester_failures_count x_tester_failures_parts_a x_tester_memory_latest x_tester_memory_held_a x_tester_scrambled_a x_tester_wordAt_a x_tester_zeroOf_a (nI (2 + 5 * k)) = some 1 := by
  intro m_faults m_told m_ground m_ports m_elements m_tapeSize m_failedCount m_keeps m_some m_repairedRows m_repairedColumns m_proof m_cells_a m_counts_a m_failed_a m_kinds_a m_newCounts_a m_newOperations_a m_newSorts_a m_operations_a m_others_a m_places_a m_scrambled_a m_sense_a m_sorts_a m_tape_a m_toldKinds_a m_toldOthers_a m_toldVictims_a m_victims_a out_a x_draft_firstRows_a x_draft_rows_a x_faults_count x_faults_touchedWords x_faults_kinds_a x_faults_otherMasks_a x_faults_otherWords_a x_faults_victimMasks_a x_faults_victimWords_a x_march_elements x_march_rowCount x_march_firstRows_a x_march_rows_a x_plan_proven x_plan_solved x_plan_bestRows x_plan_bestColumns x_plan_wrongBits_a x_reader_direction x_reader_operation x_single_count x_single_touchedWords x_single_kinds_a x_single_otherMasks_a x_single_otherWords_a x_single_victimMasks_a x_single_victimWords_a x_tape_length x_tape_units_a x_tester_ports x_tester_groundKind x_tester_failures_count x_tester_failures_parts_a x_tester_memory_latest x_tester_memory_held_a x_tester_scrambled_a x_tester_wordAt_a x_tester_zeroOf_a hfault hmarch hscr hfail hplan htape hport hgr
  have eL : Int32.ofNat L - 5 < nI (2 + 5 * k) ↔ L < 2 + 5 * k + 5 := by
    rw [Int32.lt_iff_toInt_lt, nI_toInt (by omega)]
    have e : (Int32.ofNat L - 5).toInt = (L : Int) - 5 := pk_sub_toInt (a := L) (b := 5) (by omega) (by decide)
    rw [e]; omega
  unfold g_LW_law
  by_cases hend : L < 2 + 5 * k + 5
  · rw [if_pos (eL.mpr hend)]
  · rw [if_neg (fun q => hend (eL.mp q)), inB_nI (by omega) (by omega), if_pos rfl]
    have hp : 2 + 5 * k + 5 ≤ L := by omega
    have hrec := hrec hp
    have hp5 : 2 + 5 * (k + 1) = 2 + 5 * k + 5 := by omega
    rw [hp5] at hrec
    generalize 2 + 5 * k = p at hp hrec ⊢
    generalize xs (Int32.toNatClampNeg (nI p)) &&& 15 = oc
    by_cases o0 : oc = 0
    · rw [if_pos o0]
      exact K_128 hW0 hW hB0 hB hL hp (xs := xs) htape (fun m_tapeSize' m_tape_a' x_tape_length' x_tape_units_a' htape' => hrec m_faults m_told m_ground m_ports m_elements m_tapeSize' m_failedCount m_keeps m_some m_repairedRows m_repairedColumns m_proof m_cells_a m_counts_a m_failed_a m_kinds_a m_newCounts_a m_newOperations_a m_newSorts_a m_operations_a m_others_a m_places_a m_scrambled_a m_sense_a m_sorts_a m_tape_a' m_toldKinds_a m_toldOthers_a m_toldVictims_a m_victims_a out_a x_draft_firstRows_a x_draft_rows_a x_faults_count x_faults_touchedWords x_faults_kinds_a x_faults_otherMasks_a x_faults_otherWords_a x_faults_victimMasks_a x_faults_victimWords_a x_march_elements x_march_rowCount x_march_firstRows_a x_march_rows_a x_plan_proven x_plan_solved x_plan_bestRows x_plan_bestColumns x_plan_wrongBits_a x_reader_direction x_reader_operation x_single_count x_single_touchedWords x_single_kinds_a x_single_otherMasks_a x_single_otherWords_a x_single_victimMasks_a x_single_victimWords_a x_tape_length' x_tape_units_a' x_tester_ports x_tester_groundKind x_tester_failures_count x_tester_failures_parts_a x_tester_memory_latest x_tester_memory_held_a x_tester_scrambled_a x_tester_wordAt_a x_tester_zeroOf_a hfault hmarch hscr hfail hplan htape' hport hgr)
    · rw [if_neg o0]
      by_cases o1 : oc = 1
      · rw [if_pos o1]
        exact K_153 hW0 hW hB0 hB hL hp (xs := xs) htape hmarch (fun m_elements' m_tapeSize' m_counts_a' m_newCounts_a' m_newOperations_a' m_newSorts_a' m_operations_a' m_sorts_a' x_draft_firstRows_a' x_draft_rows_a' x_march_elements' x_march_rowCount' x_march_firstRows_a' x_march_rows_a' x_reader_direction' x_reader_operation' x_tape_length' htape' hmarch' => hrec m_faults m_told m_ground m_ports m_elements' m_tapeSize' m_failedCount m_keeps m_some m_repairedRows m_repairedColumns m_proof m_cells_a m_counts_a' m_failed_a m_kinds_a m_newCounts_a' m_newOperations_a' m_newSorts_a' m_operations_a' m_others_a m_places_a m_scrambled_a m_sense_a m_sorts_a' m_tape_a m_toldKinds_a m_toldOthers_a m_toldVictims_a m_victims_a out_a x_draft_firstRows_a' x_draft_rows_a' x_faults_count x_faults_touchedWords x_faults_kinds_a x_faults_otherMasks_a x_faults_otherWords_a x_faults_victimMasks_a x_faults_victimWords_a x_march_elements' x_march_rowCount' x_march_firstRows_a' x_march_rows_a' x_plan_proven x_plan_solved x_plan_bestRows x_plan_bestColumns x_plan_wrongBits_a x_reader_direction' x_reader_operation' x_single_count x_single_touchedWords x_single_kinds_a x_single_otherMasks_a x_single_otherWords_a x_single_victimMasks_a x_single_victimWords_a x_tape_length' x_tape_units_a x_tester_ports x_tester_groundKind x_tester_failures_count x_tester_failures_parts_a x_tester_memory_latest x_tester_memory_held_a x_tester_scrambled_a x_tester_wordAt_a x_tester_zeroOf_a hfault hmarch' hscr hfail hplan htape' hport hgr)
      · rw [if_neg o1]
        by_cases o2 : oc = 2
        · rw [if_pos o2]
          exact K_166 hW0 hW hB0 hB hL hp (xs := xs) hfault (fun m_told' m_toldKinds_a' m_toldOthers_a' m_toldVictims_a' out_a' x_faults_count' x_faults_touchedWords' x_faults_kinds_a' x_faults_otherMasks_a' x_faults_otherWords_a' x_faults_victimMasks_a' x_faults_victimWords_a' hfault' => hrec m_faults m_told' m_ground m_ports m_elements m_tapeSize m_failedCount m_keeps m_some m_repairedRows m_repairedColumns m_proof m_cells_a m_counts_a m_failed_a m_kinds_a m_newCounts_a m_newOperations_a m_newSorts_a m_operations_a m_others_a m_places_a m_scrambled_a m_sense_a m_sorts_a m_tape_a m_toldKinds_a' m_toldOthers_a' m_toldVictims_a' m_victims_a out_a' x_draft_firstRows_a x_draft_rows_a x_faults_count' x_faults_touchedWords' x_faults_kinds_a' x_faults_otherMasks_a' x_faults_otherWords_a' x_faults_victimMasks_a' x_faults_victimWords_a' x_march_elements x_march_rowCount x_march_firstRows_a x_march_rows_a x_plan_proven x_plan_solved x_plan_bestRows x_plan_bestColumns x_plan_wrongBits_a x_reader_direction x_reader_operation x_single_count x_single_touchedWords x_single_kinds_a x_single_otherMasks_a x_single_otherWords_a x_single_victimMasks_a x_single_victimWords_a x_tape_length x_tape_units_a x_tester_ports x_tester_groundKind x_tester_failures_count x_tester_failures_parts_a x_tester_memory_latest x_tester_memory_held_a x_tester_scrambled_a x_tester_wordAt_a x_tester_zeroOf_a hfault' hmarch hscr hfail hplan htape hport hgr)
        · rw [if_neg o2]
          by_cases o3 : oc = 3
          · rw [if_pos o3]
            exact K_246 hW0 hW hB0 hB hL hp (xs := xs) hfault hmarch hscr hfail hport hgr (fun m_faults' m_failedCount' m_keeps' m_some' m_cells_a' m_failed_a' m_kinds_a' m_others_a' m_places_a' m_sense_a' m_victims_a' out_a' x_tester_failures_count' x_tester_failures_parts_a' x_tester_memory_latest' x_tester_memory_held_a' x_tester_wordAt_a' x_tester_zeroOf_a' hfail' => hrec m_faults' m_told m_ground m_ports m_elements m_tapeSize m_failedCount' m_keeps' m_some' m_repairedRows m_repairedColumns m_proof m_cells_a' m_counts_a m_failed_a' m_kinds_a' m_newCounts_a m_newOperations_a m_newSorts_a m_operations_a m_others_a' m_places_a' m_scrambled_a m_sense_a' m_sorts_a m_tape_a m_toldKinds_a m_toldOthers_a m_toldVictims_a m_victims_a' out_a' x_draft_firstRows_a x_draft_rows_a x_faults_count x_faults_touchedWords x_faults_kinds_a x_faults_otherMasks_a x_faults_otherWords_a x_faults_victimMasks_a x_faults_victimWords_a x_march_elements x_march_rowCount x_march_firstRows_a x_march_rows_a x_plan_proven x_plan_solved x_plan_bestRows x_plan_bestColumns x_plan_wrongBits_a x_reader_direction x_reader_operation x_single_count x_single_touchedWords x_single_kinds_a x_single_otherMasks_a x_single_otherWords_a x_single_victimMasks_a x_single_victimWords_a x_tape_length x_tape_units_a x_tester_ports x_tester_groundKind x_tester_failures_count' x_tester_failures_parts_a' x_tester_memory_latest' x_tester_memory_held_a' x_tester_scrambled_a x_tester_wordAt_a' x_tester_zeroOf_a' hfault hmarch hscr hfail' hplan htape hport hgr)
          · rw [if_neg o3]
            by_cases o4 : oc = 4
            · rw [if_pos o4]
              exact K_302 hW0 hW hB0 hB hL hp (xs := xs) hmarch hscr hfail hport hgr (fun m_faults' m_failedCount' m_keeps' m_some' m_cells_a' m_failed_a' m_kinds_a' m_others_a' m_places_a' m_sense_a' m_victims_a' out_a' x_single_count' x_single_touchedWords' x_single_kinds_a' x_single_otherMasks_a' x_single_otherWords_a' x_single_victimMasks_a' x_single_victimWords_a' x_tester_failures_count' x_tester_failures_parts_a' x_tester_memory_latest' x_tester_memory_held_a' x_tester_wordAt_a' x_tester_zeroOf_a' hfail' => hrec m_faults' m_told m_ground m_ports m_elements m_tapeSize m_failedCount' m_keeps' m_some' m_repairedRows m_repairedColumns m_proof m_cells_a' m_counts_a m_failed_a' m_kinds_a' m_newCounts_a m_newOperations_a m_newSorts_a m_operations_a m_others_a' m_places_a' m_scrambled_a m_sense_a' m_sorts_a m_tape_a m_toldKinds_a m_toldOthers_a m_toldVictims_a m_victims_a' out_a' x_draft_firstRows_a x_draft_rows_a x_faults_count x_faults_touchedWords x_faults_kinds_a x_faults_otherMasks_a x_faults_otherWords_a x_faults_victimMasks_a x_faults_victimWords_a x_march_elements x_march_rowCount x_march_firstRows_a x_march_rows_a x_plan_proven x_plan_solved x_plan_bestRows x_plan_bestColumns x_plan_wrongBits_a x_reader_direction x_reader_operation x_single_count' x_single_touchedWords' x_single_kinds_a' x_single_otherMasks_a' x_single_otherWords_a' x_single_victimMasks_a' x_single_victimWords_a' x_tape_length x_tape_units_a x_tester_ports x_tester_groundKind x_tester_failures_count' x_tester_failures_parts_a' x_tester_memory_latest' x_tester_memory_held_a' x_tester_scrambled_a x_tester_wordAt_a' x_tester_zeroOf_a' hfault hmarch hscr hfail' hplan htape hport hgr)
            · rw [if_neg o4]
              by_cases o5 : oc = 5
              · rw [if_pos o5]
                exact K_369 hW0 hW hB0 hB hL hp (xs := xs) hmarch (fun out_a' => hrec m_faults m_told m_ground m_ports m_elements m_tapeSize m_failedCount m_keeps m_some m_repairedRows m_repairedColumns m_proof m_cells_a m_counts_a m_failed_a m_kinds_a m_newCounts_a m_newOperations_a m_newSorts_a m_operations_a m_others_a m_places_a m_scrambled_a m_sense_a m_sorts_a m_tape_a m_toldKinds_a m_toldOthers_a m_toldVictims_a m_victims_a out_a' x_draft_firstRows_a x_draft_rows_a x_faults_count x_faults_touchedWords x_faults_kinds_a x_faults_otherMasks_a x_faults_otherWords_a x_faults_victimMasks_a x_faults_victimWords_a x_march_elements x_march_rowCount x_march_firstRows_a x_march_rows_a x_plan_proven x_plan_solved x_plan_bestRows x_plan_bestColumns x_plan_wrongBits_a x_reader_direction x_reader_operation x_single_count x_single_touchedWords x_single_kinds_a x_single_otherMasks_a x_single_otherWords_a x_single_victimMasks_a x_single_victimWords_a x_tape_length x_tape_units_a x_tester_ports x_tester_groundKind x_tester_failures_count x_tester_failures_parts_a x_tester_memory_latest x_tester_memory_held_a x_tester_scrambled_a x_tester_wordAt_a x_tester_zeroOf_a hfault hmarch hscr hfail hplan htape hport hgr)
              · rw [if_neg o5]
                by_cases o6 : oc = 6
                · rw [if_pos o6]
                  exact K_425 hW0 hW hB0 hB hL hp (xs := xs) hscr (fun m_scrambled_a' out_a' x_tester_scrambled_a' hscr' => hrec m_faults m_told m_ground m_ports m_elements m_tapeSize m_failedCount m_keeps m_some m_repairedRows m_repairedColumns m_proof m_cells_a m_counts_a m_failed_a m_kinds_a m_newCounts_a m_newOperations_a m_newSorts_a m_operations_a m_others_a m_places_a m_scrambled_a' m_sense_a m_sorts_a m_tape_a m_toldKinds_a m_toldOthers_a m_toldVictims_a m_victims_a out_a' x_draft_firstRows_a x_draft_rows_a x_faults_count x_faults_touchedWords x_faults_kinds_a x_faults_otherMasks_a x_faults_otherWords_a x_faults_victimMasks_a x_faults_victimWords_a x_march_elements x_march_rowCount x_march_firstRows_a x_march_rows_a x_plan_proven x_plan_solved x_plan_bestRows x_plan_bestColumns x_plan_wrongBits_a x_reader_direction x_reader_operation x_single_count x_single_touchedWords x_single_kinds_a x_single_otherMasks_a x_single_otherWords_a x_single_victimMasks_a x_single_victimWords_a x_tape_length x_tape_units_a x_tester_ports x_tester_groundKind x_tester_failures_count x_tester_failures_parts_a x_tester_memory_latest x_tester_memory_held_a x_tester_scrambled_a' x_tester_wordAt_a x_tester_zeroOf_a hfault hmarch hscr' hfail hplan htape hport hgr)
                · rw [if_neg o6]
                  by_cases o7 : oc = 7
                  · rw [if_pos o7]
                    exact K_500 hW0 hW hB0 hB hL hp (xs := xs) hfail (fun out_a' => hrec m_faults m_told m_ground m_ports m_elements m_tapeSize m_failedCount m_keeps m_some m_repairedRows m_repairedColumns m_proof m_cells_a m_counts_a m_failed_a m_kinds_a m_newCounts_a m_newOperations_a m_newSorts_a m_operations_a m_others_a m_places_a m_scrambled_a m_sense_a m_sorts_a m_tape_a m_toldKinds_a m_toldOthers_a m_toldVictims_a m_victims_a out_a' x_draft_firstRows_a x_draft_rows_a x_faults_count x_faults_touchedWords x_faults_kinds_a x_faults_otherMasks_a x_faults_otherWords_a x_faults_victimMasks_a x_faults_victimWords_a x_march_elements x_march_rowCount x_march_firstRows_a x_march_rows_a x_plan_proven x_plan_solved x_plan_bestRows x_plan_bestColumns x_plan_wrongBits_a x_reader_direction x_reader_operation x_single_count x_single_touchedWords x_single_kinds_a x_single_otherMasks_a x_single_otherWords_a x_single_victimMasks_a x_single_victimWords_a x_tape_length x_tape_units_a x_tester_ports x_tester_groundKind x_tester_failures_count x_tester_failures_parts_a x_tester_memory_latest x_tester_memory_held_a x_tester_scrambled_a x_tester_wordAt_a x_tester_zeroOf_a hfault hmarch hscr hfail hplan htape hport hgr)
                  · rw [if_neg o7]
                    by_cases o8 : oc = 8
                    · rw [if_pos o8]
                      exact K_568 hW0 hW hB0 hB hL hp (xs := xs) hfail hplan (fun m_repairedRows' m_repairedColumns' m_proof' out_a' x_plan_proven' x_plan_solved' x_plan_bestRows' x_plan_bestColumns' x_plan_wrongBits_a' hplan' => hrec m_faults m_told m_ground m_ports m_elements m_tapeSize m_failedCount m_keeps m_some m_repairedRows' m_repairedColumns' m_proof' m_cells_a m_counts_a m_failed_a m_kinds_a m_newCounts_a m_newOperations_a m_newSorts_a m_operations_a m_others_a m_places_a m_scrambled_a m_sense_a m_sorts_a m_tape_a m_toldKinds_a m_toldOthers_a m_toldVictims_a m_victims_a out_a' x_draft_firstRows_a x_draft_rows_a x_faults_count x_faults_touchedWords x_faults_kinds_a x_faults_otherMasks_a x_faults_otherWords_a x_faults_victimMasks_a x_faults_victimWords_a x_march_elements x_march_rowCount x_march_firstRows_a x_march_rows_a x_plan_proven' x_plan_solved' x_plan_bestRows' x_plan_bestColumns' x_plan_wrongBits_a' x_reader_direction x_reader_operation x_single_count x_single_touchedWords x_single_kinds_a x_single_otherMasks_a x_single_otherWords_a x_single_victimMasks_a x_single_victimWords_a x_tape_length x_tape_units_a x_tester_ports x_tester_groundKind x_tester_failures_count x_tester_failures_parts_a x_tester_memory_latest x_tester_memory_held_a x_tester_scrambled_a x_tester_wordAt_a x_tester_zeroOf_a hfault hmarch hscr hfail hplan' htape hport hgr)
                    · rw [if_neg o8]
                      by_cases o9 : oc = 9
                      · rw [if_pos o9]
                        exact K_680 hW0 hW hB0 hB hL hp (xs := xs) hplan (fun out_a' => hrec m_faults m_told m_ground m_ports m_elements m_tapeSize m_failedCount m_keeps m_some m_repairedRows m_repairedColumns m_proof m_cells_a m_counts_a m_failed_a m_kinds_a m_newCounts_a m_newOperations_a m_newSorts_a m_operations_a m_others_a m_places_a m_scrambled_a m_sense_a m_sorts_a m_tape_a m_toldKinds_a m_toldOthers_a m_toldVictims_a m_victims_a out_a' x_draft_firstRows_a x_draft_rows_a x_faults_count x_faults_touchedWords x_faults_kinds_a x_faults_otherMasks_a x_faults_otherWords_a x_faults_victimMasks_a x_faults_victimWords_a x_march_elements x_march_rowCount x_march_firstRows_a x_march_rows_a x_plan_proven x_plan_solved x_plan_bestRows x_plan_bestColumns x_plan_wrongBits_a x_reader_direction x_reader_operation x_single_count x_single_touchedWords x_single_kinds_a x_single_otherMasks_a x_single_otherWords_a x_single_victimMasks_a x_single_victimWords_a x_tape_length x_tape_units_a x_tester_ports x_tester_groundKind x_tester_failures_count x_tester_failures_parts_a x_tester_memory_latest x_tester_memory_held_a x_tester_scrambled_a x_tester_wordAt_a x_tester_zeroOf_a hfault hmarch hscr hfail hplan htape hport hgr)
                      · rw [if_neg o9]
                        by_cases o10 : oc = 10
                        · rw [if_pos o10]
                          exact K_748 hW0 hW hB0 hB hL hp (xs := xs) hplan (hrec m_faults m_told m_ground m_ports m_elements m_tapeSize m_failedCount m_keeps m_some m_repairedRows m_repairedColumns m_proof m_cells_a m_counts_a m_failed_a m_kinds_a m_newCounts_a m_newOperations_a m_newSorts_a m_operations_a m_others_a m_places_a m_scrambled_a m_sense_a m_sorts_a m_tape_a m_toldKinds_a m_toldOthers_a m_toldVictims_a m_victims_a out_a x_draft_firstRows_a x_draft_rows_a x_faults_count x_faults_touchedWords x_faults_kinds_a x_faults_otherMasks_a x_faults_otherWords_a x_faults_victimMasks_a x_faults_victimWords_a x_march_elements x_march_rowCount x_march_firstRows_a x_march_rows_a x_plan_proven x_plan_solved x_plan_bestRows x_plan_bestColumns x_plan_wrongBits_a x_reader_direction x_reader_operation x_single_count x_single_touchedWords x_single_kinds_a x_single_otherMasks_a x_single_otherWords_a x_single_victimMasks_a x_single_victimWords_a x_tape_length x_tape_units_a x_tester_ports x_tester_groundKind x_tester_failures_count x_tester_failures_parts_a x_tester_memory_latest x_tester_memory_held_a x_tester_scrambled_a x_tester_wordAt_a x_tester_zeroOf_a hfault hmarch hscr hfail hplan htape hport hgr)
                        · rw [if_neg o10]
                          by_cases o11 : oc = 11
                          · rw [if_pos o11]
                            exact K_761 hW0 hW hB0 hB hL hp (xs := xs) hplan (fun out_a' => hrec m_faults m_told m_ground m_ports m_elements m_tapeSize m_failedCount m_keeps m_some m_repairedRows m_repairedColumns m_proof m_cells_a m_counts_a m_failed_a m_kinds_a m_newCounts_a m_newOperations_a m_newSorts_a m_operations_a m_others_a m_places_a m_scrambled_a m_sense_a m_sorts_a m_tape_a m_toldKinds_a m_toldOthers_a m_toldVictims_a m_victims_a out_a' x_draft_firstRows_a x_draft_rows_a x_faults_count x_faults_touchedWords x_faults_kinds_a x_faults_otherMasks_a x_faults_otherWords_a x_faults_victimMasks_a x_faults_victimWords_a x_march_elements x_march_rowCount x_march_firstRows_a x_march_rows_a x_plan_proven x_plan_solved x_plan_bestRows x_plan_bestColumns x_plan_wrongBits_a x_reader_direction x_reader_operation x_single_count x_single_touchedWords x_single_kinds_a x_single_otherMasks_a x_single_otherWords_a x_single_victimMasks_a x_single_victimWords_a x_tape_length x_tape_units_a x_tester_ports x_tester_groundKind x_tester_failures_count x_tester_failures_parts_a x_tester_memory_latest x_tester_memory_held_a x_tester_scrambled_a x_tester_wordAt_a x_tester_zeroOf_a hfault hmarch hscr hfail hplan htape hport hgr)
                          · rw [if_neg o11]
                            by_cases o12 : oc = 12
                            · rw [if_pos o12]
                              exact K_817 hW0 hW hB0 hB hL hp (xs := xs) hport (fun m_ports' out_a' x_tester_ports' hport' => hrec m_faults m_told m_ground m_ports' m_elements m_tapeSize m_failedCount m_keeps m_some m_repairedRows m_repairedColumns m_proof m_cells_a m_counts_a m_failed_a m_kinds_a m_newCounts_a m_newOperations_a m_newSorts_a m_operations_a m_others_a m_places_a m_scrambled_a m_sense_a m_sorts_a m_tape_a m_toldKinds_a m_toldOthers_a m_toldVictims_a m_victims_a out_a' x_draft_firstRows_a x_draft_rows_a x_faults_count x_faults_touchedWords x_faults_kinds_a x_faults_otherMasks_a x_faults_otherWords_a x_faults_victimMasks_a x_faults_victimWords_a x_march_elements x_march_rowCount x_march_firstRows_a x_march_rows_a x_plan_proven x_plan_solved x_plan_bestRows x_plan_bestColumns x_plan_wrongBits_a x_reader_direction x_reader_operation x_single_count x_single_touchedWords x_single_kinds_a x_single_otherMasks_a x_single_otherWords_a x_single_victimMasks_a x_single_victimWords_a x_tape_length x_tape_units_a x_tester_ports' x_tester_groundKind x_tester_failures_count x_tester_failures_parts_a x_tester_memory_latest x_tester_memory_held_a x_tester_scrambled_a x_tester_wordAt_a x_tester_zeroOf_a hfault hmarch hscr hfail hplan htape hport' hgr)
                            · rw [if_neg o12]
                              by_cases o13 : oc = 13
                              · rw [if_pos o13]
                                exact K_873 hW0 hW hB0 hB hL hp (xs := xs) hgr (fun m_ground' out_a' x_tester_groundKind' hgr' => hrec m_faults m_told m_ground' m_ports m_elements m_tapeSize m_failedCount m_keeps m_some m_repairedRows m_repairedColumns m_proof m_cells_a m_counts_a m_failed_a m_kinds_a m_newCounts_a m_newOperations_a m_newSorts_a m_operations_a m_others_a m_places_a m_scrambled_a m_sense_a m_sorts_a m_tape_a m_toldKinds_a m_toldOthers_a m_toldVictims_a m_victims_a out_a' x_draft_firstRows_a x_draft_rows_a x_faults_count x_faults_touchedWords x_faults_kinds_a x_faults_otherMasks_a x_faults_otherWords_a x_faults_victimMasks_a x_faults_victimWords_a x_march_elements x_march_rowCount x_march_firstRows_a x_march_rows_a x_plan_proven x_plan_solved x_plan_bestRows x_plan_bestColumns x_plan_wrongBits_a x_reader_direction x_reader_operation x_single_count x_single_touchedWords x_single_kinds_a x_single_otherMasks_a x_single_otherWords_a x_single_victimMasks_a x_single_victimWords_a x_tape_length x_tape_units_a x_tester_ports x_tester_groundKind' x_tester_failures_count x_tester_failures_parts_a x_tester_memory_latest x_tester_memory_held_a x_tester_scrambled_a x_tester_wordAt_a x_tester_zeroOf_a hfault hmarch hscr hfail hplan htape hport hgr')
                              · rw [if_neg o13]
                                rw [show nI p + 5 = nI (p + 5) from nI_add p 5]
                                exact hrec m_faults m_told m_ground m_ports m_elements m_tapeSize m_failedCount m_keeps m_some m_repairedRows m_repairedColumns m_proof m_cells_a m_counts_a m_failed_a m_kinds_a m_newCounts_a m_newOperations_a m_newSorts_a m_operations_a m_others_a m_places_a m_scrambled_a m_sense_a m_sorts_a m_tape_a m_toldKinds_a m_toldOthers_a m_toldVictims_a m_victims_a out_a x_draft_firstRows_a x_draft_rows_a x_faults_count x_faults_touchedWords x_faults_kinds_a x_faults_otherMasks_a x_faults_otherWords_a x_faults_victimMasks_a x_faults_victimWords_a x_march_elements x_march_rowCount x_march_firstRows_a x_march_rows_a x_plan_proven x_plan_solved x_plan_bestRows x_plan_bestColumns x_plan_wrongBits_a x_reader_direction x_reader_operation x_single_count x_single_touchedWords x_single_kinds_a x_single_otherMasks_a x_single_otherWords_a x_single_victimMasks_a x_single_victimWords_a x_tape_length x_tape_units_a x_tester_ports x_tester_groundKind x_tester_failures_count x_tester_failures_parts_a x_tester_memory_latest x_tester_memory_held_a x_tester_scrambled_a x_tester_wordAt_a x_tester_zeroOf_a hfault hmarch hscr hfail hplan htape hport hgr
theorem law_loop {W B L : Nat} (hW0 : 0 < W) (hW : W ≤ 16) (hB0 : 0 < B) (hB : B ≤ 4) (hL : L ≤ 2562) {xs : Nat → Int32} : ∀ (f k : Nat), k ≤ 600 → 0 < f → L < 2 + 5 * k + 5 * f → ∀ (m_faults : Int32) (m_told : Int32) (m_ground : Int32) (m_ports : Int32) (m_elements : Int32) (m_tapeSize : Int32) (m_failedCount : Int32) (m_keeps : Int32) (m_some : Int32) (m_repairedRows : Int32) (m_repairedColumns : Int32) (m_proof : Int32) (m_cells_a : Nat → Int32) (m_counts_a : Nat → Int32) (m_failed_a : Nat → Int32) (m_kinds_a : Nat → Int32) (m_newCounts_a : Nat → Int32) (m_newOperations_a : Nat → Int32) (m_newSorts_a : Nat → Int32) (m_operations_a : Nat → Int32) (m_others_a : Nat → Int32) (m_places_a : Nat → Int32) (m_scrambled_a : Nat → Int32) (m_sense_a : Nat → Int32) (m_sorts_a : Nat → Int32) (m_tape_a : Nat → Int32) (m_toldKinds_a : Nat → Int32) (m_toldOthers_a : Nat → Int32) (m_toldVictims_a : Nat → Int32) (m_victims_a : Nat → Int32) (out_a : Nat → Int64) (x_draft_firstRows_a : Nat → Int32) (x_draft_rows_a : Nat → Int32) (x_faults_count : Int32) (x_faults_touchedWords : Int32) (x_faults_kinds_a : Nat → Int32) (x_faults_otherMasks_a : Nat → Int32) (x_faults_otherWords_a : Nat → Int32) (x_faults_victimMasks_a : Nat → Int32) (x_faults_victimWords_a : Nat → Int32) (x_march_elements : Int32) (x_march_rowCount : Int32) (x_march_firstRows_a : Nat → Int32) (x_march_rows_a : Nat → Int32) (x_plan_proven : Int32) (x_plan_solved : Int32) (x_plan_bestRows : Int32) (x_plan_bestColumns : Int32) (x_plan_wrongBits_a : Nat → Int32) (x_reader_direction : Int32) (x_reader_operation : Int32) (x_single_count : Int32) (x_single_touchedWords : Int32) (x_single_kinds_a : Nat → Int32) (x_single_otherMasks_a : Nat → Int32) (x_single_otherWords_a : Nat → Int32) (x_single_victimMasks_a : Nat → Int32) (x_single_victimWords_a : Nat → Int32) (x_tape_length : Int32) (x_tape_units_a : Nat → Int32) (x_tester_ports : Int32) (x_tester_groundKind : Int32) (x_tester_failures_count : Int32) (x_tester_failures_parts_a : Nat → Int32) (x_tester_memory_latest : Int32) (x_tester_memory_held_a : Nat → Int32) (x_tester_scrambled_a : Nat → Int32) (x_tester_wordAt_a : Nat → Int32) (x_tester_zeroOf_a : Nat → Int32), faultI W B x_faults_count x_faults_touchedWords x_faults_kinds_a x_faults_victimWords_a x_faults_victimMasks_a x_faults_otherWords_a x_faults_otherMasks_a m_told m_toldKinds_a m_toldVictims_a m_toldOthers_a → marchI x_march_elements x_march_rowCount x_march_firstRows_a x_march_rows_a m_elements m_sorts_a m_counts_a m_operations_a → scrI W x_tester_scrambled_a m_scrambled_a → failI W B x_tester_failures_count x_tester_failures_parts_a m_failedCount m_failed_a → planI W B x_plan_proven x_plan_bestRows x_plan_bestColumns m_repairedRows m_repairedColumns m_proof → tapeI x_tape_length x_tape_units_a m_tapeSize m_tape_a → portI x_tester_ports m_ports → grI x_tester_groundKind m_ground → lp_LW_law 64 16 1200 4 16 128 16 128 4 16 16 4 16 400 4 4 4 4 1 4 4 4 4 4 W 4 4 4 4 4 400 1200 W W W W (nI W) (nI B) (nI W) (nI (W * B)) (nI B) (nI (W + B)) (nI W) (nI (2 ^ B)) (nI B) (nI W) (nI (2 ^ B - 1)) (nI W) (nI B) L xs f 17 128 17 128 m_faults m_told m_ground m_ports m_elements m_tapeSize m_failedCount m_keeps m_some m_repairedRows m_repairedColumns m_proof m_cells_a m_counts_a m_failed_a m_kinds_a m_newCounts_a m_newOperations_a m_newSorts_a m_operations_a m_others_a m_places_a m_scrambled_a m_sense_a m_sorts_a m_tape_a m_toldKinds_a m_toldOthers_a m_toldVictims_a m_victims_a out_a x_draft_firstRows_a x_draft_rows_a x_faults_count x_faults_touchedWords x_faults_kinds_a x_faults_otherMasks_a x_faults_otherWords_a x_faults_victimMasks_a x_faults_victimWords_a x_march_elements x_march_rowCount x_march_firstRows_a x_march_rows_a x_plan_proven x_plan_solved x_plan_bestRows x_plan_bestColumns x_plan_wrongBits_a x_reader_direction x_reader_operation x_single_count x_single_touchedWords x_single_kinds_a x_single_otherMasks_a x_single_otherWords_a x_single_victimMasks_a x_single_victimWords_a x_tape_length x_tape_units_a x_tester_ports x_tester_groundKind x_tester_failures_count x_tester_failures_parts_a x_tester_memory_latest x_tester_memory_held_a x_tester_scrambled_a x_tester_wordAt_a x_tester_zeroOf_a (nI (2 + 5 * k)) = some 1 := by
  intro f
  induction f with
  | zero => intro k h1 h0; omega
  | succ f ih =>
    intro k h1 h0 h2 m_faults m_told m_ground m_ports m_elements m_tapeSize m_failedCount m_keeps m_some m_repairedRows m_repairedColumns m_proof m_cells_a m_counts_a m_failed_a m_kinds_a m_newCounts_a m_newOperations_a m_newSorts_a m_operations_a m_others_a m_places_a m_scrambled_a m_sense_a m_sorts_a m_tape_a m_toldKinds_a m_toldOthers_a m_toldVictims_a m_victims_a out_a x_draft_firstRows_a x_draft_rows_a x_faults_count x_faults_touchedWords x_faults_kinds_a x_faults_otherMasks_a x_faults_otherWords_a x_faults_victimMasks_a x_faults_victimWords_a x_march_elements x_march_rowCount x_march_firstRows_a x_march_rows_a x_plan_proven x_plan_solved x_plan_bestRows x_plan_bestColumns x_plan_wrongBits_a x_reader_direction x_reader_operation x_single_count x_single_touchedWords x_single_kinds_a x_single_otherMasks_a x_single_otherWords_a x_single_victimMasks_a x_single_victimWords_a x_tape_length x_tape_units_a x_tester_ports x_tester_groundKind x_tester_failures_count x_tester_failures_parts_a x_tester_memory_latest x_tester_memory_held_a x_tester_scrambled_a x_tester_wordAt_a x_tester_zeroOf_a hfault hmarch hscr hfail hplan htape hport hgr
    exact law_step hW0 hW hB0 hB hL (by omega) _ (fun hp => ih (k + 1) (by omega) (by omega) (by omega)) m_faults m_told m_ground m_ports m_elements m_tapeSize m_failedCount m_keeps m_some m_repairedRows m_repairedColumns m_proof m_cells_a m_counts_a m_failed_a m_kinds_a m_newCounts_a m_newOperations_a m_newSorts_a m_operations_a m_others_a m_places_a m_scrambled_a m_sense_a m_sorts_a m_tape_a m_toldKinds_a m_toldOthers_a m_toldVictims_a m_victims_a out_a x_draft_firstRows_a x_draft_rows_a x_faults_count x_faults_touchedWords x_faults_kinds_a x_faults_otherMasks_a x_faults_otherWords_a x_faults_victimMasks_a x_faults_victimWords_a x_march_elements x_march_rowCount x_march_firstRows_a x_march_rows_a x_plan_proven x_plan_solved x_plan_bestRows x_plan_bestColumns x_plan_wrongBits_a x_reader_direction x_reader_operation x_single_count x_single_touchedWords x_single_kinds_a x_single_otherMasks_a x_single_otherWords_a x_single_victimMasks_a x_single_victimWords_a x_tape_length x_tape_units_a x_tester_ports x_tester_groundKind x_tester_failures_count x_tester_failures_parts_a x_tester_memory_latest x_tester_memory_held_a x_tester_scrambled_a x_tester_wordAt_a x_tester_zeroOf_a hfault hmarch hscr hfail hplan htape hport hgr
