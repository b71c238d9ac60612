theorem mx {W : Nat} (h : 1 ≤ W) (h2 : W < 2 ^ 31) : (if 1 < nI W then nI W else 1) = nI W := by
  by_cases q : 1 < W
  · rw [if_pos ((nI_gtL h2 (by decide)).mpr q)]
  · rw [if_neg (fun r => q ((nI_gtL h2 (by decide)).mp r)), show W = 1 by omega]; rfl
theorem clamp_both (x : Int32) (m : Nat) (hm : 1 ≤ m ∧ m ≤ 16) : ∃ W, 1 ≤ W ∧ W ≤ m ∧ (if 1 < (if x < nI m then x else nI m) then (if x < nI m then x else nI m) else 1) = nI W ∧ ∀ (α : Type) (f : Int32 → α), (if 1 ≤ x then (if x ≤ nI m then f x else f (nI m)) else f 1) = f (nI W) := by
  by_cases h : 1 ≤ x
  · have h0 : ¬ x < 0 := by
      intro q
      rw [Int32.lt_iff_toInt_lt] at q
      rw [Int32.le_iff_toInt_le] at h
      have : (0 : Int32).toInt = 0 := by decide
      have : (1 : Int32).toInt = 1 := by decide
      omega
    obtain ⟨j, hj, rfl⟩ := nI_of h0
    have hj1 : 1 ≤ j := (nI_geL hj (by decide)).mp h
    by_cases q : j < m
    · refine ⟨j, hj1, by omega, ?_, fun α f => ?_⟩
      · rw [if_pos ((nI_ltI hj (by omega)).mpr q)]; exact mx hj1 hj
      · rw [if_pos h, if_pos ((nI_leI hj (by omega)).mpr (by omega))]
    · refine ⟨m, by omega, Nat.le_refl _, ?_, fun α f => ?_⟩
      · rw [if_neg (fun r => q ((nI_ltI hj (by omega)).mp r))]; exact mx (by omega) (by omega)
      · rw [if_pos h]
        by_cases r : j ≤ m
        · rw [if_pos ((nI_leI hj (by omega)).mpr r), show j = m by omega]
        · rw [if_neg (fun s => r ((nI_leI hj (by omega)).mp s))]
  · refine ⟨1, by omega, hm.1, ?_, fun α f => ?_⟩
    · have hx : x.toInt ≤ 0 := by
        rw [Int32.le_iff_toInt_le] at h
        have : (1 : Int32).toInt = 1 := by decide
        omega
      have hlt : x < nI m := by
        rw [Int32.lt_iff_toInt_lt, nI_toInt (by omega)]; omega
      rw [if_pos hlt, if_neg]
      · rfl
      · intro q
        rw [Int32.lt_iff_toInt_lt] at q
        have : (1 : Int32).toInt = 1 := by decide
        omega
    · rw [if_neg h]; rfl
theorem lenB_nI {W n : Nat} (h : W ≤ n) (h2 : W < 2 ^ 31) : lenB (nI W) n = true := by
  unfold lenB
  have h1 := nI_pos h2
  rw [nI_clamp h2]
  simp only [h1, h, not_false_eq_true, decide_true, Bool.and_self]
theorem t_init {W B : Nat} (hW0 : 1 ≤ W) (hW : W ≤ 16) (hB0 : 1 ≤ B) (hB : B ≤ 4) : ∃ scr, SC W id scr ∧ f_Tester_init (nI W) (nI B) = some (1, nI W, nI (2 ^ B - 1), nI W, nI B, 0, W, (fun _ => 0), 0, 0, nI B, (fun _ => 0), (fun _ => 0), (fun _ => 0), (fun _ => 0), (fun _ => 0), 0, (fun _ => 0), W, scr, W, (fun _ => 0), W, (fun _ => 0)) := by
  have p2 := p4 hB
  have p0 := Nat.two_pow_pos B
  have es : (1 : Int32) <<< (nI B &&& 31) = nI (2 ^ B) := shl_bit _ (by omega)
  have es1 : nI (2 ^ B) - 1 = nI (2 ^ B - 1) := pk_sub (b := 1) (by omega)
  unfold f_Tester_init f_Memory_init f_Failures_init f_FaultList_init
  rw [mx hW0 (by omega), mx hW0 (by omega), mx hB0 (by omega), lenB_nI hW (by omega), if_pos rfl, Option.bind_some, Option.bind_some, Option.bind_some, if_pos rfl, if_pos rfl, if_pos rfl, nI_clamp (by omega), es, es1]
  refine lp_Q (I := fun i (s : (Nat → Int32) × Int32) => s.2 = nI i ∧ ∀ x, x < i → s.1 x = nI x) W (fun (r : Option (Int32 × Int32 × Int32 × Int32 × Int32 × Int32 × Nat × (Nat → Int32) × Int32 × Int32 × Int32 × (Nat → Int32) × (Nat → Int32) × (Nat → Int32) × (Nat → Int32) × (Nat → Int32) × Int32 × (Nat → Int32) × Nat × (Nat → Int32) × Nat × (Nat → Int32) × Nat × (Nat → Int32))) => ∃ scr, SC W id scr ∧ r = some (1, nI W, nI (2 ^ B - 1), nI W, nI B, 0, W, (fun _ => 0), 0, 0, nI B, (fun _ => 0), (fun _ => 0), (fun _ => 0), (fun _ => 0), (fun _ => 0), 0, (fun _ => 0), W, scr, W, (fun _ => 0), W, (fun _ => 0))) ?_ ?_ 100000 0 ((fun _ => 0), 0) (Nat.zero_le _) (by omega) ⟨rfl, fun x h => by omega⟩
  · rintro i ⟨a, b⟩ rec hi ⟨hb, ha⟩
    dsimp only at hb ha
    subst hb
    left
    refine ⟨(upd a i (nI i), nI (i + 1)), ⟨rfl, fun x hx => ?_⟩, ?_⟩
    · show upd a i (nI i) x = nI x
      by_cases q : x = i
      · rw [q, upd_s]
      · rw [upd_n q]; exact ha x (by omega)
    · unfold g_Tester_init_86
      (have o_0 : ¬ W ≤ i := (by omega); simp +decide (disch := first | omega | decide) only [↓reduceIte, Option.bind_some, nI_clamp, inB_nI, inB_z, cl_z, nI_eqL, nI_leL, nI_ltL, nI_geL, nI_gtL, nI_leI, nI_ltI, nI_eq, nI_1, nI_addL, nI_add, o_0])
  · rintro ⟨a, b⟩ rec ⟨hb, ha⟩
    dsimp only at hb ha
    subst hb
    refine ⟨a, fun x hx => ⟨hx, ha x hx⟩, ?_⟩
    unfold g_Tester_init_86
    simp +decide (disch := first | omega | decide) only [↓reduceIte, Option.bind_some, nI_clamp, inB_nI, inB_z, cl_z, nI_eqL, nI_leL, nI_ltL, nI_geL, nI_gtL, nI_leI, nI_ltI, nI_eq, nI_1, nI_addL, nI_add, Nat.le_refl]
theorem rf_init {W B : Nat} (hW0 : 1 ≤ W) (hW : W ≤ 16) (hB0 : 1 ≤ B) (hB : B ≤ 4) : ∃ scr, SC W id scr ∧ f_RF_init_190 (fun _ => 0) (fun _ => 0) (fun _ => 0) (fun _ => 0) (fun _ => 0) (fun _ => 0) (fun _ => 0) (fun _ => 0) (fun _ => 0) (fun _ => 0) (fun _ => 0) (fun _ => 0) (fun _ => 0) (fun _ => 0) (fun _ => 0) (fun _ => 0) (fun _ => 0) (fun _ => 0) (nI B) (nI W) = some (nI W, nI B, 1, (fun _ => 0), (fun _ => 0), (fun _ => 0), (fun _ => 0), (fun _ => 0), (fun _ => 0), (fun _ => 0), (fun _ => 0), scr, (fun _ => 0), (fun _ => 0), (fun _ => 0), (fun _ => 0), (fun _ => 0), (fun _ => 0), (fun _ => 0), (fun _ => 0), (fun _ => 0)) := by
  unfold f_RF_init_190
  refine lp_Q (I := fun i (s : (Nat → Int32) × Int32) => s.2 = nI i ∧ ∀ x, x < i → s.1 x = nI x) 16 (fun (r : Option (Int32 × Int32 × Int32 × (Nat → Int32) × (Nat → Int32) × (Nat → Int32) × (Nat → Int32) × (Nat → Int32) × (Nat → Int32) × (Nat → Int32) × (Nat → Int32) × (Nat → Int32) × (Nat → Int32) × (Nat → Int32) × (Nat → Int32) × (Nat → Int32) × (Nat → Int32) × (Nat → Int32) × (Nat → Int32) × (Nat → Int32) × (Nat → Int32))) => ∃ scr, SC W id scr ∧ r = some (nI W, nI B, 1, (fun _ => 0), (fun _ => 0), (fun _ => 0), (fun _ => 0), (fun _ => 0), (fun _ => 0), (fun _ => 0), (fun _ => 0), scr, (fun _ => 0), (fun _ => 0), (fun _ => 0), (fun _ => 0), (fun _ => 0), (fun _ => 0), (fun _ => 0), (fun _ => 0), (fun _ => 0))) ?_ ?_ 100000 0 ((fun _ => 0), 0) (Nat.zero_le _) (by omega) ⟨rfl, fun x h => by omega⟩
  · rintro i ⟨a, b⟩ rec hi ⟨hb, ha⟩
    dsimp only at hb ha
    subst hb
    left
    refine ⟨(upd a i (nI i), nI (i + 1)), ⟨rfl, fun x hx => ?_⟩, ?_⟩
    · show upd a i (nI i) x = nI x
      by_cases q : x = i
      · rw [q, upd_s]
      · rw [upd_n q]; exact ha x (by omega)
    · unfold g_RF_init_200
      (have o_0 : ¬ 16 ≤ i := (by omega); simp +decide (disch := first | omega | decide) only [↓reduceIte, Option.bind_some, nI_clamp, inB_nI, inB_z, cl_z, nI_eqL, nI_leL, nI_ltL, nI_geL, nI_gtL, nI_leI, nI_ltI, nI_eq, nI_1, nI_addL, nI_add, o_0])
  · rintro ⟨a, b⟩ rec ⟨hb, ha⟩
    dsimp only at hb ha
    subst hb
    refine ⟨a, fun x hx => ⟨hx, ha x (by omega)⟩, ?_⟩
    unfold g_RF_init_200
    simp +decide (disch := first | omega | decide) only [↓reduceIte, Option.bind_some, nI_clamp, inB_nI, inB_z, cl_z, nI_eqL, nI_leL, nI_ltL, nI_geL, nI_gtL, nI_leI, nI_ltI, nI_eq, nI_1, nI_addL, nI_add, Nat.le_refl]
theorem mt_init {x y : Int32} {W B : Nat} (hW0 : 1 ≤ W) (hW : W ≤ 16) (hB0 : 1 ≤ B) (hB : B ≤ 4) (w1 : (if 1 < (if x < 16 then x else 16) then (if x < 16 then x else 16) else 1) = nI W) (c1 : (if 1 < (if y < 4 then y else 4) then (if y < 4 then y else 4) else 1) = nI B) : ∃ scr, SC W id scr ∧ f_MT_init x y = some (nI W, nI (W * B), 0, (fun _ => 0), 0, 0, 0, 0, 0, nI B, (fun _ => 0), (fun _ => 0), (fun _ => 0), (fun _ => 0), (fun _ => 0), 0, 0, nI B, (fun _ => 0), (fun _ => 0), (fun _ => 0), (fun _ => 0), (fun _ => 0), 1, 0, nI W, nI (2 ^ B - 1), nI W, nI B, 0, W, (fun _ => 0), 0, 0, nI B, (fun _ => 0), (fun _ => 0), (fun _ => 0), (fun _ => 0), (fun _ => 0), 0, (fun _ => 0), W, scr, W, (fun _ => 0), W, (fun _ => 0), nI (W + B), 0, nI W, nI (2 ^ B), 0, 0, 0, W, (fun _ => 0), 0, 0, (fun _ => 0), (fun _ => 0), 0, 0, (fun _ => 0), (fun _ => 0)) := by
  obtain ⟨scr, s1, s2⟩ := t_init hW0 hW hB0 hB
  have eP : f_RepairPlan_init (nI W) (nI B) = some (nI (W + B), nI W, nI (2 ^ B), W, (fun _ => 0)) := by
    unfold f_RepairPlan_init
    rw [mx hW0 (by omega), lenB_nI hW (by omega), if_pos rfl, nI_add, nI_clamp (by omega), shl_bit _ (by omega)]
  have eF : f_FaultList_init (nI B) = some (nI B, (fun _ => 0), (fun _ => 0), (fun _ => 0), (fun _ => 0), (fun _ => 0)) := by
    unfold f_FaultList_init
    rw [mx hB0 (by omega)]
  refine ⟨scr, s1, ?_⟩
  unfold f_MT_init f_Tape_init f_TextReader_init f_March_init
  rw [w1, c1, eF, s2, eP, show nI W * nI B = nI (W * B) from pk_mul W B]
  rfl
set_option maxHeartbeats 8000000 in
theorem law_pure (L : Nat) (xs : Nat → Int32) (hL : L ≤ 2562) : f_LW_law L xs = some 1 := by
  unfold f_LW_law
  generalize cellX L xs 0 = x
  generalize cellX L xs 1 = y
  obtain ⟨W, hW0, hW, w1, w2⟩ := clamp_both x 16 (by decide)
  obtain ⟨B, hB0, hB, c1, c2⟩ := clamp_both y 4 (by decide)
  obtain ⟨scr', r1, r2⟩ := rf_init hW0 hW hB0 hB
  have eR : f_RF_init x y = some (nI W, nI B, 1, (fun _ => 0), (fun _ => 0), (fun _ => 0), (fun _ => 0), (fun _ => 0), (fun _ => 0), (fun _ => 0), (fun _ => 0), scr', (fun _ => 0), (fun _ => 0), (fun _ => 0), (fun _ => 0), (fun _ => 0), (fun _ => 0), (fun _ => 0), (fun _ => 0), (fun _ => 0)) := by
    unfold f_RF_init f_RF_init_167
    have d1 := c2 _ (fun b => f_RF_init_190 (fun _ => 0) (fun _ => 0) (fun _ => 0) (fun _ => 0) (fun _ => 0) (fun _ => 0) (fun _ => 0) (fun _ => 0) (fun _ => 0) (fun _ => 0) (fun _ => 0) (fun _ => 0) (fun _ => 0) (fun _ => 0) (fun _ => 0) (fun _ => 0) (fun _ => 0) (fun _ => 0) b (nI W))
    have d2 := w2 _ (fun w => if 1 ≤ y then if y ≤ nI 4 then f_RF_init_190 (fun _ => 0) (fun _ => 0) (fun _ => 0) (fun _ => 0) (fun _ => 0) (fun _ => 0) (fun _ => 0) (fun _ => 0) (fun _ => 0) (fun _ => 0) (fun _ => 0) (fun _ => 0) (fun _ => 0) (fun _ => 0) (fun _ => 0) (fun _ => 0) (fun _ => 0) (fun _ => 0) y w else f_RF_init_190 (fun _ => 0) (fun _ => 0) (fun _ => 0) (fun _ => 0) (fun _ => 0) (fun _ => 0) (fun _ => 0) (fun _ => 0) (fun _ => 0) (fun _ => 0) (fun _ => 0) (fun _ => 0) (fun _ => 0) (fun _ => 0) (fun _ => 0) (fun _ => 0) (fun _ => 0) (fun _ => 0) (nI 4) w else f_RF_init_190 (fun _ => 0) (fun _ => 0) (fun _ => 0) (fun _ => 0) (fun _ => 0) (fun _ => 0) (fun _ => 0) (fun _ => 0) (fun _ => 0) (fun _ => 0) (fun _ => 0) (fun _ => 0) (fun _ => 0) (fun _ => 0) (fun _ => 0) (fun _ => 0) (fun _ => 0) (fun _ => 0) 1 w)
    exact d2.trans (d1.trans r2)
  have w1' : (if 1 < (if x < 16 then x else 16) then (if x < 16 then x else 16) else 1) = nI W := w1
  have c1' : (if 1 < (if y < 4 then y else 4) then (if y < 4 then y else 4) else 1) = nI B := c1
  obtain ⟨scr, s1, eM⟩ := mt_init hW0 hW hB0 hB w1' c1'
  rw [eM, Option.bind_some, eR, Option.bind_some]
  have hf : faultI W B 0 0 (fun _ => 0) (fun _ => 0) (fun _ => 0) (fun _ => 0) (fun _ => 0) 0 (fun _ => 0) (fun _ => 0) (fun _ => 0) := ⟨FZ, FZ_ok, FZ_X, FZ_M⟩
  have hm : marchI 0 0 (fun _ => 0) (fun _ => 0) 0 (fun _ => 0) (fun _ => 0) (fun _ => 0) := by
    refine ⟨a0, ⟨by decide, fun e he => absurd he (Nat.not_lt_zero e)⟩, ⟨rfl, rfl, fun e he => ?_, fun e he => absurd he (Nat.not_lt_zero e)⟩, rfl, fun e he => absurd he (Nat.not_lt_zero e)⟩
    have he' : e ≤ 0 := he
    rw [show e = 0 by omega]; rfl
  have hfl : failI W B 0 (fun _ => 0) 0 (fun _ => 0) := ⟨[], ⟨rfl, fun k x h => by simp at h⟩, ⟨rfl, fun k x h => by simp at h⟩, fun x hx => by cases hx⟩
  have hfu : 600 < 100000 := by decide
  revert hfu
  generalize (100000 : Nat) = fu
  intro hfu
  exact law_loop (by omega) hW (by omega) hB hL fu 0 (by omega) (by omega) (by omega) _ _ _ _ _ _ _ _ _ _ _ _ _ _ _ _ _ _ _ _ _ _ _ _ _ _ _ _ _ _ _ _ _ _ _ _ _ _ _ _ _ _ _ _ _ _ _ _ _ _ _ _ _ _ _ _ _ _ _ _ _ _ _ _ _ _ _ _ _ hf hm ⟨id, s1, r1⟩ hfl (planI_0 (v := false)) tapeI_0 ⟨1, by decide, rfl, rfl⟩ ⟨0, by decide, rfl, rfl⟩
