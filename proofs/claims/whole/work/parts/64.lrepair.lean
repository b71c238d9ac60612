theorem planI_0 {W B : Nat} {v : Bool} : planI W B (b2 v) 0 0 0 0 (b2 v) := ⟨0, 0, v, Nat.two_pow_pos W, Nat.two_pow_pos B, rfl, rfl, rfl, rfl, rfl, rfl⟩
theorem r_words {W B : Nat} {fl : List Fail} (hW : W ≤ 16) (hg : ∀ x ∈ fl, goodF W B x) {mf : Nat → Int32} (h : FA (nI (min fl.length 300)) mf fl) {r c : Int32} {s : Int64} :
    ∃ D, D < 2 ^ W ∧ (∀ w, D.testBit w = true ↔ ∃ b, Pn fl (min fl.length 300) w b) ∧ lp (g_RF_repair_60 1200 0 (nI W) (nI (min fl.length 300)) 0 0 mf r c s) 100000 (0, 0) = (if 0 < lg_cmp (Int32.toInt64 (nI (pc D 16))) s then f_RF_repair_110 1200 0 (nI W) (nI (min fl.length 300)) 0 0 mf 0 r c else f_RF_repair_110 1200 0 (nI W) (nI (min fl.length 300)) 0 0 mf 1 r c) := by
  have p1 := p16 hW
  have hx := h.2
  refine lp_Q (I := fun k (st : Int32 × Int32) => st.2 = nI k ∧ ∃ D, D < 2 ^ W ∧ st.1 = nI D ∧ ∀ w, D.testBit w = true ↔ ∃ b, Pn fl k w b) (min fl.length 300) (fun (y : Option (Int32 × Int32 × Int32 × Int32 × Int32)) => ∃ D, D < 2 ^ W ∧ (∀ w, D.testBit w = true ↔ ∃ b, Pn fl (min fl.length 300) w b) ∧ y = (if 0 < lg_cmp (Int32.toInt64 (nI (pc D 16))) s then f_RF_repair_110 1200 0 (nI W) (nI (min fl.length 300)) 0 0 mf 0 r c else f_RF_repair_110 1200 0 (nI W) (nI (min fl.length 300)) 0 0 mf 1 r c)) ?_ ?_ 100000 0 (0, 0) (Nat.zero_le _) (by omega) ⟨rfl, 0, Nat.two_pow_pos W, rfl, fun w => ?_⟩
  · rintro k ⟨x, y⟩ rec hk ⟨hy, D, D1, hD, D2⟩
    dsimp only at hy hD
    subst hy hD
    left
    obtain ⟨z, z1, z2, z3⟩ := fl_at hg hk
    obtain ⟨_, _, q2, q3⟩ := hx k z z1 z2
    obtain ⟨_, _, g3, g4, g5⟩ := z3
    have e1 : (4 : Int32) * nI k = nI (4 * k) := pk_mul 4 k
    have es : (1 : Int32) <<< (nI z.2.2.1 &&& 31) = nI (2 ^ z.2.2.1) := shl_bit _ (by omega)
    refine ⟨(nI (D ||| 2 ^ z.2.2.1), nI (k + 1)), ⟨rfl, D ||| 2 ^ z.2.2.1, Nat.or_lt_two_pow D1 (Nat.pow_lt_pow_right (by decide) g3), rfl, fun w => ?_⟩, ?_⟩
    · rw [Nat.testBit_or, Bool.or_eq_true, D2 w, Nat.testBit_two_pow, decide_eq_true_eq]
      constructor
      · rintro (⟨b, q⟩ | q)
        · exact ⟨b, (Pn_s z1).mpr (Or.inl q)⟩
        · obtain ⟨b, q4⟩ := Nat.exists_testBit_of_ne_zero (show z.2.2.2 ≠ 0 by omega)
          exact ⟨b, (Pn_s z1).mpr (Or.inr ⟨q, q4⟩)⟩
      · rintro ⟨b, q⟩
        rcases (Pn_s z1).mp q with q | q
        · exact Or.inl ⟨b, q⟩
        · exact Or.inr q.1
    · unfold g_RF_repair_60
      (have o_0 : ¬ min fl.length 300 ≤ k := (by omega); simp +decide (disch := first | omega | decide) only [↓reduceIte, Option.bind_some, nI_clamp, inB_nI, inB_z, cl_z, nI_eqL, nI_leL, nI_ltL, nI_geL, nI_gtL, nI_leI, nI_ltI, nI_eq, nI_1, nI_addL, nI_add, o_0, e1, q2, es, nI_or])
  · rintro ⟨x, y⟩ rec ⟨hy, D, D1, hD, D2⟩
    dsimp only at hy hD
    subst hy hD
    refine ⟨D, D1, D2, ?_⟩
    unfold g_RF_repair_60
    dsimp only
    rw [if_pos ((nI_leI (by omega) (by omega)).mpr (Nat.le_refl _)), r_ones (by omega), Option.bind_some]
  · rw [Nat.zero_testBit]
    exact ⟨fun q => (by cases q), fun ⟨b, q⟩ => absurd q Pn_0⟩
theorem spc (x : Int32) : (x < 0 ∧ f_MT_isSpareCount x = some 0) ∨ (¬ x < 0 ∧ 8 < x ∧ f_MT_isSpareCount x = some 0) ∨ ∃ k, k ≤ 8 ∧ x = nI k ∧ ¬ nI k < 0 ∧ ¬ 8 < nI k ∧ f_MT_isSpareCount x = some 1 := by
  unfold f_MT_isSpareCount
  by_cases h0 : x < 0
  · left; exact ⟨h0, by rw [if_pos h0]⟩
  · by_cases h1 : 8 < x
    · right; left; exact ⟨h0, h1, by rw [if_neg h0, if_pos h1]⟩
    · right; right
      obtain ⟨k, hk, rfl⟩ := nI_of h0
      refine ⟨k, ?_, rfl, h0, h1, by rw [if_neg h0, if_neg h1]⟩
      have : ¬ 8 < k := fun q => h1 ((nI_gtL hk (by decide)).mpr q)
      omega
set_option maxHeartbeats 4000000 in
theorem L_repair {W B : Nat} (hW : W ≤ 16) (hB : B ≤ 4) {xfc : Int32} {xfp : Nat → Int32} {mfc : Int32} {mff : Nat → Int32} (h4 : failI W B xfc xfp mfc mff) {xp xs xr xc mr mc mp : Int32} (h : planI W B xp xr xc mr mc mp) {wb : Nat → Int32} {out : Nat → Int64} (x y : Int32) (s : Int64) :
    ∃ q1 q2, f_LW_repair 1200 W 1 xp (nI W) (nI (2 ^ B)) xs xr xc xfc xfp wb out x y s = some q1 ∧ f_RF_repair 1200 (nI W) mfc mr mc mp mff x y s = some q2 ∧ q2.2.1 = q1.1 ∧ (q1.1 = 0 → q1.2.2.2.2.2.2 0 = Int32.toInt64 q2.1) ∧ planI W B q1.2.1 q1.2.2.2.1 q1.2.2.2.2.1 q2.2.2.1 q2.2.2.2.1 q2.2.2.2.2 := by
  have p1 := p16 hW
  have p2 := p4 hB
  have bad : f_LW_repair 1200 W 1 xp (nI W) (nI (2 ^ B)) xs xr xc xfc xfp wb out x y s = some (1, xp, xs, xr, xc, wb, out) → f_RF_repair 1200 (nI W) mfc mr mc mp mff x y s = some (0, 1, mr, mc, mp) → _ := fun e1 e2 => (⟨_, _, e1, e2, rfl, fun q => absurd q nz1, h⟩ : ∃ q1 q2, f_LW_repair 1200 W 1 xp (nI W) (nI (2 ^ B)) xs xr xc xfc xfp wb out x y s = some q1 ∧ f_RF_repair 1200 (nI W) mfc mr mc mp mff x y s = some q2 ∧ q2.2.1 = q1.1 ∧ (q1.1 = 0 → q1.2.2.2.2.2.2 0 = Int32.toInt64 q2.1) ∧ planI W B q1.2.1 q1.2.2.2.1 q1.2.2.2.2.1 q2.2.2.1 q2.2.2.2.1 q2.2.2.2.2)
  unfold f_LW_repair f_MT_repair f_RF_repair f_RF_repair_27 at bad ⊢
  rcases spc x with ⟨a0, a2⟩ | ⟨a0, a1, a2⟩ | ⟨r, hr, rfl, a0, a1, a2⟩
  · refine bad ?_ ?_
    · rw [a2]; rfl
    · rw [if_pos a0]; rfl
  · refine bad ?_ ?_
    · rw [a2]; rfl
    · rw [if_neg a0, if_pos a1]; rfl
  · rw [a2, Option.bind_some, if_neg nz1, if_neg a0, if_neg a1] at bad ⊢
    rcases spc y with ⟨b0, b2⟩ | ⟨b0, b1, b2⟩ | ⟨c, hc, rfl, b0, b1, b2⟩
    · refine bad ?_ ?_
      · rw [b2]; rfl
      · rw [if_pos b0]; rfl
    · refine bad ?_ ?_
      · rw [b2]; rfl
      · rw [if_neg b0, if_pos b1]; rfl
    · rw [b2, Option.bind_some, if_neg nz1, if_neg b0, if_neg b1] at bad ⊢
      by_cases s0 : 0 ≤ lg_cmp s 0
      · rw [if_pos s0, if_pos s0]
        clear bad
        obtain ⟨fl, hfx, hfm, hg⟩ := h4
        have ef := hfm.1
        subst ef
        obtain ⟨wb', w1, w2⟩ := m_gather (wb := wb) hW hB hg hfx
        have hO := m_outside hW hB w2
        obtain ⟨RR, hRR⟩ := Classical.axiomOfChoice hO
        have hdom : ∀ w b, Pn fl (min fl.length 300) w b → w < W := by
          rintro w b ⟨j, z, _, q2, q3, _⟩
          have := (hg z (List.mem_of_getElem? q2)).2.2.1
          omega
        have hC0 : ∀ S, ∃ C, C < 2 ^ B ∧ (S < 2 ^ 31 → f_RF_columnsFor 1200 (nI (min fl.length 300)) mff (nI S) = some (nI C)) ∧ ∀ b, C.testBit b = true ↔ ∃ w, Pn fl (min fl.length 300) w b ∧ S.testBit w = false := by
          intro S
          by_cases hS : S < 2 ^ 31
          · obtain ⟨C, C1, C2, C3⟩ := r_columns hW hB hg hfm hS
            exact ⟨C, C1, fun _ => C2, C3⟩
          · have hm : S % 2 ^ 16 < 2 ^ 31 := Nat.lt_of_lt_of_le (Nat.mod_lt _ (by decide)) (by decide)
            obtain ⟨C, C1, C2, C3⟩ := r_columns hW hB hg hfm hm
            refine ⟨C, C1, fun q => absurd q hS, fun b => (C3 b).trans ?_⟩
            have e : ∀ w, w < W → (S % 2 ^ 16).testBit w = S.testBit w := by
              intro w hw
              rw [Nat.testBit_mod_two_pow, decide_eq_true (show w < 16 by omega), Bool.true_and]
            constructor
            · rintro ⟨w, q1, q2⟩
              exact ⟨w, q1, by rw [← e w (hdom w b q1)]; exact q2⟩
            · rintro ⟨w, q1, q2⟩
              exact ⟨w, q1, by rw [e w (hdom w b q1)]; exact q2⟩
        obtain ⟨CC, hCC⟩ := Classical.axiomOfChoice hC0
        have hRp : RRp (Pn fl (min fl.length 300)) RR := by
          intro C w
          rw [(hRR C).2.2 w]
          exact ⟨fun q => q.2, fun q => ⟨by obtain ⟨b, q1, _⟩ := q; exact hdom w b q1, q⟩⟩
        have hCp : CCp (Pn fl (min fl.length 300)) CC := fun S b => (hCC S).2.2 b
        obtain ⟨D, D1, D2, D3⟩ := r_words (r := nI r) (c := nI c) (s := s) hW hg hfm
        have hD : D = RR 0 := by
          apply Nat.eq_of_testBit_eq
          intro w
          have : D.testBit w = true ↔ (RR 0).testBit w = true := by
            rw [D2 w, hRp 0 w]
            constructor
            · rintro ⟨b, q⟩; exact ⟨b, q, Nat.zero_testBit b⟩
            · rintro ⟨b, q, _⟩; exact ⟨b, q⟩
          cases h1 : D.testBit w <;> cases h2 : (RR 0).testBit w <;> simp_all
        subst hD
        have o0 := (hRR 0).2.1
        rw [show nI 0 = 0 from rfl] at o0
        unfold f_RF_repair_32 f_RepairPlan_make
        rw [if_pos (show (0 : Int32) ≤ 0 by decide), D3, w1, Option.bind_some, o0, Option.bind_some, j_count (by omega), Option.bind_some]
        by_cases hcmp : 0 < lg_cmp (Int32.toInt64 (nI (pc (RR 0) 16))) s
        · rw [if_pos hcmp, if_pos hcmp]
          refine ⟨(0, 0, 0, 0, 0, wb', vp_updL out 0 (Int32.toInt64 (-2))), (-2, 0, 0, 0, 0), rfl, rfl, rfl, fun _ => (pk_uLs : vp_updL out 0 _ 0 = _), planI_0 (v := false)⟩
        · rw [if_neg hcmp, if_neg hcmp]
          obtain ⟨q, e1, e2⟩ := m_make (RR := RR) (wb := wb') hW hB hr hc (fun C => (hRR C).1) (fun C => (hRR C).2.1)
          obtain ⟨q', e3, e4⟩ := r_make (CC := CC) (mc := nI (min fl.length 300)) (mf := mff) hW hB hr hc (fun S => (hCC S).1) (fun S hS => (hCC S).2.1 hS)
          have m41 : f_RepairPlan_make_41 W (nI W) (nI (2 ^ B)) 0 0 0 wb' 1 (nI r) (nI c) = some q := e1
          have m110 : f_RF_repair_110 1200 0 (nI W) (nI (min fl.length 300)) 0 0 mff 1 (nI r) (nI c) = some q' := e3
          rw [m41, m110, Option.bind_some]
          refine ⟨(0, q.2.1, q.2.2.1, q.2.2.2.1, q.2.2.2.2.1, q.2.2.2.2.2, vp_updL out 0 (Int32.toInt64 q.1)), q', rfl, rfl, e4.1, fun _ => (pk_uLs : vp_updL out 0 _ 0 = _).trans ?_, ?_⟩
          · rcases e2.2 with ⟨a1, _, _, a4⟩ | ⟨j, j1, j2, j3, j4, j5, j6⟩
            · rcases e4.2.2 with ⟨d1, _, _, d4⟩ | ⟨k, k1, k2, k3, k4, k5, k6⟩
              · show Int32.toInt64 q.1 = Int32.toInt64 q'.1
                rw [a1, d1]
              · exact absurd (fe21 hRp hCp k2).1 (a4 _ (hCC k).1)
            · rcases e4.2.2 with ⟨d1, _, _, d4⟩ | ⟨k, k1, k2, k3, k4, k5, k6⟩
              · exact absurd (fe12 hRp hCp j2).1 (d4 _ (hRR j).1)
              · obtain ⟨z1, z2⟩ := plan_eq hRp hCp hW hB (fun C => (hRR C).1) (fun S => (hCC S).1) j1 k1 j2 j6 k2 k6
                show Int32.toInt64 q.1 = Int32.toInt64 q'.1
                rw [j3, k3, z2, z1]
          · show planI W B q.2.1 q.2.2.2.1 q.2.2.2.2.1 q'.2.2.1 q'.2.2.2.1 q'.2.2.2.2
            rcases e2.2 with ⟨a1, a2, a3, a4⟩ | ⟨j, j1, j2, j3, j4, j5, j6⟩
            · rcases e4.2.2 with ⟨d1, d2, d3, d4⟩ | ⟨k, k1, k2, k3, k4, k5, k6⟩
              · rw [e2.1, a2, a3, d2, d3, e4.2.1]
                exact planI_0 (v := true)
              · exact absurd (fe21 hRp hCp k2).1 (a4 _ (hCC k).1)
            · rcases e4.2.2 with ⟨d1, d2, d3, d4⟩ | ⟨k, k1, k2, k3, k4, k5, k6⟩
              · exact absurd (fe12 hRp hCp j2).1 (d4 _ (hRR j).1)
              · obtain ⟨z1, z2⟩ := plan_eq hRp hCp hW hB (fun C => (hRR C).1) (fun S => (hCC S).1) j1 k1 j2 j6 k2 k6
                exact ⟨RR j, j, true, (hRR j).1, j1, j4, by rw [k4, z1], j5, by rw [k5, z2], e2.1, e4.2.1⟩
      · refine bad ?_ ?_
        · rw [if_neg s0]; rfl
        · rw [if_neg s0]; rfl
