theorem lg_self (x : Int64) : lg_cmp x x = 0 := by
  unfold lg_cmp
  rw [if_neg (Int64.lt_irrefl), if_pos rfl]
theorem L_port {ports : Nat} (hp : 1 ≤ ports ∧ ports ≤ 2) {out : Nat → Int64} (x : Int32) :
    ∃ q1 q2, f_LW_port 1 (nI ports) out x = some q1 ∧ f_RF_port (nI ports) x = some q2 ∧ q2.2.1 = q1.1 ∧ (q1.1 = 0 → q1.2.2 0 = Int32.toInt64 q2.1) ∧ ∃ p', (1 ≤ p' ∧ p' ≤ 2) ∧ q2.2.2 = nI p' ∧ q1.2.1 = nI p' := by
  unfold f_LW_port f_MT_port f_RF_port f_RF_port_11 f_RF_port_16
  by_cases h1 : x = 1
  · subst h1
    exact ⟨(0, nI 1, vp_updL out 0 (Int32.toInt64 (nI ports))), (nI ports, 0, nI 1), rfl, rfl, rfl, fun _ => (pk_uLs : vp_updL out 0 _ 0 = _), 1, by decide, rfl, rfl⟩
  · by_cases h2 : x = 2
    · subst h2
      exact ⟨(0, nI 2, vp_updL out 0 (Int32.toInt64 (nI ports))), (nI ports, 0, nI 2), rfl, rfl, rfl, fun _ => (pk_uLs : vp_updL out 0 _ 0 = _), 2, by decide, rfl, rfl⟩
    · refine ⟨(1, nI ports, out), (0, 1, nI ports), ?_, ?_, rfl, fun q => absurd q nz1, ports, hp, rfl, rfl⟩
      · rw [if_neg h1, if_neg h2]; rfl
      · rw [if_neg h1, if_neg h2]; rfl
theorem L_ground {g : Nat} (hg : g ≤ 3) {out : Nat → Int64} (x : Int32) :
    ∃ q1 q2, f_LW_ground 1 (nI g) out x = some q1 ∧ f_RF_ground (nI g) x = some q2 ∧ q2.2.1 = q1.1 ∧ (q1.1 = 0 → q1.2.2 0 = if q2.1 = 0 then 0 else 1) ∧ ∃ g', g' ≤ 3 ∧ q2.2.2 = nI g' ∧ q1.2.1 = nI g' := by
  unfold f_LW_ground f_MT_ground f_RF_ground f_RF_ground_14 f_RF_ground_15
  by_cases h0 : x < 0
  · refine ⟨(1, nI g, out), (0, 1, nI g), ?_, ?_, rfl, fun q => absurd q nz1, g, hg, rfl, rfl⟩
    · rw [if_pos h0]; rfl
    · rw [if_pos h0]; rfl
  · obtain ⟨j, hj, rfl⟩ := nI_of h0
    by_cases h4 : j < 4
    · by_cases he : g = j
      · subst he
        refine ⟨(0, nI g, vp_updL out 0 0), (0, 0, nI g), ?_, ?_, rfl, fun _ => (pk_uLs : vp_updL out 0 _ 0 = _), g, hg, rfl, rfl⟩
        · simp +decide (disch := first | omega | decide) only [↓reduceIte, Option.bind_some, nI_clamp, inB_nI, inB_z, cl_z, nI_eqL, nI_leL, nI_ltL, nI_geL, nI_gtL, nI_leI, nI_ltI, nI_eq, nI_1, nI_addL, nI_add, h0, h4, Sum.elim_inl]
        · simp +decide (disch := first | omega | decide) only [↓reduceIte, Option.bind_some, nI_clamp, inB_nI, inB_z, cl_z, nI_eqL, nI_leL, nI_ltL, nI_geL, nI_gtL, nI_leI, nI_ltI, nI_eq, nI_1, nI_addL, nI_add, h0, Nat.not_lt.mpr hg]
      · refine ⟨(0, nI j, vp_updL out 0 1), (1, 0, nI j), ?_, ?_, rfl, fun _ => (pk_uLs : vp_updL out 0 _ 0 = _), j, by omega, rfl, rfl⟩
        · simp +decide (disch := first | omega | decide) only [↓reduceIte, Option.bind_some, nI_clamp, inB_nI, inB_z, cl_z, nI_eqL, nI_leL, nI_ltL, nI_geL, nI_gtL, nI_leI, nI_ltI, nI_eq, nI_1, nI_addL, nI_add, h0, h4, he, Sum.elim_inl]
        · (have o_0 : ¬ 3 < j := (by omega); have o_1 : ¬ j = g := (by omega); simp +decide (disch := first | omega | decide) only [↓reduceIte, Option.bind_some, nI_clamp, inB_nI, inB_z, cl_z, nI_eqL, nI_leL, nI_ltL, nI_geL, nI_gtL, nI_leI, nI_ltI, nI_eq, nI_1, nI_addL, nI_add, h0, o_0, o_1])
    · refine ⟨(1, nI g, out), (0, 1, nI g), ?_, ?_, rfl, fun q => absurd q nz1, g, hg, rfl, rfl⟩
      · simp +decide (disch := first | omega | decide) only [↓reduceIte, Option.bind_some, nI_clamp, inB_nI, inB_z, cl_z, nI_eqL, nI_leL, nI_ltL, nI_geL, nI_gtL, nI_leI, nI_ltI, nI_eq, nI_1, nI_addL, nI_add, h0, h4, Sum.elim_inr]
      · (have o_0 : 3 < j := (by omega); simp +decide (disch := first | omega | decide) only [↓reduceIte, Option.bind_some, nI_clamp, inB_nI, inB_z, cl_z, nI_eqL, nI_leL, nI_ltL, nI_geL, nI_gtL, nI_leI, nI_ltI, nI_eq, nI_1, nI_addL, nI_add, h0, o_0])
theorem SC_swap {W : Nat} {scr : Nat → Nat} {a : Nat → Int32} {i j : Nat} (hi : i < W) (hj : j < W) (h : SC W scr a) : SC W (fun k => if k = j then scr i else if k = i then scr j else scr k) (upd (upd a i (a j)) j (a i)) := by
  intro x hx
  dsimp only
  by_cases e1 : x = j
  · rw [if_pos e1, e1, upd_s]; exact h i hi
  · rw [if_neg e1, upd_n e1]
    by_cases e2 : x = i
    · rw [if_pos e2, e2, upd_s]; exact h j hj
    · rw [if_neg e2, upd_n e2]; exact h x hx
theorem L_scramble {W : Nat} (hW : W ≤ 16) {xs ms : Nat → Int32} (h : scrI W xs ms) {out : Nat → Int64} (x y : Int32) :
    ∃ q1 q2, f_LW_scramble W 1 (nI W) xs out x y = some q1 ∧ f_RF_scramble 16 (nI W) ms x y = some q2 ∧ q2.2.1 = q1.1 ∧ (q1.1 = 0 → q1.2.2 0 = if q2.1 = 0 then 0 else 1) ∧ scrI W q1.2.1 q2.2.2 := by
  unfold f_LW_scramble f_MT_scramble f_MT_isWord f_Tester_exchange f_RF_scramble f_RF_scramble_29 f_RF_scramble_30
  have bad : ∃ q1 q2, (some ((1 : Int32), xs, out)) = some q1 ∧ (some ((0 : Int32), (1 : Int32), ms)) = some q2 ∧ q2.2.1 = q1.1 ∧ (q1.1 = 0 → q1.2.2 0 = if q2.1 = 0 then 0 else 1) ∧ scrI W q1.2.1 q2.2.2 := ⟨_, _, rfl, rfl, rfl, fun q => absurd q nz1, h⟩
  by_cases x0 : x < 0
  · rw [if_pos x0, if_pos x0]; exact bad
  · obtain ⟨i, hi, rfl⟩ := nI_of x0
    by_cases x1 : W ≤ i
    · simp +decide (disch := first | omega | decide) only [↓reduceIte, Option.bind_some, nI_clamp, inB_nI, inB_z, cl_z, nI_eqL, nI_leL, nI_ltL, nI_geL, nI_gtL, nI_leI, nI_ltI, nI_eq, nI_1, nI_addL, nI_add, x0, x1, Sum.elim_inr]; exact bad
    · by_cases y0 : y < 0
      · simp +decide (disch := first | omega | decide) only [↓reduceIte, Option.bind_some, nI_clamp, inB_nI, inB_z, cl_z, nI_eqL, nI_leL, nI_ltL, nI_geL, nI_gtL, nI_leI, nI_ltI, nI_eq, nI_1, nI_addL, nI_add, x0, x1, y0, Sum.elim_inr]; exact bad
      · obtain ⟨j, hj, rfl⟩ := nI_of y0
        by_cases y1 : W ≤ j
        · simp +decide (disch := first | omega | decide) only [↓reduceIte, Option.bind_some, nI_clamp, inB_nI, inB_z, cl_z, nI_eqL, nI_leL, nI_ltL, nI_geL, nI_gtL, nI_leI, nI_ltI, nI_eq, nI_1, nI_addL, nI_add, x0, x1, y0, y1, Sum.elim_inr]; exact bad
        · obtain ⟨scr, s1, s2⟩ := h
          have t1 := SC_swap (i := i) (j := j) (by omega) (by omega) s1
          have t2 := SC_swap (i := i) (j := j) (by omega) (by omega) s2
          by_cases e : i = j
          · simp +decide (disch := first | omega | decide) only [↓reduceIte, Option.bind_some, nI_clamp, inB_nI, inB_z, cl_z, nI_eqL, nI_leL, nI_ltL, nI_geL, nI_gtL, nI_leI, nI_ltI, nI_eq, nI_1, nI_addL, nI_add, x0, x1, y0, y1, e, Sum.elim_inl]
            rw [e] at t1 t2
            exact ⟨_, _, rfl, rfl, rfl, fun _ => (pk_uLs : vp_updL out 0 _ 0 = _), _, t1, t2⟩
          · simp +decide (disch := first | omega | decide) only [↓reduceIte, Option.bind_some, nI_clamp, inB_nI, inB_z, cl_z, nI_eqL, nI_leL, nI_ltL, nI_geL, nI_gtL, nI_leI, nI_ltI, nI_eq, nI_1, nI_addL, nI_add, x0, x1, y0, y1, e, Sum.elim_inl]
            exact ⟨_, _, rfl, rfl, rfl, fun _ => (pk_uLs : vp_updL out 0 _ 0 = _), _, t1, t2⟩
def tapeI (xl : Int32) (xu : Nat → Int32) (ml : Int32) (mt : Nat → Int32) : Prop := ∃ (n : Nat) (t : Nat → Nat), n ≤ 400 ∧ (∀ i, i < n → t i < 256) ∧ xl = nI n ∧ ml = nI n ∧ ∀ i, i < n → xu i &&& 255 = nI (t i) ∧ mt i = nI (t i)
theorem byte_and (x : Int32) : (vp_nar .byte ((Int32.toInt8 x).toInt32)) &&& 255 = x &&& 255 := by
  rw [pk_vb]
  apply Int32.toBitVec_inj.mp
  rw [Int32.toBitVec_and, Int32.toBitVec_and, show (255 : Int32).toBitVec = BitVec.ofNat 32 (2 ^ 8 - 1) from rfl, Int8.toBitVec_toInt32, Int32.toBitVec_toInt8]
  apply BitVec.eq_of_getLsbD_eq
  intro i hi
  rw [BitVec.getLsbD_and, BitVec.getLsbD_and, BitVec.getLsbD_ofNat, Nat.testBit_two_pow_sub_one]
  by_cases h : i < 8
  · rw [BitVec.getLsbD_signExtend]
    simp [h, hi, BitVec.getElem_signExtend, BitVec.getLsbD_signExtend]
  · simp [h]
theorem and_255 (x : Int32) : ∃ t, t < 256 ∧ x &&& 255 = nI t := pk_andE x 8 (by decide)
theorem L_unit {xl : Int32} {xu : Nat → Int32} {ml : Int32} {mt : Nat → Int32} (h : tapeI xl xu ml mt) (x : Int32) :
    ∃ q1 q2, f_MT_unit 400 xl xu x = some q1 ∧ f_RF_unit 400 ml mt x = some q2 ∧ q1.1 = q2.1 ∧ tapeI q1.2.1 q1.2.2 q2.2.2.1 q2.2.2.2 := by
  obtain ⟨n, t, hn, ht, rfl, rfl, hu⟩ := id h
  unfold f_MT_unit f_Tape_add f_RF_unit f_RF_unit_20
  by_cases h4 : n < 400
  · obtain ⟨c, hc, ec⟩ := and_255 x
    refine ⟨(1, nI (n + 1), upd xu n (vp_nar .byte ((Int32.toInt8 x).toInt32))), (1, 0, nI (n + 1), upd mt n (x &&& 255)), ?_, ?_, rfl, n + 1, fun i => if i = n then c else t i, by omega, fun i hi => ?_, rfl, rfl, fun i hi => ?_⟩
    · simp +decide (disch := first | omega | decide) only [↓reduceIte, Option.bind_some, nI_clamp, inB_nI, inB_z, cl_z, nI_eqL, nI_leL, nI_ltL, nI_geL, nI_gtL, nI_leI, nI_ltI, nI_eq, nI_1, nI_addL, nI_add, h4, show isB 1 = true by decide]
    · (have o_0 : ¬ 400 ≤ n := (by omega); simp +decide (disch := first | omega | decide) only [↓reduceIte, Option.bind_some, nI_clamp, inB_nI, inB_z, cl_z, nI_eqL, nI_leL, nI_ltL, nI_geL, nI_gtL, nI_leI, nI_ltI, nI_eq, nI_1, nI_addL, nI_add, o_0, show isB 1 = true by decide])
    · dsimp only
      split
      · exact hc
      · exact ht i (by omega)
    · dsimp only
      by_cases e : i = n
      · subst e
        rw [upd_s, upd_s, if_pos rfl, byte_and, ec]; exact ⟨rfl, rfl⟩
      · rw [upd_n e, upd_n e, if_neg e]; exact hu i (by omega)
  · refine ⟨(0, nI n, xu), (0, 0, nI n, mt), ?_, ?_, rfl, h⟩
    · simp +decide (disch := first | omega | decide) only [↓reduceIte, Option.bind_some, nI_clamp, inB_nI, inB_z, cl_z, nI_eqL, nI_leL, nI_ltL, nI_geL, nI_gtL, nI_leI, nI_ltI, nI_eq, nI_1, nI_addL, nI_add, h4, show isB 0 = true by decide]
    · (have o_0 : 400 ≤ n := (by omega); simp +decide (disch := first | omega | decide) only [↓reduceIte, Option.bind_some, nI_clamp, inB_nI, inB_z, cl_z, nI_eqL, nI_leL, nI_ltL, nI_geL, nI_gtL, nI_leI, nI_ltI, nI_eq, nI_1, nI_addL, nI_add, o_0, show isB 0 = true by decide])
theorem L_failing {W B : Nat} {xc : Int32} {xp : Nat → Int32} {mc : Int32} {mf : Nat → Int32} (h : failI W B xc xp mc mf) {out : Nat → Int64} (x y : Int32) :
    ∃ q1 q2, f_LW_failing 1200 1 xc xp out x y = some q1 ∧ f_RF_failing 1200 mc mf x y = some q2 ∧ q2.2 = q1.1 ∧ (q1.1 = 0 → q1.2 0 = Int32.toInt64 q2.1) := by
  obtain ⟨fl, ⟨rfl, hx⟩, ⟨rfl, hm⟩, hg⟩ := h
  unfold f_LW_failing f_MT_failing f_MT_failing_24 f_MT_failing_25 f_MT_failing_46 f_Failures_part f_RF_failing f_RF_failing_16 f_RF_failing_17 f_RF_failing_32 f_RF_failing_45 f_RF_failing_49 f_RF_failing_50
  have hc : min fl.length 300 ≤ 300 := by omega
  have hcl : min fl.length 300 ≤ fl.length := by omega
  generalize min fl.length 300 = n at hc hcl ⊢
  have bad : ∃ q1 q2, (some ((1 : Int32), out)) = some q1 ∧ (some ((0 : Int32), (1 : Int32))) = some q2 ∧ q2.2 = q1.1 ∧ (q1.1 = 0 → q1.2 0 = Int32.toInt64 q2.1) := ⟨_, _, rfl, rfl, rfl, fun q => absurd q nz1⟩
  have cnt : ∃ q1 q2, (some ((0 : Int32), vp_updL out 0 (Int32.toInt64 (nI n)))) = some q1 ∧ (some (nI n, (0 : Int32))) = some q2 ∧ q2.2 = q1.1 ∧ (q1.1 = 0 → q1.2 0 = Int32.toInt64 q2.1) := ⟨_, _, rfl, rfl, rfl, fun _ => (pk_uLs : vp_updL out 0 _ 0 = _)⟩
  by_cases x0 : x < 0
  · have xn : ¬ x = 0 := by intro q; subst q; exact absurd x0 (by decide)
    by_cases y4 : y = 4
    · subst y4; simp +decide (disch := first | omega | decide) only [↓reduceIte, Option.bind_some, nI_clamp, inB_nI, inB_z, cl_z, nI_eqL, nI_leL, nI_ltL, nI_geL, nI_gtL, nI_leI, nI_ltI, nI_eq, nI_1, nI_addL, nI_add, x0, xn, Sum.elim_inr]; exact bad
    · simp +decide (disch := first | omega | decide) only [↓reduceIte, Option.bind_some, nI_clamp, inB_nI, inB_z, cl_z, nI_eqL, nI_leL, nI_ltL, nI_geL, nI_gtL, nI_leI, nI_ltI, nI_eq, nI_1, nI_addL, nI_add, x0, xn, y4, Sum.elim_inr]; exact bad
  · obtain ⟨k, hk, rfl⟩ := nI_of x0
    by_cases x1 : n ≤ k
    · by_cases y4 : y = 4
      · subst y4
        by_cases k0 : k = 0
        · subst k0
          rw [show nI 0 = 0 from rfl]
          by_cases hn0 : nI n ≤ 0
          · simp +decide (disch := first | omega | decide) only [↓reduceIte, Option.bind_some, nI_clamp, inB_nI, inB_z, cl_z, nI_eqL, nI_leL, nI_ltL, nI_geL, nI_gtL, nI_leI, nI_ltI, nI_eq, nI_1, nI_addL, nI_add, hn0, Sum.elim_inl]; exact cnt
          · simp +decide (disch := first | omega | decide) only [↓reduceIte, Option.bind_some, nI_clamp, inB_nI, inB_z, cl_z, nI_eqL, nI_leL, nI_ltL, nI_geL, nI_gtL, nI_leI, nI_ltI, nI_eq, nI_1, nI_addL, nI_add, hn0, Sum.elim_inl]; exact cnt
        · simp +decide (disch := first | omega | decide) only [↓reduceIte, Option.bind_some, nI_clamp, inB_nI, inB_z, cl_z, nI_eqL, nI_leL, nI_ltL, nI_geL, nI_gtL, nI_leI, nI_ltI, nI_eq, nI_1, nI_addL, nI_add, x0, x1, k0, Sum.elim_inr]; exact bad
      · simp +decide (disch := first | omega | decide) only [↓reduceIte, Option.bind_some, nI_clamp, inB_nI, inB_z, cl_z, nI_eqL, nI_leL, nI_ltL, nI_geL, nI_gtL, nI_leI, nI_ltI, nI_eq, nI_1, nI_addL, nI_add, x0, x1, y4, Sum.elim_inr]; exact bad
    · by_cases y4 : y = 4
      · subst y4; simp +decide (disch := first | omega | decide) only [↓reduceIte, Option.bind_some, nI_clamp, inB_nI, inB_z, cl_z, nI_eqL, nI_leL, nI_ltL, nI_geL, nI_gtL, nI_leI, nI_ltI, nI_eq, nI_1, nI_addL, nI_add, x0, x1, Sum.elim_inl]; exact cnt
      · by_cases y0 : y < 0
        · simp +decide (disch := first | omega | decide) only [↓reduceIte, Option.bind_some, nI_clamp, inB_nI, inB_z, cl_z, nI_eqL, nI_leL, nI_ltL, nI_geL, nI_gtL, nI_leI, nI_ltI, nI_eq, nI_1, nI_addL, nI_add, x0, x1, y4, y0, Sum.elim_inr]; exact bad
        · obtain ⟨w, hw, rfl⟩ := nI_of y0
          by_cases y3 : 3 < w
          · (have o_0 : ¬ w < 4 := (by omega); simp +decide (disch := first | omega | decide) only [↓reduceIte, Option.bind_some, nI_clamp, inB_nI, inB_z, cl_z, nI_eqL, nI_leL, nI_ltL, nI_geL, nI_gtL, nI_leI, nI_ltI, nI_eq, nI_1, nI_addL, nI_add, x0, x1, y4, y0, y3, o_0, Sum.elim_inr]); exact bad
          · have e1 : nI k * (4 : Int32) = nI (4 * k) := by rw [show (4 : Int32) = nI 4 from rfl, pk_mul, Nat.mul_comm]
            have e2 : (4 : Int32) * nI k = nI (4 * k) := pk_mul 4 k
            (have o_0 : w < 4 := (by omega); simp +decide (disch := first | omega | decide) only [↓reduceIte, Option.bind_some, nI_clamp, inB_nI, inB_z, cl_z, nI_eqL, nI_leL, nI_ltL, nI_geL, nI_gtL, nI_leI, nI_ltI, nI_eq, nI_1, nI_addL, nI_add, x0, x1, y4, y0, y3, o_0, e1, e2, Sum.elim_inl])
            refine ⟨_, _, rfl, rfl, rfl, fun _ => (pk_uLs : vp_updL out 0 _ 0 = _).trans ?_⟩
            show Int32.toInt64 (xp (4 * k + w)) = Int32.toInt64 (mf (4 * k + w))
            congr 1
            obtain ⟨z, hz⟩ : ∃ z, fl[k]? = some z := ⟨fl[k]'(by omega), List.getElem?_eq_getElem _⟩
            obtain ⟨a0, a1, a2, a3⟩ := hx k z hz (by omega)
            obtain ⟨b0, b1, b2, b3⟩ := hm k z hz (by omega)
            have : w = 0 ∨ w = 1 ∨ w = 2 ∨ w = 3 := by omega
            rcases this with rfl | rfl | rfl | rfl
            · exact a0.trans b0.symm
            · exact a1.trans b1.symm
            · exact a2.trans b2.symm
            · exact a3.trans b3.symm
