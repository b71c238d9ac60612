theorem b2_nat (v : Bool) : b2 v = nI v.toNat := by cases v <;> rfl
theorem r_ones {x : Nat} (hx : x < 2 ^ 31) : f_RF_ones (nI x) = some (nI (pc x 16)) := by
  unfold f_RF_ones
  refine lp_Q (I := fun i (s : Int32 × Int32) => s.2 = nI i ∧ s.1 = nI (pc x i)) 16 (fun (r : Option Int32) => r = some (nI (pc x 16))) ?_ ?_ 100000 0 _ (by omega) (by omega) ⟨rfl, rfl⟩
  · rintro i ⟨a, b⟩ rec hi ⟨hb, ha⟩
    dsimp only at ha hb
    subst ha hb
    left
    refine ⟨(nI (pc x (i + 1)), nI (i + 1)), ⟨rfl, rfl⟩, ?_⟩
    unfold g_RF_ones_4
    have hni : ¬ 16 ≤ i := by omega
    have e := bit_v hx (show i < 32 by omega)
    have e2 : nI (pc x i) + b2 (x.testBit i) = nI (pc x (i + 1)) := by rw [b2_nat, nI_add]; rfl
    simp +decide (disch := first | omega | decide) only [↓reduceIte, Option.bind_some, nI_clamp, inB_nI, inB_z, cl_z, nI_eqL, nI_leL, nI_ltL, nI_geL, nI_gtL, nI_leI, nI_ltI, nI_eq, nI_1, nI_addL, nI_add, hni, e, e2]
  · rintro ⟨a, b⟩ rec ⟨hb, ha⟩
    dsimp only at ha hb
    subst ha hb
    unfold g_RF_ones_4
    simp +decide (disch := first | omega | decide) only [↓reduceIte, Option.bind_some, nI_clamp, inB_nI, inB_z, cl_z, nI_eqL, nI_leL, nI_ltL, nI_geL, nI_gtL, nI_leI, nI_ltI, nI_eq, nI_1, nI_addL, nI_add, Nat.le_refl]
theorem r_before {x y : Nat} (hx : x < 2 ^ 31) (hy : y < 2 ^ 31) : f_RF_isBefore (nI x) (nI y) = some (b2 (decide (rv y 16 < rv x 16))) := by
  unfold f_RF_isBefore
  refine lp_Q (I := fun i (s : Int32) => s = nI i ∧ ∀ j, j < i → x.testBit j = y.testBit j) 16 (fun (r : Option Int32) => r = some (b2 (decide (rv y 16 < rv x 16)))) ?_ ?_ 100000 0 _ (by omega) (by omega) ⟨rfl, fun j h => by omega⟩
  · rintro i s rec hi ⟨hs, hj⟩
    subst hs
    unfold g_RF_isBefore_2
    have hni : ¬ 16 ≤ i := by omega
    have e1 := bit_v hx (show i < 32 by omega)
    have e2 := bit_v hy (show i < 32 by omega)
    by_cases e : x.testBit i = y.testBit i
    · left
      refine ⟨nI (i + 1), ⟨rfl, fun j h => ?_⟩, ?_⟩
      · by_cases q : j = i
        · rw [q]; exact e
        · exact hj j (by omega)
      · rw [e] at e1
        simp +decide (disch := first | omega | decide) only [↓reduceIte, Option.bind_some, nI_clamp, inB_nI, inB_z, cl_z, nI_eqL, nI_leL, nI_ltL, nI_geL, nI_gtL, nI_leI, nI_ltI, nI_eq, nI_1, nI_addL, nI_add, hni, e1, e2]
    · right
      cases hxi : x.testBit i
      · have hyi : y.testBit i = true := by
          cases h : y.testBit i
          · rw [hxi, h] at e; exact absurd rfl e
          · rfl
        have := rv_first (fun j h => (hj j h).symm) hyi hxi 16 hi
        rw [hxi] at e1
        rw [hyi] at e2
        rw [decide_eq_false (by omega)]
        simp +decide (disch := first | omega | decide) only [↓reduceIte, Option.bind_some, nI_clamp, inB_nI, inB_z, cl_z, nI_eqL, nI_leL, nI_ltL, nI_geL, nI_gtL, nI_leI, nI_ltI, nI_eq, nI_1, nI_addL, nI_add, hni, e1, e2, show b2 false = 0 from rfl, show b2 true = 1 from rfl]
      · have hyi : y.testBit i = false := by
          cases h : y.testBit i
          · rfl
          · rw [hxi, h] at e; exact absurd rfl e
        have := rv_first hj hxi hyi 16 hi
        rw [hxi] at e1
        rw [hyi] at e2
        rw [decide_eq_true (by omega)]
        simp +decide (disch := first | omega | decide) only [↓reduceIte, Option.bind_some, nI_clamp, inB_nI, inB_z, cl_z, nI_eqL, nI_leL, nI_ltL, nI_geL, nI_gtL, nI_leI, nI_ltI, nI_eq, nI_1, nI_addL, nI_add, hni, e1, e2, show b2 false = 0 from rfl, show b2 true = 1 from rfl]
  · rintro s rec ⟨hs, hj⟩
    subst hs
    unfold g_RF_isBefore_2
    rw [rv_ext 16 hj, decide_eq_false (Nat.lt_irrefl _)]
    simp +decide (disch := first | omega | decide) only [↓reduceIte, Option.bind_some, nI_clamp, inB_nI, inB_z, cl_z, nI_eqL, nI_leL, nI_ltL, nI_geL, nI_gtL, nI_leI, nI_ltI, nI_eq, nI_1, nI_addL, nI_add, Nat.le_refl]
theorem low_bit {z i : Nat} (hi : i < 32) (h1 : z.testBit i = true) (h0 : ∀ j, j < i → z.testBit j = false) : nI z &&& -(nI z) = nI (2 ^ i) := by
  apply Int32.toBitVec_inj.mp
  rw [Int32.toBitVec_and, Int32.toBitVec_neg, nI_bv, nI_bv]
  apply BitVec.eq_of_getLsbD_eq
  intro k hk
  rw [BitVec.getLsbD_and, BitVec.getLsbD_neg, BitVec.getLsbD_ofNat, BitVec.getLsbD_ofNat, Nat.testBit_two_pow]
  have e : (∃ j, j < k ∧ (BitVec.ofNat 32 z).getLsbD j = true) ↔ i < k := by
    constructor
    · rintro ⟨j, hj, h⟩
      rw [BitVec.getLsbD_ofNat] at h
      by_cases q : i < k
      · exact q
      · rw [h0 j (by omega)] at h
        simp at h
    · intro q
      refine ⟨i, q, ?_⟩
      rw [BitVec.getLsbD_ofNat, h1]
      simp [hi]
  by_cases q : i < k
  · have : decide (∃ j, j < k ∧ (BitVec.ofNat 32 z).getLsbD j = true) = true := decide_eq_true (e.mpr q)
    simp only [hk, this, decide_true, Bool.true_and, Bool.and_true]
    rw [decide_eq_false (show ¬ i = k by omega)]
    cases z.testBit k <;> rfl
  · have : decide (∃ j, j < k ∧ (BitVec.ofNat 32 z).getLsbD j = true) = false := decide_eq_false (fun r => q (e.mp r))
    simp only [hk, this, decide_true, Bool.true_and, Bool.and_false, Bool.xor_false, Bool.and_self]
    by_cases r : i = k
    · subst r; rw [h1]; simp
    · rw [h0 k (by omega), decide_eq_false r]
theorem m_first {x y : Nat} (hx : x < 2 ^ 16) (hy : y < 2 ^ 16) : (nI x &&& ((nI x ^^^ nI y) &&& (-(nI x ^^^ nI y))) = 0) ↔ ¬ rv y 16 < rv x 16 := by
  rw [nI_xor]
  by_cases hz : ∃ k, (x ^^^ y).testBit k = true
  · obtain ⟨i, h1, h0⟩ := pk_least (fun k => (x ^^^ y).testBit k = true) hz
    have h0' : ∀ j, j < i → (x ^^^ y).testBit j = false := fun j hj => by simpa using h0 j hj
    have hi : i < 16 := by
      by_cases q : i < 16
      · exact q
      · have h2 : (x ^^^ y) < 2 ^ i := Nat.lt_of_lt_of_le (Nat.xor_lt_two_pow hx hy) (Nat.pow_le_pow_right (by decide) (by omega))
        rw [Nat.testBit_lt_two_pow h2] at h1; cases h1
    rw [low_bit (by omega) h1 h0', nI_and, and_pow]
    have hj : ∀ j, j < i → x.testBit j = y.testBit j := by
      intro j hj
      have := h0' j hj
      rw [Nat.testBit_xor] at this
      simpa using this
    rw [Nat.testBit_xor] at h1
    cases hxi : x.testBit i
    · have hyi : y.testBit i = true := by rw [hxi] at h1; simpa using h1
      have := rv_first (fun j h => (hj j h).symm) hyi hxi 16 hi
      simp only [Bool.false_eq_true, if_false]
      exact ⟨fun _ => by omega, fun _ => rfl⟩
    · have hyi : y.testBit i = false := by rw [hxi] at h1; simpa using h1
      have := rv_first hj hxi hyi 16 hi
      simp only [if_true]
      have h2 : 2 ^ i < 2 ^ 16 := Nat.pow_lt_pow_right (by decide) hi
      exact ⟨fun q => absurd q (nI_ne0 (Nat.two_pow_pos i) (by omega)), fun q => absurd this q⟩
  · have e : ∀ k, x.testBit k = y.testBit k := by
      intro k
      by_cases q : x.testBit k = y.testBit k
      · exact q
      · exfalso
        apply hz
        refine ⟨k, ?_⟩
        rw [Nat.testBit_xor]
        cases h1 : x.testBit k <;> cases h2 : y.testBit k <;> simp_all
    have : x = y := Nat.eq_of_testBit_eq e
    subst this
    rw [Nat.xor_self]
    exact ⟨fun _ => Nat.lt_irrefl _, fun _ => by rw [show nI 0 = 0 from rfl, show -(0 : Int32) = 0 from rfl, show (0 : Int32) &&& 0 = 0 from rfl]; exact Int32.and_zero⟩
theorem df0 {a b : Nat} (ha : a < 2 ^ 30) (hb : b < 2 ^ 30) : (nI a - nI b = 0) ↔ a = b := by
  rw [← Int32.toInt_inj, pk_sub_toInt ha hb]
  have : (0 : Int32).toInt = 0 := by decide
  omega
theorem df1 {a b : Nat} (ha : a < 2 ^ 30) (hb : b < 2 ^ 30) : (0 ≤ nI a - nI b) ↔ b ≤ a := by
  rw [Int32.le_iff_toInt_le, pk_sub_toInt ha hb]
  have : (0 : Int32).toInt = 0 := by decide
  omega
theorem m_spares {R C : Nat} (hR : R < 2 ^ 16) (hC : C < 2 ^ 16) : f_RepairPlan_spares (nI R) (nI C) = some (nI (pc R 16 + pc C 16)) := by
  unfold f_RepairPlan_spares
  rw [j_count hR, Option.bind_some, j_count hC, Option.bind_some, nI_add]
theorem m_better {R C R' C' : Nat} (hR : R < 2 ^ 16) (hC : C < 2 ^ 16) (hR' : R' < 2 ^ 16) (hC' : C' < 2 ^ 16) :
    f_RepairPlan_isBetter 1 (nI R') (nI C') (nI R) (nI C) = some (b2 (decide (key R (pc R 16 + pc C 16) < key R' (pc R' 16 + pc C' 16)))) := by
  unfold f_RepairPlan_isBetter
  rw [if_neg nz1, m_spares hR hC, Option.bind_some, m_spares hR' hC', Option.bind_some]
  have a1 := pc_le R 16
  have a2 := pc_le C 16
  have a3 := pc_le R' 16
  have a4 := pc_le C' 16
  have hk := @key_lt R R' (pc R 16 + pc C 16) (pc R' 16 + pc C' 16)
  have hn : pc R 16 + pc C 16 < 2 ^ 30 := by omega
  have hn' : pc R' 16 + pc C' 16 < 2 ^ 30 := by omega
  generalize pc R 16 + pc C 16 = n at hk hn ⊢
  generalize pc R' 16 + pc C' 16 = n' at hk hn' ⊢
  unfold f_RepairPlan_isBetter_44
  by_cases e : n = n'
  · rw [if_pos ((df0 hn hn').mpr e), j_count hR, Option.bind_some, j_count hR', Option.bind_some]
    by_cases e2 : pc R 16 = pc R' 16
    · rw [if_pos ((df0 (by omega) (by omega)).mpr e2)]
      by_cases e3 : rv R' 16 < rv R 16
      · rw [if_neg (fun q => (m_first hR hR').mp q e3), decide_eq_true (hk.mpr (Or.inr ⟨e, Or.inr ⟨e2, e3⟩⟩))]; rfl
      · rw [if_pos ((m_first hR hR').mpr e3), decide_eq_false (fun q => by have := hk.mp q; omega)]; rfl
    · rw [if_neg (fun q => e2 ((df0 (by omega) (by omega)).mp q))]
      by_cases e3 : pc R' 16 ≤ pc R 16
      · rw [if_pos ((df1 (by omega) (by omega)).mpr e3), decide_eq_false (fun q => by have := hk.mp q; omega)]; rfl
      · rw [if_neg (fun q => e3 ((df1 (by omega) (by omega)).mp q)), decide_eq_true (hk.mpr (Or.inr ⟨e, Or.inl (by omega)⟩))]; rfl
  · rw [if_neg (fun q => e ((df0 hn hn').mp q)), if_neg (fun q => e ((df0 hn hn').mp q))]
    by_cases e3 : n' ≤ n
    · rw [if_pos ((df1 hn hn').mpr e3), decide_eq_false (fun q => by have := hk.mp q; omega)]; rfl
    · rw [if_neg (fun q => e3 ((df1 hn hn').mp q)), decide_eq_true (hk.mpr (Or.inl (by omega)))]; rfl
def Pn (fl : List Fail) (n w b : Nat) : Prop := ∃ j x, j < n ∧ fl[j]? = some x ∧ x.2.2.1 = w ∧ x.2.2.2.testBit b = true
theorem Pn_0 {fl : List Fail} {w b : Nat} : ¬ Pn fl 0 w b := by
  rintro ⟨j, x, h, _⟩; omega
theorem Pn_s {fl : List Fail} {n w b : Nat} {x : Fail} (h : fl[n]? = some x) : Pn fl (n + 1) w b ↔ Pn fl n w b ∨ (x.2.2.1 = w ∧ x.2.2.2.testBit b = true) := by
  constructor
  · rintro ⟨j, y, h1, h2, h3⟩
    by_cases e : j = n
    · subst e
      rw [h] at h2
      cases h2
      exact Or.inr h3
    · exact Or.inl ⟨j, y, by omega, h2, h3⟩
  · rintro (⟨j, y, h1, h2, h3⟩ | h3)
    · exact ⟨j, y, by omega, h2, h3⟩
    · exact ⟨n, x, by omega, h, h3⟩
section REP
variable {W B : Nat} {fl : List Fail}
theorem fl_at (hg : ∀ x ∈ fl, goodF W B x) {k : Nat} (hk : k < min fl.length 300) : ∃ x, fl[k]? = some x ∧ k < 300 ∧ goodF W B x := by
  refine ⟨fl[k]'(by omega), List.getElem?_eq_getElem _, by omega, hg _ (List.getElem_mem _)⟩
theorem m_gather (hW : W ≤ 16) (hB : B ≤ 4) (hg : ∀ x ∈ fl, goodF W B x) {xc : Int32} {xp wb : Nat → Int32} (h : FA xc xp fl) :
    ∃ wb', f_RepairPlan_gatherWrongBits 1200 W (nI W) xc xp wb = some wb' ∧ ∀ w, w < W → ∃ u, u < 2 ^ B ∧ wb' w = nI u ∧ ∀ b, u.testBit b = true ↔ Pn fl (min fl.length 300) w b := by
  obtain ⟨rfl, hx⟩ := h
  unfold f_RepairPlan_gatherWrongBits
  refine lp_Q (I := fun i (s : (Nat → Int32) × Int32) => s.2 = nI i ∧ ∀ w, w < i → s.1 w = 0) W (fun (r : Option (Nat → Int32)) => ∃ wb', r = some wb' ∧ ∀ w, w < W → ∃ u, u < 2 ^ B ∧ wb' w = nI u ∧ ∀ b, u.testBit b = true ↔ Pn fl (min fl.length 300) w b) ?_ ?_ 100000 0 _ (by omega) (by omega) ⟨rfl, fun w h => by omega⟩
  · rintro i ⟨a, b⟩ rec hi ⟨hb, ha⟩
    dsimp only at ha hb
    subst hb
    left
    refine ⟨(upd a i 0, nI (i + 1)), ⟨rfl, fun w hw => ?_⟩, ?_⟩
    · show upd a i 0 w = 0
      by_cases q : w = i
      · rw [q, upd_s]
      · rw [upd_n q]; exact ha w (by omega)
    · unfold g_RepairPlan_gatherWrongBits_2
      (have o_0 : ¬ W ≤ i := (by omega); simp +decide (disch := first | omega | decide) only [↓reduceIte, Option.bind_some, nI_clamp, inB_nI, inB_z, cl_z, nI_eqL, nI_leL, nI_ltL, nI_geL, nI_gtL, nI_leI, nI_ltI, nI_eq, nI_1, nI_addL, nI_add, o_0])
  · rintro ⟨a, b⟩ rec ⟨hb, ha⟩
    dsimp only at ha hb
    subst hb
    unfold g_RepairPlan_gatherWrongBits_2
    rw [if_pos (show nI W ≤ nI W from (nI_leI (by omega) (by omega)).mpr (Nat.le_refl _))]
    have hn : min fl.length 300 ≤ 300 := by omega
    refine lp_Q (I := fun k (s : (Nat → Int32) × Int32) => s.2 = nI k ∧ ∀ w, w < W → ∃ u, u < 2 ^ B ∧ s.1 w = nI u ∧ ∀ b, u.testBit b = true ↔ Pn fl k w b) (min fl.length 300) (fun (r : Option (Nat → Int32)) => ∃ wb', r = some wb' ∧ ∀ w, w < W → ∃ u, u < 2 ^ B ∧ wb' w = nI u ∧ ∀ b, u.testBit b = true ↔ Pn fl (min fl.length 300) w b) ?_ ?_ 100000 0 _ (by omega) (by omega) ⟨rfl, fun w hw => ⟨0, Nat.two_pow_pos B, ha w hw, fun b => ?_⟩⟩
    · rintro k ⟨a, b⟩ rec hk ⟨hb, ha⟩
      dsimp only at ha hb
      subst hb
      left
      obtain ⟨x, x1, x2, x3⟩ := fl_at hg hk
      obtain ⟨_, _, p2, p3⟩ := hx k x x1 x2
      obtain ⟨_, _, g3, g4, g5⟩ := x3
      obtain ⟨u, u1, u2, u3⟩ := ha _ g3
      refine ⟨(upd a x.2.2.1 (nI (u ||| x.2.2.2)), nI (k + 1)), ⟨rfl, fun w hw => ?_⟩, ?_⟩
      · show ∃ u', u' < 2 ^ B ∧ upd a x.2.2.1 (nI (u ||| x.2.2.2)) w = nI u' ∧ _
        by_cases q : w = x.2.2.1
        · subst q
          refine ⟨u ||| x.2.2.2, Nat.or_lt_two_pow u1 g5, upd_s, fun b => ?_⟩
          rw [Nat.testBit_or, Bool.or_eq_true, u3 b, Pn_s x1]
          exact ⟨fun q => q.elim Or.inl (fun r => Or.inr ⟨rfl, r⟩), fun q => q.elim Or.inl (fun r => Or.inr r.2)⟩
        · obtain ⟨v, v1, v2, v3⟩ := ha w hw
          refine ⟨v, v1, by rw [upd_n q]; exact v2, fun b => ?_⟩
          rw [v3 b, Pn_s x1]
          exact ⟨Or.inl, fun r => r.elim id (fun s => absurd s.1.symm q)⟩
      · unfold g_RepairPlan_gatherWrongBits_25 f_Failures_part
        have e1 : nI k * (4 : Int32) = nI (4 * k) := by rw [show (4 : Int32) = nI 4 from rfl, pk_mul, Nat.mul_comm]
        have hxw : x.2.2.1 < W := g3
        (have o_0 : ¬ min fl.length 300 ≤ k := (by omega); simp +decide (disch := first | omega | decide) only [↓reduceIte, Option.bind_some, nI_clamp, inB_nI, inB_z, cl_z, nI_eqL, nI_leL, nI_ltL, nI_geL, nI_gtL, nI_leI, nI_ltI, nI_eq, nI_1, nI_addL, nI_add, o_0, e1, p2, p3, u2, nI_or])
    · rintro ⟨a, b⟩ rec ⟨hb, ha⟩
      dsimp only at ha hb
      subst hb
      refine ⟨a, ?_, ha⟩
      unfold g_RepairPlan_gatherWrongBits_25
      simp +decide (disch := first | omega | decide) only [↓reduceIte, Option.bind_some, nI_clamp, inB_nI, inB_z, cl_z, nI_eqL, nI_leL, nI_ltL, nI_geL, nI_gtL, nI_leI, nI_ltI, nI_eq, nI_1, nI_addL, nI_add, Nat.le_refl]
    · rw [Nat.zero_testBit]
      exact ⟨fun q => (by cases q), fun q => absurd q Pn_0⟩
theorem m_outside (hW : W ≤ 16) (hB : B ≤ 4) {wb : Nat → Int32} {P : Nat → Nat → Prop} (h : ∀ w, w < W → ∃ u, u < 2 ^ B ∧ wb w = nI u ∧ ∀ b, u.testBit b = true ↔ P w b) (C : Nat) :
    ∃ S, S < 2 ^ W ∧ f_RepairPlan_wordsWrongOutside W (nI W) wb (nI C) = some (nI S) ∧ ∀ w, S.testBit w = true ↔ w < W ∧ ∃ b, P w b ∧ C.testBit b = false := by
  have p1 := p16 hW
  have p2 := p4 hB
  unfold f_RepairPlan_wordsWrongOutside
  refine lp_Q (I := fun i (s : Int32 × Int32) => s.2 = nI i ∧ ∃ S, S < 2 ^ i ∧ s.1 = nI S ∧ ∀ w, S.testBit w = true ↔ w < i ∧ ∃ b, P w b ∧ C.testBit b = false) W (fun (r : Option Int32) => ∃ S, S < 2 ^ W ∧ r = some (nI S) ∧ ∀ w, S.testBit w = true ↔ w < W ∧ ∃ b, P w b ∧ C.testBit b = false) ?_ ?_ 100000 0 _ (by omega) (by omega) ⟨rfl, 0, by decide, rfl, fun w => ?_⟩
  · rintro i ⟨a, b⟩ rec hi ⟨hb, S, S1, hS, S2⟩
    dsimp only at hS hb
    subst hb hS
    left
    obtain ⟨u, u1, u2, u3⟩ := h i hi
    have hni : ¬ W ≤ i := by omega
    have e1 : (nI u &&& (nI C ^^^ (-1))) = nI (u &&& (C ^^^ (2 ^ 32 - 1))) := by rw [m1_nI, nI_xor, nI_and]
    have e2 : (u &&& (C ^^^ (2 ^ 32 - 1))) ≤ u := Nat.and_le_left
    have e3 : ∀ b, (u &&& (C ^^^ (2 ^ 32 - 1))).testBit b = true ↔ P i b ∧ C.testBit b = false := by
      intro b
      rw [Nat.testBit_and, Nat.testBit_xor, Nat.testBit_two_pow_sub_one, Bool.and_eq_true, u3 b]
      by_cases hb : b < 32
      · simp only [hb, decide_true, Bool.xor_true, Bool.not_eq_true']
      · have : ¬ P i b := by
          intro q
          have := (u3 b).mpr q
          rw [Nat.testBit_lt_two_pow (Nat.lt_of_lt_of_le u1 (Nat.pow_le_pow_right (by decide) (by omega)))] at this
          cases this
        exact ⟨fun q => absurd q.1 this, fun q => absurd q.1 this⟩
    unfold g_RepairPlan_wordsWrongOutside_4
    by_cases hz : (u &&& (C ^^^ (2 ^ 32 - 1))) = 0
    · refine ⟨(nI S, nI (i + 1)), ⟨rfl, S, Nat.lt_of_lt_of_le S1 (Nat.pow_le_pow_right (by decide) (by omega)), rfl, fun w => ?_⟩, ?_⟩
      · rw [S2 w]
        constructor
        · rintro ⟨q1, q2⟩; exact ⟨by omega, q2⟩
        · rintro ⟨q1, b, q2⟩
          by_cases q : w = i
          · subst q
            have := (e3 b).mpr q2
            rw [hz, Nat.zero_testBit] at this
            cases this
          · exact ⟨by omega, b, q2⟩
      · rw [hz] at e1
        simp +decide (disch := first | omega | decide) only [↓reduceIte, Option.bind_some, nI_clamp, inB_nI, inB_z, cl_z, nI_eqL, nI_leL, nI_ltL, nI_geL, nI_gtL, nI_leI, nI_ltI, nI_eq, nI_1, nI_addL, nI_add, hni, u2, e1, show nI 0 = 0 from rfl]
    · have hb : ∃ b, P i b ∧ C.testBit b = false := by
        obtain ⟨b, q⟩ := Nat.exists_testBit_of_ne_zero hz
        exact ⟨b, (e3 b).mp q⟩
      have hS2 : (S ||| 2 ^ i) < 2 ^ (i + 1) := Nat.or_lt_two_pow (Nat.lt_of_lt_of_le S1 (Nat.pow_le_pow_right (by decide) (by omega))) (Nat.pow_lt_pow_right (by decide) (by omega))
      refine ⟨(nI (S ||| 2 ^ i), nI (i + 1)), ⟨rfl, S ||| 2 ^ i, hS2, rfl, fun w => ?_⟩, ?_⟩
      · rw [Nat.testBit_or, Bool.or_eq_true, S2 w, Nat.testBit_two_pow, decide_eq_true_eq]
        constructor
        · rintro (⟨q1, q2⟩ | q)
          · exact ⟨by omega, q2⟩
          · subst q; exact ⟨by omega, hb⟩
        · rintro ⟨q1, q2⟩
          by_cases q : w = i
          · exact Or.inr q.symm
          · exact Or.inl ⟨by omega, q2⟩
      · have es : (1 : Int32) <<< (nI i &&& 31) = nI (2 ^ i) := shl_bit _ (by omega)
        have hz2 : ¬ nI (u &&& (C ^^^ (2 ^ 32 - 1))) = 0 := nI_ne0 (by omega) (by omega)
        generalize (u &&& (C ^^^ (2 ^ 32 - 1))) = z at e1 hz2
        simp +decide (disch := first | omega | decide) only [↓reduceIte, Option.bind_some, nI_clamp, inB_nI, inB_z, cl_z, nI_eqL, nI_leL, nI_ltL, nI_geL, nI_gtL, nI_leI, nI_ltI, nI_eq, nI_1, nI_addL, nI_add, hni, u2, e1, hz2, es, nI_or]
  · rintro ⟨a, b⟩ rec ⟨hb, S, S1, hS, S2⟩
    dsimp only at hS hb
    subst hb hS
    refine ⟨S, S1, ?_, S2⟩
    unfold g_RepairPlan_wordsWrongOutside_4
    simp +decide (disch := first | omega | decide) only [↓reduceIte, Option.bind_some, nI_clamp, inB_nI, inB_z, cl_z, nI_eqL, nI_leL, nI_ltL, nI_geL, nI_gtL, nI_leI, nI_ltI, nI_eq, nI_1, nI_addL, nI_add, Nat.le_refl]
  · rw [Nat.zero_testBit]
    exact ⟨fun q => (by cases q), fun q => by omega⟩
theorem r_columns (hW : W ≤ 16) (hB : B ≤ 4) (hg : ∀ x ∈ fl, goodF W B x) {mc : Int32} {mf : Nat → Int32} (h : FA mc mf fl) {S : Nat} (hS : S < 2 ^ 31) :
    ∃ C, C < 2 ^ B ∧ f_RF_columnsFor 1200 mc mf (nI S) = some (nI C) ∧ ∀ b, C.testBit b = true ↔ ∃ w, Pn fl (min fl.length 300) w b ∧ S.testBit w = false := by
  obtain ⟨rfl, hx⟩ := h
  have p2 := p4 hB
  unfold f_RF_columnsFor
  refine lp_Q (I := fun k (s : Int32 × Int32) => s.2 = nI k ∧ ∃ C, C < 2 ^ B ∧ s.1 = nI C ∧ ∀ b, C.testBit b = true ↔ ∃ w, Pn fl k w b ∧ S.testBit w = false) (min fl.length 300) (fun (r : Option Int32) => ∃ C, C < 2 ^ B ∧ r = some (nI C) ∧ ∀ b, C.testBit b = true ↔ ∃ w, Pn fl (min fl.length 300) w b ∧ S.testBit w = false) ?_ ?_ 100000 0 _ (by omega) (by omega) ⟨rfl, 0, Nat.two_pow_pos B, rfl, fun b => ?_⟩
  · rintro k ⟨a, b⟩ rec hk ⟨hb, C, C1, hC, C2⟩
    dsimp only at hC hb
    subst hb hC
    left
    obtain ⟨x, x1, x2, x3⟩ := fl_at hg hk
    obtain ⟨_, _, p2, p3⟩ := hx k x x1 x2
    obtain ⟨_, _, g3, g4, g5⟩ := x3
    have e1 : (4 : Int32) * nI k = nI (4 * k) := pk_mul 4 k
    have hnk : ¬ min fl.length 300 ≤ k := by omega
    have eb := bit_v hS (show x.2.2.1 < 32 by omega)
    unfold g_RF_columnsFor_4
    cases hSw : S.testBit x.2.2.1
    · rw [hSw] at eb
      refine ⟨(nI (C ||| x.2.2.2), nI (k + 1)), ⟨rfl, C ||| x.2.2.2, Nat.or_lt_two_pow C1 g5, rfl, fun b => ?_⟩, ?_⟩
      · rw [Nat.testBit_or, Bool.or_eq_true, C2 b]
        constructor
        · rintro (⟨w, q1, q2⟩ | q)
          · exact ⟨w, (Pn_s x1).mpr (Or.inl q1), q2⟩
          · exact ⟨_, (Pn_s x1).mpr (Or.inr ⟨rfl, q⟩), hSw⟩
        · rintro ⟨w, q1, q2⟩
          rcases (Pn_s x1).mp q1 with q | q
          · exact Or.inl ⟨w, q, q2⟩
          · exact Or.inr q.2
      · simp +decide (disch := first | omega | decide) only [↓reduceIte, Option.bind_some, nI_clamp, inB_nI, inB_z, cl_z, nI_eqL, nI_leL, nI_ltL, nI_geL, nI_gtL, nI_leI, nI_ltI, nI_eq, nI_1, nI_addL, nI_add, hnk, e1, p2, p3, eb, show b2 false = 0 from rfl, nI_or]
    · rw [hSw] at eb
      refine ⟨(nI C, nI (k + 1)), ⟨rfl, C, C1, rfl, fun b => ?_⟩, ?_⟩
      · rw [C2 b]
        constructor
        · rintro ⟨w, q1, q2⟩
          exact ⟨w, (Pn_s x1).mpr (Or.inl q1), q2⟩
        · rintro ⟨w, q1, q2⟩
          rcases (Pn_s x1).mp q1 with q | q
          · exact ⟨w, q, q2⟩
          · rw [← q.1, hSw] at q2; cases q2
      · simp +decide (disch := first | omega | decide) only [↓reduceIte, Option.bind_some, nI_clamp, inB_nI, inB_z, cl_z, nI_eqL, nI_leL, nI_ltL, nI_geL, nI_gtL, nI_leI, nI_ltI, nI_eq, nI_1, nI_addL, nI_add, hnk, e1, p2, p3, eb, show b2 true = 1 from rfl]
  · rintro ⟨a, b⟩ rec ⟨hb, C, C1, hC, C2⟩
    dsimp only at hC hb
    subst hb hC
    refine ⟨C, C1, ?_, C2⟩
    unfold g_RF_columnsFor_4
    simp +decide (disch := first | omega | decide) only [↓reduceIte, Option.bind_some, nI_clamp, inB_nI, inB_z, cl_z, nI_eqL, nI_leL, nI_ltL, nI_geL, nI_gtL, nI_leI, nI_ltI, nI_eq, nI_1, nI_addL, nI_add, Nat.le_refl]
  · rw [Nat.zero_testBit]
    exact ⟨fun q => (by cases q), fun ⟨w, q, _⟩ => absurd q Pn_0⟩
end REP
