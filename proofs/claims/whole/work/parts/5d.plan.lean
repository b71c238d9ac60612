theorem bit_v {t w : Nat} (ht : t < 2 ^ 31) (hw : w < 32) : (nI t >>> (nI w &&& 31)) &&& 1 = b2 (t.testBit w) := by
  rw [pk_shrN ht _ w (t_shift w hw), show (1 : Int32) = nI 1 from rfl, nI_and, Nat.and_one_is_mod, Nat.testBit_eq_decide_div_mod_eq]
  exact b2_par _
def planI (W B : Nat) (xp xr xc mr mc mp : Int32) : Prop := ∃ S C v, S < 2 ^ W ∧ C < 2 ^ B ∧ xr = nI S ∧ mr = nI S ∧ xc = nI C ∧ mc = nI C ∧ xp = b2 v ∧ mp = b2 v
def bl (W S C i : Nat) : Bool := if W ≤ i then C.testBit (i - W) else S.testBit i
theorem p16 {W : Nat} (hW : W ≤ 16) : 2 ^ W ≤ 65536 := Nat.pow_le_pow_right (by decide) hW
theorem p4 {B : Nat} (hB : B ≤ 4) : 2 ^ B ≤ 16 := Nat.pow_le_pow_right (by decide) hB
theorem m_blown {W B S C i : Nat} (hW : W ≤ 16) (hB : B ≤ 4) (hS : S < 2 ^ W) (hC : C < 2 ^ B) (hi : i < W + B) : f_RepairPlan_isBlown (nI W) (nI S) (nI C) (nI i) = some (b2 (bl W S C i)) := by
  have a1 := p16 hW
  have a2 := p4 hB
  have a3 : C * 2 ^ W < 2 ^ 20 := by
    have : C * 2 ^ W ≤ 15 * 65536 := Nat.mul_le_mul (by omega) a1
    omega
  have a4 : (S ||| C * 2 ^ W) < 2 ^ 20 := Nat.or_lt_two_pow (by omega) a3
  have a5 : (S ||| C * 2 ^ W).testBit i = bl W S C i := by
    rw [Nat.testBit_or, ← Nat.shiftLeft_eq, Nat.testBit_shiftLeft]
    unfold bl
    by_cases h : W ≤ i
    · rw [if_pos h, Nat.testBit_lt_two_pow (Nat.lt_of_lt_of_le hS (Nat.pow_le_pow_right (by decide) h))]
      simp [h]
    · rw [if_neg h]
      simp [h]
  unfold f_RepairPlan_isBlown
  rw [pk_shlN _ W (t_shift W (by omega)) (by omega), nI_or, bit_v (by omega) (by omega), a5]
  cases bl W S C i <;> rfl
theorem r_blown {W B S C i : Nat} (hW : W ≤ 16) (hB : B ≤ 4) (hS : S < 2 ^ W) (hC : C < 2 ^ B) (hi : i < W + B) : (if nI W ≤ nI i then (nI C >>> ((nI i - nI W) &&& 31)) &&& 1 else (nI S >>> (nI i &&& 31)) &&& 1) = b2 (bl W S C i) := by
  have a1 := p16 hW
  have a2 := p4 hB
  unfold bl
  rw [bit_v (t := S) (by omega) (by omega)]
  by_cases h : W ≤ i
  · rw [if_pos ((nI_leI (by omega) (by omega)).mpr h), if_pos h, pk_sub h, bit_v (by omega) (by omega)]
  · rw [if_neg (fun q => h ((nI_leI (by omega) (by omega)).mp q)), if_neg h]
theorem L_fuse {W B : Nat} (hW : W ≤ 16) (hB : B ≤ 4) {xp xr xc mr mc mp : Int32} (h : planI W B xp xr xc mr mc mp) {out : Nat → Int64} (x : Int32) :
    ∃ q1 q2, f_LW_fuse 1 (nI (W + B)) (nI W) xr xc out x = some q1 ∧ f_RF_fuse (nI W) (nI B) mr mc x = some q2 ∧ q2.2 = q1.1 ∧ (q1.1 = 0 → q1.2 0 = Int32.toInt64 q2.1) := by
  obtain ⟨S, C, v, hS, hC, rfl, rfl, rfl, rfl, rfl, rfl⟩ := h
  unfold f_LW_fuse f_MT_fuse f_RF_fuse f_RF_fuse_22 f_RF_fuse_23
  have bad : ∃ q1 q2, (some ((1 : Int32), out)) = some q1 ∧ (some ((0 : Int32), (1 : Int32))) = some q2 ∧ q2.2 = q1.1 ∧ (q1.1 = 0 → q1.2 0 = Int32.toInt64 q2.1) := ⟨_, _, rfl, rfl, rfl, fun q => absurd q nz1⟩
  by_cases x0 : x < 0
  · rw [if_pos x0, if_pos x0]; exact bad
  · obtain ⟨i, hi, rfl⟩ := nI_of x0
    by_cases x1 : i < W + B
    · have e1 := m_blown hW hB hS hC x1
      have e2 := r_blown hW hB hS hC x1
      refine ⟨(0, vp_updL out 0 (Int32.toInt64 (b2 (bl W S C i)))), (b2 (bl W S C i), 0), ?_, ?_, rfl, fun _ => (pk_uLs : vp_updL out 0 _ 0 = _)⟩
      · simp +decide (disch := first | omega | decide) only [↓reduceIte, Option.bind_some, nI_clamp, inB_nI, inB_z, cl_z, nI_eqL, nI_leL, nI_ltL, nI_geL, nI_gtL, nI_leI, nI_ltI, nI_eq, nI_1, nI_addL, nI_add, x0, x1, e1]
        cases bl W S C i <;> rfl
      · (have o_0 : ¬ W + B ≤ i := (by omega); simp +decide (disch := first | omega | decide) only [↓reduceIte, Option.bind_some, nI_clamp, inB_nI, inB_z, cl_z, nI_eqL, nI_leL, nI_ltL, nI_geL, nI_gtL, nI_leI, nI_ltI, nI_eq, nI_1, nI_addL, nI_add, x0, o_0])
        rw [← e2]
        by_cases h : W ≤ i
        · rw [if_pos h, if_pos ((nI_leI (by omega) (by omega)).mpr h)]
        · rw [if_neg h, if_neg (fun q => h ((nI_leI (by omega) (by omega)).mp q))]
    · (have o_0 : W + B ≤ i := (by omega); simp +decide (disch := first | omega | decide) only [↓reduceIte, Option.bind_some, nI_clamp, inB_nI, inB_z, cl_z, nI_eqL, nI_leL, nI_ltL, nI_geL, nI_gtL, nI_leI, nI_ltI, nI_eq, nI_1, nI_addL, nI_add, x0, x1, o_0, Sum.elim_inr])
      exact bad
def fd (f : Nat → Bool) (n : Nat) : Nat → Nat → Option Nat
  | 0, _ => none
  | r + 1, k => if f (n - (r + 1)) = true then (if k = 0 then some (n - (r + 1)) else fd f n r (k - 1)) else fd f n r k
theorem fd_step (f : Nat → Bool) {n i k : Nat} (h : i < n) : fd f n (n - i) k = if f i = true then (if k = 0 then some i else fd f n (n - (i + 1)) (k - 1)) else fd f n (n - (i + 1)) k := by
  obtain ⟨r, hr⟩ : ∃ r, n - i = r + 1 := ⟨n - i - 1, by omega⟩
  rw [hr, show n - (i + 1) = r by omega]
  show (if f (n - (r + 1)) = true then (if k = 0 then some (n - (r + 1)) else fd f n r (k - 1)) else fd f n r k) = _
  rw [show n - (r + 1) = i by omega]
theorem fd_lt (f : Nat → Bool) (n : Nat) : ∀ r k p, r ≤ n → fd f n r k = some p → p < n
  | 0, _, _, _, h => by cases h
  | r + 1, k, p, hr, h => by
    unfold fd at h
    split at h
    · split at h
      · cases h; omega
      · exact fd_lt f n r _ p (by omega) h
    · exact fd_lt f n r _ p (by omega) h
theorem fd_end (f : Nat → Bool) (n k : Nat) : fd f n (n - n) k = none := by rw [Nat.sub_self]; rfl
theorem m_spare {W B S C : Nat} (hW : W ≤ 16) (hB : B ≤ 4) (hS : S < 2 ^ W) (hC : C < 2 ^ B) {k : Nat} (hk : k < 2 ^ 31) :
    f_RepairPlan_fuseOfSpare (nI (W + B)) (nI W) (nI S) (nI C) (nI k) = some (match fd (bl W S C) (W + B) (W + B) k with | none => -1 | some p => nI p) := by
  unfold f_RepairPlan_fuseOfSpare
  refine lp_Q (I := fun i (s : Int32 × Int32) => s.2 = nI i ∧ ∃ j, j ≤ k ∧ s.1 = nI j ∧ fd (bl W S C) (W + B) (W + B - i) (k - j) = fd (bl W S C) (W + B) (W + B) k) (W + B) (fun (r : Option Int32) => r = some (match fd (bl W S C) (W + B) (W + B) k with | none => -1 | some p => nI p)) ?_ ?_ 100000 0 _ (by omega) (by omega) ⟨rfl, 0, by omega, rfl, rfl⟩
  · rintro i ⟨x, y⟩ rec hi ⟨hy, j, hj, hx, hf⟩
    dsimp only at hx hy
    subst hx hy
    have e1 := m_blown hW hB hS hC hi
    rw [fd_step _ hi] at hf
    have hni : ¬ W + B ≤ i := by omega
    unfold g_RepairPlan_fuseOfSpare_4
    cases hb : bl W S C i
    · left
      rw [hb] at e1 hf
      refine ⟨(nI j, nI (i + 1)), ⟨rfl, j, hj, rfl, by simpa using hf⟩, ?_⟩
      simp +decide (disch := first | omega | decide) only [↓reduceIte, Option.bind_some, nI_clamp, inB_nI, inB_z, cl_z, nI_eqL, nI_leL, nI_ltL, nI_geL, nI_gtL, nI_leI, nI_ltI, nI_eq, nI_1, nI_addL, nI_add, hni, e1, show b2 false = 0 from rfl]
    · rw [hb] at e1 hf
      by_cases hjk : j = k
      · right
        subst hjk
        rw [if_pos rfl, if_pos (by omega)] at hf
        rw [← hf]
        simp +decide (disch := first | omega | decide) only [↓reduceIte, Option.bind_some, nI_clamp, inB_nI, inB_z, cl_z, nI_eqL, nI_leL, nI_ltL, nI_geL, nI_gtL, nI_leI, nI_ltI, nI_eq, nI_1, nI_addL, nI_add, hni, e1, show b2 true = 1 from rfl]
      · left
        rw [if_pos rfl, if_neg (by omega)] at hf
        refine ⟨(nI (j + 1), nI (i + 1)), ⟨rfl, j + 1, by omega, rfl, hf⟩, ?_⟩
        simp +decide (disch := first | omega | decide) only [↓reduceIte, Option.bind_some, nI_clamp, inB_nI, inB_z, cl_z, nI_eqL, nI_leL, nI_ltL, nI_geL, nI_gtL, nI_leI, nI_ltI, nI_eq, nI_1, nI_addL, nI_add, hni, e1, show b2 true = 1 from rfl, hjk]
  · rintro ⟨x, y⟩ rec ⟨hy, j, hj, hx, hf⟩
    dsimp only at hx hy
    subst hx hy
    rw [fd_end] at hf
    rw [← hf]
    unfold g_RepairPlan_fuseOfSpare_4
    simp +decide (disch := first | omega | decide) only [↓reduceIte, Option.bind_some, nI_clamp, inB_nI, inB_z, cl_z, nI_eqL, nI_leL, nI_ltL, nI_geL, nI_gtL, nI_leI, nI_ltI, nI_eq, nI_1, nI_addL, nI_add, Nat.le_refl]
theorem m_spareN {W B S C : Nat} (hW : W ≤ 16) (hB : B ≤ 4) (hS : S < 2 ^ W) (hC : C < 2 ^ B) {x : Int32} (hx : x < 0) :
    f_RepairPlan_fuseOfSpare (nI (W + B)) (nI W) (nI S) (nI C) x = some (-1) := by
  unfold f_RepairPlan_fuseOfSpare
  refine lp_Q (I := fun i (s : Int32 × Int32) => s.2 = nI i ∧ ∃ j, j ≤ i ∧ s.1 = nI j) (W + B) (fun (r : Option Int32) => r = some (-1)) ?_ ?_ 100000 0 _ (by omega) (by omega) ⟨rfl, 0, by omega, rfl⟩
  · rintro i ⟨y, z⟩ rec hi ⟨hz, j, hj, hy⟩
    dsimp only at hy hz
    subst hy hz
    left
    have e1 := m_blown hW hB hS hC hi
    have hni : ¬ W + B ≤ i := by omega
    have hne : ¬ nI j = x := by
      intro q; subst q; exact nI_pos (by omega) hx
    unfold g_RepairPlan_fuseOfSpare_4
    cases hb : bl W S C i
    · rw [hb] at e1
      refine ⟨(nI j, nI (i + 1)), ⟨rfl, j, by omega, rfl⟩, ?_⟩
      simp +decide (disch := first | omega | decide) only [↓reduceIte, Option.bind_some, nI_clamp, inB_nI, inB_z, cl_z, nI_eqL, nI_leL, nI_ltL, nI_geL, nI_gtL, nI_leI, nI_ltI, nI_eq, nI_1, nI_addL, nI_add, hni, e1, show b2 false = 0 from rfl]
    · rw [hb] at e1
      refine ⟨(nI (j + 1), nI (i + 1)), ⟨rfl, j + 1, by omega, rfl⟩, ?_⟩
      simp +decide (disch := first | omega | decide) only [↓reduceIte, Option.bind_some, nI_clamp, inB_nI, inB_z, cl_z, nI_eqL, nI_leL, nI_ltL, nI_geL, nI_gtL, nI_leI, nI_ltI, nI_eq, nI_1, nI_addL, nI_add, hni, e1, show b2 true = 1 from rfl, hne]
  · rintro ⟨y, z⟩ rec ⟨hz, j, hj, hy⟩
    dsimp only at hy hz
    subst hy hz
    unfold g_RepairPlan_fuseOfSpare_4
    simp +decide (disch := first | omega | decide) only [↓reduceIte, Option.bind_some, nI_clamp, inB_nI, inB_z, cl_z, nI_eqL, nI_leL, nI_ltL, nI_geL, nI_gtL, nI_leI, nI_ltI, nI_eq, nI_1, nI_addL, nI_add, Nat.le_refl]
def spA (W what p : Nat) : Int32 := if what = 0 then (if W ≤ p then 1 else 0) else (if W ≤ p then nI (p - W) else nI p)
theorem r_look {W B S C : Nat} (hW : W ≤ 16) (hB : B ≤ 4) (hS : S < 2 ^ W) (hC : C < 2 ^ B) {x2 x3 : Int32} {i : Nat} (hi : i < W + B) (h3 : ¬ x3 < 0) (rec : (Int32 × Int32) → Option (Int32 × Int32)) :
    g_RF_spare_5 (nI W) (nI B) (nI S) (nI C) x2 rec (x3, nI i) = f_RF_spare_76 (nI W) (b2 (bl W S C i)) x2 x3 (nI i) rec := by
  have e2 := r_blown hW hB hS hC hi
  have hni : ¬ W + B ≤ i := by omega
  unfold g_RF_spare_5
  by_cases h : W ≤ i
  · rw [if_pos ((nI_leI (by omega) (by omega)).mpr h)] at e2
    simp +decide (disch := first | omega | decide) only [↓reduceIte, Option.bind_some, nI_clamp, inB_nI, inB_z, cl_z, nI_eqL, nI_leL, nI_ltL, nI_geL, nI_gtL, nI_leI, nI_ltI, nI_eq, nI_1, nI_addL, nI_add, hni, h3, h, e2]
    cases bl W S C i <;> rfl
  · rw [if_neg (fun q => h ((nI_leI (by omega) (by omega)).mp q))] at e2
    simp +decide (disch := first | omega | decide) only [↓reduceIte, Option.bind_some, nI_clamp, inB_nI, inB_z, cl_z, nI_eqL, nI_leL, nI_ltL, nI_geL, nI_gtL, nI_leI, nI_ltI, nI_eq, nI_1, nI_addL, nI_add, hni, h3, h, e2]
    cases bl W S C i <;> rfl
theorem r_spare {W B S C : Nat} (hW : W ≤ 16) (hB : B ≤ 4) (hS : S < 2 ^ W) (hC : C < 2 ^ B) {k what : Nat} (hk : k < 2 ^ 31) (hw : what < 2) :
    f_RF_spare (nI W) (nI B) (nI S) (nI C) (nI k) (nI what) = some (match fd (bl W S C) (W + B) (W + B) k with | none => (0, 1) | some p => (spA W what p, 0)) := by
  unfold f_RF_spare
  refine lp_Q (I := fun i (s : Int32 × Int32) => s.2 = nI i ∧ ∃ j, j < 2 ^ 31 ∧ s.1 = nI j ∧ fd (bl W S C) (W + B) (W + B - i) j = fd (bl W S C) (W + B) (W + B) k) (W + B) (fun (r : Option (Int32 × Int32)) => r = some (match fd (bl W S C) (W + B) (W + B) k with | none => (0, 1) | some p => (spA W what p, 0))) ?_ ?_ 100000 0 _ (by omega) (by omega) ⟨rfl, k, hk, rfl, rfl⟩
  · rintro i ⟨x, y⟩ rec hi ⟨hy, j, hj, hx, hf⟩
    dsimp only at hx hy
    subst hx hy
    rw [fd_step _ hi] at hf
    rw [r_look hW hB hS hC hi (nI_pos hj)]
    unfold f_RF_spare_76 f_RF_spare_144 f_RF_spare_96
    cases hb : bl W S C i
    · left
      rw [hb] at hf
      refine ⟨(nI j, nI (i + 1)), ⟨rfl, j, hj, rfl, by simpa using hf⟩, ?_⟩
      simp +decide (disch := first | omega | decide) only [↓reduceIte, Option.bind_some, nI_clamp, inB_nI, inB_z, cl_z, nI_eqL, nI_leL, nI_ltL, nI_geL, nI_gtL, nI_leI, nI_ltI, nI_eq, nI_1, nI_addL, nI_add, show b2 false = 0 from rfl]
    · rw [hb, if_pos rfl] at hf
      by_cases hj0 : j = 0
      · right
        subst hj0
        rw [if_pos rfl] at hf
        rw [← hf]
        unfold spA
        have : what = 0 ∨ what = 1 := by omega
        rcases this with rfl | rfl
        · by_cases h : W ≤ i
          · simp +decide (disch := first | omega | decide) only [↓reduceIte, Option.bind_some, nI_clamp, inB_nI, inB_z, cl_z, nI_eqL, nI_leL, nI_ltL, nI_geL, nI_gtL, nI_leI, nI_ltI, nI_eq, nI_1, nI_addL, nI_add, show b2 true = 1 from rfl, h]
          · simp +decide (disch := first | omega | decide) only [↓reduceIte, Option.bind_some, nI_clamp, inB_nI, inB_z, cl_z, nI_eqL, nI_leL, nI_ltL, nI_geL, nI_gtL, nI_leI, nI_ltI, nI_eq, nI_1, nI_addL, nI_add, show b2 true = 1 from rfl, h]
        · by_cases h : W ≤ i
          · simp +decide (disch := first | omega | decide) only [↓reduceIte, Option.bind_some, nI_clamp, inB_nI, inB_z, cl_z, nI_eqL, nI_leL, nI_ltL, nI_geL, nI_gtL, nI_leI, nI_ltI, nI_eq, nI_1, nI_addL, nI_add, show b2 true = 1 from rfl, h, pk_sub h]
          · simp +decide (disch := first | omega | decide) only [↓reduceIte, Option.bind_some, nI_clamp, inB_nI, inB_z, cl_z, nI_eqL, nI_leL, nI_ltL, nI_geL, nI_gtL, nI_leI, nI_ltI, nI_eq, nI_1, nI_addL, nI_add, show b2 true = 1 from rfl, h]
      · left
        rw [if_neg hj0] at hf
        refine ⟨(nI (j - 1), nI (i + 1)), ⟨rfl, j - 1, by omega, rfl, hf⟩, ?_⟩
        have e : nI j - 1 = nI (j - 1) := pk_sub (b := 1) (by omega)
        simp +decide (disch := first | omega | decide) only [↓reduceIte, Option.bind_some, nI_clamp, inB_nI, inB_z, cl_z, nI_eqL, nI_leL, nI_ltL, nI_geL, nI_gtL, nI_leI, nI_ltI, nI_eq, nI_1, nI_addL, nI_add, show b2 true = 1 from rfl, hj0, e]
  · rintro ⟨x, y⟩ rec ⟨hy, j, hj, hx, hf⟩
    dsimp only at hx hy
    subst hx hy
    rw [fd_end] at hf
    rw [← hf]
    unfold g_RF_spare_5
    simp +decide (disch := first | omega | decide) only [↓reduceIte, Option.bind_some, nI_clamp, inB_nI, inB_z, cl_z, nI_eqL, nI_leL, nI_ltL, nI_geL, nI_gtL, nI_leI, nI_ltI, nI_eq, nI_1, nI_addL, nI_add, Nat.le_refl]
theorem r_spareN {W B S C : Nat} (hW : W ≤ 16) (hB : B ≤ 4) (hS : S < 2 ^ W) (hC : C < 2 ^ B) {x y : Int32} (h : x < 0 ∨ (¬ y = 0 ∧ ¬ y = 1)) :
    f_RF_spare (nI W) (nI B) (nI S) (nI C) x y = some (0, 1) := by
  unfold f_RF_spare
  have e0 : ∀ i (z : Int32) rec, z < 0 → g_RF_spare_5 (nI W) (nI B) (nI S) (nI C) y rec (z, nI i) = some (0, 1) := by
    intro i z rec hz
    unfold g_RF_spare_5
    by_cases hc : nI W + nI B ≤ nI i
    · rw [if_pos hc]
    · rw [if_neg hc, if_pos hz]
  rcases h with h | ⟨h0, h1⟩
  · exact e0 0 x _ h
  · refine lp_Q (I := fun i (s : Int32 × Int32) => s.2 = nI i) (W + B) (fun (r : Option (Int32 × Int32)) => r = some (0, 1)) ?_ ?_ 100000 0 _ (by omega) (by omega) rfl
    · rintro i ⟨a, b⟩ rec hi hb
      dsimp only at hb
      subst hb
      by_cases ha : a < 0
      · exact Or.inr (e0 i a _ ha)
      · left
        rw [r_look hW hB hS hC hi ha]
        unfold f_RF_spare_76 f_RF_spare_144
        cases hb : bl W S C i
        · refine ⟨(a, nI (i + 1)), rfl, ?_⟩
          simp +decide (disch := first | omega | decide) only [↓reduceIte, Option.bind_some, nI_clamp, inB_nI, inB_z, cl_z, nI_eqL, nI_leL, nI_ltL, nI_geL, nI_gtL, nI_leI, nI_ltI, nI_eq, nI_1, nI_addL, nI_add, show b2 false = 0 from rfl]
        · refine ⟨(a - 1, nI (i + 1)), rfl, ?_⟩
          rw [if_neg (by decide), if_neg h0, if_neg h1]
          by_cases ha0 : a = 0
          · rw [if_pos ha0, if_neg (by decide), nI_1]
          · rw [if_neg ha0, if_neg (by decide), nI_1]
    · rintro ⟨a, b⟩ rec hb
      dsimp only at hb
      subst hb
      unfold g_RF_spare_5
      simp +decide (disch := first | omega | decide) only [↓reduceIte, Option.bind_some, nI_clamp, inB_nI, inB_z, cl_z, nI_eqL, nI_leL, nI_ltL, nI_geL, nI_gtL, nI_leI, nI_ltI, nI_eq, nI_1, nI_addL, nI_add, Nat.le_refl]
theorem L_spare {W B : Nat} (hW : W ≤ 16) (hB : B ≤ 4) {xp xr xc mr mc mp : Int32} (h : planI W B xp xr xc mr mc mp) {out : Nat → Int64} (x y : Int32) :
    ∃ q1 q2, f_LW_spare 1 (nI W) (nI (W + B)) (nI W) xr xc out x y = some q1 ∧ f_RF_spare (nI W) (nI B) mr mc x y = some q2 ∧ q2.2 = q1.1 ∧ (q1.1 = 0 → q1.2 0 = Int32.toInt64 q2.1) := by
  obtain ⟨S, C, v, hS, hC, rfl, rfl, rfl, rfl, rfl, rfl⟩ := h
  unfold f_LW_spare f_MT_spare f_MT_spare_19
  by_cases hy : ¬ y = 0 ∧ ¬ y = 1
  · rw [r_spareN hW hB hS hC (Or.inr hy), if_neg hy.1, if_neg hy.2]
    exact ⟨_, _, rfl, rfl, rfl, fun q => absurd q nz1⟩
  · have hy2 : ∃ what, what < 2 ∧ y = nI what := by
      by_cases h0 : y = 0
      · exact ⟨0, by decide, h0⟩
      · by_cases h1 : y = 1
        · exact ⟨1, by decide, h1⟩
        · exact absurd ⟨h0, h1⟩ hy
    obtain ⟨what, hw, rfl⟩ := hy2
    have hc : ∀ {α : Type} (t u : α), (if nI what = 0 then t else if nI what = 1 then t else u) = t := by
      intro α t u
      have : what = 0 ∨ what = 1 := by omega
      rcases this with rfl | rfl <;> rfl
    rw [hc]
    by_cases hx : x < 0
    · rw [r_spareN hW hB hS hC (Or.inl hx), m_spareN hW hB hS hC hx]
      exact ⟨_, _, rfl, rfl, rfl, fun q => absurd q nz1⟩
    · obtain ⟨k, hk, rfl⟩ := nI_of hx
      rw [r_spare hW hB hS hC hk hw, m_spare hW hB hS hC hk, Option.bind_some]
      cases hf : fd (bl W S C) (W + B) (W + B) k with
      | none => exact ⟨_, _, rfl, rfl, rfl, fun q => absurd q nz1⟩
      | some p =>
        have hp := fd_lt _ _ _ _ _ (Nat.le_refl _) hf
        refine ⟨(0, vp_updL out 0 (Int32.toInt64 (spA W what p))), _, ?_, rfl, rfl, fun _ => (pk_uLs : vp_updL out 0 _ 0 = _)⟩
        have hm : ¬ nI p = -1 := ne_m1 (by omega)
        dsimp only
        rw [if_neg hm]
        unfold f_MT_spare_56 spA
        have : what = 0 ∨ what = 1 := by omega
        rcases this with rfl | rfl
        · by_cases h : W ≤ p
          · (have o_0 : ¬ p < W := (by omega); simp +decide (disch := first | omega | decide) only [↓reduceIte, Option.bind_some, nI_clamp, inB_nI, inB_z, cl_z, nI_eqL, nI_leL, nI_ltL, nI_geL, nI_gtL, nI_leI, nI_ltI, nI_eq, nI_1, nI_addL, nI_add, h, o_0, Sum.elim_inl])
          · (have o_0 : p < W := (by omega); simp +decide (disch := first | omega | decide) only [↓reduceIte, Option.bind_some, nI_clamp, inB_nI, inB_z, cl_z, nI_eqL, nI_leL, nI_ltL, nI_geL, nI_gtL, nI_leI, nI_ltI, nI_eq, nI_1, nI_addL, nI_add, h, o_0, Sum.elim_inl])
        · by_cases h : W ≤ p
          · (have o_0 : ¬ p < W := (by omega); simp +decide (disch := first | omega | decide) only [↓reduceIte, Option.bind_some, nI_clamp, inB_nI, inB_z, cl_z, nI_eqL, nI_leL, nI_ltL, nI_geL, nI_gtL, nI_leI, nI_ltI, nI_eq, nI_1, nI_addL, nI_add, h, o_0, Sum.elim_inl, pk_sub h])
          · (have o_0 : p < W := (by omega); simp +decide (disch := first | omega | decide) only [↓reduceIte, Option.bind_some, nI_clamp, inB_nI, inB_z, cl_z, nI_eqL, nI_leL, nI_ltL, nI_geL, nI_gtL, nI_leI, nI_ltI, nI_eq, nI_1, nI_addL, nI_add, h, o_0, Sum.elim_inl])
theorem L_machine {xe xr : Int32} {xf xrows : Nat → Int32} {me : Int32} {ms mc mo : Nat → Int32} (h : marchI xe xr xf xrows me ms mc mo) {out : Nat → Int64} (x : Int32) :
    ∃ q1 q2, f_LW_machine 128 1 xe xr xrows out x = some q1 ∧ f_RF_machine 16 16 128 me ms mc mo x = some q2 ∧ q2.2 = q1.1 ∧ (q1.1 = 0 → q1.2 0 = Int32.toInt64 q2.1) := by
  obtain ⟨a, ha, ⟨rfl, rfl, hfr, hrow⟩, ⟨rfl, hel⟩⟩ := h
  have h16 := ha.1
  have hf8 := fr_le ha a.1 (Nat.le_refl _)
  unfold f_LW_machine f_MT_machine f_MT_hasMarch f_RF_machine f_RF_machine_13
  by_cases h0 : a.1 = 0
  · rw [h0]
    exact ⟨_, _, rfl, rfl, rfl, fun q => absurd q nz1⟩
  · have h0' : ¬ a.1 ≤ 0 := by omega
    by_cases x0 : x < 0
    · refine ⟨(2, out), (0, 2), ?_, ?_, rfl, fun q => absurd q nz2⟩
      · simp +decide (disch := first | omega | decide) only [↓reduceIte, Option.bind_some, nI_clamp, inB_nI, inB_z, cl_z, nI_eqL, nI_leL, nI_ltL, nI_geL, nI_gtL, nI_leI, nI_ltI, nI_eq, nI_1, nI_addL, nI_add, h0', x0, Sum.elim_inr]
      · simp +decide (disch := first | omega | decide) only [↓reduceIte, Option.bind_some, nI_clamp, inB_nI, inB_z, cl_z, nI_eqL, nI_leL, nI_ltL, nI_geL, nI_gtL, nI_leI, nI_ltI, nI_eq, nI_1, nI_addL, nI_add, h0]
        show g_RF_machine_29 16 16 128 0 (nI a.1) ms mc mo _ (x, 0) = _
        unfold g_RF_machine_29
        simp +decide (disch := first | omega | decide) only [↓reduceIte, Option.bind_some, nI_clamp, inB_nI, inB_z, cl_z, nI_eqL, nI_leL, nI_ltL, nI_geL, nI_gtL, nI_leI, nI_ltI, nI_eq, nI_1, nI_addL, nI_add, h0', x0]
    · obtain ⟨i, hi, rfl⟩ := nI_of x0
      have hr : f_RF_machine_13 16 16 128 (nI a.1) ms mc mo 0 (nI i) = some (if i < frA a a.1 then (xrows i, 0) else (0, 2)) := by
        unfold f_RF_machine_13
        rw [if_pos (by decide)]
        refine lp_Q (I := fun e (s : Int32 × Int32) => s.2 = nI e ∧ frA a e ≤ i ∧ s.1 = nI (i - frA a e)) a.1 (fun (r : Option (Int32 × Int32)) => r = some (if i < frA a a.1 then (xrows i, 0) else (0, 2))) ?_ ?_ 100000 0 _ (by omega) (by omega) ⟨rfl, Nat.zero_le _, rfl⟩
        · rintro e ⟨y, z⟩ rec he ⟨hz, hle, hy⟩
          dsimp only at hy hz
          subst hy hz
          obtain ⟨s1, s2, s3, s4⟩ := ha.2 e he
          obtain ⟨t1, t2, t3⟩ := hel e he
          obtain ⟨u1, u2⟩ := hrow e he
          have hmono : ∀ d, e < d → d ≤ a.1 → frA a (e + 1) ≤ frA a d := by
            intro d h1
            induction d with
            | zero => omega
            | succ d ih =>
              intro h2
              by_cases hd : e = d
              · subst hd; exact Nat.le_refl _
              · refine Nat.le_trans (ih (by omega) (by omega)) ?_
                show frA a d ≤ frA a d + _
                omega
          have hm := hmono a.1 he (Nat.le_refl _)
          have hfe : frA a (e + 1) = frA a e + (if a.2.1 e = 2 then 1 else a.2.2.1 e) := rfl
          have hne : ¬ a.1 ≤ e := by omega
          obtain ⟨k, hik⟩ : ∃ k, i = frA a e + k := ⟨i - frA a e, by omega⟩
          have e0 : i - frA a e = k := by omega
          have hk31 : k < 2 ^ 31 := by omega
          have np := nI_pos hk31
          rw [e0]
          unfold g_RF_machine_29 f_RF_machine_61 f_RF_machine_114
          by_cases q2 : a.2.1 e = 2
          · rw [if_pos q2] at hfe
            by_cases hk : 1 ≤ k
            · left
              refine ⟨(nI (i - frA a (e + 1)), nI (e + 1)), ⟨rfl, by omega, rfl⟩, ?_⟩
              have e3 : nI k - 1 = nI (i - frA a (e + 1)) := by rw [show i - frA a (e + 1) = k - 1 by omega]; exact pk_sub (b := 1) hk
              have hk1 : (1 : Int32) ≤ nI k := (nI_geL hk31 (by decide)).mpr hk
              simp +decide (disch := first | omega | decide) only [↓reduceIte, Option.bind_some, nI_clamp, inB_nI, inB_z, cl_z, nI_eqL, nI_leL, nI_ltL, nI_geL, nI_gtL, nI_leI, nI_ltI, nI_eq, nI_1, nI_addL, nI_add, hne, np, t1, q2, hk1, e3]
            · right
              have k0 : k = 0 := by omega
              rw [k0]
              rw [k0] at np
              have hlt : i < frA a a.1 := by omega
              rw [if_pos hlt, show i = frA a e by omega, u1 q2]
              have e8 : (8 : Int32) * nI e = nI (8 * e) := pk_mul 8 e
              simp +decide (disch := first | omega | decide) only [↓reduceIte, Option.bind_some, nI_clamp, inB_nI, inB_z, cl_z, nI_eqL, nI_leL, nI_ltL, nI_geL, nI_gtL, nI_leI, nI_ltI, nI_eq, nI_1, nI_addL, nI_add, hne, np, t1, q2, e8]
          · rw [if_neg q2] at hfe
            by_cases hk : a.2.2.1 e ≤ k
            · left
              refine ⟨(nI (i - frA a (e + 1)), nI (e + 1)), ⟨rfl, by omega, rfl⟩, ?_⟩
              have e3 : nI k - nI (a.2.2.1 e) = nI (i - frA a (e + 1)) := by rw [show i - frA a (e + 1) = k - a.2.2.1 e by omega]; exact pk_sub hk
              simp +decide (disch := first | omega | decide) only [↓reduceIte, Option.bind_some, nI_clamp, inB_nI, inB_z, cl_z, nI_eqL, nI_leL, nI_ltL, nI_geL, nI_gtL, nI_leI, nI_ltI, nI_eq, nI_1, nI_addL, nI_add, hne, np, t1, t2, q2, hk, e3]
            · right
              have hlt : i < frA a a.1 := by omega
              rw [if_pos hlt, hik, u2 q2 k (by omega)]
              have e8 : (8 : Int32) * nI e = nI (8 * e) := pk_mul 8 e
              have o4 := s4 k (by omega)
              have t3' := t3 k (by omega)
              have ec : nI (a.2.2.1 e) - 1 = nI (a.2.2.1 e - 1) := pk_sub (b := 1) (by omega)
              have er : nI (a.2.2.2 e k) - nI (a.2.2.2 e k) / 2 * 2 = nI (a.2.2.2 e k % 2) := pk_rem (d := 2) (by omega) (by decide) (by decide)
              have em : nI (a.2.2.2 e k % 2) * 4 = nI (a.2.2.2 e k % 2 * 4) := pk_mul _ 4
              unfold rowA
              by_cases ho : a.2.2.2 e k < 2
              · have ho' : ¬ 2 ≤ a.2.2.2 e k := by omega
                by_cases hl : k = a.2.2.1 e - 1
                · have hl' : (k + 1 = a.2.2.1 e) = True := eq_true (by omega)
                  have hl := eq_true hl
                  simp +decide (disch := first | omega | decide) only [↓reduceIte, Option.bind_some, nI_clamp, inB_nI, inB_z, cl_z, nI_eqL, nI_leL, nI_ltL, nI_geL, nI_gtL, nI_leI, nI_ltI, nI_eq, nI_1, nI_addL, nI_add, hne, np, t1, t2, q2, hk, e8, t3', ho, ho', ec, er, em, hl, hl', decide_true]
                · have hl' : ¬ k + 1 = a.2.2.1 e := by omega
                  simp +decide (disch := first | omega | decide) only [↓reduceIte, Option.bind_some, nI_clamp, inB_nI, inB_z, cl_z, nI_eqL, nI_leL, nI_ltL, nI_geL, nI_gtL, nI_leI, nI_ltI, nI_eq, nI_1, nI_addL, nI_add, hne, np, t1, t2, q2, hk, e8, t3', ho, ho', ec, er, em, hl, hl']
              · have ho' : 2 ≤ a.2.2.2 e k := by omega
                by_cases hl : k = a.2.2.1 e - 1
                · have hl' : (k + 1 = a.2.2.1 e) = True := eq_true (by omega)
                  have hl := eq_true hl
                  simp +decide (disch := first | omega | decide) only [↓reduceIte, Option.bind_some, nI_clamp, inB_nI, inB_z, cl_z, nI_eqL, nI_leL, nI_ltL, nI_geL, nI_gtL, nI_leI, nI_ltI, nI_eq, nI_1, nI_addL, nI_add, hne, np, t1, t2, q2, hk, e8, t3', ho, ho', ec, er, em, hl, hl', decide_true]
                · have hl' : ¬ k + 1 = a.2.2.1 e := by omega
                  simp +decide (disch := first | omega | decide) only [↓reduceIte, Option.bind_some, nI_clamp, inB_nI, inB_z, cl_z, nI_eqL, nI_leL, nI_ltL, nI_geL, nI_gtL, nI_leI, nI_ltI, nI_eq, nI_1, nI_addL, nI_add, hne, np, t1, t2, q2, hk, e8, t3', ho, ho', ec, er, em, hl, hl']
        · rintro ⟨y, z⟩ rec ⟨hz, hle, hy⟩
          dsimp only at hy hz
          subst hy hz
          rw [if_neg (by omega)]
          unfold g_RF_machine_29
          simp +decide (disch := first | omega | decide) only [↓reduceIte, Option.bind_some, nI_clamp, inB_nI, inB_z, cl_z, nI_eqL, nI_leL, nI_ltL, nI_geL, nI_gtL, nI_leI, nI_ltI, nI_eq, nI_1, nI_addL, nI_add, Nat.le_refl]
      unfold f_RF_machine_13 at hr
      by_cases x1 : i < frA a a.1
      · rw [if_pos x1] at hr
        refine ⟨(0, vp_updL out 0 (Int32.toInt64 (xrows i))), (xrows i, 0), ?_, ?_, rfl, fun _ => (pk_uLs : vp_updL out 0 _ 0 = _)⟩
        rotate_left
        · rw [if_neg (fun q => h0 ((nI_eqL (by omega) (by decide)).mp q))]
          exact hr
        · simp +decide (disch := first | omega | decide) only [↓reduceIte, Option.bind_some, nI_clamp, inB_nI, inB_z, cl_z, nI_eqL, nI_leL, nI_ltL, nI_geL, nI_gtL, nI_leI, nI_ltI, nI_eq, nI_1, nI_addL, nI_add, h0', x0, x1, Sum.elim_inl]
      · rw [if_neg x1] at hr
        refine ⟨(2, out), (0, 2), ?_, ?_, rfl, fun q => absurd q nz2⟩
        rotate_left
        · rw [if_neg (fun q => h0 ((nI_eqL (by omega) (by decide)).mp q))]
          exact hr
        · simp +decide (disch := first | omega | decide) only [↓reduceIte, Option.bind_some, nI_clamp, inB_nI, inB_z, cl_z, nI_eqL, nI_leL, nI_ltL, nI_geL, nI_gtL, nI_leI, nI_ltI, nI_eq, nI_1, nI_addL, nI_add, h0', x0, x1, Sum.elim_inr]
