def mb (b : Nat) (v : Bool) : Int32 := if v then nI (2 ^ b) else 0
theorem pow31 {b : Nat} (h : b < 4) : 2 ^ b < 2 ^ 31 ∧ 0 < 2 ^ b := ⟨Nat.pow_lt_pow_right (by decide) (by omega), Nat.two_pow_pos b⟩
theorem mb_0 {b : Nat} {v : Bool} (h : b < 4) : mb b v = 0 ↔ v = false := by
  cases v
  · exact ⟨fun _ => rfl, fun _ => rfl⟩
  · exact ⟨fun q => absurd q (nI_ne0 (pow31 h).2 (pow31 h).1), fun q => by cases q⟩
theorem mb_inj {b : Nat} {u v : Bool} (h : b < 4) : mb b u = mb b v ↔ u = v := by
  cases u <;> cases v
  · simp
  · exact ⟨fun q => absurd q.symm (nI_ne0 (pow31 h).2 (pow31 h).1), fun q => by cases q⟩
  · exact ⟨fun q => absurd q (nI_ne0 (pow31 h).2 (pow31 h).1), fun q => by cases q⟩
  · simp
theorem mb_n {b : Nat} {v : Bool} : mb b v ^^^ nI (2 ^ b) = mb b (!v) := by
  cases v
  · show nI 0 ^^^ nI (2 ^ b) = nI (2 ^ b)
    rw [nI_xor, Nat.zero_xor]
  · show nI (2 ^ b) ^^^ nI (2 ^ b) = nI 0
    rw [nI_xor, Nat.xor_self]
theorem mb_t {b : Nat} : mb b true = nI (2 ^ b) := rfl
theorem mb_f {b : Nat} : mb b false = 0 := rfl
theorem mb_and {x b : Nat} : nI x &&& nI (2 ^ b) = mb b (x.testBit b) := by
  rw [nI_and, and_pow]
  cases x.testBit b <;> rfl
theorem RH_mb {W B : Nat} {held : Nat → Int32} {M : Mem} (h : RH W B held M) {w b : Nat} (hw : w < W) (hb : b < B) : held w &&& nI (2 ^ b) = mb b (M w b) := by
  obtain ⟨x, hx, e, ht⟩ := h w hw
  rw [e, mb_and, ht b hb]
theorem pow_inj {a b : Nat} : 2 ^ a = 2 ^ b ↔ a = b := ⟨fun h => (Nat.pow_right_inj (by decide)).mp h, fun h => by rw [h]⟩
theorem t_shift : ∀ w, w < 32 → ((nI w &&& 31).toBitVec.smod 32).toNat = w := by decide +kernel
theorem bit_0 {t w : Nat} (ht : t < 2 ^ 31) (hw : w < 32) : ((nI t >>> (nI w &&& 31)) &&& 1 = 0) ↔ t.testBit w = false := by
  rw [pk_shrN ht _ w (t_shift w hw), show (1 : Int32) = nI 1 from rfl, nI_and, Nat.and_one_is_mod, Nat.testBit_eq_decide_div_mod_eq, decide_eq_false_iff_not]
  have h2 := Nat.mod_two_eq_zero_or_one (t / 2 ^ w)
  rw [show (0 : Int32) = nI 0 from rfl, nI_eq (by omega) (by decide)]
  omega
section MTS
variable {W B : Nat} {F : FL} {cnt touched : Int32} {kinds vW vM oW oM : Nat → Int32}
theorem m_isVictim (hW : W ≤ 16) (hB : B ≤ 4) (hF : FLok W B F) (hX : FX F cnt touched kinds vW vM oW oM) {f w b : Nat} (hf : f < F.n) (hw : w < W) (hb : b < B) : f_FaultList_isVictim 4 4 vW vM (nI f) (nI w) (nI (2 ^ b)) = some (b2 (decide (F.vw f = w ∧ F.vb f = b))) := by
  obtain ⟨k1, k2, k3, k4⟩ := hF.2 f hf
  obtain ⟨m1, m2, m3, m4, m5⟩ := hX.2.1 f hf
  have hn := hF.1
  have p1 := pow31 (b := F.vb f) (by omega)
  have p2 := pow31 (b := b) (by omega)
  unfold f_FaultList_isVictim
  by_cases h1 : F.vw f = w
  · by_cases h2 : F.vb f = b
    · simp +decide (disch := first | omega | decide) only [↓reduceIte, Option.bind_some, nI_clamp, inB_nI, inB_z, cl_z, nI_eqL, nI_leL, nI_ltL, nI_geL, nI_gtL, nI_leI, nI_ltI, nI_eq, nI_1, nI_addL, nI_add, m2, m3, h1, h2, pow_inj, and_self, decide_true]
    · simp +decide (disch := first | omega | decide) only [↓reduceIte, Option.bind_some, nI_clamp, inB_nI, inB_z, cl_z, nI_eqL, nI_leL, nI_ltL, nI_geL, nI_gtL, nI_leI, nI_ltI, nI_eq, nI_1, nI_addL, nI_add, m2, m3, h1, h2, pow_inj, and_false, decide_false]
  · simp +decide (disch := first | omega | decide) only [↓reduceIte, Option.bind_some, nI_clamp, inB_nI, inB_z, cl_z, nI_eqL, nI_leL, nI_ltL, nI_geL, nI_gtL, nI_leI, nI_ltI, nI_eq, nI_1, nI_addL, nI_add, m2, m3, h1, false_and, decide_false]
theorem m_isOther (hW : W ≤ 16) (hB : B ≤ 4) (hF : FLok W B F) (hX : FX F cnt touched kinds vW vM oW oM) {f w b : Nat} (hf : f < F.n) (hw : w < W) (hb : b < B) : f_FaultList_isOther 4 4 oW oM (nI f) (nI w) (nI (2 ^ b)) = some (b2 (decide (10 ≤ F.kd f ∧ F.aw f = w ∧ F.ab f = b))) := by
  obtain ⟨k1, k2, k3, k4⟩ := hF.2 f hf
  obtain ⟨m1, m2, m3, m4, m5⟩ := hX.2.1 f hf
  have hn := hF.1
  have p2 := pow31 (b := b) (by omega)
  unfold f_FaultList_isOther
  by_cases hp : 10 ≤ F.kd f
  · obtain ⟨a1, a2, a3⟩ := k4 hp
    have p1 := pow31 (b := F.ab f) (by omega)
    rw [if_pos hp] at m4 m5
    by_cases h1 : F.aw f = w
    · by_cases h2 : F.ab f = b
      · simp +decide (disch := first | omega | decide) only [↓reduceIte, Option.bind_some, nI_clamp, inB_nI, inB_z, cl_z, nI_eqL, nI_leL, nI_ltL, nI_geL, nI_gtL, nI_leI, nI_ltI, nI_eq, nI_1, nI_addL, nI_add, m4, m5, h1, h2, hp, pow_inj, and_self, decide_true]
      · simp +decide (disch := first | omega | decide) only [↓reduceIte, Option.bind_some, nI_clamp, inB_nI, inB_z, cl_z, nI_eqL, nI_leL, nI_ltL, nI_geL, nI_gtL, nI_leI, nI_ltI, nI_eq, nI_1, nI_addL, nI_add, m4, m5, h1, h2, hp, pow_inj, and_false, decide_false]
    · simp +decide (disch := first | omega | decide) only [↓reduceIte, Option.bind_some, nI_clamp, inB_nI, inB_z, cl_z, nI_eqL, nI_leL, nI_ltL, nI_geL, nI_gtL, nI_leI, nI_ltI, nI_eq, nI_1, nI_addL, nI_add, m4, m5, h1, false_and, and_false, decide_false]
  · rw [if_neg hp] at m4 m5
    have hne : ((0 : Int32) = nI (2 ^ b)) = False := eq_false (fun q => nI_ne0 p2.2 p2.1 q.symm)
    by_cases h1 : F.vw f = w
    · simp +decide (disch := first | omega | decide) only [↓reduceIte, Option.bind_some, nI_clamp, inB_nI, inB_z, cl_z, nI_eqL, nI_leL, nI_ltL, nI_geL, nI_gtL, nI_leI, nI_ltI, nI_eq, nI_1, nI_addL, nI_add, m4, m5, h1, hp, hne, false_and, decide_false]
    · simp +decide (disch := first | omega | decide) only [↓reduceIte, Option.bind_some, nI_clamp, inB_nI, inB_z, cl_z, nI_eqL, nI_leL, nI_ltL, nI_geL, nI_gtL, nI_leI, nI_ltI, nI_eq, nI_1, nI_addL, nI_add, m4, m5, h1, hp, false_and, decide_false]
theorem m_touches (hX : FX F cnt touched kinds vW vM oW oM) {w : Nat} (hw : w < 16) : (f_FaultList_touches touched (nI w) = some 0 ∧ ∀ f, f < F.n → F.vw f ≠ w ∧ (10 ≤ F.kd f → F.aw f ≠ w)) ∨ f_FaultList_touches touched (nI w) = some 1 := by
  obtain ⟨-, -, t, ht, rfl, hb⟩ := hX
  unfold f_FaultList_touches
  by_cases h : t.testBit w = false
  · left
    rw [if_pos ((bit_0 (by omega) (by omega)).mpr h)]
    refine ⟨rfl, fun f hf => ⟨fun q => ?_, fun hp q => ?_⟩⟩
    · have := (hb w hw).mpr ⟨f, hf, Or.inl q⟩; rw [h] at this; cases this
    · have := (hb w hw).mpr ⟨f, hf, Or.inr ⟨hp, q⟩⟩; rw [h] at this; cases this
  · right
    rw [if_neg (fun q => h ((bit_0 (by omega) (by omega)).mp q))]
set_option maxHeartbeats 4000000 in
theorem m_settle (hW : W ≤ 16) (hB : B ≤ 4) (hF : FLok W B F) (hX : FX F cnt touched kinds vW vM oW oM) {held : Nat → Int32} {M : Mem} (hR : RH W B held M) : ∃ held', f_Memory_settle 4 4 4 W 4 4 cnt vW vM kinds held oW oM = some held' ∧ RH W B held' (behindN F M F.n) := by
  obtain ⟨hn, hf⟩ := hF
  obtain ⟨rfl, hm, -⟩ := hX
  unfold f_Memory_settle
  refine lp_Q (I := fun i s => s.2 = nI i ∧ RH W B s.1 (behindN F M i)) F.n (fun r => ∃ held', r = some held' ∧ RH W B held' (behindN F M F.n)) ?_ ?_ 100000 0 _ (by omega) (by omega) ⟨rfl, hR⟩
  · rintro i ⟨c, x⟩ rec hi ⟨hx, hc⟩
    dsimp only at hx hc
    subst hx
    obtain ⟨k1, k2, k3, k4⟩ := hf i hi
    obtain ⟨m1, m2, m3, m4, m5⟩ := hm i hi
    have hni := Nat.not_le.mpr hi
    left
    unfold g_Memory_settle_2
    by_cases h0 : F.kd i = 0
    · refine ⟨(upd c (F.vw i) (c (F.vw i) &&& (nI (2 ^ F.vb i) ^^^ (-1))), nI (i + 1)), ⟨rfl, ?_⟩, ?_⟩
      rotate_left
      · simp +decide (disch := first | omega | decide) only [↓reduceIte, Option.bind_some, nI_clamp, inB_nI, inB_z, cl_z, nI_eqL, nI_leL, nI_ltL, nI_geL, nI_gtL, nI_leI, nI_ltI, nI_eq, nI_1, nI_addL, nI_add, m1, m2, m3, h0, hni]
      · show RH W B _ (behind1 F i _)
        unfold behind1
        rw [if_pos h0]
        exact RH_off hc k2 k3 hB
    · by_cases h1 : F.kd i = 1
      · refine ⟨(upd c (F.vw i) (c (F.vw i) ||| nI (2 ^ F.vb i)), nI (i + 1)), ⟨rfl, ?_⟩, ?_⟩
        rotate_left
        · simp +decide (disch := first | omega | decide) only [↓reduceIte, Option.bind_some, nI_clamp, inB_nI, inB_z, cl_z, nI_eqL, nI_leL, nI_ltL, nI_geL, nI_gtL, nI_leI, nI_ltI, nI_eq, nI_1, nI_addL, nI_add, m1, m2, m3, h1, hni]
        · show RH W B _ (behind1 F i _)
          unfold behind1
          rw [if_neg h0, if_pos h1]
          exact RH_on hc k2 k3
      · by_cases h2 : F.kd i = 12
        · obtain ⟨a1, a2, a3⟩ := k4 (by omega)
          rw [if_pos (by omega)] at m4 m5
          have hca := RH_mb hc a1 a2
          cases hz : behindN F M i (F.aw i) (F.ab i)
          · refine ⟨(c, nI (i + 1)), ⟨rfl, ?_⟩, ?_⟩
            · show RH W B _ (behind1 F i _)
              unfold behind1
              rw [if_neg h0, if_neg h1, if_neg (by rw [hz]; simp)]
              exact hc
            · simp +decide (disch := first | omega | decide) only [↓reduceIte, Option.bind_some, nI_clamp, inB_nI, inB_z, cl_z, nI_eqL, nI_leL, nI_ltL, nI_geL, nI_gtL, nI_leI, nI_ltI, nI_eq, nI_1, nI_addL, nI_add, m1, m2, m3, m4, m5, h2, hca, hz, hni, mb_0]
          · refine ⟨(upd c (F.vw i) (c (F.vw i) &&& (nI (2 ^ F.vb i) ^^^ (-1))), nI (i + 1)), ⟨rfl, ?_⟩, ?_⟩
            rotate_left
            · simp +decide (disch := first | omega | decide) only [↓reduceIte, Option.bind_some, nI_clamp, inB_nI, inB_z, cl_z, nI_eqL, nI_leL, nI_ltL, nI_geL, nI_gtL, nI_leI, nI_ltI, nI_eq, nI_1, nI_addL, nI_add, m1, m2, m3, m4, m5, h2, hca, hz, hni, mb_0, Bool.true_eq_false]
            · show RH W B _ (behind1 F i _)
              unfold behind1
              rw [if_neg h0, if_neg h1, if_pos ⟨h2, hz⟩]
              exact RH_off hc k2 k3 hB
        · refine ⟨(c, nI (i + 1)), ⟨rfl, ?_⟩, ?_⟩
          · show RH W B _ (behind1 F i _)
            unfold behind1
            rw [if_neg h0, if_neg h1, if_neg (fun q => h2 q.1)]
            exact hc
          · simp +decide (disch := first | omega | decide) only [↓reduceIte, Option.bind_some, nI_clamp, inB_nI, inB_z, cl_z, nI_eqL, nI_leL, nI_ltL, nI_geL, nI_gtL, nI_leI, nI_ltI, nI_eq, nI_1, nI_addL, nI_add, m1, h0, h1, h2, hni]
  · rintro ⟨c, x⟩ rec ⟨hx, hc⟩
    dsimp only at hx hc
    subst hx
    refine ⟨c, ?_, hc⟩
    unfold g_Memory_settle_2
    simp +decide (disch := first | omega | decide) only [↓reduceIte, Option.bind_some, nI_clamp, inB_nI, inB_z, cl_z, nI_eqL, nI_leL, nI_ltL, nI_geL, nI_gtL, nI_leI, nI_ltI, nI_eq, nI_1, nI_addL, nI_add, Nat.le_refl]
set_option maxHeartbeats 4000000 in
theorem m_setCell (hW : W ≤ 16) (hB : B ≤ 4) (hF : FLok W B F) (hX : FX F cnt touched kinds vW vM oW oM) {held : Nat → Int32} {M : Mem} (hR : RH W B held M) {w b : Nat} (hw : w < W) (hb : b < B) (v : Bool) : ∃ held', f_Memory_setCell W 4 4 4 4 4 held cnt kinds oW oM vW vM (nI w) (nI (2 ^ b)) (mb b v) = some held' ∧ RH W B held' (setM F w b v M) := by
  have hF' := hF
  have hX' := hX
  obtain ⟨hn, hf⟩ := hF
  obtain ⟨rfl, hm, -⟩ := hX
  have hcw := RH_mb hR hw hb
  unfold f_Memory_setCell setM
  by_cases hv : M w b = v
  · refine ⟨held, ?_, by rw [if_pos hv]; exact hR⟩
    simp +decide (disch := first | omega | decide) only [↓reduceIte, Option.bind_some, nI_clamp, inB_nI, inB_z, cl_z, nI_eqL, nI_leL, nI_ltL, nI_geL, nI_gtL, nI_leI, nI_ltI, nI_eq, nI_1, nI_addL, nI_add, hcw, hv]
  · have key : ∀ kk : Nat, kk = (if v then 10 else 11) → ∃ held', lp (g_Memory_setCell_39 W 4 4 4 4 4 (nI F.n) kinds oW oM vW vM (nI w) (nI (2 ^ b)) (nI kk)) 100000 (upd held w (held w ^^^ nI (2 ^ b)), 0) = some held' ∧ RH W B held' (setN F w b v M F.n) := by
      intro kk hkk
      have h0 : RH W B (upd held w (held w ^^^ nI (2 ^ b))) (setN F w b v M 0) := by
        have := RH_flip hR hw hb
        rw [show (!M w b) = v by cases v <;> cases hq : M w b <;> simp_all] at this
        exact this
      refine lp_Q (I := fun i s => s.2 = nI i ∧ RH W B s.1 (setN F w b v M i)) F.n (fun r => ∃ held', r = some held' ∧ RH W B held' (setN F w b v M F.n)) ?_ ?_ 100000 0 _ (by omega) (by omega) ⟨rfl, h0⟩
      · rintro i ⟨c, x⟩ rec hi ⟨hx, hc⟩
        dsimp only at hx hc
        subst hx
        obtain ⟨k1, k2, k3, k4⟩ := hf i hi
        obtain ⟨m1, m2, m3, m4, m5⟩ := hm i hi
        have hni := Nat.not_le.mpr hi
        have hkl : kk < 12 := by rw [hkk]; cases v <;> decide
        left
        unfold g_Memory_setCell_39
        rw [m_isOther hW hB hF' hX' hi hw hb]
        by_cases hk : F.kd i = kk
        · have hp : 10 ≤ F.kd i := by rw [hk, hkk]; cases v <;> decide
          by_cases he : F.aw i = w ∧ F.ab i = b
          · refine ⟨(upd c (F.vw i) (c (F.vw i) ^^^ nI (2 ^ F.vb i)), nI (i + 1)), ⟨rfl, ?_⟩, ?_⟩
            rotate_left
            · rw [decide_eq_true (⟨hp, he⟩ : 10 ≤ F.kd i ∧ F.aw i = w ∧ F.ab i = b)]
              simp +decide (disch := first | omega | decide) only [↓reduceIte, Option.bind_some, nI_clamp, inB_nI, inB_z, cl_z, nI_eqL, nI_leL, nI_ltL, nI_geL, nI_gtL, nI_leI, nI_ltI, nI_eq, nI_1, nI_addL, nI_add, m1, m2, m3, hk, hni, b2_0, Bool.true_eq_false]
            · show RH W B _ (set1 F w b v i _)
              unfold set1
              rw [if_pos ⟨by rw [hk, hkk], he⟩]
              exact RH_flip hc k2 k3
          · refine ⟨(c, nI (i + 1)), ⟨rfl, ?_⟩, ?_⟩
            · show RH W B _ (set1 F w b v i _)
              unfold set1
              rw [if_neg (fun q => he q.2)]
              exact hc
            · rw [decide_eq_false (fun q => he q.2 : ¬ (10 ≤ F.kd i ∧ F.aw i = w ∧ F.ab i = b))]
              simp +decide (disch := first | omega | decide) only [↓reduceIte, Option.bind_some, nI_clamp, inB_nI, inB_z, cl_z, nI_eqL, nI_leL, nI_ltL, nI_geL, nI_gtL, nI_leI, nI_ltI, nI_eq, nI_1, nI_addL, nI_add, m1, hk, hni, b2_0]
        · refine ⟨(c, nI (i + 1)), ⟨rfl, ?_⟩, ?_⟩
          · show RH W B _ (set1 F w b v i _)
            unfold set1
            rw [if_neg (fun q => hk (by rw [q.1, hkk]))]
            exact hc
          · simp +decide (disch := first | omega | decide) only [↓reduceIte, Option.bind_some, nI_clamp, inB_nI, inB_z, cl_z, nI_eqL, nI_leL, nI_ltL, nI_geL, nI_gtL, nI_leI, nI_ltI, nI_eq, nI_1, nI_addL, nI_add, m1, hk, hni]
      · rintro ⟨c, x⟩ rec ⟨hx, hc⟩
        dsimp only at hx hc
        subst hx
        refine ⟨c, ?_, hc⟩
        unfold g_Memory_setCell_39
        simp +decide (disch := first | omega | decide) only [↓reduceIte, Option.bind_some, nI_clamp, inB_nI, inB_z, cl_z, nI_eqL, nI_leL, nI_ltL, nI_geL, nI_gtL, nI_leI, nI_ltI, nI_eq, nI_1, nI_addL, nI_add, Nat.le_refl]
    rw [if_neg hv]
    cases v
    · obtain ⟨h', e1, e2⟩ := key 11 rfl
      refine ⟨h', ?_, e2⟩
      rw [← e1]
      simp +decide (disch := first | omega | decide) only [↓reduceIte, Option.bind_some, nI_clamp, inB_nI, inB_z, cl_z, nI_eqL, nI_leL, nI_ltL, nI_geL, nI_gtL, nI_leI, nI_ltI, nI_eq, nI_1, nI_addL, nI_add, hcw, mb_inj, hv, mb_0]
      rfl
    · obtain ⟨h', e1, e2⟩ := key 10 rfl
      refine ⟨h', ?_, e2⟩
      rw [← e1]
      simp +decide (disch := first | omega | decide) only [↓reduceIte, Option.bind_some, nI_clamp, inB_nI, inB_z, cl_z, nI_eqL, nI_leL, nI_ltL, nI_geL, nI_gtL, nI_leI, nI_ltI, nI_eq, nI_1, nI_addL, nI_add, hcw, mb_inj, hv, mb_0, Bool.true_eq_false]
      rfl
end MTS
